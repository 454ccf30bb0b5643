section
-- ===== PART A: goes FIRST, ahead of the names: the tables' words, and 'selects' of the private methods out of them =====
/-- a private method of a class that the tables say can be made, by its rows of tables_1 -/
def lw_okq (q : MethodName × Nat) : Prop := (q.1.cls ≠ "java/lang/invoke/MethodHandle" ∧ q.1.cls ≠ "java/lang/invoke/VarHandle") ∧ Cond.instantiable q.1.cls q.2 ∈ tables_1 ∧ Cond.privateMethod q.1 ∈ tables_1 ∧ Cond.instanceMethod q.1 ∈ tables_1
theorem lw_p0 : lw_okq (⟨"DatedJars$Reader", "skipBlanks", "()V"⟩, 6) := ⟨⟨by decide +kernel, by decide +kernel⟩, List.mem_of_getElem? (i := 135) (by decide +kernel), List.mem_of_getElem? (i := 322) (by decide +kernel), List.mem_of_getElem? (i := 323) (by decide +kernel)⟩
theorem lw_p1 : lw_okq (⟨"DatedJars$Reader", "readClause", "(LDatedJars$Land;)V"⟩, 6) := ⟨⟨by decide +kernel, by decide +kernel⟩, List.mem_of_getElem? (i := 135) (by decide +kernel), List.mem_of_getElem? (i := 326) (by decide +kernel), List.mem_of_getElem? (i := 327) (by decide +kernel)⟩
theorem lw_p2 : lw_okq (⟨"DatedJars$Reader", "skipLetters", "()V"⟩, 6) := ⟨⟨by decide +kernel, by decide +kernel⟩, List.mem_of_getElem? (i := 135) (by decide +kernel), List.mem_of_getElem? (i := 330) (by decide +kernel), List.mem_of_getElem? (i := 331) (by decide +kernel)⟩
theorem lw_p3 : lw_okq (⟨"DatedJars$Reader", "wordIs", "(ILjava/lang/String;)Z"⟩, 6) := ⟨⟨by decide +kernel, by decide +kernel⟩, List.mem_of_getElem? (i := 135) (by decide +kernel), List.mem_of_getElem? (i := 335) (by decide +kernel), List.mem_of_getElem? (i := 336) (by decide +kernel)⟩
theorem lw_p4 : lw_okq (⟨"DatedJars$Reader", "readHarvest", "(ILDatedJars$Land;)V"⟩, 6) := ⟨⟨by decide +kernel, by decide +kernel⟩, List.mem_of_getElem? (i := 135) (by decide +kernel), List.mem_of_getElem? (i := 387) (by decide +kernel), List.mem_of_getElem? (i := 388) (by decide +kernel)⟩
theorem lw_p5 : lw_okq (⟨"DatedJars$Reader", "fail", "(II)V"⟩, 6) := ⟨⟨by decide +kernel, by decide +kernel⟩, List.mem_of_getElem? (i := 135) (by decide +kernel), List.mem_of_getElem? (i := 391) (by decide +kernel), List.mem_of_getElem? (i := 392) (by decide +kernel)⟩
theorem lw_p6 : lw_okq (⟨"DatedJars$Reader", "readNumber", "(II)I"⟩, 6) := ⟨⟨by decide +kernel, by decide +kernel⟩, List.mem_of_getElem? (i := 135) (by decide +kernel), List.mem_of_getElem? (i := 395) (by decide +kernel), List.mem_of_getElem? (i := 396) (by decide +kernel)⟩
theorem lw_p7 : lw_okq (⟨"DatedJars$Reader", "nextIs", "(C)Z"⟩, 6) := ⟨⟨by decide +kernel, by decide +kernel⟩, List.mem_of_getElem? (i := 135) (by decide +kernel), List.mem_of_getElem? (i := 403) (by decide +kernel), List.mem_of_getElem? (i := 404) (by decide +kernel)⟩
theorem lw_p8 : lw_okq (⟨"DatedJars$Reader", "readEnd", "()V"⟩, 6) := ⟨⟨by decide +kernel, by decide +kernel⟩, List.mem_of_getElem? (i := 135) (by decide +kernel), List.mem_of_getElem? (i := 407) (by decide +kernel), List.mem_of_getElem? (i := 408) (by decide +kernel)⟩
theorem lw_p9 : lw_okq (⟨"DatedJars$Reader", "readHouse", "(ILDatedJars$Land;)V"⟩, 6) := ⟨⟨by decide +kernel, by decide +kernel⟩, List.mem_of_getElem? (i := 135) (by decide +kernel), List.mem_of_getElem? (i := 412) (by decide +kernel), List.mem_of_getElem? (i := 413) (by decide +kernel)⟩
theorem lw_p10 : lw_okq (⟨"DatedJars$Reader", "readJar", "(ILDatedJars$Land;)V"⟩, 6) := ⟨⟨by decide +kernel, by decide +kernel⟩, List.mem_of_getElem? (i := 135) (by decide +kernel), List.mem_of_getElem? (i := 421) (by decide +kernel), List.mem_of_getElem? (i := 422) (by decide +kernel)⟩
theorem lw_p11 : lw_okq (⟨"DatedJars$Reader", "readKind", "()I"⟩, 6) := ⟨⟨by decide +kernel, by decide +kernel⟩, List.mem_of_getElem? (i := 135) (by decide +kernel), List.mem_of_getElem? (i := 425) (by decide +kernel), List.mem_of_getElem? (i := 426) (by decide +kernel)⟩
theorem lw_p12 : lw_okq (⟨"DatedJars$Land", "burstJars", "()V"⟩, 12) := ⟨⟨by decide +kernel, by decide +kernel⟩, List.mem_of_getElem? (i := 26) (by decide +kernel), List.mem_of_getElem? (i := 548) (by decide +kernel), List.mem_of_getElem? (i := 549) (by decide +kernel)⟩
theorem lw_p13 : lw_okq (⟨"DatedJars$Land", "feedHouse", "(II)I"⟩, 12) := ⟨⟨by decide +kernel, by decide +kernel⟩, List.mem_of_getElem? (i := 26) (by decide +kernel), List.mem_of_getElem? (i := 563) (by decide +kernel), List.mem_of_getElem? (i := 564) (by decide +kernel)⟩
theorem lw_p14 : lw_okq (⟨"DatedJars$Planner", "lookAtYear", "(LDatedJars$Land;II)V"⟩, 8) := ⟨⟨by decide +kernel, by decide +kernel⟩, List.mem_of_getElem? (i := 165) (by decide +kernel), List.mem_of_getElem? (i := 596) (by decide +kernel), List.mem_of_getElem? (i := 597) (by decide +kernel)⟩
theorem lw_p15 : lw_okq (⟨"DatedJars$Planner", "leastHunger", "([II)I"⟩, 8) := ⟨⟨by decide +kernel, by decide +kernel⟩, List.mem_of_getElem? (i := 165) (by decide +kernel), List.mem_of_getElem? (i := 603) (by decide +kernel), List.mem_of_getElem? (i := 604) (by decide +kernel)⟩
def lw_privs_1 : List (MethodName × Nat) := [(⟨"DatedJars$Reader", "skipBlanks", "()V"⟩, 6), (⟨"DatedJars$Reader", "readClause", "(LDatedJars$Land;)V"⟩, 6), (⟨"DatedJars$Reader", "skipLetters", "()V"⟩, 6), (⟨"DatedJars$Reader", "wordIs", "(ILjava/lang/String;)Z"⟩, 6), (⟨"DatedJars$Reader", "readHarvest", "(ILDatedJars$Land;)V"⟩, 6), (⟨"DatedJars$Reader", "fail", "(II)V"⟩, 6), (⟨"DatedJars$Reader", "readNumber", "(II)I"⟩, 6), (⟨"DatedJars$Reader", "nextIs", "(C)Z"⟩, 6), (⟨"DatedJars$Reader", "readEnd", "()V"⟩, 6), (⟨"DatedJars$Reader", "readHouse", "(ILDatedJars$Land;)V"⟩, 6), (⟨"DatedJars$Reader", "readJar", "(ILDatedJars$Land;)V"⟩, 6), (⟨"DatedJars$Reader", "readKind", "()I"⟩, 6), (⟨"DatedJars$Land", "burstJars", "()V"⟩, 12), (⟨"DatedJars$Land", "feedHouse", "(II)I"⟩, 12), (⟨"DatedJars$Planner", "lookAtYear", "(LDatedJars$Land;II)V"⟩, 8), (⟨"DatedJars$Planner", "leastHunger", "([II)I"⟩, 8)]
theorem lw_r1 : ∀ q ∈ lw_privs_1, lw_okq q := List.forall_mem_cons.mpr ⟨lw_p0, List.forall_mem_cons.mpr ⟨lw_p1, List.forall_mem_cons.mpr ⟨lw_p2, List.forall_mem_cons.mpr ⟨lw_p3, List.forall_mem_cons.mpr ⟨lw_p4, List.forall_mem_cons.mpr ⟨lw_p5, List.forall_mem_cons.mpr ⟨lw_p6, List.forall_mem_cons.mpr ⟨lw_p7, List.forall_mem_cons.mpr ⟨lw_p8, List.forall_mem_cons.mpr ⟨lw_p9, List.forall_mem_cons.mpr ⟨lw_p10, List.forall_mem_cons.mpr ⟨lw_p11, List.forall_mem_cons.mpr ⟨lw_p12, List.forall_mem_cons.mpr ⟨lw_p13, List.forall_mem_cons.mpr ⟨lw_p14, List.forall_mem_cons.mpr ⟨lw_p15, fun _ h => absurd h List.not_mem_nil⟩⟩⟩⟩⟩⟩⟩⟩⟩⟩⟩⟩⟩⟩⟩⟩
theorem lw_p16 : lw_okq (⟨"DatedJars$Planner", "hungerWith", "(I[II)I"⟩, 8) := ⟨⟨by decide +kernel, by decide +kernel⟩, List.mem_of_getElem? (i := 165) (by decide +kernel), List.mem_of_getElem? (i := 607) (by decide +kernel), List.mem_of_getElem? (i := 608) (by decide +kernel)⟩
theorem lw_p17 : lw_okq (⟨"DatedJars$Planner", "chooseSets", "(LDatedJars$Land;II)V"⟩, 8) := ⟨⟨by decide +kernel, by decide +kernel⟩, List.mem_of_getElem? (i := 165) (by decide +kernel), List.mem_of_getElem? (i := 611) (by decide +kernel), List.mem_of_getElem? (i := 612) (by decide +kernel)⟩
theorem lw_p18 : lw_okq (⟨"DatedJars$Planner", "firstOf", "([III)I"⟩, 8) := ⟨⟨by decide +kernel, by decide +kernel⟩, List.mem_of_getElem? (i := 165) (by decide +kernel), List.mem_of_getElem? (i := 615) (by decide +kernel), List.mem_of_getElem? (i := 616) (by decide +kernel)⟩
theorem lw_p19 : lw_okq (⟨"DatedJars$Planner", "jarsOf", "(I)I"⟩, 8) := ⟨⟨by decide +kernel, by decide +kernel⟩, List.mem_of_getElem? (i := 165) (by decide +kernel), List.mem_of_getElem? (i := 619) (by decide +kernel), List.mem_of_getElem? (i := 620) (by decide +kernel)⟩
theorem lw_p20 : lw_okq (⟨"DatedJars", "doFirstChange", "(I)Z"⟩, 10) := ⟨⟨by decide +kernel, by decide +kernel⟩, List.mem_of_getElem? (i := 18) (by decide +kernel), List.mem_of_getElem? (i := 632) (by decide +kernel), List.mem_of_getElem? (i := 633) (by decide +kernel)⟩
theorem lw_p21 : lw_okq (⟨"DatedJars", "isBetterChanged", "(III)Z"⟩, 10) := ⟨⟨by decide +kernel, by decide +kernel⟩, List.mem_of_getElem? (i := 18) (by decide +kernel), List.mem_of_getElem? (i := 637) (by decide +kernel), List.mem_of_getElem? (i := 638) (by decide +kernel)⟩
theorem lw_p22 : lw_okq (⟨"DatedJars$Dealer", "countWays", "()I"⟩, 8) := ⟨⟨by decide +kernel, by decide +kernel⟩, List.mem_of_getElem? (i := 200) (by decide +kernel), List.mem_of_getElem? (i := 655) (by decide +kernel), List.mem_of_getElem? (i := 656) (by decide +kernel)⟩
theorem lw_p23 : lw_okq (⟨"DatedJars$Dealer", "differenceOf", "(LDatedJars$Cellar;)I"⟩, 8) := ⟨⟨by decide +kernel, by decide +kernel⟩, List.mem_of_getElem? (i := 200) (by decide +kernel), List.mem_of_getElem? (i := 659) (by decide +kernel), List.mem_of_getElem? (i := 660) (by decide +kernel)⟩
theorem lw_p24 : lw_okq (⟨"DatedJars$Dealer", "nextWay", "()V"⟩, 8) := ⟨⟨by decide +kernel, by decide +kernel⟩, List.mem_of_getElem? (i := 200) (by decide +kernel), List.mem_of_getElem? (i := 666) (by decide +kernel), List.mem_of_getElem? (i := 667) (by decide +kernel)⟩
theorem lw_p25 : lw_okq (⟨"DatedJars", "hungerOfSiege", "(II)I"⟩, 10) := ⟨⟨by decide +kernel, by decide +kernel⟩, List.mem_of_getElem? (i := 18) (by decide +kernel), List.mem_of_getElem? (i := 678) (by decide +kernel), List.mem_of_getElem? (i := 679) (by decide +kernel)⟩
theorem lw_p26 : lw_okq (⟨"DatedJars$Glass", "findContradicted", "(LDatedJars$Cellar;)I"⟩, 4) := ⟨⟨by decide +kernel, by decide +kernel⟩, List.mem_of_getElem? (i := 232) (by decide +kernel), List.mem_of_getElem? (i := 708) (by decide +kernel), List.mem_of_getElem? (i := 709) (by decide +kernel)⟩
theorem lw_p27 : lw_okq (⟨"DatedJarsModel", "here", "()I"⟩, 28) := ⟨⟨by decide +kernel, by decide +kernel⟩, List.mem_of_getElem? (i := 754) (by decide +kernel), List.mem_of_getElem? (i := 860) (by decide +kernel), List.mem_of_getElem? (i := 861) (by decide +kernel)⟩
theorem lw_p28 : lw_okq (⟨"DatedJarsModel", "takeClause", "()V"⟩, 28) := ⟨⟨by decide +kernel, by decide +kernel⟩, List.mem_of_getElem? (i := 754) (by decide +kernel), List.mem_of_getElem? (i := 864) (by decide +kernel), List.mem_of_getElem? (i := 865) (by decide +kernel)⟩
theorem lw_p29 : lw_okq (⟨"DatedJarsModel", "takeWord", "()V"⟩, 28) := ⟨⟨by decide +kernel, by decide +kernel⟩, List.mem_of_getElem? (i := 754) (by decide +kernel), List.mem_of_getElem? (i := 868) (by decide +kernel), List.mem_of_getElem? (i := 869) (by decide +kernel)⟩
theorem lw_p30 : lw_okq (⟨"DatedJarsModel", "isHarvestWord", "()Z"⟩, 28) := ⟨⟨by decide +kernel, by decide +kernel⟩, List.mem_of_getElem? (i := 754) (by decide +kernel), List.mem_of_getElem? (i := 874) (by decide +kernel), List.mem_of_getElem? (i := 875) (by decide +kernel)⟩
theorem lw_p31 : lw_okq (⟨"DatedJarsModel", "isWord", "(IIIIII)Z"⟩, 28) := ⟨⟨by decide +kernel, by decide +kernel⟩, List.mem_of_getElem? (i := 754) (by decide +kernel), List.mem_of_getElem? (i := 878) (by decide +kernel), List.mem_of_getElem? (i := 879) (by decide +kernel)⟩
def lw_privs_2 : List (MethodName × Nat) := [(⟨"DatedJars$Planner", "hungerWith", "(I[II)I"⟩, 8), (⟨"DatedJars$Planner", "chooseSets", "(LDatedJars$Land;II)V"⟩, 8), (⟨"DatedJars$Planner", "firstOf", "([III)I"⟩, 8), (⟨"DatedJars$Planner", "jarsOf", "(I)I"⟩, 8), (⟨"DatedJars", "doFirstChange", "(I)Z"⟩, 10), (⟨"DatedJars", "isBetterChanged", "(III)Z"⟩, 10), (⟨"DatedJars$Dealer", "countWays", "()I"⟩, 8), (⟨"DatedJars$Dealer", "differenceOf", "(LDatedJars$Cellar;)I"⟩, 8), (⟨"DatedJars$Dealer", "nextWay", "()V"⟩, 8), (⟨"DatedJars", "hungerOfSiege", "(II)I"⟩, 10), (⟨"DatedJars$Glass", "findContradicted", "(LDatedJars$Cellar;)I"⟩, 4), (⟨"DatedJarsModel", "here", "()I"⟩, 28), (⟨"DatedJarsModel", "takeClause", "()V"⟩, 28), (⟨"DatedJarsModel", "takeWord", "()V"⟩, 28), (⟨"DatedJarsModel", "isHarvestWord", "()Z"⟩, 28), (⟨"DatedJarsModel", "isWord", "(IIIIII)Z"⟩, 28)]
theorem lw_r2 : ∀ q ∈ lw_privs_2, lw_okq q := List.forall_mem_cons.mpr ⟨lw_p16, List.forall_mem_cons.mpr ⟨lw_p17, List.forall_mem_cons.mpr ⟨lw_p18, List.forall_mem_cons.mpr ⟨lw_p19, List.forall_mem_cons.mpr ⟨lw_p20, List.forall_mem_cons.mpr ⟨lw_p21, List.forall_mem_cons.mpr ⟨lw_p22, List.forall_mem_cons.mpr ⟨lw_p23, List.forall_mem_cons.mpr ⟨lw_p24, List.forall_mem_cons.mpr ⟨lw_p25, List.forall_mem_cons.mpr ⟨lw_p26, List.forall_mem_cons.mpr ⟨lw_p27, List.forall_mem_cons.mpr ⟨lw_p28, List.forall_mem_cons.mpr ⟨lw_p29, List.forall_mem_cons.mpr ⟨lw_p30, List.forall_mem_cons.mpr ⟨lw_p31, fun _ h => absurd h List.not_mem_nil⟩⟩⟩⟩⟩⟩⟩⟩⟩⟩⟩⟩⟩⟩⟩⟩
theorem lw_p32 : lw_okq (⟨"DatedJarsModel", "want", "(ZII)Z"⟩, 28) := ⟨⟨by decide +kernel, by decide +kernel⟩, List.mem_of_getElem? (i := 754) (by decide +kernel), List.mem_of_getElem? (i := 882) (by decide +kernel), List.mem_of_getElem? (i := 883) (by decide +kernel)⟩
theorem lw_p33 : lw_okq (⟨"DatedJarsModel", "takeHarvest", "()V"⟩, 28) := ⟨⟨by decide +kernel, by decide +kernel⟩, List.mem_of_getElem? (i := 754) (by decide +kernel), List.mem_of_getElem? (i := 886) (by decide +kernel), List.mem_of_getElem? (i := 887) (by decide +kernel)⟩
theorem lw_p34 : lw_okq (⟨"DatedJarsModel", "takeNumber", "(II)I"⟩, 28) := ⟨⟨by decide +kernel, by decide +kernel⟩, List.mem_of_getElem? (i := 754) (by decide +kernel), List.mem_of_getElem? (i := 890) (by decide +kernel), List.mem_of_getElem? (i := 891) (by decide +kernel)⟩
theorem lw_p35 : lw_okq (⟨"DatedJarsModel", "takeHouse", "()V"⟩, 28) := ⟨⟨by decide +kernel, by decide +kernel⟩, List.mem_of_getElem? (i := 754) (by decide +kernel), List.mem_of_getElem? (i := 897) (by decide +kernel), List.mem_of_getElem? (i := 898) (by decide +kernel)⟩
theorem lw_p36 : lw_okq (⟨"DatedJarsModel", "takeJar", "()V"⟩, 28) := ⟨⟨by decide +kernel, by decide +kernel⟩, List.mem_of_getElem? (i := 754) (by decide +kernel), List.mem_of_getElem? (i := 901) (by decide +kernel), List.mem_of_getElem? (i := 902) (by decide +kernel)⟩
theorem lw_p37 : lw_okq (⟨"DatedJarsModel", "add", "(IIIIIII)V"⟩, 28) := ⟨⟨by decide +kernel, by decide +kernel⟩, List.mem_of_getElem? (i := 754) (by decide +kernel), List.mem_of_getElem? (i := 905) (by decide +kernel), List.mem_of_getElem? (i := 906) (by decide +kernel)⟩
theorem lw_p38 : lw_okq (⟨"DatedJarsModel", "harvestOf", "(I)I"⟩, 28) := ⟨⟨by decide +kernel, by decide +kernel⟩, List.mem_of_getElem? (i := 754) (by decide +kernel), List.mem_of_getElem? (i := 917) (by decide +kernel), List.mem_of_getElem? (i := 918) (by decide +kernel)⟩
theorem lw_p39 : lw_okq (⟨"DatedJarsModel", "gone", "()I"⟩, 28) := ⟨⟨by decide +kernel, by decide +kernel⟩, List.mem_of_getElem? (i := 754) (by decide +kernel), List.mem_of_getElem? (i := 921) (by decide +kernel), List.mem_of_getElem? (i := 922) (by decide +kernel)⟩
theorem lw_p40 : lw_okq (⟨"DatedJarsModel", "isHouse", "(I)Z"⟩, 28) := ⟨⟨by decide +kernel, by decide +kernel⟩, List.mem_of_getElem? (i := 754) (by decide +kernel), List.mem_of_getElem? (i := 929) (by decide +kernel), List.mem_of_getElem? (i := 930) (by decide +kernel)⟩
theorem lw_p41 : lw_okq (⟨"DatedJarsModel", "jarsOf", "(IZ)I"⟩, 28) := ⟨⟨by decide +kernel, by decide +kernel⟩, List.mem_of_getElem? (i := 754) (by decide +kernel), List.mem_of_getElem? (i := 934) (by decide +kernel), List.mem_of_getElem? (i := 935) (by decide +kernel)⟩
theorem lw_p42 : lw_okq (⟨"DatedJarsModel", "may", "(III)Z"⟩, 28) := ⟨⟨by decide +kernel, by decide +kernel⟩, List.mem_of_getElem? (i := 754) (by decide +kernel), List.mem_of_getElem? (i := 938) (by decide +kernel), List.mem_of_getElem? (i := 939) (by decide +kernel)⟩
theorem lw_p43 : lw_okq (⟨"DatedJarsModel", "mayBe", "(III)Z"⟩, 28) := ⟨⟨by decide +kernel, by decide +kernel⟩, List.mem_of_getElem? (i := 754) (by decide +kernel), List.mem_of_getElem? (i := 942) (by decide +kernel), List.mem_of_getElem? (i := 943) (by decide +kernel)⟩
theorem lw_p44 : lw_okq (⟨"DatedJarsModel", "isJar", "(I)Z"⟩, 28) := ⟨⟨by decide +kernel, by decide +kernel⟩, List.mem_of_getElem? (i := 754) (by decide +kernel), List.mem_of_getElem? (i := 953) (by decide +kernel), List.mem_of_getElem? (i := 954) (by decide +kernel)⟩
theorem lw_p45 : lw_okq (⟨"DatedJarsModel", "filled", "(III)I"⟩, 28) := ⟨⟨by decide +kernel, by decide +kernel⟩, List.mem_of_getElem? (i := 754) (by decide +kernel), List.mem_of_getElem? (i := 957) (by decide +kernel), List.mem_of_getElem? (i := 958) (by decide +kernel)⟩
theorem lw_p46 : lw_okq (⟨"DatedJarsModel", "clearHungers", "()V"⟩, 28) := ⟨⟨by decide +kernel, by decide +kernel⟩, List.mem_of_getElem? (i := 754) (by decide +kernel), List.mem_of_getElem? (i := 990) (by decide +kernel), List.mem_of_getElem? (i := 991) (by decide +kernel)⟩
theorem lw_p47 : lw_okq (⟨"DatedJarsModel", "pass", "(I)V"⟩, 28) := ⟨⟨by decide +kernel, by decide +kernel⟩, List.mem_of_getElem? (i := 754) (by decide +kernel), List.mem_of_getElem? (i := 994) (by decide +kernel), List.mem_of_getElem? (i := 995) (by decide +kernel)⟩
def lw_privs_3 : List (MethodName × Nat) := [(⟨"DatedJarsModel", "want", "(ZII)Z"⟩, 28), (⟨"DatedJarsModel", "takeHarvest", "()V"⟩, 28), (⟨"DatedJarsModel", "takeNumber", "(II)I"⟩, 28), (⟨"DatedJarsModel", "takeHouse", "()V"⟩, 28), (⟨"DatedJarsModel", "takeJar", "()V"⟩, 28), (⟨"DatedJarsModel", "add", "(IIIIIII)V"⟩, 28), (⟨"DatedJarsModel", "harvestOf", "(I)I"⟩, 28), (⟨"DatedJarsModel", "gone", "()I"⟩, 28), (⟨"DatedJarsModel", "isHouse", "(I)Z"⟩, 28), (⟨"DatedJarsModel", "jarsOf", "(IZ)I"⟩, 28), (⟨"DatedJarsModel", "may", "(III)Z"⟩, 28), (⟨"DatedJarsModel", "mayBe", "(III)Z"⟩, 28), (⟨"DatedJarsModel", "isJar", "(I)Z"⟩, 28), (⟨"DatedJarsModel", "filled", "(III)I"⟩, 28), (⟨"DatedJarsModel", "clearHungers", "()V"⟩, 28), (⟨"DatedJarsModel", "pass", "(I)V"⟩, 28)]
theorem lw_r3 : ∀ q ∈ lw_privs_3, lw_okq q := List.forall_mem_cons.mpr ⟨lw_p32, List.forall_mem_cons.mpr ⟨lw_p33, List.forall_mem_cons.mpr ⟨lw_p34, List.forall_mem_cons.mpr ⟨lw_p35, List.forall_mem_cons.mpr ⟨lw_p36, List.forall_mem_cons.mpr ⟨lw_p37, List.forall_mem_cons.mpr ⟨lw_p38, List.forall_mem_cons.mpr ⟨lw_p39, List.forall_mem_cons.mpr ⟨lw_p40, List.forall_mem_cons.mpr ⟨lw_p41, List.forall_mem_cons.mpr ⟨lw_p42, List.forall_mem_cons.mpr ⟨lw_p43, List.forall_mem_cons.mpr ⟨lw_p44, List.forall_mem_cons.mpr ⟨lw_p45, List.forall_mem_cons.mpr ⟨lw_p46, List.forall_mem_cons.mpr ⟨lw_p47, fun _ h => absurd h List.not_mem_nil⟩⟩⟩⟩⟩⟩⟩⟩⟩⟩⟩⟩⟩⟩⟩⟩
theorem lw_p48 : lw_okq (⟨"DatedJarsModel", "eat", "(III)I"⟩, 28) := ⟨⟨by decide +kernel, by decide +kernel⟩, List.mem_of_getElem? (i := 754) (by decide +kernel), List.mem_of_getElem? (i := 998) (by decide +kernel), List.mem_of_getElem? (i := 999) (by decide +kernel)⟩
theorem lw_p49 : lw_okq (⟨"DatedJarsModel", "firstToOpen", "(II)I"⟩, 28) := ⟨⟨by decide +kernel, by decide +kernel⟩, List.mem_of_getElem? (i := 754) (by decide +kernel), List.mem_of_getElem? (i := 1002) (by decide +kernel), List.mem_of_getElem? (i := 1003) (by decide +kernel)⟩
theorem lw_p50 : lw_okq (⟨"DatedJarsModel", "hunger", "(III)V"⟩, 28) := ⟨⟨by decide +kernel, by decide +kernel⟩, List.mem_of_getElem? (i := 754) (by decide +kernel), List.mem_of_getElem? (i := 1006) (by decide +kernel), List.mem_of_getElem? (i := 1007) (by decide +kernel)⟩
theorem lw_p51 : lw_okq (⟨"DatedJarsModel", "allHungers", "()I"⟩, 28) := ⟨⟨by decide +kernel, by decide +kernel⟩, List.mem_of_getElem? (i := 754) (by decide +kernel), List.mem_of_getElem? (i := 1011) (by decide +kernel), List.mem_of_getElem? (i := 1012) (by decide +kernel)⟩
theorem lw_p52 : lw_okq (⟨"DatedJarsModel", "draw", "(I)I"⟩, 28) := ⟨⟨by decide +kernel, by decide +kernel⟩, List.mem_of_getElem? (i := 754) (by decide +kernel), List.mem_of_getElem? (i := 1019) (by decide +kernel), List.mem_of_getElem? (i := 1020) (by decide +kernel)⟩
theorem lw_p53 : lw_okq (⟨"DatedJarsModel", "findOwn", "(I)V"⟩, 28) := ⟨⟨by decide +kernel, by decide +kernel⟩, List.mem_of_getElem? (i := 754) (by decide +kernel), List.mem_of_getElem? (i := 1033) (by decide +kernel), List.mem_of_getElem? (i := 1034) (by decide +kernel)⟩
theorem lw_p54 : lw_okq (⟨"DatedJarsModel", "findPlan", "(II)V"⟩, 28) := ⟨⟨by decide +kernel, by decide +kernel⟩, List.mem_of_getElem? (i := 754) (by decide +kernel), List.mem_of_getElem? (i := 1037) (by decide +kernel), List.mem_of_getElem? (i := 1038) (by decide +kernel)⟩
theorem lw_p55 : lw_okq (⟨"DatedJarsModel", "inSet", "(II)I"⟩, 28) := ⟨⟨by decide +kernel, by decide +kernel⟩, List.mem_of_getElem? (i := 754) (by decide +kernel), List.mem_of_getElem? (i := 1042) (by decide +kernel), List.mem_of_getElem? (i := 1043) (by decide +kernel)⟩
theorem lw_p56 : lw_okq (⟨"DatedJarsModel", "hungerBy", "(III)I"⟩, 28) := ⟨⟨by decide +kernel, by decide +kernel⟩, List.mem_of_getElem? (i := 754) (by decide +kernel), List.mem_of_getElem? (i := 1049) (by decide +kernel), List.mem_of_getElem? (i := 1050) (by decide +kernel)⟩
theorem lw_p57 : lw_okq (⟨"DatedJarsModel", "copy", "(II)V"⟩, 28) := ⟨⟨by decide +kernel, by decide +kernel⟩, List.mem_of_getElem? (i := 754) (by decide +kernel), List.mem_of_getElem? (i := 1058) (by decide +kernel), List.mem_of_getElem? (i := 1059) (by decide +kernel)⟩
theorem lw_p58 : lw_okq (⟨"DatedJarsModel", "try_", "(I)V"⟩, 28) := ⟨⟨by decide +kernel, by decide +kernel⟩, List.mem_of_getElem? (i := 754) (by decide +kernel), List.mem_of_getElem? (i := 1062) (by decide +kernel), List.mem_of_getElem? (i := 1063) (by decide +kernel)⟩
theorem lw_p59 : lw_okq (⟨"DatedJarsModel", "changeFirst", "(I)Z"⟩, 28) := ⟨⟨by decide +kernel, by decide +kernel⟩, List.mem_of_getElem? (i := 754) (by decide +kernel), List.mem_of_getElem? (i := 1070) (by decide +kernel), List.mem_of_getElem? (i := 1071) (by decide +kernel)⟩
theorem lw_p60 : lw_okq (⟨"DatedJarsModel", "changes", "(III)Z"⟩, 28) := ⟨⟨by decide +kernel, by decide +kernel⟩, List.mem_of_getElem? (i := 754) (by decide +kernel), List.mem_of_getElem? (i := 1074) (by decide +kernel), List.mem_of_getElem? (i := 1075) (by decide +kernel)⟩
theorem lw_p61 : lw_okq (⟨"DatedJarsModel", "offBy", "(II)I"⟩, 28) := ⟨⟨by decide +kernel, by decide +kernel⟩, List.mem_of_getElem? (i := 754) (by decide +kernel), List.mem_of_getElem? (i := 1082) (by decide +kernel), List.mem_of_getElem? (i := 1083) (by decide +kernel)⟩
theorem lw_p62 : lw_okq (⟨"DatedJarsModel", "other", "(II)I"⟩, 28) := ⟨⟨by decide +kernel, by decide +kernel⟩, List.mem_of_getElem? (i := 754) (by decide +kernel), List.mem_of_getElem? (i := 1086) (by decide +kernel), List.mem_of_getElem? (i := 1087) (by decide +kernel)⟩
theorem lw_p63 : lw_okq (⟨"DatedJarsModel", "siegeOf", "(II)I"⟩, 28) := ⟨⟨by decide +kernel, by decide +kernel⟩, List.mem_of_getElem? (i := 754) (by decide +kernel), List.mem_of_getElem? (i := 1094) (by decide +kernel), List.mem_of_getElem? (i := 1095) (by decide +kernel)⟩
def lw_privs_4 : List (MethodName × Nat) := [(⟨"DatedJarsModel", "eat", "(III)I"⟩, 28), (⟨"DatedJarsModel", "firstToOpen", "(II)I"⟩, 28), (⟨"DatedJarsModel", "hunger", "(III)V"⟩, 28), (⟨"DatedJarsModel", "allHungers", "()I"⟩, 28), (⟨"DatedJarsModel", "draw", "(I)I"⟩, 28), (⟨"DatedJarsModel", "findOwn", "(I)V"⟩, 28), (⟨"DatedJarsModel", "findPlan", "(II)V"⟩, 28), (⟨"DatedJarsModel", "inSet", "(II)I"⟩, 28), (⟨"DatedJarsModel", "hungerBy", "(III)I"⟩, 28), (⟨"DatedJarsModel", "copy", "(II)V"⟩, 28), (⟨"DatedJarsModel", "try_", "(I)V"⟩, 28), (⟨"DatedJarsModel", "changeFirst", "(I)Z"⟩, 28), (⟨"DatedJarsModel", "changes", "(III)Z"⟩, 28), (⟨"DatedJarsModel", "offBy", "(II)I"⟩, 28), (⟨"DatedJarsModel", "other", "(II)I"⟩, 28), (⟨"DatedJarsModel", "siegeOf", "(II)I"⟩, 28)]
theorem lw_r4 : ∀ q ∈ lw_privs_4, lw_okq q := List.forall_mem_cons.mpr ⟨lw_p48, List.forall_mem_cons.mpr ⟨lw_p49, List.forall_mem_cons.mpr ⟨lw_p50, List.forall_mem_cons.mpr ⟨lw_p51, List.forall_mem_cons.mpr ⟨lw_p52, List.forall_mem_cons.mpr ⟨lw_p53, List.forall_mem_cons.mpr ⟨lw_p54, List.forall_mem_cons.mpr ⟨lw_p55, List.forall_mem_cons.mpr ⟨lw_p56, List.forall_mem_cons.mpr ⟨lw_p57, List.forall_mem_cons.mpr ⟨lw_p58, List.forall_mem_cons.mpr ⟨lw_p59, List.forall_mem_cons.mpr ⟨lw_p60, List.forall_mem_cons.mpr ⟨lw_p61, List.forall_mem_cons.mpr ⟨lw_p62, List.forall_mem_cons.mpr ⟨lw_p63, fun _ h => absurd h List.not_mem_nil⟩⟩⟩⟩⟩⟩⟩⟩⟩⟩⟩⟩⟩⟩⟩⟩
def lw_privs : List (MethodName × Nat) := lw_privs_1 ++ (lw_privs_2 ++ (lw_privs_3 ++ (lw_privs_4)))
def lw_tbl : List Cond := k2_sels lw_privs ++ tables_1
theorem lw_privs_ok : ∀ q ∈ lw_privs, lw_okq q := by
  show ∀ q ∈ lw_privs_1 ++ (lw_privs_2 ++ (lw_privs_3 ++ (lw_privs_4))), lw_okq q
  exact List.forall_mem_append.mpr ⟨lw_r1, List.forall_mem_append.mpr ⟨lw_r2, List.forall_mem_append.mpr ⟨lw_r3, lw_r4⟩⟩⟩
end
section
/-! ===== BEGIN words of one list among another's, by their places ===== -/
theorem goodIn_r {big : List Cond} (ws : List Cond) (ps : List Nat) (hp : ws = ps.filterMap (fun i => big[i]?)) (h : ws.all goodWord = true) : GoodIn big ws := by
  intro w hw
  have h1 := List.all_eq_true.mp h w hw
  rw [hp] at hw
  obtain ⟨i, -, hi⟩ := List.mem_filterMap.mp hw
  have hm : w ∈ big := by first | exact List.mem_of_getElem? hi | exact List.getElem?_mem hi
  exact ⟨hm, good_of_word h1⟩
theorem goodIn_app {big a b : List Cond} (ha : GoodIn big a) (hb : GoodIn big b) : GoodIn big (a ++ b) := fun w h => (List.mem_append.mp h).elim (ha w) (hb w)
theorem goodIn_ca {big a b : List Cond} {c : Cond} (ha : GoodIn big (c :: a)) (hb : GoodIn big b) : GoodIn big (c :: (a ++ b)) := fun w h => (List.mem_cons.mp h).elim (fun e => ha w (List.mem_cons.mpr (Or.inl e))) (fun h => (List.mem_append.mp h).elim (fun h => ha w (List.mem_cons.mpr (Or.inr h))) (hb w))
theorem goodIn_sub {big ws : List Cond} (hm : ∀ w ∈ ws, w ∈ big) (h : ws.all goodWord = true) : GoodIn big ws := fun w hw => ⟨hm w hw, good_of_word (List.all_eq_true.mp h w hw)⟩
/-! ===== END ===== -/
/-! ===== BEGIN printed: names, fields, word lists, decode rows ===== -/
def RX0 : String := "DatedJars$Book"
def TX0 : u_T := fun k => match k with
  | 0 => ("DatedJars$Book", "count", "I", false)
  | 1 => ("DatedJars$Book", "years", "[I", true)
  | _ => ("DatedJars$Book", "jars", "[I", true)
def tyX0 : Nat → FieldType := fun k => match k with
  | 0 => .int
  | 1 => .array .int
  | _ => .array .int
abbrev wsX00 : List Cond := u_ws RX0 TX0 3
theorem nmX0 : ∀ a, a < 3 → ∀ b, b < 3 → a ≠ b → (TX0 a).2.1 ≠ (TX0 b).2.1 := by decide +kernel
theorem tyX0_ok : ∀ k, k < 3 → parseFieldDescriptor (TX0 k).2.2.1 = some (tyX0 k) := by decide +kernel
abbrev cX0_init : ByteArray := prog_2_method_1_code
def yX0_init : MethodName := ⟨RX0, "<init>", "()V"⟩
abbrev cX0_add : ByteArray := prog_2_method_2_code
def yX0_add : MethodName := ⟨RX0, "add", "(II)I"⟩
abbrev cX0_firstWrong : ByteArray := prog_2_method_3_code
def yX0_firstWrong : MethodName := ⟨RX0, "firstWrong", "(LDatedJars$Cellar;I)I"⟩
def RX1 : String := "DatedJars$Cellar"
def TX1 : u_T := fun k => match k with
  | 0 => ("DatedJars$Cellar", "count", "I", false)
  | 1 => ("DatedJars$Cellar", "kind", "[I", true)
  | 2 => ("DatedJars$Cellar", "owner", "[I", true)
  | 3 => ("DatedJars$Cellar", "date", "[I", true)
  | 4 => ("DatedJars$Cellar", "quantity", "[I", true)
  | 5 => ("DatedJars$Cellar", "keeps", "[I", true)
  | 6 => ("DatedJars$Cellar", "sealedIn", "[I", true)
  | _ => ("DatedJars$Cellar", "gone", "I", false)
def tyX1 : Nat → FieldType := fun k => match k with
  | 0 => .int
  | 1 => .array .int
  | 2 => .array .int
  | 3 => .array .int
  | 4 => .array .int
  | 5 => .array .int
  | 6 => .array .int
  | _ => .int
abbrev wsX10 : List Cond := u_ws RX1 TX1 8
theorem nmX1 : ∀ a, a < 8 → ∀ b, b < 8 → a ≠ b → (TX1 a).2.1 ≠ (TX1 b).2.1 := by decide +kernel
theorem tyX1_ok : ∀ k, k < 8 → parseFieldDescriptor (TX1 k).2.2.1 = some (tyX1 k) := by decide +kernel
abbrev cX1_init : ByteArray := prog_3_method_1_code
def yX1_init : MethodName := ⟨RX1, "<init>", "()V"⟩
abbrev cX1_copyFrom : ByteArray := prog_3_method_2_code
def yX1_copyFrom : MethodName := ⟨RX1, "copyFrom", "(LDatedJars$Cellar;)V"⟩
abbrev cX1_has : ByteArray := prog_3_method_3_code
def yX1_has : MethodName := ⟨RX1, "has", "(I)Z"⟩
abbrev cX1_isFull : ByteArray := prog_3_method_4_code
def yX1_isFull : MethodName := ⟨RX1, "isFull", "()Z"⟩
abbrev cX1_add : ByteArray := prog_3_method_5_code
def yX1_add : MethodName := ⟨RX1, "add", "(IIIIII)V"⟩
abbrev cX1_ageOf : ByteArray := prog_3_method_6_code
def yX1_ageOf : MethodName := ⟨RX1, "ageOf", "(II)I"⟩
abbrev cX1_filledIn : ByteArray := prog_3_method_7_code
def yX1_filledIn : MethodName := ⟨RX1, "filledIn", "(II)I"⟩
abbrev cX1_mayBeOpened : ByteArray := prog_3_method_8_code
def yX1_mayBeOpened : MethodName := ⟨RX1, "mayBeOpened", "(III)Z"⟩
abbrev cX1_isGone : ByteArray := prog_3_method_9_code
def yX1_isGone : MethodName := ⟨RX1, "isGone", "(I)Z"⟩
abbrev cX1_isOf : ByteArray := prog_3_method_10_code
def yX1_isOf : MethodName := ⟨RX1, "isOf", "(II)Z"⟩
abbrev cX1_takeOut : ByteArray := prog_3_method_11_code
def yX1_takeOut : MethodName := ⟨RX1, "takeOut", "(II)I"⟩
abbrev cX1_firstToOpen : ByteArray := prog_3_method_12_code
def yX1_firstToOpen : MethodName := ⟨RX1, "firstToOpen", "(III)I"⟩
abbrev cX1_swapOwners : ByteArray := prog_3_method_13_code
def yX1_swapOwners : MethodName := ⟨RX1, "swapOwners", "(II)V"⟩
abbrev cX1_setOf : ByteArray := prog_3_method_14_code
def yX1_setOf : MethodName := ⟨RX1, "setOf", "(I)I"⟩
abbrev cX1_setToOpen : ByteArray := prog_3_method_15_code
def yX1_setToOpen : MethodName := ⟨RX1, "setToOpen", "(III)I"⟩
abbrev cX1_lookAt : ByteArray := prog_3_method_16_code
def yX1_lookAt : MethodName := ⟨RX1, "lookAt", "(I[I)I"⟩
def RX2 : String := "DatedJars$Dealer"
def TX2 : u_T := fun k => match k with
  | 0 => ("DatedJars$Dealer", "looked", "[I", true)
  | 1 => ("DatedJars$Dealer", "count", "I", false)
  | 2 => ("DatedJars$Dealer", "heirs", "[I", true)
  | 3 => ("DatedJars$Dealer", "heirCount", "I", false)
  | 4 => ("DatedJars$Dealer", "tried", "[I", true)
  | 5 => ("DatedJars$Dealer", "best", "[I", true)
  | 6 => ("DatedJars$Dealer", "sums", "[I", true)
  | _ => ("DatedJars$Dealer", "leastDifference", "I", false)
def tyX2 : Nat → FieldType := fun k => match k with
  | 0 => .array .int
  | 1 => .int
  | 2 => .array .int
  | 3 => .int
  | 4 => .array .int
  | 5 => .array .int
  | 6 => .array .int
  | _ => .int
abbrev wsX20 : List Cond := u_ws RX2 TX2 8
theorem nmX2 : ∀ a, a < 8 → ∀ b, b < 8 → a ≠ b → (TX2 a).2.1 ≠ (TX2 b).2.1 := by decide +kernel
theorem tyX2_ok : ∀ k, k < 8 → parseFieldDescriptor (TX2 k).2.2.1 = some (tyX2 k) := by decide +kernel
abbrev cX2_init : ByteArray := prog_4_method_1_code
def yX2_init : MethodName := ⟨RX2, "<init>", "()V"⟩
abbrev cX2_deal : ByteArray := prog_4_method_2_code
def yX2_deal : MethodName := ⟨RX2, "deal", "(LDatedJars$Land;I)V"⟩
abbrev cX2_heirOf : ByteArray := prog_4_method_3_code
def yX2_heirOf : MethodName := ⟨RX2, "heirOf", "(I)I"⟩
abbrev cX2_countWays : ByteArray := prog_4_method_4_code
def yX2_countWays : MethodName := ⟨RX2, "countWays", "()I"⟩
abbrev cX2_nextWay : ByteArray := prog_4_method_5_code
def yX2_nextWay : MethodName := ⟨RX2, "nextWay", "()V"⟩
abbrev cX2_differenceOf : ByteArray := prog_4_method_6_code
def yX2_differenceOf : MethodName := ⟨RX2, "differenceOf", "(LDatedJars$Cellar;)I"⟩
def RX3 : String := "DatedJars$Glass"
def TX3 : u_T := fun k => match k with
  | 0 => ("DatedJars$Glass", "count", "I", false)
  | 1 => ("DatedJars$Glass", "elder", "[I", true)
  | 2 => ("DatedJars$Glass", "younger", "[I", true)
  | _ => ("DatedJars$Glass", "contradicted", "[I", true)
def tyX3 : Nat → FieldType := fun k => match k with
  | 0 => .int
  | 1 => .array .int
  | 2 => .array .int
  | _ => .array .int
abbrev wsX30 : List Cond := u_ws RX3 TX3 4
theorem nmX3 : ∀ a, a < 4 → ∀ b, b < 4 → a ≠ b → (TX3 a).2.1 ≠ (TX3 b).2.1 := by decide +kernel
theorem tyX3_ok : ∀ k, k < 4 → parseFieldDescriptor (TX3 k).2.2.1 = some (tyX3 k) := by decide +kernel
abbrev cX3_init : ByteArray := prog_5_method_1_code
def yX3_init : MethodName := ⟨RX3, "<init>", "()V"⟩
abbrev cX3_add : ByteArray := prog_5_method_2_code
def yX3_add : MethodName := ⟨RX3, "add", "(II)I"⟩
abbrev cX3_fewestForged : ByteArray := prog_5_method_3_code
def yX3_fewestForged : MethodName := ⟨RX3, "fewestForged", "(LDatedJars$Cellar;)I"⟩
abbrev cX3_findContradicted : ByteArray := prog_5_method_4_code
def yX3_findContradicted : MethodName := ⟨RX3, "findContradicted", "(LDatedJars$Cellar;)I"⟩
def RX4 : String := "DatedJars$Land"
def TX4 : u_T := fun k => match k with
  | 0 => ("DatedJars$Land", "houses", "I", false)
  | 1 => ("DatedJars$Land", "want", "[I", true)
  | 2 => ("DatedJars$Land", "seals", "[I", true)
  | 3 => ("DatedJars$Land", "stock", "[I", true)
  | 4 => ("DatedJars$Land", "missed", "[I", true)
  | 5 => ("DatedJars$Land", "harvests", "I", false)
  | 6 => ("DatedJars$Land", "harvest", "[I", true)
  | 7 => ("DatedJars$Land", "year", "I", false)
  | 8 => ("DatedJars$Land", "hunger", "I", false)
  | 9 => ("DatedJars$Land", "law", "I", false)
  | 10 => ("DatedJars$Land", "seed", "I", false)
  | _ => ("DatedJars$Land", "cellar", "LDatedJars$Cellar;", true)
def tyX4 : Nat → FieldType := fun k => match k with
  | 0 => .int
  | 1 => .array .int
  | 2 => .array .int
  | 3 => .array .int
  | 4 => .array .int
  | 5 => .int
  | 6 => .array .int
  | 7 => .int
  | 8 => .int
  | 9 => .int
  | 10 => .int
  | _ => .object "DatedJars$Cellar"
abbrev wsX40 : List Cond := u_ws RX4 TX4 12
theorem nmX4 : ∀ a, a < 12 → ∀ b, b < 12 → a ≠ b → (TX4 a).2.1 ≠ (TX4 b).2.1 := by decide +kernel
theorem tyX4_ok : ∀ k, k < 12 → parseFieldDescriptor (TX4 k).2.2.1 = some (tyX4 k) := by decide +kernel
abbrev cX4_init : ByteArray := prog_6_method_1_code
def yX4_init : MethodName := ⟨RX4, "<init>", "()V"⟩
abbrev cX4_clear : ByteArray := prog_6_method_2_code
def yX4_clear : MethodName := ⟨RX4, "clear", "()V"⟩
abbrev cX4_copyFrom : ByteArray := prog_6_method_3_code
def yX4_copyFrom : MethodName := ⟨RX4, "copyFrom", "(LDatedJars$Land;)V"⟩
abbrev cX4_hasHouse : ByteArray := prog_6_method_4_code
def yX4_hasHouse : MethodName := ⟨RX4, "hasHouse", "(I)Z"⟩
abbrev cX4_addHouse : ByteArray := prog_6_method_5_code
def yX4_addHouse : MethodName := ⟨RX4, "addHouse", "(II)V"⟩
abbrev cX4_addHarvest : ByteArray := prog_6_method_6_code
def yX4_addHarvest : MethodName := ⟨RX4, "addHarvest", "(I)V"⟩
abbrev cX4_harvestOf : ByteArray := prog_6_method_7_code
def yX4_harvestOf : MethodName := ⟨RX4, "harvestOf", "(I)I"⟩
abbrev cX4_besiege : ByteArray := prog_6_method_8_code
def yX4_besiege : MethodName := ⟨RX4, "besiege", "()V"⟩
abbrev cX4_drawOf : ByteArray := prog_6_method_9_code
def yX4_drawOf : MethodName := ⟨RX4, "drawOf", "(I)I"⟩
abbrev cX4_passYears : ByteArray := prog_6_method_10_code
def yX4_passYears : MethodName := ⟨RX4, "passYears", "(IZ)I"⟩
abbrev cX4_burstJars : ByteArray := prog_6_method_11_code
def yX4_burstJars : MethodName := ⟨RX4, "burstJars", "()V"⟩
abbrev cX4_feedHouse : ByteArray := prog_6_method_12_code
def yX4_feedHouse : MethodName := ⟨RX4, "feedHouse", "(II)I"⟩
def RX5 : String := "DatedJars$Planner"
def TX5 : u_T := fun k => match k with
  | 0 => ("DatedJars$Planner", "looked", "[I", true)
  | 1 => ("DatedJars$Planner", "count", "I", false)
  | 2 => ("DatedJars$Planner", "leastFrom", "[[I", true)
  | 3 => ("DatedJars$Planner", "filled", "[I", true)
  | 4 => ("DatedJars$Planner", "mayOpen", "I", false)
  | 5 => ("DatedJars$Planner", "missing", "I", false)
  | 6 => ("DatedJars$Planner", "opened", "[I", true)
  | _ => ("DatedJars$Planner", "hunger", "I", false)
def tyX5 : Nat → FieldType := fun k => match k with
  | 0 => .array .int
  | 1 => .int
  | 2 => .array (.array .int)
  | 3 => .array .int
  | 4 => .int
  | 5 => .int
  | 6 => .array .int
  | _ => .int
abbrev wsX50 : List Cond := u_ws RX5 TX5 8
theorem nmX5 : ∀ a, a < 8 → ∀ b, b < 8 → a ≠ b → (TX5 a).2.1 ≠ (TX5 b).2.1 := by decide +kernel
theorem tyX5_ok : ∀ k, k < 8 → parseFieldDescriptor (TX5 k).2.2.1 = some (tyX5 k) := by decide +kernel
abbrev cX5_init : ByteArray := prog_7_method_1_code
def yX5_init : MethodName := ⟨RX5, "<init>", "()V"⟩
abbrev cX5_find : ByteArray := prog_7_method_2_code
def yX5_find : MethodName := ⟨RX5, "find", "(LDatedJars$Land;II)V"⟩
abbrev cX5_chooseSets : ByteArray := prog_7_method_3_code
def yX5_chooseSets : MethodName := ⟨RX5, "chooseSets", "(LDatedJars$Land;II)V"⟩
abbrev cX5_lookAtYear : ByteArray := prog_7_method_4_code
def yX5_lookAtYear : MethodName := ⟨RX5, "lookAtYear", "(LDatedJars$Land;II)V"⟩
abbrev cX5_hungerWith : ByteArray := prog_7_method_5_code
def yX5_hungerWith : MethodName := ⟨RX5, "hungerWith", "(I[II)I"⟩
abbrev cX5_leastHunger : ByteArray := prog_7_method_6_code
def yX5_leastHunger : MethodName := ⟨RX5, "leastHunger", "([II)I"⟩
abbrev cX5_firstOf : ByteArray := prog_7_method_7_code
def yX5_firstOf : MethodName := ⟨RX5, "firstOf", "([III)I"⟩
abbrev cX5_jarsOf : ByteArray := prog_7_method_8_code
def yX5_jarsOf : MethodName := ⟨RX5, "jarsOf", "(I)I"⟩
def RX6 : String := "DatedJars$Reader"
def TX6 : u_T := fun k => match k with
  | 0 => ("DatedJars$Reader", "text", "[B", true)
  | 1 => ("DatedJars$Reader", "length", "I", false)
  | 2 => ("DatedJars$Reader", "at", "I", false)
  | 3 => ("DatedJars$Reader", "faultNumber", "I", false)
  | 4 => ("DatedJars$Reader", "faultByte", "I", false)
  | _ => ("DatedJars$Reader", "harvestTold", "Z", false)
def tyX6 : Nat → FieldType := fun k => match k with
  | 0 => .array .byte
  | 1 => .int
  | 2 => .int
  | 3 => .int
  | 4 => .int
  | _ => .boolean
abbrev wsX60 : List Cond := u_ws RX6 TX6 6
theorem nmX6 : ∀ a, a < 6 → ∀ b, b < 6 → a ≠ b → (TX6 a).2.1 ≠ (TX6 b).2.1 := by decide +kernel
theorem tyX6_ok : ∀ k, k < 6 → parseFieldDescriptor (TX6 k).2.2.1 = some (tyX6 k) := by decide +kernel
abbrev cX6_init : ByteArray := prog_8_method_1_code
def yX6_init : MethodName := ⟨RX6, "<init>", "()V"⟩
abbrev cX6_addBytes : ByteArray := prog_8_method_2_code
def yX6_addBytes : MethodName := ⟨RX6, "addBytes", "(IJ)I"⟩
abbrev cX6_readText : ByteArray := prog_8_method_3_code
def yX6_readText : MethodName := ⟨RX6, "readText", "(LDatedJars$Land;)Z"⟩
abbrev cX6_readClause : ByteArray := prog_8_method_4_code
def yX6_readClause : MethodName := ⟨RX6, "readClause", "(LDatedJars$Land;)V"⟩
abbrev cX6_readHarvest : ByteArray := prog_8_method_5_code
def yX6_readHarvest : MethodName := ⟨RX6, "readHarvest", "(ILDatedJars$Land;)V"⟩
abbrev cX6_readHouse : ByteArray := prog_8_method_6_code
def yX6_readHouse : MethodName := ⟨RX6, "readHouse", "(ILDatedJars$Land;)V"⟩
abbrev cX6_readJar : ByteArray := prog_8_method_7_code
def yX6_readJar : MethodName := ⟨RX6, "readJar", "(ILDatedJars$Land;)V"⟩
abbrev cX6_readKind : ByteArray := prog_8_method_8_code
def yX6_readKind : MethodName := ⟨RX6, "readKind", "()I"⟩
abbrev cX6_readNumber : ByteArray := prog_8_method_9_code
def yX6_readNumber : MethodName := ⟨RX6, "readNumber", "(II)I"⟩
abbrev cX6_readEnd : ByteArray := prog_8_method_10_code
def yX6_readEnd : MethodName := ⟨RX6, "readEnd", "()V"⟩
abbrev cX6_nextIs : ByteArray := prog_8_method_11_code
def yX6_nextIs : MethodName := ⟨RX6, "nextIs", "(C)Z"⟩
abbrev cX6_skipBlanks : ByteArray := prog_8_method_12_code
def yX6_skipBlanks : MethodName := ⟨RX6, "skipBlanks", "()V"⟩
abbrev cX6_skipLetters : ByteArray := prog_8_method_13_code
def yX6_skipLetters : MethodName := ⟨RX6, "skipLetters", "()V"⟩
abbrev cX6_wordIs : ByteArray := prog_8_method_14_code
def yX6_wordIs : MethodName := ⟨RX6, "wordIs", "(ILjava/lang/String;)Z"⟩
abbrev cX6_fail : ByteArray := prog_8_method_15_code
def yX6_fail : MethodName := ⟨RX6, "fail", "(II)V"⟩
def RX7 : String := "DatedJars"
def TX7 : u_T := fun k => match k with
  | 0 => ("DatedJars", "now", "LDatedJars$Land;", true)
  | 1 => ("DatedJars", "trial", "LDatedJars$Land;", true)
  | 2 => ("DatedJars", "images", "[LDatedJars$Land;", true)
  | 3 => ("DatedJars", "kept", "[Z", true)
  | 4 => ("DatedJars", "reader", "LDatedJars$Reader;", true)
  | 5 => ("DatedJars", "planner", "LDatedJars$Planner;", true)
  | 6 => ("DatedJars", "dealer", "LDatedJars$Dealer;", true)
  | 7 => ("DatedJars", "glass", "LDatedJars$Glass;", true)
  | 8 => ("DatedJars", "book", "LDatedJars$Book;", true)
  | _ => ("DatedJars", "hungerBefore", "[I", true)
def tyX7 : Nat → FieldType := fun k => match k with
  | 0 => .object "DatedJars$Land"
  | 1 => .object "DatedJars$Land"
  | 2 => .array (.object "DatedJars$Land")
  | 3 => .array .boolean
  | 4 => .object "DatedJars$Reader"
  | 5 => .object "DatedJars$Planner"
  | 6 => .object "DatedJars$Dealer"
  | 7 => .object "DatedJars$Glass"
  | 8 => .object "DatedJars$Book"
  | _ => .array .int
abbrev wsX70 : List Cond := u_ws RX7 TX7 10
theorem nmX7 : ∀ a, a < 10 → ∀ b, b < 10 → a ≠ b → (TX7 a).2.1 ≠ (TX7 b).2.1 := by decide +kernel
theorem tyX7_ok : ∀ k, k < 10 → parseFieldDescriptor (TX7 k).2.2.1 = some (tyX7 k) := by decide +kernel
abbrev cX7_init : ByteArray := prog_1_method_1_code
def yX7_init : MethodName := ⟨RX7, "<init>", "()V"⟩
abbrev cX7_feed : ByteArray := prog_1_method_2_code
def yX7_feed : MethodName := ⟨RX7, "feed", "(IJ)I"⟩
abbrev cX7_land : ByteArray := prog_1_method_3_code
def yX7_land : MethodName := ⟨RX7, "land", "()I"⟩
abbrev cX7_fault : ByteArray := prog_1_method_4_code
def yX7_fault : MethodName := ⟨RX7, "fault", "()I"⟩
abbrev cX7_told : ByteArray := prog_1_method_5_code
def yX7_told : MethodName := ⟨RX7, "told", "(I)I"⟩
abbrev cX7_house : ByteArray := prog_1_method_6_code
def yX7_house : MethodName := ⟨RX7, "house", "(II)I"⟩
abbrev cX7_jar : ByteArray := prog_1_method_7_code
def yX7_jar : MethodName := ⟨RX7, "jar", "(II)I"⟩
abbrev cX7_law : ByteArray := prog_1_method_8_code
def yX7_law : MethodName := ⟨RX7, "law", "(I)I"⟩
abbrev cX7_seals : ByteArray := prog_1_method_9_code
def yX7_seals : MethodName := ⟨RX7, "seals", "(II)I"⟩
abbrev cX7_give : ByteArray := prog_1_method_10_code
def yX7_give : MethodName := ⟨RX7, "give", "(II)I"⟩
abbrev cX7_label : ByteArray := prog_1_method_11_code
def yX7_label : MethodName := ⟨RX7, "label", "(II)I"⟩
abbrev cX7_open : ByteArray := prog_1_method_12_code
def yX7_open : MethodName := ⟨RX7, "open", "(I)I"⟩
abbrev cX7_year : ByteArray := prog_1_method_13_code
def yX7_year : MethodName := ⟨RX7, "year", "(I)I"⟩
abbrev cX7_drift : ByteArray := prog_1_method_14_code
def yX7_drift : MethodName := ⟨RX7, "drift", "(I)I"⟩
abbrev cX7_plan : ByteArray := prog_1_method_15_code
def yX7_plan : MethodName := ⟨RX7, "plan", "(III)I"⟩
abbrev cX7_sealing : ByteArray := prog_1_method_16_code
def yX7_sealing : MethodName := ⟨RX7, "sealing", "(II)I"⟩
abbrev cX7_change : ByteArray := prog_1_method_17_code
def yX7_change : MethodName := ⟨RX7, "change", "(I)I"⟩
abbrev cX7_bequest : ByteArray := prog_1_method_18_code
def yX7_bequest : MethodName := ⟨RX7, "bequest", "(II)I"⟩
abbrev cX7_siege : ByteArray := prog_1_method_19_code
def yX7_siege : MethodName := ⟨RX7, "siege", "(II)I"⟩
abbrev cX7_when : ByteArray := prog_1_method_20_code
def yX7_when : MethodName := ⟨RX7, "when", "(II)I"⟩
abbrev cX7_older : ByteArray := prog_1_method_21_code
def yX7_older : MethodName := ⟨RX7, "older", "(II)I"⟩
abbrev cX7_forged : ByteArray := prog_1_method_22_code
def yX7_forged : MethodName := ⟨RX7, "forged", "()I"⟩
abbrev cX7_write : ByteArray := prog_1_method_23_code
def yX7_write : MethodName := ⟨RX7, "write", "(II)I"⟩
abbrev cX7_tear : ByteArray := prog_1_method_24_code
def yX7_tear : MethodName := ⟨RX7, "tear", "()I"⟩
abbrev cX7_judge : ByteArray := prog_1_method_25_code
def yX7_judge : MethodName := ⟨RX7, "judge", "()I"⟩
abbrev cX7_seed : ByteArray := prog_1_method_26_code
def yX7_seed : MethodName := ⟨RX7, "seed", "(I)I"⟩
abbrev cX7_keep : ByteArray := prog_1_method_27_code
def yX7_keep : MethodName := ⟨RX7, "keep", "(I)I"⟩
abbrev cX7_goBack : ByteArray := prog_1_method_28_code
def yX7_goBack : MethodName := ⟨RX7, "goBack", "(I)I"⟩
abbrev cX7_hungerOfSiege : ByteArray := prog_1_method_29_code
def yX7_hungerOfSiege : MethodName := ⟨RX7, "hungerOfSiege", "(II)I"⟩
abbrev cX7_doFirstChange : ByteArray := prog_1_method_30_code
def yX7_doFirstChange : MethodName := ⟨RX7, "doFirstChange", "(I)Z"⟩
abbrev cX7_isBetterChanged : ByteArray := prog_1_method_31_code
def yX7_isBetterChanged : MethodName := ⟨RX7, "isBetterChanged", "(III)Z"⟩
def RX8 : String := "DatedJarsModel"
def TX8 : u_T := fun k => match k with
  | 0 => ("DatedJarsModel", "w", "[I", true)
  | 1 => ("DatedJarsModel", "isKept", "[Z", true)
  | 2 => ("DatedJarsModel", "harvests", "[I", true)
  | 3 => ("DatedJarsModel", "harvestMany", "I", false)
  | 4 => ("DatedJarsModel", "wants", "[I", true)
  | 5 => ("DatedJarsModel", "sealing", "[I", true)
  | 6 => ("DatedJarsModel", "told", "[I", true)
  | 7 => ("DatedJarsModel", "houseMany", "I", false)
  | 8 => ("DatedJarsModel", "newHarvests", "I", false)
  | 9 => ("DatedJarsModel", "newHouses", "I", false)
  | 10 => ("DatedJarsModel", "newJars", "I", false)
  | 11 => ("DatedJarsModel", "text", "[I", true)
  | 12 => ("DatedJarsModel", "textSize", "I", false)
  | 13 => ("DatedJarsModel", "at", "I", false)
  | 14 => ("DatedJarsModel", "first", "I", false)
  | 15 => ("DatedJarsModel", "length", "I", false)
  | 16 => ("DatedJarsModel", "faultOf", "I", false)
  | 17 => ("DatedJarsModel", "fault", "I", false)
  | 18 => ("DatedJarsModel", "hungers", "[I", true)
  | 19 => ("DatedJarsModel", "own", "[I", true)
  | 20 => ("DatedJarsModel", "ownMany", "I", false)
  | 21 => ("DatedJarsModel", "least", "[I", true)
  | 22 => ("DatedJarsModel", "glassOne", "[I", true)
  | 23 => ("DatedJarsModel", "glassTwo", "[I", true)
  | 24 => ("DatedJarsModel", "glassMany", "I", false)
  | 25 => ("DatedJarsModel", "bookYear", "[I", true)
  | 26 => ("DatedJarsModel", "bookJar", "[I", true)
  | _ => ("DatedJarsModel", "written", "I", false)
def tyX8 : Nat → FieldType := fun k => match k with
  | 0 => .array .int
  | 1 => .array .boolean
  | 2 => .array .int
  | 3 => .int
  | 4 => .array .int
  | 5 => .array .int
  | 6 => .array .int
  | 7 => .int
  | 8 => .int
  | 9 => .int
  | 10 => .int
  | 11 => .array .int
  | 12 => .int
  | 13 => .int
  | 14 => .int
  | 15 => .int
  | 16 => .int
  | 17 => .int
  | 18 => .array .int
  | 19 => .array .int
  | 20 => .int
  | 21 => .array .int
  | 22 => .array .int
  | 23 => .array .int
  | 24 => .int
  | 25 => .array .int
  | 26 => .array .int
  | _ => .int
abbrev wsX80 : List Cond := u_ws RX8 TX8 28
theorem nmX8 : ∀ a, a < 28 → ∀ b, b < 28 → a ≠ b → (TX8 a).2.1 ≠ (TX8 b).2.1 := by decide +kernel
theorem tyX8_ok : ∀ k, k < 28 → parseFieldDescriptor (TX8 k).2.2.1 = some (tyX8 k) := by decide +kernel
abbrev cX8_init : ByteArray := prog_10_method_1_code
def yX8_init : MethodName := ⟨RX8, "<init>", "()V"⟩
abbrev cX8_in : ByteArray := prog_10_method_3_code
def yX8_in : MethodName := ⟨RX8, "in", "(JJJ)Z"⟩
abbrev cX8_one : ByteArray := prog_10_method_4_code
def yX8_one : MethodName := ⟨RX8, "one", "(Z)I"⟩
abbrev cX8_has : ByteArray := prog_10_method_5_code
def yX8_has : MethodName := ⟨RX8, "has", "(II)Z"⟩
abbrev cX8_feed : ByteArray := prog_10_method_6_code
def yX8_feed : MethodName := ⟨RX8, "feed", "(IJ)I"⟩
abbrev cX8_here : ByteArray := prog_10_method_7_code
def yX8_here : MethodName := ⟨RX8, "here", "()I"⟩
abbrev cX8_want : ByteArray := prog_10_method_8_code
def yX8_want : MethodName := ⟨RX8, "want", "(ZII)Z"⟩
abbrev cX8_takeWord : ByteArray := prog_10_method_9_code
def yX8_takeWord : MethodName := ⟨RX8, "takeWord", "()V"⟩
abbrev cX8_isWord : ByteArray := prog_10_method_10_code
def yX8_isWord : MethodName := ⟨RX8, "isWord", "(IIIIII)Z"⟩
abbrev cX8_takeNumber : ByteArray := prog_10_method_11_code
def yX8_takeNumber : MethodName := ⟨RX8, "takeNumber", "(II)I"⟩
abbrev cX8_takeHarvest : ByteArray := prog_10_method_12_code
def yX8_takeHarvest : MethodName := ⟨RX8, "takeHarvest", "()V"⟩
abbrev cX8_takeHouse : ByteArray := prog_10_method_13_code
def yX8_takeHouse : MethodName := ⟨RX8, "takeHouse", "()V"⟩
abbrev cX8_takeJar : ByteArray := prog_10_method_14_code
def yX8_takeJar : MethodName := ⟨RX8, "takeJar", "()V"⟩
abbrev cX8_isHarvestWord : ByteArray := prog_10_method_15_code
def yX8_isHarvestWord : MethodName := ⟨RX8, "isHarvestWord", "()Z"⟩
abbrev cX8_takeClause : ByteArray := prog_10_method_16_code
def yX8_takeClause : MethodName := ⟨RX8, "takeClause", "()V"⟩
abbrev cX8_land : ByteArray := prog_10_method_17_code
def yX8_land : MethodName := ⟨RX8, "land", "()I"⟩
abbrev cX8_fault : ByteArray := prog_10_method_18_code
def yX8_fault : MethodName := ⟨RX8, "fault", "()I"⟩
abbrev cX8_add : ByteArray := prog_10_method_19_code
def yX8_add : MethodName := ⟨RX8, "add", "(IIIIIII)V"⟩
abbrev cX8_isHouse : ByteArray := prog_10_method_20_code
def yX8_isHouse : MethodName := ⟨RX8, "isHouse", "(I)Z"⟩
abbrev cX8_isJar : ByteArray := prog_10_method_21_code
def yX8_isJar : MethodName := ⟨RX8, "isJar", "(I)Z"⟩
abbrev cX8_harvestOf : ByteArray := prog_10_method_22_code
def yX8_harvestOf : MethodName := ⟨RX8, "harvestOf", "(I)I"⟩
abbrev cX8_filled : ByteArray := prog_10_method_23_code
def yX8_filled : MethodName := ⟨RX8, "filled", "(III)I"⟩
abbrev cX8_mayBe : ByteArray := prog_10_method_24_code
def yX8_mayBe : MethodName := ⟨RX8, "mayBe", "(III)Z"⟩
abbrev cX8_may : ByteArray := prog_10_method_25_code
def yX8_may : MethodName := ⟨RX8, "may", "(III)Z"⟩
abbrev cX8_gone : ByteArray := prog_10_method_26_code
def yX8_gone : MethodName := ⟨RX8, "gone", "()I"⟩
abbrev cX8_told : ByteArray := prog_10_method_27_code
def yX8_told : MethodName := ⟨RX8, "told", "(I)I"⟩
abbrev cX8_jarsOf : ByteArray := prog_10_method_28_code
def yX8_jarsOf : MethodName := ⟨RX8, "jarsOf", "(IZ)I"⟩
abbrev cX8_house : ByteArray := prog_10_method_29_code
def yX8_house : MethodName := ⟨RX8, "house", "(II)I"⟩
abbrev cX8_jar : ByteArray := prog_10_method_30_code
def yX8_jar : MethodName := ⟨RX8, "jar", "(II)I"⟩
abbrev cX8_law : ByteArray := prog_10_method_31_code
def yX8_law : MethodName := ⟨RX8, "law", "(I)I"⟩
abbrev cX8_seals : ByteArray := prog_10_method_32_code
def yX8_seals : MethodName := ⟨RX8, "seals", "(II)I"⟩
abbrev cX8_give : ByteArray := prog_10_method_33_code
def yX8_give : MethodName := ⟨RX8, "give", "(II)I"⟩
abbrev cX8_label : ByteArray := prog_10_method_34_code
def yX8_label : MethodName := ⟨RX8, "label", "(II)I"⟩
abbrev cX8_open : ByteArray := prog_10_method_35_code
def yX8_open : MethodName := ⟨RX8, "open", "(I)I"⟩
abbrev cX8_firstToOpen : ByteArray := prog_10_method_36_code
def yX8_firstToOpen : MethodName := ⟨RX8, "firstToOpen", "(II)I"⟩
abbrev cX8_eat : ByteArray := prog_10_method_37_code
def yX8_eat : MethodName := ⟨RX8, "eat", "(III)I"⟩
abbrev cX8_hunger : ByteArray := prog_10_method_38_code
def yX8_hunger : MethodName := ⟨RX8, "hunger", "(III)V"⟩
abbrev cX8_clearHungers : ByteArray := prog_10_method_39_code
def yX8_clearHungers : MethodName := ⟨RX8, "clearHungers", "()V"⟩
abbrev cX8_pass : ByteArray := prog_10_method_40_code
def yX8_pass : MethodName := ⟨RX8, "pass", "(I)V"⟩
abbrev cX8_allHungers : ByteArray := prog_10_method_41_code
def yX8_allHungers : MethodName := ⟨RX8, "allHungers", "()I"⟩
abbrev cX8_year : ByteArray := prog_10_method_42_code
def yX8_year : MethodName := ⟨RX8, "year", "(I)I"⟩
abbrev cX8_draw : ByteArray := prog_10_method_43_code
def yX8_draw : MethodName := ⟨RX8, "draw", "(I)I"⟩
abbrev cX8_drift : ByteArray := prog_10_method_44_code
def yX8_drift : MethodName := ⟨RX8, "drift", "(I)I"⟩
abbrev cX8_copy : ByteArray := prog_10_method_45_code
def yX8_copy : MethodName := ⟨RX8, "copy", "(II)V"⟩
abbrev cX8_findOwn : ByteArray := prog_10_method_46_code
def yX8_findOwn : MethodName := ⟨RX8, "findOwn", "(I)V"⟩
abbrev cX8_inSet : ByteArray := prog_10_method_47_code
def yX8_inSet : MethodName := ⟨RX8, "inSet", "(II)I"⟩
abbrev cX8_hungerBy : ByteArray := prog_10_method_48_code
def yX8_hungerBy : MethodName := ⟨RX8, "hungerBy", "(III)I"⟩
abbrev cX8_findPlan : ByteArray := prog_10_method_49_code
def yX8_findPlan : MethodName := ⟨RX8, "findPlan", "(II)V"⟩
abbrev cX8_plan : ByteArray := prog_10_method_50_code
def yX8_plan : MethodName := ⟨RX8, "plan", "(III)I"⟩
abbrev cX8_try_ : ByteArray := prog_10_method_51_code
def yX8_try_ : MethodName := ⟨RX8, "try_", "(I)V"⟩
abbrev cX8_sealing : ByteArray := prog_10_method_52_code
def yX8_sealing : MethodName := ⟨RX8, "sealing", "(II)I"⟩
abbrev cX8_changes : ByteArray := prog_10_method_53_code
def yX8_changes : MethodName := ⟨RX8, "changes", "(III)Z"⟩
abbrev cX8_changeFirst : ByteArray := prog_10_method_54_code
def yX8_changeFirst : MethodName := ⟨RX8, "changeFirst", "(I)Z"⟩
abbrev cX8_change : ByteArray := prog_10_method_55_code
def yX8_change : MethodName := ⟨RX8, "change", "(I)I"⟩
abbrev cX8_other : ByteArray := prog_10_method_56_code
def yX8_other : MethodName := ⟨RX8, "other", "(II)I"⟩
abbrev cX8_offBy : ByteArray := prog_10_method_57_code
def yX8_offBy : MethodName := ⟨RX8, "offBy", "(II)I"⟩
abbrev cX8_bequest : ByteArray := prog_10_method_58_code
def yX8_bequest : MethodName := ⟨RX8, "bequest", "(II)I"⟩
abbrev cX8_siegeOf : ByteArray := prog_10_method_59_code
def yX8_siegeOf : MethodName := ⟨RX8, "siegeOf", "(II)I"⟩
abbrev cX8_siege : ByteArray := prog_10_method_60_code
def yX8_siege : MethodName := ⟨RX8, "siege", "(II)I"⟩
abbrev cX8_when : ByteArray := prog_10_method_61_code
def yX8_when : MethodName := ⟨RX8, "when", "(II)I"⟩
abbrev cX8_older : ByteArray := prog_10_method_62_code
def yX8_older : MethodName := ⟨RX8, "older", "(II)I"⟩
abbrev cX8_ones : ByteArray := prog_10_method_63_code
def yX8_ones : MethodName := ⟨RX8, "ones", "(I)I"⟩
abbrev cX8_forged : ByteArray := prog_10_method_64_code
def yX8_forged : MethodName := ⟨RX8, "forged", "()I"⟩
abbrev cX8_write : ByteArray := prog_10_method_65_code
def yX8_write : MethodName := ⟨RX8, "write", "(II)I"⟩
abbrev cX8_tear : ByteArray := prog_10_method_66_code
def yX8_tear : MethodName := ⟨RX8, "tear", "()I"⟩
abbrev cX8_judge : ByteArray := prog_10_method_67_code
def yX8_judge : MethodName := ⟨RX8, "judge", "()I"⟩
abbrev cX8_seed : ByteArray := prog_10_method_68_code
def yX8_seed : MethodName := ⟨RX8, "seed", "(I)I"⟩
abbrev cX8_keep : ByteArray := prog_10_method_69_code
def yX8_keep : MethodName := ⟨RX8, "keep", "(I)I"⟩
abbrev cX8_goBack : ByteArray := prog_10_method_70_code
def yX8_goBack : MethodName := ⟨RX8, "goBack", "(I)I"⟩
def RJ6 : String := "java/lang/Integer"
def TJ6 : u_T := fun k => match k with
  | _ => ("", "", "", false)
def tyJ6 : Nat → FieldType := fun k => match k with
  | _ => .int
abbrev wsJ60 : List Cond := u_ws RJ6 TJ6 0
theorem nmJ6 : ∀ a, a < 0 → ∀ b, b < 0 → a ≠ b → (TJ6 a).2.1 ≠ (TJ6 b).2.1 := by decide +kernel
theorem tyJ6_ok : ∀ k, k < 0 → parseFieldDescriptor (TJ6 k).2.2.1 = some (tyJ6 k) := by decide +kernel
abbrev cJ6_bitCount_0f7a4 : ByteArray := prog_11_method_49_code
def yJ6_bitCount_0f7a4 : MethodName := ⟨RJ6, "bitCount", "(I)I"⟩
def RJ9 : String := "java/lang/Math"
def TJ9 : u_T := fun k => match k with
  | _ => ("", "", "", false)
def tyJ9 : Nat → FieldType := fun k => match k with
  | _ => .int
abbrev wsJ90 : List Cond := u_ws RJ9 TJ9 0
theorem nmJ9 : ∀ a, a < 0 → ∀ b, b < 0 → a ≠ b → (TJ9 a).2.1 ≠ (TJ9 b).2.1 := by decide +kernel
theorem tyJ9_ok : ∀ k, k < 0 → parseFieldDescriptor (TJ9 k).2.2.1 = some (tyJ9 k) := by decide +kernel
abbrev cJ9_max_7cf53 : ByteArray := prog_12_method_65_code
def yJ9_max_7cf53 : MethodName := ⟨RJ9, "max", "(II)I"⟩
abbrev cJ9_min_7cf53 : ByteArray := prog_12_method_69_code
def yJ9_min_7cf53 : MethodName := ⟨RJ9, "min", "(II)I"⟩
def RJ0 : String := "java/lang/String"
def TJ0 : u_T := fun k => match k with
  | _ => ("", "", "", false)
def tyJ0 : Nat → FieldType := fun k => match k with
  | _ => .int
abbrev wsJ00 : List Cond := u_ws RJ0 TJ0 0
theorem nmJ0 : ∀ a, a < 0 → ∀ b, b < 0 → a ≠ b → (TJ0 a).2.1 ≠ (TJ0 b).2.1 := by decide +kernel
theorem tyJ0_ok : ∀ k, k < 0 → parseFieldDescriptor (TJ0 k).2.2.1 = some (tyJ0 k) := by decide +kernel
abbrev cJ0_length_8abf5 : ByteArray := prog_13_method_54_code
def yJ0_length_8abf5 : MethodName := ⟨RJ0, "length", "()I"⟩
abbrev cJ0_charAt_5068e : ByteArray := prog_13_method_56_code
def yJ0_charAt_5068e : MethodName := ⟨RJ0, "charAt", "(I)C"⟩
abbrev cJ0_coder_7d493 : ByteArray := prog_13_method_152_code
def yJ0_coder_7d493 : MethodName := ⟨RJ0, "coder", "()B"⟩
abbrev cJ0_isLatin1_aae02 : ByteArray := prog_13_method_154_code
def yJ0_isLatin1_aae02 : MethodName := ⟨RJ0, "isLatin1", "()Z"⟩
abbrev cJ0_checkIndex_df160 : ByteArray := prog_13_method_155_code
def yJ0_checkIndex_df160 : MethodName := ⟨RJ0, "checkIndex", "(II)V"⟩
def RJ1 : String := "java/lang/StringLatin1"
def TJ1 : u_T := fun k => match k with
  | _ => ("", "", "", false)
def tyJ1 : Nat → FieldType := fun k => match k with
  | _ => .int
abbrev wsJ10 : List Cond := u_ws RJ1 TJ1 0
theorem nmJ1 : ∀ a, a < 0 → ∀ b, b < 0 → a ≠ b → (TJ1 a).2.1 ≠ (TJ1 b).2.1 := by decide +kernel
theorem tyJ1_ok : ∀ k, k < 0 → parseFieldDescriptor (TJ1 k).2.2.1 = some (tyJ1 k) := by decide +kernel
abbrev cJ1_charAt_3b067 : ByteArray := prog_14_method_2_code
def yJ1_charAt_3b067 : MethodName := ⟨RJ1, "charAt", "([BI)C"⟩
def RJ2 : String := "java/lang/StringUTF16"
def TJ2 : u_T := fun k => match k with
  | _ => ("", "", "", false)
def tyJ2 : Nat → FieldType := fun k => match k with
  | _ => .int
abbrev wsJ20 : List Cond := u_ws RJ2 TJ2 0
theorem nmJ2 : ∀ a, a < 0 → ∀ b, b < 0 → a ≠ b → (TJ2 a).2.1 ≠ (TJ2 b).2.1 := by decide +kernel
theorem tyJ2_ok : ∀ k, k < 0 → parseFieldDescriptor (TJ2 k).2.2.1 = some (tyJ2 k) := by decide +kernel
abbrev cJ2_getChar_3b067 : ByteArray := prog_15_method_5_code
def yJ2_getChar_3b067 : MethodName := ⟨RJ2, "getChar", "([BI)C"⟩
abbrev cJ2_length_9d52b : ByteArray := prog_15_method_6_code
def yJ2_length_9d52b : MethodName := ⟨RJ2, "length", "([B)I"⟩
abbrev cJ2_charAt_3b067 : ByteArray := prog_15_method_83_code
def yJ2_charAt_3b067 : MethodName := ⟨RJ2, "charAt", "([BI)C"⟩
abbrev cJ2_checkIndex_2214a : ByteArray := prog_15_method_91_code
def yJ2_checkIndex_2214a : MethodName := ⟨RJ2, "checkIndex", "(I[B)V"⟩
def RJ10 : String := "java/lang/System"
def TJ10 : u_T := fun k => match k with
  | _ => ("", "", "", false)
def tyJ10 : Nat → FieldType := fun k => match k with
  | _ => .int
abbrev wsJ100 : List Cond := u_ws RJ10 TJ10 0
theorem nmJ10 : ∀ a, a < 0 → ∀ b, b < 0 → a ≠ b → (TJ10 a).2.1 ≠ (TJ10 b).2.1 := by decide +kernel
theorem tyJ10_ok : ∀ k, k < 0 → parseFieldDescriptor (TJ10 k).2.2.1 = some (tyJ10 k) := by decide +kernel
def RJ3 : String := "jdk/internal/util/Preconditions"
def TJ3 : u_T := fun k => match k with
  | _ => ("", "", "", false)
def tyJ3 : Nat → FieldType := fun k => match k with
  | _ => .int
abbrev wsJ30 : List Cond := u_ws RJ3 TJ3 0
theorem nmJ3 : ∀ a, a < 0 → ∀ b, b < 0 → a ≠ b → (TJ3 a).2.1 ≠ (TJ3 b).2.1 := by decide +kernel
theorem tyJ3_ok : ∀ k, k < 0 → parseFieldDescriptor (TJ3 k).2.2.1 = some (tyJ3 k) := by decide +kernel
abbrev cJ3_checkIndex_8e157 : ByteArray := prog_17_method_11_code
def yJ3_checkIndex_8e157 : MethodName := ⟨RJ3, "checkIndex", "(IILjava/util/function/BiFunction;)I"⟩
def RL : String := "DatedJarsLaw"
abbrev cL_law : ByteArray := code
def yL_law : MethodName := ⟨RL, "law", "([I)Z"⟩
abbrev vwCl : List vw_C := [(RX0, TX0, 3), (RX1, TX1, 8), (RX2, TX2, 8), (RX3, TX3, 4), (RX4, TX4, 12), (RX5, TX5, 8), (RX6, TX6, 6), (RX7, TX7, 10), (RX8, TX8, 28)]
end
section
/-! ENGINE 1: abstract worlds, the judgement V -/
abbrev NC : Nat := 104
def shp (k : Nat) : Nat × Nat × List (Option Nat) := (bif Nat.ble 52 k then (bif Nat.ble 78 k then (bif Nat.ble 91 k then (bif Nat.ble 98 k then (bif Nat.ble 101 k then (bif Nat.ble 103 k then (bif Nat.ble 104 k then (9, 0, []) else (1, 30, [])) else (bif Nat.ble 102 k then (1, 30, []) else (1, 12, []))) else (bif Nat.ble 99 k then (bif Nat.ble 100 k then (1, 12, []) else (1, 3400, [])) else (1, 8, []))) else (bif Nat.ble 94 k then (bif Nat.ble 96 k then (bif Nat.ble 97 k then (1, 4, []) else (1, 400, [])) else (bif Nat.ble 95 k then (1, 60, []) else (1, 8, []))) else (bif Nat.ble 92 k then (bif Nat.ble 93 k then (1, 8, []) else (1, 16, [])) else (3, 2, [])))) else (bif Nat.ble 84 k then (bif Nat.ble 87 k then (bif Nat.ble 89 k then (bif Nat.ble 90 k then (1, 800, []) else (0, 8, [some 90, some 91, some 92, none, some 93, some 94, some 95, none, none, none, none, some 96, none, none, none, none, none, none, some 97, some 98, none, some 99, some 100, some 101, none, some 102, some 103, none])) else (bif Nat.ble 88 k then (1, 4, []) else (1, 30, []))) else (bif Nat.ble 85 k then (bif Nat.ble 86 k then (1, 30, []) else (0, 0, [none, some 86, some 87])) else (1, 12, []))) else (bif Nat.ble 81 k then (bif Nat.ble 82 k then (bif Nat.ble 83 k then (1, 12, []) else (1, 12, [])) else (0, 3, [none, some 82, some 83, some 84])) else (bif Nat.ble 79 k then (bif Nat.ble 80 k then (1, 4, []) else (1, 8, [])) else (1, 8, []))))) else (bif Nat.ble 65 k then (bif Nat.ble 71 k then (bif Nat.ble 74 k then (bif Nat.ble 76 k then (bif Nat.ble 77 k then (1, 4, []) else (1, 8, [])) else (bif Nat.ble 75 k then (0, 2, [some 76, none, some 77, none, some 78, some 79, some 80, none]) else (1, 12, []))) else (bif Nat.ble 72 k then (bif Nat.ble 73 k then (1, 256, []) else (1, 256, [])) else (1, 256, []))) else (bif Nat.ble 68 k then (bif Nat.ble 69 k then (bif Nat.ble 70 k then (1, 256, []) else (1, 256, [])) else (1, 256, [])) else (bif Nat.ble 66 k then (bif Nat.ble 67 k then (1, 256, []) else (1, 256, [])) else (1, 256, [])))) else (bif Nat.ble 58 k then (bif Nat.ble 61 k then (bif Nat.ble 63 k then (bif Nat.ble 64 k then (1, 256, []) else (1, 256, [])) else (bif Nat.ble 62 k then (1, 256, []) else (1, 256, []))) else (bif Nat.ble 59 k then (bif Nat.ble 60 k then (1, 256, []) else (5, 13, [some 60, some 1])) else (1, 8, []))) else (bif Nat.ble 55 k then (bif Nat.ble 56 k then (bif Nat.ble 57 k then (0, 5, [some 58, none, some 59, some 73, none, none, some 74, none]) else (2, 400, [])) else (0, 6, [some 56, none, none, none, none, none])) else (bif Nat.ble 53 k then (bif Nat.ble 54 k then (3, 2, []) else (1, 24, [])) else (1, 24, [])))))) else (bif Nat.ble 26 k then (bif Nat.ble 39 k then (bif Nat.ble 45 k then (bif Nat.ble 48 k then (bif Nat.ble 50 k then (bif Nat.ble 51 k then (1, 24, []) else (1, 24, [])) else (bif Nat.ble 49 k then (1, 24, []) else (1, 24, []))) else (bif Nat.ble 46 k then (bif Nat.ble 47 k then (0, 1, [none, some 48, some 49, some 50, some 51, some 52, some 53, none]) else (1, 8, [])) else (1, 4, []))) else (bif Nat.ble 42 k then (bif Nat.ble 43 k then (bif Nat.ble 44 k then (1, 4, []) else (1, 4, [])) else (1, 4, [])) else (bif Nat.ble 40 k then (bif Nat.ble 41 k then (0, 4, [none, some 42, some 43, some 44, some 45, none, some 46, none, none, none, none, some 47]) else (1, 24, [])) else (1, 24, [])))) else (bif Nat.ble 32 k then (bif Nat.ble 35 k then (bif Nat.ble 37 k then (bif Nat.ble 38 k then (1, 24, []) else (1, 24, [])) else (bif Nat.ble 36 k then (1, 24, []) else (1, 24, []))) else (bif Nat.ble 33 k then (bif Nat.ble 34 k then (0, 1, [none, some 35, some 36, some 37, some 38, some 39, some 40, none]) else (1, 8, [])) else (1, 4, []))) else (bif Nat.ble 29 k then (bif Nat.ble 30 k then (bif Nat.ble 31 k then (1, 4, []) else (1, 4, [])) else (1, 4, [])) else (bif Nat.ble 27 k then (bif Nat.ble 28 k then (0, 4, [none, some 29, some 30, some 31, some 32, none, some 33, none, none, none, none, some 34]) else (4, 2, [some 28, some 13])) else (1, 24, []))))) else (bif Nat.ble 13 k then (bif Nat.ble 19 k then (bif Nat.ble 22 k then (bif Nat.ble 24 k then (bif Nat.ble 25 k then (1, 24, []) else (1, 24, [])) else (bif Nat.ble 23 k then (1, 24, []) else (1, 24, []))) else (bif Nat.ble 20 k then (bif Nat.ble 21 k then (1, 24, []) else (0, 1, [none, some 21, some 22, some 23, some 24, some 25, some 26, none])) else (1, 8, []))) else (bif Nat.ble 16 k then (bif Nat.ble 17 k then (bif Nat.ble 18 k then (1, 4, []) else (1, 4, [])) else (1, 4, [])) else (bif Nat.ble 14 k then (bif Nat.ble 15 k then (1, 4, []) else (0, 4, [none, some 15, some 16, some 17, some 18, none, some 19, none, none, none, none, some 20])) else (1, 24, [])))) else (bif Nat.ble 6 k then (bif Nat.ble 9 k then (bif Nat.ble 11 k then (bif Nat.ble 12 k then (1, 24, []) else (1, 24, [])) else (bif Nat.ble 10 k then (1, 24, []) else (1, 24, []))) else (bif Nat.ble 7 k then (bif Nat.ble 8 k then (1, 24, []) else (0, 1, [none, some 8, some 9, some 10, some 11, some 12, some 13, none])) else (1, 8, []))) else (bif Nat.ble 3 k then (bif Nat.ble 4 k then (bif Nat.ble 5 k then (1, 4, []) else (1, 4, [])) else (1, 4, [])) else (bif Nat.ble 1 k then (bif Nat.ble 2 k then (1, 4, []) else (0, 4, [none, some 2, some 3, some 4, some 5, none, some 6, none, none, none, none, some 7])) else (0, 7, [some 1, some 14, some 27, some 54, some 55, some 57, some 75, some 81, some 85, some 88])))))))
abbrev Sg : Type := Nat → Nat → Int32
def sgc (σ : Sg) (c : Nat) (f : Nat → Int32) : Sg := fun d => if d = c then f else σ d
def sgu (σ : Sg) (c k : Nat) (v : Int32) : Sg := sgc σ c (upd (σ c) k v)
abbrev Lv : Type := List (Nat × Value)
abbrev MS : Type := MethodName × ByteArray × Nat × Option FieldType × Room
abbrev En : Type := Instr × Nat × Nat × Nat × Nat × Int32 × Int64 × MS
abbrev Cd : Type := List (Nat × List (Nat × En))
def eg_nth {α : Type} : List α → Nat → Option α
  | [], _ => none
  | a :: _, 0 => some a
  | _ :: t, n + 1 => eg_nth t n
theorem eg_nth_eq {α : Type} : ∀ (l : List α) (n : Nat), eg_nth l n = l[n]?
  | [], n => by simp [eg_nth]
  | a :: t, 0 => by simp [eg_nth]
  | a :: t, n + 1 => by simp [eg_nth, eg_nth_eq t n]
def eg_cv (ad : Nat → Nat) : Value → Value
  | .ref k => .ref (ad k)
  | v => v
theorem eg_cv_cat (ad : Nat → Nat) (v : Value) : (eg_cv ad v).category = v.category := by cases v <;> rfl
def eg_sl (ad : Nat → Nat) (f : Nat → Int32) : Nat → List (Option Nat) → List Value
  | _, [] => []
  | i, none :: t => .int (f i) :: eg_sl ad f (i + 1) t
  | i, some r :: t => .ref (ad r) :: eg_sl ad f (i + 1) t
theorem eg_sl_len (ad : Nat → Nat) (f : Nat → Int32) : ∀ (l : List (Option Nat)) (i : Nat), (eg_sl ad f i l).length = l.length
  | [], _ => rfl
  | none :: t, i => by simp [eg_sl, eg_sl_len ad f t (i + 1)]
  | some r :: t, i => by simp [eg_sl, eg_sl_len ad f t (i + 1)]
theorem eg_sl_at (ad : Nat → Nat) (f : Nat → Int32) : ∀ (l : List (Option Nat)) (i k : Nat), (eg_sl ad f i l)[k]? = (l[k]?).map (fun o => match o with | none => .int (f (i + k)) | some r => .ref (ad r))
  | [], i, k => by simp [eg_sl]
  | none :: t, i, 0 => by simp [eg_sl]
  | some r :: t, i, 0 => by simp [eg_sl]
  | none :: t, i, k + 1 => by
    simp only [eg_sl, List.getElem?_cons_succ, eg_sl_at ad f t (i + 1) k]
    congr 1
    funext o
    cases o <;> simp [Nat.add_comm, Nat.add_left_comm]
  | some r :: t, i, k + 1 => by
    simp only [eg_sl, List.getElem?_cons_succ, eg_sl_at ad f t (i + 1) k]
    congr 1
    funext o
    cases o <;> simp [Nat.add_comm, Nat.add_left_comm]
theorem eg_sl_set (ad : Nat → Nat) (f : Nat → Int32) (v : Int32) : ∀ (l : List (Option Nat)) (i k : Nat), l[k]? = some none → (eg_sl ad f i l).set k (.int v) = eg_sl ad (upd f (i + k) v) i l
  | [], i, k, h => by simp at h
  | none :: t, i, 0, h => by
    have e : ∀ (l : List (Option Nat)) (j : Nat), i < j → eg_sl ad f j l = eg_sl ad (upd f i v) j l := by
      intro l
      induction l with
      | nil => intro j _; rfl
      | cons o l ih =>
        intro j hj
        cases o with
        | none => simp only [eg_sl, ih (j + 1) (by omega)]; simp [upd, show ¬ j = i by omega]
        | some r => simp only [eg_sl, ih (j + 1) (by omega)]
    simp only [eg_sl, List.set_cons_zero, Nat.add_zero, e t (i + 1) (by omega)]
    simp [upd]
  | some r :: t, i, 0, h => by simp at h
  | none :: t, i, k + 1, h => by
    simp only [eg_sl, List.set_cons_succ, eg_sl_set ad f v t (i + 1) k (by simpa using h), Nat.add_assoc, Nat.add_comm 1 k]
    simp [upd]
  | some r :: t, i, k + 1, h => by
    simp only [eg_sl, List.set_cons_succ, eg_sl_set ad f v t (i + 1) k (by simpa using h), Nat.add_assoc, Nat.add_comm 1 k]
def eg_rb (sl : List (Option Nat)) : Nat := match sl with
  | some b :: _ => b
  | _ => 0
def eg_rs (sl : List (Option Nat)) : Nat := match sl with
  | _ :: some b :: _ => b
  | _ => 0
def cellE (ad : Nat → Nat) (cy : Nat → ClassId) (σ : Sg) (k : Nat) : va_E :=
  if (shp k).1 = 0 then .inr ((shp k).2.1, eg_sl ad (σ k) 0 (shp k).2.2)
  else if (shp k).1 ≤ 3 then .inl (cy (shp k).1, (shp k).2.1, .inl (σ k))
  else .inl (cy (shp k).1, (shp k).2.1, .inr (.inr (.inr (.inr (fun i => some (ad (eg_rb (shp k).2.2 + eg_rs (shp k).2.2 * i)))))))
def cellsA (ad : Nat → Nat) (cy : Nat → ClassId) (σ : Sg) : va_W := (List.range NC).map fun k => (ad k, cellE ad cy σ k)
theorem cells_at {ad : Nat → Nat} {cy : Nat → ClassId} {σ : Sg} {k : Nat} (h : k < NC) : (cellsA ad cy σ)[k]? = some (ad k, cellE ad cy σ k) := by
  simp [cellsA, h]
theorem cells_inv {ad : Nat → Nat} {cy : Nat → ClassId} {σ : Sg} {k : Nat} {q : Nat × va_E} (h : (cellsA ad cy σ)[k]? = some q) : k < NC ∧ q = (ad k, cellE ad cy σ k) := by
  have hk : k < NC := by
    have := (List.getElem?_eq_some_iff.mp h).1
    simpa [cellsA] using this
  rw [cells_at hk] at h
  exact ⟨hk, (Option.some.inj h).symm⟩
theorem cellE_congr {ad : Nat → Nat} {cy : Nat → ClassId} {σ σ' : Sg} {k : Nat} (h : σ' k = σ k) : cellE ad cy σ' k = cellE ad cy σ k := by
  unfold cellE; rw [h]
theorem cells_set {ad : Nat → Nat} {cy : Nat → ClassId} {σ σ' : Sg} {c : Nat} {e : va_E} (hc : c < NC) (he : e = cellE ad cy σ' c) (h : ∀ d, d ≠ c → σ' d = σ d) : (cellsA ad cy σ).set c (ad c, e) = cellsA ad cy σ' := by
  subst he
  apply List.ext_getElem?
  intro i
  by_cases hi : i = c
  · subst hi
    rw [List.getElem?_set_self (by simpa [cellsA] using hc), cells_at hc]
  · rw [List.getElem?_set_ne (fun q => hi q.symm)]
    by_cases hn : i < NC
    · rw [cells_at hn, cells_at hn, cellE_congr (h i hi)]
    · rw [List.getElem?_eq_none (by simp [cellsA]; omega), List.getElem?_eq_none (by simp [cellsA]; omega)]
def AA (ad : Nat → Nat) : Nat → Prop := fun q => ∃ k, k < NC ∧ q = ad k
def InjA (ad : Nat → Nat) : Prop := ∀ i j, i < NC → j < NC → ad i = ad j → i = j
theorem cells_D {ad : Nat → Nat} (h : InjA ad) (cy : Nat → ClassId) (σ : Sg) : va_D (AA ad) (cellsA ad cy σ) := by
  refine ⟨fun i j p q hi hj e => ?_, fun k q hk => ?_⟩
  · obtain ⟨a, rfl⟩ := cells_inv hi
    obtain ⟨b, rfl⟩ := cells_inv hj
    exact h i j a b e
  · obtain ⟨a, rfl⟩ := cells_inv hk
    exact ⟨k, a, rfl⟩
abbrev tysA (cy : Nat → ClassId) : List (ClassId × FieldType) := [(cy 1, .int), (cy 2, .byte), (cy 3, .boolean), (cy 4, .object "DatedJars$Land"), (cy 5, .array .int)]
/-- the six String constants: their lengths and bytes -/
def eg_len : List Nat := [7, 5, 3, 5, 4, 5]
def eg_byt : List (List Int32) := [[104, 97, 114, 118, 101, 115, 116], [104, 111, 117, 115, 101], [106, 97, 114], [112, 108, 97, 105, 110], [112, 108, 117, 109], [103, 108, 97, 115, 115]]
def eg_idx : List Nat := [48, 58, 63, 110, 112, 114]
def eg_txt : List String := ["harvest", "house", "jar", "plain", "plum", "glass"]
def StrU (ad : Nat → Nat) (U : State) (H : Heap) : Prop := (∃ adV : Nat → Nat, vk_S 6 eg_len eg_byt (fun i => ad (1000 + i)) adV (AA ad) U H) ∧ va_Z "java/lang/String" "COMPACT_STRINGS" "Z" (.int 1) (AA ad) U H ∧ ∀ i : Nat, i < 6 → vk_R "DatedJars$Reader" (eg_idx.getD i 0) (eg_txt.getD i "") (ad (1000 + i)) U
def GdU (D : va_G) (ad : Nat → Nat) (cy : Nat → ClassId) (U : State) : Prop := va_K D vwCl (tysA cy) U ∧ StrU ad U U.heap ∧ InjA ad
def QQ (D : va_G) (ad : Nat → Nat) (cy : Nat → ClassId) (R : Option Value → Sg → Prop) : Array Value → State → Outcome → State → Prop := fun _ st oc t =>
  (∃ (v : Option Value) (σ' : Sg), oc = .returned (v.map (eg_cv ad)) ∧ R v σ' ∧ va_P D vwCl (cellsA ad cy σ') t.heap) ∧ va_F (AA ad) st t
def Gd : List Cond := lw_tbl.filter goodWord
theorem Gd_in {w : Cond} {i : Nat} (h : lw_tbl[i]? = some w) (hg : goodWord w = true) : w ∈ Gd := List.mem_filter.mpr ⟨List.mem_of_getElem? h, hg⟩
theorem Gd_good : GoodIn Gd Gd := fun w h => ⟨h, good_of_word (List.mem_filter.mp h).2⟩
def wsM (ms : MS) : List Cond := Cond.code ms.1 ms.2.1 ms.2.2.1 ms.2.2.2.1 :: Gd
/-- what the tables say of a method -/
def OkM (ms : MS) : Prop := Cond.code ms.1 ms.2.1 ms.2.2.1 ms.2.2.2.1 ∈ Gd ∧ Cond.initialized ms.1.cls ∈ Gd ∧ ((Cond.instanceMethod ms.1 ∈ Gd ∧ Cond.selects ms.1.cls ms.1 ms.1 ∈ Gd) ∨ Cond.static ms.1 ∈ Gd) ∧ plainName ms.1.cls = true ∧ (ms.1.cls ≠ "java/lang/invoke/MethodHandle" ∧ ms.1.cls ≠ "java/lang/invoke/VarHandle") ∧ ms.2.2.2.2.cells = 0 ∧ ms.2.2.2.2.slots = 0
def MetA (ms : MS) (av : List Value) (σ : Sg) (R : Option Value → Sg → Prop) : Prop := OkM ms ∧ ∀ (l : Launch) (D : va_G) (ad : Nat → Nat) (cy : Nat → ClassId),
  Met l ms.1 (wsM ms) ms.2.2.2.2 (va_Pc (av.map (eg_cv ad)) (fun U => GdU D ad cy U ∧ va_P D vwCl (cellsA ad cy σ) U.heap)) (QQ D ad cy R) 0 0 (AA ad)
def Cx (ms : MS) (p : Program) (s : State) (m : MethodId) (args : Array Value) (meth : Method) (c : Code) (D : va_G) (ad : Nat → Nat) (cy : Nat → ClassId) : Prop :=
  p.tables.exec = Jvm.exec ∧ c.code = ms.2.1 ∧ meth.sig.returnType = ms.2.2.2.1 ∧ c.maxLocals = ms.2.2.1 ∧ s.vm.findClass ms.1.cls = some m.cls ∧ (∀ w ∈ Gd, w.before args s = true) ∧ meth.locks = false ∧ va_K D vwCl (tysA cy) s ∧ StrU ad s s.heap ∧ InjA ad
def eg_lc (ad : Nat → Nat) (lv : Lv) : Lv := lv.map fun q => (q.1, eg_cv ad q.2)
/-- from this abstract state the method comes to its end with R -/
def V (ms : MS) (pc : Nat) (lv : Lv) (st : List Value) (σ : Sg) (R : Option Value → Sg → Prop) : Prop :=
  ∀ (p : Program) (l : Launch) (e : Env) (s : State) (m : MethodId) (args : Array Value) (below : List Frame) (meth : Method) (c : Code) (D : va_G) (ad : Nat → Nat) (cy : Nat → ClassId), Cx ms p s m args meth c D ad cy →
  ∀ (H : Heap) (locs : List Loc) (ls : Array Slot), va_P D vwCl (cellsA ad cy σ) H → va_S (AA ad) s.heap H locs → lv_has ls ms.2.2.1 (eg_lc ad lv) →
  W p l e ms.2.2.2.2 s m args below meth c H locs 0 0 (MQ below (QQ D ad cy R) args s 0 0 (AA ad)) (F0 m pc ls (st.map (eg_cv ad)))
/-- locals -/
def lget : Lv → Nat → Option Value
  | [], _ => none
  | (j, v) :: t, i => bif Nat.beq j i then some v else lget t i
def lset : Lv → Nat → Value → Lv
  | [], i, v => [(i, v)]
  | (j, u) :: t, i, v => bif Nat.beq j i then (i, v) :: t.filter (fun q => !(q.1 == i) && !(q.1 + 1 == i && q.2.category == 2)) else bif Nat.beq (j + 1) i && Nat.beq u.category 2 then lset t i v else (j, u) :: lset t i v
def lset2 : Lv → Nat → Value → Lv
  | [], i, v => [(i, v)]
  | (j, u) :: t, i, v => bif Nat.beq j i then (i, v) :: t.filter (fun q => !(q.1 == i) && (!(q.1 == i + 1) && !(q.1 + 1 == i && q.2.category == 2))) else bif Nat.beq j (i + 1) || (Nat.beq (j + 1) i && Nat.beq u.category 2) then lset2 t i v else (j, u) :: lset2 t i v
theorem lget_mem : ∀ {lv : Lv} {i : Nat} {v : Value}, lget lv i = some v → (i, v) ∈ lv
  | [], i, v, h => by simp [lget] at h
  | (j, u) :: t, i, v, h => by
    unfold lget at h
    cases hb : Nat.beq j i with
    | true =>
      rw [hb] at h
      have e : j = i := Nat.eq_of_beq_eq_true hb
      have h2 : u = v := by simpa using h
      subst e; subst h2
      exact List.mem_cons_self
    | false =>
      rw [hb] at h
      exact List.mem_cons_of_mem _ (lget_mem (by simpa using h))
theorem lset_mem : ∀ {lv : Lv} {i : Nat} {v : Value} {q : Nat × Value}, q ∈ lset lv i v → q ∈ (i, v) :: lv.filter (fun q => !(q.1 == i) && !(q.1 + 1 == i && q.2.category == 2))
  | [], i, v, q, h => by simpa [lset] using h
  | (j, u) :: t, i, v, q, h => by
    unfold lset at h
    cases hb : Nat.beq j i with
    | true =>
      rw [hb] at h
      have e : j = i := Nat.eq_of_beq_eq_true hb
      subst e
      simpa using h
    | false =>
      have e : ¬ j = i := Nat.ne_of_beq_eq_false hb
      rw [hb] at h
      cases hc : (Nat.beq (j + 1) i && Nat.beq u.category 2) with
      | true =>
        rw [hc] at h
        have := lset_mem (by simpa using h : q ∈ lset t i v)
        rcases List.mem_cons.mp this with r | r
        · exact List.mem_cons.mpr (Or.inl r)
        · refine List.mem_cons.mpr (Or.inr ?_)
          obtain ⟨r1, r2⟩ := List.mem_filter.mp r
          exact List.mem_filter.mpr ⟨List.mem_cons_of_mem _ r1, r2⟩
      | false =>
        rw [hc] at h
        rcases List.mem_cons.mp (by simpa using h : q ∈ (j, u) :: lset t i v) with r | r
        · subst r
          refine List.mem_cons.mpr (Or.inr (List.mem_filter.mpr ⟨List.mem_cons_self, ?_⟩))
          simp only [Bool.and_eq_false_iff] at hc
          simp only [Bool.and_eq_true, Bool.not_eq_true', beq_eq_false_iff_ne, ne_eq, Bool.and_eq_false_iff]
          refine ⟨e, ?_⟩
          rcases hc with k | k
          · exact Or.inl (Nat.ne_of_beq_eq_false k)
          · exact Or.inr (Nat.ne_of_beq_eq_false k)
        · have := lset_mem r
          rcases List.mem_cons.mp this with r | r
          · exact List.mem_cons.mpr (Or.inl r)
          · refine List.mem_cons.mpr (Or.inr ?_)
            obtain ⟨r1, r2⟩ := List.mem_filter.mp r
            exact List.mem_filter.mpr ⟨List.mem_cons_of_mem _ r1, r2⟩
theorem lset2_mem : ∀ {lv : Lv} {i : Nat} {v : Value} {q : Nat × Value}, q ∈ lset2 lv i v → q ∈ (i, v) :: lv.filter (fun q => !(q.1 == i) && (!(q.1 == i + 1) && !(q.1 + 1 == i && q.2.category == 2)))
  | [], i, v, q, h => by simpa [lset2] using h
  | (j, u) :: t, i, v, q, h => by
    unfold lset2 at h
    cases hb : Nat.beq j i with
    | true =>
      rw [hb] at h
      have e : j = i := Nat.eq_of_beq_eq_true hb
      subst e
      simpa using h
    | false =>
      have e : ¬ j = i := Nat.ne_of_beq_eq_false hb
      rw [hb] at h
      cases hc : (Nat.beq j (i + 1) || (Nat.beq (j + 1) i && Nat.beq u.category 2)) with
      | true =>
        rw [hc] at h
        have := lset2_mem (by simpa using h : q ∈ lset2 t i v)
        rcases List.mem_cons.mp this with r | r
        · exact List.mem_cons.mpr (Or.inl r)
        · refine List.mem_cons.mpr (Or.inr ?_)
          obtain ⟨r1, r2⟩ := List.mem_filter.mp r
          exact List.mem_filter.mpr ⟨List.mem_cons_of_mem _ r1, r2⟩
      | false =>
        rw [hc] at h
        rcases List.mem_cons.mp (by simpa using h : q ∈ (j, u) :: lset2 t i v) with r | r
        · subst r
          refine List.mem_cons.mpr (Or.inr (List.mem_filter.mpr ⟨List.mem_cons_self, ?_⟩))
          simp only [Bool.or_eq_false_iff, Bool.and_eq_false_iff] at hc
          simp only [Bool.and_eq_true, Bool.not_eq_true', beq_eq_false_iff_ne, ne_eq, Bool.and_eq_false_iff]
          refine ⟨e, Nat.ne_of_beq_eq_false hc.1, ?_⟩
          rcases hc.2 with k | k
          · exact Or.inl (Nat.ne_of_beq_eq_false k)
          · exact Or.inr (Nat.ne_of_beq_eq_false k)
        · have := lset2_mem r
          rcases List.mem_cons.mp this with r | r
          · exact List.mem_cons.mpr (Or.inl r)
          · refine List.mem_cons.mpr (Or.inr ?_)
            obtain ⟨r1, r2⟩ := List.mem_filter.mp r
            exact List.mem_filter.mpr ⟨List.mem_cons_of_mem _ r1, r2⟩
theorem lc_filter (ad : Nat → Nat) (lv : Lv) (P : Nat → Nat → Bool) : eg_lc ad (lv.filter fun q => P q.1 q.2.category) = (eg_lc ad lv).filter fun q => P q.1 q.2.category := by
  unfold eg_lc
  rw [List.filter_map]
  congr 1
  apply List.filter_congr
  intro q _
  simp [eg_cv_cat]
theorem lv_has.of {ls : Array Slot} {n : Nat} {l l' : Lv} (h : lv_has ls n l) (hs : ∀ q ∈ l', q ∈ l) : lv_has ls n l' := ⟨h.1, h.2.1, fun q hq => h.2.2 q (hs q hq)⟩
theorem lset_has {ls : Array Slot} {n i : Nat} {lv : Lv} {v : Value} {ad : Nat → Nat} (h : lv_has ls n ((i, eg_cv ad v) :: (eg_lc ad lv).filter (fun q => !(q.1 == i) && !(q.1 + 1 == i && q.2.category == 2)))) : lv_has ls n (eg_lc ad (lset lv i v)) := by
  refine h.of fun q hq => ?_
  obtain ⟨q0, h0, rfl⟩ := List.mem_map.mp hq
  have := lset_mem h0
  rw [← lc_filter ad lv (fun a b => !(a == i) && !(a + 1 == i && b == 2))]
  rcases List.mem_cons.mp this with r | r
  · subst r; exact List.mem_cons_self
  · exact List.mem_cons_of_mem _ (List.mem_map.mpr ⟨q0, r, rfl⟩)
theorem lset2_has {ls : Array Slot} {n i : Nat} {lv : Lv} {v : Value} {ad : Nat → Nat} (h : lv_has ls n ((i, eg_cv ad v) :: (eg_lc ad lv).filter (fun q => !(q.1 == i) && (!(q.1 == i + 1) && !(q.1 + 1 == i && q.2.category == 2))))) : lv_has ls n (eg_lc ad (lset2 lv i v)) := by
  refine h.of fun q hq => ?_
  obtain ⟨q0, h0, rfl⟩ := List.mem_map.mp hq
  have := lset2_mem h0
  rw [← lc_filter ad lv (fun a b => !(a == i) && (!(a == i + 1) && !(a + 1 == i && b == 2)))]
  rcases List.mem_cons.mp this with r | r
  · subst r; exact List.mem_cons_self
  · exact List.mem_cons_of_mem _ (List.mem_map.mpr ⟨q0, r, rfl⟩)
theorem lget_has {ls : Array Slot} {n i : Nat} {lv : Lv} {v : Value} {ad : Nat → Nat} (h : lv_has ls n (eg_lc ad lv)) (hg : lget lv i = some v) : ls[i]? = some (.val (eg_cv ad v)) :=
  h.2.2 (i, eg_cv ad v) (List.mem_map.mpr ⟨(i, v), lget_mem hg, rfl⟩)
end
section
/-! ENGINE 2: the condition of one instruction, and of a stretch -/
def gfV (σ : Sg) (a w y : Nat) : Option Value := bif Nat.ble NC a then none else match shp a with
  | (0, ci, sl) => bif Nat.beq ci w then (match eg_nth sl y with
    | some none => some (.int (σ a y))
    | some (some r) => some (.ref r)
    | none => none) else none
  | _ => none
/-- an int field of a cell -/
def pfB (a w y : Nat) : Bool := bif Nat.ble NC a then false else match shp a with
  | (0, ci, sl) => bif Nat.beq ci w then (match eg_nth sl y with
    | some none => true
    | _ => false) else false
  | _ => false
def aOK (a t : Nat) (i : Int32) : Prop := a < NC ∧ (shp a).1 = t ∧ vp_in i (shp a).2.1
def popA : Nat → List Value → List Value → Option (List Value × List Value)
  | 0, st, acc => some (acc, st)
  | n + 1, v :: st, acc => popA n st (v :: acc)
  | _ + 1, [], _ => none
def stkB : List Value → Nat
  | [] => 0
  | v :: t => v.category + stkB t
def rcvB (b w : Nat) : Bool := bif Nat.beq w 99 then (Nat.ble 1000 b && Nat.ble b 1005) else bif Nat.ble NC b then false else match shp b with
  | (0, ci, _) => Nat.beq ci w
  | _ => false
def vpush (v : Option Value) (r : List Value) : List Value := match v with
  | some u => u :: r
  | none => r
def acOK (a b : Nat) (sp dp n : Int32) : Prop := (a < NC ∧ (shp a).1 = 1) ∧ (b < NC ∧ (shp b).1 = 1) ∧ ¬ sp < 0 ∧ ¬ dp < 0 ∧ ¬ n < 0 ∧ sp.toNatClampNeg + n.toNatClampNeg ≤ (shp a).2.1 ∧ dp.toNatClampNeg + n.toNatClampNeg ≤ (shp b).2.1
def swAll (x : Int32) (pc : Nat) (K : Nat → Prop) : List Int → Int → Prop
  | [], _ => True
  | o :: os, v => (x.toInt = v → K ((pc : Int) + o).toNat) ∧ swAll x pc K os (v + 1)
def lkAll (x : Int32) (pc : Nat) (K : Nat → Prop) (d : Int) : List (Int × Int) → Prop
  | [] => K ((pc : Int) + d).toNat
  | (k, o) :: t => (x.toInt = k → K ((pc : Int) + o).toNat) ∧ (¬ x.toInt = k → lkAll x pc K d t)
def wpI (ins : Instr) (npc x y w : Nat) (z : Int32) (zl : Int64) (cm : MS) (ret : Option FieldType) (pc : Nat) (lv : Lv) (st : List Value) (σ : Sg) (K : Nat → Lv → List Value → Sg → Prop) (R : Option Value → Sg → Prop) : Prop :=
  match ins with
  | .iload_n _ => match lget lv y with | some (.int a) => K npc lv (.int a :: st) σ | _ => False
  | .iload _ => match lget lv y with | some (.int a) => K npc lv (.int a :: st) σ | _ => False
  | .aload_n _ => match lget lv y with | some (.ref a) => K npc lv (.ref a :: st) σ | _ => False
  | .aload _ => match lget lv y with | some (.ref a) => K npc lv (.ref a :: st) σ | _ => False
  | .lload_n _ => match lget lv y with | some (.long a) => K npc lv (.long a :: st) σ | _ => False
  | .lload _ => match lget lv y with | some (.long a) => K npc lv (.long a :: st) σ | _ => False
  | .istore_n _ => match st with | .int a :: r => K npc (lset lv y (.int a)) r σ | _ => False
  | .istore _ => match st with | .int a :: r => K npc (lset lv y (.int a)) r σ | _ => False
  | .astore_n _ => match st with | .ref a :: r => K npc (lset lv y (.ref a)) r σ | _ => False
  | .astore _ => match st with | .ref a :: r => K npc (lset lv y (.ref a)) r σ | _ => False
  | .lstore_n _ => match st with | .long a :: r => K npc (lset2 lv y (.long a)) r σ | _ => False
  | .iinc _ _ => match lget lv y with | some (.int a) => K npc (lset lv y (.int (a + z))) st σ | _ => False
  | .iconst _ => K npc lv (.int z :: st) σ
  | .bipush _ => K npc lv (.int z :: st) σ
  | .sipush _ => K npc lv (.int z :: st) σ
  | .lconst _ => K npc lv (.long zl :: st) σ
  | .ldc _ => bif Nat.beq w 97 then K npc lv (.ref (1000 + y) :: st) σ else K npc lv (.int z :: st) σ
  | .ldc_w _ => K npc lv (.int z :: st) σ
  | .ldc2_w _ => K npc lv (.long zl :: st) σ
  | .iadd => match st with | .int b :: .int a :: r => K npc lv (.int (a + b) :: r) σ | _ => False
  | .isub => match st with | .int b :: .int a :: r => K npc lv (.int (a - b) :: r) σ | _ => False
  | .imul => match st with | .int b :: .int a :: r => K npc lv (.int (a * b) :: r) σ | _ => False
  | .idiv => match st with | .int b :: .int a :: r => ¬ b = 0 ∧ K npc lv (.int (a / b) :: r) σ | _ => False
  | .irem => match st with | .int b :: .int a :: r => ¬ b = 0 ∧ K npc lv (.int (a - a / b * b) :: r) σ | _ => False
  | .ineg => match st with | .int a :: r => K npc lv (.int (-a) :: r) σ | _ => False
  | .iand => match st with | .int b :: .int a :: r => K npc lv (.int (a &&& b) :: r) σ | _ => False
  | .ior => match st with | .int b :: .int a :: r => K npc lv (.int (a ||| b) :: r) σ | _ => False
  | .ixor => match st with | .int b :: .int a :: r => K npc lv (.int (a ^^^ b) :: r) σ | _ => False
  | .ishl => match st with | .int b :: .int a :: r => K npc lv (.int (a <<< (b &&& 31)) :: r) σ | _ => False
  | .ishr => match st with | .int b :: .int a :: r => K npc lv (.int (a >>> (b &&& 31)) :: r) σ | _ => False
  | .iushr => match st with | .int b :: .int a :: r => K npc lv (.int (a.toUInt32 >>> (b.toUInt32 &&& Int32.toUInt32 31)).toInt32 :: r) σ | _ => False
  | .i2l => match st with | .int a :: r => K npc lv (.long a.toInt64 :: r) σ | _ => False
  | .l2i => match st with | .long a :: r => K npc lv (.int a.toInt32 :: r) σ | _ => False
  | .i2b => match st with | .int a :: r => K npc lv (.int a.toInt8.toInt32 :: r) σ | _ => False
  | .ladd => match st with | .long b :: .long a :: r => K npc lv (.long (a + b) :: r) σ | _ => False
  | .lmul => match st with | .long b :: .long a :: r => K npc lv (.long (a * b) :: r) σ | _ => False
  | .land => match st with | .long b :: .long a :: r => K npc lv (.long (a &&& b) :: r) σ | _ => False
  | .lor => match st with | .long b :: .long a :: r => K npc lv (.long (a ||| b) :: r) σ | _ => False
  | .lrem => match st with | .long b :: .long a :: r => ¬ b = 0 ∧ K npc lv (.long (a - a / b * b) :: r) σ | _ => False
  | .lshl => match st with | .int b :: .long a :: r => K npc lv (.long (a <<< (b.toInt64 &&& 63)) :: r) σ | _ => False
  | .lshr => match st with | .int b :: .long a :: r => K npc lv (.long (a >>> (b.toInt64 &&& 63)) :: r) σ | _ => False
  | .lushr => match st with | .int b :: .long a :: r => K npc lv (.long (a.toUInt64 >>> (b.toInt64.toUInt64 &&& Int64.toUInt64 63)).toInt64 :: r) σ | _ => False
  | .lcmp => match st with | .long b :: .long a :: r => K npc lv (.int (lg_cmp a b) :: r) σ | _ => False
  | .dup => match st with | a :: r => bif Nat.beq a.category 1 then K npc lv (a :: a :: r) σ else False | _ => False
  | .pop => match st with | a :: r => bif Nat.beq a.category 1 then K npc lv r σ else False | _ => False
  | .dup2 => match st with | a :: b :: r => bif Nat.beq a.category 1 && Nat.beq b.category 1 then K npc lv (a :: b :: a :: b :: r) σ else False | _ => False
  | .goto _ => K x lv st σ
  | .ifCond .eq _ => match st with | .int a :: r => (a = 0 → K x lv r σ) ∧ (¬ a = 0 → K npc lv r σ) | _ => False
  | .ifCond .ne _ => match st with | .int a :: r => (¬ a = 0 → K x lv r σ) ∧ (a = 0 → K npc lv r σ) | _ => False
  | .ifCond .lt _ => match st with | .int a :: r => (a < 0 → K x lv r σ) ∧ (¬ a < 0 → K npc lv r σ) | _ => False
  | .ifCond .ge _ => match st with | .int a :: r => (0 ≤ a → K x lv r σ) ∧ (¬ 0 ≤ a → K npc lv r σ) | _ => False
  | .ifCond .gt _ => match st with | .int a :: r => (0 < a → K x lv r σ) ∧ (¬ 0 < a → K npc lv r σ) | _ => False
  | .ifCond .le _ => match st with | .int a :: r => (a ≤ 0 → K x lv r σ) ∧ (¬ a ≤ 0 → K npc lv r σ) | _ => False
  | .if_icmp .eq _ => match st with | .int b :: .int a :: r => (a = b → K x lv r σ) ∧ (¬ a = b → K npc lv r σ) | _ => False
  | .if_icmp .ne _ => match st with | .int b :: .int a :: r => (¬ a = b → K x lv r σ) ∧ (a = b → K npc lv r σ) | _ => False
  | .if_icmp .lt _ => match st with | .int b :: .int a :: r => (a < b → K x lv r σ) ∧ (¬ a < b → K npc lv r σ) | _ => False
  | .if_icmp .ge _ => match st with | .int b :: .int a :: r => (b ≤ a → K x lv r σ) ∧ (¬ b ≤ a → K npc lv r σ) | _ => False
  | .if_icmp .gt _ => match st with | .int b :: .int a :: r => (b < a → K x lv r σ) ∧ (¬ b < a → K npc lv r σ) | _ => False
  | .if_icmp .le _ => match st with | .int b :: .int a :: r => (a ≤ b → K x lv r σ) ∧ (¬ a ≤ b → K npc lv r σ) | _ => False
  | .tableswitch d lo hi offs => match st with | .int a :: r => (a.toInt < lo ∨ hi < a.toInt → K ((pc : Int) + d).toNat lv r σ) ∧ swAll a pc (fun t => K t lv r σ) offs.toList lo | _ => False
  | .lookupswitch d ps => match st with | .int a :: r => lkAll a pc (fun t => K t lv r σ) d ps.toList | _ => False
  | .getfield _ => match st with
    | .ref a :: r => match gfV σ a w y with | some v => K npc lv (v :: r) σ | none => False
    | _ => False
  | .putfield _ => match st with
    | .int v :: .ref a :: r => bif pfB a w y then (bif Nat.beq x 0 then K npc lv r (sgu σ a y v) else ((v = 0 ∨ v = 1) ∧ K npc lv r (sgu σ a y v))) else False
    | _ => False
  | .iaload => match st with | .int i :: .ref a :: r => aOK a 1 i ∧ K npc lv (.int (σ a i.toNatClampNeg) :: r) σ | _ => False
  | .iastore => match st with | .int v :: .int i :: .ref a :: r => aOK a 1 i ∧ K npc lv r (sgu σ a i.toNatClampNeg v) | _ => False
  | .baload => match st with | .int i :: .ref a :: r => aOK a (bif Nat.beq (shp a).1 2 then 2 else 3) i ∧ K npc lv (.int (σ a i.toNatClampNeg) :: r) σ | _ => False
  | .bastore => match st with | .int v :: .int i :: .ref a :: r => aOK a (bif Nat.beq (shp a).1 2 then 2 else 3) i ∧ K npc lv r (sgu σ a i.toNatClampNeg (vp_nar (bif Nat.beq (shp a).1 2 then .byte else .boolean) v)) | _ => False
  | .aaload => match st with | .int i :: .ref a :: r => aOK a (bif Nat.beq (shp a).1 4 then 4 else 5) i ∧ K npc lv (.ref (eg_rb (shp a).2.2 + eg_rs (shp a).2.2 * i.toNatClampNeg) :: r) σ | _ => False
  | .arraylength => match st with | .ref a :: r => bif Nat.ble NC a then False else bif Nat.beq (shp a).1 1 then K npc lv (.int (Int32.ofNat (shp a).2.1) :: r) σ else False | _ => False
  | .invokevirtual _ => match popA y st [] with
    | some (.ref b :: as, r) => bif rcvB b w && Nat.ble (stkB r) 8 then MetA cm (.ref b :: as) σ (fun v σ' => K npc lv (vpush v r) σ') else False
    | _ => False
  | .invokestatic _ => bif Nat.beq w 98 then (match st with
      | .int n :: .int dp :: .ref b :: .int sp :: .ref a :: r => bif Nat.ble (stkB r) 8 then acOK a b sp dp n ∧ K npc lv r (sgc σ b (va_cpy (σ a) (σ b) sp.toNatClampNeg dp.toNatClampNeg n.toNatClampNeg)) else False
      | _ => False) else (match popA y st [] with
      | some (as, r) => bif Nat.ble (stkB r) 8 then MetA cm as σ (fun v σ' => K npc lv (vpush v r) σ') else False
      | _ => False)
  | .ireturn => match st with
    | [.int a] => match ret with
      | some .int => R (some (.int a)) σ
      | some .boolean => (a = 0 ∨ a = 1) ∧ R (some (.int a)) σ
      | _ => False
    | _ => False
  | .return_ => match st with
    | [] => match ret with
      | none => R none σ
      | _ => False
    | _ => False
  | _ => False
def fnd1 (pc : Nat) : List (Nat × En) → Option En
  | [] => none
  | (k, e) :: t => bif Nat.beq k pc then some e else fnd1 pc t
def fnd2 (pc : Nat) : Cd → Option En
  | [] => none
  | (u, l) :: t => bif Nat.ble pc u then fnd1 pc l else fnd2 pc t
/-- the condition of a stretch from pc to the stops -/
def wpB (ms : MS) (cd : Cd) (stops : List Nat) (R : Option Value → Sg → Prop) : Nat → Nat → Lv → List Value → Sg → Prop
  | 0, _, _, _, _ => False
  | n + 1, pc, lv, st, σ => match fnd2 pc cd with
    | none => False
    | some (ins, npc, x, y, w, z, zl, cm) => wpI ins npc x y w z zl cm ms.2.2.2.1 pc lv st σ (fun pc' lv' st' σ' => bif stops.elem pc' then V ms pc' lv' st' σ' R else wpB ms cd stops R n pc' lv' st' σ') R
end
section
theorem zz_look : True := trivial
end
