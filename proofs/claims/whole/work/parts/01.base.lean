-- ===== PART A: goes FIRST, ahead of the names: the tables' words, and 'selects' of the private methods out of them =====
/-- a private method of a class that the tables say can be made, by its rows of tables_1 -/
def lw_okq (q : MethodName × Nat) : Prop := (q.1.cls ≠ "java/lang/invoke/MethodHandle" ∧ q.1.cls ≠ "java/lang/invoke/VarHandle") ∧ Cond.instantiable q.1.cls q.2 ∈ tables_1 ∧ Cond.privateMethod q.1 ∈ tables_1 ∧ Cond.instanceMethod q.1 ∈ tables_1
theorem lw_p0 : lw_okq (⟨"ClothForce", "measureNow", "(II)I"⟩, 14) := ⟨⟨by decide +kernel, by decide +kernel⟩, List.mem_of_getElem? (i := 24) (by decide +kernel), List.mem_of_getElem? (i := 449) (by decide +kernel), List.mem_of_getElem? (i := 450) (by decide +kernel)⟩
theorem lw_p1 : lw_okq (⟨"ClothForce", "usableWith", "(II)I"⟩, 14) := ⟨⟨by decide +kernel, by decide +kernel⟩, List.mem_of_getElem? (i := 24) (by decide +kernel), List.mem_of_getElem? (i := 457) (by decide +kernel), List.mem_of_getElem? (i := 458) (by decide +kernel)⟩
theorem lw_p2 : lw_okq (⟨"ClothForce", "kindOf", "(I)I"⟩, 14) := ⟨⟨by decide +kernel, by decide +kernel⟩, List.mem_of_getElem? (i := 24) (by decide +kernel), List.mem_of_getElem? (i := 461) (by decide +kernel), List.mem_of_getElem? (i := 462) (by decide +kernel)⟩
theorem lw_p3 : lw_okq (⟨"ClothForce", "isWornOut", "(I)Z"⟩, 14) := ⟨⟨by decide +kernel, by decide +kernel⟩, List.mem_of_getElem? (i := 24) (by decide +kernel), List.mem_of_getElem? (i := 465) (by decide +kernel), List.mem_of_getElem? (i := 466) (by decide +kernel)⟩
theorem lw_p4 : lw_okq (⟨"ClothForce", "lifeOn", "(II)I"⟩, 14) := ⟨⟨by decide +kernel, by decide +kernel⟩, List.mem_of_getElem? (i := 24) (by decide +kernel), List.mem_of_getElem? (i := 477) (by decide +kernel), List.mem_of_getElem? (i := 478) (by decide +kernel)⟩
theorem lw_p5 : lw_okq (⟨"ClothForce", "dueTo", "(III)I"⟩, 14) := ⟨⟨by decide +kernel, by decide +kernel⟩, List.mem_of_getElem? (i := 24) (by decide +kernel), List.mem_of_getElem? (i := 485) (by decide +kernel), List.mem_of_getElem? (i := 486) (by decide +kernel)⟩
theorem lw_p6 : lw_okq (⟨"ClothForce$Rules", "holds", "(I[I)Z"⟩, 9) := ⟨⟨by decide +kernel, by decide +kernel⟩, List.mem_of_getElem? (i := 149) (by decide +kernel), List.mem_of_getElem? (i := 493) (by decide +kernel), List.mem_of_getElem? (i := 494) (by decide +kernel)⟩
theorem lw_p7 : lw_okq (⟨"ClothForce", "leewayNeeded", "(II)I"⟩, 14) := ⟨⟨by decide +kernel, by decide +kernel⟩, List.mem_of_getElem? (i := 24) (by decide +kernel), List.mem_of_getElem? (i := 527) (by decide +kernel), List.mem_of_getElem? (i := 528) (by decide +kernel)⟩
theorem lw_p8 : lw_okq (⟨"ClothForce", "leastLeeway", "(II)I"⟩, 14) := ⟨⟨by decide +kernel, by decide +kernel⟩, List.mem_of_getElem? (i := 24) (by decide +kernel), List.mem_of_getElem? (i := 543) (by decide +kernel), List.mem_of_getElem? (i := 544) (by decide +kernel)⟩
theorem lw_p9 : lw_okq (⟨"ClothForce", "fittedBy", "(I)I"⟩, 14) := ⟨⟨by decide +kernel, by decide +kernel⟩, List.mem_of_getElem? (i := 24) (by decide +kernel), List.mem_of_getElem? (i := 562) (by decide +kernel), List.mem_of_getElem? (i := 563) (by decide +kernel)⟩
theorem lw_p10 : lw_okq (⟨"ClothForce$Choice", "unionOf", "(I)I"⟩, 5) := ⟨⟨by decide +kernel, by decide +kernel⟩, List.mem_of_getElem? (i := 270) (by decide +kernel), List.mem_of_getElem? (i := 580) (by decide +kernel), List.mem_of_getElem? (i := 581) (by decide +kernel)⟩
theorem lw_p11 : lw_okq (⟨"ClothForce$Choice", "compare", "(II)V"⟩, 5) := ⟨⟨by decide +kernel, by decide +kernel⟩, List.mem_of_getElem? (i := 270) (by decide +kernel), List.mem_of_getElem? (i := 584) (by decide +kernel), List.mem_of_getElem? (i := 585) (by decide +kernel)⟩
theorem lw_p12 : lw_okq (⟨"ClothForce$Tape", "runBehind", "(I)I"⟩, 6) := ⟨⟨by decide +kernel, by decide +kernel⟩, List.mem_of_getElem? (i := 102) (by decide +kernel), List.mem_of_getElem? (i := 617) (by decide +kernel), List.mem_of_getElem? (i := 618) (by decide +kernel)⟩
theorem lw_p13 : lw_okq (⟨"ClothForce$Tape", "kindOfRun", "(II)I"⟩, 6) := ⟨⟨by decide +kernel, by decide +kernel⟩, List.mem_of_getElem? (i := 102) (by decide +kernel), List.mem_of_getElem? (i := 627) (by decide +kernel), List.mem_of_getElem? (i := 628) (by decide +kernel)⟩
theorem lw_p14 : lw_okq (⟨"ClothForce$Tape", "nameIn", "(II)I"⟩, 6) := ⟨⟨by decide +kernel, by decide +kernel⟩, List.mem_of_getElem? (i := 102) (by decide +kernel), List.mem_of_getElem? (i := 631) (by decide +kernel), List.mem_of_getElem? (i := 632) (by decide +kernel)⟩
theorem lw_p15 : lw_okq (⟨"ClothForce$Tape", "spells", "(Ljava/lang/String;II)Z"⟩, 6) := ⟨⟨by decide +kernel, by decide +kernel⟩, List.mem_of_getElem? (i := 102) (by decide +kernel), List.mem_of_getElem? (i := 636) (by decide +kernel), List.mem_of_getElem? (i := 637) (by decide +kernel)⟩
def lw_privs_1 : List (MethodName × Nat) := [(⟨"ClothForce", "measureNow", "(II)I"⟩, 14), (⟨"ClothForce", "usableWith", "(II)I"⟩, 14), (⟨"ClothForce", "kindOf", "(I)I"⟩, 14), (⟨"ClothForce", "isWornOut", "(I)Z"⟩, 14), (⟨"ClothForce", "lifeOn", "(II)I"⟩, 14), (⟨"ClothForce", "dueTo", "(III)I"⟩, 14), (⟨"ClothForce$Rules", "holds", "(I[I)Z"⟩, 9), (⟨"ClothForce", "leewayNeeded", "(II)I"⟩, 14), (⟨"ClothForce", "leastLeeway", "(II)I"⟩, 14), (⟨"ClothForce", "fittedBy", "(I)I"⟩, 14), (⟨"ClothForce$Choice", "unionOf", "(I)I"⟩, 5), (⟨"ClothForce$Choice", "compare", "(II)V"⟩, 5), (⟨"ClothForce$Tape", "runBehind", "(I)I"⟩, 6), (⟨"ClothForce$Tape", "kindOfRun", "(II)I"⟩, 6), (⟨"ClothForce$Tape", "nameIn", "(II)I"⟩, 6), (⟨"ClothForce$Tape", "spells", "(Ljava/lang/String;II)Z"⟩, 6)]
theorem lw_r1 : ∀ q ∈ lw_privs_1, lw_okq q := List.forall_mem_cons.mpr ⟨lw_p0, List.forall_mem_cons.mpr ⟨lw_p1, List.forall_mem_cons.mpr ⟨lw_p2, List.forall_mem_cons.mpr ⟨lw_p3, List.forall_mem_cons.mpr ⟨lw_p4, List.forall_mem_cons.mpr ⟨lw_p5, List.forall_mem_cons.mpr ⟨lw_p6, List.forall_mem_cons.mpr ⟨lw_p7, List.forall_mem_cons.mpr ⟨lw_p8, List.forall_mem_cons.mpr ⟨lw_p9, List.forall_mem_cons.mpr ⟨lw_p10, List.forall_mem_cons.mpr ⟨lw_p11, List.forall_mem_cons.mpr ⟨lw_p12, List.forall_mem_cons.mpr ⟨lw_p13, List.forall_mem_cons.mpr ⟨lw_p14, List.forall_mem_cons.mpr ⟨lw_p15, fun _ h => absurd h List.not_mem_nil⟩⟩⟩⟩⟩⟩⟩⟩⟩⟩⟩⟩⟩⟩⟩⟩
theorem lw_p16 : lw_okq (⟨"ClothForce$Tape", "numberIn", "(II)I"⟩, 6) := ⟨⟨by decide +kernel, by decide +kernel⟩, List.mem_of_getElem? (i := 102) (by decide +kernel), List.mem_of_getElem? (i := 696) (by decide +kernel), List.mem_of_getElem? (i := 697) (by decide +kernel)⟩
theorem lw_p17 : lw_okq (⟨"ClothForce$Tape", "keep", "(III)V"⟩, 6) := ⟨⟨by decide +kernel, by decide +kernel⟩, List.mem_of_getElem? (i := 102) (by decide +kernel), List.mem_of_getElem? (i := 700) (by decide +kernel), List.mem_of_getElem? (i := 701) (by decide +kernel)⟩
theorem lw_p18 : lw_okq (⟨"ClothForce$Reader", "readLine", "(LClothForce$Tape;LClothForce$Rules;)Z"⟩, 4) := ⟨⟨by decide +kernel, by decide +kernel⟩, List.mem_of_getElem? (i := 129) (by decide +kernel), List.mem_of_getElem? (i := 712) (by decide +kernel), List.mem_of_getElem? (i := 713) (by decide +kernel)⟩
theorem lw_p19 : lw_okq (⟨"ClothForce$Reader", "refuseToken", "(LClothForce$Tape;)Z"⟩, 4) := ⟨⟨by decide +kernel, by decide +kernel⟩, List.mem_of_getElem? (i := 129) (by decide +kernel), List.mem_of_getElem? (i := 716) (by decide +kernel), List.mem_of_getElem? (i := 717) (by decide +kernel)⟩
theorem lw_p20 : lw_okq (⟨"ClothForce$Reader", "refuse", "(II)Z"⟩, 4) := ⟨⟨by decide +kernel, by decide +kernel⟩, List.mem_of_getElem? (i := 129) (by decide +kernel), List.mem_of_getElem? (i := 724) (by decide +kernel), List.mem_of_getElem? (i := 725) (by decide +kernel)⟩
theorem lw_p21 : lw_okq (⟨"ClothForce$Reader", "takeNumber", "(LClothForce$Tape;II)Z"⟩, 4) := ⟨⟨by decide +kernel, by decide +kernel⟩, List.mem_of_getElem? (i := 129) (by decide +kernel), List.mem_of_getElem? (i := 728) (by decide +kernel), List.mem_of_getElem? (i := 729) (by decide +kernel)⟩
theorem lw_p22 : lw_okq (⟨"ClothForce$Reader", "readRule", "(LClothForce$Tape;LClothForce$Rules;II)Z"⟩, 4) := ⟨⟨by decide +kernel, by decide +kernel⟩, List.mem_of_getElem? (i := 129) (by decide +kernel), List.mem_of_getElem? (i := 736) (by decide +kernel), List.mem_of_getElem? (i := 737) (by decide +kernel)⟩
theorem lw_p23 : lw_okq (⟨"ClothForce$Reader", "readTests", "(LClothForce$Tape;LClothForce$Rules;)Z"⟩, 4) := ⟨⟨by decide +kernel, by decide +kernel⟩, List.mem_of_getElem? (i := 129) (by decide +kernel), List.mem_of_getElem? (i := 748) (by decide +kernel), List.mem_of_getElem? (i := 749) (by decide +kernel)⟩
theorem lw_p24 : lw_okq (⟨"ClothForce", "priceOn", "(II)I"⟩, 14) := ⟨⟨by decide +kernel, by decide +kernel⟩, List.mem_of_getElem? (i := 24) (by decide +kernel), List.mem_of_getElem? (i := 772) (by decide +kernel), List.mem_of_getElem? (i := 773) (by decide +kernel)⟩
theorem lw_p25 : lw_okq (⟨"ClothForce", "chargeFor", "(I)I"⟩, 14) := ⟨⟨by decide +kernel, by decide +kernel⟩, List.mem_of_getElem? (i := 24) (by decide +kernel), List.mem_of_getElem? (i := 840) (by decide +kernel), List.mem_of_getElem? (i := 841) (by decide +kernel)⟩
theorem lw_p26 : lw_okq (⟨"ClothForce", "stockOf", "(II)I"⟩, 14) := ⟨⟨by decide +kernel, by decide +kernel⟩, List.mem_of_getElem? (i := 24) (by decide +kernel), List.mem_of_getElem? (i := 861) (by decide +kernel), List.mem_of_getElem? (i := 862) (by decide +kernel)⟩
theorem lw_p27 : lw_okq (⟨"ClothForce", "layOut", "(I)V"⟩, 14) := ⟨⟨by decide +kernel, by decide +kernel⟩, List.mem_of_getElem? (i := 24) (by decide +kernel), List.mem_of_getElem? (i := 869) (by decide +kernel), List.mem_of_getElem? (i := 870) (by decide +kernel)⟩
theorem lw_p28 : lw_okq (⟨"ClothForce$Parade", "windowFrom", "(II)J"⟩, 9) := ⟨⟨by decide +kernel, by decide +kernel⟩, List.mem_of_getElem? (i := 293) (by decide +kernel), List.mem_of_getElem? (i := 889) (by decide +kernel), List.mem_of_getElem? (i := 890) (by decide +kernel)⟩
theorem lw_p29 : lw_okq (⟨"ClothForce$Parade", "keepBetter", "(IJ)V"⟩, 9) := ⟨⟨by decide +kernel, by decide +kernel⟩, List.mem_of_getElem? (i := 293) (by decide +kernel), List.mem_of_getElem? (i := 899) (by decide +kernel), List.mem_of_getElem? (i := 900) (by decide +kernel)⟩
theorem lw_p30 : lw_okq (⟨"ClothForce$Parade", "dressable", "(IJ)I"⟩, 9) := ⟨⟨by decide +kernel, by decide +kernel⟩, List.mem_of_getElem? (i := 293) (by decide +kernel), List.mem_of_getElem? (i := 903) (by decide +kernel), List.mem_of_getElem? (i := 904) (by decide +kernel)⟩
theorem lw_p31 : lw_okq (⟨"ClothForce$Parade", "dress", "(IJ)Z"⟩, 9) := ⟨⟨by decide +kernel, by decide +kernel⟩, List.mem_of_getElem? (i := 293) (by decide +kernel), List.mem_of_getElem? (i := 908) (by decide +kernel), List.mem_of_getElem? (i := 909) (by decide +kernel)⟩
def lw_privs_2 : List (MethodName × Nat) := [(⟨"ClothForce$Tape", "numberIn", "(II)I"⟩, 6), (⟨"ClothForce$Tape", "keep", "(III)V"⟩, 6), (⟨"ClothForce$Reader", "readLine", "(LClothForce$Tape;LClothForce$Rules;)Z"⟩, 4), (⟨"ClothForce$Reader", "refuseToken", "(LClothForce$Tape;)Z"⟩, 4), (⟨"ClothForce$Reader", "refuse", "(II)Z"⟩, 4), (⟨"ClothForce$Reader", "takeNumber", "(LClothForce$Tape;II)Z"⟩, 4), (⟨"ClothForce$Reader", "readRule", "(LClothForce$Tape;LClothForce$Rules;II)Z"⟩, 4), (⟨"ClothForce$Reader", "readTests", "(LClothForce$Tape;LClothForce$Rules;)Z"⟩, 4), (⟨"ClothForce", "priceOn", "(II)I"⟩, 14), (⟨"ClothForce", "chargeFor", "(I)I"⟩, 14), (⟨"ClothForce", "stockOf", "(II)I"⟩, 14), (⟨"ClothForce", "layOut", "(I)V"⟩, 14), (⟨"ClothForce$Parade", "windowFrom", "(II)J"⟩, 9), (⟨"ClothForce$Parade", "keepBetter", "(IJ)V"⟩, 9), (⟨"ClothForce$Parade", "dressable", "(IJ)I"⟩, 9), (⟨"ClothForce$Parade", "dress", "(IJ)Z"⟩, 9)]
theorem lw_r2 : ∀ q ∈ lw_privs_2, lw_okq q := List.forall_mem_cons.mpr ⟨lw_p16, List.forall_mem_cons.mpr ⟨lw_p17, List.forall_mem_cons.mpr ⟨lw_p18, List.forall_mem_cons.mpr ⟨lw_p19, List.forall_mem_cons.mpr ⟨lw_p20, List.forall_mem_cons.mpr ⟨lw_p21, List.forall_mem_cons.mpr ⟨lw_p22, List.forall_mem_cons.mpr ⟨lw_p23, List.forall_mem_cons.mpr ⟨lw_p24, List.forall_mem_cons.mpr ⟨lw_p25, List.forall_mem_cons.mpr ⟨lw_p26, List.forall_mem_cons.mpr ⟨lw_p27, List.forall_mem_cons.mpr ⟨lw_p28, List.forall_mem_cons.mpr ⟨lw_p29, List.forall_mem_cons.mpr ⟨lw_p30, List.forall_mem_cons.mpr ⟨lw_p31, fun _ h => absurd h List.not_mem_nil⟩⟩⟩⟩⟩⟩⟩⟩⟩⟩⟩⟩⟩⟩⟩⟩
theorem lw_p32 : lw_okq (⟨"ClothForce$Parade", "handOn", "(I)V"⟩, 9) := ⟨⟨by decide +kernel, by decide +kernel⟩, List.mem_of_getElem? (i := 293) (by decide +kernel), List.mem_of_getElem? (i := 914) (by decide +kernel), List.mem_of_getElem? (i := 915) (by decide +kernel)⟩
theorem lw_p33 : lw_okq (⟨"ClothForce$Parade", "leastPiece", "(IJI)I"⟩, 9) := ⟨⟨by decide +kernel, by decide +kernel⟩, List.mem_of_getElem? (i := 293) (by decide +kernel), List.mem_of_getElem? (i := 922) (by decide +kernel), List.mem_of_getElem? (i := 923) (by decide +kernel)⟩
theorem lw_p34 : lw_okq (⟨"ClothForce", "planned", "(II)I"⟩, 14) := ⟨⟨by decide +kernel, by decide +kernel⟩, List.mem_of_getElem? (i := 24) (by decide +kernel), List.mem_of_getElem? (i := 930) (by decide +kernel), List.mem_of_getElem? (i := 931) (by decide +kernel)⟩
theorem lw_p35 : lw_okq (⟨"ClothForce$Stores", "spareBehind", "(I)I"⟩, 7) := ⟨⟨by decide +kernel, by decide +kernel⟩, List.mem_of_getElem? (i := 186) (by decide +kernel), List.mem_of_getElem? (i := 951) (by decide +kernel), List.mem_of_getElem? (i := 952) (by decide +kernel)⟩
theorem lw_p36 : lw_okq (⟨"ClothForce$Stores", "send", "(II)V"⟩, 7) := ⟨⟨by decide +kernel, by decide +kernel⟩, List.mem_of_getElem? (i := 186) (by decide +kernel), List.mem_of_getElem? (i := 955) (by decide +kernel), List.mem_of_getElem? (i := 956) (by decide +kernel)⟩
theorem lw_p37 : lw_okq (⟨"ClothForce", "refusalOfCell", "(III)I"⟩, 14) := ⟨⟨by decide +kernel, by decide +kernel⟩, List.mem_of_getElem? (i := 24) (by decide +kernel), List.mem_of_getElem? (i := 1043) (by decide +kernel), List.mem_of_getElem? (i := 1044) (by decide +kernel)⟩
theorem lw_p38 : lw_okq (⟨"ClothForceModel", "isBody", "(I)Z"⟩, 73) := ⟨⟨by decide +kernel, by decide +kernel⟩, List.mem_of_getElem? (i := 1063) (by decide +kernel), List.mem_of_getElem? (i := 1309) (by decide +kernel), List.mem_of_getElem? (i := 1310) (by decide +kernel)⟩
theorem lw_p39 : lw_okq (⟨"ClothForceModel", "tell", "(IIII)V"⟩, 73) := ⟨⟨by decide +kernel, by decide +kernel⟩, List.mem_of_getElem? (i := 1063) (by decide +kernel), List.mem_of_getElem? (i := 1321) (by decide +kernel), List.mem_of_getElem? (i := 1322) (by decide +kernel)⟩
theorem lw_p40 : lw_okq (⟨"ClothForceModel", "knownOf", "(IIII)I"⟩, 73) := ⟨⟨by decide +kernel, by decide +kernel⟩, List.mem_of_getElem? (i := 1063) (by decide +kernel), List.mem_of_getElem? (i := 1329) (by decide +kernel), List.mem_of_getElem? (i := 1330) (by decide +kernel)⟩
theorem lw_p41 : lw_okq (⟨"ClothForceModel", "hasOf", "(II)I"⟩, 73) := ⟨⟨by decide +kernel, by decide +kernel⟩, List.mem_of_getElem? (i := 1063) (by decide +kernel), List.mem_of_getElem? (i := 1339) (by decide +kernel), List.mem_of_getElem? (i := 1340) (by decide +kernel)⟩
theorem lw_p42 : lw_okq (⟨"ClothForceModel", "kindAt", "(I)I"⟩, 73) := ⟨⟨by decide +kernel, by decide +kernel⟩, List.mem_of_getElem? (i := 1063) (by decide +kernel), List.mem_of_getElem? (i := 1343) (by decide +kernel), List.mem_of_getElem? (i := 1344) (by decide +kernel)⟩
theorem lw_p43 : lw_okq (⟨"ClothForceModel", "isWornOut", "(I)Z"⟩, 73) := ⟨⟨by decide +kernel, by decide +kernel⟩, List.mem_of_getElem? (i := 1063) (by decide +kernel), List.mem_of_getElem? (i := 1347) (by decide +kernel), List.mem_of_getElem? (i := 1348) (by decide +kernel)⟩
theorem lw_p44 : lw_okq (⟨"ClothForceModel", "wornOf", "(I)I"⟩, 73) := ⟨⟨by decide +kernel, by decide +kernel⟩, List.mem_of_getElem? (i := 1063) (by decide +kernel), List.mem_of_getElem? (i := 1351) (by decide +kernel), List.mem_of_getElem? (i := 1352) (by decide +kernel)⟩
theorem lw_p45 : lw_okq (⟨"ClothForceModel", "ruleOf", "(III)I"⟩, 73) := ⟨⟨by decide +kernel, by decide +kernel⟩, List.mem_of_getElem? (i := 1063) (by decide +kernel), List.mem_of_getElem? (i := 1355) (by decide +kernel), List.mem_of_getElem? (i := 1356) (by decide +kernel)⟩
theorem lw_p46 : lw_okq (⟨"ClothForceModel", "dueOf", "(III)I"⟩, 73) := ⟨⟨by decide +kernel, by decide +kernel⟩, List.mem_of_getElem? (i := 1063) (by decide +kernel), List.mem_of_getElem? (i := 1361) (by decide +kernel), List.mem_of_getElem? (i := 1362) (by decide +kernel)⟩
theorem lw_p47 : lw_okq (⟨"ClothForceModel", "doHold", "(II)Z"⟩, 73) := ⟨⟨by decide +kernel, by decide +kernel⟩, List.mem_of_getElem? (i := 1063) (by decide +kernel), List.mem_of_getElem? (i := 1365) (by decide +kernel), List.mem_of_getElem? (i := 1366) (by decide +kernel)⟩
def lw_privs_3 : List (MethodName × Nat) := [(⟨"ClothForce$Parade", "handOn", "(I)V"⟩, 9), (⟨"ClothForce$Parade", "leastPiece", "(IJI)I"⟩, 9), (⟨"ClothForce", "planned", "(II)I"⟩, 14), (⟨"ClothForce$Stores", "spareBehind", "(I)I"⟩, 7), (⟨"ClothForce$Stores", "send", "(II)V"⟩, 7), (⟨"ClothForce", "refusalOfCell", "(III)I"⟩, 14), (⟨"ClothForceModel", "isBody", "(I)Z"⟩, 73), (⟨"ClothForceModel", "tell", "(IIII)V"⟩, 73), (⟨"ClothForceModel", "knownOf", "(IIII)I"⟩, 73), (⟨"ClothForceModel", "hasOf", "(II)I"⟩, 73), (⟨"ClothForceModel", "kindAt", "(I)I"⟩, 73), (⟨"ClothForceModel", "isWornOut", "(I)Z"⟩, 73), (⟨"ClothForceModel", "wornOf", "(I)I"⟩, 73), (⟨"ClothForceModel", "ruleOf", "(III)I"⟩, 73), (⟨"ClothForceModel", "dueOf", "(III)I"⟩, 73), (⟨"ClothForceModel", "doHold", "(II)Z"⟩, 73)]
theorem lw_r3 : ∀ q ∈ lw_privs_3, lw_okq q := List.forall_mem_cons.mpr ⟨lw_p32, List.forall_mem_cons.mpr ⟨lw_p33, List.forall_mem_cons.mpr ⟨lw_p34, List.forall_mem_cons.mpr ⟨lw_p35, List.forall_mem_cons.mpr ⟨lw_p36, List.forall_mem_cons.mpr ⟨lw_p37, List.forall_mem_cons.mpr ⟨lw_p38, List.forall_mem_cons.mpr ⟨lw_p39, List.forall_mem_cons.mpr ⟨lw_p40, List.forall_mem_cons.mpr ⟨lw_p41, List.forall_mem_cons.mpr ⟨lw_p42, List.forall_mem_cons.mpr ⟨lw_p43, List.forall_mem_cons.mpr ⟨lw_p44, List.forall_mem_cons.mpr ⟨lw_p45, List.forall_mem_cons.mpr ⟨lw_p46, List.forall_mem_cons.mpr ⟨lw_p47, fun _ h => absurd h List.not_mem_nil⟩⟩⟩⟩⟩⟩⟩⟩⟩⟩⟩⟩⟩⟩⟩⟩
theorem lw_p48 : lw_okq (⟨"ClothForceModel", "doesFit", "(III)Z"⟩, 73) := ⟨⟨by decide +kernel, by decide +kernel⟩, List.mem_of_getElem? (i := 1063) (by decide +kernel), List.mem_of_getElem? (i := 1378) (by decide +kernel), List.mem_of_getElem? (i := 1379) (by decide +kernel)⟩
theorem lw_p49 : lw_okq (⟨"ClothForceModel", "fittedBy", "(I)I"⟩, 73) := ⟨⟨by decide +kernel, by decide +kernel⟩, List.mem_of_getElem? (i := 1063) (by decide +kernel), List.mem_of_getElem? (i := 1393) (by decide +kernel), List.mem_of_getElem? (i := 1394) (by decide +kernel)⟩
theorem lw_p50 : lw_okq (⟨"ClothForceModel", "next", "()V"⟩, 73) := ⟨⟨by decide +kernel, by decide +kernel⟩, List.mem_of_getElem? (i := 1063) (by decide +kernel), List.mem_of_getElem? (i := 1409) (by decide +kernel), List.mem_of_getElem? (i := 1410) (by decide +kernel)⟩
theorem lw_p51 : lw_okq (⟨"ClothForceModel", "byteAt", "(I)I"⟩, 73) := ⟨⟨by decide +kernel, by decide +kernel⟩, List.mem_of_getElem? (i := 1063) (by decide +kernel), List.mem_of_getElem? (i := 1413) (by decide +kernel), List.mem_of_getElem? (i := 1414) (by decide +kernel)⟩
theorem lw_p52 : lw_okq (⟨"ClothForceModel", "nameAt", "(II)I"⟩, 73) := ⟨⟨by decide +kernel, by decide +kernel⟩, List.mem_of_getElem? (i := 1063) (by decide +kernel), List.mem_of_getElem? (i := 1419) (by decide +kernel), List.mem_of_getElem? (i := 1420) (by decide +kernel)⟩
theorem lw_p53 : lw_okq (⟨"ClothForceModel", "fails", "(I)V"⟩, 73) := ⟨⟨by decide +kernel, by decide +kernel⟩, List.mem_of_getElem? (i := 1063) (by decide +kernel), List.mem_of_getElem? (i := 1423) (by decide +kernel), List.mem_of_getElem? (i := 1424) (by decide +kernel)⟩
theorem lw_p54 : lw_okq (⟨"ClothForceModel", "oneLine", "()V"⟩, 73) := ⟨⟨by decide +kernel, by decide +kernel⟩, List.mem_of_getElem? (i := 1063) (by decide +kernel), List.mem_of_getElem? (i := 1429) (by decide +kernel), List.mem_of_getElem? (i := 1430) (by decide +kernel)⟩
theorem lw_p55 : lw_okq (⟨"ClothForceModel", "isName", "(I)Z"⟩, 73) := ⟨⟨by decide +kernel, by decide +kernel⟩, List.mem_of_getElem? (i := 1063) (by decide +kernel), List.mem_of_getElem? (i := 1433) (by decide +kernel), List.mem_of_getElem? (i := 1434) (by decide +kernel)⟩
theorem lw_p56 : lw_okq (⟨"ClothForceModel", "isRule", "()Z"⟩, 73) := ⟨⟨by decide +kernel, by decide +kernel⟩, List.mem_of_getElem? (i := 1063) (by decide +kernel), List.mem_of_getElem? (i := 1437) (by decide +kernel), List.mem_of_getElem? (i := 1438) (by decide +kernel)⟩
theorem lw_p57 : lw_okq (⟨"ClothForceModel", "number", "(II)I"⟩, 73) := ⟨⟨by decide +kernel, by decide +kernel⟩, List.mem_of_getElem? (i := 1063) (by decide +kernel), List.mem_of_getElem? (i := 1441) (by decide +kernel), List.mem_of_getElem? (i := 1442) (by decide +kernel)⟩
theorem lw_p58 : lw_okq (⟨"ClothForceModel", "test", "()V"⟩, 73) := ⟨⟨by decide +kernel, by decide +kernel⟩, List.mem_of_getElem? (i := 1063) (by decide +kernel), List.mem_of_getElem? (i := 1445) (by decide +kernel), List.mem_of_getElem? (i := 1446) (by decide +kernel)⟩
theorem lw_p59 : lw_okq (⟨"ClothForceModel", "isStore", "(I)Z"⟩, 73) := ⟨⟨by decide +kernel, by decide +kernel⟩, List.mem_of_getElem? (i := 1063) (by decide +kernel), List.mem_of_getElem? (i := 1473) (by decide +kernel), List.mem_of_getElem? (i := 1474) (by decide +kernel)⟩
theorem lw_p60 : lw_okq (⟨"ClothForceModel", "isPiece", "(I)Z"⟩, 73) := ⟨⟨by decide +kernel, by decide +kernel⟩, List.mem_of_getElem? (i := 1063) (by decide +kernel), List.mem_of_getElem? (i := 1486) (by decide +kernel), List.mem_of_getElem? (i := 1487) (by decide +kernel)⟩
theorem lw_p61 : lw_okq (⟨"ClothForceModel", "leaves", "(I)V"⟩, 73) := ⟨⟨by decide +kernel, by decide +kernel⟩, List.mem_of_getElem? (i := 1063) (by decide +kernel), List.mem_of_getElem? (i := 1498) (by decide +kernel), List.mem_of_getElem? (i := 1499) (by decide +kernel)⟩
theorem lw_p62 : lw_okq (⟨"ClothForceModel", "isGone", "(I)Z"⟩, 73) := ⟨⟨by decide +kernel, by decide +kernel⟩, List.mem_of_getElem? (i := 1063) (by decide +kernel), List.mem_of_getElem? (i := 1514) (by decide +kernel), List.mem_of_getElem? (i := 1515) (by decide +kernel)⟩
theorem lw_p63 : lw_okq (⟨"ClothForceModel", "stockOf", "(II)I"⟩, 73) := ⟨⟨by decide +kernel, by decide +kernel⟩, List.mem_of_getElem? (i := 1063) (by decide +kernel), List.mem_of_getElem? (i := 1522) (by decide +kernel), List.mem_of_getElem? (i := 1523) (by decide +kernel)⟩
def lw_privs_4 : List (MethodName × Nat) := [(⟨"ClothForceModel", "doesFit", "(III)Z"⟩, 73), (⟨"ClothForceModel", "fittedBy", "(I)I"⟩, 73), (⟨"ClothForceModel", "next", "()V"⟩, 73), (⟨"ClothForceModel", "byteAt", "(I)I"⟩, 73), (⟨"ClothForceModel", "nameAt", "(II)I"⟩, 73), (⟨"ClothForceModel", "fails", "(I)V"⟩, 73), (⟨"ClothForceModel", "oneLine", "()V"⟩, 73), (⟨"ClothForceModel", "isName", "(I)Z"⟩, 73), (⟨"ClothForceModel", "isRule", "()Z"⟩, 73), (⟨"ClothForceModel", "number", "(II)I"⟩, 73), (⟨"ClothForceModel", "test", "()V"⟩, 73), (⟨"ClothForceModel", "isStore", "(I)Z"⟩, 73), (⟨"ClothForceModel", "isPiece", "(I)Z"⟩, 73), (⟨"ClothForceModel", "leaves", "(I)V"⟩, 73), (⟨"ClothForceModel", "isGone", "(I)Z"⟩, 73), (⟨"ClothForceModel", "stockOf", "(II)I"⟩, 73)]
theorem lw_r4 : ∀ q ∈ lw_privs_4, lw_okq q := List.forall_mem_cons.mpr ⟨lw_p48, List.forall_mem_cons.mpr ⟨lw_p49, List.forall_mem_cons.mpr ⟨lw_p50, List.forall_mem_cons.mpr ⟨lw_p51, List.forall_mem_cons.mpr ⟨lw_p52, List.forall_mem_cons.mpr ⟨lw_p53, List.forall_mem_cons.mpr ⟨lw_p54, List.forall_mem_cons.mpr ⟨lw_p55, List.forall_mem_cons.mpr ⟨lw_p56, List.forall_mem_cons.mpr ⟨lw_p57, List.forall_mem_cons.mpr ⟨lw_p58, List.forall_mem_cons.mpr ⟨lw_p59, List.forall_mem_cons.mpr ⟨lw_p60, List.forall_mem_cons.mpr ⟨lw_p61, List.forall_mem_cons.mpr ⟨lw_p62, List.forall_mem_cons.mpr ⟨lw_p63, fun _ h => absurd h List.not_mem_nil⟩⟩⟩⟩⟩⟩⟩⟩⟩⟩⟩⟩⟩⟩⟩⟩
theorem lw_p64 : lw_okq (⟨"ClothForceModel", "most", "(III)I"⟩, 73) := ⟨⟨by decide +kernel, by decide +kernel⟩, List.mem_of_getElem? (i := 1063) (by decide +kernel), List.mem_of_getElem? (i := 1530) (by decide +kernel), List.mem_of_getElem? (i := 1531) (by decide +kernel)⟩
theorem lw_p65 : lw_okq (⟨"ClothForceModel", "joins", "(III)Z"⟩, 73) := ⟨⟨by decide +kernel, by decide +kernel⟩, List.mem_of_getElem? (i := 1063) (by decide +kernel), List.mem_of_getElem? (i := 1534) (by decide +kernel), List.mem_of_getElem? (i := 1535) (by decide +kernel)⟩
theorem lw_p66 : lw_okq (⟨"ClothForceModel", "isIn", "(III)Z"⟩, 73) := ⟨⟨by decide +kernel, by decide +kernel⟩, List.mem_of_getElem? (i := 1063) (by decide +kernel), List.mem_of_getElem? (i := 1538) (by decide +kernel), List.mem_of_getElem? (i := 1539) (by decide +kernel)⟩
theorem lw_p67 : lw_okq (⟨"ClothForceModel", "shift", "(II)V"⟩, 73) := ⟨⟨by decide +kernel, by decide +kernel⟩, List.mem_of_getElem? (i := 1063) (by decide +kernel), List.mem_of_getElem? (i := 1542) (by decide +kernel), List.mem_of_getElem? (i := 1543) (by decide +kernel)⟩
theorem lw_p68 : lw_okq (⟨"ClothForceModel", "layParade", "(III)V"⟩, 73) := ⟨⟨by decide +kernel, by decide +kernel⟩, List.mem_of_getElem? (i := 1063) (by decide +kernel), List.mem_of_getElem? (i := 1546) (by decide +kernel), List.mem_of_getElem? (i := 1547) (by decide +kernel)⟩
theorem lw_p69 : lw_okq (⟨"ClothForceModel", "areDigits", "(I)Z"⟩, 73) := ⟨⟨by decide +kernel, by decide +kernel⟩, List.mem_of_getElem? (i := 1063) (by decide +kernel), List.mem_of_getElem? (i := 1554) (by decide +kernel), List.mem_of_getElem? (i := 1555) (by decide +kernel)⟩
theorem lw_p70 : lw_okq (⟨"ClothForceModel", "layMore", "(II)Z"⟩, 73) := ⟨⟨by decide +kernel, by decide +kernel⟩, List.mem_of_getElem? (i := 1063) (by decide +kernel), List.mem_of_getElem? (i := 1558) (by decide +kernel), List.mem_of_getElem? (i := 1559) (by decide +kernel)⟩
theorem lw_p71 : lw_okq (⟨"ClothForceModel", "leastCost", "()I"⟩, 73) := ⟨⟨by decide +kernel, by decide +kernel⟩, List.mem_of_getElem? (i := 1063) (by decide +kernel), List.mem_of_getElem? (i := 1562) (by decide +kernel), List.mem_of_getElem? (i := 1563) (by decide +kernel)⟩
theorem lw_p72 : lw_okq (⟨"ClothForceModel", "layPairs", "()V"⟩, 73) := ⟨⟨by decide +kernel, by decide +kernel⟩, List.mem_of_getElem? (i := 1063) (by decide +kernel), List.mem_of_getElem? (i := 1566) (by decide +kernel), List.mem_of_getElem? (i := 1567) (by decide +kernel)⟩
theorem lw_p73 : lw_okq (⟨"ClothForceModel", "costNow", "()I"⟩, 73) := ⟨⟨by decide +kernel, by decide +kernel⟩, List.mem_of_getElem? (i := 1063) (by decide +kernel), List.mem_of_getElem? (i := 1570) (by decide +kernel), List.mem_of_getElem? (i := 1571) (by decide +kernel)⟩
theorem lw_p74 : lw_okq (⟨"ClothForceModel", "manyOf", "(I)I"⟩, 73) := ⟨⟨by decide +kernel, by decide +kernel⟩, List.mem_of_getElem? (i := 1063) (by decide +kernel), List.mem_of_getElem? (i := 1583) (by decide +kernel), List.mem_of_getElem? (i := 1584) (by decide +kernel)⟩
theorem lw_p75 : lw_okq (⟨"ClothForceModel", "failedOf", "(I)I"⟩, 73) := ⟨⟨by decide +kernel, by decide +kernel⟩, List.mem_of_getElem? (i := 1063) (by decide +kernel), List.mem_of_getElem? (i := 1587) (by decide +kernel), List.mem_of_getElem? (i := 1588) (by decide +kernel)⟩
theorem lw_p76 : lw_okq (⟨"ClothForceModel", "layChoices", "()V"⟩, 73) := ⟨⟨by decide +kernel, by decide +kernel⟩, List.mem_of_getElem? (i := 1063) (by decide +kernel), List.mem_of_getElem? (i := 1591) (by decide +kernel), List.mem_of_getElem? (i := 1592) (by decide +kernel)⟩
theorem lw_p77 : lw_okq (⟨"ClothForceModel", "tail", "(I)J"⟩, 73) := ⟨⟨by decide +kernel, by decide +kernel⟩, List.mem_of_getElem? (i := 1063) (by decide +kernel), List.mem_of_getElem? (i := 1595) (by decide +kernel), List.mem_of_getElem? (i := 1596) (by decide +kernel)⟩
def lw_privs_5 : List (MethodName × Nat) := [(⟨"ClothForceModel", "most", "(III)I"⟩, 73), (⟨"ClothForceModel", "joins", "(III)Z"⟩, 73), (⟨"ClothForceModel", "isIn", "(III)Z"⟩, 73), (⟨"ClothForceModel", "shift", "(II)V"⟩, 73), (⟨"ClothForceModel", "layParade", "(III)V"⟩, 73), (⟨"ClothForceModel", "areDigits", "(I)Z"⟩, 73), (⟨"ClothForceModel", "layMore", "(II)Z"⟩, 73), (⟨"ClothForceModel", "leastCost", "()I"⟩, 73), (⟨"ClothForceModel", "layPairs", "()V"⟩, 73), (⟨"ClothForceModel", "costNow", "()I"⟩, 73), (⟨"ClothForceModel", "manyOf", "(I)I"⟩, 73), (⟨"ClothForceModel", "failedOf", "(I)I"⟩, 73), (⟨"ClothForceModel", "layChoices", "()V"⟩, 73), (⟨"ClothForceModel", "tail", "(I)J"⟩, 73)]
theorem lw_r5 : ∀ q ∈ lw_privs_5, lw_okq q := List.forall_mem_cons.mpr ⟨lw_p64, List.forall_mem_cons.mpr ⟨lw_p65, List.forall_mem_cons.mpr ⟨lw_p66, List.forall_mem_cons.mpr ⟨lw_p67, List.forall_mem_cons.mpr ⟨lw_p68, List.forall_mem_cons.mpr ⟨lw_p69, List.forall_mem_cons.mpr ⟨lw_p70, List.forall_mem_cons.mpr ⟨lw_p71, List.forall_mem_cons.mpr ⟨lw_p72, List.forall_mem_cons.mpr ⟨lw_p73, List.forall_mem_cons.mpr ⟨lw_p74, List.forall_mem_cons.mpr ⟨lw_p75, List.forall_mem_cons.mpr ⟨lw_p76, List.forall_mem_cons.mpr ⟨lw_p77, fun _ h => absurd h List.not_mem_nil⟩⟩⟩⟩⟩⟩⟩⟩⟩⟩⟩⟩⟩⟩
def lw_privs : List (MethodName × Nat) := lw_privs_1 ++ (lw_privs_2 ++ (lw_privs_3 ++ (lw_privs_4 ++ (lw_privs_5))))
def lw_tbl : List Cond := k2_sels lw_privs ++ tables_1
theorem lw_privs_ok : ∀ q ∈ lw_privs, lw_okq q := by
  show ∀ q ∈ lw_privs_1 ++ (lw_privs_2 ++ (lw_privs_3 ++ (lw_privs_4 ++ (lw_privs_5)))), lw_okq q
  exact List.forall_mem_append.mpr ⟨lw_r1, List.forall_mem_append.mpr ⟨lw_r2, List.forall_mem_append.mpr ⟨lw_r3, List.forall_mem_append.mpr ⟨lw_r4, lw_r5⟩⟩⟩⟩

def va_AOA (ty : FieldType) (U : State) : Prop := (Cond.arrayOver (.array ty)).before #[] U = true
theorem va_AOA.of {ty : FieldType} {A : Array Value} {U : State} (h : (Cond.arrayOver (.array ty)).before A U = true) : va_AOA ty U := h
theorem va_AOA.use {ty : FieldType} {A : Array Value} {U : State} (h : va_AOA ty U) : (Cond.arrayOver (.array ty)).before A U = true := h
/-! ===== BEGIN new T[n][m]: the outer array a place, the inner ones among the pooled ===== -/
/-- f, but v at every address of l -/
def vr_up {α : Type} (f : Nat → α) (l : List Nat) (v : α) : Nat → α := fun a => if a ∈ l then v else f a
theorem vr_up_in {α : Type} {f : Nat → α} {l : List Nat} {v : α} {a : Nat} (h : a ∈ l) : vr_up f l v a = v := if_pos h
theorem vr_up_ne {α : Type} {f : Nat → α} {l : List Nat} {v : α} {a : Nat} (h : a ∉ l) : vr_up f l v a = f a := if_neg h
theorem vr_rows {L l : List Nat} {f : Nat → va_E} {e : va_E} (h : ∀ a, a ∈ l → a ∉ L) : va_pl L f ++ l.map (fun a => (a, e)) = va_pl (L ++ l) (vr_up f l e) := by
  unfold va_pl
  rw [List.map_append]
  congr 1
  · apply List.map_congr_left
    intro a ha
    rw [vr_up_ne (fun q => h a q ha)]
  · apply List.map_congr_left
    intro a ha
    rw [vr_up_in ha]
theorem vr_lay {X rows : va_W} {x : Nat × va_E} {pl : va_W} {D : va_G} {cl : List vw_C} {H : Heap} (hP : va_P D cl (((X ++ pl) ++ [x]) ++ rows) H) : va_P D cl ((X ++ [x]) ++ (pl ++ rows)) H := by
  rw [List.append_assoc (X ++ pl)] at hP
  have h := va_P.swap hP
  rw [← List.append_assoc X] at h
  have h2 := va_P.swap h
  rw [List.append_assoc (X ++ [x])] at h2
  exact h2
theorem vr_layD {X rows : va_W} {x : Nat × va_E} {pl : va_W} {A : Nat → Prop} (hD : va_D A (((X ++ pl) ++ [x]) ++ rows)) : va_D A ((X ++ [x]) ++ (pl ++ rows)) := by
  rw [List.append_assoc (X ++ pl)] at hD
  have h := va_D.swap hD
  rw [← List.append_assoc X] at h
  have h2 := va_D.swap h
  rw [List.append_assoc (X ++ [x])] at h2
  exact h2
theorem vr_outer (c : ClassId) (N h0 : Nat) : ∀ i : Nat, Jvm.Free.Multi.outerC c N h0 i = arrV c N (fun j => va_rf (if j < i then some (h0 + 1 + j) else none))
  | 0 => by
    show ({ cls := c, slots := Array.replicate N .null, vm := .none } : Cell) = _
    rw [arrV_new]
    refine congrArg (arrV c N) (funext fun j => ?_)
    simp [va_rf]
  | i + 1 => by
    show (Jvm.Free.Multi.outerC c N h0 i).setSlot i (.ref (h0 + 1 + i)) = _
    rw [vr_outer c N h0 i, arrV_store]
    refine congrArg (arrV c N) (funext fun j => ?_)
    by_cases e : j = i
    · subst e
      simp [updV, va_rf]
    · by_cases h : j < i
      · simp [updV, e, h, Nat.lt_succ_of_lt h]
      · simp [updV, e, h, show ¬ j < i + 1 by omega]
section VGM
variable {p : Program} {l : Launch} {e : Env} {R : Room} {s : State} {m : MethodId} {args : Array Value} {below : List Frame} {meth : Method} {c : Code} {H : Heap} {locs : List Loc} {cells slots : Nat} {Q : State → Prop}
variable {cc : ByteArray} {pc : Nat} {ls : Array Slot} {rest : List Value} {D : va_G} {cl : List vw_C} {A : Nat → Prop} {a : Nat} {tys : List (ClassId × FieldType)} {ws : va_W} {H0 : Heap}
theorem va_mna {X : va_W} {L : List Nat} {f : Nat → va_E} {cc : ByteArray} (hexec : p.tables.exec = Jvm.exec) (hb : c.code = cc) {own : String} {index : Nat} {ty : FieldType} {cy : ClassId} (hown : s.vm.findClass own = some m.cls) (hclink : (Cond.classLink own index ("[" ++ (FieldType.array ty).toString)).before args s = true) (hover : va_AOA ty s) (harr : (Cond.arrayClass ty).before args s = true) (hcy : s.vm.findClass (FieldType.array ty).toString = some cy)
    (hK : va_K D cl tys s) (hP : va_P D cl (X ++ va_pl L f) H) (hD : va_D A (X ++ va_pl L f)) (hS : va_S A H0 H locs) (hA : ∀ q, H0.size ≤ q → A q) {n k : Int32} {N' K' : Nat} {z : vp_A} (hn : ¬ n < 0) (hk : ¬ k < 0) (hN : n.toNatClampNeg = N') (hM : k.toNatClampNeg = K')
    (hb1 : N' * 4 ≤ 536870912) (hb2 : K' * componentBytes ty ≤ 536870912) (hb3 : K' ≤ 536870912) (hdf : fits ty (defaultValue ty) = true) (hdd : (defaultValue ty).isDefault = true) (hcells : cells + (1 + N') ≤ R.cells) (hslots : slots + (N' + N' * K') ≤ R.slots) (hz : ∀ c : ClassId, Jvm.Free.Multi.innerC c K' (defaultValue ty) = vp_cell c z) (hdg : decode cc pc = .ok (.multianewarray index 2, 4))
    (kk : ∀ (q : Nat) (r : Nat → Nat) (cA : ClassId) (H1 : Heap), (∀ i j : Nat, i < N' → j < N' → r i = r j → i = j) → (∀ i : Nat, i < N' → r i ∉ L) → va_K D cl (tys ++ [(cA, .array ty)]) s →
      va_P D cl ((X ++ [(q, .inl (cA, N', .inr (.inr (.inr (.inr (fun i => if i < N' then some (r i) else none))))))]) ++ va_pl (L ++ (List.range N').map r) (vr_up f ((List.range N').map r) (.inl (cy, z)))) H1 → va_D A ((X ++ [(q, .inl (cA, N', .inr (.inr (.inr (.inr (fun i => if i < N' then some (r i) else none))))))]) ++ va_pl (L ++ (List.range N').map r) (vr_up f ((List.range N').map r) (.inl (cy, z)))) → va_S A H0 H1 locs →
      W p l e R s m args below meth c H1 locs (cells + 1 + N') (slots + N' + N' * K') Q (F0 m (pc + 4) ls (.ref q :: rest))) : W p l e R s m args below meth c H locs cells slots Q (F0 m pc ls (.int k :: .int n :: rest)) := by
  subst hN
  subst hM
  intro T hT Xs
  obtain ⟨vm₁, cA, comp, -, fA, fC, hO, -, X', step⟩ := Xs.multianewarray2F hexec hown hclink (va_AOA.use hover) harr (g := F0 m pc ls (.int k :: .int n :: rest)) rfl (by rw [hb]; exact hdg) rfl hn hk hb1 hb2 hb3 hdf hdd hcells hslots
  have ec : some cy = some comp := hcy.symm.trans fC
  cases ec
  generalize hF : Jvm.Free.Multi.fill (T.setVm vm₁) cA cy n.toNatClampNeg k.toNatClampNeg (defaultValue ty) n.toNatClampNeg = F at X' step
  have hTh : (T.setVm vm₁).heap = H := hT
  obtain ⟨f1, f2, -, -⟩ := Jvm.Free.Multi.fill_facts (T.setVm vm₁) cA cy n.toNatClampNeg k.toNatClampNeg (defaultValue ty) n.toNatClampNeg
  rw [hF, hTh] at f1 f2
  have hold : ∀ x : Nat, x < H.size → F.heap[x]? = H[x]? := fun x hx => by
    have := Jvm.Free.Multi.fill_old (T.setVm vm₁) cA cy n.toNatClampNeg k.toNatClampNeg (defaultValue ty) (a := x) (by rw [hTh]; exact hx) n.toNatClampNeg
    rw [hF, hTh] at this
    exact this
  have hrow : ∀ j : Nat, j < n.toNatClampNeg → F.heap[H.size + 1 + j]? = some (vp_cell cy z) := fun j hj => by
    have := Jvm.Free.Multi.fill_inner (T.setVm vm₁) cA cy n.toNatClampNeg k.toNatClampNeg (defaultValue ty) n.toNatClampNeg j hj
    rw [hF, hTh, hz] at this
    exact this
  have hout : Jvm.Free.Multi.outerC cA n.toNatClampNeg H.size n.toNatClampNeg = vp_cell cA (n.toNatClampNeg, .inr (.inr (.inr (.inr (fun i => if i < n.toNatClampNeg then some (H.size + 1 + i) else none))))) := by
    rw [vp_cell_q]
    exact vr_outer cA n.toNatClampNeg H.size n.toNatClampNeg
  rw [hout] at f2
  have hlt : ∀ a, a ∈ L → a < H.size := fun a ha => by
    obtain ⟨k9, hk9⟩ := va_pl_get (X := X) (f := f) ha
    exact (hP k9 _ hk9).lt
  have hnl : ∀ i : Nat, i < n.toNatClampNeg → H.size + 1 + i ∉ L := fun i _ h => by
    have := hlt _ h
    omega
  have hnm : ∀ a, a ∈ (List.range n.toNatClampNeg).map (fun i => H.size + 1 + i) → a ∉ L := fun a ha h => by
    obtain ⟨i, -, rfl⟩ := List.mem_map.mp ha
    have := hlt _ h
    omega
  have hP0 : va_P D cl (X ++ va_pl L f) F.heap := hP.kept (fun k9 x hx => hold x.1 ((hP k9 x hx).lt))
  have hP1 : va_P D cl ((X ++ va_pl L f) ++ [(H.size, .inl (cA, n.toNatClampNeg, .inr (.inr (.inr (.inr (fun i => if i < n.toNatClampNeg then some (H.size + 1 + i) else none))))))]) F.heap := hP0.app (fun k9 x hx => by
    have h0 : k9 < 1 := (List.getElem?_eq_some_iff.mp hx).1
    rw [show k9 = 0 by omega] at hx
    cases hx
    exact f2)
  have hP2 : va_P D cl (((X ++ va_pl L f) ++ [(H.size, .inl (cA, n.toNatClampNeg, .inr (.inr (.inr (.inr (fun i => if i < n.toNatClampNeg then some (H.size + 1 + i) else none))))))]) ++ ((List.range n.toNatClampNeg).map (fun i => H.size + 1 + i)).map (fun a => (a, .inl (cy, z)))) F.heap := hP1.app (fun k9 x hx => by
    obtain ⟨a, ha, rfl⟩ := List.mem_map.mp (List.mem_of_getElem? hx)
    obtain ⟨i, hi, rfl⟩ := List.mem_map.mp ha
    exact hrow i (List.mem_range.mp hi))
  have hD2 : va_D A (((X ++ va_pl L f) ++ [(H.size, .inl (cA, n.toNatClampNeg, .inr (.inr (.inr (.inr (fun i => if i < n.toNatClampNeg then some (H.size + 1 + i) else none))))))]) ++ ((List.range n.toNatClampNeg).map (fun i => H.size + 1 + i)).map (fun a => (a, .inl (cy, z)))) := by
    have hD1 := hD.push (e := .inl (cA, n.toNatClampNeg, .inr (.inr (.inr (.inr (fun i => if i < n.toNatClampNeg then some (H.size + 1 + i) else none)))))) hP rfl (hA _ hS.1)
    generalize hW1 : (X ++ va_pl L f) ++ [(H.size, .inl (cA, n.toNatClampNeg, .inr (.inr (.inr (.inr (fun i => if i < n.toNatClampNeg then some (H.size + 1 + i) else none))))))] = W1 at hD1 hP1 ⊢
    have hle : ∀ (k9 : Nat) (x : Nat × va_E), W1[k9]? = some x → x.1 ≤ H.size := fun k9 x hx => by
      rw [← hW1] at hx
      by_cases hl : k9 < (X ++ va_pl L f).length
      · rw [List.getElem?_append_left hl] at hx
        exact Nat.le_of_lt ((hP k9 x hx).lt)
      · rw [List.getElem?_append_right (by omega)] at hx
        have h0 : k9 - (X ++ va_pl L f).length < 1 := (List.getElem?_eq_some_iff.mp hx).1
        rw [show k9 - (X ++ va_pl L f).length = 0 by omega] at hx
        cases hx
        exact Nat.le_refl _
    have hr : ∀ (k9 : Nat) (x : Nat × va_E), (((List.range n.toNatClampNeg).map (fun i => H.size + 1 + i)).map (fun a => ((a, .inl (cy, z)) : Nat × va_E)))[k9]? = some x → x.1 = H.size + 1 + k9 := fun k9 x hx => by
      rw [List.getElem?_map, List.getElem?_map] at hx
      by_cases h9 : k9 < n.toNatClampNeg
      · rw [List.getElem?_range h9] at hx
        cases hx
        rfl
      · have hn0 : (List.range n.toNatClampNeg)[k9]? = none := List.getElem?_eq_none (by rw [List.length_range]; omega)
        rw [hn0] at hx
        cases hx
    refine ⟨fun i j x y hi hj hxy => ?_, fun k9 x hx => ?_⟩
    · by_cases h1 : i < W1.length <;> by_cases h2 : j < W1.length
      · rw [List.getElem?_append_left h1] at hi
        rw [List.getElem?_append_left h2] at hj
        exact hD1.1 i j x y hi hj hxy
      · rw [List.getElem?_append_left h1] at hi
        rw [List.getElem?_append_right (by omega)] at hj
        have := hle _ _ hi
        have := hr _ _ hj
        omega
      · rw [List.getElem?_append_right (by omega)] at hi
        rw [List.getElem?_append_left h2] at hj
        have := hle _ _ hj
        have := hr _ _ hi
        omega
      · rw [List.getElem?_append_right (by omega)] at hi hj
        have := hr _ _ hi
        have := hr _ _ hj
        omega
    · by_cases h1 : k9 < W1.length
      · rw [List.getElem?_append_left h1] at hx
        exact hD1.2 k9 x hx
      · rw [List.getElem?_append_right (by omega)] at hx
        have := hr _ _ hx
        exact hA _ (by have := hS.1; omega)
  have hAr : ArrOfT s cA (.array ty) := fun N9 z9 => by
    obtain ⟨-, k9, hk9, cm9, hkk9⟩ := (hO 0 0 0).1
    exact ⟨(fun q hq => by cases hq), k9, hk9, cm9, hkk9⟩
  have hK2 : va_K D cl (tys ++ [(cA, .array ty)]) s := ⟨hK.1, fun k9 x hx => by
    by_cases hl : k9 < tys.length
    · rw [List.getElem?_append_left hl] at hx
      exact hK.2 k9 x hx
    · rw [List.getElem?_append_right (by omega)] at hx
      have h0 : k9 - tys.length < 1 := (List.getElem?_eq_some_iff.mp hx).1
      rw [show k9 - tys.length = 0 by omega] at hx
      cases hx
      exact ⟨hAr, fA⟩⟩
  obtain ⟨t, a1, b1⟩ := kk H.size (fun i => H.size + 1 + i) cA F.heap (fun i j _ _ h => by have h9 : H.size + 1 + i = H.size + 1 + j := h; omega) hnl hK2 (by rw [← vr_rows hnm]; exact vr_lay hP2) (by rw [← vr_rows hnm]; exact vr_layD hD2) ⟨by rw [f1]; have := hS.1; omega, fun x h1 h2 => (hold x (Nat.lt_of_lt_of_le h1 hS.1)).trans (hS.2.1 x h1 h2), hS.2.2⟩ F rfl X'
  refine ⟨t, step t ?_, b1⟩
  have e : T.heap.size = H.size := by rw [hT]
  rw [e]
  exact a1
end VGM
/-! ===== END ===== -/
def RX0 : String := "ClothForce$Bodies"
def TX0 : u_T := fun k => match k with
  | 0 => ("ClothForce$Bodies", "many", "I", false)
  | 1 => ("ClothForce$Bodies", "traits", "[[I", true)
  | _ => ("ClothForce$Bodies", "charges", "[I", true)
def tyX0 : Nat → FieldType := fun k => match k with
  | 0 => .int
  | 1 => .array (.array .int)
  | _ => .array .int
abbrev wsX00 : List Cond := u_ws RX0 TX0 3
theorem nmX0 : ∀ a, a < 3 → ∀ b, b < 3 → a ≠ b → (TX0 a).2.1 ≠ (TX0 b).2.1 := by decide +kernel
theorem tyX0_ok : ∀ k, k < 3 → parseFieldDescriptor (TX0 k).2.2.1 = some (tyX0 k) := by decide +kernel
abbrev cX0_init : ByteArray := prog_2_method_1_code
def yX0_init : MethodName := ⟨RX0, "<init>", "()V"⟩
abbrev cX0_has : ByteArray := prog_2_method_2_code
def yX0_has : MethodName := ⟨RX0, "has", "(I)Z"⟩
abbrev cX0_add : ByteArray := prog_2_method_3_code
def yX0_add : MethodName := ⟨RX0, "add", "(III)I"⟩
abbrev cX0_allBits : ByteArray := prog_2_method_4_code
def yX0_allBits : MethodName := ⟨RX0, "allBits", "()I"⟩
abbrev cX0_allCharges : ByteArray := prog_2_method_5_code
def yX0_allCharges : MethodName := ⟨RX0, "allCharges", "()I"⟩
def RX1 : String := "ClothForce$Choice"
def TX1 : u_T := fun k => match k with
  | 0 => ("ClothForce$Choice", "fitted", "I", false)
  | 1 => ("ClothForce$Choice", "offered", "I", false)
  | 2 => ("ClothForce$Choice", "set", "I", false)
  | 3 => ("ClothForce$Choice", "numbers", "[I", true)
  | _ => ("ClothForce$Choice", "fittedBySize", "[I", true)
def tyX1 : Nat → FieldType := fun k => match k with
  | 0 => .int
  | 1 => .int
  | 2 => .int
  | 3 => .array .int
  | _ => .array .int
abbrev wsX10 : List Cond := u_ws RX1 TX1 5
theorem nmX1 : ∀ a, a < 5 → ∀ b, b < 5 → a ≠ b → (TX1 a).2.1 ≠ (TX1 b).2.1 := by decide +kernel
theorem tyX1_ok : ∀ k, k < 5 → parseFieldDescriptor (TX1 k).2.2.1 = some (tyX1 k) := by decide +kernel
abbrev cX1_init : ByteArray := prog_3_method_1_code
def yX1_init : MethodName := ⟨RX1, "<init>", "()V"⟩
abbrev cX1_clear : ByteArray := prog_3_method_2_code
def yX1_clear : MethodName := ⟨RX1, "clear", "()V"⟩
abbrev cX1_offer : ByteArray := prog_3_method_3_code
def yX1_offer : MethodName := ⟨RX1, "offer", "(II)Z"⟩
abbrev cX1_choose : ByteArray := prog_3_method_4_code
def yX1_choose : MethodName := ⟨RX1, "choose", "(I)V"⟩
abbrev cX1_compare : ByteArray := prog_3_method_5_code
def yX1_compare : MethodName := ⟨RX1, "compare", "(II)V"⟩
abbrev cX1_unionOf : ByteArray := prog_3_method_6_code
def yX1_unionOf : MethodName := ⟨RX1, "unionOf", "(I)I"⟩
abbrev cX1_sizeBits : ByteArray := prog_3_method_7_code
def yX1_sizeBits : MethodName := ⟨RX1, "sizeBits", "()I"⟩
def RX2 : String := "ClothForce$Measures"
def TX2 : u_T := fun k => match k with
  | 0 => ("ClothForce$Measures", "many", "I", false)
  | 1 => ("ClothForce$Measures", "whose", "[I", true)
  | 2 => ("ClothForce$Measures", "what", "[I", true)
  | 3 => ("ClothForce$Measures", "value", "[I", true)
  | 4 => ("ClothForce$Measures", "from", "[I", true)
  | _ => ("ClothForce$Measures", "toldOn", "[I", true)
def tyX2 : Nat → FieldType := fun k => match k with
  | 0 => .int
  | 1 => .array .int
  | 2 => .array .int
  | 3 => .array .int
  | 4 => .array .int
  | _ => .array .int
abbrev wsX20 : List Cond := u_ws RX2 TX2 6
theorem nmX2 : ∀ a, a < 6 → ∀ b, b < 6 → a ≠ b → (TX2 a).2.1 ≠ (TX2 b).2.1 := by decide +kernel
theorem tyX2_ok : ∀ k, k < 6 → parseFieldDescriptor (TX2 k).2.2.1 = some (tyX2 k) := by decide +kernel
abbrev cX2_init : ByteArray := prog_4_method_1_code
def yX2_init : MethodName := ⟨RX2, "<init>", "()V"⟩
abbrev cX2_add : ByteArray := prog_4_method_2_code
def yX2_add : MethodName := ⟨RX2, "add", "(IIIII)I"⟩
abbrev cX2_asKnown : ByteArray := prog_4_method_3_code
def yX2_asKnown : MethodName := ⟨RX2, "asKnown", "(IIII)I"⟩
def RX3 : String := "ClothForce$Parade"
def TX3 : u_T := fun k => match k with
  | 0 => ("ClothForce$Parade", "most", "I", false)
  | 1 => ("ClothForce$Parade", "shade", "I", false)
  | 2 => ("ClothForce$Parade", "bodies", "I", false)
  | 3 => ("ClothForce$Parade", "window", "J", false)
  | 4 => ("ClothForce$Parade", "fitting", "[J", true)
  | 5 => ("ClothForce$Parade", "pieceOfBody", "[I", true)
  | 6 => ("ClothForce$Parade", "holder", "[I", true)
  | 7 => ("ClothForce$Parade", "reachedBy", "[I", true)
  | _ => ("ClothForce$Parade", "ofShade", "[J", true)
def tyX3 : Nat → FieldType := fun k => match k with
  | 0 => .int
  | 1 => .int
  | 2 => .int
  | 3 => .long
  | 4 => .array .long
  | 5 => .array .int
  | 6 => .array .int
  | 7 => .array .int
  | _ => .array .long
abbrev wsX30 : List Cond := u_ws RX3 TX3 9
theorem nmX3 : ∀ a, a < 9 → ∀ b, b < 9 → a ≠ b → (TX3 a).2.1 ≠ (TX3 b).2.1 := by decide +kernel
theorem tyX3_ok : ∀ k, k < 9 → parseFieldDescriptor (TX3 k).2.2.1 = some (tyX3 k) := by decide +kernel
abbrev cX3_init : ByteArray := prog_5_method_1_code
def yX3_init : MethodName := ⟨RX3, "<init>", "()V"⟩
abbrev cX3_clear : ByteArray := prog_5_method_2_code
def yX3_clear : MethodName := ⟨RX3, "clear", "(I)V"⟩
abbrev cX3_offer : ByteArray := prog_5_method_3_code
def yX3_offer : MethodName := ⟨RX3, "offer", "(III)V"⟩
abbrev cX3_findShade : ByteArray := prog_5_method_4_code
def yX3_findShade : MethodName := ⟨RX3, "findShade", "(I)V"⟩
abbrev cX3_keepBetter : ByteArray := prog_5_method_5_code
def yX3_keepBetter : MethodName := ⟨RX3, "keepBetter", "(IJ)V"⟩
abbrev cX3_windowFrom : ByteArray := prog_5_method_6_code
def yX3_windowFrom : MethodName := ⟨RX3, "windowFrom", "(II)J"⟩
abbrev cX3_pieceFor : ByteArray := prog_5_method_7_code
def yX3_pieceFor : MethodName := ⟨RX3, "pieceFor", "(I)I"⟩
abbrev cX3_leastPiece : ByteArray := prog_5_method_8_code
def yX3_leastPiece : MethodName := ⟨RX3, "leastPiece", "(IJI)I"⟩
abbrev cX3_dressable : ByteArray := prog_5_method_9_code
def yX3_dressable : MethodName := ⟨RX3, "dressable", "(IJ)I"⟩
abbrev cX3_dress : ByteArray := prog_5_method_10_code
def yX3_dress : MethodName := ⟨RX3, "dress", "(IJ)Z"⟩
abbrev cX3_handOn : ByteArray := prog_5_method_11_code
def yX3_handOn : MethodName := ⟨RX3, "handOn", "(I)V"⟩
def RX4 : String := "ClothForce$Pieces"
def TX4 : u_T := fun k => match k with
  | 0 => ("ClothForce$Pieces", "many", "I", false)
  | 1 => ("ClothForce$Pieces", "sizeOf", "[I", true)
  | 2 => ("ClothForce$Pieces", "lotOf", "[I", true)
  | 3 => ("ClothForce$Pieces", "shadeOf", "[I", true)
  | 4 => ("ClothForce$Pieces", "storeOf", "[I", true)
  | 5 => ("ClothForce$Pieces", "bodyOf", "[I", true)
  | 6 => ("ClothForce$Pieces", "lastBody", "[I", true)
  | 7 => ("ClothForce$Pieces", "timesIssued", "[I", true)
  | 8 => ("ClothForce$Pieces", "failed", "[I", true)
  | 9 => ("ClothForce$Pieces", "issuedOn", "[I", true)
  | _ => ("ClothForce$Pieces", "wornBefore", "[I", true)
def tyX4 : Nat → FieldType := fun k => match k with
  | 0 => .int
  | 1 => .array .int
  | 2 => .array .int
  | 3 => .array .int
  | 4 => .array .int
  | 5 => .array .int
  | 6 => .array .int
  | 7 => .array .int
  | 8 => .array .int
  | 9 => .array .int
  | _ => .array .int
abbrev wsX40 : List Cond := u_ws RX4 TX4 11
theorem nmX4 : ∀ a, a < 11 → ∀ b, b < 11 → a ≠ b → (TX4 a).2.1 ≠ (TX4 b).2.1 := by decide +kernel
theorem tyX4_ok : ∀ k, k < 11 → parseFieldDescriptor (TX4 k).2.2.1 = some (tyX4 k) := by decide +kernel
abbrev cX4_init : ByteArray := prog_6_method_1_code
def yX4_init : MethodName := ⟨RX4, "<init>", "()V"⟩
abbrev cX4_has : ByteArray := prog_6_method_2_code
def yX4_has : MethodName := ⟨RX4, "has", "(I)Z"⟩
abbrev cX4_add : ByteArray := prog_6_method_3_code
def yX4_add : MethodName := ⟨RX4, "add", "(IIII)I"⟩
abbrev cX4_isStored : ByteArray := prog_6_method_4_code
def yX4_isStored : MethodName := ⟨RX4, "isStored", "(I)Z"⟩
abbrev cX4_isWithBody : ByteArray := prog_6_method_5_code
def yX4_isWithBody : MethodName := ⟨RX4, "isWithBody", "(I)Z"⟩
abbrev cX4_isGone : ByteArray := prog_6_method_6_code
def yX4_isGone : MethodName := ⟨RX4, "isGone", "(I)Z"⟩
abbrev cX4_wornBy : ByteArray := prog_6_method_7_code
def yX4_wornBy : MethodName := ⟨RX4, "wornBy", "(II)I"⟩
abbrev cX4_handOut : ByteArray := prog_6_method_8_code
def yX4_handOut : MethodName := ⟨RX4, "handOut", "(III)V"⟩
abbrev cX4_takeOff : ByteArray := prog_6_method_9_code
def yX4_takeOff : MethodName := ⟨RX4, "takeOff", "(II)V"⟩
abbrev cX4_countWith : ByteArray := prog_6_method_10_code
def yX4_countWith : MethodName := ⟨RX4, "countWith", "(I)I"⟩
abbrev cX4_countStored : ByteArray := prog_6_method_11_code
def yX4_countStored : MethodName := ⟨RX4, "countStored", "()I"⟩
abbrev cX4_countWithBodies : ByteArray := prog_6_method_12_code
def yX4_countWithBodies : MethodName := ⟨RX4, "countWithBodies", "()I"⟩
abbrev cX4_countOfLot : ByteArray := prog_6_method_13_code
def yX4_countOfLot : MethodName := ⟨RX4, "countOfLot", "(I)I"⟩
abbrev cX4_countFailed : ByteArray := prog_6_method_14_code
def yX4_countFailed : MethodName := ⟨RX4, "countFailed", "(I)I"⟩
abbrev cX4_countAllFailed : ByteArray := prog_6_method_15_code
def yX4_countAllFailed : MethodName := ⟨RX4, "countAllFailed", "()I"⟩
abbrev cX4_waysAsBad : ByteArray := prog_6_method_16_code
def yX4_waysAsBad : MethodName := ⟨RX4, "waysAsBad", "(I)J"⟩
def RX5 : String := "ClothForce$Reader"
def TX5 : u_T := fun k => match k with
  | 0 => ("ClothForce$Reader", "flawPlace", "I", false)
  | 1 => ("ClothForce$Reader", "flaw", "I", false)
  | 2 => ("ClothForce$Reader", "at", "I", false)
  | _ => ("ClothForce$Reader", "number", "I", false)
def tyX5 : Nat → FieldType := fun k => match k with
  | 0 => .int
  | 1 => .int
  | 2 => .int
  | _ => .int
abbrev wsX50 : List Cond := u_ws RX5 TX5 4
theorem nmX5 : ∀ a, a < 4 → ∀ b, b < 4 → a ≠ b → (TX5 a).2.1 ≠ (TX5 b).2.1 := by decide +kernel
theorem tyX5_ok : ∀ k, k < 4 → parseFieldDescriptor (TX5 k).2.2.1 = some (tyX5 k) := by decide +kernel
abbrev cX5_init : ByteArray := prog_7_method_1_code
def yX5_init : MethodName := ⟨RX5, "<init>", "()V"⟩
abbrev cX5_read : ByteArray := prog_7_method_2_code
def yX5_read : MethodName := ⟨RX5, "read", "(LClothForce$Tape;LClothForce$Rules;)I"⟩
abbrev cX5_readLine : ByteArray := prog_7_method_3_code
def yX5_readLine : MethodName := ⟨RX5, "readLine", "(LClothForce$Tape;LClothForce$Rules;)Z"⟩
abbrev cX5_readRule : ByteArray := prog_7_method_4_code
def yX5_readRule : MethodName := ⟨RX5, "readRule", "(LClothForce$Tape;LClothForce$Rules;II)Z"⟩
abbrev cX5_readTests : ByteArray := prog_7_method_5_code
def yX5_readTests : MethodName := ⟨RX5, "readTests", "(LClothForce$Tape;LClothForce$Rules;)Z"⟩
abbrev cX5_takeNumber : ByteArray := prog_7_method_6_code
def yX5_takeNumber : MethodName := ⟨RX5, "takeNumber", "(LClothForce$Tape;II)Z"⟩
abbrev cX5_refuseToken : ByteArray := prog_7_method_7_code
def yX5_refuseToken : MethodName := ⟨RX5, "refuseToken", "(LClothForce$Tape;)Z"⟩
abbrev cX5_refuse : ByteArray := prog_7_method_8_code
def yX5_refuse : MethodName := ⟨RX5, "refuse", "(II)Z"⟩
def RX6 : String := "ClothForce$Rules"
def TX6 : u_T := fun k => match k with
  | 0 => ("ClothForce$Rules", "lines", "I", false)
  | 1 => ("ClothForce$Rules", "what", "[I", true)
  | 2 => ("ClothForce$Rules", "from", "[I", true)
  | 3 => ("ClothForce$Rules", "kinds", "[I", true)
  | 4 => ("ClothForce$Rules", "numbers", "[I", true)
  | 5 => ("ClothForce$Rules", "tests", "[I", true)
  | 6 => ("ClothForce$Rules", "trait", "[[I", true)
  | 7 => ("ClothForce$Rules", "sign", "[[I", true)
  | _ => ("ClothForce$Rules", "against", "[[I", true)
def tyX6 : Nat → FieldType := fun k => match k with
  | 0 => .int
  | 1 => .array .int
  | 2 => .array .int
  | 3 => .array .int
  | 4 => .array .int
  | 5 => .array .int
  | 6 => .array (.array .int)
  | 7 => .array (.array .int)
  | _ => .array (.array .int)
abbrev wsX60 : List Cond := u_ws RX6 TX6 9
theorem nmX6 : ∀ a, a < 9 → ∀ b, b < 9 → a ≠ b → (TX6 a).2.1 ≠ (TX6 b).2.1 := by decide +kernel
theorem tyX6_ok : ∀ k, k < 9 → parseFieldDescriptor (TX6 k).2.2.1 = some (tyX6 k) := by decide +kernel
abbrev cX6_init : ByteArray := prog_8_method_1_code
def yX6_init : MethodName := ⟨RX6, "<init>", "()V"⟩
abbrev cX6_add : ByteArray := prog_8_method_2_code
def yX6_add : MethodName := ⟨RX6, "add", "(IIII)V"⟩
abbrev cX6_addTest : ByteArray := prog_8_method_3_code
def yX6_addTest : MethodName := ⟨RX6, "addTest", "(III)V"⟩
abbrev cX6_isTold : ByteArray := prog_8_method_4_code
def yX6_isTold : MethodName := ⟨RX6, "isTold", "(III)Z"⟩
abbrev cX6_numberOf : ByteArray := prog_8_method_5_code
def yX6_numberOf : MethodName := ⟨RX6, "numberOf", "(I)I"⟩
abbrev cX6_lineDue : ByteArray := prog_8_method_6_code
def yX6_lineDue : MethodName := ⟨RX6, "lineDue", "([III)I"⟩
abbrev cX6_latest : ByteArray := prog_8_method_7_code
def yX6_latest : MethodName := ⟨RX6, "latest", "(IIII)I"⟩
abbrev cX6_holds : ByteArray := prog_8_method_8_code
def yX6_holds : MethodName := ⟨RX6, "holds", "(I[I)Z"⟩
def RX7 : String := "ClothForce$Sheets"
def TX7 : u_T := fun k => match k with
  | 0 => ("ClothForce$Sheets", "lanes", "[I", true)
  | 1 => ("ClothForce$Sheets", "lengths", "[I", true)
  | _ => ("ClothForce$Sheets", "cells", "[[I", true)
def tyX7 : Nat → FieldType := fun k => match k with
  | 0 => .array .int
  | 1 => .array .int
  | _ => .array (.array .int)
abbrev wsX70 : List Cond := u_ws RX7 TX7 3
theorem nmX7 : ∀ a, a < 3 → ∀ b, b < 3 → a ≠ b → (TX7 a).2.1 ≠ (TX7 b).2.1 := by decide +kernel
theorem tyX7_ok : ∀ k, k < 3 → parseFieldDescriptor (TX7 k).2.2.1 = some (tyX7 k) := by decide +kernel
abbrev cX7_init : ByteArray := prog_9_method_1_code
def yX7_init : MethodName := ⟨RX7, "<init>", "()V"⟩
abbrev cX7_isNothing : ByteArray := prog_9_method_2_code
def yX7_isNothing : MethodName := ⟨RX7, "isNothing", "(I)Z"⟩
abbrev cX7_hasCell : ByteArray := prog_9_method_3_code
def yX7_hasCell : MethodName := ⟨RX7, "hasCell", "(II)Z"⟩
abbrev cX7_renew : ByteArray := prog_9_method_4_code
def yX7_renew : MethodName := ⟨RX7, "renew", "(III)V"⟩
abbrev cX7_put : ByteArray := prog_9_method_5_code
def yX7_put : MethodName := ⟨RX7, "put", "(III)V"⟩
def RX8 : String := "ClothForce$Sizes"
def TX8 : u_T := fun k => match k with
  | 0 => ("ClothForce$Sizes", "many", "I", false)
  | 1 => ("ClothForce$Sizes", "kinds", "[I", true)
  | 2 => ("ClothForce$Sizes", "least", "[[I", true)
  | _ => ("ClothForce$Sizes", "greatest", "[[I", true)
def tyX8 : Nat → FieldType := fun k => match k with
  | 0 => .int
  | 1 => .array .int
  | 2 => .array (.array .int)
  | _ => .array (.array .int)
abbrev wsX80 : List Cond := u_ws RX8 TX8 4
theorem nmX8 : ∀ a, a < 4 → ∀ b, b < 4 → a ≠ b → (TX8 a).2.1 ≠ (TX8 b).2.1 := by decide +kernel
theorem tyX8_ok : ∀ k, k < 4 → parseFieldDescriptor (TX8 k).2.2.1 = some (tyX8 k) := by decide +kernel
abbrev cX8_init : ByteArray := prog_10_method_1_code
def yX8_init : MethodName := ⟨RX8, "<init>", "()V"⟩
abbrev cX8_has : ByteArray := prog_10_method_2_code
def yX8_has : MethodName := ⟨RX8, "has", "(I)Z"⟩
abbrev cX8_isOf : ByteArray := prog_10_method_3_code
def yX8_isOf : MethodName := ⟨RX8, "isOf", "(II)Z"⟩
abbrev cX8_add : ByteArray := prog_10_method_4_code
def yX8_add : MethodName := ⟨RX8, "add", "(I)I"⟩
abbrev cX8_limit : ByteArray := prog_10_method_5_code
def yX8_limit : MethodName := ⟨RX8, "limit", "(IIII)V"⟩
abbrev cX8_outside : ByteArray := prog_10_method_6_code
def yX8_outside : MethodName := ⟨RX8, "outside", "(III)I"⟩
def RX9 : String := "ClothForce$Stores"
def TX9 : u_T := fun k => match k with
  | 0 => ("ClothForce$Stores", "many", "I", false)
  | 1 => ("ClothForce$Stores", "leastCost", "I", false)
  | 2 => ("ClothForce$Stores", "roads", "[[I", true)
  | 3 => ("ClothForce$Stores", "moved", "[I", true)
  | 4 => ("ClothForce$Stores", "tried", "[I", true)
  | 5 => ("ClothForce$Stores", "spare", "[I", true)
  | _ => ("ClothForce$Stores", "lack", "[I", true)
def tyX9 : Nat → FieldType := fun k => match k with
  | 0 => .int
  | 1 => .int
  | 2 => .array (.array .int)
  | 3 => .array .int
  | 4 => .array .int
  | 5 => .array .int
  | _ => .array .int
abbrev wsX90 : List Cond := u_ws RX9 TX9 7
theorem nmX9 : ∀ a, a < 7 → ∀ b, b < 7 → a ≠ b → (TX9 a).2.1 ≠ (TX9 b).2.1 := by decide +kernel
theorem tyX9_ok : ∀ k, k < 7 → parseFieldDescriptor (TX9 k).2.2.1 = some (tyX9 k) := by decide +kernel
abbrev cX9_init : ByteArray := prog_11_method_1_code
def yX9_init : MethodName := ⟨RX9, "<init>", "()V"⟩
abbrev cX9_has : ByteArray := prog_11_method_2_code
def yX9_has : MethodName := ⟨RX9, "has", "(I)Z"⟩
abbrev cX9_add : ByteArray := prog_11_method_3_code
def yX9_add : MethodName := ⟨RX9, "add", "()I"⟩
abbrev cX9_weigh : ByteArray := prog_11_method_4_code
def yX9_weigh : MethodName := ⟨RX9, "weigh", "(III)V"⟩
abbrev cX9_plan : ByteArray := prog_11_method_5_code
def yX9_plan : MethodName := ⟨RX9, "plan", "()V"⟩
abbrev cX9_movedBetween : ByteArray := prog_11_method_6_code
def yX9_movedBetween : MethodName := ⟨RX9, "movedBetween", "(II)I"⟩
abbrev cX9_laneOf : ByteArray := prog_11_method_7_code
def yX9_laneOf : MethodName := ⟨RX9, "laneOf", "(II)I"⟩
abbrev cX9_tryLane : ByteArray := prog_11_method_8_code
def yX9_tryLane : MethodName := ⟨RX9, "tryLane", "(LClothForce$Stores;II)V"⟩
abbrev cX9_spareBehind : ByteArray := prog_11_method_9_code
def yX9_spareBehind : MethodName := ⟨RX9, "spareBehind", "(I)I"⟩
abbrev cX9_send : ByteArray := prog_11_method_10_code
def yX9_send : MethodName := ⟨RX9, "send", "(II)V"⟩
def RX10 : String := "ClothForce$Tape"
def TX10 : u_T := fun k => match k with
  | 0 => ("ClothForce$Tape", "length", "I", false)
  | 1 => ("ClothForce$Tape", "tokens", "I", false)
  | 2 => ("ClothForce$Tape", "bytes", "[B", true)
  | 3 => ("ClothForce$Tape", "token", "[I", true)
  | 4 => ("ClothForce$Tape", "place", "[I", true)
  | _ => ("ClothForce$Tape", "value", "[I", true)
def tyX10 : Nat → FieldType := fun k => match k with
  | 0 => .int
  | 1 => .int
  | 2 => .array .byte
  | 3 => .array .int
  | 4 => .array .int
  | _ => .array .int
abbrev wsX100 : List Cond := u_ws RX10 TX10 6
theorem nmX10 : ∀ a, a < 6 → ∀ b, b < 6 → a ≠ b → (TX10 a).2.1 ≠ (TX10 b).2.1 := by decide +kernel
theorem tyX10_ok : ∀ k, k < 6 → parseFieldDescriptor (TX10 k).2.2.1 = some (tyX10 k) := by decide +kernel
abbrev cX10_init : ByteArray := prog_12_method_1_code
def yX10_init : MethodName := ⟨RX10, "<init>", "()V"⟩
abbrev cX10_add : ByteArray := prog_12_method_2_code
def yX10_add : MethodName := ⟨RX10, "add", "(J)I"⟩
abbrev cX10_cut : ByteArray := prog_12_method_3_code
def yX10_cut : MethodName := ⟨RX10, "cut", "()V"⟩
abbrev cX10_tokenAt : ByteArray := prog_12_method_4_code
def yX10_tokenAt : MethodName := ⟨RX10, "tokenAt", "(I)I"⟩
abbrev cX10_placeAt : ByteArray := prog_12_method_5_code
def yX10_placeAt : MethodName := ⟨RX10, "placeAt", "(I)I"⟩
abbrev cX10_valueAt : ByteArray := prog_12_method_6_code
def yX10_valueAt : MethodName := ⟨RX10, "valueAt", "(I)I"⟩
abbrev cX10_keep : ByteArray := prog_12_method_7_code
def yX10_keep : MethodName := ⟨RX10, "keep", "(III)V"⟩
abbrev cX10_runBehind : ByteArray := prog_12_method_8_code
def yX10_runBehind : MethodName := ⟨RX10, "runBehind", "(I)I"⟩
abbrev cX10_kindOfRun : ByteArray := prog_12_method_9_code
def yX10_kindOfRun : MethodName := ⟨RX10, "kindOfRun", "(II)I"⟩
abbrev cX10_nameIn : ByteArray := prog_12_method_10_code
def yX10_nameIn : MethodName := ⟨RX10, "nameIn", "(II)I"⟩
abbrev cX10_spells : ByteArray := prog_12_method_11_code
def yX10_spells : MethodName := ⟨RX10, "spells", "(Ljava/lang/String;II)Z"⟩
abbrev cX10_numberIn : ByteArray := prog_12_method_12_code
def yX10_numberIn : MethodName := ⟨RX10, "numberIn", "(II)I"⟩
abbrev cX10_isLetter : ByteArray := prog_12_method_13_code
def yX10_isLetter : MethodName := ⟨RX10, "isLetter", "(B)Z"⟩
abbrev cX10_isFigure : ByteArray := prog_12_method_14_code
def yX10_isFigure : MethodName := ⟨RX10, "isFigure", "(B)Z"⟩
def RX11 : String := "ClothForce"
def TX11 : u_T := fun k => match k with
  | 0 => ("ClothForce", "today", "I", false)
  | 1 => ("ClothForce", "latestFault", "I", false)
  | 2 => ("ClothForce", "bodies", "LClothForce$Bodies;", true)
  | 3 => ("ClothForce", "measures", "LClothForce$Measures;", true)
  | 4 => ("ClothForce", "sizes", "LClothForce$Sizes;", true)
  | 5 => ("ClothForce", "tape", "LClothForce$Tape;", true)
  | 6 => ("ClothForce", "reader", "LClothForce$Reader;", true)
  | 7 => ("ClothForce", "rules", "LClothForce$Rules;", false)
  | 8 => ("ClothForce", "draft", "LClothForce$Rules;", false)
  | 9 => ("ClothForce", "stores", "LClothForce$Stores;", true)
  | 10 => ("ClothForce", "pieces", "LClothForce$Pieces;", true)
  | 11 => ("ClothForce", "choice", "LClothForce$Choice;", true)
  | 12 => ("ClothForce", "lineUp", "LClothForce$Parade;", true)
  | _ => ("ClothForce", "sheets", "LClothForce$Sheets;", true)
def tyX11 : Nat → FieldType := fun k => match k with
  | 0 => .int
  | 1 => .int
  | 2 => .object "ClothForce$Bodies"
  | 3 => .object "ClothForce$Measures"
  | 4 => .object "ClothForce$Sizes"
  | 5 => .object "ClothForce$Tape"
  | 6 => .object "ClothForce$Reader"
  | 7 => .object "ClothForce$Rules"
  | 8 => .object "ClothForce$Rules"
  | 9 => .object "ClothForce$Stores"
  | 10 => .object "ClothForce$Pieces"
  | 11 => .object "ClothForce$Choice"
  | 12 => .object "ClothForce$Parade"
  | _ => .object "ClothForce$Sheets"
abbrev wsX110 : List Cond := u_ws RX11 TX11 14
theorem nmX11 : ∀ a, a < 14 → ∀ b, b < 14 → a ≠ b → (TX11 a).2.1 ≠ (TX11 b).2.1 := by decide +kernel
theorem tyX11_ok : ∀ k, k < 14 → parseFieldDescriptor (TX11 k).2.2.1 = some (tyX11 k) := by decide +kernel
abbrev cX11_init : ByteArray := prog_1_method_1_code
def yX11_init : MethodName := ⟨RX11, "<init>", "()V"⟩
abbrev cX11_day : ByteArray := prog_1_method_2_code
def yX11_day : MethodName := ⟨RX11, "day", "(I)I"⟩
abbrev cX11_body : ByteArray := prog_1_method_3_code
def yX11_body : MethodName := ⟨RX11, "body", "(III)I"⟩
abbrev cX11_becomes : ByteArray := prog_1_method_4_code
def yX11_becomes : MethodName := ⟨RX11, "becomes", "(III)I"⟩
abbrev cX11_measure : ByteArray := prog_1_method_5_code
def yX11_measure : MethodName := ⟨RX11, "measure", "(IIII)I"⟩
abbrev cX11_known : ByteArray := prog_1_method_6_code
def yX11_known : MethodName := ⟨RX11, "known", "(IIII)I"⟩
abbrev cX11_told : ByteArray := prog_1_method_7_code
def yX11_told : MethodName := ⟨RX11, "told", "(II)I"⟩
abbrev cX11_size : ByteArray := prog_1_method_8_code
def yX11_size : MethodName := ⟨RX11, "size", "(IIIIIII)I"⟩
abbrev cX11_fits : ByteArray := prog_1_method_9_code
def yX11_fits : MethodName := ⟨RX11, "fits", "(III)I"⟩
abbrev cX11_sized : ByteArray := prog_1_method_10_code
def yX11_sized : MethodName := ⟨RX11, "sized", "(IIII)I"⟩
abbrev cX11_chosen : ByteArray := prog_1_method_11_code
def yX11_chosen : MethodName := ⟨RX11, "chosen", "(III)I"⟩
abbrev cX11_feed : ByteArray := prog_1_method_12_code
def yX11_feed : MethodName := ⟨RX11, "feed", "(J)I"⟩
abbrev cX11_end : ByteArray := prog_1_method_13_code
def yX11_end : MethodName := ⟨RX11, "end", "(I)I"⟩
abbrev cX11_text : ByteArray := prog_1_method_14_code
def yX11_text : MethodName := ⟨RX11, "text", "()I"⟩
abbrev cX11_fault : ByteArray := prog_1_method_15_code
def yX11_fault : MethodName := ⟨RX11, "fault", "()I"⟩
abbrev cX11_due : ByteArray := prog_1_method_16_code
def yX11_due : MethodName := ⟨RX11, "due", "(III)I"⟩
abbrev cX11_why : ByteArray := prog_1_method_17_code
def yX11_why : MethodName := ⟨RX11, "why", "(III)I"⟩
abbrev cX11_rule : ByteArray := prog_1_method_18_code
def yX11_rule : MethodName := ⟨RX11, "rule", "(III)I"⟩
abbrev cX11_store : ByteArray := prog_1_method_19_code
def yX11_store : MethodName := ⟨RX11, "store", "()I"⟩
abbrev cX11_road : ByteArray := prog_1_method_20_code
def yX11_road : MethodName := ⟨RX11, "road", "(III)I"⟩
abbrev cX11_piece : ByteArray := prog_1_method_21_code
def yX11_piece : MethodName := ⟨RX11, "piece", "(IIII)I"⟩
abbrev cX11_pieceOf : ByteArray := prog_1_method_22_code
def yX11_pieceOf : MethodName := ⟨RX11, "pieceOf", "(II)I"⟩
abbrev cX11_issue : ByteArray := prog_1_method_23_code
def yX11_issue : MethodName := ⟨RX11, "issue", "(II)I"⟩
abbrev cX11_back : ByteArray := prog_1_method_24_code
def yX11_back : MethodName := ⟨RX11, "back", "(II)I"⟩
abbrev cX11_lost : ByteArray := prog_1_method_25_code
def yX11_lost : MethodName := ⟨RX11, "lost", "(I)I"⟩
abbrev cX11_move : ByteArray := prog_1_method_26_code
def yX11_move : MethodName := ⟨RX11, "move", "(II)I"⟩
abbrev cX11_fail : ByteArray := prog_1_method_27_code
def yX11_fail : MethodName := ⟨RX11, "fail", "(I)I"⟩
abbrev cX11_stock : ByteArray := prog_1_method_28_code
def yX11_stock : MethodName := ⟨RX11, "stock", "(II)I"⟩
abbrev cX11_parade : ByteArray := prog_1_method_29_code
def yX11_parade : MethodName := ⟨RX11, "parade", "(III)I"⟩
abbrev cX11_order : ByteArray := prog_1_method_30_code
def yX11_order : MethodName := ⟨RX11, "order", "(II)I"⟩
abbrev cX11_ordered : ByteArray := prog_1_method_31_code
def yX11_ordered : MethodName := ⟨RX11, "ordered", "(IIII)I"⟩
abbrev cX11_lot : ByteArray := prog_1_method_32_code
def yX11_lot : MethodName := ⟨RX11, "lot", "(II)J"⟩
abbrev cX11_worst : ByteArray := prog_1_method_33_code
def yX11_worst : MethodName := ⟨RX11, "worst", "()I"⟩
abbrev cX11_sheet : ByteArray := prog_1_method_34_code
def yX11_sheet : MethodName := ⟨RX11, "sheet", "(III)I"⟩
abbrev cX11_lay : ByteArray := prog_1_method_35_code
def yX11_lay : MethodName := ⟨RX11, "lay", "(III)I"⟩
abbrev cX11_scan : ByteArray := prog_1_method_36_code
def yX11_scan : MethodName := ⟨RX11, "scan", "(III)I"⟩
abbrev cX11_count : ByteArray := prog_1_method_37_code
def yX11_count : MethodName := ⟨RX11, "count", "(I)I"⟩
abbrev cX11_isWithin : ByteArray := prog_1_method_38_code
def yX11_isWithin : MethodName := ⟨RX11, "isWithin", "(III)Z"⟩
abbrev cX11_isDay : ByteArray := prog_1_method_39_code
def yX11_isDay : MethodName := ⟨RX11, "isDay", "(I)Z"⟩
abbrev cX11_isKind : ByteArray := prog_1_method_40_code
def yX11_isKind : MethodName := ⟨RX11, "isKind", "(I)Z"⟩
abbrev cX11_isTrait : ByteArray := prog_1_method_41_code
def yX11_isTrait : MethodName := ⟨RX11, "isTrait", "(II)Z"⟩
abbrev cX11_isMeasureKind : ByteArray := prog_1_method_42_code
def yX11_isMeasureKind : MethodName := ⟨RX11, "isMeasureKind", "(I)Z"⟩
abbrev cX11_isMeasure : ByteArray := prog_1_method_43_code
def yX11_isMeasure : MethodName := ⟨RX11, "isMeasure", "(I)Z"⟩
abbrev cX11_isSpan : ByteArray := prog_1_method_44_code
def yX11_isSpan : MethodName := ⟨RX11, "isSpan", "(II)Z"⟩
abbrev cX11_isLot : ByteArray := prog_1_method_45_code
def yX11_isLot : MethodName := ⟨RX11, "isLot", "(I)Z"⟩
abbrev cX11_isShade : ByteArray := prog_1_method_46_code
def yX11_isShade : MethodName := ⟨RX11, "isShade", "(I)Z"⟩
abbrev cX11_isSheet : ByteArray := prog_1_method_47_code
def yX11_isSheet : MethodName := ⟨RX11, "isSheet", "(I)Z"⟩
abbrev cX11_isLane : ByteArray := prog_1_method_48_code
def yX11_isLane : MethodName := ⟨RX11, "isLane", "(I)Z"⟩
abbrev cX11_measureNow : ByteArray := prog_1_method_49_code
def yX11_measureNow : MethodName := ⟨RX11, "measureNow", "(II)I"⟩
abbrev cX11_leewayNeeded : ByteArray := prog_1_method_50_code
def yX11_leewayNeeded : MethodName := ⟨RX11, "leewayNeeded", "(II)I"⟩
abbrev cX11_leastLeeway : ByteArray := prog_1_method_51_code
def yX11_leastLeeway : MethodName := ⟨RX11, "leastLeeway", "(II)I"⟩
abbrev cX11_fittedBy : ByteArray := prog_1_method_52_code
def yX11_fittedBy : MethodName := ⟨RX11, "fittedBy", "(I)I"⟩
abbrev cX11_dueTo : ByteArray := prog_1_method_53_code
def yX11_dueTo : MethodName := ⟨RX11, "dueTo", "(III)I"⟩
abbrev cX11_lifeOn : ByteArray := prog_1_method_54_code
def yX11_lifeOn : MethodName := ⟨RX11, "lifeOn", "(II)I"⟩
abbrev cX11_priceOn : ByteArray := prog_1_method_55_code
def yX11_priceOn : MethodName := ⟨RX11, "priceOn", "(II)I"⟩
abbrev cX11_kindOf : ByteArray := prog_1_method_56_code
def yX11_kindOf : MethodName := ⟨RX11, "kindOf", "(I)I"⟩
abbrev cX11_isWornOut : ByteArray := prog_1_method_57_code
def yX11_isWornOut : MethodName := ⟨RX11, "isWornOut", "(I)Z"⟩
abbrev cX11_usableWith : ByteArray := prog_1_method_58_code
def yX11_usableWith : MethodName := ⟨RX11, "usableWith", "(II)I"⟩
abbrev cX11_chargeFor : ByteArray := prog_1_method_59_code
def yX11_chargeFor : MethodName := ⟨RX11, "chargeFor", "(I)I"⟩
abbrev cX11_stockOf : ByteArray := prog_1_method_60_code
def yX11_stockOf : MethodName := ⟨RX11, "stockOf", "(II)I"⟩
abbrev cX11_layOut : ByteArray := prog_1_method_61_code
def yX11_layOut : MethodName := ⟨RX11, "layOut", "(I)V"⟩
abbrev cX11_planned : ByteArray := prog_1_method_62_code
def yX11_planned : MethodName := ⟨RX11, "planned", "(II)I"⟩
abbrev cX11_refusalOfCell : ByteArray := prog_1_method_63_code
def yX11_refusalOfCell : MethodName := ⟨RX11, "refusalOfCell", "(III)I"⟩
abbrev cX11_waysToDraw : ByteArray := prog_1_method_64_code
def yX11_waysToDraw : MethodName := ⟨RX11, "waysToDraw", "(II)J"⟩
abbrev cX11_commonDivisor : ByteArray := prog_1_method_65_code
def yX11_commonDivisor : MethodName := ⟨RX11, "commonDivisor", "(JJ)J"⟩
def RX12 : String := "ClothForceModel"
def TX12 : u_T := fun k => match k with
  | 0 => ("ClothForceModel", "now", "I", false)
  | 1 => ("ClothForceModel", "bodies", "I", false)
  | 2 => ("ClothForceModel", "rankOf", "[I", true)
  | 3 => ("ClothForceModel", "dutyOf", "[I", true)
  | 4 => ("ClothForceModel", "climateOf", "[I", true)
  | 5 => ("ClothForceModel", "charges", "[I", true)
  | 6 => ("ClothForceModel", "told", "I", false)
  | 7 => ("ClothForceModel", "toldBody", "[I", true)
  | 8 => ("ClothForceModel", "toldWhat", "[I", true)
  | 9 => ("ClothForceModel", "toldValue", "[I", true)
  | 10 => ("ClothForceModel", "toldFrom", "[I", true)
  | 11 => ("ClothForceModel", "toldOn", "[I", true)
  | 12 => ("ClothForceModel", "sizes", "I", false)
  | 13 => ("ClothForceModel", "kindOf", "[I", true)
  | 14 => ("ClothForceModel", "bounds", "[I", true)
  | 15 => ("ClothForceModel", "fitting", "[I", true)
  | 16 => ("ClothForceModel", "tape", "[I", true)
  | 17 => ("ClothForceModel", "taped", "I", false)
  | 18 => ("ClothForceModel", "fault", "I", false)
  | 19 => ("ClothForceModel", "wrong", "I", false)
  | 20 => ("ClothForceModel", "wrongAt", "I", false)
  | 21 => ("ClothForceModel", "at", "I", false)
  | 22 => ("ClothForceModel", "place", "I", false)
  | 23 => ("ClothForceModel", "token", "I", false)
  | 24 => ("ClothForceModel", "value", "I", false)
  | 25 => ("ClothForceModel", "ends", "[I", true)
  | 26 => ("ClothForceModel", "letters", "[I", true)
  | 27 => ("ClothForceModel", "lines", "I", false)
  | 28 => ("ClothForceModel", "lineSort", "[I", true)
  | 29 => ("ClothForceModel", "lineFrom", "[I", true)
  | 30 => ("ClothForceModel", "lineKind", "[I", true)
  | 31 => ("ClothForceModel", "lineNumber", "[I", true)
  | 32 => ("ClothForceModel", "testMany", "[I", true)
  | 33 => ("ClothForceModel", "tests", "[I", true)
  | 34 => ("ClothForceModel", "newLines", "I", false)
  | 35 => ("ClothForceModel", "newSort", "[I", true)
  | 36 => ("ClothForceModel", "newFrom", "[I", true)
  | 37 => ("ClothForceModel", "newKind", "[I", true)
  | 38 => ("ClothForceModel", "newNumber", "[I", true)
  | 39 => ("ClothForceModel", "newTestMany", "[I", true)
  | 40 => ("ClothForceModel", "newTests", "[I", true)
  | 41 => ("ClothForceModel", "lineBy", "I", false)
  | 42 => ("ClothForceModel", "stores", "I", false)
  | 43 => ("ClothForceModel", "roads", "[I", true)
  | 44 => ("ClothForceModel", "pieces", "I", false)
  | 45 => ("ClothForceModel", "pieceSize", "[I", true)
  | 46 => ("ClothForceModel", "pieceLot", "[I", true)
  | 47 => ("ClothForceModel", "pieceShade", "[I", true)
  | 48 => ("ClothForceModel", "inStore", "[I", true)
  | 49 => ("ClothForceModel", "withBody", "[I", true)
  | 50 => ("ClothForceModel", "issuedOn", "[I", true)
  | 51 => ("ClothForceModel", "wornBefore", "[I", true)
  | 52 => ("ClothForceModel", "issuedTimes", "[I", true)
  | 53 => ("ClothForceModel", "hasFailed", "[I", true)
  | 54 => ("ClothForceModel", "lastBody", "[I", true)
  | 55 => ("ClothForceModel", "canGo", "[Z", true)
  | 56 => ("ClothForceModel", "goesTo", "[I", true)
  | 57 => ("ClothForceModel", "cameFrom", "[I", true)
  | 58 => ("ClothForceModel", "line", "[I", true)
  | 59 => ("ClothForceModel", "isSeen", "[Z", true)
  | 60 => ("ClothForceModel", "isGiven", "[Z", true)
  | 61 => ("ClothForceModel", "gets", "[I", true)
  | 62 => ("ClothForceModel", "pairs", "I", false)
  | 63 => ("ClothForceModel", "pairFrom", "[I", true)
  | 64 => ("ClothForceModel", "pairTo", "[I", true)
  | 65 => ("ClothForceModel", "pairMost", "[I", true)
  | 66 => ("ClothForceModel", "pairNow", "[I", true)
  | 67 => ("ClothForceModel", "pairBest", "[I", true)
  | 68 => ("ClothForceModel", "more", "[I", true)
  | 69 => ("ClothForceModel", "choices", "[J", true)
  | 70 => ("ClothForceModel", "lanes", "[I", true)
  | 71 => ("ClothForceModel", "lengths", "[I", true)
  | _ => ("ClothForceModel", "cells", "[I", true)
def tyX12 : Nat → FieldType := fun k => match k with
  | 0 => .int
  | 1 => .int
  | 2 => .array .int
  | 3 => .array .int
  | 4 => .array .int
  | 5 => .array .int
  | 6 => .int
  | 7 => .array .int
  | 8 => .array .int
  | 9 => .array .int
  | 10 => .array .int
  | 11 => .array .int
  | 12 => .int
  | 13 => .array .int
  | 14 => .array .int
  | 15 => .array .int
  | 16 => .array .int
  | 17 => .int
  | 18 => .int
  | 19 => .int
  | 20 => .int
  | 21 => .int
  | 22 => .int
  | 23 => .int
  | 24 => .int
  | 25 => .array .int
  | 26 => .array .int
  | 27 => .int
  | 28 => .array .int
  | 29 => .array .int
  | 30 => .array .int
  | 31 => .array .int
  | 32 => .array .int
  | 33 => .array .int
  | 34 => .int
  | 35 => .array .int
  | 36 => .array .int
  | 37 => .array .int
  | 38 => .array .int
  | 39 => .array .int
  | 40 => .array .int
  | 41 => .int
  | 42 => .int
  | 43 => .array .int
  | 44 => .int
  | 45 => .array .int
  | 46 => .array .int
  | 47 => .array .int
  | 48 => .array .int
  | 49 => .array .int
  | 50 => .array .int
  | 51 => .array .int
  | 52 => .array .int
  | 53 => .array .int
  | 54 => .array .int
  | 55 => .array .boolean
  | 56 => .array .int
  | 57 => .array .int
  | 58 => .array .int
  | 59 => .array .boolean
  | 60 => .array .boolean
  | 61 => .array .int
  | 62 => .int
  | 63 => .array .int
  | 64 => .array .int
  | 65 => .array .int
  | 66 => .array .int
  | 67 => .array .int
  | 68 => .array .int
  | 69 => .array .long
  | 70 => .array .int
  | 71 => .array .int
  | _ => .array .int
abbrev wsX120 : List Cond := u_ws RX12 TX12 73
theorem nmX12 : ∀ a, a < 73 → ∀ b, b < 73 → a ≠ b → (TX12 a).2.1 ≠ (TX12 b).2.1 := by decide +kernel
theorem tyX12_ok : ∀ k, k < 73 → parseFieldDescriptor (TX12 k).2.2.1 = some (tyX12 k) := by decide +kernel
abbrev cX12_init : ByteArray := prog_14_method_1_code
def yX12_init : MethodName := ⟨RX12, "<init>", "()V"⟩
abbrev cX12_in : ByteArray := prog_14_method_3_code
def yX12_in : MethodName := ⟨RX12, "in", "(JJJ)Z"⟩
abbrev cX12_isBody : ByteArray := prog_14_method_4_code
def yX12_isBody : MethodName := ⟨RX12, "isBody", "(I)Z"⟩
abbrev cX12_isDay : ByteArray := prog_14_method_5_code
def yX12_isDay : MethodName := ⟨RX12, "isDay", "(I)Z"⟩
abbrev cX12_day : ByteArray := prog_14_method_6_code
def yX12_day : MethodName := ⟨RX12, "day", "(I)I"⟩
abbrev cX12_body : ByteArray := prog_14_method_7_code
def yX12_body : MethodName := ⟨RX12, "body", "(III)I"⟩
abbrev cX12_becomes : ByteArray := prog_14_method_8_code
def yX12_becomes : MethodName := ⟨RX12, "becomes", "(III)I"⟩
abbrev cX12_tell : ByteArray := prog_14_method_9_code
def yX12_tell : MethodName := ⟨RX12, "tell", "(IIII)V"⟩
abbrev cX12_measure : ByteArray := prog_14_method_10_code
def yX12_measure : MethodName := ⟨RX12, "measure", "(IIII)I"⟩
abbrev cX12_knownOf : ByteArray := prog_14_method_11_code
def yX12_knownOf : MethodName := ⟨RX12, "knownOf", "(IIII)I"⟩
abbrev cX12_known : ByteArray := prog_14_method_12_code
def yX12_known : MethodName := ⟨RX12, "known", "(IIII)I"⟩
abbrev cX12_told : ByteArray := prog_14_method_13_code
def yX12_told : MethodName := ⟨RX12, "told", "(II)I"⟩
abbrev cX12_size : ByteArray := prog_14_method_14_code
def yX12_size : MethodName := ⟨RX12, "size", "(IIIIIII)I"⟩
abbrev cX12_doesFit : ByteArray := prog_14_method_15_code
def yX12_doesFit : MethodName := ⟨RX12, "doesFit", "(III)Z"⟩
abbrev cX12_fits : ByteArray := prog_14_method_16_code
def yX12_fits : MethodName := ⟨RX12, "fits", "(III)I"⟩
abbrev cX12_sized : ByteArray := prog_14_method_17_code
def yX12_sized : MethodName := ⟨RX12, "sized", "(IIII)I"⟩
abbrev cX12_sizeOf : ByteArray := prog_14_method_18_code
def yX12_sizeOf : MethodName := ⟨RX12, "sizeOf", "(I)I"⟩
abbrev cX12_fittedBy : ByteArray := prog_14_method_19_code
def yX12_fittedBy : MethodName := ⟨RX12, "fittedBy", "(I)I"⟩
abbrev cX12_chosen : ByteArray := prog_14_method_20_code
def yX12_chosen : MethodName := ⟨RX12, "chosen", "(III)I"⟩
abbrev cX12_feed : ByteArray := prog_14_method_21_code
def yX12_feed : MethodName := ⟨RX12, "feed", "(J)I"⟩
abbrev cX12_end : ByteArray := prog_14_method_22_code
def yX12_end : MethodName := ⟨RX12, "end", "(I)I"⟩
abbrev cX12_byteAt : ByteArray := prog_14_method_23_code
def yX12_byteAt : MethodName := ⟨RX12, "byteAt", "(I)I"⟩
abbrev cX12_fails : ByteArray := prog_14_method_24_code
def yX12_fails : MethodName := ⟨RX12, "fails", "(I)V"⟩
abbrev cX12_nameAt : ByteArray := prog_14_method_25_code
def yX12_nameAt : MethodName := ⟨RX12, "nameAt", "(II)I"⟩
abbrev cX12_next : ByteArray := prog_14_method_26_code
def yX12_next : MethodName := ⟨RX12, "next", "()V"⟩
abbrev cX12_isName : ByteArray := prog_14_method_27_code
def yX12_isName : MethodName := ⟨RX12, "isName", "(I)Z"⟩
abbrev cX12_isRule : ByteArray := prog_14_method_28_code
def yX12_isRule : MethodName := ⟨RX12, "isRule", "()Z"⟩
abbrev cX12_number : ByteArray := prog_14_method_29_code
def yX12_number : MethodName := ⟨RX12, "number", "(II)I"⟩
abbrev cX12_test : ByteArray := prog_14_method_30_code
def yX12_test : MethodName := ⟨RX12, "test", "()V"⟩
abbrev cX12_oneLine : ByteArray := prog_14_method_31_code
def yX12_oneLine : MethodName := ⟨RX12, "oneLine", "()V"⟩
abbrev cX12_text : ByteArray := prog_14_method_32_code
def yX12_text : MethodName := ⟨RX12, "text", "()I"⟩
abbrev cX12_fault : ByteArray := prog_14_method_33_code
def yX12_fault : MethodName := ⟨RX12, "fault", "()I"⟩
abbrev cX12_doHold : ByteArray := prog_14_method_34_code
def yX12_doHold : MethodName := ⟨RX12, "doHold", "(II)Z"⟩
abbrev cX12_dueOf : ByteArray := prog_14_method_35_code
def yX12_dueOf : MethodName := ⟨RX12, "dueOf", "(III)I"⟩
abbrev cX12_due : ByteArray := prog_14_method_36_code
def yX12_due : MethodName := ⟨RX12, "due", "(III)I"⟩
abbrev cX12_why : ByteArray := prog_14_method_37_code
def yX12_why : MethodName := ⟨RX12, "why", "(III)I"⟩
abbrev cX12_ruleOf : ByteArray := prog_14_method_38_code
def yX12_ruleOf : MethodName := ⟨RX12, "ruleOf", "(III)I"⟩
abbrev cX12_rule : ByteArray := prog_14_method_39_code
def yX12_rule : MethodName := ⟨RX12, "rule", "(III)I"⟩
abbrev cX12_isStore : ByteArray := prog_14_method_40_code
def yX12_isStore : MethodName := ⟨RX12, "isStore", "(I)Z"⟩
abbrev cX12_isPiece : ByteArray := prog_14_method_41_code
def yX12_isPiece : MethodName := ⟨RX12, "isPiece", "(I)Z"⟩
abbrev cX12_store : ByteArray := prog_14_method_42_code
def yX12_store : MethodName := ⟨RX12, "store", "()I"⟩
abbrev cX12_road : ByteArray := prog_14_method_43_code
def yX12_road : MethodName := ⟨RX12, "road", "(III)I"⟩
abbrev cX12_piece : ByteArray := prog_14_method_44_code
def yX12_piece : MethodName := ⟨RX12, "piece", "(IIII)I"⟩
abbrev cX12_wornOf : ByteArray := prog_14_method_45_code
def yX12_wornOf : MethodName := ⟨RX12, "wornOf", "(I)I"⟩
abbrev cX12_kindAt : ByteArray := prog_14_method_46_code
def yX12_kindAt : MethodName := ⟨RX12, "kindAt", "(I)I"⟩
abbrev cX12_isWornOut : ByteArray := prog_14_method_47_code
def yX12_isWornOut : MethodName := ⟨RX12, "isWornOut", "(I)Z"⟩
abbrev cX12_hasOf : ByteArray := prog_14_method_48_code
def yX12_hasOf : MethodName := ⟨RX12, "hasOf", "(II)I"⟩
abbrev cX12_pieceOf : ByteArray := prog_14_method_49_code
def yX12_pieceOf : MethodName := ⟨RX12, "pieceOf", "(II)I"⟩
abbrev cX12_issue : ByteArray := prog_14_method_50_code
def yX12_issue : MethodName := ⟨RX12, "issue", "(II)I"⟩
abbrev cX12_leaves : ByteArray := prog_14_method_51_code
def yX12_leaves : MethodName := ⟨RX12, "leaves", "(I)V"⟩
abbrev cX12_back : ByteArray := prog_14_method_52_code
def yX12_back : MethodName := ⟨RX12, "back", "(II)I"⟩
abbrev cX12_lost : ByteArray := prog_14_method_53_code
def yX12_lost : MethodName := ⟨RX12, "lost", "(I)I"⟩
abbrev cX12_move : ByteArray := prog_14_method_54_code
def yX12_move : MethodName := ⟨RX12, "move", "(II)I"⟩
abbrev cX12_isGone : ByteArray := prog_14_method_55_code
def yX12_isGone : MethodName := ⟨RX12, "isGone", "(I)Z"⟩
abbrev cX12_fail : ByteArray := prog_14_method_56_code
def yX12_fail : MethodName := ⟨RX12, "fail", "(I)I"⟩
abbrev cX12_stockOf : ByteArray := prog_14_method_57_code
def yX12_stockOf : MethodName := ⟨RX12, "stockOf", "(II)I"⟩
abbrev cX12_stock : ByteArray := prog_14_method_58_code
def yX12_stock : MethodName := ⟨RX12, "stock", "(II)I"⟩
abbrev cX12_isIn : ByteArray := prog_14_method_59_code
def yX12_isIn : MethodName := ⟨RX12, "isIn", "(III)Z"⟩
abbrev cX12_joins : ByteArray := prog_14_method_60_code
def yX12_joins : MethodName := ⟨RX12, "joins", "(III)Z"⟩
abbrev cX12_shift : ByteArray := prog_14_method_61_code
def yX12_shift : MethodName := ⟨RX12, "shift", "(II)V"⟩
abbrev cX12_most : ByteArray := prog_14_method_62_code
def yX12_most : MethodName := ⟨RX12, "most", "(III)I"⟩
abbrev cX12_layParade : ByteArray := prog_14_method_63_code
def yX12_layParade : MethodName := ⟨RX12, "layParade", "(III)V"⟩
abbrev cX12_parade : ByteArray := prog_14_method_64_code
def yX12_parade : MethodName := ⟨RX12, "parade", "(III)I"⟩
abbrev cX12_areDigits : ByteArray := prog_14_method_65_code
def yX12_areDigits : MethodName := ⟨RX12, "areDigits", "(I)Z"⟩
abbrev cX12_layMore : ByteArray := prog_14_method_66_code
def yX12_layMore : MethodName := ⟨RX12, "layMore", "(II)Z"⟩
abbrev cX12_layPairs : ByteArray := prog_14_method_67_code
def yX12_layPairs : MethodName := ⟨RX12, "layPairs", "()V"⟩
abbrev cX12_costNow : ByteArray := prog_14_method_68_code
def yX12_costNow : MethodName := ⟨RX12, "costNow", "()I"⟩
abbrev cX12_leastCost : ByteArray := prog_14_method_69_code
def yX12_leastCost : MethodName := ⟨RX12, "leastCost", "()I"⟩
abbrev cX12_order : ByteArray := prog_14_method_70_code
def yX12_order : MethodName := ⟨RX12, "order", "(II)I"⟩
abbrev cX12_ordered : ByteArray := prog_14_method_71_code
def yX12_ordered : MethodName := ⟨RX12, "ordered", "(IIII)I"⟩
abbrev cX12_layChoices : ByteArray := prog_14_method_72_code
def yX12_layChoices : MethodName := ⟨RX12, "layChoices", "()V"⟩
abbrev cX12_failedOf : ByteArray := prog_14_method_73_code
def yX12_failedOf : MethodName := ⟨RX12, "failedOf", "(I)I"⟩
abbrev cX12_manyOf : ByteArray := prog_14_method_74_code
def yX12_manyOf : MethodName := ⟨RX12, "manyOf", "(I)I"⟩
abbrev cX12_tail : ByteArray := prog_14_method_75_code
def yX12_tail : MethodName := ⟨RX12, "tail", "(I)J"⟩
abbrev cX12_lot : ByteArray := prog_14_method_76_code
def yX12_lot : MethodName := ⟨RX12, "lot", "(II)J"⟩
abbrev cX12_worst : ByteArray := prog_14_method_77_code
def yX12_worst : MethodName := ⟨RX12, "worst", "()I"⟩
abbrev cX12_sheet : ByteArray := prog_14_method_78_code
def yX12_sheet : MethodName := ⟨RX12, "sheet", "(III)I"⟩
abbrev cX12_lay : ByteArray := prog_14_method_79_code
def yX12_lay : MethodName := ⟨RX12, "lay", "(III)I"⟩
abbrev cX12_scan : ByteArray := prog_14_method_80_code
def yX12_scan : MethodName := ⟨RX12, "scan", "(III)I"⟩
abbrev cX12_count : ByteArray := prog_14_method_81_code
def yX12_count : MethodName := ⟨RX12, "count", "(I)I"⟩
def RJx145de : String := "java/io/Serializable"
def TJx145de : u_T := fun k => match k with
  | _ => ("", "", "", false)
def tyJx145de : Nat → FieldType := fun k => match k with
  | _ => .int
abbrev wsJx145de0 : List Cond := u_ws RJx145de TJx145de 0
theorem nmJx145de : ∀ a, a < 0 → ∀ b, b < 0 → a ≠ b → (TJx145de a).2.1 ≠ (TJx145de b).2.1 := by decide +kernel
theorem tyJx145de_ok : ∀ k, k < 0 → parseFieldDescriptor (TJx145de k).2.2.1 = some (tyJx145de k) := by decide +kernel
def RJx9f9b0 : String := "java/lang/CharSequence"
def TJx9f9b0 : u_T := fun k => match k with
  | _ => ("", "", "", false)
def tyJx9f9b0 : Nat → FieldType := fun k => match k with
  | _ => .int
abbrev wsJx9f9b00 : List Cond := u_ws RJx9f9b0 TJx9f9b0 0
theorem nmJx9f9b0 : ∀ a, a < 0 → ∀ b, b < 0 → a ≠ b → (TJx9f9b0 a).2.1 ≠ (TJx9f9b0 b).2.1 := by decide +kernel
theorem tyJx9f9b0_ok : ∀ k, k < 0 → parseFieldDescriptor (TJx9f9b0 k).2.2.1 = some (tyJx9f9b0 k) := by decide +kernel
def RJxb160c : String := "java/lang/Comparable"
def TJxb160c : u_T := fun k => match k with
  | _ => ("", "", "", false)
def tyJxb160c : Nat → FieldType := fun k => match k with
  | _ => .int
abbrev wsJxb160c0 : List Cond := u_ws RJxb160c TJxb160c 0
theorem nmJxb160c : ∀ a, a < 0 → ∀ b, b < 0 → a ≠ b → (TJxb160c a).2.1 ≠ (TJxb160c b).2.1 := by decide +kernel
theorem tyJxb160c_ok : ∀ k, k < 0 → parseFieldDescriptor (TJxb160c k).2.2.1 = some (tyJxb160c k) := by decide +kernel
def RJ6 : String := "java/lang/Integer"
def TJ6 : u_T := fun k => match k with
  | _ => ("", "", "", false)
def tyJ6 : Nat → FieldType := fun k => match k with
  | _ => .int
abbrev wsJ60 : List Cond := u_ws RJ6 TJ6 0
theorem nmJ6 : ∀ a, a < 0 → ∀ b, b < 0 → a ≠ b → (TJ6 a).2.1 ≠ (TJ6 b).2.1 := by decide +kernel
theorem tyJ6_ok : ∀ k, k < 0 → parseFieldDescriptor (TJ6 k).2.2.1 = some (tyJ6 k) := by decide +kernel
abbrev cJ6_bitCount_0f7a4 : ByteArray := prog_15_method_49_code
def yJ6_bitCount_0f7a4 : MethodName := ⟨RJ6, "bitCount", "(I)I"⟩
def RJ13 : String := "java/lang/Long"
def TJ13 : u_T := fun k => match k with
  | _ => ("", "", "", false)
def tyJ13 : Nat → FieldType := fun k => match k with
  | _ => .int
abbrev wsJ130 : List Cond := u_ws RJ13 TJ13 0
theorem nmJ13 : ∀ a, a < 0 → ∀ b, b < 0 → a ≠ b → (TJ13 a).2.1 ≠ (TJ13 b).2.1 := by decide +kernel
theorem tyJ13_ok : ∀ k, k < 0 → parseFieldDescriptor (TJ13 k).2.2.1 = some (tyJ13 k) := by decide +kernel
abbrev cJ13_bitCount_95d88 : ByteArray := prog_16_method_50_code
def yJ13_bitCount_95d88 : MethodName := ⟨RJ13, "bitCount", "(J)I"⟩
def RJ9 : String := "java/lang/Math"
def TJ9 : u_T := fun k => match k with
  | _ => ("", "", "", false)
def tyJ9 : Nat → FieldType := fun k => match k with
  | _ => .int
abbrev wsJ90 : List Cond := u_ws RJ9 TJ9 0
theorem nmJ9 : ∀ a, a < 0 → ∀ b, b < 0 → a ≠ b → (TJ9 a).2.1 ≠ (TJ9 b).2.1 := by decide +kernel
theorem tyJ9_ok : ∀ k, k < 0 → parseFieldDescriptor (TJ9 k).2.2.1 = some (tyJ9 k) := by decide +kernel
abbrev cJ9_max_7cf53 : ByteArray := prog_17_method_65_code
def yJ9_max_7cf53 : MethodName := ⟨RJ9, "max", "(II)I"⟩
abbrev cJ9_max_f86c9 : ByteArray := prog_17_method_66_code
def yJ9_max_f86c9 : MethodName := ⟨RJ9, "max", "(JJ)J"⟩
abbrev cJ9_min_7cf53 : ByteArray := prog_17_method_69_code
def yJ9_min_7cf53 : MethodName := ⟨RJ9, "min", "(II)I"⟩
def RJ0 : String := "java/lang/String"
def TJ0 : u_T := fun k => match k with
  | _ => ("", "", "", false)
def tyJ0 : Nat → FieldType := fun k => match k with
  | _ => .int
abbrev wsJ00 : List Cond := u_ws RJ0 TJ0 0
theorem nmJ0 : ∀ a, a < 0 → ∀ b, b < 0 → a ≠ b → (TJ0 a).2.1 ≠ (TJ0 b).2.1 := by decide +kernel
theorem tyJ0_ok : ∀ k, k < 0 → parseFieldDescriptor (TJ0 k).2.2.1 = some (tyJ0 k) := by decide +kernel
abbrev cJ0_length_8abf5 : ByteArray := prog_18_method_54_code
def yJ0_length_8abf5 : MethodName := ⟨RJ0, "length", "()I"⟩
abbrev cJ0_charAt_5068e : ByteArray := prog_18_method_56_code
def yJ0_charAt_5068e : MethodName := ⟨RJ0, "charAt", "(I)C"⟩
abbrev cJ0_coder_7d493 : ByteArray := prog_18_method_152_code
def yJ0_coder_7d493 : MethodName := ⟨RJ0, "coder", "()B"⟩
abbrev cJ0_isLatin1_aae02 : ByteArray := prog_18_method_154_code
def yJ0_isLatin1_aae02 : MethodName := ⟨RJ0, "isLatin1", "()Z"⟩
abbrev cJ0_checkIndex_df160 : ByteArray := prog_18_method_155_code
def yJ0_checkIndex_df160 : MethodName := ⟨RJ0, "checkIndex", "(II)V"⟩
def RJ1 : String := "java/lang/StringLatin1"
def TJ1 : u_T := fun k => match k with
  | _ => ("", "", "", false)
def tyJ1 : Nat → FieldType := fun k => match k with
  | _ => .int
abbrev wsJ10 : List Cond := u_ws RJ1 TJ1 0
theorem nmJ1 : ∀ a, a < 0 → ∀ b, b < 0 → a ≠ b → (TJ1 a).2.1 ≠ (TJ1 b).2.1 := by decide +kernel
theorem tyJ1_ok : ∀ k, k < 0 → parseFieldDescriptor (TJ1 k).2.2.1 = some (tyJ1 k) := by decide +kernel
abbrev cJ1_charAt_3b067 : ByteArray := prog_19_method_2_code
def yJ1_charAt_3b067 : MethodName := ⟨RJ1, "charAt", "([BI)C"⟩
def RJ2 : String := "java/lang/StringUTF16"
def TJ2 : u_T := fun k => match k with
  | _ => ("", "", "", false)
def tyJ2 : Nat → FieldType := fun k => match k with
  | _ => .int
abbrev wsJ20 : List Cond := u_ws RJ2 TJ2 0
theorem nmJ2 : ∀ a, a < 0 → ∀ b, b < 0 → a ≠ b → (TJ2 a).2.1 ≠ (TJ2 b).2.1 := by decide +kernel
theorem tyJ2_ok : ∀ k, k < 0 → parseFieldDescriptor (TJ2 k).2.2.1 = some (tyJ2 k) := by decide +kernel
abbrev cJ2_getChar_3b067 : ByteArray := prog_20_method_5_code
def yJ2_getChar_3b067 : MethodName := ⟨RJ2, "getChar", "([BI)C"⟩
abbrev cJ2_length_9d52b : ByteArray := prog_20_method_6_code
def yJ2_length_9d52b : MethodName := ⟨RJ2, "length", "([B)I"⟩
abbrev cJ2_charAt_3b067 : ByteArray := prog_20_method_83_code
def yJ2_charAt_3b067 : MethodName := ⟨RJ2, "charAt", "([BI)C"⟩
abbrev cJ2_checkIndex_2214a : ByteArray := prog_20_method_91_code
def yJ2_checkIndex_2214a : MethodName := ⟨RJ2, "checkIndex", "(I[B)V"⟩
def RJ10 : String := "java/lang/System"
def TJ10 : u_T := fun k => match k with
  | _ => ("", "", "", false)
def tyJ10 : Nat → FieldType := fun k => match k with
  | _ => .int
abbrev wsJ100 : List Cond := u_ws RJ10 TJ10 0
theorem nmJ10 : ∀ a, a < 0 → ∀ b, b < 0 → a ≠ b → (TJ10 a).2.1 ≠ (TJ10 b).2.1 := by decide +kernel
theorem tyJ10_ok : ∀ k, k < 0 → parseFieldDescriptor (TJ10 k).2.2.1 = some (tyJ10 k) := by decide +kernel
def RJxfd54e : String := "java/lang/constant/Constable"
def TJxfd54e : u_T := fun k => match k with
  | _ => ("", "", "", false)
def tyJxfd54e : Nat → FieldType := fun k => match k with
  | _ => .int
abbrev wsJxfd54e0 : List Cond := u_ws RJxfd54e TJxfd54e 0
theorem nmJxfd54e : ∀ a, a < 0 → ∀ b, b < 0 → a ≠ b → (TJxfd54e a).2.1 ≠ (TJxfd54e b).2.1 := by decide +kernel
theorem tyJxfd54e_ok : ∀ k, k < 0 → parseFieldDescriptor (TJxfd54e k).2.2.1 = some (tyJxfd54e k) := by decide +kernel
def RJx3cf43 : String := "java/lang/constant/ConstantDesc"
def TJx3cf43 : u_T := fun k => match k with
  | _ => ("", "", "", false)
def tyJx3cf43 : Nat → FieldType := fun k => match k with
  | _ => .int
abbrev wsJx3cf430 : List Cond := u_ws RJx3cf43 TJx3cf43 0
theorem nmJx3cf43 : ∀ a, a < 0 → ∀ b, b < 0 → a ≠ b → (TJx3cf43 a).2.1 ≠ (TJx3cf43 b).2.1 := by decide +kernel
theorem tyJx3cf43_ok : ∀ k, k < 0 → parseFieldDescriptor (TJx3cf43 k).2.2.1 = some (tyJx3cf43 k) := by decide +kernel
def RJ7 : String := "java/util/Arrays"
def TJ7 : u_T := fun k => match k with
  | _ => ("", "", "", false)
def tyJ7 : Nat → FieldType := fun k => match k with
  | _ => .int
abbrev wsJ70 : List Cond := u_ws RJ7 TJ7 0
theorem nmJ7 : ∀ a, a < 0 → ∀ b, b < 0 → a ≠ b → (TJ7 a).2.1 ≠ (TJ7 b).2.1 := by decide +kernel
theorem tyJ7_ok : ∀ k, k < 0 → parseFieldDescriptor (TJ7 k).2.2.1 = some (tyJ7 k) := by decide +kernel
abbrev cJ7_fill_d0a16 : ByteArray := prog_22_method_101_code
def yJ7_fill_d0a16 : MethodName := ⟨RJ7, "fill", "([JJ)V"⟩
abbrev cJ7_fill_53178 : ByteArray := prog_22_method_103_code
def yJ7_fill_53178 : MethodName := ⟨RJ7, "fill", "([II)V"⟩
def RJ3 : String := "jdk/internal/util/Preconditions"
def TJ3 : u_T := fun k => match k with
  | _ => ("", "", "", false)
def tyJ3 : Nat → FieldType := fun k => match k with
  | _ => .int
abbrev wsJ30 : List Cond := u_ws RJ3 TJ3 0
theorem nmJ3 : ∀ a, a < 0 → ∀ b, b < 0 → a ≠ b → (TJ3 a).2.1 ≠ (TJ3 b).2.1 := by decide +kernel
theorem tyJ3_ok : ∀ k, k < 0 → parseFieldDescriptor (TJ3 k).2.2.1 = some (tyJ3 k) := by decide +kernel
abbrev cJ3_checkIndex_8e157 : ByteArray := prog_23_method_11_code
def yJ3_checkIndex_8e157 : MethodName := ⟨RJ3, "checkIndex", "(IILjava/util/function/BiFunction;)I"⟩
def RL : String := "ClothForceLaw"
abbrev cL_law : ByteArray := code
def yL_law : MethodName := ⟨RL, "law", "([I)Z"⟩
abbrev vwCl : List vw_C := [(RX0, TX0, 3), (RX1, TX1, 5), (RX2, TX2, 6), (RX3, TX3, 9), (RX4, TX4, 11), (RX5, TX5, 4), (RX6, TX6, 9), (RX7, TX7, 3), (RX8, TX8, 4), (RX9, TX9, 7), (RX10, TX10, 6), (RX11, TX11, 14), (RX12, TX12, 73)]
