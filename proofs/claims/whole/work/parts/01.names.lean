-- ===== PART A: goes FIRST, ahead of the names: the tables' words, and 'selects' of the private methods out of them =====
/-- a private method of a class that the tables say can be made, by its rows of tables_1 -/
def lw_okq (q : MethodName × Nat) : Prop := (q.1.cls ≠ "java/lang/invoke/MethodHandle" ∧ q.1.cls ≠ "java/lang/invoke/VarHandle") ∧ Cond.instantiable q.1.cls q.2 ∈ tables_1 ∧ Cond.privateMethod q.1 ∈ tables_1 ∧ Cond.instanceMethod q.1 ∈ tables_1
theorem lw_p0 : lw_okq (⟨"TowerBraid", "found", "(I)I"⟩, 10) := ⟨⟨by decide +kernel, by decide +kernel⟩, List.mem_of_getElem? (i := 13) (by decide +kernel), List.mem_of_getElem? (i := 272) (by decide +kernel), List.mem_of_getElem? (i := 273) (by decide +kernel)⟩
theorem lw_p1 : lw_okq (⟨"TowerBraid", "fine", "(I)I"⟩, 10) := ⟨⟨by decide +kernel, by decide +kernel⟩, List.mem_of_getElem? (i := 13) (by decide +kernel), List.mem_of_getElem? (i := 281) (by decide +kernel), List.mem_of_getElem? (i := 282) (by decide +kernel)⟩
theorem lw_p2 : lw_okq (⟨"TowerBraid$Reader", "readLaw", "()V"⟩, 6) := ⟨⟨by decide +kernel, by decide +kernel⟩, List.mem_of_getElem? (i := 40) (by decide +kernel), List.mem_of_getElem? (i := 350) (by decide +kernel), List.mem_of_getElem? (i := 351) (by decide +kernel)⟩
theorem lw_p3 : lw_okq (⟨"TowerBraid$Reader", "readSign", "(I)V"⟩, 6) := ⟨⟨by decide +kernel, by decide +kernel⟩, List.mem_of_getElem? (i := 40) (by decide +kernel), List.mem_of_getElem? (i := 354) (by decide +kernel), List.mem_of_getElem? (i := 355) (by decide +kernel)⟩
theorem lw_p4 : lw_okq (⟨"TowerBraid$Reader", "here", "()I"⟩, 6) := ⟨⟨by decide +kernel, by decide +kernel⟩, List.mem_of_getElem? (i := 40) (by decide +kernel), List.mem_of_getElem? (i := 358) (by decide +kernel), List.mem_of_getElem? (i := 359) (by decide +kernel)⟩
theorem lw_p5 : lw_okq (⟨"TowerBraid$Reader", "readNumber", "(II)I"⟩, 6) := ⟨⟨by decide +kernel, by decide +kernel⟩, List.mem_of_getElem? (i := 40) (by decide +kernel), List.mem_of_getElem? (i := 362) (by decide +kernel), List.mem_of_getElem? (i := 363) (by decide +kernel)⟩
theorem lw_p6 : lw_okq (⟨"TowerBraid$Reader", "readStrand", "()V"⟩, 6) := ⟨⟨by decide +kernel, by decide +kernel⟩, List.mem_of_getElem? (i := 40) (by decide +kernel), List.mem_of_getElem? (i := 372) (by decide +kernel), List.mem_of_getElem? (i := 373) (by decide +kernel)⟩
theorem lw_p7 : lw_okq (⟨"TowerBraid$Reader", "readClimber", "()V"⟩, 6) := ⟨⟨by decide +kernel, by decide +kernel⟩, List.mem_of_getElem? (i := 40) (by decide +kernel), List.mem_of_getElem? (i := 376) (by decide +kernel), List.mem_of_getElem? (i := 377) (by decide +kernel)⟩
theorem lw_p8 : lw_okq (⟨"TowerBraid", "beginAnew", "()V"⟩, 10) := ⟨⟨by decide +kernel, by decide +kernel⟩, List.mem_of_getElem? (i := 13) (by decide +kernel), List.mem_of_getElem? (i := 382) (by decide +kernel), List.mem_of_getElem? (i := 383) (by decide +kernel)⟩
theorem lw_p9 : lw_okq (⟨"TowerBraid", "beginAct", "()V"⟩, 10) := ⟨⟨by decide +kernel, by decide +kernel⟩, List.mem_of_getElem? (i := 13) (by decide +kernel), List.mem_of_getElem? (i := 407) (by decide +kernel), List.mem_of_getElem? (i := 408) (by decide +kernel)⟩
theorem lw_p10 : lw_okq (⟨"TowerBraid$Tower", "wearPlait", "(I)V"⟩, 16) := ⟨⟨by decide +kernel, by decide +kernel⟩, List.mem_of_getElem? (i := 46) (by decide +kernel), List.mem_of_getElem? (i := 454) (by decide +kernel), List.mem_of_getElem? (i := 455) (by decide +kernel)⟩
theorem lw_p11 : lw_okq (⟨"TowerBraid$Planner", "weigh", "(LTowerBraid$Tower;)V"⟩, 9) := ⟨⟨by decide +kernel, by decide +kernel⟩, List.mem_of_getElem? (i := 177) (by decide +kernel), List.mem_of_getElem? (i := 527) (by decide +kernel), List.mem_of_getElem? (i := 528) (by decide +kernel)⟩
theorem lw_p12 : lw_okq (⟨"TowerBraid$Planner", "wearOf", "(LTowerBraid$Tower;III)I"⟩, 9) := ⟨⟨by decide +kernel, by decide +kernel⟩, List.mem_of_getElem? (i := 177) (by decide +kernel), List.mem_of_getElem? (i := 534) (by decide +kernel), List.mem_of_getElem? (i := 535) (by decide +kernel)⟩
theorem lw_p13 : lw_okq (⟨"TowerBraid$Planner", "letAllClimb", "(LTowerBraid$Tower;II[I[I)I"⟩, 9) := ⟨⟨by decide +kernel, by decide +kernel⟩, List.mem_of_getElem? (i := 177) (by decide +kernel), List.mem_of_getElem? (i := 544) (by decide +kernel), List.mem_of_getElem? (i := 545) (by decide +kernel)⟩
theorem lw_p14 : lw_okq (⟨"TowerBraid$Planner", "areBorne", "(LTowerBraid$Tower;II)Z"⟩, 9) := ⟨⟨by decide +kernel, by decide +kernel⟩, List.mem_of_getElem? (i := 177) (by decide +kernel), List.mem_of_getElem? (i := 557) (by decide +kernel), List.mem_of_getElem? (i := 558) (by decide +kernel)⟩
theorem lw_p15 : lw_okq (⟨"TowerBraid", "whoStrainAll", "(III)I"⟩, 10) := ⟨⟨by decide +kernel, by decide +kernel⟩, List.mem_of_getElem? (i := 13) (by decide +kernel), List.mem_of_getElem? (i := 627) (by decide +kernel), List.mem_of_getElem? (i := 628) (by decide +kernel)⟩
def lw_privs_1 : List (MethodName × Nat) := [(⟨"TowerBraid", "found", "(I)I"⟩, 10), (⟨"TowerBraid", "fine", "(I)I"⟩, 10), (⟨"TowerBraid$Reader", "readLaw", "()V"⟩, 6), (⟨"TowerBraid$Reader", "readSign", "(I)V"⟩, 6), (⟨"TowerBraid$Reader", "here", "()I"⟩, 6), (⟨"TowerBraid$Reader", "readNumber", "(II)I"⟩, 6), (⟨"TowerBraid$Reader", "readStrand", "()V"⟩, 6), (⟨"TowerBraid$Reader", "readClimber", "()V"⟩, 6), (⟨"TowerBraid", "beginAnew", "()V"⟩, 10), (⟨"TowerBraid", "beginAct", "()V"⟩, 10), (⟨"TowerBraid$Tower", "wearPlait", "(I)V"⟩, 16), (⟨"TowerBraid$Planner", "weigh", "(LTowerBraid$Tower;)V"⟩, 9), (⟨"TowerBraid$Planner", "wearOf", "(LTowerBraid$Tower;III)I"⟩, 9), (⟨"TowerBraid$Planner", "letAllClimb", "(LTowerBraid$Tower;II[I[I)I"⟩, 9), (⟨"TowerBraid$Planner", "areBorne", "(LTowerBraid$Tower;II)Z"⟩, 9), (⟨"TowerBraid", "whoStrainAll", "(III)I"⟩, 10)]
theorem lw_r1 : ∀ q ∈ lw_privs_1, lw_okq q := List.forall_mem_cons.mpr ⟨lw_p0, List.forall_mem_cons.mpr ⟨lw_p1, List.forall_mem_cons.mpr ⟨lw_p2, List.forall_mem_cons.mpr ⟨lw_p3, List.forall_mem_cons.mpr ⟨lw_p4, List.forall_mem_cons.mpr ⟨lw_p5, List.forall_mem_cons.mpr ⟨lw_p6, List.forall_mem_cons.mpr ⟨lw_p7, List.forall_mem_cons.mpr ⟨lw_p8, List.forall_mem_cons.mpr ⟨lw_p9, List.forall_mem_cons.mpr ⟨lw_p10, List.forall_mem_cons.mpr ⟨lw_p11, List.forall_mem_cons.mpr ⟨lw_p12, List.forall_mem_cons.mpr ⟨lw_p13, List.forall_mem_cons.mpr ⟨lw_p14, List.forall_mem_cons.mpr ⟨lw_p15, fun _ h => absurd h List.not_mem_nil⟩⟩⟩⟩⟩⟩⟩⟩⟩⟩⟩⟩⟩⟩⟩⟩
theorem lw_p16 : lw_okq (⟨"TowerBraid", "imageOf", "(I)LTowerBraid$Tower;"⟩, 10) := ⟨⟨by decide +kernel, by decide +kernel⟩, List.mem_of_getElem? (i := 13) (by decide +kernel), List.mem_of_getElem? (i := 655) (by decide +kernel), List.mem_of_getElem? (i := 656) (by decide +kernel)⟩
theorem lw_p17 : lw_okq (⟨"TowerBraid$Asks", "size11", "(LTowerBraid$Tower;I)I"⟩, 2) := ⟨⟨by decide +kernel, by decide +kernel⟩, List.mem_of_getElem? (i := 213) (by decide +kernel), List.mem_of_getElem? (i := 688) (by decide +kernel), List.mem_of_getElem? (i := 689) (by decide +kernel)⟩
theorem lw_p18 : lw_okq (⟨"TowerBraid$Asks", "begin", "(I)V"⟩, 2) := ⟨⟨by decide +kernel, by decide +kernel⟩, List.mem_of_getElem? (i := 213) (by decide +kernel), List.mem_of_getElem? (i := 692) (by decide +kernel), List.mem_of_getElem? (i := 693) (by decide +kernel)⟩
theorem lw_p19 : lw_okq (⟨"TowerBraid$Asks", "size10", "(LTowerBraid$Tower;I)I"⟩, 2) := ⟨⟨by decide +kernel, by decide +kernel⟩, List.mem_of_getElem? (i := 213) (by decide +kernel), List.mem_of_getElem? (i := 696) (by decide +kernel), List.mem_of_getElem? (i := 697) (by decide +kernel)⟩
theorem lw_p20 : lw_okq (⟨"TowerBraid$Asks", "mark24", "(LTowerBraid$Tower;I)I"⟩, 2) := ⟨⟨by decide +kernel, by decide +kernel⟩, List.mem_of_getElem? (i := 213) (by decide +kernel), List.mem_of_getElem? (i := 700) (by decide +kernel), List.mem_of_getElem? (i := 701) (by decide +kernel)⟩
theorem lw_p21 : lw_okq (⟨"TowerBraid$Asks", "mark21", "(LTowerBraid$Tower;I)I"⟩, 2) := ⟨⟨by decide +kernel, by decide +kernel⟩, List.mem_of_getElem? (i := 213) (by decide +kernel), List.mem_of_getElem? (i := 704) (by decide +kernel), List.mem_of_getElem? (i := 705) (by decide +kernel)⟩
theorem lw_p22 : lw_okq (⟨"TowerBraid$Asks", "mark20", "(I)I"⟩, 2) := ⟨⟨by decide +kernel, by decide +kernel⟩, List.mem_of_getElem? (i := 213) (by decide +kernel), List.mem_of_getElem? (i := 708) (by decide +kernel), List.mem_of_getElem? (i := 709) (by decide +kernel)⟩
theorem lw_p23 : lw_okq (⟨"TowerBraid$Asks", "mark22", "(LTowerBraid$Tower;I)I"⟩, 2) := ⟨⟨by decide +kernel, by decide +kernel⟩, List.mem_of_getElem? (i := 213) (by decide +kernel), List.mem_of_getElem? (i := 712) (by decide +kernel), List.mem_of_getElem? (i := 713) (by decide +kernel)⟩
theorem lw_p24 : lw_okq (⟨"TowerBraid$Asks", "size12", "(LTowerBraid$Tower;I)I"⟩, 2) := ⟨⟨by decide +kernel, by decide +kernel⟩, List.mem_of_getElem? (i := 213) (by decide +kernel), List.mem_of_getElem? (i := 716) (by decide +kernel), List.mem_of_getElem? (i := 717) (by decide +kernel)⟩
theorem lw_p25 : lw_okq (⟨"TowerBraid$Asks", "size13", "(LTowerBraid$Tower;I)I"⟩, 2) := ⟨⟨by decide +kernel, by decide +kernel⟩, List.mem_of_getElem? (i := 213) (by decide +kernel), List.mem_of_getElem? (i := 720) (by decide +kernel), List.mem_of_getElem? (i := 721) (by decide +kernel)⟩
theorem lw_p26 : lw_okq (⟨"TowerBraid$Asks", "size14", "(LTowerBraid$Tower;I)I"⟩, 2) := ⟨⟨by decide +kernel, by decide +kernel⟩, List.mem_of_getElem? (i := 213) (by decide +kernel), List.mem_of_getElem? (i := 724) (by decide +kernel), List.mem_of_getElem? (i := 725) (by decide +kernel)⟩
theorem lw_p27 : lw_okq (⟨"TowerBraid$Asks", "mark23", "(LTowerBraid$Tower;I)I"⟩, 2) := ⟨⟨by decide +kernel, by decide +kernel⟩, List.mem_of_getElem? (i := 213) (by decide +kernel), List.mem_of_getElem? (i := 732) (by decide +kernel), List.mem_of_getElem? (i := 733) (by decide +kernel)⟩
theorem lw_p28 : lw_okq (⟨"TowerBraidModel", "found", "(I)I"⟩, 20) := ⟨⟨by decide +kernel, by decide +kernel⟩, List.mem_of_getElem? (i := 757) (by decide +kernel), List.mem_of_getElem? (i := 837) (by decide +kernel), List.mem_of_getElem? (i := 838) (by decide +kernel)⟩
theorem lw_p29 : lw_okq (⟨"TowerBraidModel", "well", "(I)I"⟩, 20) := ⟨⟨by decide +kernel, by decide +kernel⟩, List.mem_of_getElem? (i := 757) (by decide +kernel), List.mem_of_getElem? (i := 842) (by decide +kernel), List.mem_of_getElem? (i := 843) (by decide +kernel)⟩
theorem lw_p30 : lw_okq (⟨"TowerBraidModel", "against", "(III)I"⟩, 20) := ⟨⟨by decide +kernel, by decide +kernel⟩, List.mem_of_getElem? (i := 757) (by decide +kernel), List.mem_of_getElem? (i := 850) (by decide +kernel), List.mem_of_getElem? (i := 851) (by decide +kernel)⟩
theorem lw_p31 : lw_okq (⟨"TowerBraidModel", "isTower", "()Z"⟩, 20) := ⟨⟨by decide +kernel, by decide +kernel⟩, List.mem_of_getElem? (i := 757) (by decide +kernel), List.mem_of_getElem? (i := 875) (by decide +kernel), List.mem_of_getElem? (i := 876) (by decide +kernel)⟩
def lw_privs_2 : List (MethodName × Nat) := [(⟨"TowerBraid", "imageOf", "(I)LTowerBraid$Tower;"⟩, 10), (⟨"TowerBraid$Asks", "size11", "(LTowerBraid$Tower;I)I"⟩, 2), (⟨"TowerBraid$Asks", "begin", "(I)V"⟩, 2), (⟨"TowerBraid$Asks", "size10", "(LTowerBraid$Tower;I)I"⟩, 2), (⟨"TowerBraid$Asks", "mark24", "(LTowerBraid$Tower;I)I"⟩, 2), (⟨"TowerBraid$Asks", "mark21", "(LTowerBraid$Tower;I)I"⟩, 2), (⟨"TowerBraid$Asks", "mark20", "(I)I"⟩, 2), (⟨"TowerBraid$Asks", "mark22", "(LTowerBraid$Tower;I)I"⟩, 2), (⟨"TowerBraid$Asks", "size12", "(LTowerBraid$Tower;I)I"⟩, 2), (⟨"TowerBraid$Asks", "size13", "(LTowerBraid$Tower;I)I"⟩, 2), (⟨"TowerBraid$Asks", "size14", "(LTowerBraid$Tower;I)I"⟩, 2), (⟨"TowerBraid$Asks", "mark23", "(LTowerBraid$Tower;I)I"⟩, 2), (⟨"TowerBraidModel", "found", "(I)I"⟩, 20), (⟨"TowerBraidModel", "well", "(I)I"⟩, 20), (⟨"TowerBraidModel", "against", "(III)I"⟩, 20), (⟨"TowerBraidModel", "isTower", "()Z"⟩, 20)]
theorem lw_r2 : ∀ q ∈ lw_privs_2, lw_okq q := List.forall_mem_cons.mpr ⟨lw_p16, List.forall_mem_cons.mpr ⟨lw_p17, List.forall_mem_cons.mpr ⟨lw_p18, List.forall_mem_cons.mpr ⟨lw_p19, List.forall_mem_cons.mpr ⟨lw_p20, List.forall_mem_cons.mpr ⟨lw_p21, List.forall_mem_cons.mpr ⟨lw_p22, List.forall_mem_cons.mpr ⟨lw_p23, List.forall_mem_cons.mpr ⟨lw_p24, List.forall_mem_cons.mpr ⟨lw_p25, List.forall_mem_cons.mpr ⟨lw_p26, List.forall_mem_cons.mpr ⟨lw_p27, List.forall_mem_cons.mpr ⟨lw_p28, List.forall_mem_cons.mpr ⟨lw_p29, List.forall_mem_cons.mpr ⟨lw_p30, List.forall_mem_cons.mpr ⟨lw_p31, fun _ h => absurd h List.not_mem_nil⟩⟩⟩⟩⟩⟩⟩⟩⟩⟩⟩⟩⟩⟩⟩⟩
theorem lw_p32 : lw_okq (⟨"TowerBraidModel", "takesLaw", "()Z"⟩, 20) := ⟨⟨by decide +kernel, by decide +kernel⟩, List.mem_of_getElem? (i := 757) (by decide +kernel), List.mem_of_getElem? (i := 879) (by decide +kernel), List.mem_of_getElem? (i := 880) (by decide +kernel)⟩
theorem lw_p33 : lw_okq (⟨"TowerBraidModel", "takes", "(I)Z"⟩, 20) := ⟨⟨by decide +kernel, by decide +kernel⟩, List.mem_of_getElem? (i := 757) (by decide +kernel), List.mem_of_getElem? (i := 883) (by decide +kernel), List.mem_of_getElem? (i := 884) (by decide +kernel)⟩
theorem lw_p34 : lw_okq (⟨"TowerBraidModel", "byteAt", "(I)I"⟩, 20) := ⟨⟨by decide +kernel, by decide +kernel⟩, List.mem_of_getElem? (i := 757) (by decide +kernel), List.mem_of_getElem? (i := 887) (by decide +kernel), List.mem_of_getElem? (i := 888) (by decide +kernel)⟩
theorem lw_p35 : lw_okq (⟨"TowerBraidModel", "takesNumber", "(II)Z"⟩, 20) := ⟨⟨by decide +kernel, by decide +kernel⟩, List.mem_of_getElem? (i := 757) (by decide +kernel), List.mem_of_getElem? (i := 891) (by decide +kernel), List.mem_of_getElem? (i := 892) (by decide +kernel)⟩
theorem lw_p36 : lw_okq (⟨"TowerBraidModel", "isFigure", "(I)Z"⟩, 20) := ⟨⟨by decide +kernel, by decide +kernel⟩, List.mem_of_getElem? (i := 757) (by decide +kernel), List.mem_of_getElem? (i := 895) (by decide +kernel), List.mem_of_getElem? (i := 896) (by decide +kernel)⟩
theorem lw_p37 : lw_okq (⟨"TowerBraidModel", "takesStrand", "()Z"⟩, 20) := ⟨⟨by decide +kernel, by decide +kernel⟩, List.mem_of_getElem? (i := 757) (by decide +kernel), List.mem_of_getElem? (i := 904) (by decide +kernel), List.mem_of_getElem? (i := 905) (by decide +kernel)⟩
theorem lw_p38 : lw_okq (⟨"TowerBraidModel", "isMore", "()Z"⟩, 20) := ⟨⟨by decide +kernel, by decide +kernel⟩, List.mem_of_getElem? (i := 757) (by decide +kernel), List.mem_of_getElem? (i := 908) (by decide +kernel), List.mem_of_getElem? (i := 909) (by decide +kernel)⟩
theorem lw_p39 : lw_okq (⟨"TowerBraidModel", "takesClimber", "()Z"⟩, 20) := ⟨⟨by decide +kernel, by decide +kernel⟩, List.mem_of_getElem? (i := 757) (by decide +kernel), List.mem_of_getElem? (i := 912) (by decide +kernel), List.mem_of_getElem? (i := 913) (by decide +kernel)⟩
theorem lw_p40 : lw_okq (⟨"TowerBraidModel", "isNone", "()Z"⟩, 20) := ⟨⟨by decide +kernel, by decide +kernel⟩, List.mem_of_getElem? (i := 757) (by decide +kernel), List.mem_of_getElem? (i := 930) (by decide +kernel), List.mem_of_getElem? (i := 931) (by decide +kernel)⟩
theorem lw_p41 : lw_okq (⟨"TowerBraidModel", "isSet", "(I)Z"⟩, 20) := ⟨⟨by decide +kernel, by decide +kernel⟩, List.mem_of_getElem? (i := 757) (by decide +kernel), List.mem_of_getElem? (i := 934) (by decide +kernel), List.mem_of_getElem? (i := 935) (by decide +kernel)⟩
theorem lw_p42 : lw_okq (⟨"TowerBraidModel", "minds", "()V"⟩, 20) := ⟨⟨by decide +kernel, by decide +kernel⟩, List.mem_of_getElem? (i := 757) (by decide +kernel), List.mem_of_getElem? (i := 938) (by decide +kernel), List.mem_of_getElem? (i := 939) (by decide +kernel)⟩
theorem lw_p43 : lw_okq (⟨"TowerBraidModel", "isClimber", "(I)Z"⟩, 20) := ⟨⟨by decide +kernel, by decide +kernel⟩, List.mem_of_getElem? (i := 757) (by decide +kernel), List.mem_of_getElem? (i := 949) (by decide +kernel), List.mem_of_getElem? (i := 950) (by decide +kernel)⟩
theorem lw_p44 : lw_okq (⟨"TowerBraidModel", "pullOf", "(I)I"⟩, 20) := ⟨⟨by decide +kernel, by decide +kernel⟩, List.mem_of_getElem? (i := 757) (by decide +kernel), List.mem_of_getElem? (i := 953) (by decide +kernel), List.mem_of_getElem? (i := 954) (by decide +kernel)⟩
theorem lw_p45 : lw_okq (⟨"TowerBraidModel", "breaking", "(II)I"⟩, 20) := ⟨⟨by decide +kernel, by decide +kernel⟩, List.mem_of_getElem? (i := 757) (by decide +kernel), List.mem_of_getElem? (i := 960) (by decide +kernel), List.mem_of_getElem? (i := 961) (by decide +kernel)⟩
theorem lw_p46 : lw_okq (⟨"TowerBraidModel", "wears", "(II)V"⟩, 20) := ⟨⟨by decide +kernel, by decide +kernel⟩, List.mem_of_getElem? (i := 757) (by decide +kernel), List.mem_of_getElem? (i := 967) (by decide +kernel), List.mem_of_getElem? (i := 968) (by decide +kernel)⟩
theorem lw_p47 : lw_okq (⟨"TowerBraidModel", "isStrand", "(I)Z"⟩, 20) := ⟨⟨by decide +kernel, by decide +kernel⟩, List.mem_of_getElem? (i := 757) (by decide +kernel), List.mem_of_getElem? (i := 991) (by decide +kernel), List.mem_of_getElem? (i := 992) (by decide +kernel)⟩
def lw_privs_3 : List (MethodName × Nat) := [(⟨"TowerBraidModel", "takesLaw", "()Z"⟩, 20), (⟨"TowerBraidModel", "takes", "(I)Z"⟩, 20), (⟨"TowerBraidModel", "byteAt", "(I)I"⟩, 20), (⟨"TowerBraidModel", "takesNumber", "(II)Z"⟩, 20), (⟨"TowerBraidModel", "isFigure", "(I)Z"⟩, 20), (⟨"TowerBraidModel", "takesStrand", "()Z"⟩, 20), (⟨"TowerBraidModel", "isMore", "()Z"⟩, 20), (⟨"TowerBraidModel", "takesClimber", "()Z"⟩, 20), (⟨"TowerBraidModel", "isNone", "()Z"⟩, 20), (⟨"TowerBraidModel", "isSet", "(I)Z"⟩, 20), (⟨"TowerBraidModel", "minds", "()V"⟩, 20), (⟨"TowerBraidModel", "isClimber", "(I)Z"⟩, 20), (⟨"TowerBraidModel", "pullOf", "(I)I"⟩, 20), (⟨"TowerBraidModel", "breaking", "(II)I"⟩, 20), (⟨"TowerBraidModel", "wears", "(II)V"⟩, 20), (⟨"TowerBraidModel", "isStrand", "(I)Z"⟩, 20)]
theorem lw_r3 : ∀ q ∈ lw_privs_3, lw_okq q := List.forall_mem_cons.mpr ⟨lw_p32, List.forall_mem_cons.mpr ⟨lw_p33, List.forall_mem_cons.mpr ⟨lw_p34, List.forall_mem_cons.mpr ⟨lw_p35, List.forall_mem_cons.mpr ⟨lw_p36, List.forall_mem_cons.mpr ⟨lw_p37, List.forall_mem_cons.mpr ⟨lw_p38, List.forall_mem_cons.mpr ⟨lw_p39, List.forall_mem_cons.mpr ⟨lw_p40, List.forall_mem_cons.mpr ⟨lw_p41, List.forall_mem_cons.mpr ⟨lw_p42, List.forall_mem_cons.mpr ⟨lw_p43, List.forall_mem_cons.mpr ⟨lw_p44, List.forall_mem_cons.mpr ⟨lw_p45, List.forall_mem_cons.mpr ⟨lw_p46, List.forall_mem_cons.mpr ⟨lw_p47, fun _ h => absurd h List.not_mem_nil⟩⟩⟩⟩⟩⟩⟩⟩⟩⟩⟩⟩⟩⟩⟩⟩
theorem lw_p48 : lw_okq (⟨"TowerBraidModel", "isBorne", "(II)Z"⟩, 20) := ⟨⟨by decide +kernel, by decide +kernel⟩, List.mem_of_getElem? (i := 757) (by decide +kernel), List.mem_of_getElem? (i := 1001) (by decide +kernel), List.mem_of_getElem? (i := 1002) (by decide +kernel)⟩
theorem lw_p49 : lw_okq (⟨"TowerBraidModel", "strainOf", "(II)I"⟩, 20) := ⟨⟨by decide +kernel, by decide +kernel⟩, List.mem_of_getElem? (i := 757) (by decide +kernel), List.mem_of_getElem? (i := 1005) (by decide +kernel), List.mem_of_getElem? (i := 1006) (by decide +kernel)⟩
theorem lw_p50 : lw_okq (⟨"TowerBraidModel", "dueOn", "(I)I"⟩, 20) := ⟨⟨by decide +kernel, by decide +kernel⟩, List.mem_of_getElem? (i := 757) (by decide +kernel), List.mem_of_getElem? (i := 1013) (by decide +kernel), List.mem_of_getElem? (i := 1014) (by decide +kernel)⟩
theorem lw_p51 : lw_okq (⟨"TowerBraidModel", "leastWorn", "(I)I"⟩, 20) := ⟨⟨by decide +kernel, by decide +kernel⟩, List.mem_of_getElem? (i := 757) (by decide +kernel), List.mem_of_getElem? (i := 1026) (by decide +kernel), List.mem_of_getElem? (i := 1027) (by decide +kernel)⟩
theorem lw_p52 : lw_okq (⟨"TowerBraidModel", "keepsWorn", "(I)V"⟩, 20) := ⟨⟨by decide +kernel, by decide +kernel⟩, List.mem_of_getElem? (i := 757) (by decide +kernel), List.mem_of_getElem? (i := 1031) (by decide +kernel), List.mem_of_getElem? (i := 1032) (by decide +kernel)⟩
theorem lw_p53 : lw_okq (⟨"TowerBraidModel", "putsBack", "(I)V"⟩, 20) := ⟨⟨by decide +kernel, by decide +kernel⟩, List.mem_of_getElem? (i := 757) (by decide +kernel), List.mem_of_getElem? (i := 1035) (by decide +kernel), List.mem_of_getElem? (i := 1036) (by decide +kernel)⟩
theorem lw_p54 : lw_okq (⟨"TowerBraidModel", "goesDay", "(I)Z"⟩, 20) := ⟨⟨by decide +kernel, by decide +kernel⟩, List.mem_of_getElem? (i := 757) (by decide +kernel), List.mem_of_getElem? (i := 1039) (by decide +kernel), List.mem_of_getElem? (i := 1040) (by decide +kernel)⟩
theorem lw_p55 : lw_okq (⟨"TowerBraidModel", "climbAll", "(II)Z"⟩, 20) := ⟨⟨by decide +kernel, by decide +kernel⟩, List.mem_of_getElem? (i := 757) (by decide +kernel), List.mem_of_getElem? (i := 1043) (by decide +kernel), List.mem_of_getElem? (i := 1044) (by decide +kernel)⟩
theorem lw_p56 : lw_okq (⟨"TowerBraidModel", "wornMore", "()I"⟩, 20) := ⟨⟨by decide +kernel, by decide +kernel⟩, List.mem_of_getElem? (i := 757) (by decide +kernel), List.mem_of_getElem? (i := 1047) (by decide +kernel), List.mem_of_getElem? (i := 1048) (by decide +kernel)⟩
theorem lw_p57 : lw_okq (⟨"TowerBraidModel", "strongestBy", "(I)I"⟩, 20) := ⟨⟨by decide +kernel, by decide +kernel⟩, List.mem_of_getElem? (i := 757) (by decide +kernel), List.mem_of_getElem? (i := 1064) (by decide +kernel), List.mem_of_getElem? (i := 1065) (by decide +kernel)⟩
theorem lw_p58 : lw_okq (⟨"TowerBraidModel", "sizeOf", "(I)I"⟩, 20) := ⟨⟨by decide +kernel, by decide +kernel⟩, List.mem_of_getElem? (i := 757) (by decide +kernel), List.mem_of_getElem? (i := 1114) (by decide +kernel), List.mem_of_getElem? (i := 1115) (by decide +kernel)⟩
theorem lw_p59 : lw_okq (⟨"TowerBraidModel", "leaves", "(I)V"⟩, 20) := ⟨⟨by decide +kernel, by decide +kernel⟩, List.mem_of_getElem? (i := 757) (by decide +kernel), List.mem_of_getElem? (i := 1118) (by decide +kernel), List.mem_of_getElem? (i := 1119) (by decide +kernel)⟩
theorem lw_p60 : lw_okq (⟨"TowerBraidModel", "hairSize", "(I)I"⟩, 20) := ⟨⟨by decide +kernel, by decide +kernel⟩, List.mem_of_getElem? (i := 757) (by decide +kernel), List.mem_of_getElem? (i := 1122) (by decide +kernel), List.mem_of_getElem? (i := 1123) (by decide +kernel)⟩
theorem lw_p61 : lw_okq (⟨"TowerBraidModel", "bareSize", "(I)I"⟩, 20) := ⟨⟨by decide +kernel, by decide +kernel⟩, List.mem_of_getElem? (i := 757) (by decide +kernel), List.mem_of_getElem? (i := 1126) (by decide +kernel), List.mem_of_getElem? (i := 1127) (by decide +kernel)⟩
theorem lw_p62 : lw_okq (⟨"TowerBraidModel", "markOfHair", "(I)I"⟩, 20) := ⟨⟨by decide +kernel, by decide +kernel⟩, List.mem_of_getElem? (i := 757) (by decide +kernel), List.mem_of_getElem? (i := 1130) (by decide +kernel), List.mem_of_getElem? (i := 1131) (by decide +kernel)⟩
theorem lw_p63 : lw_okq (⟨"TowerBraidModel", "hairMark", "(I)I"⟩, 20) := ⟨⟨by decide +kernel, by decide +kernel⟩, List.mem_of_getElem? (i := 757) (by decide +kernel), List.mem_of_getElem? (i := 1134) (by decide +kernel), List.mem_of_getElem? (i := 1135) (by decide +kernel)⟩
def lw_privs_4 : List (MethodName × Nat) := [(⟨"TowerBraidModel", "isBorne", "(II)Z"⟩, 20), (⟨"TowerBraidModel", "strainOf", "(II)I"⟩, 20), (⟨"TowerBraidModel", "dueOn", "(I)I"⟩, 20), (⟨"TowerBraidModel", "leastWorn", "(I)I"⟩, 20), (⟨"TowerBraidModel", "keepsWorn", "(I)V"⟩, 20), (⟨"TowerBraidModel", "putsBack", "(I)V"⟩, 20), (⟨"TowerBraidModel", "goesDay", "(I)Z"⟩, 20), (⟨"TowerBraidModel", "climbAll", "(II)Z"⟩, 20), (⟨"TowerBraidModel", "wornMore", "()I"⟩, 20), (⟨"TowerBraidModel", "strongestBy", "(I)I"⟩, 20), (⟨"TowerBraidModel", "sizeOf", "(I)I"⟩, 20), (⟨"TowerBraidModel", "leaves", "(I)V"⟩, 20), (⟨"TowerBraidModel", "hairSize", "(I)I"⟩, 20), (⟨"TowerBraidModel", "bareSize", "(I)I"⟩, 20), (⟨"TowerBraidModel", "markOfHair", "(I)I"⟩, 20), (⟨"TowerBraidModel", "hairMark", "(I)I"⟩, 20)]
theorem lw_r4 : ∀ q ∈ lw_privs_4, lw_okq q := List.forall_mem_cons.mpr ⟨lw_p48, List.forall_mem_cons.mpr ⟨lw_p49, List.forall_mem_cons.mpr ⟨lw_p50, List.forall_mem_cons.mpr ⟨lw_p51, List.forall_mem_cons.mpr ⟨lw_p52, List.forall_mem_cons.mpr ⟨lw_p53, List.forall_mem_cons.mpr ⟨lw_p54, List.forall_mem_cons.mpr ⟨lw_p55, List.forall_mem_cons.mpr ⟨lw_p56, List.forall_mem_cons.mpr ⟨lw_p57, List.forall_mem_cons.mpr ⟨lw_p58, List.forall_mem_cons.mpr ⟨lw_p59, List.forall_mem_cons.mpr ⟨lw_p60, List.forall_mem_cons.mpr ⟨lw_p61, List.forall_mem_cons.mpr ⟨lw_p62, List.forall_mem_cons.mpr ⟨lw_p63, fun _ h => absurd h List.not_mem_nil⟩⟩⟩⟩⟩⟩⟩⟩⟩⟩⟩⟩⟩⟩⟩⟩
theorem lw_p64 : lw_okq (⟨"TowerBraidModel", "bareMark", "(I)I"⟩, 20) := ⟨⟨by decide +kernel, by decide +kernel⟩, List.mem_of_getElem? (i := 757) (by decide +kernel), List.mem_of_getElem? (i := 1138) (by decide +kernel), List.mem_of_getElem? (i := 1139) (by decide +kernel)⟩
theorem lw_p65 : lw_okq (⟨"TowerBraidModel", "ropeSize", "(I)I"⟩, 20) := ⟨⟨by decide +kernel, by decide +kernel⟩, List.mem_of_getElem? (i := 757) (by decide +kernel), List.mem_of_getElem? (i := 1142) (by decide +kernel), List.mem_of_getElem? (i := 1143) (by decide +kernel)⟩
theorem lw_p66 : lw_okq (⟨"TowerBraidModel", "markOf", "(I)I"⟩, 20) := ⟨⟨by decide +kernel, by decide +kernel⟩, List.mem_of_getElem? (i := 757) (by decide +kernel), List.mem_of_getElem? (i := 1146) (by decide +kernel), List.mem_of_getElem? (i := 1147) (by decide +kernel)⟩
theorem lw_p67 : lw_okq (⟨"TowerBraidModel", "rowsMany", "()I"⟩, 20) := ⟨⟨by decide +kernel, by decide +kernel⟩, List.mem_of_getElem? (i := 757) (by decide +kernel), List.mem_of_getElem? (i := 1158) (by decide +kernel), List.mem_of_getElem? (i := 1159) (by decide +kernel)⟩
def lw_privs_5 : List (MethodName × Nat) := [(⟨"TowerBraidModel", "bareMark", "(I)I"⟩, 20), (⟨"TowerBraidModel", "ropeSize", "(I)I"⟩, 20), (⟨"TowerBraidModel", "markOf", "(I)I"⟩, 20), (⟨"TowerBraidModel", "rowsMany", "()I"⟩, 20)]
theorem lw_r5 : ∀ q ∈ lw_privs_5, lw_okq q := List.forall_mem_cons.mpr ⟨lw_p64, List.forall_mem_cons.mpr ⟨lw_p65, List.forall_mem_cons.mpr ⟨lw_p66, List.forall_mem_cons.mpr ⟨lw_p67, fun _ h => absurd h List.not_mem_nil⟩⟩⟩⟩
def lw_privs : List (MethodName × Nat) := lw_privs_1 ++ (lw_privs_2 ++ (lw_privs_3 ++ (lw_privs_4 ++ (lw_privs_5))))
def lw_tbl : List Cond := k2_sels lw_privs ++ tables_1
theorem lw_privs_ok : ∀ q ∈ lw_privs, lw_okq q := by
  show ∀ q ∈ lw_privs_1 ++ (lw_privs_2 ++ (lw_privs_3 ++ (lw_privs_4 ++ (lw_privs_5)))), lw_okq q
  exact List.forall_mem_append.mpr ⟨lw_r1, List.forall_mem_append.mpr ⟨lw_r2, List.forall_mem_append.mpr ⟨lw_r3, List.forall_mem_append.mpr ⟨lw_r4, lw_r5⟩⟩⟩⟩

def RX0 : String := "TowerBraid$Acts"
def TX0 : u_T := fun k => match k with
  | 0 => ("TowerBraid$Acts", "ahead", "[LTowerBraid$Tower;", true)
  | 1 => ("TowerBraid$Acts", "oldest", "I", false)
  | _ => ("TowerBraid$Acts", "many", "I", false)
def tyX0 : Nat → FieldType := fun k => match k with
  | 0 => .array (.object "TowerBraid$Tower")
  | 1 => .int
  | _ => .int
abbrev wsX00 : List Cond := u_ws RX0 TX0 3
theorem nmX0 : ∀ a, a < 3 → ∀ b, b < 3 → a ≠ b → (TX0 a).2.1 ≠ (TX0 b).2.1 := by decide +kernel
theorem tyX0_ok : ∀ k, k < 3 → parseFieldDescriptor (TX0 k).2.2.1 = some (tyX0 k) := by decide +kernel
abbrev cX0_init : ByteArray := prog_2_method_1_code
def yX0_init : MethodName := ⟨RX0, "<init>", "()V"⟩
abbrev cX0_keep : ByteArray := prog_2_method_2_code
def yX0_keep : MethodName := ⟨RX0, "keep", "(LTowerBraid$Tower;)V"⟩
abbrev cX0_takeBack : ByteArray := prog_2_method_3_code
def yX0_takeBack : MethodName := ⟨RX0, "takeBack", "(LTowerBraid$Tower;)V"⟩
abbrev cX0_forget : ByteArray := prog_2_method_4_code
def yX0_forget : MethodName := ⟨RX0, "forget", "()V"⟩
def RX1 : String := "TowerBraid$Asks"
def TX1 : u_T := fun k => match k with
  | 0 => ("TowerBraid$Asks", "bodies", "[I", true)
  | _ => ("TowerBraid$Asks", "many", "I", false)
def tyX1 : Nat → FieldType := fun k => match k with
  | 0 => .array .int
  | _ => .int
abbrev wsX10 : List Cond := u_ws RX1 TX1 2
theorem nmX1 : ∀ a, a < 2 → ∀ b, b < 2 → a ≠ b → (TX1 a).2.1 ≠ (TX1 b).2.1 := by decide +kernel
theorem tyX1_ok : ∀ k, k < 2 → parseFieldDescriptor (TX1 k).2.2.1 = some (tyX1 k) := by decide +kernel
abbrev cX1_init : ByteArray := prog_3_method_1_code
def yX1_init : MethodName := ⟨RX1, "<init>", "()V"⟩
abbrev cX1_clearTrace : ByteArray := prog_3_method_2_code
def yX1_clearTrace : MethodName := ⟨RX1, "clearTrace", "()V"⟩
abbrev cX1_traced : ByteArray := prog_3_method_3_code
def yX1_traced : MethodName := ⟨RX1, "traced", "(I)I"⟩
abbrev cX1_begin : ByteArray := prog_3_method_4_code
def yX1_begin : MethodName := ⟨RX1, "begin", "(I)V"⟩
abbrev cX1_size : ByteArray := prog_3_method_5_code
def yX1_size : MethodName := ⟨RX1, "size", "(LTowerBraid$Tower;I)I"⟩
abbrev cX1_mark : ByteArray := prog_3_method_6_code
def yX1_mark : MethodName := ⟨RX1, "mark", "(LTowerBraid$Tower;I)I"⟩
abbrev cX1_size10 : ByteArray := prog_3_method_7_code
def yX1_size10 : MethodName := ⟨RX1, "size10", "(LTowerBraid$Tower;I)I"⟩
abbrev cX1_size11 : ByteArray := prog_3_method_8_code
def yX1_size11 : MethodName := ⟨RX1, "size11", "(LTowerBraid$Tower;I)I"⟩
abbrev cX1_size12 : ByteArray := prog_3_method_9_code
def yX1_size12 : MethodName := ⟨RX1, "size12", "(LTowerBraid$Tower;I)I"⟩
abbrev cX1_size13 : ByteArray := prog_3_method_10_code
def yX1_size13 : MethodName := ⟨RX1, "size13", "(LTowerBraid$Tower;I)I"⟩
abbrev cX1_size14 : ByteArray := prog_3_method_11_code
def yX1_size14 : MethodName := ⟨RX1, "size14", "(LTowerBraid$Tower;I)I"⟩
abbrev cX1_mark20 : ByteArray := prog_3_method_12_code
def yX1_mark20 : MethodName := ⟨RX1, "mark20", "(I)I"⟩
abbrev cX1_mark21 : ByteArray := prog_3_method_13_code
def yX1_mark21 : MethodName := ⟨RX1, "mark21", "(LTowerBraid$Tower;I)I"⟩
abbrev cX1_mark22 : ByteArray := prog_3_method_14_code
def yX1_mark22 : MethodName := ⟨RX1, "mark22", "(LTowerBraid$Tower;I)I"⟩
abbrev cX1_mark23 : ByteArray := prog_3_method_15_code
def yX1_mark23 : MethodName := ⟨RX1, "mark23", "(LTowerBraid$Tower;I)I"⟩
abbrev cX1_mark24 : ByteArray := prog_3_method_16_code
def yX1_mark24 : MethodName := ⟨RX1, "mark24", "(LTowerBraid$Tower;I)I"⟩
def RX2 : String := "TowerBraid$Planner"
def TX2 : u_T := fun k => match k with
  | 0 => ("TowerBraid$Planner", "known", "[Z", true)
  | 1 => ("TowerBraid$Planner", "least", "[I", true)
  | 2 => ("TowerBraid$Planner", "best", "[[I", true)
  | 3 => ("TowerBraid$Planner", "tried", "[I", true)
  | 4 => ("TowerBraid$Planner", "wears", "[[I", true)
  | 5 => ("TowerBraid$Planner", "leastOfDay", "[I", true)
  | 6 => ("TowerBraid$Planner", "leastAhead", "[I", true)
  | 7 => ("TowerBraid$Planner", "worn", "[[I", true)
  | _ => ("TowerBraid$Planner", "weighed", "Z", false)
def tyX2 : Nat → FieldType := fun k => match k with
  | 0 => .array .boolean
  | 1 => .array .int
  | 2 => .array (.array .int)
  | 3 => .array .int
  | 4 => .array (.array .int)
  | 5 => .array .int
  | 6 => .array .int
  | 7 => .array (.array .int)
  | _ => .boolean
abbrev wsX20 : List Cond := u_ws RX2 TX2 9
theorem nmX2 : ∀ a, a < 9 → ∀ b, b < 9 → a ≠ b → (TX2 a).2.1 ≠ (TX2 b).2.1 := by decide +kernel
theorem tyX2_ok : ∀ k, k < 9 → parseFieldDescriptor (TX2 k).2.2.1 = some (tyX2 k) := by decide +kernel
abbrev cX2_init : ByteArray := prog_4_method_1_code
def yX2_init : MethodName := ⟨RX2, "<init>", "()V"⟩
abbrev cX2_forget : ByteArray := prog_4_method_2_code
def yX2_forget : MethodName := ⟨RX2, "forget", "()V"⟩
abbrev cX2_leastWear : ByteArray := prog_4_method_3_code
def yX2_leastWear : MethodName := ⟨RX2, "leastWear", "(I)I"⟩
abbrev cX2_plannedSet : ByteArray := prog_4_method_4_code
def yX2_plannedSet : MethodName := ⟨RX2, "plannedSet", "(II)I"⟩
abbrev cX2_isPlanned : ByteArray := prog_4_method_5_code
def yX2_isPlanned : MethodName := ⟨RX2, "isPlanned", "(LTowerBraid$Tower;I)Z"⟩
abbrev cX2_weigh : ByteArray := prog_4_method_6_code
def yX2_weigh : MethodName := ⟨RX2, "weigh", "(LTowerBraid$Tower;)V"⟩
abbrev cX2_wearOf : ByteArray := prog_4_method_7_code
def yX2_wearOf : MethodName := ⟨RX2, "wearOf", "(LTowerBraid$Tower;III)I"⟩
abbrev cX2_search : ByteArray := prog_4_method_8_code
def yX2_search : MethodName := ⟨RX2, "search", "(LTowerBraid$Planner;LTowerBraid$Tower;III)V"⟩
abbrev cX2_areBorne : ByteArray := prog_4_method_9_code
def yX2_areBorne : MethodName := ⟨RX2, "areBorne", "(LTowerBraid$Tower;II)Z"⟩
abbrev cX2_letAllClimb : ByteArray := prog_4_method_10_code
def yX2_letAllClimb : MethodName := ⟨RX2, "letAllClimb", "(LTowerBraid$Tower;II[I[I)I"⟩
def RX3 : String := "TowerBraid$Reader"
def TX3 : u_T := fun k => match k with
  | 0 => ("TowerBraid$Reader", "tape", "[I", true)
  | 1 => ("TowerBraid$Reader", "blank", "LTowerBraid$Tower;", true)
  | 2 => ("TowerBraid$Reader", "told", "LTowerBraid$Tower;", true)
  | 3 => ("TowerBraid$Reader", "bytes", "I", false)
  | 4 => ("TowerBraid$Reader", "place", "I", false)
  | _ => ("TowerBraid$Reader", "fault", "I", false)
def tyX3 : Nat → FieldType := fun k => match k with
  | 0 => .array .int
  | 1 => .object "TowerBraid$Tower"
  | 2 => .object "TowerBraid$Tower"
  | 3 => .int
  | 4 => .int
  | _ => .int
abbrev wsX30 : List Cond := u_ws RX3 TX3 6
theorem nmX3 : ∀ a, a < 6 → ∀ b, b < 6 → a ≠ b → (TX3 a).2.1 ≠ (TX3 b).2.1 := by decide +kernel
theorem tyX3_ok : ∀ k, k < 6 → parseFieldDescriptor (TX3 k).2.2.1 = some (tyX3 k) := by decide +kernel
abbrev cX3_init : ByteArray := prog_5_method_1_code
def yX3_init : MethodName := ⟨RX3, "<init>", "()V"⟩
abbrev cX3_isFull : ByteArray := prog_5_method_2_code
def yX3_isFull : MethodName := ⟨RX3, "isFull", "()Z"⟩
abbrev cX3_append : ByteArray := prog_5_method_3_code
def yX3_append : MethodName := ⟨RX3, "append", "(I)I"⟩
abbrev cX3_readTape : ByteArray := prog_5_method_4_code
def yX3_readTape : MethodName := ⟨RX3, "readTape", "()V"⟩
abbrev cX3_readLaw : ByteArray := prog_5_method_5_code
def yX3_readLaw : MethodName := ⟨RX3, "readLaw", "()V"⟩
abbrev cX3_readStrand : ByteArray := prog_5_method_6_code
def yX3_readStrand : MethodName := ⟨RX3, "readStrand", "()V"⟩
abbrev cX3_readClimber : ByteArray := prog_5_method_7_code
def yX3_readClimber : MethodName := ⟨RX3, "readClimber", "()V"⟩
abbrev cX3_readSign : ByteArray := prog_5_method_8_code
def yX3_readSign : MethodName := ⟨RX3, "readSign", "(I)V"⟩
abbrev cX3_readNumber : ByteArray := prog_5_method_9_code
def yX3_readNumber : MethodName := ⟨RX3, "readNumber", "(II)I"⟩
abbrev cX3_here : ByteArray := prog_5_method_10_code
def yX3_here : MethodName := ⟨RX3, "here", "()I"⟩
abbrev cX3_isFigure : ByteArray := prog_5_method_11_code
def yX3_isFigure : MethodName := ⟨RX3, "isFigure", "(I)Z"⟩
abbrev cX3_sortOf : ByteArray := prog_5_method_12_code
def yX3_sortOf : MethodName := ⟨RX3, "sortOf", "(I)I"⟩
def RX4 : String := "TowerBraid$Rows"
def TX4 : u_T := fun k => match k with
  | 0 => ("TowerBraid$Rows", "items", "[[I", true)
  | 1 => ("TowerBraid$Rows", "lanes", "[I", true)
  | _ => ("TowerBraid$Rows", "sizes", "[I", true)
def tyX4 : Nat → FieldType := fun k => match k with
  | 0 => .array (.array .int)
  | 1 => .array .int
  | _ => .array .int
abbrev wsX40 : List Cond := u_ws RX4 TX4 3
theorem nmX4 : ∀ a, a < 3 → ∀ b, b < 3 → a ≠ b → (TX4 a).2.1 ≠ (TX4 b).2.1 := by decide +kernel
theorem tyX4_ok : ∀ k, k < 3 → parseFieldDescriptor (TX4 k).2.2.1 = some (tyX4 k) := by decide +kernel
abbrev cX4_init : ByteArray := prog_6_method_1_code
def yX4_init : MethodName := ⟨RX4, "<init>", "()V"⟩
abbrev cX4_isRow : ByteArray := prog_6_method_2_code
def yX4_isRow : MethodName := ⟨RX4, "isRow", "(I)Z"⟩
abbrev cX4_isLane : ByteArray := prog_6_method_3_code
def yX4_isLane : MethodName := ⟨RX4, "isLane", "(I)Z"⟩
abbrev cX4_isMissing : ByteArray := prog_6_method_4_code
def yX4_isMissing : MethodName := ⟨RX4, "isMissing", "(I)Z"⟩
abbrev cX4_areOfOneLane : ByteArray := prog_6_method_5_code
def yX4_areOfOneLane : MethodName := ⟨RX4, "areOfOneLane", "(II)Z"⟩
abbrev cX4_hasPlaces : ByteArray := prog_6_method_6_code
def yX4_hasPlaces : MethodName := ⟨RX4, "hasPlaces", "(III)Z"⟩
abbrev cX4_make : ByteArray := prog_6_method_7_code
def yX4_make : MethodName := ⟨RX4, "make", "(III)V"⟩
abbrev cX4_put : ByteArray := prog_6_method_8_code
def yX4_put : MethodName := ⟨RX4, "put", "(III)I"⟩
abbrev cX4_item : ByteArray := prog_6_method_9_code
def yX4_item : MethodName := ⟨RX4, "item", "(II)I"⟩
abbrev cX4_move : ByteArray := prog_6_method_10_code
def yX4_move : MethodName := ⟨RX4, "move", "(IIIII)V"⟩
abbrev cX4_lose : ByteArray := prog_6_method_11_code
def yX4_lose : MethodName := ⟨RX4, "lose", "(I)I"⟩
abbrev cX4_howMany : ByteArray := prog_6_method_12_code
def yX4_howMany : MethodName := ⟨RX4, "howMany", "()I"⟩
def RX5 : String := "TowerBraid$Tower"
def TX5 : u_T := fun k => match k with
  | 0 => ("TowerBraid$Tower", "stands", "Z", false)
  | 1 => ("TowerBraid$Tower", "high", "I", false)
  | 2 => ("TowerBraid$Tower", "length", "I", false)
  | 3 => ("TowerBraid$Tower", "today", "I", false)
  | 4 => ("TowerBraid$Tower", "pegs", "I", false)
  | 5 => ("TowerBraid$Tower", "plaited", "I", false)
  | 6 => ("TowerBraid$Tower", "gone", "I", false)
  | 7 => ("TowerBraid$Tower", "strandCount", "I", false)
  | 8 => ("TowerBraid$Tower", "climberCount", "I", false)
  | 9 => ("TowerBraid$Tower", "sort", "[I", true)
  | 10 => ("TowerBraid$Tower", "bears", "[I", true)
  | 11 => ("TowerBraid$Tower", "worn", "[I", true)
  | 12 => ("TowerBraid$Tower", "weight", "[I", true)
  | 13 => ("TowerBraid$Tower", "every", "[I", true)
  | 14 => ("TowerBraid$Tower", "off", "[I", true)
  | _ => ("TowerBraid$Tower", "fell", "[I", true)
def tyX5 : Nat → FieldType := fun k => match k with
  | 0 => .boolean
  | 1 => .int
  | 2 => .int
  | 3 => .int
  | 4 => .int
  | 5 => .int
  | 6 => .int
  | 7 => .int
  | 8 => .int
  | 9 => .array .int
  | 10 => .array .int
  | 11 => .array .int
  | 12 => .array .int
  | 13 => .array .int
  | 14 => .array .int
  | _ => .array .int
abbrev wsX50 : List Cond := u_ws RX5 TX5 16
theorem nmX5 : ∀ a, a < 16 → ∀ b, b < 16 → a ≠ b → (TX5 a).2.1 ≠ (TX5 b).2.1 := by decide +kernel
theorem tyX5_ok : ∀ k, k < 16 → parseFieldDescriptor (TX5 k).2.2.1 = some (tyX5 k) := by decide +kernel
abbrev cX5_init : ByteArray := prog_7_method_1_code
def yX5_init : MethodName := ⟨RX5, "<init>", "()V"⟩
abbrev cX5_become : ByteArray := prog_7_method_2_code
def yX5_become : MethodName := ⟨RX5, "become", "(LTowerBraid$Tower;)V"⟩
abbrev cX5_isStrand : ByteArray := prog_7_method_3_code
def yX5_isStrand : MethodName := ⟨RX5, "isStrand", "(I)Z"⟩
abbrev cX5_isClimber : ByteArray := prog_7_method_4_code
def yX5_isClimber : MethodName := ⟨RX5, "isClimber", "(I)Z"⟩
abbrev cX5_isSet : ByteArray := prog_7_method_5_code
def yX5_isSet : MethodName := ⟨RX5, "isSet", "(I)Z"⟩
abbrev cX5_isLeft : ByteArray := prog_7_method_6_code
def yX5_isLeft : MethodName := ⟨RX5, "isLeft", "(I)Z"⟩
abbrev cX5_pull : ByteArray := prog_7_method_7_code
def yX5_pull : MethodName := ⟨RX5, "pull", "(I)I"⟩
abbrev cX5_strain : ByteArray := prog_7_method_8_code
def yX5_strain : MethodName := ⟨RX5, "strain", "(II)I"⟩
abbrev cX5_holds : ByteArray := prog_7_method_9_code
def yX5_holds : MethodName := ⟨RX5, "holds", "(III)I"⟩
abbrev cX5_breaking : ByteArray := prog_7_method_10_code
def yX5_breaking : MethodName := ⟨RX5, "breaking", "(II)I"⟩
abbrev cX5_isBorne : ByteArray := prog_7_method_11_code
def yX5_isBorne : MethodName := ⟨RX5, "isBorne", "(II)Z"⟩
abbrev cX5_letClimb : ByteArray := prog_7_method_12_code
def yX5_letClimb : MethodName := ⟨RX5, "letClimb", "(I)I"⟩
abbrev cX5_wearPlait : ByteArray := prog_7_method_13_code
def yX5_wearPlait : MethodName := ⟨RX5, "wearPlait", "(I)V"⟩
abbrev cX5_wear : ByteArray := prog_7_method_14_code
def yX5_wear : MethodName := ⟨RX5, "wear", "(II)I"⟩
abbrev cX5_lengthIn : ByteArray := prog_7_method_15_code
def yX5_lengthIn : MethodName := ⟨RX5, "lengthIn", "(I)I"⟩
abbrev cX5_dueIn : ByteArray := prog_7_method_16_code
def yX5_dueIn : MethodName := ⟨RX5, "dueIn", "(I)I"⟩
abbrev cX5_dayOfComing : ByteArray := prog_7_method_17_code
def yX5_dayOfComing : MethodName := ⟨RX5, "dayOfComing", "(II)I"⟩
abbrev cX5_mostWeight : ByteArray := prog_7_method_18_code
def yX5_mostWeight : MethodName := ⟨RX5, "mostWeight", "(I)I"⟩
abbrev cX5_stoutestSet : ByteArray := prog_7_method_19_code
def yX5_stoutestSet : MethodName := ⟨RX5, "stoutestSet", "()I"⟩
abbrev cX5_whoStrain : ByteArray := prog_7_method_20_code
def yX5_whoStrain : MethodName := ⟨RX5, "whoStrain", "(II)I"⟩
abbrev cX5_stormParts : ByteArray := prog_7_method_21_code
def yX5_stormParts : MethodName := ⟨RX5, "stormParts", "(II)I"⟩
def RX6 : String := "TowerBraid"
def TX6 : u_T := fun k => match k with
  | 0 => ("TowerBraid", "rows", "LTowerBraid$Rows;", true)
  | 1 => ("TowerBraid", "reader", "LTowerBraid$Reader;", true)
  | 2 => ("TowerBraid", "acts", "LTowerBraid$Acts;", true)
  | 3 => ("TowerBraid", "planner", "LTowerBraid$Planner;", true)
  | 4 => ("TowerBraid", "asks", "LTowerBraid$Asks;", true)
  | 5 => ("TowerBraid", "now", "LTowerBraid$Tower;", true)
  | 6 => ("TowerBraid", "firstImage", "LTowerBraid$Tower;", true)
  | 7 => ("TowerBraid", "secondImage", "LTowerBraid$Tower;", true)
  | 8 => ("TowerBraid", "latestFault", "I", false)
  | _ => ("TowerBraid", "latestFinding", "I", false)
def tyX6 : Nat → FieldType := fun k => match k with
  | 0 => .object "TowerBraid$Rows"
  | 1 => .object "TowerBraid$Reader"
  | 2 => .object "TowerBraid$Acts"
  | 3 => .object "TowerBraid$Planner"
  | 4 => .object "TowerBraid$Asks"
  | 5 => .object "TowerBraid$Tower"
  | 6 => .object "TowerBraid$Tower"
  | 7 => .object "TowerBraid$Tower"
  | 8 => .int
  | _ => .int
abbrev wsX60 : List Cond := u_ws RX6 TX6 10
theorem nmX6 : ∀ a, a < 10 → ∀ b, b < 10 → a ≠ b → (TX6 a).2.1 ≠ (TX6 b).2.1 := by decide +kernel
theorem tyX6_ok : ∀ k, k < 10 → parseFieldDescriptor (TX6 k).2.2.1 = some (tyX6 k) := by decide +kernel
abbrev cX6_init : ByteArray := prog_1_method_1_code
def yX6_init : MethodName := ⟨RX6, "<init>", "()V"⟩
abbrev cX6_row : ByteArray := prog_1_method_2_code
def yX6_row : MethodName := ⟨RX6, "row", "(III)I"⟩
abbrev cX6_set : ByteArray := prog_1_method_3_code
def yX6_set : MethodName := ⟨RX6, "set", "(III)I"⟩
abbrev cX6_copy : ByteArray := prog_1_method_4_code
def yX6_copy : MethodName := ⟨RX6, "copy", "(IIIII)I"⟩
abbrev cX6_drop : ByteArray := prog_1_method_5_code
def yX6_drop : MethodName := ⟨RX6, "drop", "(I)I"⟩
abbrev cX6_feed : ByteArray := prog_1_method_6_code
def yX6_feed : MethodName := ⟨RX6, "feed", "(I)I"⟩
abbrev cX6_tower : ByteArray := prog_1_method_7_code
def yX6_tower : MethodName := ⟨RX6, "tower", "()I"⟩
abbrev cX6_fault : ByteArray := prog_1_method_8_code
def yX6_fault : MethodName := ⟨RX6, "fault", "()I"⟩
abbrev cX6_plait : ByteArray := prog_1_method_9_code
def yX6_plait : MethodName := ⟨RX6, "plait", "(I)I"⟩
abbrev cX6_climb : ByteArray := prog_1_method_10_code
def yX6_climb : MethodName := ⟨RX6, "climb", "(I)I"⟩
abbrev cX6_day : ByteArray := prog_1_method_11_code
def yX6_day : MethodName := ⟨RX6, "day", "()I"⟩
abbrev cX6_cut : ByteArray := prog_1_method_12_code
def yX6_cut : MethodName := ⟨RX6, "cut", "(I)I"⟩
abbrev cX6_peg : ByteArray := prog_1_method_13_code
def yX6_peg : MethodName := ⟨RX6, "peg", "(I)I"⟩
abbrev cX6_undo : ByteArray := prog_1_method_14_code
def yX6_undo : MethodName := ⟨RX6, "undo", "()I"⟩
abbrev cX6_strand : ByteArray := prog_1_method_15_code
def yX6_strand : MethodName := ⟨RX6, "strand", "(II)I"⟩
abbrev cX6_climber : ByteArray := prog_1_method_16_code
def yX6_climber : MethodName := ⟨RX6, "climber", "(II)I"⟩
abbrev cX6_due : ByteArray := prog_1_method_17_code
def yX6_due : MethodName := ⟨RX6, "due", "(I)I"⟩
abbrev cX6_borne : ByteArray := prog_1_method_18_code
def yX6_borne : MethodName := ⟨RX6, "borne", "(II)I"⟩
abbrev cX6_plan : ByteArray := prog_1_method_19_code
def yX6_plan : MethodName := ⟨RX6, "plan", "(II)I"⟩
abbrev cX6_never : ByteArray := prog_1_method_20_code
def yX6_never : MethodName := ⟨RX6, "never", "()I"⟩
abbrev cX6_needed : ByteArray := prog_1_method_21_code
def yX6_needed : MethodName := ⟨RX6, "needed", "(I)I"⟩
abbrev cX6_strongest : ByteArray := prog_1_method_22_code
def yX6_strongest : MethodName := ⟨RX6, "strongest", "(I)I"⟩
abbrev cX6_cutMost : ByteArray := prog_1_method_23_code
def yX6_cutMost : MethodName := ⟨RX6, "cutMost", "()I"⟩
abbrev cX6_comes : ByteArray := prog_1_method_24_code
def yX6_comes : MethodName := ⟨RX6, "comes", "(II)I"⟩
abbrev cX6_climbed : ByteArray := prog_1_method_25_code
def yX6_climbed : MethodName := ⟨RX6, "climbed", "(I)I"⟩
abbrev cX6_climbers : ByteArray := prog_1_method_26_code
def yX6_climbers : MethodName := ⟨RX6, "climbers", "(III)I"⟩
abbrev cX6_storm : ByteArray := prog_1_method_27_code
def yX6_storm : MethodName := ⟨RX6, "storm", "(III)I"⟩
abbrev cX6_image : ByteArray := prog_1_method_28_code
def yX6_image : MethodName := ⟨RX6, "image", "(I)I"⟩
abbrev cX6_restore : ByteArray := prog_1_method_29_code
def yX6_restore : MethodName := ⟨RX6, "restore", "(I)I"⟩
abbrev cX6_kind : ByteArray := prog_1_method_30_code
def yX6_kind : MethodName := ⟨RX6, "kind", "(I)I"⟩
abbrev cX6_as : ByteArray := prog_1_method_31_code
def yX6_as : MethodName := ⟨RX6, "as", "(II)I"⟩
abbrev cX6_ask : ByteArray := prog_1_method_32_code
def yX6_ask : MethodName := ⟨RX6, "ask", "(II)I"⟩
abbrev cX6_trace : ByteArray := prog_1_method_33_code
def yX6_trace : MethodName := ⟨RX6, "trace", "(I)I"⟩
abbrev cX6_count : ByteArray := prog_1_method_34_code
def yX6_count : MethodName := ⟨RX6, "count", "(I)I"⟩
abbrev cX6_status : ByteArray := prog_1_method_35_code
def yX6_status : MethodName := ⟨RX6, "status", "()I"⟩
abbrev cX6_found : ByteArray := prog_1_method_36_code
def yX6_found : MethodName := ⟨RX6, "found", "(I)I"⟩
abbrev cX6_fine : ByteArray := prog_1_method_37_code
def yX6_fine : MethodName := ⟨RX6, "fine", "(I)I"⟩
abbrev cX6_beginAct : ByteArray := prog_1_method_38_code
def yX6_beginAct : MethodName := ⟨RX6, "beginAct", "()V"⟩
abbrev cX6_beginAnew : ByteArray := prog_1_method_39_code
def yX6_beginAnew : MethodName := ⟨RX6, "beginAnew", "()V"⟩
abbrev cX6_imageOf : ByteArray := prog_1_method_40_code
def yX6_imageOf : MethodName := ⟨RX6, "imageOf", "(I)LTowerBraid$Tower;"⟩
abbrev cX6_whoStrainAll : ByteArray := prog_1_method_41_code
def yX6_whoStrainAll : MethodName := ⟨RX6, "whoStrainAll", "(III)I"⟩
abbrev cX6_isStrain : ByteArray := prog_1_method_42_code
def yX6_isStrain : MethodName := ⟨RX6, "isStrain", "(I)Z"⟩
abbrev cX6_isOfKind : ByteArray := prog_1_method_43_code
def yX6_isOfKind : MethodName := ⟨RX6, "isOfKind", "(II)Z"⟩
abbrev cX6_bit : ByteArray := prog_1_method_44_code
def yX6_bit : MethodName := ⟨RX6, "bit", "(II)I"⟩
abbrev cX6_power : ByteArray := prog_1_method_45_code
def yX6_power : MethodName := ⟨RX6, "power", "(II)I"⟩
abbrev cX6_commonDivisor : ByteArray := prog_1_method_46_code
def yX6_commonDivisor : MethodName := ⟨RX6, "commonDivisor", "(II)I"⟩
def RX7 : String := "TowerBraidModel"
def TX7 : u_T := fun k => match k with
  | 0 => ("TowerBraidModel", "w", "[I", true)
  | 1 => ("TowerBraidModel", "acts", "I", false)
  | 2 => ("TowerBraidModel", "isKept", "[Z", true)
  | 3 => ("TowerBraidModel", "lanes", "[I", true)
  | 4 => ("TowerBraidModel", "sizes", "[I", true)
  | 5 => ("TowerBraidModel", "items", "[I", true)
  | 6 => ("TowerBraidModel", "held", "[I", true)
  | 7 => ("TowerBraidModel", "status", "I", false)
  | 8 => ("TowerBraidModel", "tape", "[I", true)
  | 9 => ("TowerBraidModel", "taped", "I", false)
  | 10 => ("TowerBraidModel", "latest", "I", false)
  | 11 => ("TowerBraidModel", "at", "I", false)
  | 12 => ("TowerBraidModel", "start", "I", false)
  | 13 => ("TowerBraidModel", "fault", "I", false)
  | 14 => ("TowerBraidModel", "value", "I", false)
  | 15 => ("TowerBraidModel", "ahead", "[I", true)
  | 16 => ("TowerBraidModel", "sets", "[I", true)
  | 17 => ("TowerBraidModel", "best", "[I", true)
  | 18 => ("TowerBraidModel", "trace", "[I", true)
  | _ => ("TowerBraidModel", "traced", "I", false)
def tyX7 : Nat → FieldType := fun k => match k with
  | 0 => .array .int
  | 1 => .int
  | 2 => .array .boolean
  | 3 => .array .int
  | 4 => .array .int
  | 5 => .array .int
  | 6 => .array .int
  | 7 => .int
  | 8 => .array .int
  | 9 => .int
  | 10 => .int
  | 11 => .int
  | 12 => .int
  | 13 => .int
  | 14 => .int
  | 15 => .array .int
  | 16 => .array .int
  | 17 => .array .int
  | 18 => .array .int
  | _ => .int
abbrev wsX70 : List Cond := u_ws RX7 TX7 20
theorem nmX7 : ∀ a, a < 20 → ∀ b, b < 20 → a ≠ b → (TX7 a).2.1 ≠ (TX7 b).2.1 := by decide +kernel
theorem tyX7_ok : ∀ k, k < 20 → parseFieldDescriptor (TX7 k).2.2.1 = some (tyX7 k) := by decide +kernel
abbrev cX7_init : ByteArray := prog_9_method_1_code
def yX7_init : MethodName := ⟨RX7, "<init>", "()V"⟩
abbrev cX7_in : ByteArray := prog_9_method_3_code
def yX7_in : MethodName := ⟨RX7, "in", "(JJJ)Z"⟩
abbrev cX7_has : ByteArray := prog_9_method_4_code
def yX7_has : MethodName := ⟨RX7, "has", "(II)Z"⟩
abbrev cX7_ones : ByteArray := prog_9_method_5_code
def yX7_ones : MethodName := ⟨RX7, "ones", "(I)I"⟩
abbrev cX7_found : ByteArray := prog_9_method_6_code
def yX7_found : MethodName := ⟨RX7, "found", "(I)I"⟩
abbrev cX7_well : ByteArray := prog_9_method_7_code
def yX7_well : MethodName := ⟨RX7, "well", "(I)I"⟩
abbrev cX7_isRow : ByteArray := prog_9_method_8_code
def yX7_isRow : MethodName := ⟨RX7, "isRow", "(I)Z"⟩
abbrev cX7_row : ByteArray := prog_9_method_9_code
def yX7_row : MethodName := ⟨RX7, "row", "(III)I"⟩
abbrev cX7_cutTo : ByteArray := prog_9_method_10_code
def yX7_cutTo : MethodName := ⟨RX7, "cutTo", "(II)I"⟩
abbrev cX7_against : ByteArray := prog_9_method_11_code
def yX7_against : MethodName := ⟨RX7, "against", "(III)I"⟩
abbrev cX7_set : ByteArray := prog_9_method_12_code
def yX7_set : MethodName := ⟨RX7, "set", "(III)I"⟩
abbrev cX7_copy : ByteArray := prog_9_method_13_code
def yX7_copy : MethodName := ⟨RX7, "copy", "(IIIII)I"⟩
abbrev cX7_drop : ByteArray := prog_9_method_14_code
def yX7_drop : MethodName := ⟨RX7, "drop", "(I)I"⟩
abbrev cX7_feed : ByteArray := prog_9_method_15_code
def yX7_feed : MethodName := ⟨RX7, "feed", "(I)I"⟩
abbrev cX7_byteAt : ByteArray := prog_9_method_16_code
def yX7_byteAt : MethodName := ⟨RX7, "byteAt", "(I)I"⟩
abbrev cX7_isFigure : ByteArray := prog_9_method_17_code
def yX7_isFigure : MethodName := ⟨RX7, "isFigure", "(I)Z"⟩
abbrev cX7_takes : ByteArray := prog_9_method_18_code
def yX7_takes : MethodName := ⟨RX7, "takes", "(I)Z"⟩
abbrev cX7_takesNumber : ByteArray := prog_9_method_19_code
def yX7_takesNumber : MethodName := ⟨RX7, "takesNumber", "(II)Z"⟩
abbrev cX7_isMore : ByteArray := prog_9_method_20_code
def yX7_isMore : MethodName := ⟨RX7, "isMore", "()Z"⟩
abbrev cX7_takesLaw : ByteArray := prog_9_method_21_code
def yX7_takesLaw : MethodName := ⟨RX7, "takesLaw", "()Z"⟩
abbrev cX7_sortOf : ByteArray := prog_9_method_22_code
def yX7_sortOf : MethodName := ⟨RX7, "sortOf", "(I)I"⟩
abbrev cX7_takesStrand : ByteArray := prog_9_method_23_code
def yX7_takesStrand : MethodName := ⟨RX7, "takesStrand", "()Z"⟩
abbrev cX7_takesClimber : ByteArray := prog_9_method_24_code
def yX7_takesClimber : MethodName := ⟨RX7, "takesClimber", "()Z"⟩
abbrev cX7_isTower : ByteArray := prog_9_method_25_code
def yX7_isTower : MethodName := ⟨RX7, "isTower", "()Z"⟩
abbrev cX7_tower : ByteArray := prog_9_method_26_code
def yX7_tower : MethodName := ⟨RX7, "tower", "()I"⟩
abbrev cX7_fault : ByteArray := prog_9_method_27_code
def yX7_fault : MethodName := ⟨RX7, "fault", "()I"⟩
abbrev cX7_minds : ByteArray := prog_9_method_28_code
def yX7_minds : MethodName := ⟨RX7, "minds", "()V"⟩
abbrev cX7_undo : ByteArray := prog_9_method_29_code
def yX7_undo : MethodName := ⟨RX7, "undo", "()I"⟩
abbrev cX7_isNone : ByteArray := prog_9_method_30_code
def yX7_isNone : MethodName := ⟨RX7, "isNone", "()Z"⟩
abbrev cX7_isStrand : ByteArray := prog_9_method_31_code
def yX7_isStrand : MethodName := ⟨RX7, "isStrand", "(I)Z"⟩
abbrev cX7_isClimber : ByteArray := prog_9_method_32_code
def yX7_isClimber : MethodName := ⟨RX7, "isClimber", "(I)Z"⟩
abbrev cX7_isSet : ByteArray := prog_9_method_33_code
def yX7_isSet : MethodName := ⟨RX7, "isSet", "(I)Z"⟩
abbrev cX7_plait : ByteArray := prog_9_method_34_code
def yX7_plait : MethodName := ⟨RX7, "plait", "(I)I"⟩
abbrev cX7_pullOf : ByteArray := prog_9_method_35_code
def yX7_pullOf : MethodName := ⟨RX7, "pullOf", "(I)I"⟩
abbrev cX7_shareOf : ByteArray := prog_9_method_36_code
def yX7_shareOf : MethodName := ⟨RX7, "shareOf", "(II)I"⟩
abbrev cX7_breaking : ByteArray := prog_9_method_37_code
def yX7_breaking : MethodName := ⟨RX7, "breaking", "(II)I"⟩
abbrev cX7_wearOf : ByteArray := prog_9_method_38_code
def yX7_wearOf : MethodName := ⟨RX7, "wearOf", "(II)I"⟩
abbrev cX7_wears : ByteArray := prog_9_method_39_code
def yX7_wears : MethodName := ⟨RX7, "wears", "(II)V"⟩
abbrev cX7_climb : ByteArray := prog_9_method_40_code
def yX7_climb : MethodName := ⟨RX7, "climb", "(I)I"⟩
abbrev cX7_day : ByteArray := prog_9_method_41_code
def yX7_day : MethodName := ⟨RX7, "day", "()I"⟩
abbrev cX7_cut : ByteArray := prog_9_method_42_code
def yX7_cut : MethodName := ⟨RX7, "cut", "(I)I"⟩
abbrev cX7_peg : ByteArray := prog_9_method_43_code
def yX7_peg : MethodName := ⟨RX7, "peg", "(I)I"⟩
abbrev cX7_strand : ByteArray := prog_9_method_44_code
def yX7_strand : MethodName := ⟨RX7, "strand", "(II)I"⟩
abbrev cX7_isBorne : ByteArray := prog_9_method_45_code
def yX7_isBorne : MethodName := ⟨RX7, "isBorne", "(II)Z"⟩
abbrev cX7_strainOf : ByteArray := prog_9_method_46_code
def yX7_strainOf : MethodName := ⟨RX7, "strainOf", "(II)I"⟩
abbrev cX7_climber : ByteArray := prog_9_method_47_code
def yX7_climber : MethodName := ⟨RX7, "climber", "(II)I"⟩
abbrev cX7_dueOn : ByteArray := prog_9_method_48_code
def yX7_dueOn : MethodName := ⟨RX7, "dueOn", "(I)I"⟩
abbrev cX7_due : ByteArray := prog_9_method_49_code
def yX7_due : MethodName := ⟨RX7, "due", "(I)I"⟩
abbrev cX7_borne : ByteArray := prog_9_method_50_code
def yX7_borne : MethodName := ⟨RX7, "borne", "(II)I"⟩
abbrev cX7_climbAll : ByteArray := prog_9_method_51_code
def yX7_climbAll : MethodName := ⟨RX7, "climbAll", "(II)Z"⟩
abbrev cX7_keepsWorn : ByteArray := prog_9_method_52_code
def yX7_keepsWorn : MethodName := ⟨RX7, "keepsWorn", "(I)V"⟩
abbrev cX7_putsBack : ByteArray := prog_9_method_53_code
def yX7_putsBack : MethodName := ⟨RX7, "putsBack", "(I)V"⟩
abbrev cX7_goesDay : ByteArray := prog_9_method_54_code
def yX7_goesDay : MethodName := ⟨RX7, "goesDay", "(I)Z"⟩
abbrev cX7_wornMore : ByteArray := prog_9_method_55_code
def yX7_wornMore : MethodName := ⟨RX7, "wornMore", "()I"⟩
abbrev cX7_leastWorn : ByteArray := prog_9_method_56_code
def yX7_leastWorn : MethodName := ⟨RX7, "leastWorn", "(I)I"⟩
abbrev cX7_plan : ByteArray := prog_9_method_57_code
def yX7_plan : MethodName := ⟨RX7, "plan", "(II)I"⟩
abbrev cX7_never : ByteArray := prog_9_method_58_code
def yX7_never : MethodName := ⟨RX7, "never", "()I"⟩
abbrev cX7_needed : ByteArray := prog_9_method_59_code
def yX7_needed : MethodName := ⟨RX7, "needed", "(I)I"⟩
abbrev cX7_strongestBy : ByteArray := prog_9_method_60_code
def yX7_strongestBy : MethodName := ⟨RX7, "strongestBy", "(I)I"⟩
abbrev cX7_strongest : ByteArray := prog_9_method_61_code
def yX7_strongest : MethodName := ⟨RX7, "strongest", "(I)I"⟩
abbrev cX7_cutMost : ByteArray := prog_9_method_62_code
def yX7_cutMost : MethodName := ⟨RX7, "cutMost", "()I"⟩
abbrev cX7_comes : ByteArray := prog_9_method_63_code
def yX7_comes : MethodName := ⟨RX7, "comes", "(II)I"⟩
abbrev cX7_climbed : ByteArray := prog_9_method_64_code
def yX7_climbed : MethodName := ⟨RX7, "climbed", "(I)I"⟩
abbrev cX7_climbers : ByteArray := prog_9_method_65_code
def yX7_climbers : MethodName := ⟨RX7, "climbers", "(III)I"⟩
abbrev cX7_storm : ByteArray := prog_9_method_66_code
def yX7_storm : MethodName := ⟨RX7, "storm", "(III)I"⟩
abbrev cX7_image : ByteArray := prog_9_method_67_code
def yX7_image : MethodName := ⟨RX7, "image", "(I)I"⟩
abbrev cX7_restore : ByteArray := prog_9_method_68_code
def yX7_restore : MethodName := ⟨RX7, "restore", "(I)I"⟩
abbrev cX7_leaves : ByteArray := prog_9_method_69_code
def yX7_leaves : MethodName := ⟨RX7, "leaves", "(I)V"⟩
abbrev cX7_kind : ByteArray := prog_9_method_70_code
def yX7_kind : MethodName := ⟨RX7, "kind", "(I)I"⟩
abbrev cX7_isOf : ByteArray := prog_9_method_71_code
def yX7_isOf : MethodName := ⟨RX7, "isOf", "(II)Z"⟩
abbrev cX7_as : ByteArray := prog_9_method_72_code
def yX7_as : MethodName := ⟨RX7, "as", "(II)I"⟩
abbrev cX7_bareSize : ByteArray := prog_9_method_73_code
def yX7_bareSize : MethodName := ⟨RX7, "bareSize", "(I)I"⟩
abbrev cX7_bareMark : ByteArray := prog_9_method_74_code
def yX7_bareMark : MethodName := ⟨RX7, "bareMark", "(I)I"⟩
abbrev cX7_hairMark : ByteArray := prog_9_method_75_code
def yX7_hairMark : MethodName := ⟨RX7, "hairMark", "(I)I"⟩
abbrev cX7_markOfHair : ByteArray := prog_9_method_76_code
def yX7_markOfHair : MethodName := ⟨RX7, "markOfHair", "(I)I"⟩
abbrev cX7_hairSize : ByteArray := prog_9_method_77_code
def yX7_hairSize : MethodName := ⟨RX7, "hairSize", "(I)I"⟩
abbrev cX7_ropeSize : ByteArray := prog_9_method_78_code
def yX7_ropeSize : MethodName := ⟨RX7, "ropeSize", "(I)I"⟩
abbrev cX7_sizeOf : ByteArray := prog_9_method_79_code
def yX7_sizeOf : MethodName := ⟨RX7, "sizeOf", "(I)I"⟩
abbrev cX7_markOf : ByteArray := prog_9_method_80_code
def yX7_markOf : MethodName := ⟨RX7, "markOf", "(I)I"⟩
abbrev cX7_ask : ByteArray := prog_9_method_81_code
def yX7_ask : MethodName := ⟨RX7, "ask", "(II)I"⟩
abbrev cX7_trace : ByteArray := prog_9_method_82_code
def yX7_trace : MethodName := ⟨RX7, "trace", "(I)I"⟩
abbrev cX7_rowsMany : ByteArray := prog_9_method_83_code
def yX7_rowsMany : MethodName := ⟨RX7, "rowsMany", "()I"⟩
abbrev cX7_count : ByteArray := prog_9_method_84_code
def yX7_count : MethodName := ⟨RX7, "count", "(I)I"⟩
abbrev cX7_status : ByteArray := prog_9_method_85_code
def yX7_status : MethodName := ⟨RX7, "status", "()I"⟩
def RJ6 : String := "java/lang/Integer"
def TJ6 : u_T := fun k => match k with
  | _ => ("", "", "", false)
def tyJ6 : Nat → FieldType := fun k => match k with
  | _ => .int
abbrev wsJ60 : List Cond := u_ws RJ6 TJ6 0
theorem nmJ6 : ∀ a, a < 0 → ∀ b, b < 0 → a ≠ b → (TJ6 a).2.1 ≠ (TJ6 b).2.1 := by decide +kernel
theorem tyJ6_ok : ∀ k, k < 0 → parseFieldDescriptor (TJ6 k).2.2.1 = some (tyJ6 k) := by decide +kernel
abbrev cJ6_bitCount_0f7a4 : ByteArray := prog_10_method_49_code
def yJ6_bitCount_0f7a4 : MethodName := ⟨RJ6, "bitCount", "(I)I"⟩
def RJ9 : String := "java/lang/Math"
def TJ9 : u_T := fun k => match k with
  | _ => ("", "", "", false)
def tyJ9 : Nat → FieldType := fun k => match k with
  | _ => .int
abbrev wsJ90 : List Cond := u_ws RJ9 TJ9 0
theorem nmJ9 : ∀ a, a < 0 → ∀ b, b < 0 → a ≠ b → (TJ9 a).2.1 ≠ (TJ9 b).2.1 := by decide +kernel
theorem tyJ9_ok : ∀ k, k < 0 → parseFieldDescriptor (TJ9 k).2.2.1 = some (tyJ9 k) := by decide +kernel
abbrev cJ9_floorMod_7cf53 : ByteArray := prog_11_method_50_code
def yJ9_floorMod_7cf53 : MethodName := ⟨RJ9, "floorMod", "(II)I"⟩
abbrev cJ9_max_7cf53 : ByteArray := prog_11_method_65_code
def yJ9_max_7cf53 : MethodName := ⟨RJ9, "max", "(II)I"⟩
abbrev cJ9_min_7cf53 : ByteArray := prog_11_method_69_code
def yJ9_min_7cf53 : MethodName := ⟨RJ9, "min", "(II)I"⟩
def RJ10 : String := "java/lang/System"
def TJ10 : u_T := fun k => match k with
  | _ => ("", "", "", false)
def tyJ10 : Nat → FieldType := fun k => match k with
  | _ => .int
abbrev wsJ100 : List Cond := u_ws RJ10 TJ10 0
theorem nmJ10 : ∀ a, a < 0 → ∀ b, b < 0 → a ≠ b → (TJ10 a).2.1 ≠ (TJ10 b).2.1 := by decide +kernel
theorem tyJ10_ok : ∀ k, k < 0 → parseFieldDescriptor (TJ10 k).2.2.1 = some (tyJ10 k) := by decide +kernel
def RL : String := "TowerBraidLaw"
abbrev cL_law : ByteArray := code
def yL_law : MethodName := ⟨RL, "law", "([I)Z"⟩
