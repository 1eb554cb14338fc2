section
-- ===== PART A: goes FIRST, ahead of the names: the tables' words, and 'selects' of the private methods out of them =====
/-- a private method of a class that the tables say can be made, by its rows of tables_1 -/
def lw_okq (q : MethodName × Nat) : Prop := (q.1.cls ≠ "java/lang/invoke/MethodHandle" ∧ q.1.cls ≠ "java/lang/invoke/VarHandle") ∧ Cond.instantiable q.1.cls q.2 ∈ tables_1 ∧ Cond.privateMethod q.1 ∈ tables_1 ∧ Cond.instanceMethod q.1 ∈ tables_1
theorem lw_p0 : lw_okq (⟨"PowersForTimes$Rests", "listPowers", "(I)I"⟩, 7) := ⟨⟨by decide +kernel, by decide +kernel⟩, List.mem_of_getElem? (i := 45) (by decide +kernel), List.mem_of_getElem? (i := 313) (by decide +kernel), List.mem_of_getElem? (i := 314) (by decide +kernel)⟩
theorem lw_p1 : lw_okq (⟨"PowersForTimes", "isModulus", "(I)Z"⟩, 16) := ⟨⟨by decide +kernel, by decide +kernel⟩, List.mem_of_getElem? (i := 19) (by decide +kernel), List.mem_of_getElem? (i := 393) (by decide +kernel), List.mem_of_getElem? (i := 394) (by decide +kernel)⟩
theorem lw_p2 : lw_okq (⟨"PowersForTimes$Primes", "splitUp", "(II)V"⟩, 5) := ⟨⟨by decide +kernel, by decide +kernel⟩, List.mem_of_getElem? (i := 74) (by decide +kernel), List.mem_of_getElem? (i := 445) (by decide +kernel), List.mem_of_getElem? (i := 446) (by decide +kernel)⟩
theorem lw_p3 : lw_okq (⟨"PowersForTimes$Primes", "trace", "(III)I"⟩, 5) := ⟨⟨by decide +kernel, by decide +kernel⟩, List.mem_of_getElem? (i := 74) (by decide +kernel), List.mem_of_getElem? (i := 449) (by decide +kernel), List.mem_of_getElem? (i := 450) (by decide +kernel)⟩
theorem lw_p4 : lw_okq (⟨"PowersForTimes$Primes", "splitBy", "(I)V"⟩, 5) := ⟨⟨by decide +kernel, by decide +kernel⟩, List.mem_of_getElem? (i := 74) (by decide +kernel), List.mem_of_getElem? (i := 457) (by decide +kernel), List.mem_of_getElem? (i := 458) (by decide +kernel)⟩
theorem lw_p5 : lw_okq (⟨"PowersForTimes$Primes", "takeOut", "(II)I"⟩, 5) := ⟨⟨by decide +kernel, by decide +kernel⟩, List.mem_of_getElem? (i := 74) (by decide +kernel), List.mem_of_getElem? (i := 465) (by decide +kernel), List.mem_of_getElem? (i := 466) (by decide +kernel)⟩
theorem lw_p6 : lw_okq (⟨"PowersForTimes$Primes", "add", "(I)V"⟩, 5) := ⟨⟨by decide +kernel, by decide +kernel⟩, List.mem_of_getElem? (i := 74) (by decide +kernel), List.mem_of_getElem? (i := 469) (by decide +kernel), List.mem_of_getElem? (i := 470) (by decide +kernel)⟩
theorem lw_p7 : lw_okq (⟨"PowersForTimes$Primes", "sort", "()V"⟩, 5) := ⟨⟨by decide +kernel, by decide +kernel⟩, List.mem_of_getElem? (i := 74) (by decide +kernel), List.mem_of_getElem? (i := 473) (by decide +kernel), List.mem_of_getElem? (i := 474) (by decide +kernel)⟩
theorem lw_p8 : lw_okq (⟨"PowersForTimes", "putRow", "(IIII)V"⟩, 16) := ⟨⟨by decide +kernel, by decide +kernel⟩, List.mem_of_getElem? (i := 19) (by decide +kernel), List.mem_of_getElem? (i := 522) (by decide +kernel), List.mem_of_getElem? (i := 523) (by decide +kernel)⟩
theorem lw_p9 : lw_okq (⟨"PowersForTimes", "feedFour", "(I)V"⟩, 16) := ⟨⟨by decide +kernel, by decide +kernel⟩, List.mem_of_getElem? (i := 19) (by decide +kernel), List.mem_of_getElem? (i := 556) (by decide +kernel), List.mem_of_getElem? (i := 557) (by decide +kernel)⟩
theorem lw_p10 : lw_okq (⟨"PowersForTimes$Reader", "step", "()V"⟩, 14) := ⟨⟨by decide +kernel, by decide +kernel⟩, List.mem_of_getElem? (i := 204) (by decide +kernel), List.mem_of_getElem? (i := 583) (by decide +kernel), List.mem_of_getElem? (i := 584) (by decide +kernel)⟩
theorem lw_p11 : lw_okq (⟨"PowersForTimes$Reader", "byteAt", "(I)I"⟩, 14) := ⟨⟨by decide +kernel, by decide +kernel⟩, List.mem_of_getElem? (i := 204) (by decide +kernel), List.mem_of_getElem? (i := 587) (by decide +kernel), List.mem_of_getElem? (i := 588) (by decide +kernel)⟩
theorem lw_p12 : lw_okq (⟨"PowersForTimes$Reader", "stepNumber", "()V"⟩, 14) := ⟨⟨by decide +kernel, by decide +kernel⟩, List.mem_of_getElem? (i := 204) (by decide +kernel), List.mem_of_getElem? (i := 594) (by decide +kernel), List.mem_of_getElem? (i := 595) (by decide +kernel)⟩
theorem lw_p13 : lw_okq (⟨"PowersForTimes$Reader", "clauseKind", "()I"⟩, 14) := ⟨⟨by decide +kernel, by decide +kernel⟩, List.mem_of_getElem? (i := 204) (by decide +kernel), List.mem_of_getElem? (i := 608) (by decide +kernel), List.mem_of_getElem? (i := 609) (by decide +kernel)⟩
theorem lw_p14 : lw_okq (⟨"PowersForTimes$Reader", "isWord", "(Ljava/lang/String;)Z"⟩, 14) := ⟨⟨by decide +kernel, by decide +kernel⟩, List.mem_of_getElem? (i := 204) (by decide +kernel), List.mem_of_getElem? (i := 613) (by decide +kernel), List.mem_of_getElem? (i := 614) (by decide +kernel)⟩
theorem lw_p15 : lw_okq (⟨"PowersForTimes$Reader", "fail", "(I)Z"⟩, 14) := ⟨⟨by decide +kernel, by decide +kernel⟩, List.mem_of_getElem? (i := 204) (by decide +kernel), List.mem_of_getElem? (i := 666) (by decide +kernel), List.mem_of_getElem? (i := 667) (by decide +kernel)⟩
def lw_privs_1 : List (MethodName × Nat) := [(⟨"PowersForTimes$Rests", "listPowers", "(I)I"⟩, 7), (⟨"PowersForTimes", "isModulus", "(I)Z"⟩, 16), (⟨"PowersForTimes$Primes", "splitUp", "(II)V"⟩, 5), (⟨"PowersForTimes$Primes", "trace", "(III)I"⟩, 5), (⟨"PowersForTimes$Primes", "splitBy", "(I)V"⟩, 5), (⟨"PowersForTimes$Primes", "takeOut", "(II)I"⟩, 5), (⟨"PowersForTimes$Primes", "add", "(I)V"⟩, 5), (⟨"PowersForTimes$Primes", "sort", "()V"⟩, 5), (⟨"PowersForTimes", "putRow", "(IIII)V"⟩, 16), (⟨"PowersForTimes", "feedFour", "(I)V"⟩, 16), (⟨"PowersForTimes$Reader", "step", "()V"⟩, 14), (⟨"PowersForTimes$Reader", "byteAt", "(I)I"⟩, 14), (⟨"PowersForTimes$Reader", "stepNumber", "()V"⟩, 14), (⟨"PowersForTimes$Reader", "clauseKind", "()I"⟩, 14), (⟨"PowersForTimes$Reader", "isWord", "(Ljava/lang/String;)Z"⟩, 14), (⟨"PowersForTimes$Reader", "fail", "(I)Z"⟩, 14)]
theorem lw_r1 : ∀ q ∈ lw_privs_1, lw_okq q := List.forall_mem_cons.mpr ⟨lw_p0, List.forall_mem_cons.mpr ⟨lw_p1, List.forall_mem_cons.mpr ⟨lw_p2, List.forall_mem_cons.mpr ⟨lw_p3, List.forall_mem_cons.mpr ⟨lw_p4, List.forall_mem_cons.mpr ⟨lw_p5, List.forall_mem_cons.mpr ⟨lw_p6, List.forall_mem_cons.mpr ⟨lw_p7, List.forall_mem_cons.mpr ⟨lw_p8, List.forall_mem_cons.mpr ⟨lw_p9, List.forall_mem_cons.mpr ⟨lw_p10, List.forall_mem_cons.mpr ⟨lw_p11, List.forall_mem_cons.mpr ⟨lw_p12, List.forall_mem_cons.mpr ⟨lw_p13, List.forall_mem_cons.mpr ⟨lw_p14, List.forall_mem_cons.mpr ⟨lw_p15, fun _ h => absurd h List.not_mem_nil⟩⟩⟩⟩⟩⟩⟩⟩⟩⟩⟩⟩⟩⟩⟩⟩
theorem lw_p16 : lw_okq (⟨"PowersForTimes$Reader", "readSum", "(II)Z"⟩, 14) := ⟨⟨by decide +kernel, by decide +kernel⟩, List.mem_of_getElem? (i := 204) (by decide +kernel), List.mem_of_getElem? (i := 670) (by decide +kernel), List.mem_of_getElem? (i := 671) (by decide +kernel)⟩
theorem lw_p17 : lw_okq (⟨"PowersForTimes$Reader", "readProduct", "(II)Z"⟩, 14) := ⟨⟨by decide +kernel, by decide +kernel⟩, List.mem_of_getElem? (i := 204) (by decide +kernel), List.mem_of_getElem? (i := 674) (by decide +kernel), List.mem_of_getElem? (i := 675) (by decide +kernel)⟩
theorem lw_p18 : lw_okq (⟨"PowersForTimes$Reader", "readPower", "(II)Z"⟩, 14) := ⟨⟨by decide +kernel, by decide +kernel⟩, List.mem_of_getElem? (i := 204) (by decide +kernel), List.mem_of_getElem? (i := 678) (by decide +kernel), List.mem_of_getElem? (i := 679) (by decide +kernel)⟩
theorem lw_p19 : lw_okq (⟨"PowersForTimes$Reader", "readOne", "(II)Z"⟩, 14) := ⟨⟨by decide +kernel, by decide +kernel⟩, List.mem_of_getElem? (i := 204) (by decide +kernel), List.mem_of_getElem? (i := 682) (by decide +kernel), List.mem_of_getElem? (i := 683) (by decide +kernel)⟩
theorem lw_p20 : lw_okq (⟨"PowersForTimes$Reader", "readNumber", "(I)Z"⟩, 14) := ⟨⟨by decide +kernel, by decide +kernel⟩, List.mem_of_getElem? (i := 204) (by decide +kernel), List.mem_of_getElem? (i := 686) (by decide +kernel), List.mem_of_getElem? (i := 687) (by decide +kernel)⟩
theorem lw_p21 : lw_okq (⟨"PowersForTimes$Reader", "put", "(III)V"⟩, 14) := ⟨⟨by decide +kernel, by decide +kernel⟩, List.mem_of_getElem? (i := 204) (by decide +kernel), List.mem_of_getElem? (i := 691) (by decide +kernel), List.mem_of_getElem? (i := 692) (by decide +kernel)⟩
theorem lw_p22 : lw_okq (⟨"PowersForTimes$Reader", "isWorking", "(I)Z"⟩, 14) := ⟨⟨by decide +kernel, by decide +kernel⟩, List.mem_of_getElem? (i := 204) (by decide +kernel), List.mem_of_getElem? (i := 695) (by decide +kernel), List.mem_of_getElem? (i := 696) (by decide +kernel)⟩
theorem lw_p23 : lw_okq (⟨"PowersForTimes$Reader", "expect", "(I)Z"⟩, 14) := ⟨⟨by decide +kernel, by decide +kernel⟩, List.mem_of_getElem? (i := 204) (by decide +kernel), List.mem_of_getElem? (i := 701) (by decide +kernel), List.mem_of_getElem? (i := 702) (by decide +kernel)⟩
theorem lw_p24 : lw_okq (⟨"PowersForTimes$Reader", "turnOver", "(I)V"⟩, 14) := ⟨⟨by decide +kernel, by decide +kernel⟩, List.mem_of_getElem? (i := 204) (by decide +kernel), List.mem_of_getElem? (i := 705) (by decide +kernel), List.mem_of_getElem? (i := 706) (by decide +kernel)⟩
theorem lw_p25 : lw_okq (⟨"PowersForTimes$Reader", "raise", "(II)V"⟩, 14) := ⟨⟨by decide +kernel, by decide +kernel⟩, List.mem_of_getElem? (i := 204) (by decide +kernel), List.mem_of_getElem? (i := 716) (by decide +kernel), List.mem_of_getElem? (i := 717) (by decide +kernel)⟩
theorem lw_p26 : lw_okq (⟨"PowersForTimes$Reader", "multiplyUp", "(I)V"⟩, 14) := ⟨⟨by decide +kernel, by decide +kernel⟩, List.mem_of_getElem? (i := 204) (by decide +kernel), List.mem_of_getElem? (i := 730) (by decide +kernel), List.mem_of_getElem? (i := 731) (by decide +kernel)⟩
theorem lw_p27 : lw_okq (⟨"PowersForTimes$Reader", "addUp", "(IZ)V"⟩, 14) := ⟨⟨by decide +kernel, by decide +kernel⟩, List.mem_of_getElem? (i := 204) (by decide +kernel), List.mem_of_getElem? (i := 734) (by decide +kernel), List.mem_of_getElem? (i := 735) (by decide +kernel)⟩
theorem lw_p28 : lw_okq (⟨"PowersForTimes", "isActing", "(II)Z"⟩, 16) := ⟨⟨by decide +kernel, by decide +kernel⟩, List.mem_of_getElem? (i := 19) (by decide +kernel), List.mem_of_getElem? (i := 782) (by decide +kernel), List.mem_of_getElem? (i := 783) (by decide +kernel)⟩
theorem lw_p29 : lw_okq (⟨"PowersForTimes$Ties", "keep", "([IIII)V"⟩, 5) := ⟨⟨by decide +kernel, by decide +kernel⟩, List.mem_of_getElem? (i := 119) (by decide +kernel), List.mem_of_getElem? (i := 846) (by decide +kernel), List.mem_of_getElem? (i := 847) (by decide +kernel)⟩
theorem lw_p30 : lw_okq (⟨"PowersForTimes$Acting", "spread", "([II)V"⟩, 7) := ⟨⟨by decide +kernel, by decide +kernel⟩, List.mem_of_getElem? (i := 113) (by decide +kernel), List.mem_of_getElem? (i := 882) (by decide +kernel), List.mem_of_getElem? (i := 883) (by decide +kernel)⟩
theorem lw_p31 : lw_okq (⟨"PowersForTimes$Acting", "noughtSpace", "([II)I"⟩, 7) := ⟨⟨by decide +kernel, by decide +kernel⟩, List.mem_of_getElem? (i := 113) (by decide +kernel), List.mem_of_getElem? (i := 886) (by decide +kernel), List.mem_of_getElem? (i := 887) (by decide +kernel)⟩
def lw_privs_2 : List (MethodName × Nat) := [(⟨"PowersForTimes$Reader", "readSum", "(II)Z"⟩, 14), (⟨"PowersForTimes$Reader", "readProduct", "(II)Z"⟩, 14), (⟨"PowersForTimes$Reader", "readPower", "(II)Z"⟩, 14), (⟨"PowersForTimes$Reader", "readOne", "(II)Z"⟩, 14), (⟨"PowersForTimes$Reader", "readNumber", "(I)Z"⟩, 14), (⟨"PowersForTimes$Reader", "put", "(III)V"⟩, 14), (⟨"PowersForTimes$Reader", "isWorking", "(I)Z"⟩, 14), (⟨"PowersForTimes$Reader", "expect", "(I)Z"⟩, 14), (⟨"PowersForTimes$Reader", "turnOver", "(I)V"⟩, 14), (⟨"PowersForTimes$Reader", "raise", "(II)V"⟩, 14), (⟨"PowersForTimes$Reader", "multiplyUp", "(I)V"⟩, 14), (⟨"PowersForTimes$Reader", "addUp", "(IZ)V"⟩, 14), (⟨"PowersForTimes", "isActing", "(II)Z"⟩, 16), (⟨"PowersForTimes$Ties", "keep", "([IIII)V"⟩, 5), (⟨"PowersForTimes$Acting", "spread", "([II)V"⟩, 7), (⟨"PowersForTimes$Acting", "noughtSpace", "([II)I"⟩, 7)]
theorem lw_r2 : ∀ q ∈ lw_privs_2, lw_okq q := List.forall_mem_cons.mpr ⟨lw_p16, List.forall_mem_cons.mpr ⟨lw_p17, List.forall_mem_cons.mpr ⟨lw_p18, List.forall_mem_cons.mpr ⟨lw_p19, List.forall_mem_cons.mpr ⟨lw_p20, List.forall_mem_cons.mpr ⟨lw_p21, List.forall_mem_cons.mpr ⟨lw_p22, List.forall_mem_cons.mpr ⟨lw_p23, List.forall_mem_cons.mpr ⟨lw_p24, List.forall_mem_cons.mpr ⟨lw_p25, List.forall_mem_cons.mpr ⟨lw_p26, List.forall_mem_cons.mpr ⟨lw_p27, List.forall_mem_cons.mpr ⟨lw_p28, List.forall_mem_cons.mpr ⟨lw_p29, List.forall_mem_cons.mpr ⟨lw_p30, List.forall_mem_cons.mpr ⟨lw_p31, fun _ h => absurd h List.not_mem_nil⟩⟩⟩⟩⟩⟩⟩⟩⟩⟩⟩⟩⟩⟩⟩⟩
theorem lw_p32 : lw_okq (⟨"PowersForTimes$Acting", "greatUnit", "([I)I"⟩, 7) := ⟨⟨by decide +kernel, by decide +kernel⟩, List.mem_of_getElem? (i := 113) (by decide +kernel), List.mem_of_getElem? (i := 903) (by decide +kernel), List.mem_of_getElem? (i := 904) (by decide +kernel)⟩
theorem lw_p33 : lw_okq (⟨"PowersForTimes", "areMapAndModule", "(II)Z"⟩, 16) := ⟨⟨by decide +kernel, by decide +kernel⟩, List.mem_of_getElem? (i := 19) (by decide +kernel), List.mem_of_getElem? (i := 920) (by decide +kernel), List.mem_of_getElem? (i := 921) (by decide +kernel)⟩
theorem lw_p34 : lw_okq (⟨"PowersForTimes$Maps", "putDifference", "([III)V"⟩, 9) := ⟨⟨by decide +kernel, by decide +kernel⟩, List.mem_of_getElem? (i := 170) (by decide +kernel), List.mem_of_getElem? (i := 977) (by decide +kernel), List.mem_of_getElem? (i := 978) (by decide +kernel)⟩
theorem lw_p35 : lw_okq (⟨"PowersForTimes$Maps", "isGreatest", "(IIII)Z"⟩, 9) := ⟨⟨by decide +kernel, by decide +kernel⟩, List.mem_of_getElem? (i := 170) (by decide +kernel), List.mem_of_getElem? (i := 1015) (by decide +kernel), List.mem_of_getElem? (i := 1016) (by decide +kernel)⟩
theorem lw_p36 : lw_okq (⟨"PowersForTimesModel", "makeWorld", "()V"⟩, 31) := ⟨⟨by decide +kernel, by decide +kernel⟩, List.mem_of_getElem? (i := 1090) (by decide +kernel), List.mem_of_getElem? (i := 1096) (by decide +kernel), List.mem_of_getElem? (i := 1097) (by decide +kernel)⟩
theorem lw_p37 : lw_okq (⟨"PowersForTimesModel", "degree", "(I)I"⟩, 31) := ⟨⟨by decide +kernel, by decide +kernel⟩, List.mem_of_getElem? (i := 1090) (by decide +kernel), List.mem_of_getElem? (i := 1100) (by decide +kernel), List.mem_of_getElem? (i := 1101) (by decide +kernel)⟩
theorem lw_p38 : lw_okq (⟨"PowersForTimesModel", "power", "(I)I"⟩, 31) := ⟨⟨by decide +kernel, by decide +kernel⟩, List.mem_of_getElem? (i := 1090) (by decide +kernel), List.mem_of_getElem? (i := 1104) (by decide +kernel), List.mem_of_getElem? (i := 1105) (by decide +kernel)⟩
theorem lw_p39 : lw_okq (⟨"PowersForTimesModel", "sumOf", "(III)I"⟩, 31) := ⟨⟨by decide +kernel, by decide +kernel⟩, List.mem_of_getElem? (i := 1090) (by decide +kernel), List.mem_of_getElem? (i := 1108) (by decide +kernel), List.mem_of_getElem? (i := 1109) (by decide +kernel)⟩
theorem lw_p40 : lw_okq (⟨"PowersForTimesModel", "shifted", "(II)I"⟩, 31) := ⟨⟨by decide +kernel, by decide +kernel⟩, List.mem_of_getElem? (i := 1090) (by decide +kernel), List.mem_of_getElem? (i := 1112) (by decide +kernel), List.mem_of_getElem? (i := 1113) (by decide +kernel)⟩
theorem lw_p41 : lw_okq (⟨"PowersForTimesModel", "rest", "(II)I"⟩, 31) := ⟨⟨by decide +kernel, by decide +kernel⟩, List.mem_of_getElem? (i := 1090) (by decide +kernel), List.mem_of_getElem? (i := 1116) (by decide +kernel), List.mem_of_getElem? (i := 1117) (by decide +kernel)⟩
theorem lw_p42 : lw_okq (⟨"PowersForTimesModel", "divide", "(II)V"⟩, 31) := ⟨⟨by decide +kernel, by decide +kernel⟩, List.mem_of_getElem? (i := 1090) (by decide +kernel), List.mem_of_getElem? (i := 1120) (by decide +kernel), List.mem_of_getElem? (i := 1121) (by decide +kernel)⟩
theorem lw_p43 : lw_okq (⟨"PowersForTimesModel", "figure", "(II)I"⟩, 31) := ⟨⟨by decide +kernel, by decide +kernel⟩, List.mem_of_getElem? (i := 1090) (by decide +kernel), List.mem_of_getElem? (i := 1124) (by decide +kernel), List.mem_of_getElem? (i := 1125) (by decide +kernel)⟩
theorem lw_p44 : lw_okq (⟨"PowersForTimesModel", "unit", "(I)I"⟩, 31) := ⟨⟨by decide +kernel, by decide +kernel⟩, List.mem_of_getElem? (i := 1090) (by decide +kernel), List.mem_of_getElem? (i := 1128) (by decide +kernel), List.mem_of_getElem? (i := 1129) (by decide +kernel)⟩
theorem lw_p45 : lw_okq (⟨"PowersForTimesModel", "isPoly", "(I)Z"⟩, 31) := ⟨⟨by decide +kernel, by decide +kernel⟩, List.mem_of_getElem? (i := 1090) (by decide +kernel), List.mem_of_getElem? (i := 1233) (by decide +kernel), List.mem_of_getElem? (i := 1234) (by decide +kernel)⟩
theorem lw_p46 : lw_okq (⟨"PowersForTimesModel", "times", "(II)I"⟩, 31) := ⟨⟨by decide +kernel, by decide +kernel⟩, List.mem_of_getElem? (i := 1090) (by decide +kernel), List.mem_of_getElem? (i := 1240) (by decide +kernel), List.mem_of_getElem? (i := 1241) (by decide +kernel)⟩
theorem lw_p47 : lw_okq (⟨"PowersForTimesModel", "by", "(II)I"⟩, 31) := ⟨⟨by decide +kernel, by decide +kernel⟩, List.mem_of_getElem? (i := 1090) (by decide +kernel), List.mem_of_getElem? (i := 1244) (by decide +kernel), List.mem_of_getElem? (i := 1245) (by decide +kernel)⟩
def lw_privs_3 : List (MethodName × Nat) := [(⟨"PowersForTimes$Acting", "greatUnit", "([I)I"⟩, 7), (⟨"PowersForTimes", "areMapAndModule", "(II)Z"⟩, 16), (⟨"PowersForTimes$Maps", "putDifference", "([III)V"⟩, 9), (⟨"PowersForTimes$Maps", "isGreatest", "(IIII)Z"⟩, 9), (⟨"PowersForTimesModel", "makeWorld", "()V"⟩, 31), (⟨"PowersForTimesModel", "degree", "(I)I"⟩, 31), (⟨"PowersForTimesModel", "power", "(I)I"⟩, 31), (⟨"PowersForTimesModel", "sumOf", "(III)I"⟩, 31), (⟨"PowersForTimesModel", "shifted", "(II)I"⟩, 31), (⟨"PowersForTimesModel", "rest", "(II)I"⟩, 31), (⟨"PowersForTimesModel", "divide", "(II)V"⟩, 31), (⟨"PowersForTimesModel", "figure", "(II)I"⟩, 31), (⟨"PowersForTimesModel", "unit", "(I)I"⟩, 31), (⟨"PowersForTimesModel", "isPoly", "(I)Z"⟩, 31), (⟨"PowersForTimesModel", "times", "(II)I"⟩, 31), (⟨"PowersForTimesModel", "by", "(II)I"⟩, 31)]
theorem lw_r3 : ∀ q ∈ lw_privs_3, lw_okq q := List.forall_mem_cons.mpr ⟨lw_p32, List.forall_mem_cons.mpr ⟨lw_p33, List.forall_mem_cons.mpr ⟨lw_p34, List.forall_mem_cons.mpr ⟨lw_p35, List.forall_mem_cons.mpr ⟨lw_p36, List.forall_mem_cons.mpr ⟨lw_p37, List.forall_mem_cons.mpr ⟨lw_p38, List.forall_mem_cons.mpr ⟨lw_p39, List.forall_mem_cons.mpr ⟨lw_p40, List.forall_mem_cons.mpr ⟨lw_p41, List.forall_mem_cons.mpr ⟨lw_p42, List.forall_mem_cons.mpr ⟨lw_p43, List.forall_mem_cons.mpr ⟨lw_p44, List.forall_mem_cons.mpr ⟨lw_p45, List.forall_mem_cons.mpr ⟨lw_p46, List.forall_mem_cons.mpr ⟨lw_p47, fun _ h => absurd h List.not_mem_nil⟩⟩⟩⟩⟩⟩⟩⟩⟩⟩⟩⟩⟩⟩⟩⟩
theorem lw_p48 : lw_okq (⟨"PowersForTimesModel", "common", "(II)I"⟩, 31) := ⟨⟨by decide +kernel, by decide +kernel⟩, List.mem_of_getElem? (i := 1090) (by decide +kernel), List.mem_of_getElem? (i := 1248) (by decide +kernel), List.mem_of_getElem? (i := 1249) (by decide +kernel)⟩
theorem lw_p49 : lw_okq (⟨"PowersForTimesModel", "monic", "(I)I"⟩, 31) := ⟨⟨by decide +kernel, by decide +kernel⟩, List.mem_of_getElem? (i := 1090) (by decide +kernel), List.mem_of_getElem? (i := 1252) (by decide +kernel), List.mem_of_getElem? (i := 1253) (by decide +kernel)⟩
theorem lw_p50 : lw_okq (⟨"PowersForTimesModel", "isPrime", "(I)Z"⟩, 31) := ⟨⟨by decide +kernel, by decide +kernel⟩, List.mem_of_getElem? (i := 1090) (by decide +kernel), List.mem_of_getElem? (i := 1260) (by decide +kernel), List.mem_of_getElem? (i := 1261) (by decide +kernel)⟩
theorem lw_p51 : lw_okq (⟨"PowersForTimesModel", "leastFactor", "(I)I"⟩, 31) := ⟨⟨by decide +kernel, by decide +kernel⟩, List.mem_of_getElem? (i := 1090) (by decide +kernel), List.mem_of_getElem? (i := 1264) (by decide +kernel), List.mem_of_getElem? (i := 1265) (by decide +kernel)⟩
theorem lw_p52 : lw_okq (⟨"PowersForTimesModel", "isRest", "(I)Z"⟩, 31) := ⟨⟨by decide +kernel, by decide +kernel⟩, List.mem_of_getElem? (i := 1090) (by decide +kernel), List.mem_of_getElem? (i := 1272) (by decide +kernel), List.mem_of_getElem? (i := 1273) (by decide +kernel)⟩
theorem lw_p53 : lw_okq (⟨"PowersForTimesModel", "mul", "(II)I"⟩, 31) := ⟨⟨by decide +kernel, by decide +kernel⟩, List.mem_of_getElem? (i := 1090) (by decide +kernel), List.mem_of_getElem? (i := 1276) (by decide +kernel), List.mem_of_getElem? (i := 1277) (by decide +kernel)⟩
theorem lw_p54 : lw_okq (⟨"PowersForTimesModel", "clear", "(I)V"⟩, 31) := ⟨⟨by decide +kernel, by decide +kernel⟩, List.mem_of_getElem? (i := 1090) (by decide +kernel), List.mem_of_getElem? (i := 1284) (by decide +kernel), List.mem_of_getElem? (i := 1285) (by decide +kernel)⟩
theorem lw_p55 : lw_okq (⟨"PowersForTimesModel", "tellModule", "(I)I"⟩, 31) := ⟨⟨by decide +kernel, by decide +kernel⟩, List.mem_of_getElem? (i := 1090) (by decide +kernel), List.mem_of_getElem? (i := 1288) (by decide +kernel), List.mem_of_getElem? (i := 1289) (by decide +kernel)⟩
theorem lw_p56 : lw_okq (⟨"PowersForTimesModel", "degreeAt", "(I)I"⟩, 31) := ⟨⟨by decide +kernel, by decide +kernel⟩, List.mem_of_getElem? (i := 1090) (by decide +kernel), List.mem_of_getElem? (i := 1292) (by decide +kernel), List.mem_of_getElem? (i := 1293) (by decide +kernel)⟩
theorem lw_p57 : lw_okq (⟨"PowersForTimesModel", "step", "(I)V"⟩, 31) := ⟨⟨by decide +kernel, by decide +kernel⟩, List.mem_of_getElem? (i := 1090) (by decide +kernel), List.mem_of_getElem? (i := 1296) (by decide +kernel), List.mem_of_getElem? (i := 1297) (by decide +kernel)⟩
theorem lw_p58 : lw_okq (⟨"PowersForTimesModel", "tellMap", "(I)I"⟩, 31) := ⟨⟨by decide +kernel, by decide +kernel⟩, List.mem_of_getElem? (i := 1090) (by decide +kernel), List.mem_of_getElem? (i := 1304) (by decide +kernel), List.mem_of_getElem? (i := 1305) (by decide +kernel)⟩
theorem lw_p59 : lw_okq (⟨"PowersForTimesModel", "four", "(I)V"⟩, 31) := ⟨⟨by decide +kernel, by decide +kernel⟩, List.mem_of_getElem? (i := 1090) (by decide +kernel), List.mem_of_getElem? (i := 1312) (by decide +kernel), List.mem_of_getElem? (i := 1313) (by decide +kernel)⟩
theorem lw_p60 : lw_okq (⟨"PowersForTimesModel", "readText", "()I"⟩, 31) := ⟨⟨by decide +kernel, by decide +kernel⟩, List.mem_of_getElem? (i := 1090) (by decide +kernel), List.mem_of_getElem? (i := 1324) (by decide +kernel), List.mem_of_getElem? (i := 1325) (by decide +kernel)⟩
theorem lw_p61 : lw_okq (⟨"PowersForTimesModel", "nextToken", "()V"⟩, 31) := ⟨⟨by decide +kernel, by decide +kernel⟩, List.mem_of_getElem? (i := 1090) (by decide +kernel), List.mem_of_getElem? (i := 1328) (by decide +kernel), List.mem_of_getElem? (i := 1329) (by decide +kernel)⟩
theorem lw_p62 : lw_okq (⟨"PowersForTimesModel", "byteAt", "(I)I"⟩, 31) := ⟨⟨by decide +kernel, by decide +kernel⟩, List.mem_of_getElem? (i := 1090) (by decide +kernel), List.mem_of_getElem? (i := 1332) (by decide +kernel), List.mem_of_getElem? (i := 1333) (by decide +kernel)⟩
theorem lw_p63 : lw_okq (⟨"PowersForTimesModel", "clause", "()I"⟩, 31) := ⟨⟨by decide +kernel, by decide +kernel⟩, List.mem_of_getElem? (i := 1090) (by decide +kernel), List.mem_of_getElem? (i := 1343) (by decide +kernel), List.mem_of_getElem? (i := 1344) (by decide +kernel)⟩
def lw_privs_4 : List (MethodName × Nat) := [(⟨"PowersForTimesModel", "common", "(II)I"⟩, 31), (⟨"PowersForTimesModel", "monic", "(I)I"⟩, 31), (⟨"PowersForTimesModel", "isPrime", "(I)Z"⟩, 31), (⟨"PowersForTimesModel", "leastFactor", "(I)I"⟩, 31), (⟨"PowersForTimesModel", "isRest", "(I)Z"⟩, 31), (⟨"PowersForTimesModel", "mul", "(II)I"⟩, 31), (⟨"PowersForTimesModel", "clear", "(I)V"⟩, 31), (⟨"PowersForTimesModel", "tellModule", "(I)I"⟩, 31), (⟨"PowersForTimesModel", "degreeAt", "(I)I"⟩, 31), (⟨"PowersForTimesModel", "step", "(I)V"⟩, 31), (⟨"PowersForTimesModel", "tellMap", "(I)I"⟩, 31), (⟨"PowersForTimesModel", "four", "(I)V"⟩, 31), (⟨"PowersForTimesModel", "readText", "()I"⟩, 31), (⟨"PowersForTimesModel", "nextToken", "()V"⟩, 31), (⟨"PowersForTimesModel", "byteAt", "(I)I"⟩, 31), (⟨"PowersForTimesModel", "clause", "()I"⟩, 31)]
theorem lw_r4 : ∀ q ∈ lw_privs_4, lw_okq q := List.forall_mem_cons.mpr ⟨lw_p48, List.forall_mem_cons.mpr ⟨lw_p49, List.forall_mem_cons.mpr ⟨lw_p50, List.forall_mem_cons.mpr ⟨lw_p51, List.forall_mem_cons.mpr ⟨lw_p52, List.forall_mem_cons.mpr ⟨lw_p53, List.forall_mem_cons.mpr ⟨lw_p54, List.forall_mem_cons.mpr ⟨lw_p55, List.forall_mem_cons.mpr ⟨lw_p56, List.forall_mem_cons.mpr ⟨lw_p57, List.forall_mem_cons.mpr ⟨lw_p58, List.forall_mem_cons.mpr ⟨lw_p59, List.forall_mem_cons.mpr ⟨lw_p60, List.forall_mem_cons.mpr ⟨lw_p61, List.forall_mem_cons.mpr ⟨lw_p62, List.forall_mem_cons.mpr ⟨lw_p63, fun _ h => absurd h List.not_mem_nil⟩⟩⟩⟩⟩⟩⟩⟩⟩⟩⟩⟩⟩⟩⟩⟩
theorem lw_p64 : lw_okq (⟨"PowersForTimesModel", "summed", "()I"⟩, 31) := ⟨⟨by decide +kernel, by decide +kernel⟩, List.mem_of_getElem? (i := 1090) (by decide +kernel), List.mem_of_getElem? (i := 1350) (by decide +kernel), List.mem_of_getElem? (i := 1351) (by decide +kernel)⟩
theorem lw_p65 : lw_okq (⟨"PowersForTimesModel", "beginOne", "()I"⟩, 31) := ⟨⟨by decide +kernel, by decide +kernel⟩, List.mem_of_getElem? (i := 1090) (by decide +kernel), List.mem_of_getElem? (i := 1354) (by decide +kernel), List.mem_of_getElem? (i := 1355) (by decide +kernel)⟩
theorem lw_p66 : lw_okq (⟨"PowersForTimesModel", "emit", "(II)V"⟩, 31) := ⟨⟨by decide +kernel, by decide +kernel⟩, List.mem_of_getElem? (i := 1090) (by decide +kernel), List.mem_of_getElem? (i := 1359) (by decide +kernel), List.mem_of_getElem? (i := 1360) (by decide +kernel)⟩
theorem lw_p67 : lw_okq (⟨"PowersForTimesModel", "whole", "()V"⟩, 31) := ⟨⟨by decide +kernel, by decide +kernel⟩, List.mem_of_getElem? (i := 1090) (by decide +kernel), List.mem_of_getElem? (i := 1363) (by decide +kernel), List.mem_of_getElem? (i := 1364) (by decide +kernel)⟩
theorem lw_p68 : lw_okq (⟨"PowersForTimesModel", "settle", "(I)V"⟩, 31) := ⟨⟨by decide +kernel, by decide +kernel⟩, List.mem_of_getElem? (i := 1090) (by decide +kernel), List.mem_of_getElem? (i := 1367) (by decide +kernel), List.mem_of_getElem? (i := 1368) (by decide +kernel)⟩
theorem lw_p69 : lw_okq (⟨"PowersForTimesModel", "opensBy", "(I)I"⟩, 31) := ⟨⟨by decide +kernel, by decide +kernel⟩, List.mem_of_getElem? (i := 1090) (by decide +kernel), List.mem_of_getElem? (i := 1374) (by decide +kernel), List.mem_of_getElem? (i := 1375) (by decide +kernel)⟩
theorem lw_p70 : lw_okq (⟨"PowersForTimesModel", "push", "(I)V"⟩, 31) := ⟨⟨by decide +kernel, by decide +kernel⟩, List.mem_of_getElem? (i := 1090) (by decide +kernel), List.mem_of_getElem? (i := 1378) (by decide +kernel), List.mem_of_getElem? (i := 1379) (by decide +kernel)⟩
theorem lw_p71 : lw_okq (⟨"PowersForTimesModel", "raises", "()I"⟩, 31) := ⟨⟨by decide +kernel, by decide +kernel⟩, List.mem_of_getElem? (i := 1090) (by decide +kernel), List.mem_of_getElem? (i := 1382) (by decide +kernel), List.mem_of_getElem? (i := 1383) (by decide +kernel)⟩
theorem lw_p72 : lw_okq (⟨"PowersForTimesModel", "behindOne", "()Z"⟩, 31) := ⟨⟨by decide +kernel, by decide +kernel⟩, List.mem_of_getElem? (i := 1090) (by decide +kernel), List.mem_of_getElem? (i := 1386) (by decide +kernel), List.mem_of_getElem? (i := 1387) (by decide +kernel)⟩
theorem lw_p73 : lw_okq (⟨"PowersForTimesModel", "works", "(II)Z"⟩, 31) := ⟨⟨by decide +kernel, by decide +kernel⟩, List.mem_of_getElem? (i := 1090) (by decide +kernel), List.mem_of_getElem? (i := 1398) (by decide +kernel), List.mem_of_getElem? (i := 1399) (by decide +kernel)⟩
theorem lw_p74 : lw_okq (⟨"PowersForTimesModel", "minus", "(I)I"⟩, 31) := ⟨⟨by decide +kernel, by decide +kernel⟩, List.mem_of_getElem? (i := 1090) (by decide +kernel), List.mem_of_getElem? (i := 1402) (by decide +kernel), List.mem_of_getElem? (i := 1403) (by decide +kernel)⟩
theorem lw_p75 : lw_okq (⟨"PowersForTimesModel", "raiseBy", "(II)Z"⟩, 31) := ⟨⟨by decide +kernel, by decide +kernel⟩, List.mem_of_getElem? (i := 1090) (by decide +kernel), List.mem_of_getElem? (i := 1406) (by decide +kernel), List.mem_of_getElem? (i := 1407) (by decide +kernel)⟩
theorem lw_p76 : lw_okq (⟨"PowersForTimesModel", "multiply", "(III)Z"⟩, 31) := ⟨⟨by decide +kernel, by decide +kernel⟩, List.mem_of_getElem? (i := 1090) (by decide +kernel), List.mem_of_getElem? (i := 1410) (by decide +kernel), List.mem_of_getElem? (i := 1411) (by decide +kernel)⟩
theorem lw_p77 : lw_okq (⟨"PowersForTimesModel", "raise", "(II)I"⟩, 31) := ⟨⟨by decide +kernel, by decide +kernel⟩, List.mem_of_getElem? (i := 1090) (by decide +kernel), List.mem_of_getElem? (i := 1414) (by decide +kernel), List.mem_of_getElem? (i := 1415) (by decide +kernel)⟩
theorem lw_p78 : lw_okq (⟨"PowersForTimesModel", "lay", "(II)V"⟩, 31) := ⟨⟨by decide +kernel, by decide +kernel⟩, List.mem_of_getElem? (i := 1090) (by decide +kernel), List.mem_of_getElem? (i := 1418) (by decide +kernel), List.mem_of_getElem? (i := 1419) (by decide +kernel)⟩
theorem lw_p79 : lw_okq (⟨"PowersForTimesModel", "add", "(III)V"⟩, 31) := ⟨⟨by decide +kernel, by decide +kernel⟩, List.mem_of_getElem? (i := 1090) (by decide +kernel), List.mem_of_getElem? (i := 1422) (by decide +kernel), List.mem_of_getElem? (i := 1423) (by decide +kernel)⟩
def lw_privs_5 : List (MethodName × Nat) := [(⟨"PowersForTimesModel", "summed", "()I"⟩, 31), (⟨"PowersForTimesModel", "beginOne", "()I"⟩, 31), (⟨"PowersForTimesModel", "emit", "(II)V"⟩, 31), (⟨"PowersForTimesModel", "whole", "()V"⟩, 31), (⟨"PowersForTimesModel", "settle", "(I)V"⟩, 31), (⟨"PowersForTimesModel", "opensBy", "(I)I"⟩, 31), (⟨"PowersForTimesModel", "push", "(I)V"⟩, 31), (⟨"PowersForTimesModel", "raises", "()I"⟩, 31), (⟨"PowersForTimesModel", "behindOne", "()Z"⟩, 31), (⟨"PowersForTimesModel", "works", "(II)Z"⟩, 31), (⟨"PowersForTimesModel", "minus", "(I)I"⟩, 31), (⟨"PowersForTimesModel", "raiseBy", "(II)Z"⟩, 31), (⟨"PowersForTimesModel", "multiply", "(III)Z"⟩, 31), (⟨"PowersForTimesModel", "raise", "(II)I"⟩, 31), (⟨"PowersForTimesModel", "lay", "(II)V"⟩, 31), (⟨"PowersForTimesModel", "add", "(III)V"⟩, 31)]
theorem lw_r5 : ∀ q ∈ lw_privs_5, lw_okq q := List.forall_mem_cons.mpr ⟨lw_p64, List.forall_mem_cons.mpr ⟨lw_p65, List.forall_mem_cons.mpr ⟨lw_p66, List.forall_mem_cons.mpr ⟨lw_p67, List.forall_mem_cons.mpr ⟨lw_p68, List.forall_mem_cons.mpr ⟨lw_p69, List.forall_mem_cons.mpr ⟨lw_p70, List.forall_mem_cons.mpr ⟨lw_p71, List.forall_mem_cons.mpr ⟨lw_p72, List.forall_mem_cons.mpr ⟨lw_p73, List.forall_mem_cons.mpr ⟨lw_p74, List.forall_mem_cons.mpr ⟨lw_p75, List.forall_mem_cons.mpr ⟨lw_p76, List.forall_mem_cons.mpr ⟨lw_p77, List.forall_mem_cons.mpr ⟨lw_p78, List.forall_mem_cons.mpr ⟨lw_p79, fun _ h => absurd h List.not_mem_nil⟩⟩⟩⟩⟩⟩⟩⟩⟩⟩⟩⟩⟩⟩⟩⟩
theorem lw_p80 : lw_okq (⟨"PowersForTimesModel", "isMap", "(I)Z"⟩, 31) := ⟨⟨by decide +kernel, by decide +kernel⟩, List.mem_of_getElem? (i := 1090) (by decide +kernel), List.mem_of_getElem? (i := 1430) (by decide +kernel), List.mem_of_getElem? (i := 1431) (by decide +kernel)⟩
theorem lw_p81 : lw_okq (⟨"PowersForTimesModel", "isModule", "(I)Z"⟩, 31) := ⟨⟨by decide +kernel, by decide +kernel⟩, List.mem_of_getElem? (i := 1090) (by decide +kernel), List.mem_of_getElem? (i := 1434) (by decide +kernel), List.mem_of_getElem? (i := 1435) (by decide +kernel)⟩
theorem lw_p82 : lw_okq (⟨"PowersForTimesModel", "layMap", "(II)V"⟩, 31) := ⟨⟨by decide +kernel, by decide +kernel⟩, List.mem_of_getElem? (i := 1090) (by decide +kernel), List.mem_of_getElem? (i := 1438) (by decide +kernel), List.mem_of_getElem? (i := 1439) (by decide +kernel)⟩
theorem lw_p83 : lw_okq (⟨"PowersForTimesModel", "layModule", "(II)V"⟩, 31) := ⟨⟨by decide +kernel, by decide +kernel⟩, List.mem_of_getElem? (i := 1090) (by decide +kernel), List.mem_of_getElem? (i := 1442) (by decide +kernel), List.mem_of_getElem? (i := 1443) (by decide +kernel)⟩
theorem lw_p84 : lw_okq (⟨"PowersForTimesModel", "acted", "(III)I"⟩, 31) := ⟨⟨by decide +kernel, by decide +kernel⟩, List.mem_of_getElem? (i := 1090) (by decide +kernel), List.mem_of_getElem? (i := 1450) (by decide +kernel), List.mem_of_getElem? (i := 1451) (by decide +kernel)⟩
theorem lw_p85 : lw_okq (⟨"PowersForTimesModel", "stepped", "(II)I"⟩, 31) := ⟨⟨by decide +kernel, by decide +kernel⟩, List.mem_of_getElem? (i := 1090) (by decide +kernel), List.mem_of_getElem? (i := 1454) (by decide +kernel), List.mem_of_getElem? (i := 1455) (by decide +kernel)⟩
theorem lw_p86 : lw_okq (⟨"PowersForTimesModel", "layActs", "(III)Z"⟩, 31) := ⟨⟨by decide +kernel, by decide +kernel⟩, List.mem_of_getElem? (i := 1090) (by decide +kernel), List.mem_of_getElem? (i := 1462) (by decide +kernel), List.mem_of_getElem? (i := 1463) (by decide +kernel)⟩
theorem lw_p87 : lw_okq (⟨"PowersForTimesModel", "sent", "(II)I"⟩, 31) := ⟨⟨by decide +kernel, by decide +kernel⟩, List.mem_of_getElem? (i := 1090) (by decide +kernel), List.mem_of_getElem? (i := 1470) (by decide +kernel), List.mem_of_getElem? (i := 1471) (by decide +kernel)⟩
theorem lw_p88 : lw_okq (⟨"PowersForTimesModel", "characteristic", "(I)I"⟩, 31) := ⟨⟨by decide +kernel, by decide +kernel⟩, List.mem_of_getElem? (i := 1090) (by decide +kernel), List.mem_of_getElem? (i := 1482) (by decide +kernel), List.mem_of_getElem? (i := 1483) (by decide +kernel)⟩
theorem lw_p89 : lw_okq (⟨"PowersForTimesModel", "height", "(I)I"⟩, 31) := ⟨⟨by decide +kernel, by decide +kernel⟩, List.mem_of_getElem? (i := 1090) (by decide +kernel), List.mem_of_getElem? (i := 1486) (by decide +kernel), List.mem_of_getElem? (i := 1487) (by decide +kernel)⟩
theorem lw_p90 : lw_okq (⟨"PowersForTimesModel", "points", "(I)I"⟩, 31) := ⟨⟨by decide +kernel, by decide +kernel⟩, List.mem_of_getElem? (i := 1090) (by decide +kernel), List.mem_of_getElem? (i := 1490) (by decide +kernel), List.mem_of_getElem? (i := 1491) (by decide +kernel)⟩
theorem lw_p91 : lw_okq (⟨"PowersForTimesModel", "toSteps", "(I)V"⟩, 31) := ⟨⟨by decide +kernel, by decide +kernel⟩, List.mem_of_getElem? (i := 1090) (by decide +kernel), List.mem_of_getElem? (i := 1494) (by decide +kernel), List.mem_of_getElem? (i := 1495) (by decide +kernel)⟩
theorem lw_p92 : lw_okq (⟨"PowersForTimesModel", "findParts", "(I)V"⟩, 31) := ⟨⟨by decide +kernel, by decide +kernel⟩, List.mem_of_getElem? (i := 1090) (by decide +kernel), List.mem_of_getElem? (i := 1502) (by decide +kernel), List.mem_of_getElem? (i := 1503) (by decide +kernel)⟩
theorem lw_p93 : lw_okq (⟨"PowersForTimesModel", "nought", "(II)I"⟩, 31) := ⟨⟨by decide +kernel, by decide +kernel⟩, List.mem_of_getElem? (i := 1090) (by decide +kernel), List.mem_of_getElem? (i := 1506) (by decide +kernel), List.mem_of_getElem? (i := 1507) (by decide +kernel)⟩
theorem lw_p94 : lw_okq (⟨"PowersForTimesModel", "rankOf", "(II)I"⟩, 31) := ⟨⟨by decide +kernel, by decide +kernel⟩, List.mem_of_getElem? (i := 1090) (by decide +kernel), List.mem_of_getElem? (i := 1510) (by decide +kernel), List.mem_of_getElem? (i := 1511) (by decide +kernel)⟩
theorem lw_p95 : lw_okq (⟨"PowersForTimesModel", "norm", "(I)I"⟩, 31) := ⟨⟨by decide +kernel, by decide +kernel⟩, List.mem_of_getElem? (i := 1090) (by decide +kernel), List.mem_of_getElem? (i := 1518) (by decide +kernel), List.mem_of_getElem? (i := 1519) (by decide +kernel)⟩
def lw_privs_6 : List (MethodName × Nat) := [(⟨"PowersForTimesModel", "isMap", "(I)Z"⟩, 31), (⟨"PowersForTimesModel", "isModule", "(I)Z"⟩, 31), (⟨"PowersForTimesModel", "layMap", "(II)V"⟩, 31), (⟨"PowersForTimesModel", "layModule", "(II)V"⟩, 31), (⟨"PowersForTimesModel", "acted", "(III)I"⟩, 31), (⟨"PowersForTimesModel", "stepped", "(II)I"⟩, 31), (⟨"PowersForTimesModel", "layActs", "(III)Z"⟩, 31), (⟨"PowersForTimesModel", "sent", "(II)I"⟩, 31), (⟨"PowersForTimesModel", "characteristic", "(I)I"⟩, 31), (⟨"PowersForTimesModel", "height", "(I)I"⟩, 31), (⟨"PowersForTimesModel", "points", "(I)I"⟩, 31), (⟨"PowersForTimesModel", "toSteps", "(I)V"⟩, 31), (⟨"PowersForTimesModel", "findParts", "(I)V"⟩, 31), (⟨"PowersForTimesModel", "nought", "(II)I"⟩, 31), (⟨"PowersForTimesModel", "rankOf", "(II)I"⟩, 31), (⟨"PowersForTimesModel", "norm", "(I)I"⟩, 31)]
theorem lw_r6 : ∀ q ∈ lw_privs_6, lw_okq q := List.forall_mem_cons.mpr ⟨lw_p80, List.forall_mem_cons.mpr ⟨lw_p81, List.forall_mem_cons.mpr ⟨lw_p82, List.forall_mem_cons.mpr ⟨lw_p83, List.forall_mem_cons.mpr ⟨lw_p84, List.forall_mem_cons.mpr ⟨lw_p85, List.forall_mem_cons.mpr ⟨lw_p86, List.forall_mem_cons.mpr ⟨lw_p87, List.forall_mem_cons.mpr ⟨lw_p88, List.forall_mem_cons.mpr ⟨lw_p89, List.forall_mem_cons.mpr ⟨lw_p90, List.forall_mem_cons.mpr ⟨lw_p91, List.forall_mem_cons.mpr ⟨lw_p92, List.forall_mem_cons.mpr ⟨lw_p93, List.forall_mem_cons.mpr ⟨lw_p94, List.forall_mem_cons.mpr ⟨lw_p95, fun _ h => absurd h List.not_mem_nil⟩⟩⟩⟩⟩⟩⟩⟩⟩⟩⟩⟩⟩⟩⟩⟩
theorem lw_p96 : lw_okq (⟨"PowersForTimesModel", "trace", "(I)I"⟩, 31) := ⟨⟨by decide +kernel, by decide +kernel⟩, List.mem_of_getElem? (i := 1090) (by decide +kernel), List.mem_of_getElem? (i := 1522) (by decide +kernel), List.mem_of_getElem? (i := 1523) (by decide +kernel)⟩
theorem lw_p97 : lw_okq (⟨"PowersForTimesModel", "leadsTo", "(II)Z"⟩, 31) := ⟨⟨by decide +kernel, by decide +kernel⟩, List.mem_of_getElem? (i := 1090) (by decide +kernel), List.mem_of_getElem? (i := 1530) (by decide +kernel), List.mem_of_getElem? (i := 1531) (by decide +kernel)⟩
theorem lw_p98 : lw_okq (⟨"PowersForTimesModel", "divideBy", "(III)V"⟩, 31) := ⟨⟨by decide +kernel, by decide +kernel⟩, List.mem_of_getElem? (i := 1090) (by decide +kernel), List.mem_of_getElem? (i := 1534) (by decide +kernel), List.mem_of_getElem? (i := 1535) (by decide +kernel)⟩
theorem lw_p99 : lw_okq (⟨"PowersForTimesModel", "stays", "(II)I"⟩, 31) := ⟨⟨by decide +kernel, by decide +kernel⟩, List.mem_of_getElem? (i := 1090) (by decide +kernel), List.mem_of_getElem? (i := 1562) (by decide +kernel), List.mem_of_getElem? (i := 1563) (by decide +kernel)⟩
theorem lw_p100 : lw_okq (⟨"PowersForTimesModel", "symbolOf", "(II)I"⟩, 31) := ⟨⟨by decide +kernel, by decide +kernel⟩, List.mem_of_getElem? (i := 1090) (by decide +kernel), List.mem_of_getElem? (i := 1574) (by decide +kernel), List.mem_of_getElem? (i := 1575) (by decide +kernel)⟩
def lw_privs_7 : List (MethodName × Nat) := [(⟨"PowersForTimesModel", "trace", "(I)I"⟩, 31), (⟨"PowersForTimesModel", "leadsTo", "(II)Z"⟩, 31), (⟨"PowersForTimesModel", "divideBy", "(III)V"⟩, 31), (⟨"PowersForTimesModel", "stays", "(II)I"⟩, 31), (⟨"PowersForTimesModel", "symbolOf", "(II)I"⟩, 31)]
theorem lw_r7 : ∀ q ∈ lw_privs_7, lw_okq q := List.forall_mem_cons.mpr ⟨lw_p96, List.forall_mem_cons.mpr ⟨lw_p97, List.forall_mem_cons.mpr ⟨lw_p98, List.forall_mem_cons.mpr ⟨lw_p99, List.forall_mem_cons.mpr ⟨lw_p100, fun _ h => absurd h List.not_mem_nil⟩⟩⟩⟩⟩
def lw_privs : List (MethodName × Nat) := lw_privs_1 ++ (lw_privs_2 ++ (lw_privs_3 ++ (lw_privs_4 ++ (lw_privs_5 ++ (lw_privs_6 ++ (lw_privs_7))))))
def lw_tbl : List Cond := k2_sels lw_privs ++ tables_1
theorem lw_privs_ok : ∀ q ∈ lw_privs, lw_okq q := by
  show ∀ q ∈ lw_privs_1 ++ (lw_privs_2 ++ (lw_privs_3 ++ (lw_privs_4 ++ (lw_privs_5 ++ (lw_privs_6 ++ (lw_privs_7)))))), lw_okq q
  exact List.forall_mem_append.mpr ⟨lw_r1, List.forall_mem_append.mpr ⟨lw_r2, List.forall_mem_append.mpr ⟨lw_r3, List.forall_mem_append.mpr ⟨lw_r4, List.forall_mem_append.mpr ⟨lw_r5, List.forall_mem_append.mpr ⟨lw_r6, lw_r7⟩⟩⟩⟩⟩⟩

def RX0 : String := "PowersForTimes$Acting"
def TX0 : u_T := fun k => match k with
  | 0 => ("PowersForTimes$Acting", "turned", "LPowersForTimes$Turned;", true)
  | 1 => ("PowersForTimes$Acting", "rests", "LPowersForTimes$Rests;", true)
  | 2 => ("PowersForTimes$Acting", "figures", "LPowersForTimes$Figures;", true)
  | 3 => ("PowersForTimes$Acting", "ties", "LPowersForTimes$Ties;", true)
  | 4 => ("PowersForTimes$Acting", "primes", "LPowersForTimes$Primes;", true)
  | 5 => ("PowersForTimes$Acting", "row", "[I", true)
  | _ => ("PowersForTimes$Acting", "parts", "[I", true)
def tyX0 : Nat → FieldType := fun k => match k with
  | 0 => .object "PowersForTimes$Turned"
  | 1 => .object "PowersForTimes$Rests"
  | 2 => .object "PowersForTimes$Figures"
  | 3 => .object "PowersForTimes$Ties"
  | 4 => .object "PowersForTimes$Primes"
  | 5 => .array .int
  | _ => .array .int
abbrev wsX00 : List Cond := u_ws RX0 TX0 7
theorem nmX0 : ∀ a, a < 7 → ∀ b, b < 7 → a ≠ b → (TX0 a).2.1 ≠ (TX0 b).2.1 := by decide +kernel
theorem tyX0_ok : ∀ k, k < 7 → parseFieldDescriptor (TX0 k).2.2.1 = some (tyX0 k) := by decide +kernel
set_option maxRecDepth 20000 in
theorem inX0 : ∀ w ∈ wsX00, w ∈ lw_tbl := by decide +kernel
abbrev cX0_init : ByteArray := prog_2_method_1_code
def yX0_init : MethodName := ⟨RX0, "<init>", "(LPowersForTimes$Turned;LPowersForTimes$Primes;)V"⟩
abbrev cX0_sendBy : ByteArray := prog_2_method_2_code
def yX0_sendBy : MethodName := ⟨RX0, "sendBy", "([III)I"⟩
abbrev cX0_turn : ByteArray := prog_2_method_3_code
def yX0_turn : MethodName := ⟨RX0, "turn", "([II[I)Z"⟩
abbrev cX0_characteristic : ByteArray := prog_2_method_4_code
def yX0_characteristic : MethodName := ⟨RX0, "characteristic", "(I)I"⟩
abbrev cX0_height : ByteArray := prog_2_method_5_code
def yX0_height : MethodName := ⟨RX0, "height", "([II)I"⟩
abbrev cX0_points : ByteArray := prog_2_method_6_code
def yX0_points : MethodName := ⟨RX0, "points", "([I)I"⟩
abbrev cX0_part : ByteArray := prog_2_method_7_code
def yX0_part : MethodName := ⟨RX0, "part", "(I)I"⟩
abbrev cX0_findParts : ByteArray := prog_2_method_8_code
def yX0_findParts : MethodName := ⟨RX0, "findParts", "([I)I"⟩
abbrev cX0_spread : ByteArray := prog_2_method_9_code
def yX0_spread : MethodName := ⟨RX0, "spread", "([II)V"⟩
abbrev cX0_noughtSpace : ByteArray := prog_2_method_10_code
def yX0_noughtSpace : MethodName := ⟨RX0, "noughtSpace", "([II)I"⟩
abbrev cX0_greatNorm : ByteArray := prog_2_method_11_code
def yX0_greatNorm : MethodName := ⟨RX0, "greatNorm", "([I)I"⟩
abbrev cX0_greatTrace : ByteArray := prog_2_method_12_code
def yX0_greatTrace : MethodName := ⟨RX0, "greatTrace", "([I)I"⟩
abbrev cX0_greatUnit : ByteArray := prog_2_method_13_code
def yX0_greatUnit : MethodName := ⟨RX0, "greatUnit", "([I)I"⟩
def RX1 : String := "PowersForTimes$Figures"
def TX1 : u_T := fun k => match k with
  | 0 => ("PowersForTimes$Figures", "base", "I", false)
  | _ => ("PowersForTimes$Figures", "powers", "[I", true)
def tyX1 : Nat → FieldType := fun k => match k with
  | 0 => .int
  | _ => .array .int
abbrev wsX10 : List Cond := u_ws RX1 TX1 2
theorem nmX1 : ∀ a, a < 2 → ∀ b, b < 2 → a ≠ b → (TX1 a).2.1 ≠ (TX1 b).2.1 := by decide +kernel
theorem tyX1_ok : ∀ k, k < 2 → parseFieldDescriptor (TX1 k).2.2.1 = some (tyX1 k) := by decide +kernel
set_option maxRecDepth 20000 in
theorem inX1 : ∀ w ∈ wsX10, w ∈ lw_tbl := by decide +kernel
abbrev cX1_init : ByteArray := prog_3_method_1_code
def yX1_init : MethodName := ⟨RX1, "<init>", "()V"⟩
abbrev cX1_setBase : ByteArray := prog_3_method_2_code
def yX1_setBase : MethodName := ⟨RX1, "setBase", "(I)V"⟩
abbrev cX1_base : ByteArray := prog_3_method_3_code
def yX1_base : MethodName := ⟨RX1, "base", "()I"⟩
abbrev cX1_power : ByteArray := prog_3_method_4_code
def yX1_power : MethodName := ⟨RX1, "power", "(I)I"⟩
abbrev cX1_holds : ByteArray := prog_3_method_5_code
def yX1_holds : MethodName := ⟨RX1, "holds", "(I)Z"⟩
abbrev cX1_degree : ByteArray := prog_3_method_6_code
def yX1_degree : MethodName := ⟨RX1, "degree", "(I)I"⟩
abbrev cX1_figure : ByteArray := prog_3_method_7_code
def yX1_figure : MethodName := ⟨RX1, "figure", "(II)I"⟩
abbrev cX1_first : ByteArray := prog_3_method_8_code
def yX1_first : MethodName := ⟨RX1, "first", "(I)I"⟩
abbrev cX1_isMonic : ByteArray := prog_3_method_9_code
def yX1_isMonic : MethodName := ⟨RX1, "isMonic", "(I)Z"⟩
abbrev cX1_inverse : ByteArray := prog_3_method_10_code
def yX1_inverse : MethodName := ⟨RX1, "inverse", "(I)I"⟩
abbrev cX1_negative : ByteArray := prog_3_method_11_code
def yX1_negative : MethodName := ⟨RX1, "negative", "(I)I"⟩
abbrev cX1_mix : ByteArray := prog_3_method_12_code
def yX1_mix : MethodName := ⟨RX1, "mix", "(III)I"⟩
abbrev cX1_sum : ByteArray := prog_3_method_13_code
def yX1_sum : MethodName := ⟨RX1, "sum", "(II)I"⟩
abbrev cX1_difference : ByteArray := prog_3_method_14_code
def yX1_difference : MethodName := ⟨RX1, "difference", "(II)I"⟩
abbrev cX1_monic : ByteArray := prog_3_method_15_code
def yX1_monic : MethodName := ⟨RX1, "monic", "(I)I"⟩
abbrev cX1_fits : ByteArray := prog_3_method_16_code
def yX1_fits : MethodName := ⟨RX1, "fits", "(II)Z"⟩
abbrev cX1_product : ByteArray := prog_3_method_17_code
def yX1_product : MethodName := ⟨RX1, "product", "(II)I"⟩
abbrev cX1_rest : ByteArray := prog_3_method_18_code
def yX1_rest : MethodName := ⟨RX1, "rest", "(II)I"⟩
abbrev cX1_quotient : ByteArray := prog_3_method_19_code
def yX1_quotient : MethodName := ⟨RX1, "quotient", "(II)I"⟩
abbrev cX1_common : ByteArray := prog_3_method_20_code
def yX1_common : MethodName := ⟨RX1, "common", "(II)I"⟩
abbrev cX1_productBy : ByteArray := prog_3_method_21_code
def yX1_productBy : MethodName := ⟨RX1, "productBy", "(III)I"⟩
abbrev cX1_turnedBy : ByteArray := prog_3_method_22_code
def yX1_turnedBy : MethodName := ⟨RX1, "turnedBy", "(II)I"⟩
abbrev cX1_sumOfPowers : ByteArray := prog_3_method_23_code
def yX1_sumOfPowers : MethodName := ⟨RX1, "sumOfPowers", "(II)I"⟩
abbrev cX1_symbolOver : ByteArray := prog_3_method_24_code
def yX1_symbolOver : MethodName := ⟨RX1, "symbolOver", "(II)I"⟩
def RX2 : String := "PowersForTimes$Maps"
def TX2 : u_T := fun k => match k with
  | 0 => ("PowersForTimes$Maps", "acting", "LPowersForTimes$Acting;", true)
  | 1 => ("PowersForTimes$Maps", "turned", "LPowersForTimes$Turned;", true)
  | 2 => ("PowersForTimes$Maps", "rests", "LPowersForTimes$Rests;", true)
  | 3 => ("PowersForTimes$Maps", "figures", "LPowersForTimes$Figures;", true)
  | 4 => ("PowersForTimes$Maps", "ties", "LPowersForTimes$Ties;", true)
  | 5 => ("PowersForTimes$Maps", "power", "[I", true)
  | 6 => ("PowersForTimes$Maps", "left", "[I", true)
  | 7 => ("PowersForTimes$Maps", "whole", "[I", true)
  | _ => ("PowersForTimes$Maps", "tried", "[I", true)
def tyX2 : Nat → FieldType := fun k => match k with
  | 0 => .object "PowersForTimes$Acting"
  | 1 => .object "PowersForTimes$Turned"
  | 2 => .object "PowersForTimes$Rests"
  | 3 => .object "PowersForTimes$Figures"
  | 4 => .object "PowersForTimes$Ties"
  | 5 => .array .int
  | 6 => .array .int
  | 7 => .array .int
  | _ => .array .int
abbrev wsX20 : List Cond := u_ws RX2 TX2 9
theorem nmX2 : ∀ a, a < 9 → ∀ b, b < 9 → a ≠ b → (TX2 a).2.1 ≠ (TX2 b).2.1 := by decide +kernel
theorem tyX2_ok : ∀ k, k < 9 → parseFieldDescriptor (TX2 k).2.2.1 = some (tyX2 k) := by decide +kernel
set_option maxRecDepth 20000 in
theorem inX2 : ∀ w ∈ wsX20, w ∈ lw_tbl := by decide +kernel
abbrev cX2_init : ByteArray := prog_4_method_1_code
def yX2_init : MethodName := ⟨RX2, "<init>", "(LPowersForTimes$Acting;)V"⟩
abbrev cX2_lead : ByteArray := prog_4_method_2_code
def yX2_lead : MethodName := ⟨RX2, "lead", "([I[I[I)Z"⟩
abbrev cX2_dualNumber : ByteArray := prog_4_method_3_code
def yX2_dualNumber : MethodName := ⟨RX2, "dualNumber", "([I[I)I"⟩
abbrev cX2_dualRow : ByteArray := prog_4_method_4_code
def yX2_dualRow : MethodName := ⟨RX2, "dualRow", "([I[II[I)Z"⟩
abbrev cX2_make : ByteArray := prog_4_method_5_code
def yX2_make : MethodName := ⟨RX2, "make", "([II[I)V"⟩
abbrev cX2_countEnds : ByteArray := prog_4_method_6_code
def yX2_countEnds : MethodName := ⟨RX2, "countEnds", "([II)I"⟩
abbrev cX2_putDifference : ByteArray := prog_4_method_7_code
def yX2_putDifference : MethodName := ⟨RX2, "putDifference", "([III)V"⟩
abbrev cX2_leastAlike : ByteArray := prog_4_method_8_code
def yX2_leastAlike : MethodName := ⟨RX2, "leastAlike", "([I[I)I"⟩
abbrev cX2_countClasses : ByteArray := prog_4_method_9_code
def yX2_countClasses : MethodName := ⟨RX2, "countClasses", "(I)I"⟩
abbrev cX2_countGreatest : ByteArray := prog_4_method_10_code
def yX2_countGreatest : MethodName := ⟨RX2, "countGreatest", "(I)I"⟩
abbrev cX2_isGreatest : ByteArray := prog_4_method_11_code
def yX2_isGreatest : MethodName := ⟨RX2, "isGreatest", "(IIII)Z"⟩
abbrev cX2_commonDivisor : ByteArray := prog_4_method_12_code
def yX2_commonDivisor : MethodName := ⟨RX2, "commonDivisor", "(II)I"⟩
def RX3 : String := "PowersForTimes$Primes"
def TX3 : u_T := fun k => match k with
  | 0 => ("PowersForTimes$Primes", "figures", "LPowersForTimes$Figures;", true)
  | 1 => ("PowersForTimes$Primes", "found", "[I", true)
  | 2 => ("PowersForTimes$Primes", "split", "[I", true)
  | 3 => ("PowersForTimes$Primes", "many", "I", false)
  | _ => ("PowersForTimes$Primes", "splits", "I", false)
def tyX3 : Nat → FieldType := fun k => match k with
  | 0 => .object "PowersForTimes$Figures"
  | 1 => .array .int
  | 2 => .array .int
  | 3 => .int
  | _ => .int
abbrev wsX30 : List Cond := u_ws RX3 TX3 5
theorem nmX3 : ∀ a, a < 5 → ∀ b, b < 5 → a ≠ b → (TX3 a).2.1 ≠ (TX3 b).2.1 := by decide +kernel
theorem tyX3_ok : ∀ k, k < 5 → parseFieldDescriptor (TX3 k).2.2.1 = some (tyX3 k) := by decide +kernel
set_option maxRecDepth 20000 in
theorem inX3 : ∀ w ∈ wsX30, w ∈ lw_tbl := by decide +kernel
abbrev cX3_init : ByteArray := prog_5_method_1_code
def yX3_init : MethodName := ⟨RX3, "<init>", "(LPowersForTimes$Figures;)V"⟩
abbrev cX3_many : ByteArray := prog_5_method_2_code
def yX3_many : MethodName := ⟨RX3, "many", "()I"⟩
abbrev cX3_get : ByteArray := prog_5_method_3_code
def yX3_get : MethodName := ⟨RX3, "get", "(I)I"⟩
abbrev cX3_find : ByteArray := prog_5_method_4_code
def yX3_find : MethodName := ⟨RX3, "find", "(I)V"⟩
abbrev cX3_takeOut : ByteArray := prog_5_method_5_code
def yX3_takeOut : MethodName := ⟨RX3, "takeOut", "(II)I"⟩
abbrev cX3_add : ByteArray := prog_5_method_6_code
def yX3_add : MethodName := ⟨RX3, "add", "(I)V"⟩
abbrev cX3_splitUp : ByteArray := prog_5_method_7_code
def yX3_splitUp : MethodName := ⟨RX3, "splitUp", "(II)V"⟩
abbrev cX3_trace : ByteArray := prog_5_method_8_code
def yX3_trace : MethodName := ⟨RX3, "trace", "(III)I"⟩
abbrev cX3_splitBy : ByteArray := prog_5_method_9_code
def yX3_splitBy : MethodName := ⟨RX3, "splitBy", "(I)V"⟩
abbrev cX3_sort : ByteArray := prog_5_method_10_code
def yX3_sort : MethodName := ⟨RX3, "sort", "()V"⟩
def RX4 : String := "PowersForTimes$Reader"
def TX4 : u_T := fun k => match k with
  | 0 => ("PowersForTimes$Reader", "turned", "LPowersForTimes$Turned;", true)
  | 1 => ("PowersForTimes$Reader", "rests", "LPowersForTimes$Rests;", true)
  | 2 => ("PowersForTimes$Reader", "slots", "[[I", true)
  | 3 => ("PowersForTimes$Reader", "bytes", "[I", false)
  | 4 => ("PowersForTimes$Reader", "length", "I", false)
  | 5 => ("PowersForTimes$Reader", "works", "Z", false)
  | 6 => ("PowersForTimes$Reader", "stuck", "Z", false)
  | 7 => ("PowersForTimes$Reader", "next", "I", false)
  | 8 => ("PowersForTimes$Reader", "token", "I", false)
  | 9 => ("PowersForTimes$Reader", "place", "I", false)
  | 10 => ("PowersForTimes$Reader", "number", "I", false)
  | 11 => ("PowersForTimes$Reader", "clauses", "I", false)
  | 12 => ("PowersForTimes$Reader", "fault", "I", false)
  | _ => ("PowersForTimes$Reader", "faultAt", "I", false)
def tyX4 : Nat → FieldType := fun k => match k with
  | 0 => .object "PowersForTimes$Turned"
  | 1 => .object "PowersForTimes$Rests"
  | 2 => .array (.array .int)
  | 3 => .array .int
  | 4 => .int
  | 5 => .boolean
  | 6 => .boolean
  | 7 => .int
  | 8 => .int
  | 9 => .int
  | 10 => .int
  | 11 => .int
  | 12 => .int
  | _ => .int
abbrev wsX40 : List Cond := u_ws RX4 TX4 14
theorem nmX4 : ∀ a, a < 14 → ∀ b, b < 14 → a ≠ b → (TX4 a).2.1 ≠ (TX4 b).2.1 := by decide +kernel
theorem tyX4_ok : ∀ k, k < 14 → parseFieldDescriptor (TX4 k).2.2.1 = some (tyX4 k) := by decide +kernel
set_option maxRecDepth 20000 in
theorem inX4 : ∀ w ∈ wsX40, w ∈ lw_tbl := by decide +kernel
abbrev cX4_init : ByteArray := prog_6_method_1_code
def yX4_init : MethodName := ⟨RX4, "<init>", "(LPowersForTimes$Turned;)V"⟩
abbrev cX4_check : ByteArray := prog_6_method_2_code
def yX4_check : MethodName := ⟨RX4, "check", "([II)I"⟩
abbrev cX4_faultPlace : ByteArray := prog_6_method_3_code
def yX4_faultPlace : MethodName := ⟨RX4, "faultPlace", "()I"⟩
abbrev cX4_start : ByteArray := prog_6_method_4_code
def yX4_start : MethodName := ⟨RX4, "start", "([IIZ)V"⟩
abbrev cX4_cannot : ByteArray := prog_6_method_5_code
def yX4_cannot : MethodName := ⟨RX4, "cannot", "()Z"⟩
abbrev cX4_result : ByteArray := prog_6_method_6_code
def yX4_result : MethodName := ⟨RX4, "result", "()[I"⟩
abbrev cX4_readClause : ByteArray := prog_6_method_7_code
def yX4_readClause : MethodName := ⟨RX4, "readClause", "()I"⟩
abbrev cX4_clauseKind : ByteArray := prog_6_method_8_code
def yX4_clauseKind : MethodName := ⟨RX4, "clauseKind", "()I"⟩
abbrev cX4_readSum : ByteArray := prog_6_method_9_code
def yX4_readSum : MethodName := ⟨RX4, "readSum", "(II)Z"⟩
abbrev cX4_readProduct : ByteArray := prog_6_method_10_code
def yX4_readProduct : MethodName := ⟨RX4, "readProduct", "(II)Z"⟩
abbrev cX4_readPower : ByteArray := prog_6_method_11_code
def yX4_readPower : MethodName := ⟨RX4, "readPower", "(II)Z"⟩
abbrev cX4_readOne : ByteArray := prog_6_method_12_code
def yX4_readOne : MethodName := ⟨RX4, "readOne", "(II)Z"⟩
abbrev cX4_readNumber : ByteArray := prog_6_method_13_code
def yX4_readNumber : MethodName := ⟨RX4, "readNumber", "(I)Z"⟩
abbrev cX4_expect : ByteArray := prog_6_method_14_code
def yX4_expect : MethodName := ⟨RX4, "expect", "(I)Z"⟩
abbrev cX4_fail : ByteArray := prog_6_method_15_code
def yX4_fail : MethodName := ⟨RX4, "fail", "(I)Z"⟩
abbrev cX4_isWorking : ByteArray := prog_6_method_16_code
def yX4_isWorking : MethodName := ⟨RX4, "isWorking", "(I)Z"⟩
abbrev cX4_put : ByteArray := prog_6_method_17_code
def yX4_put : MethodName := ⟨RX4, "put", "(III)V"⟩
abbrev cX4_addUp : ByteArray := prog_6_method_18_code
def yX4_addUp : MethodName := ⟨RX4, "addUp", "(IZ)V"⟩
abbrev cX4_multiplyUp : ByteArray := prog_6_method_19_code
def yX4_multiplyUp : MethodName := ⟨RX4, "multiplyUp", "(I)V"⟩
abbrev cX4_turnOver : ByteArray := prog_6_method_20_code
def yX4_turnOver : MethodName := ⟨RX4, "turnOver", "(I)V"⟩
abbrev cX4_raise : ByteArray := prog_6_method_21_code
def yX4_raise : MethodName := ⟨RX4, "raise", "(II)V"⟩
abbrev cX4_isWord : ByteArray := prog_6_method_22_code
def yX4_isWord : MethodName := ⟨RX4, "isWord", "(Ljava/lang/String;)Z"⟩
abbrev cX4_byteAt : ByteArray := prog_6_method_23_code
def yX4_byteAt : MethodName := ⟨RX4, "byteAt", "(I)I"⟩
abbrev cX4_step : ByteArray := prog_6_method_24_code
def yX4_step : MethodName := ⟨RX4, "step", "()V"⟩
abbrev cX4_stepNumber : ByteArray := prog_6_method_25_code
def yX4_stepNumber : MethodName := ⟨RX4, "stepNumber", "()V"⟩
abbrev cX4_isDigit : ByteArray := prog_6_method_26_code
def yX4_isDigit : MethodName := ⟨RX4, "isDigit", "(I)Z"⟩
abbrev cX4_isLetter : ByteArray := prog_6_method_27_code
def yX4_isLetter : MethodName := ⟨RX4, "isLetter", "(I)Z"⟩
abbrev cX4_isSign : ByteArray := prog_6_method_28_code
def yX4_isSign : MethodName := ⟨RX4, "isSign", "(I)Z"⟩
def RX5 : String := "PowersForTimes$Rests"
def TX5 : u_T := fun k => match k with
  | 0 => ("PowersForTimes$Rests", "figures", "LPowersForTimes$Figures;", true)
  | 1 => ("PowersForTimes$Rests", "modulus", "I", false)
  | 2 => ("PowersForTimes$Rests", "degree", "I", false)
  | 3 => ("PowersForTimes$Rests", "size", "I", false)
  | 4 => ("PowersForTimes$Rests", "powers", "[I", true)
  | 5 => ("PowersForTimes$Rests", "places", "[I", true)
  | _ => ("PowersForTimes$Rests", "turns", "[I", true)
def tyX5 : Nat → FieldType := fun k => match k with
  | 0 => .object "PowersForTimes$Figures"
  | 1 => .int
  | 2 => .int
  | 3 => .int
  | 4 => .array .int
  | 5 => .array .int
  | _ => .array .int
abbrev wsX50 : List Cond := u_ws RX5 TX5 7
theorem nmX5 : ∀ a, a < 7 → ∀ b, b < 7 → a ≠ b → (TX5 a).2.1 ≠ (TX5 b).2.1 := by decide +kernel
theorem tyX5_ok : ∀ k, k < 7 → parseFieldDescriptor (TX5 k).2.2.1 = some (tyX5 k) := by decide +kernel
set_option maxRecDepth 20000 in
theorem inX5 : ∀ w ∈ wsX50, w ∈ lw_tbl := by decide +kernel
abbrev cX5_init : ByteArray := prog_7_method_1_code
def yX5_init : MethodName := ⟨RX5, "<init>", "(LPowersForTimes$Figures;)V"⟩
abbrev cX5_setModulus : ByteArray := prog_7_method_2_code
def yX5_setModulus : MethodName := ⟨RX5, "setModulus", "(I)V"⟩
abbrev cX5_listPowers : ByteArray := prog_7_method_3_code
def yX5_listPowers : MethodName := ⟨RX5, "listPowers", "(I)I"⟩
abbrev cX5_modulus : ByteArray := prog_7_method_4_code
def yX5_modulus : MethodName := ⟨RX5, "modulus", "()I"⟩
abbrev cX5_degree : ByteArray := prog_7_method_5_code
def yX5_degree : MethodName := ⟨RX5, "degree", "()I"⟩
abbrev cX5_size : ByteArray := prog_7_method_6_code
def yX5_size : MethodName := ⟨RX5, "size", "()I"⟩
abbrev cX5_holds : ByteArray := prog_7_method_7_code
def yX5_holds : MethodName := ⟨RX5, "holds", "(I)Z"⟩
abbrev cX5_makerPower : ByteArray := prog_7_method_8_code
def yX5_makerPower : MethodName := ⟨RX5, "makerPower", "(I)I"⟩
abbrev cX5_product : ByteArray := prog_7_method_9_code
def yX5_product : MethodName := ⟨RX5, "product", "(II)I"⟩
abbrev cX5_quotient : ByteArray := prog_7_method_10_code
def yX5_quotient : MethodName := ⟨RX5, "quotient", "(II)I"⟩
abbrev cX5_turnedUp : ByteArray := prog_7_method_11_code
def yX5_turnedUp : MethodName := ⟨RX5, "turnedUp", "(II)I"⟩
def RX6 : String := "PowersForTimes$State"
def TX6 : u_T := fun k => match k with
  | 0 => ("PowersForTimes$State", "base", "I", false)
  | 1 => ("PowersForTimes$State", "modulus", "I", false)
  | 2 => ("PowersForTimes$State", "texts", "I", false)
  | 3 => ("PowersForTimes$State", "done", "I", false)
  | 4 => ("PowersForTimes$State", "all", "I", false)
  | 5 => ("PowersForTimes$State", "modules", "[[I", true)
  | 6 => ("PowersForTimes$State", "maps", "[[I", true)
  | 7 => ("PowersForTimes$State", "many", "[I", true)
  | _ => ("PowersForTimes$State", "kinds", "[I", true)
def tyX6 : Nat → FieldType := fun k => match k with
  | 0 => .int
  | 1 => .int
  | 2 => .int
  | 3 => .int
  | 4 => .int
  | 5 => .array (.array .int)
  | 6 => .array (.array .int)
  | 7 => .array .int
  | _ => .array .int
abbrev wsX60 : List Cond := u_ws RX6 TX6 9
theorem nmX6 : ∀ a, a < 9 → ∀ b, b < 9 → a ≠ b → (TX6 a).2.1 ≠ (TX6 b).2.1 := by decide +kernel
theorem tyX6_ok : ∀ k, k < 9 → parseFieldDescriptor (TX6 k).2.2.1 = some (tyX6 k) := by decide +kernel
set_option maxRecDepth 20000 in
theorem inX6 : ∀ w ∈ wsX60, w ∈ lw_tbl := by decide +kernel
abbrev cX6_init : ByteArray := prog_8_method_1_code
def yX6_init : MethodName := ⟨RX6, "<init>", "()V"⟩
abbrev cX6_start : ByteArray := prog_8_method_2_code
def yX6_start : MethodName := ⟨RX6, "start", "(II)V"⟩
abbrev cX6_copyOf : ByteArray := prog_8_method_3_code
def yX6_copyOf : MethodName := ⟨RX6, "copyOf", "(LPowersForTimes$State;)V"⟩
abbrev cX6_base : ByteArray := prog_8_method_4_code
def yX6_base : MethodName := ⟨RX6, "base", "()I"⟩
abbrev cX6_modulus : ByteArray := prog_8_method_5_code
def yX6_modulus : MethodName := ⟨RX6, "modulus", "()I"⟩
abbrev cX6_texts : ByteArray := prog_8_method_6_code
def yX6_texts : MethodName := ⟨RX6, "texts", "()I"⟩
abbrev cX6_addText : ByteArray := prog_8_method_7_code
def yX6_addText : MethodName := ⟨RX6, "addText", "()V"⟩
abbrev cX6_steps : ByteArray := prog_8_method_8_code
def yX6_steps : MethodName := ⟨RX6, "steps", "()I"⟩
abbrev cX6_undone : ByteArray := prog_8_method_9_code
def yX6_undone : MethodName := ⟨RX6, "undone", "()I"⟩
abbrev cX6_many : ByteArray := prog_8_method_10_code
def yX6_many : MethodName := ⟨RX6, "many", "(I)I"⟩
abbrev cX6_has : ByteArray := prog_8_method_11_code
def yX6_has : MethodName := ⟨RX6, "has", "(II)Z"⟩
abbrev cX6_get : ByteArray := prog_8_method_12_code
def yX6_get : MethodName := ⟨RX6, "get", "(II)[I"⟩
abbrev cX6_tell : ByteArray := prog_8_method_13_code
def yX6_tell : MethodName := ⟨RX6, "tell", "(I[I)I"⟩
abbrev cX6_undoLatest : ByteArray := prog_8_method_14_code
def yX6_undoLatest : MethodName := ⟨RX6, "undoLatest", "()I"⟩
abbrev cX6_redoLatest : ByteArray := prog_8_method_15_code
def yX6_redoLatest : MethodName := ⟨RX6, "redoLatest", "()I"⟩
def RX7 : String := "PowersForTimes$Ties"
def TX7 : u_T := fun k => match k with
  | 0 => ("PowersForTimes$Ties", "figures", "LPowersForTimes$Figures;", true)
  | 1 => ("PowersForTimes$Ties", "rows", "[[I", true)
  | 2 => ("PowersForTimes$Ties", "tags", "[I", true)
  | 3 => ("PowersForTimes$Ties", "filled", "[Z", true)
  | _ => ("PowersForTimes$Ties", "row", "[I", true)
def tyX7 : Nat → FieldType := fun k => match k with
  | 0 => .object "PowersForTimes$Figures"
  | 1 => .array (.array .int)
  | 2 => .array .int
  | 3 => .array .boolean
  | _ => .array .int
abbrev wsX70 : List Cond := u_ws RX7 TX7 5
theorem nmX7 : ∀ a, a < 5 → ∀ b, b < 5 → a ≠ b → (TX7 a).2.1 ≠ (TX7 b).2.1 := by decide +kernel
theorem tyX7_ok : ∀ k, k < 5 → parseFieldDescriptor (TX7 k).2.2.1 = some (tyX7 k) := by decide +kernel
set_option maxRecDepth 20000 in
theorem inX7 : ∀ w ∈ wsX70, w ∈ lw_tbl := by decide +kernel
abbrev cX7_init : ByteArray := prog_9_method_1_code
def yX7_init : MethodName := ⟨RX7, "<init>", "(LPowersForTimes$Figures;)V"⟩
abbrev cX7_clear : ByteArray := prog_9_method_2_code
def yX7_clear : MethodName := ⟨RX7, "clear", "()V"⟩
abbrev cX7_dropTags : ByteArray := prog_9_method_3_code
def yX7_dropTags : MethodName := ⟨RX7, "dropTags", "()V"⟩
abbrev cX7_addRest : ByteArray := prog_9_method_4_code
def yX7_addRest : MethodName := ⟨RX7, "addRest", "(II)I"⟩
abbrev cX7_add : ByteArray := prog_9_method_5_code
def yX7_add : MethodName := ⟨RX7, "add", "([II)I"⟩
abbrev cX7_keep : ByteArray := prog_9_method_6_code
def yX7_keep : MethodName := ⟨RX7, "keep", "([IIII)V"⟩
def RX8 : String := "PowersForTimes$Turned"
def TX8 : u_T := fun k => match k with
  | 0 => ("PowersForTimes$Turned", "rests", "LPowersForTimes$Rests;", true)
  | _ => ("PowersForTimes$Turned", "figures", "LPowersForTimes$Figures;", true)
def tyX8 : Nat → FieldType := fun k => match k with
  | 0 => .object "PowersForTimes$Rests"
  | _ => .object "PowersForTimes$Figures"
abbrev wsX80 : List Cond := u_ws RX8 TX8 2
theorem nmX8 : ∀ a, a < 2 → ∀ b, b < 2 → a ≠ b → (TX8 a).2.1 ≠ (TX8 b).2.1 := by decide +kernel
theorem tyX8_ok : ∀ k, k < 2 → parseFieldDescriptor (TX8 k).2.2.1 = some (tyX8 k) := by decide +kernel
set_option maxRecDepth 20000 in
theorem inX8 : ∀ w ∈ wsX80, w ∈ lw_tbl := by decide +kernel
abbrev cX8_init : ByteArray := prog_10_method_1_code
def yX8_init : MethodName := ⟨RX8, "<init>", "(LPowersForTimes$Rests;)V"⟩
abbrev cX8_degreeOf : ByteArray := prog_10_method_2_code
def yX8_degreeOf : MethodName := ⟨RX8, "degreeOf", "([I)I"⟩
abbrev cX8_clear : ByteArray := prog_10_method_3_code
def yX8_clear : MethodName := ⟨RX8, "clear", "([I)V"⟩
abbrev cX8_copy : ByteArray := prog_10_method_4_code
def yX8_copy : MethodName := ⟨RX8, "copy", "([I[I)V"⟩
abbrev cX8_mix : ByteArray := prog_10_method_5_code
def yX8_mix : MethodName := ⟨RX8, "mix", "([I[II)V"⟩
abbrev cX8_multiply : ByteArray := prog_10_method_6_code
def yX8_multiply : MethodName := ⟨RX8, "multiply", "([I[I)Z"⟩
abbrev cX8_divide : ByteArray := prog_10_method_7_code
def yX8_divide : MethodName := ⟨RX8, "divide", "([I[I[I)V"⟩
abbrev cX8_valueAt : ByteArray := prog_10_method_8_code
def yX8_valueAt : MethodName := ⟨RX8, "valueAt", "([II)I"⟩
def RX9 : String := "PowersForTimes"
def TX9 : u_T := fun k => match k with
  | 0 => ("PowersForTimes", "figures", "LPowersForTimes$Figures;", true)
  | 1 => ("PowersForTimes", "rests", "LPowersForTimes$Rests;", true)
  | 2 => ("PowersForTimes", "primes", "LPowersForTimes$Primes;", true)
  | 3 => ("PowersForTimes", "turned", "LPowersForTimes$Turned;", true)
  | 4 => ("PowersForTimes", "acting", "LPowersForTimes$Acting;", true)
  | 5 => ("PowersForTimes", "maps", "LPowersForTimes$Maps;", true)
  | 6 => ("PowersForTimes", "reader", "LPowersForTimes$Reader;", true)
  | 7 => ("PowersForTimes", "now", "LPowersForTimes$State;", true)
  | 8 => ("PowersForTimes", "kept", "LPowersForTimes$State;", true)
  | 9 => ("PowersForTimes", "texts", "[[I", true)
  | 10 => ("PowersForTimes", "textLengths", "[I", true)
  | 11 => ("PowersForTimes", "tape", "[I", true)
  | 12 => ("PowersForTimes", "row", "[I", true)
  | 13 => ("PowersForTimes", "tapeLength", "I", false)
  | 14 => ("PowersForTimes", "latestFault", "I", false)
  | _ => ("PowersForTimes", "latestPlace", "I", false)
def tyX9 : Nat → FieldType := fun k => match k with
  | 0 => .object "PowersForTimes$Figures"
  | 1 => .object "PowersForTimes$Rests"
  | 2 => .object "PowersForTimes$Primes"
  | 3 => .object "PowersForTimes$Turned"
  | 4 => .object "PowersForTimes$Acting"
  | 5 => .object "PowersForTimes$Maps"
  | 6 => .object "PowersForTimes$Reader"
  | 7 => .object "PowersForTimes$State"
  | 8 => .object "PowersForTimes$State"
  | 9 => .array (.array .int)
  | 10 => .array .int
  | 11 => .array .int
  | 12 => .array .int
  | 13 => .int
  | 14 => .int
  | _ => .int
abbrev wsX90 : List Cond := u_ws RX9 TX9 16
theorem nmX9 : ∀ a, a < 16 → ∀ b, b < 16 → a ≠ b → (TX9 a).2.1 ≠ (TX9 b).2.1 := by decide +kernel
theorem tyX9_ok : ∀ k, k < 16 → parseFieldDescriptor (TX9 k).2.2.1 = some (tyX9 k) := by decide +kernel
set_option maxRecDepth 20000 in
theorem inX9 : ∀ w ∈ wsX90, w ∈ lw_tbl := by decide +kernel
abbrev cX9_init : ByteArray := prog_1_method_1_code
def yX9_init : MethodName := ⟨RX9, "<init>", "()V"⟩
abbrev cX9_world : ByteArray := prog_1_method_2_code
def yX9_world : MethodName := ⟨RX9, "world", "(II)I"⟩
abbrev cX9_work : ByteArray := prog_1_method_3_code
def yX9_work : MethodName := ⟨RX9, "work", "(III)I"⟩
abbrev cX9_poly : ByteArray := prog_1_method_4_code
def yX9_poly : MethodName := ⟨RX9, "poly", "(III)I"⟩
abbrev cX9_module : ByteArray := prog_1_method_5_code
def yX9_module : MethodName := ⟨RX9, "module", "(IIII)I"⟩
abbrev cX9_map : ByteArray := prog_1_method_6_code
def yX9_map : MethodName := ⟨RX9, "map", "(III)I"⟩
abbrev cX9_feed : ByteArray := prog_1_method_7_code
def yX9_feed : MethodName := ⟨RX9, "feed", "(IIIII)I"⟩
abbrev cX9_end : ByteArray := prog_1_method_8_code
def yX9_end : MethodName := ⟨RX9, "end", "(I)I"⟩
abbrev cX9_text : ByteArray := prog_1_method_9_code
def yX9_text : MethodName := ⟨RX9, "text", "()I"⟩
abbrev cX9_fault : ByteArray := prog_1_method_10_code
def yX9_fault : MethodName := ⟨RX9, "fault", "(I)I"⟩
abbrev cX9_told : ByteArray := prog_1_method_11_code
def yX9_told : MethodName := ⟨RX9, "told", "(I)I"⟩
abbrev cX9_of : ByteArray := prog_1_method_12_code
def yX9_of : MethodName := ⟨RX9, "of", "(ZII)I"⟩
abbrev cX9_act : ByteArray := prog_1_method_13_code
def yX9_act : MethodName := ⟨RX9, "act", "(III)I"⟩
abbrev cX9_acts : ByteArray := prog_1_method_14_code
def yX9_acts : MethodName := ⟨RX9, "acts", "(III)I"⟩
abbrev cX9_send : ByteArray := prog_1_method_15_code
def yX9_send : MethodName := ⟨RX9, "send", "(II)I"⟩
abbrev cX9_noughts : ByteArray := prog_1_method_16_code
def yX9_noughts : MethodName := ⟨RX9, "noughts", "(III)I"⟩
abbrev cX9_about : ByteArray := prog_1_method_17_code
def yX9_about : MethodName := ⟨RX9, "about", "(II)I"⟩
abbrev cX9_parts : ByteArray := prog_1_method_18_code
def yX9_parts : MethodName := ⟨RX9, "parts", "(II)I"⟩
abbrev cX9_great : ByteArray := prog_1_method_19_code
def yX9_great : MethodName := ⟨RX9, "great", "(II)I"⟩
abbrev cX9_leads : ByteArray := prog_1_method_20_code
def yX9_leads : MethodName := ⟨RX9, "leads", "(III)I"⟩
abbrev cX9_dual : ByteArray := prog_1_method_21_code
def yX9_dual : MethodName := ⟨RX9, "dual", "(III)I"⟩
abbrev cX9_made : ByteArray := prog_1_method_22_code
def yX9_made : MethodName := ⟨RX9, "made", "(II)I"⟩
abbrev cX9_ends : ByteArray := prog_1_method_23_code
def yX9_ends : MethodName := ⟨RX9, "ends", "(II)I"⟩
abbrev cX9_alike : ByteArray := prog_1_method_24_code
def yX9_alike : MethodName := ⟨RX9, "alike", "(II)I"⟩
abbrev cX9_classes : ByteArray := prog_1_method_25_code
def yX9_classes : MethodName := ⟨RX9, "classes", "(II)I"⟩
abbrev cX9_greatest : ByteArray := prog_1_method_26_code
def yX9_greatest : MethodName := ⟨RX9, "greatest", "(I)I"⟩
abbrev cX9_sums : ByteArray := prog_1_method_27_code
def yX9_sums : MethodName := ⟨RX9, "sums", "(II)I"⟩
abbrev cX9_symbol : ByteArray := prog_1_method_28_code
def yX9_symbol : MethodName := ⟨RX9, "symbol", "(II)I"⟩
abbrev cX9_factors : ByteArray := prog_1_method_29_code
def yX9_factors : MethodName := ⟨RX9, "factors", "(II)I"⟩
abbrev cX9_undo : ByteArray := prog_1_method_30_code
def yX9_undo : MethodName := ⟨RX9, "undo", "()I"⟩
abbrev cX9_redo : ByteArray := prog_1_method_31_code
def yX9_redo : MethodName := ⟨RX9, "redo", "()I"⟩
abbrev cX9_image : ByteArray := prog_1_method_32_code
def yX9_image : MethodName := ⟨RX9, "image", "()I"⟩
abbrev cX9_back : ByteArray := prog_1_method_33_code
def yX9_back : MethodName := ⟨RX9, "back", "()I"⟩
abbrev cX9_count : ByteArray := prog_1_method_34_code
def yX9_count : MethodName := ⟨RX9, "count", "(I)I"⟩
abbrev cX9_isModulus : ByteArray := prog_1_method_35_code
def yX9_isModulus : MethodName := ⟨RX9, "isModulus", "(I)Z"⟩
abbrev cX9_isActing : ByteArray := prog_1_method_36_code
def yX9_isActing : MethodName := ⟨RX9, "isActing", "(II)Z"⟩
abbrev cX9_areMapAndModule : ByteArray := prog_1_method_37_code
def yX9_areMapAndModule : MethodName := ⟨RX9, "areMapAndModule", "(II)Z"⟩
abbrev cX9_putRow : ByteArray := prog_1_method_38_code
def yX9_putRow : MethodName := ⟨RX9, "putRow", "(IIII)V"⟩
abbrev cX9_feedFour : ByteArray := prog_1_method_39_code
def yX9_feedFour : MethodName := ⟨RX9, "feedFour", "(I)V"⟩
def RX10 : String := "PowersForTimesModel"
def TX10 : u_T := fun k => match k with
  | 0 => ("PowersForTimesModel", "a", "[I", true)
  | 1 => ("PowersForTimesModel", "image", "[I", true)
  | 2 => ("PowersForTimesModel", "texts", "[I", true)
  | 3 => ("PowersForTimesModel", "d", "I", false)
  | 4 => ("PowersForTimesModel", "rests", "I", false)
  | 5 => ("PowersForTimesModel", "product", "[I", true)
  | 6 => ("PowersForTimesModel", "by1", "[I", true)
  | 7 => ("PowersForTimesModel", "raised", "[I", true)
  | 8 => ("PowersForTimesModel", "work", "[I", true)
  | 9 => ("PowersForTimesModel", "quotient", "I", false)
  | 10 => ("PowersForTimesModel", "left", "I", false)
  | 11 => ("PowersForTimesModel", "tape", "[I", true)
  | 12 => ("PowersForTimesModel", "taped", "I", false)
  | 13 => ("PowersForTimesModel", "fault", "I", false)
  | 14 => ("PowersForTimesModel", "faultPlace", "I", false)
  | 15 => ("PowersForTimesModel", "at", "I", false)
  | 16 => ("PowersForTimesModel", "place", "I", false)
  | 17 => ("PowersForTimesModel", "token", "I", false)
  | 18 => ("PowersForTimesModel", "number", "I", false)
  | 19 => ("PowersForTimesModel", "word", "J", false)
  | 20 => ("PowersForTimesModel", "text0", "I", false)
  | 21 => ("PowersForTimesModel", "written", "I", false)
  | 22 => ("PowersForTimesModel", "piled", "I", false)
  | 23 => ("PowersForTimesModel", "opens", "I", false)
  | 24 => ("PowersForTimesModel", "pile", "[I", true)
  | 25 => ("PowersForTimesModel", "isWhole", "Z", false)
  | 26 => ("PowersForTimesModel", "canRaise", "Z", false)
  | 27 => ("PowersForTimesModel", "row", "[I", true)
  | 28 => ("PowersForTimesModel", "table", "[I", true)
  | 29 => ("PowersForTimesModel", "firsts", "[I", true)
  | _ => ("PowersForTimesModel", "parts", "[I", true)
def tyX10 : Nat → FieldType := fun k => match k with
  | 0 => .array .int
  | 1 => .array .int
  | 2 => .array .int
  | 3 => .int
  | 4 => .int
  | 5 => .array .int
  | 6 => .array .int
  | 7 => .array .int
  | 8 => .array .int
  | 9 => .int
  | 10 => .int
  | 11 => .array .int
  | 12 => .int
  | 13 => .int
  | 14 => .int
  | 15 => .int
  | 16 => .int
  | 17 => .int
  | 18 => .int
  | 19 => .long
  | 20 => .int
  | 21 => .int
  | 22 => .int
  | 23 => .int
  | 24 => .array .int
  | 25 => .boolean
  | 26 => .boolean
  | 27 => .array .int
  | 28 => .array .int
  | 29 => .array .int
  | _ => .array .int
abbrev wsX100 : List Cond := u_ws RX10 TX10 31
theorem nmX10 : ∀ a, a < 31 → ∀ b, b < 31 → a ≠ b → (TX10 a).2.1 ≠ (TX10 b).2.1 := by decide +kernel
theorem tyX10_ok : ∀ k, k < 31 → parseFieldDescriptor (TX10 k).2.2.1 = some (tyX10 k) := by decide +kernel
set_option maxRecDepth 20000 in
theorem inX10 : ∀ w ∈ wsX100, w ∈ lw_tbl := by decide +kernel
abbrev cX10_init : ByteArray := prog_12_method_1_code
def yX10_init : MethodName := ⟨RX10, "<init>", "()V"⟩
abbrev cX10_copy : ByteArray := prog_12_method_2_code
def yX10_copy : MethodName := ⟨RX10, "copy", "([I[I)V"⟩
abbrev cX10_isIn : ByteArray := prog_12_method_3_code
def yX10_isIn : MethodName := ⟨RX10, "isIn", "(III)Z"⟩
abbrev cX10_power : ByteArray := prog_12_method_4_code
def yX10_power : MethodName := ⟨RX10, "power", "(I)I"⟩
abbrev cX10_degree : ByteArray := prog_12_method_5_code
def yX10_degree : MethodName := ⟨RX10, "degree", "(I)I"⟩
abbrev cX10_figure : ByteArray := prog_12_method_6_code
def yX10_figure : MethodName := ⟨RX10, "figure", "(II)I"⟩
abbrev cX10_isPoly : ByteArray := prog_12_method_7_code
def yX10_isPoly : MethodName := ⟨RX10, "isPoly", "(I)Z"⟩
abbrev cX10_sumOf : ByteArray := prog_12_method_8_code
def yX10_sumOf : MethodName := ⟨RX10, "sumOf", "(III)I"⟩
abbrev cX10_shifted : ByteArray := prog_12_method_9_code
def yX10_shifted : MethodName := ⟨RX10, "shifted", "(II)I"⟩
abbrev cX10_times : ByteArray := prog_12_method_10_code
def yX10_times : MethodName := ⟨RX10, "times", "(II)I"⟩
abbrev cX10_unit : ByteArray := prog_12_method_11_code
def yX10_unit : MethodName := ⟨RX10, "unit", "(I)I"⟩
abbrev cX10_divide : ByteArray := prog_12_method_12_code
def yX10_divide : MethodName := ⟨RX10, "divide", "(II)V"⟩
abbrev cX10_rest : ByteArray := prog_12_method_13_code
def yX10_rest : MethodName := ⟨RX10, "rest", "(II)I"⟩
abbrev cX10_by : ByteArray := prog_12_method_14_code
def yX10_by : MethodName := ⟨RX10, "by", "(II)I"⟩
abbrev cX10_monic : ByteArray := prog_12_method_15_code
def yX10_monic : MethodName := ⟨RX10, "monic", "(I)I"⟩
abbrev cX10_common : ByteArray := prog_12_method_16_code
def yX10_common : MethodName := ⟨RX10, "common", "(II)I"⟩
abbrev cX10_leastFactor : ByteArray := prog_12_method_17_code
def yX10_leastFactor : MethodName := ⟨RX10, "leastFactor", "(I)I"⟩
abbrev cX10_isPrime : ByteArray := prog_12_method_18_code
def yX10_isPrime : MethodName := ⟨RX10, "isPrime", "(I)Z"⟩
abbrev cX10_poly : ByteArray := prog_12_method_19_code
def yX10_poly : MethodName := ⟨RX10, "poly", "(III)I"⟩
abbrev cX10_makeWorld : ByteArray := prog_12_method_20_code
def yX10_makeWorld : MethodName := ⟨RX10, "makeWorld", "()V"⟩
abbrev cX10_world : ByteArray := prog_12_method_21_code
def yX10_world : MethodName := ⟨RX10, "world", "(II)I"⟩
abbrev cX10_isRest : ByteArray := prog_12_method_22_code
def yX10_isRest : MethodName := ⟨RX10, "isRest", "(I)Z"⟩
abbrev cX10_mul : ByteArray := prog_12_method_23_code
def yX10_mul : MethodName := ⟨RX10, "mul", "(II)I"⟩
abbrev cX10_minus : ByteArray := prog_12_method_24_code
def yX10_minus : MethodName := ⟨RX10, "minus", "(I)I"⟩
abbrev cX10_raise : ByteArray := prog_12_method_25_code
def yX10_raise : MethodName := ⟨RX10, "raise", "(II)I"⟩
abbrev cX10_work : ByteArray := prog_12_method_26_code
def yX10_work : MethodName := ⟨RX10, "work", "(III)I"⟩
abbrev cX10_clear : ByteArray := prog_12_method_27_code
def yX10_clear : MethodName := ⟨RX10, "clear", "(I)V"⟩
abbrev cX10_lay : ByteArray := prog_12_method_28_code
def yX10_lay : MethodName := ⟨RX10, "lay", "(II)V"⟩
abbrev cX10_degreeAt : ByteArray := prog_12_method_29_code
def yX10_degreeAt : MethodName := ⟨RX10, "degreeAt", "(I)I"⟩
abbrev cX10_multiply : ByteArray := prog_12_method_30_code
def yX10_multiply : MethodName := ⟨RX10, "multiply", "(III)Z"⟩
abbrev cX10_add : ByteArray := prog_12_method_31_code
def yX10_add : MethodName := ⟨RX10, "add", "(III)V"⟩
abbrev cX10_divideBy : ByteArray := prog_12_method_32_code
def yX10_divideBy : MethodName := ⟨RX10, "divideBy", "(III)V"⟩
abbrev cX10_sent : ByteArray := prog_12_method_33_code
def yX10_sent : MethodName := ⟨RX10, "sent", "(II)I"⟩
abbrev cX10_layModule : ByteArray := prog_12_method_34_code
def yX10_layModule : MethodName := ⟨RX10, "layModule", "(II)V"⟩
abbrev cX10_layMap : ByteArray := prog_12_method_35_code
def yX10_layMap : MethodName := ⟨RX10, "layMap", "(II)V"⟩
abbrev cX10_isModule : ByteArray := prog_12_method_36_code
def yX10_isModule : MethodName := ⟨RX10, "isModule", "(I)Z"⟩
abbrev cX10_isMap : ByteArray := prog_12_method_37_code
def yX10_isMap : MethodName := ⟨RX10, "isMap", "(I)Z"⟩
abbrev cX10_step : ByteArray := prog_12_method_38_code
def yX10_step : MethodName := ⟨RX10, "step", "(I)V"⟩
abbrev cX10_tellModule : ByteArray := prog_12_method_39_code
def yX10_tellModule : MethodName := ⟨RX10, "tellModule", "(I)I"⟩
abbrev cX10_tellMap : ByteArray := prog_12_method_40_code
def yX10_tellMap : MethodName := ⟨RX10, "tellMap", "(I)I"⟩
abbrev cX10_module : ByteArray := prog_12_method_41_code
def yX10_module : MethodName := ⟨RX10, "module", "(IIII)I"⟩
abbrev cX10_map : ByteArray := prog_12_method_42_code
def yX10_map : MethodName := ⟨RX10, "map", "(III)I"⟩
abbrev cX10_four : ByteArray := prog_12_method_43_code
def yX10_four : MethodName := ⟨RX10, "four", "(I)V"⟩
abbrev cX10_feed : ByteArray := prog_12_method_44_code
def yX10_feed : MethodName := ⟨RX10, "feed", "(IIIII)I"⟩
abbrev cX10_end : ByteArray := prog_12_method_45_code
def yX10_end : MethodName := ⟨RX10, "end", "(I)I"⟩
abbrev cX10_byteAt : ByteArray := prog_12_method_46_code
def yX10_byteAt : MethodName := ⟨RX10, "byteAt", "(I)I"⟩
abbrev cX10_isLetter : ByteArray := prog_12_method_47_code
def yX10_isLetter : MethodName := ⟨RX10, "isLetter", "(I)Z"⟩
abbrev cX10_isDigit : ByteArray := prog_12_method_48_code
def yX10_isDigit : MethodName := ⟨RX10, "isDigit", "(I)Z"⟩
abbrev cX10_nextToken : ByteArray := prog_12_method_49_code
def yX10_nextToken : MethodName := ⟨RX10, "nextToken", "()V"⟩
abbrev cX10_w3 : ByteArray := prog_12_method_50_code
def yX10_w3 : MethodName := ⟨RX10, "w3", "(III)J"⟩
abbrev cX10_emit : ByteArray := prog_12_method_51_code
def yX10_emit : MethodName := ⟨RX10, "emit", "(II)V"⟩
abbrev cX10_push : ByteArray := prog_12_method_52_code
def yX10_push : MethodName := ⟨RX10, "push", "(I)V"⟩
abbrev cX10_rank : ByteArray := prog_12_method_53_code
def yX10_rank : MethodName := ⟨RX10, "rank", "(I)I"⟩
abbrev cX10_settle : ByteArray := prog_12_method_54_code
def yX10_settle : MethodName := ⟨RX10, "settle", "(I)V"⟩
abbrev cX10_opensBy : ByteArray := prog_12_method_55_code
def yX10_opensBy : MethodName := ⟨RX10, "opensBy", "(I)I"⟩
abbrev cX10_whole : ByteArray := prog_12_method_56_code
def yX10_whole : MethodName := ⟨RX10, "whole", "()V"⟩
abbrev cX10_beginOne : ByteArray := prog_12_method_57_code
def yX10_beginOne : MethodName := ⟨RX10, "beginOne", "()I"⟩
abbrev cX10_raises : ByteArray := prog_12_method_58_code
def yX10_raises : MethodName := ⟨RX10, "raises", "()I"⟩
abbrev cX10_behindOne : ByteArray := prog_12_method_59_code
def yX10_behindOne : MethodName := ⟨RX10, "behindOne", "()Z"⟩
abbrev cX10_summed : ByteArray := prog_12_method_60_code
def yX10_summed : MethodName := ⟨RX10, "summed", "()I"⟩
abbrev cX10_clause : ByteArray := prog_12_method_61_code
def yX10_clause : MethodName := ⟨RX10, "clause", "()I"⟩
abbrev cX10_readText : ByteArray := prog_12_method_62_code
def yX10_readText : MethodName := ⟨RX10, "readText", "()I"⟩
abbrev cX10_text : ByteArray := prog_12_method_63_code
def yX10_text : MethodName := ⟨RX10, "text", "()I"⟩
abbrev cX10_fault : ByteArray := prog_12_method_64_code
def yX10_fault : MethodName := ⟨RX10, "fault", "(I)I"⟩
abbrev cX10_raiseBy : ByteArray := prog_12_method_65_code
def yX10_raiseBy : MethodName := ⟨RX10, "raiseBy", "(II)Z"⟩
abbrev cX10_works : ByteArray := prog_12_method_66_code
def yX10_works : MethodName := ⟨RX10, "works", "(II)Z"⟩
abbrev cX10_told : ByteArray := prog_12_method_67_code
def yX10_told : MethodName := ⟨RX10, "told", "(I)I"⟩
abbrev cX10_of : ByteArray := prog_12_method_68_code
def yX10_of : MethodName := ⟨RX10, "of", "(ZII)I"⟩
abbrev cX10_stepped : ByteArray := prog_12_method_69_code
def yX10_stepped : MethodName := ⟨RX10, "stepped", "(II)I"⟩
abbrev cX10_acted : ByteArray := prog_12_method_70_code
def yX10_acted : MethodName := ⟨RX10, "acted", "(III)I"⟩
abbrev cX10_act : ByteArray := prog_12_method_71_code
def yX10_act : MethodName := ⟨RX10, "act", "(III)I"⟩
abbrev cX10_layActs : ByteArray := prog_12_method_72_code
def yX10_layActs : MethodName := ⟨RX10, "layActs", "(III)Z"⟩
abbrev cX10_acts : ByteArray := prog_12_method_73_code
def yX10_acts : MethodName := ⟨RX10, "acts", "(III)I"⟩
abbrev cX10_send : ByteArray := prog_12_method_74_code
def yX10_send : MethodName := ⟨RX10, "send", "(II)I"⟩
abbrev cX10_noughts : ByteArray := prog_12_method_75_code
def yX10_noughts : MethodName := ⟨RX10, "noughts", "(III)I"⟩
abbrev cX10_characteristic : ByteArray := prog_12_method_76_code
def yX10_characteristic : MethodName := ⟨RX10, "characteristic", "(I)I"⟩
abbrev cX10_height : ByteArray := prog_12_method_77_code
def yX10_height : MethodName := ⟨RX10, "height", "(I)I"⟩
abbrev cX10_toSteps : ByteArray := prog_12_method_78_code
def yX10_toSteps : MethodName := ⟨RX10, "toSteps", "(I)V"⟩
abbrev cX10_points : ByteArray := prog_12_method_79_code
def yX10_points : MethodName := ⟨RX10, "points", "(I)I"⟩
abbrev cX10_about : ByteArray := prog_12_method_80_code
def yX10_about : MethodName := ⟨RX10, "about", "(II)I"⟩
abbrev cX10_rankOf : ByteArray := prog_12_method_81_code
def yX10_rankOf : MethodName := ⟨RX10, "rankOf", "(II)I"⟩
abbrev cX10_nought : ByteArray := prog_12_method_82_code
def yX10_nought : MethodName := ⟨RX10, "nought", "(II)I"⟩
abbrev cX10_findParts : ByteArray := prog_12_method_83_code
def yX10_findParts : MethodName := ⟨RX10, "findParts", "(I)V"⟩
abbrev cX10_parts : ByteArray := prog_12_method_84_code
def yX10_parts : MethodName := ⟨RX10, "parts", "(II)I"⟩
abbrev cX10_norm : ByteArray := prog_12_method_85_code
def yX10_norm : MethodName := ⟨RX10, "norm", "(I)I"⟩
abbrev cX10_trace : ByteArray := prog_12_method_86_code
def yX10_trace : MethodName := ⟨RX10, "trace", "(I)I"⟩
abbrev cX10_great : ByteArray := prog_12_method_87_code
def yX10_great : MethodName := ⟨RX10, "great", "(II)I"⟩
abbrev cX10_leadsTo : ByteArray := prog_12_method_88_code
def yX10_leadsTo : MethodName := ⟨RX10, "leadsTo", "(II)Z"⟩
abbrev cX10_leads : ByteArray := prog_12_method_89_code
def yX10_leads : MethodName := ⟨RX10, "leads", "(III)I"⟩
abbrev cX10_dual : ByteArray := prog_12_method_90_code
def yX10_dual : MethodName := ⟨RX10, "dual", "(III)I"⟩
abbrev cX10_made : ByteArray := prog_12_method_91_code
def yX10_made : MethodName := ⟨RX10, "made", "(II)I"⟩
abbrev cX10_ends : ByteArray := prog_12_method_92_code
def yX10_ends : MethodName := ⟨RX10, "ends", "(II)I"⟩
abbrev cX10_alike : ByteArray := prog_12_method_93_code
def yX10_alike : MethodName := ⟨RX10, "alike", "(II)I"⟩
abbrev cX10_classes : ByteArray := prog_12_method_94_code
def yX10_classes : MethodName := ⟨RX10, "classes", "(II)I"⟩
abbrev cX10_stays : ByteArray := prog_12_method_95_code
def yX10_stays : MethodName := ⟨RX10, "stays", "(II)I"⟩
abbrev cX10_greatest : ByteArray := prog_12_method_96_code
def yX10_greatest : MethodName := ⟨RX10, "greatest", "(I)I"⟩
abbrev cX10_sums : ByteArray := prog_12_method_97_code
def yX10_sums : MethodName := ⟨RX10, "sums", "(II)I"⟩
abbrev cX10_symbolOf : ByteArray := prog_12_method_98_code
def yX10_symbolOf : MethodName := ⟨RX10, "symbolOf", "(II)I"⟩
abbrev cX10_symbol : ByteArray := prog_12_method_99_code
def yX10_symbol : MethodName := ⟨RX10, "symbol", "(II)I"⟩
abbrev cX10_factors : ByteArray := prog_12_method_100_code
def yX10_factors : MethodName := ⟨RX10, "factors", "(II)I"⟩
abbrev cX10_undo : ByteArray := prog_12_method_101_code
def yX10_undo : MethodName := ⟨RX10, "undo", "()I"⟩
abbrev cX10_redo : ByteArray := prog_12_method_102_code
def yX10_redo : MethodName := ⟨RX10, "redo", "()I"⟩
abbrev cX10_image : ByteArray := prog_12_method_103_code
def yX10_image : MethodName := ⟨RX10, "image", "()I"⟩
abbrev cX10_back : ByteArray := prog_12_method_104_code
def yX10_back : MethodName := ⟨RX10, "back", "()I"⟩
abbrev cX10_count : ByteArray := prog_12_method_105_code
def yX10_count : MethodName := ⟨RX10, "count", "(I)I"⟩
abbrev vwCl : List vw_C := [(RX0, TX0, 7), (RX1, TX1, 2), (RX2, TX2, 9), (RX3, TX3, 5), (RX4, TX4, 14), (RX5, TX5, 7), (RX6, TX6, 9), (RX7, TX7, 5), (RX8, TX8, 2), (RX9, TX9, 16), (RX10, TX10, 31)]
end
section
abbrev RI := Nat × Nat × Instr × Nat × Nat × List Nat
def kd_X0_init : List RI := [(0, 1, .aload_n 0, 0, 0, []), (1, 3, .invokespecial 3, 0, 0, []), (4, 1, .aload_n 0, 0, 0, []), (5, 2, .bipush 25, 0, 0, []), (7, 2, .newarray .int, 0, 0, []), (9, 3, .putfield 11, 0, 5, []), (12, 1, .aload_n 0, 0, 0, []), (13, 2, .bipush 7, 0, 0, []), (15, 2, .newarray .int, 0, 0, []), (17, 3, .putfield 19, 0, 6, []), (20, 1, .aload_n 0, 0, 0, []), (21, 1, .aload_n 1, 0, 0, []), (22, 3, .putfield 22, 0, 0, []), (25, 1, .aload_n 0, 0, 0, []), (26, 1, .aload_n 1, 0, 0, []), (27, 3, .getfield 26, 8, 0, []), (30, 3, .putfield 30, 0, 1, []), (33, 1, .aload_n 0, 0, 0, []), (34, 1, .aload_n 1, 0, 0, []), (35, 3, .getfield 31, 8, 1, []), (38, 3, .putfield 35, 0, 2, []), (41, 1, .aload_n 0, 0, 0, []), (42, 3, .new 17, 7, 0, []), (45, 1, .dup, 0, 0, []), (46, 1, .aload_n 1, 0, 0, []), (47, 3, .getfield 31, 8, 1, []), (50, 3, .invokespecial 36, 113, 0, [1, 9, 0]), (53, 3, .putfield 39, 0, 3, []), (56, 1, .aload_n 0, 0, 0, []), (57, 1, .aload_n 2, 0, 0, []), (58, 3, .putfield 43, 0, 4, []), (61, 1, .return_, 0, 0, [])]
def kd_X0_sendBy : List RI := [(0, 1, .iconst 0, 0, 0, []), (1, 2, .istore 4, 0, 0, []), (3, 1, .aload_n 0, 0, 0, []), (4, 3, .getfield 35, 0, 2, []), (7, 1, .iload_n 2, 0, 0, []), (8, 3, .invokevirtual 47, 18, 0, [1, 1, 0]), (11, 2, .istore 5, 0, 0, []), (13, 0, .nop, 0, 0, [0, 1, 2, 3, 4, 5]), (13, 2, .iload 5, 0, 0, []), (15, 3, .ifCond .lt 39, 54, 0, []), (18, 1, .aload_n 0, 0, 0, []), (19, 3, .getfield 35, 0, 2, []), (22, 1, .aload_n 0, 0, 0, []), (23, 3, .getfield 22, 0, 0, []), (26, 1, .aload_n 1, 0, 0, []), (27, 2, .iload 4, 0, 0, []), (29, 3, .invokevirtual 53, 126, 0, [2, 1, 0]), (32, 1, .iload_n 3, 0, 0, []), (33, 1, .aload_n 0, 0, 0, []), (34, 3, .getfield 35, 0, 2, []), (37, 1, .iload_n 2, 0, 0, []), (38, 2, .iload 5, 0, 0, []), (40, 3, .invokevirtual 57, 19, 0, [2, 1, 0]), (43, 3, .invokevirtual 61, 24, 0, [3, 1, 0]), (46, 2, .istore 4, 0, 0, []), (48, 3, .iinc 5 (-1), 0, 0, []), (51, 3, .goto (-38), 13, 0, []), (54, 2, .iload 4, 0, 0, []), (56, 1, .ireturn, 0, 0, [])]
def kd_X0_turn : List RI := [(0, 1, .aload_n 3, 0, 0, []), (1, 3, .invokestatic 65, 121, 0, [1, 0, 0]), (4, 1, .aload_n 0, 0, 0, []), (5, 3, .getfield 35, 0, 2, []), (8, 1, .iload_n 2, 0, 0, []), (9, 3, .invokevirtual 47, 18, 0, [1, 1, 0]), (12, 2, .istore 4, 0, 0, []), (14, 0, .nop, 0, 0, [0, 1, 2, 3, 4]), (14, 2, .iload 4, 0, 0, []), (16, 3, .ifCond .lt 46, 62, 0, []), (19, 1, .aload_n 0, 0, 0, []), (20, 3, .getfield 22, 0, 0, []), (23, 1, .aload_n 3, 0, 0, []), (24, 1, .aload_n 1, 0, 0, []), (25, 3, .invokevirtual 69, 124, 0, [2, 1, 0]), (28, 3, .ifCond .ne 5, 33, 0, []), (31, 1, .iconst 0, 0, 0, []), (32, 1, .ireturn, 0, 0, []), (33, 1, .aload_n 3, 0, 0, []), (34, 1, .iconst 0, 0, 0, []), (35, 1, .aload_n 0, 0, 0, []), (36, 3, .getfield 35, 0, 2, []), (39, 1, .aload_n 3, 0, 0, []), (40, 1, .iconst 0, 0, 0, []), (41, 1, .iaload, 0, 0, []), (42, 1, .aload_n 0, 0, 0, []), (43, 3, .getfield 35, 0, 2, []), (46, 1, .iload_n 2, 0, 0, []), (47, 2, .iload 4, 0, 0, []), (49, 3, .invokevirtual 57, 19, 0, [2, 1, 0]), (52, 3, .invokevirtual 73, 25, 0, [2, 1, 0]), (55, 1, .iastore, 0, 0, []), (56, 3, .iinc 4 (-1), 0, 0, []), (59, 3, .goto (-45), 14, 0, []), (62, 1, .iconst 1, 0, 0, []), (63, 1, .ireturn, 0, 0, [])]
def kd_X0_characteristic : List RI := [(0, 1, .aload_n 0, 0, 0, []), (1, 3, .getfield 39, 0, 3, []), (4, 3, .invokevirtual 76, 114, 0, [0, 0, 0]), (7, 1, .iconst 1, 0, 0, []), (8, 1, .istore_n 2, 0, 0, []), (9, 1, .iconst 0, 0, 0, []), (10, 1, .istore_n 3, 0, 0, []), (11, 0, .nop, 0, 0, [0, 1, 2, 3]), (11, 1, .iload_n 3, 0, 0, []), (12, 1, .aload_n 0, 0, 0, []), (13, 3, .getfield 30, 0, 1, []), (16, 3, .invokevirtual 78, 91, 0, [0, 1, 0]), (19, 3, .if_icmp .gt 46, 65, 0, []), (22, 1, .aload_n 0, 0, 0, []), (23, 3, .getfield 39, 0, 3, []), (26, 1, .iload_n 2, 0, 0, []), (27, 1, .aload_n 0, 0, 0, []), (28, 3, .getfield 35, 0, 2, []), (31, 1, .iload_n 3, 0, 0, []), (32, 3, .invokevirtual 83, 16, 0, [1, 1, 0]), (35, 3, .invokevirtual 86, 116, 0, [2, 1, 0]), (38, 2, .istore 4, 0, 0, []), (40, 2, .iload 4, 0, 0, []), (42, 1, .iconst (-1), 0, 0, []), (43, 3, .if_icmp .eq 6, 49, 0, []), (46, 2, .iload 4, 0, 0, []), (48, 1, .ireturn, 0, 0, []), (49, 1, .aload_n 0, 0, 0, []), (50, 3, .getfield 30, 0, 1, []), (53, 1, .iload_n 2, 0, 0, []), (54, 1, .iload_n 1, 0, 0, []), (55, 3, .invokevirtual 89, 95, 0, [2, 1, 0]), (58, 1, .istore_n 2, 0, 0, []), (59, 3, .iinc 3 1, 0, 0, []), (62, 3, .goto (-51), 11, 0, []), (65, 1, .iconst (-1), 0, 0, []), (66, 1, .ireturn, 0, 0, [])]
def kd_X0_height : List RI := [(0, 1, .aload_n 0, 0, 0, []), (1, 3, .getfield 35, 0, 2, []), (4, 1, .iload_n 2, 0, 0, []), (5, 3, .invokevirtual 47, 18, 0, [1, 1, 0]), (8, 1, .istore_n 3, 0, 0, []), (9, 1, .iload_n 3, 0, 0, []), (10, 1, .iconst 1, 0, 0, []), (11, 3, .if_icmp .lt 16, 27, 0, []), (14, 1, .aload_n 0, 0, 0, []), (15, 1, .aload_n 1, 0, 0, []), (16, 1, .iload_n 2, 0, 0, []), (17, 1, .aload_n 0, 0, 0, []), (18, 3, .getfield 11, 0, 5, []), (21, 3, .invokevirtual 92, 2, 0, [3, 1, 0]), (24, 3, .ifCond .ne 5, 29, 0, []), (27, 1, .iconst (-1), 0, 0, []), (28, 1, .ireturn, 0, 0, []), (29, 1, .iconst 0, 0, 0, []), (30, 2, .istore 4, 0, 0, []), (32, 0, .nop, 0, 0, [0, 3, 4]), (32, 2, .iload 4, 0, 0, []), (34, 1, .aload_n 0, 0, 0, []), (35, 3, .getfield 11, 0, 5, []), (38, 1, .arraylength, 0, 1, []), (39, 1, .iconst 1, 0, 0, []), (40, 1, .isub, 0, 0, []), (41, 3, .if_icmp .ge 19, 60, 0, []), (44, 1, .aload_n 0, 0, 0, []), (45, 3, .getfield 11, 0, 5, []), (48, 2, .iload 4, 0, 0, []), (50, 1, .iaload, 0, 1, []), (51, 3, .ifCond .ne 9, 60, 0, []), (54, 3, .iinc 4 1, 0, 0, []), (57, 3, .goto (-25), 32, 0, []), (60, 2, .iload 4, 0, 0, []), (62, 1, .iload_n 3, 0, 0, []), (63, 1, .idiv, 0, 0, []), (64, 1, .ireturn, 0, 0, [])]
def kd_X0_points : List RI := [(0, 1, .aload_n 0, 0, 0, []), (1, 3, .getfield 39, 0, 3, []), (4, 3, .invokevirtual 76, 114, 0, [0, 0, 0]), (7, 1, .iconst 1, 0, 0, []), (8, 1, .istore_n 2, 0, 0, []), (9, 1, .iconst 0, 0, 0, []), (10, 1, .istore_n 3, 0, 0, []), (11, 0, .nop, 0, 0, [0, 1, 2, 3]), (11, 1, .iload_n 3, 0, 0, []), (12, 1, .aload_n 0, 0, 0, []), (13, 3, .getfield 30, 0, 1, []), (16, 3, .invokevirtual 78, 91, 0, [0, 1, 0]), (19, 3, .if_icmp .ge 99, 118, 0, []), (22, 1, .aload_n 0, 0, 0, []), (23, 3, .getfield 39, 0, 3, []), (26, 3, .invokevirtual 96, 115, 0, [0, 0, 0]), (29, 1, .aload_n 0, 0, 0, []), (30, 3, .getfield 35, 0, 2, []), (33, 1, .iload_n 3, 0, 0, []), (34, 3, .invokevirtual 83, 16, 0, [1, 1, 0]), (37, 2, .istore 4, 0, 0, []), (39, 1, .iconst 0, 0, 0, []), (40, 2, .istore 5, 0, 0, []), (42, 0, .nop, 0, 0, [0, 1, 2, 3, 4, 5]), (42, 2, .iload 5, 0, 0, []), (44, 1, .aload_n 0, 0, 0, []), (45, 3, .getfield 30, 0, 1, []), (48, 3, .invokevirtual 78, 91, 0, [0, 1, 0]), (51, 3, .if_icmp .gt 61, 112, 0, []), (54, 1, .aload_n 0, 0, 0, []), (55, 3, .getfield 39, 0, 3, []), (58, 2, .iload 4, 0, 0, []), (60, 1, .aload_n 0, 0, 0, []), (61, 3, .getfield 35, 0, 2, []), (64, 2, .iload 5, 0, 0, []), (66, 3, .invokevirtual 83, 16, 0, [1, 1, 0]), (69, 3, .invokevirtual 86, 116, 0, [2, 1, 0]), (72, 2, .istore 6, 0, 0, []), (74, 2, .iload 6, 0, 0, []), (76, 1, .iconst (-1), 0, 0, []), (77, 3, .if_icmp .eq 17, 94, 0, []), (80, 1, .aload_n 0, 0, 0, []), (81, 3, .getfield 35, 0, 2, []), (84, 1, .iload_n 2, 0, 0, []), (85, 2, .iload 6, 0, 0, []), (87, 3, .invokevirtual 99, 29, 0, [2, 1, 0]), (90, 1, .istore_n 2, 0, 0, []), (91, 3, .goto 21, 112, 0, []), (94, 1, .aload_n 0, 0, 0, []), (95, 3, .getfield 22, 0, 0, []), (98, 1, .aload_n 1, 0, 0, []), (99, 2, .iload 4, 0, 0, []), (101, 3, .invokevirtual 53, 126, 0, [2, 1, 0]), (104, 2, .istore 4, 0, 0, []), (106, 3, .iinc 5 1, 0, 0, []), (109, 3, .goto (-67), 42, 0, []), (112, 3, .iinc 3 1, 0, 0, []), (115, 3, .goto (-104), 11, 0, []), (118, 1, .iload_n 2, 0, 0, []), (119, 1, .ireturn, 0, 0, [])]
def kd_X0_part : List RI := [(0, 1, .iload_n 1, 0, 0, []), (1, 3, .ifCond .lt 12, 13, 0, []), (4, 1, .iload_n 1, 0, 0, []), (5, 1, .aload_n 0, 0, 0, []), (6, 3, .getfield 19, 0, 6, []), (9, 1, .arraylength, 0, 1, []), (10, 3, .if_icmp .lt 7, 17, 0, []), (13, 1, .iconst (-1), 0, 0, []), (14, 3, .goto 9, 23, 0, []), (17, 1, .aload_n 0, 0, 0, []), (18, 3, .getfield 19, 0, 6, []), (21, 1, .iload_n 1, 0, 0, []), (22, 1, .iaload, 0, 1, []), (23, 1, .ireturn, 0, 0, [])]
def kd_X0_findParts : List RI := [(0, 1, .iconst 0, 0, 0, []), (1, 1, .istore_n 2, 0, 0, []), (2, 0, .nop, 0, 0, [0, 1, 2]), (2, 1, .iload_n 2, 0, 0, []), (3, 1, .aload_n 0, 0, 0, []), (4, 3, .getfield 19, 0, 6, []), (7, 1, .arraylength, 0, 1, []), (8, 3, .if_icmp .ge 16, 24, 0, []), (11, 1, .aload_n 0, 0, 0, []), (12, 3, .getfield 19, 0, 6, []), (15, 1, .iload_n 2, 0, 0, []), (16, 1, .iconst 1, 0, 0, []), (17, 1, .iastore, 0, 1, []), (18, 3, .iinc 2 1, 0, 0, []), (21, 3, .goto (-19), 2, 0, []), (24, 1, .aload_n 0, 0, 0, []), (25, 3, .getfield 43, 0, 4, []), (28, 1, .aload_n 0, 0, 0, []), (29, 1, .aload_n 1, 0, 0, []), (30, 3, .invokevirtual 100, 5, 0, [1, 1, 0]), (33, 3, .invokevirtual 104, 52, 0, [1, 0, 0]), (36, 1, .iconst 0, 0, 0, []), (37, 1, .istore_n 2, 0, 0, []), (38, 0, .nop, 0, 0, [0, 1, 2]), (38, 1, .iload_n 2, 0, 0, []), (39, 1, .aload_n 0, 0, 0, []), (40, 3, .getfield 43, 0, 4, []), (43, 3, .invokevirtual 110, 50, 0, [0, 1, 0]), (46, 3, .if_icmp .ge 47, 93, 0, []), (49, 1, .iload_n 2, 0, 0, []), (50, 3, .ifCond .eq 24, 74, 0, []), (53, 1, .aload_n 0, 0, 0, []), (54, 3, .getfield 43, 0, 4, []), (57, 1, .iload_n 2, 0, 0, []), (58, 3, .invokevirtual 113, 51, 0, [1, 1, 0]), (61, 1, .aload_n 0, 0, 0, []), (62, 3, .getfield 43, 0, 4, []), (65, 1, .iload_n 2, 0, 0, []), (66, 1, .iconst 1, 0, 0, []), (67, 1, .isub, 0, 0, []), (68, 3, .invokevirtual 113, 51, 0, [1, 1, 0]), (71, 3, .if_icmp .eq 16, 87, 0, []), (74, 1, .aload_n 0, 0, 0, []), (75, 1, .aload_n 1, 0, 0, []), (76, 1, .aload_n 0, 0, 0, []), (77, 3, .getfield 43, 0, 4, []), (80, 1, .iload_n 2, 0, 0, []), (81, 3, .invokevirtual 113, 51, 0, [1, 1, 0]), (84, 3, .invokevirtual 116, 8, 0, [2, 0, 0]), (87, 3, .iinc 2 1, 0, 0, []), (90, 3, .goto (-52), 38, 0, []), (93, 1, .iconst 0, 0, 0, []), (94, 1, .istore_n 2, 0, 0, []), (95, 0, .nop, 0, 0, [0, 2]), (95, 1, .iload_n 2, 0, 0, []), (96, 1, .aload_n 0, 0, 0, []), (97, 3, .getfield 19, 0, 6, []), (100, 1, .arraylength, 0, 1, []), (101, 3, .if_icmp .ge 19, 120, 0, []), (104, 1, .aload_n 0, 0, 0, []), (105, 3, .getfield 19, 0, 6, []), (108, 1, .iload_n 2, 0, 0, []), (109, 1, .iaload, 0, 1, []), (110, 1, .iconst 1, 0, 0, []), (111, 3, .if_icmp .le 9, 120, 0, []), (114, 3, .iinc 2 1, 0, 0, []), (117, 3, .goto (-22), 95, 0, []), (120, 1, .iload_n 2, 0, 0, []), (121, 1, .ireturn, 0, 0, [])]
def kd_X0_spread : List RI := [(0, 1, .aload_n 0, 0, 0, []), (1, 3, .getfield 35, 0, 2, []), (4, 1, .iload_n 2, 0, 0, []), (5, 3, .invokevirtual 47, 18, 0, [1, 1, 0]), (8, 1, .istore_n 3, 0, 0, []), (9, 1, .iconst 1, 0, 0, []), (10, 2, .istore 4, 0, 0, []), (12, 1, .iconst 0, 0, 0, []), (13, 2, .istore 5, 0, 0, []), (15, 1, .iconst 1, 0, 0, []), (16, 2, .istore 6, 0, 0, []), (18, 0, .nop, 0, 0, [0, 1, 2, 3, 4, 5, 6]), (18, 1, .iload_n 3, 0, 0, []), (19, 3, .ifCond .le 101, 120, 0, []), (22, 2, .iload 6, 0, 0, []), (24, 1, .iload_n 3, 0, 0, []), (25, 1, .imul, 0, 0, []), (26, 1, .aload_n 0, 0, 0, []), (27, 3, .getfield 30, 0, 1, []), (30, 3, .invokevirtual 78, 91, 0, [0, 1, 0]), (33, 3, .if_icmp .gt 87, 120, 0, []), (36, 1, .aload_n 0, 0, 0, []), (37, 3, .getfield 35, 0, 2, []), (40, 2, .iload 4, 0, 0, []), (42, 1, .iload_n 2, 0, 0, []), (43, 3, .invokevirtual 99, 29, 0, [2, 1, 0]), (46, 2, .istore 4, 0, 0, []), (48, 1, .aload_n 0, 0, 0, []), (49, 1, .aload_n 1, 0, 0, []), (50, 2, .iload 4, 0, 0, []), (52, 3, .invokevirtual 120, 9, 0, [2, 1, 0]), (55, 1, .iload_n 3, 0, 0, []), (56, 1, .idiv, 0, 0, []), (57, 2, .istore 7, 0, 0, []), (59, 1, .iconst 0, 0, 0, []), (60, 2, .istore 8, 0, 0, []), (62, 0, .nop, 0, 0, [0, 1, 2, 3, 4, 5, 6, 7, 8]), (62, 2, .iload 8, 0, 0, []), (64, 2, .iload 7, 0, 0, []), (66, 2, .iload 5, 0, 0, []), (68, 1, .isub, 0, 0, []), (69, 3, .if_icmp .ge 41, 110, 0, []), (72, 2, .iload 8, 0, 0, []), (74, 1, .aload_n 0, 0, 0, []), (75, 3, .getfield 19, 0, 6, []), (78, 1, .arraylength, 0, 1, []), (79, 3, .if_icmp .ge 31, 110, 0, []), (82, 1, .aload_n 0, 0, 0, []), (83, 3, .getfield 19, 0, 6, []), (86, 2, .iload 8, 0, 0, []), (88, 1, .aload_n 0, 0, 0, []), (89, 3, .getfield 35, 0, 2, []), (92, 1, .aload_n 0, 0, 0, []), (93, 3, .getfield 19, 0, 6, []), (96, 2, .iload 8, 0, 0, []), (98, 1, .iaload, 0, 1, []), (99, 1, .iload_n 2, 0, 0, []), (100, 3, .invokevirtual 99, 29, 0, [2, 1, 0]), (103, 1, .iastore, 0, 1, []), (104, 3, .iinc 8 1, 0, 0, []), (107, 3, .goto (-45), 62, 0, []), (110, 2, .iload 7, 0, 0, []), (112, 2, .istore 5, 0, 0, []), (114, 3, .iinc 6 1, 0, 0, []), (117, 3, .goto (-99), 18, 0, []), (120, 1, .return_, 0, 0, [])]
def kd_X0_noughtSpace : List RI := [(0, 1, .aload_n 0, 0, 0, []), (1, 3, .getfield 39, 0, 3, []), (4, 3, .invokevirtual 76, 114, 0, [0, 0, 0]), (7, 1, .iconst 0, 0, 0, []), (8, 1, .istore_n 3, 0, 0, []), (9, 1, .iconst 0, 0, 0, []), (10, 2, .istore 4, 0, 0, []), (12, 0, .nop, 0, 0, [0, 1, 2, 3, 4]), (12, 2, .iload 4, 0, 0, []), (14, 1, .aload_n 0, 0, 0, []), (15, 3, .getfield 30, 0, 1, []), (18, 3, .invokevirtual 78, 91, 0, [0, 1, 0]), (21, 3, .if_icmp .ge 39, 60, 0, []), (24, 1, .aload_n 0, 0, 0, []), (25, 3, .getfield 39, 0, 3, []), (28, 1, .aload_n 0, 0, 0, []), (29, 1, .aload_n 1, 0, 0, []), (30, 1, .iload_n 2, 0, 0, []), (31, 1, .aload_n 0, 0, 0, []), (32, 3, .getfield 35, 0, 2, []), (35, 2, .iload 4, 0, 0, []), (37, 3, .invokevirtual 83, 16, 0, [1, 1, 0]), (40, 3, .invokevirtual 123, 1, 0, [3, 1, 0]), (43, 1, .iconst 0, 0, 0, []), (44, 3, .invokevirtual 86, 116, 0, [2, 1, 0]), (47, 1, .iconst (-1), 0, 0, []), (48, 3, .if_icmp .eq 6, 54, 0, []), (51, 3, .iinc 3 1, 0, 0, []), (54, 3, .iinc 4 1, 0, 0, []), (57, 3, .goto (-45), 12, 0, []), (60, 1, .iload_n 3, 0, 0, []), (61, 1, .ireturn, 0, 0, [])]
def kd_X0_greatNorm : List RI := [(0, 1, .aload_n 0, 0, 0, []), (1, 1, .aload_n 1, 0, 0, []), (2, 1, .iconst 0, 0, 0, []), (3, 1, .iaload, 0, 0, []), (4, 3, .invokevirtual 127, 3, 0, [1, 1, 0]), (7, 1, .istore_n 2, 0, 0, []), (8, 1, .aload_n 0, 0, 0, []), (9, 1, .aload_n 1, 0, 0, []), (10, 3, .invokevirtual 130, 12, 0, [1, 1, 0]), (13, 1, .istore_n 3, 0, 0, []), (14, 1, .aload_n 0, 0, 0, []), (15, 3, .getfield 35, 0, 2, []), (18, 1, .iload_n 2, 0, 0, []), (19, 3, .invokevirtual 47, 18, 0, [1, 1, 0]), (22, 2, .istore 4, 0, 0, []), (24, 2, .iload 4, 0, 0, []), (26, 2, .istore 5, 0, 0, []), (28, 0, .nop, 0, 0, [0, 2, 3, 4, 5]), (28, 2, .iload 4, 0, 0, []), (30, 3, .ifCond .le 35, 65, 0, []), (33, 2, .iload 5, 0, 0, []), (35, 1, .aload_n 0, 0, 0, []), (36, 3, .getfield 30, 0, 1, []), (39, 3, .invokevirtual 78, 91, 0, [0, 1, 0]), (42, 3, .if_icmp .gt 23, 65, 0, []), (45, 1, .aload_n 0, 0, 0, []), (46, 3, .getfield 35, 0, 2, []), (49, 1, .iload_n 3, 0, 0, []), (50, 1, .iload_n 2, 0, 0, []), (51, 3, .invokevirtual 99, 29, 0, [2, 1, 0]), (54, 1, .istore_n 3, 0, 0, []), (55, 2, .iload 5, 0, 0, []), (57, 2, .iload 4, 0, 0, []), (59, 1, .iadd, 0, 0, []), (60, 2, .istore 5, 0, 0, []), (62, 3, .goto (-34), 28, 0, []), (65, 1, .iload_n 3, 0, 0, []), (66, 1, .ireturn, 0, 0, [])]
def kd_X0_greatTrace : List RI := [(0, 1, .aload_n 0, 0, 0, []), (1, 3, .getfield 35, 0, 2, []), (4, 1, .aload_n 0, 0, 0, []), (5, 1, .aload_n 1, 0, 0, []), (6, 3, .invokevirtual 130, 12, 0, [1, 1, 0]), (9, 3, .invokevirtual 133, 23, 0, [1, 1, 0]), (12, 1, .istore_n 2, 0, 0, []), (13, 1, .aload_n 0, 0, 0, []), (14, 3, .getfield 35, 0, 2, []), (17, 1, .aload_n 0, 0, 0, []), (18, 3, .getfield 35, 0, 2, []), (21, 1, .iconst 1, 0, 0, []), (22, 1, .aload_n 0, 0, 0, []), (23, 1, .aload_n 1, 0, 0, []), (24, 3, .invokevirtual 136, 10, 0, [1, 1, 0]), (27, 3, .invokevirtual 73, 25, 0, [2, 1, 0]), (30, 1, .aload_n 0, 0, 0, []), (31, 1, .aload_n 1, 0, 0, []), (32, 3, .invokevirtual 100, 5, 0, [1, 1, 0]), (35, 1, .iload_n 2, 0, 0, []), (36, 3, .invokevirtual 61, 24, 0, [3, 1, 0]), (39, 1, .ireturn, 0, 0, [])]
def kd_X0_greatUnit : List RI := [(0, 1, .iconst 1, 0, 0, []), (1, 1, .istore_n 2, 0, 0, []), (2, 1, .iconst 0, 0, 0, []), (3, 1, .istore_n 3, 0, 0, []), (4, 0, .nop, 0, 0, [0, 1, 2, 3]), (4, 1, .iload_n 3, 0, 0, []), (5, 1, .aload_n 0, 0, 0, []), (6, 3, .getfield 30, 0, 1, []), (9, 3, .invokevirtual 78, 91, 0, [0, 1, 0]), (12, 3, .if_icmp .ge 29, 41, 0, []), (15, 1, .aload_n 0, 0, 0, []), (16, 3, .getfield 30, 0, 1, []), (19, 1, .iload_n 2, 0, 0, []), (20, 1, .aload_n 0, 0, 0, []), (21, 3, .getfield 30, 0, 1, []), (24, 1, .aload_n 1, 0, 0, []), (25, 1, .iconst 2, 0, 0, []), (26, 1, .iaload, 0, 0, []), (27, 1, .iload_n 3, 0, 0, []), (28, 3, .invokevirtual 139, 97, 0, [2, 1, 0]), (31, 3, .invokevirtual 89, 95, 0, [2, 1, 0]), (34, 1, .istore_n 2, 0, 0, []), (35, 3, .iinc 3 1, 0, 0, []), (38, 3, .goto (-34), 4, 0, []), (41, 1, .aload_n 0, 0, 0, []), (42, 3, .getfield 30, 0, 1, []), (45, 1, .iconst 1, 0, 0, []), (46, 1, .iload_n 2, 0, 0, []), (47, 3, .invokevirtual 142, 96, 0, [2, 1, 0]), (50, 1, .istore_n 3, 0, 0, []), (51, 1, .aload_n 0, 0, 0, []), (52, 3, .getfield 30, 0, 1, []), (55, 3, .invokevirtual 78, 91, 0, [0, 1, 0]), (58, 1, .iconst 2, 0, 0, []), (59, 1, .irem, 0, 0, []), (60, 1, .iconst 1, 0, 0, []), (61, 3, .if_icmp .ne 14, 75, 0, []), (64, 1, .aload_n 0, 0, 0, []), (65, 3, .getfield 35, 0, 2, []), (68, 1, .iload_n 3, 0, 0, []), (69, 3, .invokevirtual 133, 23, 0, [1, 1, 0]), (72, 3, .goto 4, 76, 0, []), (75, 1, .iload_n 3, 0, 0, []), (76, 1, .ireturn, 0, 0, [])]
def kd_X1_init : List RI := [(0, 1, .aload_n 0, 0, 0, []), (1, 3, .invokespecial 1, 0, 0, []), (4, 1, .aload_n 0, 0, 0, []), (5, 1, .iconst 2, 0, 0, []), (6, 3, .putfield 7, 1, 0, []), (9, 1, .aload_n 0, 0, 0, []), (10, 2, .bipush 14, 0, 0, []), (12, 2, .newarray .int, 0, 0, []), (14, 3, .putfield 13, 1, 1, []), (17, 1, .aload_n 0, 0, 0, []), (18, 1, .iconst 2, 0, 0, []), (19, 3, .invokevirtual 17, 14, 0, [1, 0, 0]), (22, 1, .return_, 0, 0, [])]
def kd_X1_setBase : List RI := [(0, 1, .iload_n 1, 0, 0, []), (1, 1, .iconst 2, 0, 0, []), (2, 3, .if_icmp .lt 8, 10, 0, []), (5, 1, .iload_n 1, 0, 0, []), (6, 1, .iconst 5, 0, 0, []), (7, 3, .if_icmp .le 4, 11, 0, []), (10, 1, .return_, 0, 0, []), (11, 1, .aload_n 0, 0, 0, []), (12, 1, .iload_n 1, 0, 0, []), (13, 3, .putfield 7, 1, 0, []), (16, 1, .iconst 1, 0, 0, []), (17, 1, .istore_n 2, 0, 0, []), (18, 1, .iconst 0, 0, 0, []), (19, 1, .istore_n 3, 0, 0, []), (20, 0, .nop, 0, 0, [0, 1, 2, 3]), (20, 1, .iload_n 3, 0, 0, []), (21, 1, .aload_n 0, 0, 0, []), (22, 3, .getfield 13, 1, 1, []), (25, 1, .arraylength, 0, 1, []), (26, 3, .if_icmp .ge 20, 46, 0, []), (29, 1, .aload_n 0, 0, 0, []), (30, 3, .getfield 13, 1, 1, []), (33, 1, .iload_n 3, 0, 0, []), (34, 1, .iload_n 2, 0, 0, []), (35, 1, .iastore, 0, 1, []), (36, 1, .iload_n 2, 0, 0, []), (37, 1, .iload_n 1, 0, 0, []), (38, 1, .imul, 0, 0, []), (39, 1, .istore_n 2, 0, 0, []), (40, 3, .iinc 3 1, 0, 0, []), (43, 3, .goto (-23), 20, 0, []), (46, 1, .return_, 0, 0, [])]
def kd_X1_base : List RI := [(0, 1, .aload_n 0, 0, 0, []), (1, 3, .getfield 7, 1, 0, []), (4, 1, .ireturn, 0, 0, [])]
def kd_X1_power : List RI := [(0, 1, .iload_n 1, 0, 0, []), (1, 3, .ifCond .lt 12, 13, 0, []), (4, 1, .iload_n 1, 0, 0, []), (5, 1, .aload_n 0, 0, 0, []), (6, 3, .getfield 13, 1, 1, []), (9, 1, .arraylength, 0, 1, []), (10, 3, .if_icmp .lt 7, 17, 0, []), (13, 1, .iconst 0, 0, 0, []), (14, 3, .goto 9, 23, 0, []), (17, 1, .aload_n 0, 0, 0, []), (18, 3, .getfield 13, 1, 1, []), (21, 1, .iload_n 1, 0, 0, []), (22, 1, .iaload, 0, 1, []), (23, 1, .ireturn, 0, 0, [])]
def kd_X1_holds : List RI := [(0, 1, .iload_n 1, 0, 0, []), (1, 3, .ifCond .lt 18, 19, 0, []), (4, 1, .iload_n 1, 0, 0, []), (5, 1, .aload_n 0, 0, 0, []), (6, 3, .getfield 13, 1, 1, []), (9, 2, .bipush 13, 0, 0, []), (11, 1, .iaload, 0, 1, []), (12, 3, .if_icmp .ge 7, 19, 0, []), (15, 1, .iconst 1, 0, 0, []), (16, 3, .goto 4, 20, 0, []), (19, 1, .iconst 0, 0, 0, []), (20, 1, .ireturn, 0, 0, [])]
def kd_X1_degree : List RI := [(0, 1, .iconst (-1), 0, 0, []), (1, 1, .istore_n 2, 0, 0, []), (2, 0, .nop, 0, 0, [0, 1, 2]), (2, 1, .iload_n 2, 0, 0, []), (3, 1, .iconst 1, 0, 0, []), (4, 1, .iadd, 0, 0, []), (5, 2, .bipush 13, 0, 0, []), (7, 3, .if_icmp .ge 21, 28, 0, []), (10, 1, .iload_n 1, 0, 0, []), (11, 1, .aload_n 0, 0, 0, []), (12, 3, .getfield 13, 1, 1, []), (15, 1, .iload_n 2, 0, 0, []), (16, 1, .iconst 1, 0, 0, []), (17, 1, .iadd, 0, 0, []), (18, 1, .iaload, 0, 1, []), (19, 3, .if_icmp .lt 9, 28, 0, []), (22, 3, .iinc 2 1, 0, 0, []), (25, 3, .goto (-23), 2, 0, []), (28, 1, .iload_n 2, 0, 0, []), (29, 1, .ireturn, 0, 0, [])]
def kd_X1_figure : List RI := [(0, 1, .iload_n 2, 0, 0, []), (1, 3, .ifCond .lt 30, 31, 0, []), (4, 1, .iload_n 2, 0, 0, []), (5, 1, .aload_n 0, 0, 0, []), (6, 3, .getfield 13, 1, 1, []), (9, 1, .arraylength, 0, 1, []), (10, 3, .if_icmp .ge 21, 31, 0, []), (13, 1, .aload_n 0, 0, 0, []), (14, 3, .getfield 13, 1, 1, []), (17, 1, .iload_n 2, 0, 0, []), (18, 1, .iaload, 0, 1, []), (19, 1, .iconst 1, 0, 0, []), (20, 3, .if_icmp .lt 11, 31, 0, []), (23, 1, .aload_n 0, 0, 0, []), (24, 3, .getfield 7, 1, 0, []), (27, 1, .iconst 2, 0, 0, []), (28, 3, .if_icmp .ge 5, 33, 0, []), (31, 1, .iconst 0, 0, 0, []), (32, 1, .ireturn, 0, 0, []), (33, 1, .iload_n 1, 0, 0, []), (34, 1, .aload_n 0, 0, 0, []), (35, 3, .getfield 13, 1, 1, []), (38, 1, .iload_n 2, 0, 0, []), (39, 1, .iaload, 0, 1, []), (40, 1, .idiv, 0, 0, []), (41, 1, .aload_n 0, 0, 0, []), (42, 3, .getfield 7, 1, 0, []), (45, 1, .irem, 0, 0, []), (46, 1, .ireturn, 0, 0, [])]
def kd_X1_first : List RI := [(0, 1, .aload_n 0, 0, 0, []), (1, 1, .iload_n 1, 0, 0, []), (2, 1, .aload_n 0, 0, 0, []), (3, 1, .iload_n 1, 0, 0, []), (4, 3, .invokevirtual 21, 18, 0, [1, 1, 0]), (7, 3, .invokevirtual 25, 19, 0, [2, 1, 0]), (10, 1, .ireturn, 0, 0, [])]
def kd_X1_isMonic : List RI := [(0, 1, .aload_n 0, 0, 0, []), (1, 1, .iload_n 1, 0, 0, []), (2, 3, .invokevirtual 29, 20, 0, [1, 1, 0]), (5, 1, .iconst 1, 0, 0, []), (6, 3, .if_icmp .ne 7, 13, 0, []), (9, 1, .iconst 1, 0, 0, []), (10, 3, .goto 4, 14, 0, []), (13, 1, .iconst 0, 0, 0, []), (14, 1, .ireturn, 0, 0, [])]
def kd_X1_inverse : List RI := [(0, 1, .iconst 1, 0, 0, []), (1, 1, .istore_n 2, 0, 0, []), (2, 0, .nop, 0, 0, [0, 1, 2]), (2, 1, .iload_n 2, 0, 0, []), (3, 1, .aload_n 0, 0, 0, []), (4, 3, .getfield 7, 1, 0, []), (7, 3, .if_icmp .ge 23, 30, 0, []), (10, 1, .iload_n 1, 0, 0, []), (11, 1, .iload_n 2, 0, 0, []), (12, 1, .imul, 0, 0, []), (13, 1, .aload_n 0, 0, 0, []), (14, 3, .getfield 7, 1, 0, []), (17, 1, .irem, 0, 0, []), (18, 1, .iconst 1, 0, 0, []), (19, 3, .if_icmp .ne 5, 24, 0, []), (22, 1, .iload_n 2, 0, 0, []), (23, 1, .ireturn, 0, 0, []), (24, 3, .iinc 2 1, 0, 0, []), (27, 3, .goto (-25), 2, 0, []), (30, 1, .iconst 0, 0, 0, []), (31, 1, .ireturn, 0, 0, [])]
def kd_X1_negative : List RI := [(0, 1, .aload_n 0, 0, 0, []), (1, 3, .getfield 7, 1, 0, []), (4, 1, .iload_n 1, 0, 0, []), (5, 1, .isub, 0, 0, []), (6, 1, .aload_n 0, 0, 0, []), (7, 3, .getfield 7, 1, 0, []), (10, 1, .irem, 0, 0, []), (11, 1, .ireturn, 0, 0, [])]
def kd_X1_mix : List RI := [(0, 1, .aload_n 0, 0, 0, []), (1, 3, .getfield 7, 1, 0, []), (4, 1, .iconst 2, 0, 0, []), (5, 3, .if_icmp .ne 15, 20, 0, []), (8, 1, .iload_n 3, 0, 0, []), (9, 3, .ifCond .ne 7, 16, 0, []), (12, 1, .iload_n 1, 0, 0, []), (13, 3, .goto 6, 19, 0, []), (16, 1, .iload_n 1, 0, 0, []), (17, 1, .iload_n 2, 0, 0, []), (18, 1, .ixor, 0, 0, []), (19, 1, .ireturn, 0, 0, []), (20, 1, .iconst 0, 0, 0, []), (21, 2, .istore 4, 0, 0, []), (23, 1, .iconst 0, 0, 0, []), (24, 2, .istore 5, 0, 0, []), (26, 0, .nop, 0, 0, [0, 1, 2, 3, 4, 5]), (26, 2, .iload 5, 0, 0, []), (28, 2, .bipush 13, 0, 0, []), (30, 3, .if_icmp .ge 64, 94, 0, []), (33, 1, .iload_n 1, 0, 0, []), (34, 3, .ifCond .gt 7, 41, 0, []), (37, 1, .iload_n 2, 0, 0, []), (38, 3, .ifCond .le 56, 94, 0, []), (41, 2, .iload 4, 0, 0, []), (43, 1, .iload_n 1, 0, 0, []), (44, 1, .aload_n 0, 0, 0, []), (45, 3, .getfield 7, 1, 0, []), (48, 1, .irem, 0, 0, []), (49, 1, .iload_n 3, 0, 0, []), (50, 1, .iload_n 2, 0, 0, []), (51, 1, .aload_n 0, 0, 0, []), (52, 3, .getfield 7, 1, 0, []), (55, 1, .irem, 0, 0, []), (56, 1, .imul, 0, 0, []), (57, 1, .iadd, 0, 0, []), (58, 1, .aload_n 0, 0, 0, []), (59, 3, .getfield 7, 1, 0, []), (62, 1, .irem, 0, 0, []), (63, 1, .aload_n 0, 0, 0, []), (64, 3, .getfield 13, 1, 1, []), (67, 2, .iload 5, 0, 0, []), (69, 1, .iaload, 0, 1, []), (70, 1, .imul, 0, 0, []), (71, 1, .iadd, 0, 0, []), (72, 2, .istore 4, 0, 0, []), (74, 1, .iload_n 1, 0, 0, []), (75, 1, .aload_n 0, 0, 0, []), (76, 3, .getfield 7, 1, 0, []), (79, 1, .idiv, 0, 0, []), (80, 1, .istore_n 1, 0, 0, []), (81, 1, .iload_n 2, 0, 0, []), (82, 1, .aload_n 0, 0, 0, []), (83, 3, .getfield 7, 1, 0, []), (86, 1, .idiv, 0, 0, []), (87, 1, .istore_n 2, 0, 0, []), (88, 3, .iinc 5 1, 0, 0, []), (91, 3, .goto (-65), 26, 0, []), (94, 2, .iload 4, 0, 0, []), (96, 1, .ireturn, 0, 0, [])]
def kd_X1_sum : List RI := [(0, 1, .aload_n 0, 0, 0, []), (1, 1, .iload_n 1, 0, 0, []), (2, 1, .iload_n 2, 0, 0, []), (3, 1, .iconst 1, 0, 0, []), (4, 3, .invokevirtual 32, 24, 0, [3, 1, 0]), (7, 1, .ireturn, 0, 0, [])]
def kd_X1_difference : List RI := [(0, 1, .aload_n 0, 0, 0, []), (1, 1, .iload_n 1, 0, 0, []), (2, 1, .iload_n 2, 0, 0, []), (3, 1, .aload_n 0, 0, 0, []), (4, 3, .getfield 7, 1, 0, []), (7, 1, .iconst 1, 0, 0, []), (8, 1, .isub, 0, 0, []), (9, 3, .invokevirtual 32, 24, 0, [3, 1, 0]), (12, 1, .ireturn, 0, 0, [])]
def kd_X1_monic : List RI := [(0, 1, .aload_n 0, 0, 0, []), (1, 1, .iconst 0, 0, 0, []), (2, 1, .iload_n 1, 0, 0, []), (3, 1, .aload_n 0, 0, 0, []), (4, 1, .aload_n 0, 0, 0, []), (5, 1, .iload_n 1, 0, 0, []), (6, 1, .aload_n 0, 0, 0, []), (7, 1, .iload_n 1, 0, 0, []), (8, 3, .invokevirtual 21, 18, 0, [1, 1, 0]), (11, 3, .invokevirtual 25, 19, 0, [2, 1, 0]), (14, 3, .invokevirtual 36, 22, 0, [1, 1, 0]), (17, 3, .invokevirtual 32, 24, 0, [3, 1, 0]), (20, 1, .ireturn, 0, 0, [])]
def kd_X1_fits : List RI := [(0, 1, .aload_n 0, 0, 0, []), (1, 1, .iload_n 1, 0, 0, []), (2, 3, .invokevirtual 21, 18, 0, [1, 1, 0]), (5, 1, .aload_n 0, 0, 0, []), (6, 1, .iload_n 2, 0, 0, []), (7, 3, .invokevirtual 21, 18, 0, [1, 1, 0]), (10, 1, .iadd, 0, 0, []), (11, 2, .bipush 13, 0, 0, []), (13, 3, .if_icmp .ge 7, 20, 0, []), (16, 1, .iconst 1, 0, 0, []), (17, 3, .goto 4, 21, 0, []), (20, 1, .iconst 0, 0, 0, []), (21, 1, .ireturn, 0, 0, [])]
def kd_X1_product : List RI := [(0, 1, .iconst 0, 0, 0, []), (1, 1, .istore_n 3, 0, 0, []), (2, 1, .aload_n 0, 0, 0, []), (3, 1, .iload_n 1, 0, 0, []), (4, 3, .invokevirtual 21, 18, 0, [1, 1, 0]), (7, 2, .istore 4, 0, 0, []), (9, 0, .nop, 0, 0, [0, 1, 2, 3, 4]), (9, 2, .iload 4, 0, 0, []), (11, 3, .ifCond .lt 28, 39, 0, []), (14, 1, .aload_n 0, 0, 0, []), (15, 1, .iload_n 3, 0, 0, []), (16, 1, .aload_n 0, 0, 0, []), (17, 3, .getfield 7, 1, 0, []), (20, 1, .imul, 0, 0, []), (21, 1, .iload_n 2, 0, 0, []), (22, 1, .aload_n 0, 0, 0, []), (23, 1, .iload_n 1, 0, 0, []), (24, 2, .iload 4, 0, 0, []), (26, 3, .invokevirtual 25, 19, 0, [2, 1, 0]), (29, 3, .invokevirtual 32, 24, 0, [3, 1, 0]), (32, 1, .istore_n 3, 0, 0, []), (33, 3, .iinc 4 (-1), 0, 0, []), (36, 3, .goto (-27), 9, 0, []), (39, 1, .iload_n 3, 0, 0, []), (40, 1, .ireturn, 0, 0, [])]
def kd_X1_rest : List RI := [(0, 1, .aload_n 0, 0, 0, []), (1, 1, .iload_n 2, 0, 0, []), (2, 3, .invokevirtual 21, 18, 0, [1, 1, 0]), (5, 1, .istore_n 3, 0, 0, []), (6, 1, .aload_n 0, 0, 0, []), (7, 1, .aload_n 0, 0, 0, []), (8, 1, .iload_n 2, 0, 0, []), (9, 1, .iload_n 3, 0, 0, []), (10, 3, .invokevirtual 25, 19, 0, [2, 1, 0]), (13, 3, .invokevirtual 36, 22, 0, [1, 1, 0]), (16, 2, .istore 4, 0, 0, []), (18, 1, .aload_n 0, 0, 0, []), (19, 1, .iload_n 1, 0, 0, []), (20, 3, .invokevirtual 21, 18, 0, [1, 1, 0]), (23, 2, .istore 5, 0, 0, []), (25, 0, .nop, 0, 0, [0, 1, 2, 3, 4, 5]), (25, 2, .iload 5, 0, 0, []), (27, 1, .iload_n 3, 0, 0, []), (28, 3, .if_icmp .lt 52, 80, 0, []), (31, 1, .iload_n 3, 0, 0, []), (32, 3, .ifCond .lt 48, 80, 0, []), (35, 1, .aload_n 0, 0, 0, []), (36, 1, .iload_n 1, 0, 0, []), (37, 2, .iload 5, 0, 0, []), (39, 3, .invokevirtual 25, 19, 0, [2, 1, 0]), (42, 2, .iload 4, 0, 0, []), (44, 1, .imul, 0, 0, []), (45, 1, .aload_n 0, 0, 0, []), (46, 3, .getfield 7, 1, 0, []), (49, 1, .irem, 0, 0, []), (50, 2, .istore 6, 0, 0, []), (52, 1, .aload_n 0, 0, 0, []), (53, 1, .iload_n 1, 0, 0, []), (54, 1, .iload_n 2, 0, 0, []), (55, 1, .aload_n 0, 0, 0, []), (56, 2, .iload 5, 0, 0, []), (58, 1, .iload_n 3, 0, 0, []), (59, 1, .isub, 0, 0, []), (60, 3, .invokevirtual 39, 16, 0, [1, 1, 0]), (63, 1, .imul, 0, 0, []), (64, 1, .aload_n 0, 0, 0, []), (65, 2, .iload 6, 0, 0, []), (67, 3, .invokevirtual 42, 23, 0, [1, 1, 0]), (70, 3, .invokevirtual 32, 24, 0, [3, 1, 0]), (73, 1, .istore_n 1, 0, 0, []), (74, 3, .iinc 5 (-1), 0, 0, []), (77, 3, .goto (-52), 25, 0, []), (80, 1, .iload_n 1, 0, 0, []), (81, 1, .ireturn, 0, 0, [])]
def kd_X1_quotient : List RI := [(0, 1, .aload_n 0, 0, 0, []), (1, 1, .iload_n 2, 0, 0, []), (2, 3, .invokevirtual 21, 18, 0, [1, 1, 0]), (5, 1, .istore_n 3, 0, 0, []), (6, 1, .aload_n 0, 0, 0, []), (7, 1, .aload_n 0, 0, 0, []), (8, 1, .iload_n 2, 0, 0, []), (9, 1, .iload_n 3, 0, 0, []), (10, 3, .invokevirtual 25, 19, 0, [2, 1, 0]), (13, 3, .invokevirtual 36, 22, 0, [1, 1, 0]), (16, 2, .istore 4, 0, 0, []), (18, 1, .iconst 0, 0, 0, []), (19, 2, .istore 5, 0, 0, []), (21, 1, .aload_n 0, 0, 0, []), (22, 1, .iload_n 1, 0, 0, []), (23, 3, .invokevirtual 21, 18, 0, [1, 1, 0]), (26, 2, .istore 6, 0, 0, []), (28, 0, .nop, 0, 0, [0, 1, 2, 3, 4, 5, 6]), (28, 2, .iload 6, 0, 0, []), (30, 1, .iload_n 3, 0, 0, []), (31, 3, .if_icmp .lt 68, 99, 0, []), (34, 1, .iload_n 3, 0, 0, []), (35, 3, .ifCond .lt 64, 99, 0, []), (38, 1, .aload_n 0, 0, 0, []), (39, 1, .iload_n 1, 0, 0, []), (40, 2, .iload 6, 0, 0, []), (42, 3, .invokevirtual 25, 19, 0, [2, 1, 0]), (45, 2, .iload 4, 0, 0, []), (47, 1, .imul, 0, 0, []), (48, 1, .aload_n 0, 0, 0, []), (49, 3, .getfield 7, 1, 0, []), (52, 1, .irem, 0, 0, []), (53, 2, .istore 7, 0, 0, []), (55, 1, .aload_n 0, 0, 0, []), (56, 1, .iload_n 1, 0, 0, []), (57, 1, .iload_n 2, 0, 0, []), (58, 1, .aload_n 0, 0, 0, []), (59, 2, .iload 6, 0, 0, []), (61, 1, .iload_n 3, 0, 0, []), (62, 1, .isub, 0, 0, []), (63, 3, .invokevirtual 39, 16, 0, [1, 1, 0]), (66, 1, .imul, 0, 0, []), (67, 1, .aload_n 0, 0, 0, []), (68, 2, .iload 7, 0, 0, []), (70, 3, .invokevirtual 42, 23, 0, [1, 1, 0]), (73, 3, .invokevirtual 32, 24, 0, [3, 1, 0]), (76, 1, .istore_n 1, 0, 0, []), (77, 2, .iload 5, 0, 0, []), (79, 2, .iload 7, 0, 0, []), (81, 1, .aload_n 0, 0, 0, []), (82, 2, .iload 6, 0, 0, []), (84, 1, .iload_n 3, 0, 0, []), (85, 1, .isub, 0, 0, []), (86, 3, .invokevirtual 39, 16, 0, [1, 1, 0]), (89, 1, .imul, 0, 0, []), (90, 1, .iadd, 0, 0, []), (91, 2, .istore 5, 0, 0, []), (93, 3, .iinc 6 (-1), 0, 0, []), (96, 3, .goto (-68), 28, 0, []), (99, 2, .iload 5, 0, 0, []), (101, 1, .ireturn, 0, 0, [])]
def kd_X1_common : List RI := [(0, 1, .iconst 0, 0, 0, []), (1, 1, .istore_n 3, 0, 0, []), (2, 0, .nop, 0, 0, [0, 1, 2, 3]), (2, 1, .iload_n 3, 0, 0, []), (3, 2, .bipush 26, 0, 0, []), (5, 3, .if_icmp .ge 26, 31, 0, []), (8, 1, .iload_n 2, 0, 0, []), (9, 3, .ifCond .eq 22, 31, 0, []), (12, 1, .aload_n 0, 0, 0, []), (13, 1, .iload_n 1, 0, 0, []), (14, 1, .iload_n 2, 0, 0, []), (15, 3, .invokevirtual 45, 30, 0, [2, 1, 0]), (18, 2, .istore 4, 0, 0, []), (20, 1, .iload_n 2, 0, 0, []), (21, 1, .istore_n 1, 0, 0, []), (22, 2, .iload 4, 0, 0, []), (24, 1, .istore_n 2, 0, 0, []), (25, 3, .iinc 3 1, 0, 0, []), (28, 3, .goto (-26), 2, 0, []), (31, 1, .aload_n 0, 0, 0, []), (32, 1, .iload_n 1, 0, 0, []), (33, 3, .invokevirtual 48, 27, 0, [1, 1, 0]), (36, 1, .ireturn, 0, 0, [])]
def kd_X1_productBy : List RI := [(0, 1, .aload_n 0, 0, 0, []), (1, 1, .iload_n 3, 0, 0, []), (2, 3, .invokevirtual 21, 18, 0, [1, 1, 0]), (5, 2, .istore 4, 0, 0, []), (7, 1, .iconst 0, 0, 0, []), (8, 2, .istore 5, 0, 0, []), (10, 1, .aload_n 0, 0, 0, []), (11, 1, .iload_n 1, 0, 0, []), (12, 3, .invokevirtual 21, 18, 0, [1, 1, 0]), (15, 2, .istore 6, 0, 0, []), (17, 0, .nop, 0, 0, [0, 1, 2, 3, 4, 5, 6]), (17, 2, .iload 6, 0, 0, []), (19, 3, .ifCond .lt 55, 74, 0, []), (22, 2, .iload 5, 0, 0, []), (24, 1, .aload_n 0, 0, 0, []), (25, 3, .getfield 7, 1, 0, []), (28, 1, .imul, 0, 0, []), (29, 2, .istore 5, 0, 0, []), (31, 1, .aload_n 0, 0, 0, []), (32, 2, .iload 5, 0, 0, []), (34, 1, .iload_n 3, 0, 0, []), (35, 1, .aload_n 0, 0, 0, []), (36, 1, .aload_n 0, 0, 0, []), (37, 2, .iload 5, 0, 0, []), (39, 2, .iload 4, 0, 0, []), (41, 3, .invokevirtual 25, 19, 0, [2, 1, 0]), (44, 3, .invokevirtual 42, 23, 0, [1, 1, 0]), (47, 3, .invokevirtual 32, 24, 0, [3, 1, 0]), (50, 2, .istore 5, 0, 0, []), (52, 1, .aload_n 0, 0, 0, []), (53, 2, .iload 5, 0, 0, []), (55, 1, .iload_n 2, 0, 0, []), (56, 1, .aload_n 0, 0, 0, []), (57, 1, .iload_n 1, 0, 0, []), (58, 2, .iload 6, 0, 0, []), (60, 3, .invokevirtual 25, 19, 0, [2, 1, 0]), (63, 3, .invokevirtual 32, 24, 0, [3, 1, 0]), (66, 2, .istore 5, 0, 0, []), (68, 3, .iinc 6 (-1), 0, 0, []), (71, 3, .goto (-54), 17, 0, []), (74, 2, .iload 5, 0, 0, []), (76, 1, .ireturn, 0, 0, [])]
def kd_X1_turnedBy : List RI := [(0, 1, .iload_n 1, 0, 0, []), (1, 1, .istore_n 3, 0, 0, []), (2, 1, .iconst 1, 0, 0, []), (3, 2, .istore 4, 0, 0, []), (5, 0, .nop, 0, 0, [0, 1, 2, 3, 4]), (5, 2, .iload 4, 0, 0, []), (7, 1, .aload_n 0, 0, 0, []), (8, 3, .getfield 7, 1, 0, []), (11, 3, .if_icmp .ge 17, 28, 0, []), (14, 1, .aload_n 0, 0, 0, []), (15, 1, .iload_n 3, 0, 0, []), (16, 1, .iload_n 1, 0, 0, []), (17, 1, .iload_n 2, 0, 0, []), (18, 3, .invokevirtual 51, 33, 0, [3, 1, 0]), (21, 1, .istore_n 3, 0, 0, []), (22, 3, .iinc 4 1, 0, 0, []), (25, 3, .goto (-20), 5, 0, []), (28, 1, .iload_n 3, 0, 0, []), (29, 1, .ireturn, 0, 0, [])]
def kd_X1_sumOfPowers : List RI := [(0, 1, .iconst 0, 0, 0, []), (1, 1, .istore_n 3, 0, 0, []), (2, 1, .aload_n 0, 0, 0, []), (3, 1, .iload_n 2, 0, 0, []), (4, 3, .invokevirtual 39, 16, 0, [1, 1, 0]), (7, 2, .istore 4, 0, 0, []), (9, 2, .iload 4, 0, 0, []), (11, 2, .istore 5, 0, 0, []), (13, 0, .nop, 0, 0, [0, 1, 3, 4, 5]), (13, 2, .iload 5, 0, 0, []), (15, 1, .iconst 2, 0, 0, []), (16, 2, .iload 4, 0, 0, []), (18, 1, .imul, 0, 0, []), (19, 3, .if_icmp .ge 46, 65, 0, []), (22, 2, .iload 5, 0, 0, []), (24, 2, .istore 6, 0, 0, []), (26, 1, .iconst 1, 0, 0, []), (27, 2, .istore 7, 0, 0, []), (29, 0, .nop, 0, 0, [0, 1, 3, 4, 5, 6, 7]), (29, 2, .iload 7, 0, 0, []), (31, 1, .iload_n 1, 0, 0, []), (32, 3, .if_icmp .ge 19, 51, 0, []), (35, 1, .aload_n 0, 0, 0, []), (36, 2, .iload 6, 0, 0, []), (38, 2, .iload 5, 0, 0, []), (40, 3, .invokevirtual 54, 29, 0, [2, 1, 0]), (43, 2, .istore 6, 0, 0, []), (45, 3, .iinc 7 1, 0, 0, []), (48, 3, .goto (-19), 29, 0, []), (51, 1, .aload_n 0, 0, 0, []), (52, 1, .iload_n 3, 0, 0, []), (53, 2, .iload 6, 0, 0, []), (55, 3, .invokevirtual 57, 25, 0, [2, 1, 0]), (58, 1, .istore_n 3, 0, 0, []), (59, 3, .iinc 5 1, 0, 0, []), (62, 3, .goto (-49), 13, 0, []), (65, 1, .iload_n 3, 0, 0, []), (66, 1, .ireturn, 0, 0, [])]
def kd_X1_symbolOver : List RI := [(0, 1, .iconst 1, 0, 0, []), (1, 1, .istore_n 3, 0, 0, []), (2, 1, .iconst 0, 0, 0, []), (3, 2, .istore 4, 0, 0, []), (5, 0, .nop, 0, 0, [0, 1, 2, 3, 4]), (5, 2, .iload 4, 0, 0, []), (7, 2, .bipush 13, 0, 0, []), (9, 3, .if_icmp .gt 107, 116, 0, []), (12, 1, .aload_n 0, 0, 0, []), (13, 1, .iload_n 2, 0, 0, []), (14, 3, .invokevirtual 21, 18, 0, [1, 1, 0]), (17, 3, .ifCond .le 99, 116, 0, []), (20, 1, .aload_n 0, 0, 0, []), (21, 1, .iload_n 1, 0, 0, []), (22, 1, .iload_n 2, 0, 0, []), (23, 3, .invokevirtual 45, 30, 0, [2, 1, 0]), (26, 1, .istore_n 1, 0, 0, []), (27, 1, .iload_n 1, 0, 0, []), (28, 3, .ifCond .ne 5, 33, 0, []), (31, 1, .iconst 0, 0, 0, []), (32, 1, .ireturn, 0, 0, []), (33, 1, .aload_n 0, 0, 0, []), (34, 1, .iload_n 2, 0, 0, []), (35, 3, .invokevirtual 21, 18, 0, [1, 1, 0]), (38, 2, .istore 5, 0, 0, []), (40, 1, .aload_n 0, 0, 0, []), (41, 1, .iload_n 1, 0, 0, []), (42, 3, .invokevirtual 29, 20, 0, [1, 1, 0]), (45, 2, .istore 6, 0, 0, []), (47, 2, .iload 5, 0, 0, []), (49, 1, .iconst 2, 0, 0, []), (50, 1, .irem, 0, 0, []), (51, 1, .iconst 1, 0, 0, []), (52, 3, .if_icmp .ne 20, 72, 0, []), (55, 1, .aload_n 0, 0, 0, []), (56, 1, .iload_n 1, 0, 0, []), (57, 3, .invokevirtual 21, 18, 0, [1, 1, 0]), (60, 1, .iconst 2, 0, 0, []), (61, 1, .irem, 0, 0, []), (62, 1, .iconst 1, 0, 0, []), (63, 3, .if_icmp .ne 9, 72, 0, []), (66, 1, .aload_n 0, 0, 0, []), (67, 1, .iload_n 3, 0, 0, []), (68, 3, .invokevirtual 42, 23, 0, [1, 1, 0]), (71, 1, .istore_n 3, 0, 0, []), (72, 1, .iconst 0, 0, 0, []), (73, 2, .istore 7, 0, 0, []), (75, 0, .nop, 0, 0, [0, 1, 2, 3, 4, 5, 6, 7]), (75, 2, .iload 7, 0, 0, []), (77, 2, .iload 5, 0, 0, []), (79, 3, .if_icmp .ge 19, 98, 0, []), (82, 1, .iload_n 3, 0, 0, []), (83, 2, .iload 6, 0, 0, []), (85, 1, .imul, 0, 0, []), (86, 1, .aload_n 0, 0, 0, []), (87, 3, .getfield 7, 1, 0, []), (90, 1, .irem, 0, 0, []), (91, 1, .istore_n 3, 0, 0, []), (92, 3, .iinc 7 1, 0, 0, []), (95, 3, .goto (-20), 75, 0, []), (98, 1, .aload_n 0, 0, 0, []), (99, 1, .iload_n 1, 0, 0, []), (100, 3, .invokevirtual 48, 27, 0, [1, 1, 0]), (103, 2, .istore 7, 0, 0, []), (105, 1, .iload_n 2, 0, 0, []), (106, 1, .istore_n 1, 0, 0, []), (107, 2, .iload 7, 0, 0, []), (109, 1, .istore_n 2, 0, 0, []), (110, 3, .iinc 4 1, 0, 0, []), (113, 3, .goto (-108), 5, 0, []), (116, 1, .iload_n 3, 0, 0, []), (117, 1, .ireturn, 0, 0, [])]
def kd_X2_init : List RI := [(0, 1, .aload_n 0, 0, 0, []), (1, 3, .invokespecial 3, 0, 0, []), (4, 1, .aload_n 0, 0, 0, []), (5, 2, .bipush 25, 0, 0, []), (7, 2, .newarray .int, 0, 0, []), (9, 3, .putfield 11, 2, 5, []), (12, 1, .aload_n 0, 0, 0, []), (13, 2, .bipush 25, 0, 0, []), (15, 2, .newarray .int, 0, 0, []), (17, 3, .putfield 17, 2, 6, []), (20, 1, .aload_n 0, 0, 0, []), (21, 2, .bipush 25, 0, 0, []), (23, 2, .newarray .int, 0, 0, []), (25, 3, .putfield 20, 2, 7, []), (28, 1, .aload_n 0, 0, 0, []), (29, 1, .iconst 4, 0, 0, []), (30, 2, .newarray .int, 0, 0, []), (32, 3, .putfield 23, 2, 8, []), (35, 1, .aload_n 0, 0, 0, []), (36, 1, .aload_n 1, 0, 0, []), (37, 3, .putfield 26, 2, 0, []), (40, 1, .aload_n 0, 0, 0, []), (41, 1, .aload_n 1, 0, 0, []), (42, 3, .getfield 30, 0, 0, []), (45, 3, .putfield 36, 2, 1, []), (48, 1, .aload_n 0, 0, 0, []), (49, 1, .aload_n 1, 0, 0, []), (50, 3, .getfield 37, 0, 1, []), (53, 3, .putfield 41, 2, 2, []), (56, 1, .aload_n 0, 0, 0, []), (57, 1, .aload_n 1, 0, 0, []), (58, 3, .getfield 42, 0, 2, []), (61, 3, .putfield 46, 2, 3, []), (64, 1, .aload_n 0, 0, 0, []), (65, 1, .aload_n 1, 0, 0, []), (66, 3, .getfield 47, 0, 3, []), (69, 3, .putfield 51, 2, 4, []), (72, 1, .return_, 0, 0, [])]
def kd_X2_lead : List RI := [(0, 1, .aload_n 1, 0, 0, []), (1, 1, .aload_n 0, 0, 0, []), (2, 3, .getfield 17, 2, 6, []), (5, 3, .invokestatic 52, 122, 0, [2, 0, 0]), (8, 1, .aload_n 0, 0, 0, []), (9, 3, .getfield 36, 2, 1, []), (12, 1, .aload_n 0, 0, 0, []), (13, 3, .getfield 17, 2, 6, []), (16, 1, .aload_n 2, 0, 0, []), (17, 3, .invokevirtual 56, 124, 0, [2, 1, 0]), (20, 3, .ifCond .ne 5, 25, 0, []), (23, 1, .iconst 0, 0, 0, []), (24, 1, .ireturn, 0, 0, []), (25, 1, .aload_n 0, 0, 0, []), (26, 3, .getfield 36, 2, 1, []), (29, 1, .aload_n 0, 0, 0, []), (30, 3, .getfield 17, 2, 6, []), (33, 1, .aload_n 1, 0, 0, []), (34, 1, .aload_n 3, 0, 0, []), (35, 3, .invokevirtual 60, 125, 0, [3, 0, 0]), (38, 1, .aload_n 0, 0, 0, []), (39, 3, .getfield 17, 2, 6, []), (42, 3, .invokestatic 64, 120, 0, [1, 1, 0]), (45, 3, .ifCond .ge 7, 52, 0, []), (48, 1, .iconst 1, 0, 0, []), (49, 3, .goto 4, 53, 0, []), (52, 1, .iconst 0, 0, 0, []), (53, 1, .ireturn, 0, 0, [])]
def kd_X2_dualNumber : List RI := [(0, 1, .aload_n 0, 0, 0, []), (1, 3, .getfield 51, 2, 4, []), (4, 3, .invokevirtual 68, 114, 0, [0, 0, 0]), (7, 1, .aload_n 0, 0, 0, []), (8, 3, .getfield 11, 2, 5, []), (11, 3, .invokestatic 73, 121, 0, [1, 0, 0]), (14, 1, .aload_n 0, 0, 0, []), (15, 3, .getfield 11, 2, 5, []), (18, 1, .iconst 0, 0, 0, []), (19, 1, .iconst 1, 0, 0, []), (20, 1, .iastore, 0, 1, []), (21, 1, .iconst 0, 0, 0, []), (22, 1, .istore_n 3, 0, 0, []), (23, 0, .nop, 0, 0, [0, 1, 2, 3]), (23, 1, .iload_n 3, 0, 0, []), (24, 1, .iconst 4, 0, 0, []), (25, 3, .if_icmp .gt 83, 108, 0, []), (28, 1, .aload_n 0, 0, 0, []), (29, 3, .getfield 11, 2, 5, []), (32, 1, .aload_n 0, 0, 0, []), (33, 3, .getfield 17, 2, 6, []), (36, 3, .invokestatic 52, 122, 0, [2, 0, 0]), (39, 1, .aload_n 0, 0, 0, []), (40, 3, .getfield 36, 2, 1, []), (43, 1, .aload_n 0, 0, 0, []), (44, 3, .getfield 17, 2, 6, []), (47, 1, .aload_n 1, 0, 0, []), (48, 1, .aload_n 0, 0, 0, []), (49, 3, .getfield 20, 2, 7, []), (52, 3, .invokevirtual 60, 125, 0, [3, 0, 0]), (55, 1, .aload_n 0, 0, 0, []), (56, 3, .getfield 51, 2, 4, []), (59, 1, .aload_n 0, 0, 0, []), (60, 3, .getfield 17, 2, 6, []), (63, 1, .aload_n 0, 0, 0, []), (64, 3, .getfield 46, 2, 3, []), (67, 1, .iload_n 3, 0, 0, []), (68, 3, .invokevirtual 76, 16, 0, [1, 1, 0]), (71, 3, .invokevirtual 81, 117, 0, [2, 1, 0]), (74, 2, .istore 4, 0, 0, []), (76, 2, .iload 4, 0, 0, []), (78, 1, .iconst (-1), 0, 0, []), (79, 3, .if_icmp .eq 6, 85, 0, []), (82, 2, .iload 4, 0, 0, []), (84, 1, .ireturn, 0, 0, []), (85, 1, .aload_n 0, 0, 0, []), (86, 3, .getfield 36, 2, 1, []), (89, 1, .aload_n 0, 0, 0, []), (90, 3, .getfield 11, 2, 5, []), (93, 1, .aload_n 2, 0, 0, []), (94, 3, .invokevirtual 56, 124, 0, [2, 1, 0]), (97, 3, .ifCond .ne 5, 102, 0, []), (100, 1, .iconst (-1), 0, 0, []), (101, 1, .ireturn, 0, 0, []), (102, 3, .iinc 3 1, 0, 0, []), (105, 3, .goto (-82), 23, 0, []), (108, 1, .iconst (-1), 0, 0, []), (109, 1, .ireturn, 0, 0, [])]
def kd_X2_dualRow : List RI := [(0, 1, .aload_n 0, 0, 0, []), (1, 3, .getfield 26, 2, 0, []), (4, 1, .aload_n 2, 0, 0, []), (5, 1, .iload_n 3, 0, 0, []), (6, 1, .aload_n 0, 0, 0, []), (7, 3, .getfield 17, 2, 6, []), (10, 3, .invokevirtual 85, 2, 0, [3, 1, 0]), (13, 3, .ifCond .ne 5, 18, 0, []), (16, 1, .iconst 0, 0, 0, []), (17, 1, .ireturn, 0, 0, []), (18, 1, .aload_n 0, 0, 0, []), (19, 3, .getfield 36, 2, 1, []), (22, 1, .aload_n 0, 0, 0, []), (23, 3, .getfield 17, 2, 6, []), (26, 1, .aload_n 1, 0, 0, []), (27, 2, .aload 4, 0, 0, []), (29, 3, .invokevirtual 60, 125, 0, [3, 0, 0]), (32, 1, .iconst 1, 0, 0, []), (33, 1, .ireturn, 0, 0, [])]
def kd_X2_make : List RI := [(0, 1, .aload_n 3, 0, 0, []), (1, 3, .invokestatic 73, 121, 0, [1, 0, 0]), (4, 1, .aload_n 3, 0, 0, []), (5, 1, .iconst 0, 0, 0, []), (6, 1, .iconst 1, 0, 0, []), (7, 1, .iastore, 0, 0, []), (8, 1, .iload_n 2, 0, 0, []), (9, 2, .istore 4, 0, 0, []), (11, 1, .iconst 1, 0, 0, []), (12, 2, .istore 5, 0, 0, []), (14, 0, .nop, 0, 0, [0, 1, 3, 4, 5]), (14, 2, .iload 5, 0, 0, []), (16, 1, .aload_n 3, 0, 0, []), (17, 1, .arraylength, 0, 0, []), (18, 3, .if_icmp .ge 138, 156, 0, []), (21, 2, .iload 5, 0, 0, []), (23, 1, .aload_n 0, 0, 0, []), (24, 3, .getfield 41, 2, 2, []), (27, 3, .invokevirtual 89, 91, 0, [0, 1, 0]), (30, 3, .if_icmp .gt 126, 156, 0, []), (33, 1, .aload_n 0, 0, 0, []), (34, 3, .getfield 36, 2, 1, []), (37, 1, .aload_n 3, 0, 0, []), (38, 2, .iload 4, 0, 0, []), (40, 3, .invokevirtual 95, 126, 0, [2, 1, 0]), (43, 2, .istore 6, 0, 0, []), (45, 2, .iload 6, 0, 0, []), (47, 3, .ifCond .ne 4, 51, 0, []), (50, 1, .return_, 0, 0, []), (51, 1, .aload_n 0, 0, 0, []), (52, 3, .getfield 41, 2, 2, []), (55, 1, .aload_n 0, 0, 0, []), (56, 3, .getfield 41, 2, 2, []), (59, 2, .iload 6, 0, 0, []), (61, 1, .iconst 1, 0, 0, []), (62, 3, .invokevirtual 98, 97, 0, [2, 1, 0]), (65, 2, .iload 6, 0, 0, []), (67, 3, .invokevirtual 102, 96, 0, [2, 1, 0]), (70, 2, .istore 7, 0, 0, []), (72, 2, .iload 5, 0, 0, []), (74, 2, .istore 8, 0, 0, []), (76, 0, .nop, 0, 0, [0, 1, 3, 4, 5, 7, 8]), (76, 2, .iload 8, 0, 0, []), (78, 3, .ifCond .lt 60, 138, 0, []), (81, 2, .iload 8, 0, 0, []), (83, 3, .ifCond .ne 7, 90, 0, []), (86, 1, .iconst 0, 0, 0, []), (87, 3, .goto 17, 104, 0, []), (90, 1, .aload_n 0, 0, 0, []), (91, 3, .getfield 41, 2, 2, []), (94, 1, .aload_n 3, 0, 0, []), (95, 2, .iload 8, 0, 0, []), (97, 1, .iconst 1, 0, 0, []), (98, 1, .isub, 0, 0, []), (99, 1, .iaload, 0, 0, []), (100, 1, .iconst 1, 0, 0, []), (101, 3, .invokevirtual 98, 97, 0, [2, 1, 0]), (104, 2, .istore 9, 0, 0, []), (106, 1, .aload_n 3, 0, 0, []), (107, 2, .iload 8, 0, 0, []), (109, 1, .aload_n 0, 0, 0, []), (110, 3, .getfield 46, 2, 3, []), (113, 2, .iload 9, 0, 0, []), (115, 1, .aload_n 0, 0, 0, []), (116, 3, .getfield 41, 2, 2, []), (119, 2, .iload 7, 0, 0, []), (121, 1, .aload_n 3, 0, 0, []), (122, 2, .iload 8, 0, 0, []), (124, 1, .iaload, 0, 0, []), (125, 3, .invokevirtual 105, 95, 0, [2, 1, 0]), (128, 3, .invokevirtual 108, 26, 0, [2, 1, 0]), (131, 1, .iastore, 0, 0, []), (132, 3, .iinc 8 (-1), 0, 0, []), (135, 3, .goto (-59), 76, 0, []), (138, 1, .aload_n 0, 0, 0, []), (139, 3, .getfield 36, 2, 1, []), (142, 1, .aload_n 1, 0, 0, []), (143, 2, .iload 4, 0, 0, []), (145, 3, .invokevirtual 95, 126, 0, [2, 1, 0]), (148, 2, .istore 4, 0, 0, []), (150, 3, .iinc 5 1, 0, 0, []), (153, 3, .goto (-139), 14, 0, []), (156, 1, .return_, 0, 0, [])]
def kd_X2_countEnds : List RI := [(0, 1, .aload_n 0, 0, 0, []), (1, 3, .getfield 51, 2, 4, []), (4, 3, .invokevirtual 68, 114, 0, [0, 0, 0]), (7, 1, .iconst 1, 0, 0, []), (8, 1, .istore_n 3, 0, 0, []), (9, 1, .iconst 0, 0, 0, []), (10, 2, .istore 4, 0, 0, []), (12, 0, .nop, 0, 0, [0, 1, 2, 3, 4]), (12, 2, .iload 4, 0, 0, []), (14, 1, .iload_n 2, 0, 0, []), (15, 3, .if_icmp .gt 72, 87, 0, []), (18, 1, .iconst 0, 0, 0, []), (19, 2, .istore 5, 0, 0, []), (21, 0, .nop, 0, 0, [0, 1, 2, 3, 4, 5]), (21, 2, .iload 5, 0, 0, []), (23, 1, .aload_n 0, 0, 0, []), (24, 3, .getfield 41, 2, 2, []), (27, 3, .invokevirtual 89, 91, 0, [0, 1, 0]), (30, 3, .if_icmp .ge 51, 81, 0, []), (33, 1, .aload_n 0, 0, 0, []), (34, 1, .aload_n 1, 0, 0, []), (35, 1, .aload_n 0, 0, 0, []), (36, 3, .getfield 46, 2, 3, []), (39, 2, .iload 5, 0, 0, []), (41, 3, .invokevirtual 76, 16, 0, [1, 1, 0]), (44, 2, .iload 4, 0, 0, []), (46, 3, .invokevirtual 111, 43, 0, [3, 0, 0]), (49, 1, .aload_n 0, 0, 0, []), (50, 3, .getfield 51, 2, 4, []), (53, 1, .aload_n 0, 0, 0, []), (54, 3, .getfield 17, 2, 6, []), (57, 1, .iconst 0, 0, 0, []), (58, 3, .invokevirtual 81, 117, 0, [2, 1, 0]), (61, 1, .iconst (-1), 0, 0, []), (62, 3, .if_icmp .eq 13, 75, 0, []), (65, 1, .iload_n 3, 0, 0, []), (66, 1, .aload_n 0, 0, 0, []), (67, 3, .getfield 46, 2, 3, []), (70, 3, .invokevirtual 115, 15, 0, [0, 1, 0]), (73, 1, .imul, 0, 0, []), (74, 1, .istore_n 3, 0, 0, []), (75, 3, .iinc 5 1, 0, 0, []), (78, 3, .goto (-57), 21, 0, []), (81, 3, .iinc 4 1, 0, 0, []), (84, 3, .goto (-72), 12, 0, []), (87, 1, .iload_n 3, 0, 0, []), (88, 1, .ireturn, 0, 0, [])]
def kd_X2_putDifference : List RI := [(0, 1, .aload_n 0, 0, 0, []), (1, 3, .getfield 17, 2, 6, []), (4, 3, .invokestatic 73, 121, 0, [1, 0, 0]), (7, 1, .iconst 0, 0, 0, []), (8, 2, .istore 4, 0, 0, []), (10, 0, .nop, 0, 0, [0, 1, 2, 3, 4]), (10, 2, .iload 4, 0, 0, []), (12, 1, .aload_n 1, 0, 0, []), (13, 1, .arraylength, 0, 0, []), (14, 3, .if_icmp .ge 86, 100, 0, []), (17, 1, .iload_n 3, 0, 0, []), (18, 2, .iload 4, 0, 0, []), (20, 1, .iadd, 0, 0, []), (21, 1, .aload_n 0, 0, 0, []), (22, 3, .getfield 17, 2, 6, []), (25, 1, .arraylength, 0, 1, []), (26, 3, .if_icmp .ge 74, 100, 0, []), (29, 1, .aload_n 0, 0, 0, []), (30, 3, .getfield 41, 2, 2, []), (33, 1, .iload_n 2, 0, 0, []), (34, 1, .aload_n 0, 0, 0, []), (35, 3, .getfield 41, 2, 2, []), (38, 1, .aload_n 1, 0, 0, []), (39, 2, .iload 4, 0, 0, []), (41, 1, .iaload, 0, 0, []), (42, 1, .iload_n 3, 0, 0, []), (43, 3, .invokevirtual 98, 97, 0, [2, 1, 0]), (46, 3, .invokevirtual 105, 95, 0, [2, 1, 0]), (49, 2, .istore 5, 0, 0, []), (51, 1, .aload_n 0, 0, 0, []), (52, 3, .getfield 41, 2, 2, []), (55, 1, .aload_n 1, 0, 0, []), (56, 2, .iload 4, 0, 0, []), (58, 1, .iaload, 0, 0, []), (59, 1, .aload_n 0, 0, 0, []), (60, 3, .getfield 41, 2, 2, []), (63, 1, .iload_n 2, 0, 0, []), (64, 2, .iload 4, 0, 0, []), (66, 3, .invokevirtual 98, 97, 0, [2, 1, 0]), (69, 3, .invokevirtual 105, 95, 0, [2, 1, 0]), (72, 2, .istore 6, 0, 0, []), (74, 1, .aload_n 0, 0, 0, []), (75, 3, .getfield 17, 2, 6, []), (78, 1, .iload_n 3, 0, 0, []), (79, 2, .iload 4, 0, 0, []), (81, 1, .iadd, 0, 0, []), (82, 1, .aload_n 0, 0, 0, []), (83, 3, .getfield 46, 2, 3, []), (86, 2, .iload 5, 0, 0, []), (88, 2, .iload 6, 0, 0, []), (90, 3, .invokevirtual 108, 26, 0, [2, 1, 0]), (93, 1, .iastore, 0, 1, []), (94, 3, .iinc 4 1, 0, 0, []), (97, 3, .goto (-87), 10, 0, []), (100, 1, .return_, 0, 0, [])]
def kd_X2_leastAlike : List RI := [(0, 1, .iconst 1, 0, 0, []), (1, 1, .istore_n 3, 0, 0, []), (2, 0, .nop, 0, 0, [0, 1, 2, 3]), (2, 1, .iload_n 3, 0, 0, []), (3, 1, .aload_n 0, 0, 0, []), (4, 3, .getfield 41, 2, 2, []), (7, 3, .invokevirtual 118, 92, 0, [0, 1, 0]), (10, 3, .if_icmp .ge 77, 87, 0, []), (13, 1, .iconst 0, 0, 0, []), (14, 2, .istore 4, 0, 0, []), (16, 0, .nop, 0, 0, [0, 1, 2, 3, 4]), (16, 2, .iload 4, 0, 0, []), (18, 1, .aload_n 1, 0, 0, []), (19, 1, .arraylength, 0, 0, []), (20, 3, .if_icmp .ge 52, 72, 0, []), (23, 2, .iload 4, 0, 0, []), (25, 1, .aload_n 2, 0, 0, []), (26, 1, .arraylength, 0, 0, []), (27, 3, .if_icmp .ge 45, 72, 0, []), (30, 1, .aload_n 0, 0, 0, []), (31, 3, .getfield 41, 2, 2, []), (34, 1, .iload_n 3, 0, 0, []), (35, 1, .aload_n 1, 0, 0, []), (36, 2, .iload 4, 0, 0, []), (38, 1, .iaload, 0, 0, []), (39, 3, .invokevirtual 105, 95, 0, [2, 1, 0]), (42, 1, .aload_n 0, 0, 0, []), (43, 3, .getfield 41, 2, 2, []), (46, 1, .aload_n 2, 0, 0, []), (47, 2, .iload 4, 0, 0, []), (49, 1, .iaload, 0, 0, []), (50, 1, .aload_n 0, 0, 0, []), (51, 3, .getfield 41, 2, 2, []), (54, 1, .iload_n 3, 0, 0, []), (55, 2, .iload 4, 0, 0, []), (57, 3, .invokevirtual 98, 97, 0, [2, 1, 0]), (60, 3, .invokevirtual 105, 95, 0, [2, 1, 0]), (63, 3, .if_icmp .ne 9, 72, 0, []), (66, 3, .iinc 4 1, 0, 0, []), (69, 3, .goto (-53), 16, 0, []), (72, 2, .iload 4, 0, 0, []), (74, 1, .aload_n 1, 0, 0, []), (75, 1, .arraylength, 0, 0, []), (76, 3, .if_icmp .ne 5, 81, 0, []), (79, 1, .iload_n 3, 0, 0, []), (80, 1, .ireturn, 0, 0, []), (81, 3, .iinc 3 1, 0, 0, []), (84, 3, .goto (-82), 2, 0, []), (87, 1, .iconst (-1), 0, 0, []), (88, 1, .ireturn, 0, 0, [])]
def kd_X2_countClasses : List RI := [(0, 1, .aload_n 0, 0, 0, []), (1, 3, .getfield 41, 2, 2, []), (4, 3, .invokevirtual 118, 92, 0, [0, 1, 0]), (7, 1, .iconst 1, 0, 0, []), (8, 1, .isub, 0, 0, []), (9, 1, .istore_n 2, 0, 0, []), (10, 1, .lconst 0, 0, 0, []), (11, 1, .lstore_n 3, 0, 0, []), (12, 1, .iconst 0, 0, 0, []), (13, 2, .istore 5, 0, 0, []), (15, 0, .nop, 0, 0, [0, 1, 2, 3, 5]), (15, 2, .iload 5, 0, 0, []), (17, 1, .iload_n 2, 0, 0, []), (18, 3, .if_icmp .ge 92, 110, 0, []), (21, 1, .lconst 1, 0, 0, []), (22, 2, .lstore 6, 0, 0, []), (24, 1, .iconst 1, 0, 0, []), (25, 2, .istore 8, 0, 0, []), (27, 0, .nop, 0, 0, [0, 1, 2, 3, 5, 6, 8]), (27, 2, .iload 8, 0, 0, []), (29, 1, .iload_n 1, 0, 0, []), (30, 3, .if_icmp .gt 69, 99, 0, []), (33, 2, .iload 5, 0, 0, []), (35, 1, .aload_n 0, 0, 0, []), (36, 3, .getfield 46, 2, 3, []), (39, 2, .iload 8, 0, 0, []), (41, 3, .invokevirtual 76, 16, 0, [1, 1, 0]), (44, 1, .iconst 1, 0, 0, []), (45, 1, .isub, 0, 0, []), (46, 1, .imul, 0, 0, []), (47, 1, .iload_n 2, 0, 0, []), (48, 1, .irem, 0, 0, []), (49, 3, .ifCond .ne 7, 56, 0, []), (52, 1, .iconst 1, 0, 0, []), (53, 3, .goto 4, 57, 0, []), (56, 1, .iconst 0, 0, 0, []), (57, 2, .istore 9, 0, 0, []), (59, 2, .iload 9, 0, 0, []), (61, 3, .ifCond .eq 7, 68, 0, []), (64, 1, .iload_n 2, 0, 0, []), (65, 3, .goto 4, 69, 0, []), (68, 1, .iconst 0, 0, 0, []), (69, 2, .istore 10, 0, 0, []), (71, 2, .lload 6, 0, 0, []), (73, 2, .iload 8, 0, 0, []), (75, 1, .iload_n 1, 0, 0, []), (76, 3, .if_icmp .ne 9, 85, 0, []), (79, 2, .iload 10, 0, 0, []), (81, 1, .i2l, 0, 0, []), (82, 3, .goto 8, 90, 0, []), (85, 2, .iload 10, 0, 0, []), (87, 1, .iconst 1, 0, 0, []), (88, 1, .iadd, 0, 0, []), (89, 1, .i2l, 0, 0, []), (90, 1, .lmul, 0, 0, []), (91, 2, .lstore 6, 0, 0, []), (93, 3, .iinc 8 1, 0, 0, []), (96, 3, .goto (-69), 27, 0, []), (99, 1, .lload_n 3, 0, 0, []), (100, 2, .lload 6, 0, 0, []), (102, 1, .ladd, 0, 0, []), (103, 1, .lstore_n 3, 0, 0, []), (104, 3, .iinc 5 1, 0, 0, []), (107, 3, .goto (-92), 15, 0, []), (110, 1, .iload_n 2, 0, 0, []), (111, 1, .iconst 1, 0, 0, []), (112, 3, .if_icmp .ge 7, 119, 0, []), (115, 1, .iconst (-1), 0, 0, []), (116, 3, .goto 8, 124, 0, []), (119, 1, .lload_n 3, 0, 0, []), (120, 1, .iload_n 2, 0, 0, []), (121, 1, .i2l, 0, 0, []), (122, 1, .ldiv, 0, 0, []), (123, 1, .l2i, 0, 0, []), (124, 1, .ireturn, 0, 0, [])]
def kd_X2_countGreatest : List RI := [(0, 1, .aload_n 0, 0, 0, []), (1, 3, .getfield 26, 2, 0, []), (4, 1, .iload_n 1, 0, 0, []), (5, 3, .invokevirtual 121, 3, 0, [1, 1, 0]), (8, 1, .istore_n 2, 0, 0, []), (9, 1, .aload_n 0, 0, 0, []), (10, 3, .getfield 41, 2, 2, []), (13, 3, .invokevirtual 118, 92, 0, [0, 1, 0]), (16, 1, .iconst 1, 0, 0, []), (17, 1, .isub, 0, 0, []), (18, 1, .istore_n 3, 0, 0, []), (19, 1, .aload_n 0, 0, 0, []), (20, 3, .getfield 46, 2, 3, []), (23, 1, .iconst 2, 0, 0, []), (24, 3, .invokevirtual 76, 16, 0, [1, 1, 0]), (27, 1, .iconst 1, 0, 0, []), (28, 1, .isub, 0, 0, []), (29, 2, .istore 4, 0, 0, []), (31, 1, .iconst 0, 0, 0, []), (32, 2, .istore 5, 0, 0, []), (34, 1, .iconst 0, 0, 0, []), (35, 2, .istore 6, 0, 0, []), (37, 0, .nop, 0, 0, [0, 1, 2, 3, 4, 5, 6]), (37, 2, .iload 6, 0, 0, []), (39, 2, .iload 4, 0, 0, []), (41, 1, .iload_n 3, 0, 0, []), (42, 3, .invokestatic 124, 48, 0, [2, 1, 0]), (45, 3, .if_icmp .ge 38, 83, 0, []), (48, 2, .iload 5, 0, 0, []), (50, 1, .aload_n 0, 0, 0, []), (51, 1, .iload_n 1, 0, 0, []), (52, 1, .iconst 0, 0, 0, []), (53, 1, .aload_n 0, 0, 0, []), (54, 3, .getfield 41, 2, 2, []), (57, 2, .iload 6, 0, 0, []), (59, 3, .invokevirtual 127, 94, 0, [1, 1, 0]), (62, 1, .iload_n 2, 0, 0, []), (63, 3, .invokevirtual 130, 47, 0, [4, 1, 0]), (66, 3, .ifCond .eq 7, 73, 0, []), (69, 1, .iconst 1, 0, 0, []), (70, 3, .goto 4, 74, 0, []), (73, 1, .iconst 0, 0, 0, []), (74, 1, .iadd, 0, 0, []), (75, 2, .istore 5, 0, 0, []), (77, 3, .iinc 6 1, 0, 0, []), (80, 3, .goto (-43), 37, 0, []), (83, 1, .iconst 0, 0, 0, []), (84, 2, .istore 6, 0, 0, []), (86, 0, .nop, 0, 0, [0, 1, 2, 3, 5, 6]), (86, 2, .iload 6, 0, 0, []), (88, 1, .aload_n 0, 0, 0, []), (89, 3, .getfield 46, 2, 3, []), (92, 3, .invokevirtual 115, 15, 0, [0, 1, 0]), (95, 1, .iconst 1, 0, 0, []), (96, 1, .isub, 0, 0, []), (97, 3, .if_icmp .ge 65, 162, 0, []), (100, 1, .iconst 0, 0, 0, []), (101, 2, .istore 7, 0, 0, []), (103, 0, .nop, 0, 0, [0, 1, 2, 3, 5, 6, 7]), (103, 2, .iload 7, 0, 0, []), (105, 1, .iload_n 3, 0, 0, []), (106, 3, .if_icmp .ge 50, 156, 0, []), (109, 1, .aload_n 0, 0, 0, []), (110, 3, .getfield 41, 2, 2, []), (113, 2, .iload 6, 0, 0, []), (115, 3, .invokevirtual 127, 94, 0, [1, 1, 0]), (118, 2, .istore 8, 0, 0, []), (120, 2, .iload 5, 0, 0, []), (122, 1, .aload_n 0, 0, 0, []), (123, 1, .iload_n 1, 0, 0, []), (124, 2, .iload 8, 0, 0, []), (126, 1, .aload_n 0, 0, 0, []), (127, 3, .getfield 41, 2, 2, []), (130, 2, .iload 7, 0, 0, []), (132, 3, .invokevirtual 127, 94, 0, [1, 1, 0]), (135, 1, .iload_n 2, 0, 0, []), (136, 3, .invokevirtual 130, 47, 0, [4, 1, 0]), (139, 3, .ifCond .eq 7, 146, 0, []), (142, 1, .iconst 1, 0, 0, []), (143, 3, .goto 4, 147, 0, []), (146, 1, .iconst 0, 0, 0, []), (147, 1, .iadd, 0, 0, []), (148, 2, .istore 5, 0, 0, []), (150, 3, .iinc 7 1, 0, 0, []), (153, 3, .goto (-50), 103, 0, []), (156, 3, .iinc 6 1, 0, 0, []), (159, 3, .goto (-73), 86, 0, []), (162, 2, .iload 5, 0, 0, []), (164, 1, .ireturn, 0, 0, [])]
def kd_X2_isGreatest : List RI := [(0, 1, .aload_n 0, 0, 0, []), (1, 3, .getfield 23, 2, 8, []), (4, 1, .iconst 0, 0, 0, []), (5, 1, .iload_n 1, 0, 0, []), (6, 1, .iastore, 0, 1, []), (7, 1, .aload_n 0, 0, 0, []), (8, 3, .getfield 23, 2, 8, []), (11, 1, .iconst 1, 0, 0, []), (12, 1, .iload_n 2, 0, 0, []), (13, 1, .iastore, 0, 1, []), (14, 1, .aload_n 0, 0, 0, []), (15, 3, .getfield 23, 2, 8, []), (18, 1, .iconst 2, 0, 0, []), (19, 1, .iload_n 3, 0, 0, []), (20, 1, .iastore, 0, 1, []), (21, 1, .aload_n 0, 0, 0, []), (22, 3, .getfield 23, 2, 8, []), (25, 1, .iconst 3, 0, 0, []), (26, 1, .iconst 0, 0, 0, []), (27, 1, .iastore, 0, 1, []), (28, 1, .aload_n 0, 0, 0, []), (29, 3, .getfield 26, 2, 0, []), (32, 1, .aload_n 0, 0, 0, []), (33, 3, .getfield 23, 2, 8, []), (36, 2, .iload 4, 0, 0, []), (38, 3, .invokevirtual 134, 4, 0, [2, 1, 0]), (41, 1, .iconst 2, 0, 0, []), (42, 3, .if_icmp .ne 7, 49, 0, []), (45, 1, .iconst 1, 0, 0, []), (46, 3, .goto 4, 50, 0, []), (49, 1, .iconst 0, 0, 0, []), (50, 1, .ireturn, 0, 0, [])]
def kd_X2_commonDivisor : List RI := [(0, 1, .iconst 0, 0, 0, []), (1, 1, .istore_n 2, 0, 0, []), (2, 0, .nop, 0, 0, [0, 1, 2]), (2, 1, .iload_n 2, 0, 0, []), (3, 2, .bipush 64, 0, 0, []), (5, 3, .if_icmp .ge 21, 26, 0, []), (8, 1, .iload_n 1, 0, 0, []), (9, 3, .ifCond .le 17, 26, 0, []), (12, 1, .iload_n 0, 0, 0, []), (13, 1, .iload_n 1, 0, 0, []), (14, 1, .irem, 0, 0, []), (15, 1, .istore_n 3, 0, 0, []), (16, 1, .iload_n 1, 0, 0, []), (17, 1, .istore_n 0, 0, 0, []), (18, 1, .iload_n 3, 0, 0, []), (19, 1, .istore_n 1, 0, 0, []), (20, 3, .iinc 2 1, 0, 0, []), (23, 3, .goto (-21), 2, 0, []), (26, 1, .iload_n 0, 0, 0, []), (27, 1, .ireturn, 0, 0, [])]
def kd_X3_init : List RI := [(0, 1, .aload_n 0, 0, 0, []), (1, 3, .invokespecial 1, 0, 0, []), (4, 1, .aload_n 0, 0, 0, []), (5, 2, .bipush 13, 0, 0, []), (7, 2, .newarray .int, 0, 0, []), (9, 3, .putfield 9, 3, 1, []), (12, 1, .aload_n 0, 0, 0, []), (13, 2, .bipush 13, 0, 0, []), (15, 2, .newarray .int, 0, 0, []), (17, 3, .putfield 15, 3, 2, []), (20, 1, .aload_n 0, 0, 0, []), (21, 1, .iconst 0, 0, 0, []), (22, 3, .putfield 18, 3, 3, []), (25, 1, .aload_n 0, 0, 0, []), (26, 1, .iconst 0, 0, 0, []), (27, 3, .putfield 22, 3, 4, []), (30, 1, .aload_n 0, 0, 0, []), (31, 1, .aload_n 1, 0, 0, []), (32, 3, .putfield 25, 3, 0, []), (35, 1, .return_, 0, 0, [])]
def kd_X3_many : List RI := [(0, 1, .aload_n 0, 0, 0, []), (1, 3, .getfield 18, 3, 3, []), (4, 1, .ireturn, 0, 0, [])]
def kd_X3_get : List RI := [(0, 1, .iload_n 1, 0, 0, []), (1, 3, .ifCond .lt 20, 21, 0, []), (4, 1, .iload_n 1, 0, 0, []), (5, 1, .aload_n 0, 0, 0, []), (6, 3, .getfield 18, 3, 3, []), (9, 3, .if_icmp .ge 12, 21, 0, []), (12, 1, .iload_n 1, 0, 0, []), (13, 1, .aload_n 0, 0, 0, []), (14, 3, .getfield 9, 3, 1, []), (17, 1, .arraylength, 0, 1, []), (18, 3, .if_icmp .lt 7, 25, 0, []), (21, 1, .iconst 0, 0, 0, []), (22, 3, .goto 9, 31, 0, []), (25, 1, .aload_n 0, 0, 0, []), (26, 3, .getfield 9, 3, 1, []), (29, 1, .iload_n 1, 0, 0, []), (30, 1, .iaload, 0, 1, []), (31, 1, .ireturn, 0, 0, [])]
def kd_X3_find : List RI := [(0, 1, .aload_n 0, 0, 0, []), (1, 1, .iconst 0, 0, 0, []), (2, 3, .putfield 18, 3, 3, []), (5, 1, .aload_n 0, 0, 0, []), (6, 3, .getfield 25, 3, 0, []), (9, 1, .iload_n 1, 0, 0, []), (10, 3, .invokevirtual 29, 27, 0, [1, 1, 0]), (13, 1, .istore_n 2, 0, 0, []), (14, 1, .aload_n 0, 0, 0, []), (15, 3, .getfield 25, 3, 0, []), (18, 3, .invokevirtual 33, 15, 0, [0, 1, 0]), (21, 1, .istore_n 3, 0, 0, []), (22, 1, .iload_n 3, 0, 0, []), (23, 2, .istore 4, 0, 0, []), (25, 1, .iconst 1, 0, 0, []), (26, 2, .istore 5, 0, 0, []), (28, 0, .nop, 0, 0, [0, 2, 3, 4, 5]), (28, 1, .iconst 2, 0, 0, []), (29, 2, .iload 5, 0, 0, []), (31, 1, .imul, 0, 0, []), (32, 1, .aload_n 0, 0, 0, []), (33, 3, .getfield 25, 3, 0, []), (36, 1, .iload_n 2, 0, 0, []), (37, 3, .invokevirtual 37, 18, 0, [1, 1, 0]), (40, 3, .if_icmp .gt 88, 128, 0, []), (43, 1, .aload_n 0, 0, 0, []), (44, 3, .getfield 25, 3, 0, []), (47, 1, .aload_n 0, 0, 0, []), (48, 3, .getfield 25, 3, 0, []), (51, 2, .iload 4, 0, 0, []), (53, 1, .iload_n 2, 0, 0, []), (54, 3, .invokevirtual 40, 30, 0, [2, 1, 0]), (57, 1, .iload_n 2, 0, 0, []), (58, 3, .invokevirtual 44, 34, 0, [2, 1, 0]), (61, 2, .istore 4, 0, 0, []), (63, 1, .aload_n 0, 0, 0, []), (64, 3, .getfield 25, 3, 0, []), (67, 1, .iload_n 2, 0, 0, []), (68, 1, .aload_n 0, 0, 0, []), (69, 3, .getfield 25, 3, 0, []), (72, 2, .iload 4, 0, 0, []), (74, 1, .iload_n 3, 0, 0, []), (75, 3, .invokevirtual 47, 26, 0, [2, 1, 0]), (78, 3, .invokevirtual 50, 32, 0, [2, 1, 0]), (81, 2, .istore 6, 0, 0, []), (83, 1, .aload_n 0, 0, 0, []), (84, 2, .iload 6, 0, 0, []), (86, 2, .iload 5, 0, 0, []), (88, 3, .invokevirtual 53, 55, 0, [2, 0, 0]), (91, 1, .iconst 0, 0, 0, []), (92, 2, .istore 7, 0, 0, []), (94, 0, .nop, 0, 0, [0, 2, 3, 4, 5, 7]), (94, 2, .iload 7, 0, 0, []), (96, 1, .aload_n 0, 0, 0, []), (97, 3, .getfield 22, 3, 4, []), (100, 3, .if_icmp .ge 22, 122, 0, []), (103, 1, .aload_n 0, 0, 0, []), (104, 1, .iload_n 2, 0, 0, []), (105, 1, .aload_n 0, 0, 0, []), (106, 3, .getfield 15, 3, 2, []), (109, 2, .iload 7, 0, 0, []), (111, 1, .iaload, 0, 1, []), (112, 3, .invokevirtual 57, 53, 0, [2, 1, 0]), (115, 1, .istore_n 2, 0, 0, []), (116, 3, .iinc 7 1, 0, 0, []), (119, 3, .goto (-25), 94, 0, []), (122, 3, .iinc 5 1, 0, 0, []), (125, 3, .goto (-97), 28, 0, []), (128, 1, .aload_n 0, 0, 0, []), (129, 3, .getfield 25, 3, 0, []), (132, 1, .iload_n 2, 0, 0, []), (133, 3, .invokevirtual 37, 18, 0, [1, 1, 0]), (136, 3, .ifCond .le 8, 144, 0, []), (139, 1, .aload_n 0, 0, 0, []), (140, 1, .iload_n 2, 0, 0, []), (141, 3, .invokevirtual 60, 54, 0, [1, 0, 0]), (144, 1, .aload_n 0, 0, 0, []), (145, 3, .invokevirtual 64, 58, 0, [0, 0, 0]), (148, 1, .return_, 0, 0, [])]
def kd_X3_takeOut : List RI := [(0, 1, .iconst 0, 0, 0, []), (1, 1, .istore_n 3, 0, 0, []), (2, 0, .nop, 0, 0, [0, 1, 2, 3]), (2, 1, .iload_n 3, 0, 0, []), (3, 2, .bipush 13, 0, 0, []), (5, 3, .if_icmp .ge 36, 41, 0, []), (8, 1, .aload_n 0, 0, 0, []), (9, 3, .getfield 25, 3, 0, []), (12, 1, .iload_n 1, 0, 0, []), (13, 1, .iload_n 2, 0, 0, []), (14, 3, .invokevirtual 40, 30, 0, [2, 1, 0]), (17, 3, .ifCond .ne 24, 41, 0, []), (20, 1, .aload_n 0, 0, 0, []), (21, 1, .iload_n 2, 0, 0, []), (22, 3, .invokevirtual 60, 54, 0, [1, 0, 0]), (25, 1, .aload_n 0, 0, 0, []), (26, 3, .getfield 25, 3, 0, []), (29, 1, .iload_n 1, 0, 0, []), (30, 1, .iload_n 2, 0, 0, []), (31, 3, .invokevirtual 67, 31, 0, [2, 1, 0]), (34, 1, .istore_n 1, 0, 0, []), (35, 3, .iinc 3 1, 0, 0, []), (38, 3, .goto (-36), 2, 0, []), (41, 1, .iload_n 1, 0, 0, []), (42, 1, .ireturn, 0, 0, [])]
def kd_X3_add : List RI := [(0, 1, .aload_n 0, 0, 0, []), (1, 3, .getfield 18, 3, 3, []), (4, 1, .aload_n 0, 0, 0, []), (5, 3, .getfield 9, 3, 1, []), (8, 1, .arraylength, 0, 1, []), (9, 3, .if_icmp .ge 23, 32, 0, []), (12, 1, .aload_n 0, 0, 0, []), (13, 3, .getfield 9, 3, 1, []), (16, 1, .aload_n 0, 0, 0, []), (17, 3, .getfield 18, 3, 3, []), (20, 1, .iload_n 1, 0, 0, []), (21, 1, .iastore, 0, 1, []), (22, 1, .aload_n 0, 0, 0, []), (23, 1, .dup, 0, 0, []), (24, 3, .getfield 18, 3, 3, []), (27, 1, .iconst 1, 0, 0, []), (28, 1, .iadd, 0, 0, []), (29, 3, .putfield 18, 3, 3, []), (32, 1, .return_, 0, 0, [])]
def kd_X3_splitUp : List RI := [(0, 1, .aload_n 0, 0, 0, []), (1, 3, .getfield 25, 3, 0, []), (4, 1, .iload_n 1, 0, 0, []), (5, 3, .invokevirtual 37, 18, 0, [1, 1, 0]), (8, 1, .istore_n 3, 0, 0, []), (9, 1, .aload_n 0, 0, 0, []), (10, 1, .iconst 0, 0, 0, []), (11, 3, .putfield 22, 3, 4, []), (14, 1, .iload_n 3, 0, 0, []), (15, 1, .iload_n 2, 0, 0, []), (16, 3, .if_icmp .ge 4, 20, 0, []), (19, 1, .return_, 0, 0, []), (20, 1, .aload_n 0, 0, 0, []), (21, 3, .getfield 15, 3, 2, []), (24, 1, .iconst 0, 0, 0, []), (25, 1, .iload_n 1, 0, 0, []), (26, 1, .iastore, 0, 1, []), (27, 1, .aload_n 0, 0, 0, []), (28, 1, .iconst 1, 0, 0, []), (29, 3, .putfield 22, 3, 4, []), (32, 1, .iconst 1, 0, 0, []), (33, 2, .istore 4, 0, 0, []), (35, 1, .iconst 1, 0, 0, []), (36, 2, .istore 5, 0, 0, []), (38, 0, .nop, 0, 0, [0, 1, 2, 3, 4, 5]), (38, 2, .iload 5, 0, 0, []), (40, 1, .iload_n 3, 0, 0, []), (41, 3, .if_icmp .ge 85, 126, 0, []), (44, 1, .aload_n 0, 0, 0, []), (45, 3, .getfield 22, 3, 4, []), (48, 1, .iload_n 2, 0, 0, []), (49, 1, .imul, 0, 0, []), (50, 1, .iload_n 3, 0, 0, []), (51, 3, .if_icmp .ge 75, 126, 0, []), (54, 1, .aload_n 0, 0, 0, []), (55, 3, .getfield 25, 3, 0, []), (58, 2, .iload 4, 0, 0, []), (60, 1, .aload_n 0, 0, 0, []), (61, 3, .getfield 25, 3, 0, []), (64, 3, .invokevirtual 33, 15, 0, [0, 1, 0]), (67, 1, .imul, 0, 0, []), (68, 1, .iload_n 1, 0, 0, []), (69, 3, .invokevirtual 40, 30, 0, [2, 1, 0]), (72, 2, .istore 4, 0, 0, []), (74, 1, .aload_n 0, 0, 0, []), (75, 2, .iload 4, 0, 0, []), (77, 1, .iload_n 2, 0, 0, []), (78, 1, .iload_n 1, 0, 0, []), (79, 3, .invokevirtual 70, 56, 0, [3, 1, 0]), (82, 2, .istore 6, 0, 0, []), (84, 1, .iconst 0, 0, 0, []), (85, 2, .istore 7, 0, 0, []), (87, 0, .nop, 0, 0, [0, 1, 2, 3, 4, 5, 6, 7]), (87, 2, .iload 7, 0, 0, []), (89, 1, .aload_n 0, 0, 0, []), (90, 3, .getfield 25, 3, 0, []), (93, 3, .invokevirtual 33, 15, 0, [0, 1, 0]), (96, 3, .if_icmp .ge 24, 120, 0, []), (99, 1, .aload_n 0, 0, 0, []), (100, 1, .aload_n 0, 0, 0, []), (101, 3, .getfield 25, 3, 0, []), (104, 2, .iload 6, 0, 0, []), (106, 2, .iload 7, 0, 0, []), (108, 3, .invokevirtual 47, 26, 0, [2, 1, 0]), (111, 3, .invokevirtual 74, 57, 0, [1, 0, 0]), (114, 3, .iinc 7 1, 0, 0, []), (117, 3, .goto (-30), 87, 0, []), (120, 3, .iinc 5 1, 0, 0, []), (123, 3, .goto (-85), 38, 0, []), (126, 1, .return_, 0, 0, [])]
def kd_X3_trace : List RI := [(0, 1, .iload_n 1, 0, 0, []), (1, 2, .istore 4, 0, 0, []), (3, 1, .iload_n 1, 0, 0, []), (4, 2, .istore 5, 0, 0, []), (6, 1, .iconst 1, 0, 0, []), (7, 2, .istore 6, 0, 0, []), (9, 0, .nop, 0, 0, [0, 2, 3, 4, 5, 6]), (9, 2, .iload 6, 0, 0, []), (11, 1, .iload_n 2, 0, 0, []), (12, 3, .if_icmp .ge 34, 46, 0, []), (15, 1, .aload_n 0, 0, 0, []), (16, 3, .getfield 25, 3, 0, []), (19, 2, .iload 5, 0, 0, []), (21, 1, .iload_n 3, 0, 0, []), (22, 3, .invokevirtual 44, 34, 0, [2, 1, 0]), (25, 2, .istore 5, 0, 0, []), (27, 1, .aload_n 0, 0, 0, []), (28, 3, .getfield 25, 3, 0, []), (31, 2, .iload 4, 0, 0, []), (33, 2, .iload 5, 0, 0, []), (35, 3, .invokevirtual 77, 25, 0, [2, 1, 0]), (38, 2, .istore 4, 0, 0, []), (40, 3, .iinc 6 1, 0, 0, []), (43, 3, .goto (-34), 9, 0, []), (46, 2, .iload 4, 0, 0, []), (48, 1, .ireturn, 0, 0, [])]
def kd_X3_splitBy : List RI := [(0, 1, .aload_n 0, 0, 0, []), (1, 3, .getfield 22, 3, 4, []), (4, 1, .istore_n 2, 0, 0, []), (5, 1, .iconst 0, 0, 0, []), (6, 1, .istore_n 3, 0, 0, []), (7, 0, .nop, 0, 0, [0, 1, 2, 3]), (7, 1, .iload_n 3, 0, 0, []), (8, 1, .iload_n 2, 0, 0, []), (9, 3, .if_icmp .ge 113, 122, 0, []), (12, 1, .aload_n 0, 0, 0, []), (13, 3, .getfield 22, 3, 4, []), (16, 1, .aload_n 0, 0, 0, []), (17, 3, .getfield 15, 3, 2, []), (20, 1, .arraylength, 0, 1, []), (21, 3, .if_icmp .ge 101, 122, 0, []), (24, 1, .aload_n 0, 0, 0, []), (25, 3, .getfield 25, 3, 0, []), (28, 1, .aload_n 0, 0, 0, []), (29, 3, .getfield 15, 3, 2, []), (32, 1, .iload_n 3, 0, 0, []), (33, 1, .iaload, 0, 1, []), (34, 1, .iload_n 1, 0, 0, []), (35, 3, .invokevirtual 50, 32, 0, [2, 1, 0]), (38, 2, .istore 4, 0, 0, []), (40, 1, .aload_n 0, 0, 0, []), (41, 3, .getfield 25, 3, 0, []), (44, 2, .iload 4, 0, 0, []), (46, 3, .invokevirtual 37, 18, 0, [1, 1, 0]), (49, 2, .istore 5, 0, 0, []), (51, 2, .iload 5, 0, 0, []), (53, 3, .ifCond .le 63, 116, 0, []), (56, 2, .iload 5, 0, 0, []), (58, 1, .aload_n 0, 0, 0, []), (59, 3, .getfield 25, 3, 0, []), (62, 1, .aload_n 0, 0, 0, []), (63, 3, .getfield 15, 3, 2, []), (66, 1, .iload_n 3, 0, 0, []), (67, 1, .iaload, 0, 1, []), (68, 3, .invokevirtual 37, 18, 0, [1, 1, 0]), (71, 3, .if_icmp .ge 45, 116, 0, []), (74, 1, .aload_n 0, 0, 0, []), (75, 3, .getfield 15, 3, 2, []), (78, 1, .aload_n 0, 0, 0, []), (79, 3, .getfield 22, 3, 4, []), (82, 1, .aload_n 0, 0, 0, []), (83, 3, .getfield 25, 3, 0, []), (86, 1, .aload_n 0, 0, 0, []), (87, 3, .getfield 15, 3, 2, []), (90, 1, .iload_n 3, 0, 0, []), (91, 1, .iaload, 0, 1, []), (92, 2, .iload 4, 0, 0, []), (94, 3, .invokevirtual 67, 31, 0, [2, 1, 0]), (97, 1, .iastore, 0, 1, []), (98, 1, .aload_n 0, 0, 0, []), (99, 1, .dup, 0, 0, []), (100, 3, .getfield 22, 3, 4, []), (103, 1, .iconst 1, 0, 0, []), (104, 1, .iadd, 0, 0, []), (105, 3, .putfield 22, 3, 4, []), (108, 1, .aload_n 0, 0, 0, []), (109, 3, .getfield 15, 3, 2, []), (112, 1, .iload_n 3, 0, 0, []), (113, 2, .iload 4, 0, 0, []), (115, 1, .iastore, 0, 1, []), (116, 3, .iinc 3 1, 0, 0, []), (119, 3, .goto (-112), 7, 0, []), (122, 1, .return_, 0, 0, [])]
def kd_X3_sort : List RI := [(0, 1, .iconst 1, 0, 0, []), (1, 1, .istore_n 1, 0, 0, []), (2, 0, .nop, 0, 0, [0, 1]), (2, 1, .iload_n 1, 0, 0, []), (3, 1, .aload_n 0, 0, 0, []), (4, 3, .getfield 18, 3, 3, []), (7, 3, .if_icmp .ge 77, 84, 0, []), (10, 1, .iload_n 1, 0, 0, []), (11, 1, .aload_n 0, 0, 0, []), (12, 3, .getfield 9, 3, 1, []), (15, 1, .arraylength, 0, 1, []), (16, 3, .if_icmp .ge 68, 84, 0, []), (19, 1, .iload_n 1, 0, 0, []), (20, 1, .istore_n 2, 0, 0, []), (21, 0, .nop, 0, 0, [0, 1, 2]), (21, 1, .iload_n 2, 0, 0, []), (22, 3, .ifCond .le 56, 78, 0, []), (25, 1, .aload_n 0, 0, 0, []), (26, 3, .getfield 9, 3, 1, []), (29, 1, .iload_n 2, 0, 0, []), (30, 1, .iconst 1, 0, 0, []), (31, 1, .isub, 0, 0, []), (32, 1, .iaload, 0, 1, []), (33, 1, .aload_n 0, 0, 0, []), (34, 3, .getfield 9, 3, 1, []), (37, 1, .iload_n 2, 0, 0, []), (38, 1, .iaload, 0, 1, []), (39, 3, .if_icmp .le 39, 78, 0, []), (42, 1, .aload_n 0, 0, 0, []), (43, 3, .getfield 9, 3, 1, []), (46, 1, .iload_n 2, 0, 0, []), (47, 1, .iaload, 0, 1, []), (48, 1, .istore_n 3, 0, 0, []), (49, 1, .aload_n 0, 0, 0, []), (50, 3, .getfield 9, 3, 1, []), (53, 1, .iload_n 2, 0, 0, []), (54, 1, .aload_n 0, 0, 0, []), (55, 3, .getfield 9, 3, 1, []), (58, 1, .iload_n 2, 0, 0, []), (59, 1, .iconst 1, 0, 0, []), (60, 1, .isub, 0, 0, []), (61, 1, .iaload, 0, 1, []), (62, 1, .iastore, 0, 1, []), (63, 1, .aload_n 0, 0, 0, []), (64, 3, .getfield 9, 3, 1, []), (67, 1, .iload_n 2, 0, 0, []), (68, 1, .iconst 1, 0, 0, []), (69, 1, .isub, 0, 0, []), (70, 1, .iload_n 3, 0, 0, []), (71, 1, .iastore, 0, 1, []), (72, 3, .iinc 2 (-1), 0, 0, []), (75, 3, .goto (-54), 21, 0, []), (78, 3, .iinc 1 1, 0, 0, []), (81, 3, .goto (-79), 2, 0, []), (84, 1, .return_, 0, 0, [])]
def kd_X4_init : List RI := [(0, 1, .aload_n 0, 0, 0, []), (1, 3, .invokespecial 3, 0, 0, []), (4, 1, .aload_n 0, 0, 0, []), (5, 2, .bipush 20, 0, 0, []), (7, 2, .bipush 25, 0, 0, []), (9, 4, .multianewarray 13 2, 0, 0, []), (13, 3, .putfield 15, 4, 2, []), (16, 1, .aload_n 0, 0, 0, []), (17, 1, .iconst 0, 0, 0, []), (18, 2, .newarray .int, 0, 0, []), (20, 3, .putfield 18, 4, 3, []), (23, 1, .aload_n 0, 0, 0, []), (24, 1, .iconst 0, 0, 0, []), (25, 3, .putfield 22, 4, 4, []), (28, 1, .aload_n 0, 0, 0, []), (29, 1, .iconst 0, 0, 0, []), (30, 3, .putfield 26, 4, 5, []), (33, 1, .aload_n 0, 0, 0, []), (34, 1, .iconst 0, 0, 0, []), (35, 3, .putfield 30, 4, 6, []), (38, 1, .aload_n 0, 0, 0, []), (39, 1, .iconst 0, 0, 0, []), (40, 3, .putfield 33, 4, 7, []), (43, 1, .aload_n 0, 0, 0, []), (44, 1, .iconst 0, 0, 0, []), (45, 3, .putfield 36, 4, 8, []), (48, 1, .aload_n 0, 0, 0, []), (49, 1, .iconst 0, 0, 0, []), (50, 3, .putfield 39, 4, 9, []), (53, 1, .aload_n 0, 0, 0, []), (54, 1, .iconst 0, 0, 0, []), (55, 3, .putfield 42, 4, 10, []), (58, 1, .aload_n 0, 0, 0, []), (59, 1, .iconst 0, 0, 0, []), (60, 3, .putfield 45, 4, 11, []), (63, 1, .aload_n 0, 0, 0, []), (64, 1, .iconst 0, 0, 0, []), (65, 3, .putfield 48, 4, 12, []), (68, 1, .aload_n 0, 0, 0, []), (69, 1, .iconst (-1), 0, 0, []), (70, 3, .putfield 51, 4, 13, []), (73, 1, .aload_n 0, 0, 0, []), (74, 1, .aload_n 1, 0, 0, []), (75, 3, .putfield 54, 4, 0, []), (78, 1, .aload_n 0, 0, 0, []), (79, 1, .aload_n 1, 0, 0, []), (80, 3, .getfield 58, 8, 0, []), (83, 3, .putfield 62, 4, 1, []), (86, 1, .return_, 0, 0, [])]
def kd_X4_check : List RI := [(0, 1, .aload_n 0, 0, 0, []), (1, 1, .aload_n 1, 0, 0, []), (2, 1, .iload_n 2, 0, 0, []), (3, 1, .iconst 0, 0, 0, []), (4, 3, .invokevirtual 63, 62, 0, [3, 0, 0]), (7, 1, .iconst 0, 0, 0, []), (8, 1, .istore_n 3, 0, 0, []), (9, 0, .nop, 0, 0, [0, 3]), (9, 1, .iload_n 3, 0, 0, []), (10, 2, .bipush 20, 0, 0, []), (12, 3, .if_icmp .gt 19, 31, 0, []), (15, 1, .aload_n 0, 0, 0, []), (16, 3, .invokevirtual 67, 65, 0, [0, 1, 0]), (19, 3, .ifCond .gt 6, 25, 0, []), (22, 3, .goto 9, 31, 0, []), (25, 3, .iinc 3 1, 0, 0, []), (28, 3, .goto (-19), 9, 0, []), (31, 1, .aload_n 0, 0, 0, []), (32, 3, .getfield 48, 4, 12, []), (35, 1, .ireturn, 0, 0, [])]
def kd_X4_faultPlace : List RI := [(0, 1, .aload_n 0, 0, 0, []), (1, 3, .getfield 51, 4, 13, []), (4, 1, .ireturn, 0, 0, [])]
def kd_X4_start : List RI := [(0, 1, .aload_n 0, 0, 0, []), (1, 1, .aload_n 1, 0, 0, []), (2, 3, .putfield 18, 4, 3, []), (5, 1, .aload_n 0, 0, 0, []), (6, 1, .iload_n 2, 0, 0, []), (7, 1, .aload_n 1, 0, 0, []), (8, 1, .arraylength, 0, 0, []), (9, 3, .invokestatic 71, 0, 0, [1]), (12, 3, .putfield 22, 4, 4, []), (15, 1, .aload_n 0, 0, 0, []), (16, 1, .iload_n 3, 0, 0, []), (17, 3, .putfield 26, 4, 5, []), (20, 1, .aload_n 0, 0, 0, []), (21, 1, .iconst 0, 0, 0, []), (22, 3, .putfield 30, 4, 6, []), (25, 1, .aload_n 0, 0, 0, []), (26, 1, .iconst 0, 0, 0, []), (27, 3, .putfield 33, 4, 7, []), (30, 1, .aload_n 0, 0, 0, []), (31, 1, .iconst 0, 0, 0, []), (32, 3, .putfield 45, 4, 11, []), (35, 1, .aload_n 0, 0, 0, []), (36, 1, .iconst 0, 0, 0, []), (37, 3, .putfield 48, 4, 12, []), (40, 1, .aload_n 0, 0, 0, []), (41, 1, .iconst (-1), 0, 0, []), (42, 3, .putfield 51, 4, 13, []), (45, 1, .aload_n 0, 0, 0, []), (46, 3, .invokevirtual 77, 82, 0, [0, 0, 0]), (49, 1, .return_, 0, 0, [])]
def kd_X4_cannot : List RI := [(0, 1, .aload_n 0, 0, 0, []), (1, 3, .getfield 30, 4, 6, []), (4, 1, .ireturn, 0, 0, [])]
def kd_X4_result : List RI := [(0, 1, .aload_n 0, 0, 0, []), (1, 3, .getfield 15, 4, 2, []), (4, 1, .iconst 0, 0, 0, []), (5, 1, .aaload, 0, 1, []), (6, 1, .areturn, 0, 0, [])]
def kd_X4_readClause : List RI := [(0, 1, .aload_n 0, 0, 0, []), (1, 3, .getfield 36, 4, 8, []), (4, 3, .ifCond .ne 5, 9, 0, []), (7, 1, .iconst 0, 0, 0, []), (8, 1, .ireturn, 0, 0, []), (9, 1, .aload_n 0, 0, 0, []), (10, 3, .invokevirtual 80, 66, 0, [0, 1, 0]), (13, 1, .istore_n 1, 0, 0, []), (14, 1, .iload_n 1, 0, 0, []), (15, 1, .iconst (-1), 0, 0, []), (16, 3, .if_icmp .ne 11, 27, 0, []), (19, 1, .aload_n 0, 0, 0, []), (20, 1, .iconst 1, 0, 0, []), (21, 3, .invokevirtual 83, 73, 0, [1, 1, 0]), (24, 1, .pop, 0, 0, []), (25, 1, .iconst (-1), 0, 0, []), (26, 1, .ireturn, 0, 0, []), (27, 1, .aload_n 0, 0, 0, []), (28, 3, .getfield 45, 4, 11, []), (31, 2, .bipush 20, 0, 0, []), (33, 3, .if_icmp .lt 11, 44, 0, []), (36, 1, .aload_n 0, 0, 0, []), (37, 1, .iconst 4, 0, 0, []), (38, 3, .invokevirtual 83, 73, 0, [1, 1, 0]), (41, 1, .pop, 0, 0, []), (42, 1, .iconst (-1), 0, 0, []), (43, 1, .ireturn, 0, 0, []), (44, 1, .aload_n 0, 0, 0, []), (45, 1, .dup, 0, 0, []), (46, 3, .getfield 45, 4, 11, []), (49, 1, .iconst 1, 0, 0, []), (50, 1, .iadd, 0, 0, []), (51, 3, .putfield 45, 4, 11, []), (54, 1, .aload_n 0, 0, 0, []), (55, 1, .iconst 0, 0, 0, []), (56, 3, .putfield 30, 4, 6, []), (59, 1, .aload_n 0, 0, 0, []), (60, 3, .invokevirtual 77, 82, 0, [0, 0, 0]), (63, 1, .aload_n 0, 0, 0, []), (64, 1, .iconst 0, 0, 0, []), (65, 1, .iconst 0, 0, 0, []), (66, 3, .invokevirtual 87, 67, 0, [2, 1, 0]), (69, 3, .ifCond .eq 16, 85, 0, []), (72, 1, .aload_n 0, 0, 0, []), (73, 2, .bipush 59, 0, 0, []), (75, 3, .invokevirtual 91, 72, 0, [1, 1, 0]), (78, 3, .ifCond .eq 7, 85, 0, []), (81, 1, .iload_n 1, 0, 0, []), (82, 3, .goto 4, 86, 0, []), (85, 1, .iconst (-1), 0, 0, []), (86, 1, .ireturn, 0, 0, [])]
def kd_X4_clauseKind : List RI := [(0, 1, .aload_n 0, 0, 0, []), (1, 2, .ldc 94, 1, 0, []), (3, 3, .invokevirtual 96, 80, 0, [1, 1, 0]), (6, 3, .ifCond .eq 5, 11, 0, []), (9, 1, .iconst 1, 0, 0, []), (10, 1, .ireturn, 0, 0, []), (11, 1, .aload_n 0, 0, 0, []), (12, 2, .ldc 100, 2, 0, []), (14, 3, .invokevirtual 96, 80, 0, [1, 1, 0]), (17, 3, .ifCond .eq 7, 24, 0, []), (20, 1, .iconst 2, 0, 0, []), (21, 3, .goto 4, 25, 0, []), (24, 1, .iconst (-1), 0, 0, []), (25, 1, .ireturn, 0, 0, [])]
def kd_X4_readSum : List RI := [(0, 1, .aload_n 0, 0, 0, []), (1, 1, .iload_n 1, 0, 0, []), (2, 1, .iload_n 2, 0, 0, []), (3, 3, .invokevirtual 102, 68, 0, [2, 1, 0]), (6, 3, .ifCond .ne 5, 11, 0, []), (9, 1, .iconst 0, 0, 0, []), (10, 1, .ireturn, 0, 0, []), (11, 1, .iconst 0, 0, 0, []), (12, 1, .istore_n 3, 0, 0, []), (13, 0, .nop, 0, 0, [0, 1, 2, 3]), (13, 1, .iload_n 3, 0, 0, []), (14, 3, .sipush 300, 0, 0, []), (17, 3, .if_icmp .ge 67, 84, 0, []), (20, 1, .aload_n 0, 0, 0, []), (21, 3, .getfield 36, 4, 8, []), (24, 2, .bipush 43, 0, 0, []), (26, 3, .if_icmp .eq 12, 38, 0, []), (29, 1, .aload_n 0, 0, 0, []), (30, 3, .getfield 36, 4, 8, []), (33, 2, .bipush 45, 0, 0, []), (35, 3, .if_icmp .ne 49, 84, 0, []), (38, 1, .aload_n 0, 0, 0, []), (39, 3, .getfield 36, 4, 8, []), (42, 2, .bipush 45, 0, 0, []), (44, 3, .if_icmp .ne 7, 51, 0, []), (47, 1, .iconst 1, 0, 0, []), (48, 3, .goto 4, 52, 0, []), (51, 1, .iconst 0, 0, 0, []), (52, 2, .istore 4, 0, 0, []), (54, 1, .aload_n 0, 0, 0, []), (55, 3, .invokevirtual 77, 82, 0, [0, 0, 0]), (58, 1, .aload_n 0, 0, 0, []), (59, 1, .iload_n 1, 0, 0, []), (60, 1, .iload_n 2, 0, 0, []), (61, 1, .iconst 1, 0, 0, []), (62, 1, .iadd, 0, 0, []), (63, 3, .invokevirtual 102, 68, 0, [2, 1, 0]), (66, 3, .ifCond .ne 5, 71, 0, []), (69, 1, .iconst 0, 0, 0, []), (70, 1, .ireturn, 0, 0, []), (71, 1, .aload_n 0, 0, 0, []), (72, 1, .iload_n 2, 0, 0, []), (73, 2, .iload 4, 0, 0, []), (75, 3, .invokevirtual 105, 76, 0, [2, 0, 0]), (78, 3, .iinc 3 1, 0, 0, []), (81, 3, .goto (-68), 13, 0, []), (84, 1, .iconst 1, 0, 0, []), (85, 1, .ireturn, 0, 0, [])]
def kd_X4_readProduct : List RI := [(0, 1, .aload_n 0, 0, 0, []), (1, 1, .iload_n 1, 0, 0, []), (2, 1, .iload_n 2, 0, 0, []), (3, 3, .invokevirtual 109, 69, 0, [2, 1, 0]), (6, 3, .ifCond .ne 5, 11, 0, []), (9, 1, .iconst 0, 0, 0, []), (10, 1, .ireturn, 0, 0, []), (11, 1, .iconst 0, 0, 0, []), (12, 1, .istore_n 3, 0, 0, []), (13, 0, .nop, 0, 0, [0, 1, 2, 3]), (13, 1, .iload_n 3, 0, 0, []), (14, 3, .sipush 300, 0, 0, []), (17, 3, .if_icmp .ge 40, 57, 0, []), (20, 1, .aload_n 0, 0, 0, []), (21, 3, .getfield 36, 4, 8, []), (24, 2, .bipush 42, 0, 0, []), (26, 3, .if_icmp .ne 31, 57, 0, []), (29, 1, .aload_n 0, 0, 0, []), (30, 3, .invokevirtual 77, 82, 0, [0, 0, 0]), (33, 1, .aload_n 0, 0, 0, []), (34, 1, .iload_n 1, 0, 0, []), (35, 1, .iload_n 2, 0, 0, []), (36, 1, .iconst 1, 0, 0, []), (37, 1, .iadd, 0, 0, []), (38, 3, .invokevirtual 109, 69, 0, [2, 1, 0]), (41, 3, .ifCond .ne 5, 46, 0, []), (44, 1, .iconst 0, 0, 0, []), (45, 1, .ireturn, 0, 0, []), (46, 1, .aload_n 0, 0, 0, []), (47, 1, .iload_n 2, 0, 0, []), (48, 3, .invokevirtual 112, 77, 0, [1, 0, 0]), (51, 3, .iinc 3 1, 0, 0, []), (54, 3, .goto (-41), 13, 0, []), (57, 1, .iconst 1, 0, 0, []), (58, 1, .ireturn, 0, 0, [])]
def kd_X4_readPower : List RI := [(0, 1, .aload_n 0, 0, 0, []), (1, 1, .iload_n 1, 0, 0, []), (2, 1, .iload_n 2, 0, 0, []), (3, 3, .invokevirtual 116, 70, 0, [2, 1, 0]), (6, 3, .ifCond .ne 5, 11, 0, []), (9, 1, .iconst 0, 0, 0, []), (10, 1, .ireturn, 0, 0, []), (11, 1, .aload_n 0, 0, 0, []), (12, 3, .getfield 36, 4, 8, []), (15, 2, .bipush 94, 0, 0, []), (17, 3, .if_icmp .eq 5, 22, 0, []), (20, 1, .iconst 1, 0, 0, []), (21, 1, .ireturn, 0, 0, []), (22, 1, .aload_n 0, 0, 0, []), (23, 3, .invokevirtual 77, 82, 0, [0, 0, 0]), (26, 1, .aload_n 0, 0, 0, []), (27, 3, .getfield 36, 4, 8, []), (30, 1, .iconst 2, 0, 0, []), (31, 3, .if_icmp .eq 9, 40, 0, []), (34, 1, .aload_n 0, 0, 0, []), (35, 1, .iconst 1, 0, 0, []), (36, 3, .invokevirtual 83, 73, 0, [1, 1, 0]), (39, 1, .ireturn, 0, 0, []), (40, 1, .aload_n 0, 0, 0, []), (41, 3, .getfield 42, 4, 10, []), (44, 2, .bipush 24, 0, 0, []), (46, 3, .if_icmp .le 9, 55, 0, []), (49, 1, .aload_n 0, 0, 0, []), (50, 1, .iconst 2, 0, 0, []), (51, 3, .invokevirtual 83, 73, 0, [1, 1, 0]), (54, 1, .ireturn, 0, 0, []), (55, 1, .aload_n 0, 0, 0, []), (56, 1, .iload_n 2, 0, 0, []), (57, 1, .aload_n 0, 0, 0, []), (58, 3, .getfield 42, 4, 10, []), (61, 3, .invokevirtual 119, 79, 0, [2, 0, 0]), (64, 1, .aload_n 0, 0, 0, []), (65, 3, .invokevirtual 77, 82, 0, [0, 0, 0]), (68, 1, .iconst 1, 0, 0, []), (69, 1, .ireturn, 0, 0, [])]
def kd_X4_readOne : List RI := [(0, 1, .aload_n 0, 0, 0, []), (1, 3, .getfield 36, 4, 8, []), (4, 1, .iconst 2, 0, 0, []), (5, 3, .if_icmp .ne 9, 14, 0, []), (8, 1, .aload_n 0, 0, 0, []), (9, 1, .iload_n 2, 0, 0, []), (10, 3, .invokevirtual 123, 71, 0, [1, 1, 0]), (13, 1, .ireturn, 0, 0, []), (14, 1, .aload_n 0, 0, 0, []), (15, 2, .ldc 126, 3, 0, []), (17, 3, .invokevirtual 96, 80, 0, [1, 1, 0]), (20, 3, .ifCond .eq 16, 36, 0, []), (23, 1, .aload_n 0, 0, 0, []), (24, 1, .iload_n 2, 0, 0, []), (25, 1, .iconst 1, 0, 0, []), (26, 1, .iconst 1, 0, 0, []), (27, 3, .invokevirtual 128, 75, 0, [3, 0, 0]), (30, 1, .aload_n 0, 0, 0, []), (31, 3, .invokevirtual 77, 82, 0, [0, 0, 0]), (34, 1, .iconst 1, 0, 0, []), (35, 1, .ireturn, 0, 0, []), (36, 1, .aload_n 0, 0, 0, []), (37, 3, .getfield 36, 4, 8, []), (40, 2, .bipush 40, 0, 0, []), (42, 3, .if_icmp .eq 18, 60, 0, []), (45, 1, .aload_n 0, 0, 0, []), (46, 3, .getfield 36, 4, 8, []), (49, 2, .bipush 45, 0, 0, []), (51, 3, .if_icmp .eq 9, 60, 0, []), (54, 1, .aload_n 0, 0, 0, []), (55, 1, .iconst 1, 0, 0, []), (56, 3, .invokevirtual 83, 73, 0, [1, 1, 0]), (59, 1, .ireturn, 0, 0, []), (60, 1, .iload_n 1, 0, 0, []), (61, 2, .bipush 8, 0, 0, []), (63, 3, .if_icmp .lt 9, 72, 0, []), (66, 1, .aload_n 0, 0, 0, []), (67, 1, .iconst 3, 0, 0, []), (68, 3, .invokevirtual 83, 73, 0, [1, 1, 0]), (71, 1, .ireturn, 0, 0, []), (72, 1, .aload_n 0, 0, 0, []), (73, 3, .getfield 36, 4, 8, []), (76, 2, .bipush 45, 0, 0, []), (78, 3, .if_icmp .ne 7, 85, 0, []), (81, 1, .iconst 1, 0, 0, []), (82, 3, .goto 4, 86, 0, []), (85, 1, .iconst 0, 0, 0, []), (86, 1, .istore_n 3, 0, 0, []), (87, 1, .aload_n 0, 0, 0, []), (88, 3, .invokevirtual 77, 82, 0, [0, 0, 0]), (91, 1, .iload_n 3, 0, 0, []), (92, 3, .ifCond .ne 29, 121, 0, []), (95, 1, .aload_n 0, 0, 0, []), (96, 1, .iload_n 1, 0, 0, []), (97, 1, .iconst 1, 0, 0, []), (98, 1, .iadd, 0, 0, []), (99, 1, .iload_n 2, 0, 0, []), (100, 3, .invokevirtual 87, 67, 0, [2, 1, 4]), (103, 3, .ifCond .eq 16, 119, 0, []), (106, 1, .aload_n 0, 0, 0, []), (107, 2, .bipush 41, 0, 0, []), (109, 3, .invokevirtual 91, 72, 0, [1, 1, 0]), (112, 3, .ifCond .eq 7, 119, 0, []), (115, 1, .iconst 1, 0, 0, []), (116, 3, .goto 4, 120, 0, []), (119, 1, .iconst 0, 0, 0, []), (120, 1, .ireturn, 0, 0, []), (121, 1, .aload_n 0, 0, 0, []), (122, 1, .iload_n 1, 0, 0, []), (123, 1, .iconst 1, 0, 0, []), (124, 1, .iadd, 0, 0, []), (125, 1, .iload_n 2, 0, 0, []), (126, 3, .invokevirtual 116, 70, 0, [2, 1, 4]), (129, 3, .ifCond .ne 5, 134, 0, []), (132, 1, .iconst 0, 0, 0, []), (133, 1, .ireturn, 0, 0, []), (134, 1, .aload_n 0, 0, 0, []), (135, 1, .iload_n 2, 0, 0, []), (136, 3, .invokevirtual 132, 78, 0, [1, 0, 0]), (139, 1, .iconst 1, 0, 0, []), (140, 1, .ireturn, 0, 0, [])]
def kd_X4_readNumber : List RI := [(0, 1, .aload_n 0, 0, 0, []), (1, 3, .getfield 42, 4, 10, []), (4, 3, .sipush 9999, 0, 0, []), (7, 3, .if_icmp .le 9, 16, 0, []), (10, 1, .aload_n 0, 0, 0, []), (11, 1, .iconst 2, 0, 0, []), (12, 3, .invokevirtual 83, 73, 0, [1, 1, 0]), (15, 1, .ireturn, 0, 0, []), (16, 1, .aload_n 0, 0, 0, []), (17, 3, .getfield 26, 4, 5, []), (20, 3, .ifCond .eq 22, 42, 0, []), (23, 1, .aload_n 0, 0, 0, []), (24, 3, .getfield 62, 4, 1, []), (27, 1, .aload_n 0, 0, 0, []), (28, 3, .getfield 42, 4, 10, []), (31, 3, .invokevirtual 135, 93, 0, [1, 1, 0]), (34, 3, .ifCond .ne 8, 42, 0, []), (37, 1, .aload_n 0, 0, 0, []), (38, 1, .iconst 1, 0, 0, []), (39, 3, .putfield 30, 4, 6, []), (42, 1, .aload_n 0, 0, 0, []), (43, 1, .iload_n 1, 0, 0, []), (44, 1, .iconst 0, 0, 0, []), (45, 1, .aload_n 0, 0, 0, []), (46, 3, .getfield 42, 4, 10, []), (49, 3, .invokevirtual 128, 75, 0, [3, 0, 0]), (52, 1, .aload_n 0, 0, 0, []), (53, 3, .invokevirtual 77, 82, 0, [0, 0, 0]), (56, 1, .iconst 1, 0, 0, []), (57, 1, .ireturn, 0, 0, [])]
def kd_X4_expect : List RI := [(0, 1, .aload_n 0, 0, 0, []), (1, 3, .getfield 36, 4, 8, []), (4, 1, .iload_n 1, 0, 0, []), (5, 3, .if_icmp .eq 9, 14, 0, []), (8, 1, .aload_n 0, 0, 0, []), (9, 1, .iconst 1, 0, 0, []), (10, 3, .invokevirtual 83, 73, 0, [1, 1, 0]), (13, 1, .ireturn, 0, 0, []), (14, 1, .aload_n 0, 0, 0, []), (15, 3, .invokevirtual 77, 82, 0, [0, 0, 0]), (18, 1, .iconst 1, 0, 0, []), (19, 1, .ireturn, 0, 0, [])]
def kd_X4_fail : List RI := [(0, 1, .aload_n 0, 0, 0, []), (1, 1, .iload_n 1, 0, 0, []), (2, 3, .putfield 48, 4, 12, []), (5, 1, .aload_n 0, 0, 0, []), (6, 1, .aload_n 0, 0, 0, []), (7, 3, .getfield 39, 4, 9, []), (10, 3, .putfield 51, 4, 13, []), (13, 1, .iconst 0, 0, 0, []), (14, 1, .ireturn, 0, 0, [])]
def kd_X4_isWorking : List RI := [(0, 1, .aload_n 0, 0, 0, []), (1, 3, .getfield 26, 4, 5, []), (4, 3, .ifCond .eq 29, 33, 0, []), (7, 1, .aload_n 0, 0, 0, []), (8, 3, .getfield 30, 4, 6, []), (11, 3, .ifCond .ne 22, 33, 0, []), (14, 1, .iload_n 1, 0, 0, []), (15, 3, .ifCond .lt 18, 33, 0, []), (18, 1, .iload_n 1, 0, 0, []), (19, 1, .iconst 1, 0, 0, []), (20, 1, .iadd, 0, 0, []), (21, 1, .aload_n 0, 0, 0, []), (22, 3, .getfield 15, 4, 2, []), (25, 1, .arraylength, 0, 1, []), (26, 3, .if_icmp .ge 7, 33, 0, []), (29, 1, .iconst 1, 0, 0, []), (30, 3, .goto 4, 34, 0, []), (33, 1, .iconst 0, 0, 0, []), (34, 1, .ireturn, 0, 0, [])]
def kd_X4_put : List RI := [(0, 1, .aload_n 0, 0, 0, []), (1, 1, .iload_n 1, 0, 0, []), (2, 3, .invokevirtual 140, 74, 0, [1, 1, 0]), (5, 3, .ifCond .eq 21, 26, 0, []), (8, 1, .aload_n 0, 0, 0, []), (9, 3, .getfield 15, 4, 2, []), (12, 1, .iload_n 1, 0, 0, []), (13, 1, .aaload, 0, 1, []), (14, 3, .invokestatic 143, 121, 0, [1, 0, 0]), (17, 1, .aload_n 0, 0, 0, []), (18, 3, .getfield 15, 4, 2, []), (21, 1, .iload_n 1, 0, 0, []), (22, 1, .aaload, 0, 1, []), (23, 1, .iload_n 2, 0, 0, []), (24, 1, .iload_n 3, 0, 0, []), (25, 1, .iastore, 0, 0, []), (26, 1, .return_, 0, 0, [])]
def kd_X4_addUp : List RI := [(0, 1, .aload_n 0, 0, 0, []), (1, 1, .iload_n 1, 0, 0, []), (2, 3, .invokevirtual 140, 74, 0, [1, 1, 0]), (5, 3, .ifCond .eq 43, 48, 0, []), (8, 1, .aload_n 0, 0, 0, []), (9, 3, .getfield 54, 4, 0, []), (12, 1, .aload_n 0, 0, 0, []), (13, 3, .getfield 15, 4, 2, []), (16, 1, .iload_n 1, 0, 0, []), (17, 1, .aaload, 0, 1, []), (18, 1, .aload_n 0, 0, 0, []), (19, 3, .getfield 15, 4, 2, []), (22, 1, .iload_n 1, 0, 0, []), (23, 1, .iconst 1, 0, 0, []), (24, 1, .iadd, 0, 0, []), (25, 1, .aaload, 0, 1, []), (26, 1, .iload_n 2, 0, 0, []), (27, 3, .ifCond .eq 17, 44, 0, []), (30, 1, .aload_n 0, 0, 0, []), (31, 3, .getfield 54, 4, 0, []), (34, 3, .getfield 147, 8, 1, []), (37, 1, .iconst 1, 0, 0, []), (38, 3, .invokevirtual 151, 23, 0, [1, 1, 0]), (41, 3, .goto 4, 45, 0, []), (44, 1, .iconst 1, 0, 0, []), (45, 3, .invokevirtual 157, 123, 0, [3, 0, 0]), (48, 1, .return_, 0, 0, [])]
def kd_X4_multiplyUp : List RI := [(0, 1, .aload_n 0, 0, 0, []), (1, 1, .iload_n 1, 0, 0, []), (2, 3, .invokevirtual 140, 74, 0, [1, 1, 0]), (5, 3, .ifCond .eq 32, 37, 0, []), (8, 1, .aload_n 0, 0, 0, []), (9, 3, .getfield 54, 4, 0, []), (12, 1, .aload_n 0, 0, 0, []), (13, 3, .getfield 15, 4, 2, []), (16, 1, .iload_n 1, 0, 0, []), (17, 1, .aaload, 0, 1, []), (18, 1, .aload_n 0, 0, 0, []), (19, 3, .getfield 15, 4, 2, []), (22, 1, .iload_n 1, 0, 0, []), (23, 1, .iconst 1, 0, 0, []), (24, 1, .iadd, 0, 0, []), (25, 1, .aaload, 0, 1, []), (26, 3, .invokevirtual 161, 124, 0, [2, 1, 0]), (29, 3, .ifCond .ne 8, 37, 0, []), (32, 1, .aload_n 0, 0, 0, []), (33, 1, .iconst 1, 0, 0, []), (34, 3, .putfield 30, 4, 6, []), (37, 1, .return_, 0, 0, [])]
def kd_X4_turnOver : List RI := [(0, 1, .aload_n 0, 0, 0, []), (1, 1, .iload_n 1, 0, 0, []), (2, 3, .invokevirtual 140, 74, 0, [1, 1, 0]), (5, 3, .ifCond .eq 61, 66, 0, []), (8, 1, .aload_n 0, 0, 0, []), (9, 3, .getfield 15, 4, 2, []), (12, 1, .iload_n 1, 0, 0, []), (13, 1, .aaload, 0, 1, []), (14, 1, .aload_n 0, 0, 0, []), (15, 3, .getfield 15, 4, 2, []), (18, 1, .iload_n 1, 0, 0, []), (19, 1, .iconst 1, 0, 0, []), (20, 1, .iadd, 0, 0, []), (21, 1, .aaload, 0, 1, []), (22, 3, .invokestatic 165, 122, 0, [2, 0, 0]), (25, 1, .aload_n 0, 0, 0, []), (26, 3, .getfield 15, 4, 2, []), (29, 1, .iload_n 1, 0, 0, []), (30, 1, .aaload, 0, 1, []), (31, 3, .invokestatic 143, 121, 0, [1, 0, 0]), (34, 1, .aload_n 0, 0, 0, []), (35, 3, .getfield 54, 4, 0, []), (38, 1, .aload_n 0, 0, 0, []), (39, 3, .getfield 15, 4, 2, []), (42, 1, .iload_n 1, 0, 0, []), (43, 1, .aaload, 0, 1, []), (44, 1, .aload_n 0, 0, 0, []), (45, 3, .getfield 15, 4, 2, []), (48, 1, .iload_n 1, 0, 0, []), (49, 1, .iconst 1, 0, 0, []), (50, 1, .iadd, 0, 0, []), (51, 1, .aaload, 0, 1, []), (52, 1, .aload_n 0, 0, 0, []), (53, 3, .getfield 54, 4, 0, []), (56, 3, .getfield 147, 8, 1, []), (59, 1, .iconst 1, 0, 0, []), (60, 3, .invokevirtual 151, 23, 0, [1, 1, 0]), (63, 3, .invokevirtual 157, 123, 0, [3, 0, 0]), (66, 1, .return_, 0, 0, [])]
def kd_X4_raise : List RI := [(0, 1, .aload_n 0, 0, 0, []), (1, 1, .iload_n 1, 0, 0, []), (2, 3, .invokevirtual 140, 74, 0, [1, 1, 0]), (5, 3, .ifCond .eq 86, 91, 0, []), (8, 1, .aload_n 0, 0, 0, []), (9, 3, .getfield 15, 4, 2, []), (12, 1, .iload_n 1, 0, 0, []), (13, 1, .aaload, 0, 1, []), (14, 1, .aload_n 0, 0, 0, []), (15, 3, .getfield 15, 4, 2, []), (18, 1, .iload_n 1, 0, 0, []), (19, 1, .iconst 1, 0, 0, []), (20, 1, .iadd, 0, 0, []), (21, 1, .aaload, 0, 1, []), (22, 3, .invokestatic 165, 122, 0, [2, 0, 0]), (25, 1, .aload_n 0, 0, 0, []), (26, 1, .iload_n 1, 0, 0, []), (27, 1, .iconst 0, 0, 0, []), (28, 1, .iconst 1, 0, 0, []), (29, 3, .invokevirtual 128, 75, 0, [3, 0, 0]), (32, 1, .iconst 0, 0, 0, []), (33, 1, .istore_n 3, 0, 0, []), (34, 0, .nop, 0, 0, [0, 1, 2, 3]), (34, 1, .iload_n 3, 0, 0, []), (35, 1, .iload_n 2, 0, 0, []), (36, 3, .if_icmp .ge 55, 91, 0, []), (39, 1, .iload_n 3, 0, 0, []), (40, 2, .bipush 24, 0, 0, []), (42, 3, .if_icmp .ge 49, 91, 0, []), (45, 1, .aload_n 0, 0, 0, []), (46, 1, .aload_n 0, 0, 0, []), (47, 3, .getfield 30, 4, 6, []), (50, 3, .ifCond .ne 27, 77, 0, []), (53, 1, .aload_n 0, 0, 0, []), (54, 3, .getfield 54, 4, 0, []), (57, 1, .aload_n 0, 0, 0, []), (58, 3, .getfield 15, 4, 2, []), (61, 1, .iload_n 1, 0, 0, []), (62, 1, .aaload, 0, 1, []), (63, 1, .aload_n 0, 0, 0, []), (64, 3, .getfield 15, 4, 2, []), (67, 1, .iload_n 1, 0, 0, []), (68, 1, .iconst 1, 0, 0, []), (69, 1, .iadd, 0, 0, []), (70, 1, .aaload, 0, 1, []), (71, 3, .invokevirtual 161, 124, 0, [2, 1, 0]), (74, 3, .ifCond .ne 7, 81, 0, []), (77, 1, .iconst 1, 0, 0, []), (78, 3, .goto 4, 82, 0, []), (81, 1, .iconst 0, 0, 0, []), (82, 3, .putfield 30, 4, 6, []), (85, 3, .iinc 3 1, 0, 0, []), (88, 3, .goto (-54), 34, 0, []), (91, 1, .return_, 0, 0, [])]
def kd_X4_isWord : List RI := [(0, 1, .aload_n 0, 0, 0, []), (1, 3, .getfield 36, 4, 8, []), (4, 1, .iconst 3, 0, 0, []), (5, 3, .if_icmp .ne 19, 24, 0, []), (8, 1, .aload_n 0, 0, 0, []), (9, 3, .getfield 33, 4, 7, []), (12, 1, .aload_n 0, 0, 0, []), (13, 3, .getfield 39, 4, 9, []), (16, 1, .isub, 0, 0, []), (17, 1, .aload_n 1, 0, 0, []), (18, 3, .invokevirtual 169, 0, 0, [3]), (21, 3, .if_icmp .eq 5, 26, 0, []), (24, 1, .iconst 0, 0, 0, []), (25, 1, .ireturn, 0, 0, []), (26, 1, .iconst 0, 0, 0, []), (27, 1, .istore_n 2, 0, 0, []), (28, 0, .nop, 0, 0, [0, 1, 2]), (28, 1, .iload_n 2, 0, 0, []), (29, 1, .aload_n 1, 0, 0, []), (30, 3, .invokevirtual 169, 0, 0, [3]), (33, 3, .if_icmp .ge 29, 62, 0, []), (36, 1, .aload_n 0, 0, 0, []), (37, 1, .aload_n 0, 0, 0, []), (38, 3, .getfield 39, 4, 9, []), (41, 1, .iload_n 2, 0, 0, []), (42, 1, .iadd, 0, 0, []), (43, 3, .invokevirtual 173, 81, 0, [1, 1, 0]), (46, 1, .aload_n 1, 0, 0, []), (47, 1, .iload_n 2, 0, 0, []), (48, 3, .invokevirtual 176, 0, 0, [4]), (51, 3, .if_icmp .eq 5, 56, 0, []), (54, 1, .iconst 0, 0, 0, []), (55, 1, .ireturn, 0, 0, []), (56, 3, .iinc 2 1, 0, 0, []), (59, 3, .goto (-31), 28, 0, []), (62, 1, .iconst 1, 0, 0, []), (63, 1, .ireturn, 0, 0, [])]
def kd_X4_byteAt : List RI := [(0, 1, .iload_n 1, 0, 0, []), (1, 3, .ifCond .lt 20, 21, 0, []), (4, 1, .iload_n 1, 0, 0, []), (5, 1, .aload_n 0, 0, 0, []), (6, 3, .getfield 22, 4, 4, []), (9, 3, .if_icmp .ge 12, 21, 0, []), (12, 1, .iload_n 1, 0, 0, []), (13, 1, .aload_n 0, 0, 0, []), (14, 3, .getfield 18, 4, 3, []), (17, 1, .arraylength, 0, 0, []), (18, 3, .if_icmp .lt 7, 25, 0, []), (21, 1, .iconst (-1), 0, 0, []), (22, 3, .goto 9, 31, 0, []), (25, 1, .aload_n 0, 0, 0, []), (26, 3, .getfield 18, 4, 3, []), (29, 1, .iload_n 1, 0, 0, []), (30, 1, .iaload, 0, 0, []), (31, 1, .ireturn, 0, 0, [])]
def kd_X4_step : List RI := [(0, 0, .nop, 0, 0, [0]), (0, 1, .aload_n 0, 0, 0, []), (1, 3, .getfield 33, 4, 7, []), (4, 1, .aload_n 0, 0, 0, []), (5, 3, .getfield 22, 4, 4, []), (8, 3, .if_icmp .ge 42, 50, 0, []), (11, 1, .aload_n 0, 0, 0, []), (12, 1, .aload_n 0, 0, 0, []), (13, 3, .getfield 33, 4, 7, []), (16, 3, .invokevirtual 173, 81, 0, [1, 1, 0]), (19, 2, .bipush 32, 0, 0, []), (21, 3, .if_icmp .eq 16, 37, 0, []), (24, 1, .aload_n 0, 0, 0, []), (25, 1, .aload_n 0, 0, 0, []), (26, 3, .getfield 33, 4, 7, []), (29, 3, .invokevirtual 173, 81, 0, [1, 1, 0]), (32, 2, .bipush 10, 0, 0, []), (34, 3, .if_icmp .ne 16, 50, 0, []), (37, 1, .aload_n 0, 0, 0, []), (38, 1, .dup, 0, 0, []), (39, 3, .getfield 33, 4, 7, []), (42, 1, .iconst 1, 0, 0, []), (43, 1, .iadd, 0, 0, []), (44, 3, .putfield 33, 4, 7, []), (47, 3, .goto (-47), 0, 0, []), (50, 1, .aload_n 0, 0, 0, []), (51, 1, .aload_n 0, 0, 0, []), (52, 3, .getfield 33, 4, 7, []), (55, 3, .putfield 39, 4, 9, []), (58, 1, .aload_n 0, 0, 0, []), (59, 1, .aload_n 0, 0, 0, []), (60, 3, .getfield 33, 4, 7, []), (63, 3, .invokevirtual 173, 81, 0, [1, 1, 0]), (66, 1, .istore_n 1, 0, 0, []), (67, 1, .iload_n 1, 0, 0, []), (68, 3, .ifCond .ge 11, 79, 0, []), (71, 1, .aload_n 0, 0, 0, []), (72, 1, .iconst 0, 0, 0, []), (73, 3, .putfield 36, 4, 8, []), (76, 3, .goto 98, 174, 0, []), (79, 1, .iload_n 1, 0, 0, []), (80, 3, .invokestatic 180, 84, 0, [1, 1, 0]), (83, 3, .ifCond .eq 15, 98, 0, []), (86, 1, .aload_n 0, 0, 0, []), (87, 1, .iconst 2, 0, 0, []), (88, 3, .putfield 36, 4, 8, []), (91, 1, .aload_n 0, 0, 0, []), (92, 3, .invokevirtual 183, 83, 0, [0, 0, 0]), (95, 3, .goto 79, 174, 0, []), (98, 1, .iload_n 1, 0, 0, []), (99, 3, .invokestatic 186, 85, 0, [1, 1, 0]), (102, 3, .ifCond .eq 46, 148, 0, []), (105, 1, .aload_n 0, 0, 0, []), (106, 1, .iconst 3, 0, 0, []), (107, 3, .putfield 36, 4, 8, []), (110, 0, .nop, 0, 0, [0]), (110, 1, .aload_n 0, 0, 0, []), (111, 3, .getfield 33, 4, 7, []), (114, 1, .aload_n 0, 0, 0, []), (115, 3, .getfield 22, 4, 4, []), (118, 3, .if_icmp .ge 56, 174, 0, []), (121, 1, .aload_n 0, 0, 0, []), (122, 1, .aload_n 0, 0, 0, []), (123, 3, .getfield 33, 4, 7, []), (126, 3, .invokevirtual 173, 81, 0, [1, 1, 0]), (129, 3, .invokestatic 186, 85, 0, [1, 1, 0]), (132, 3, .ifCond .eq 42, 174, 0, []), (135, 1, .aload_n 0, 0, 0, []), (136, 1, .dup, 0, 0, []), (137, 3, .getfield 33, 4, 7, []), (140, 1, .iconst 1, 0, 0, []), (141, 1, .iadd, 0, 0, []), (142, 3, .putfield 33, 4, 7, []), (145, 3, .goto (-35), 110, 0, []), (148, 1, .aload_n 0, 0, 0, []), (149, 1, .iload_n 1, 0, 0, []), (150, 3, .invokestatic 189, 86, 0, [1, 1, 0]), (153, 3, .ifCond .eq 7, 160, 0, []), (156, 1, .iload_n 1, 0, 0, []), (157, 3, .goto 4, 161, 0, []), (160, 1, .iconst 1, 0, 0, []), (161, 3, .putfield 36, 4, 8, []), (164, 1, .aload_n 0, 0, 0, []), (165, 1, .dup, 0, 0, []), (166, 3, .getfield 33, 4, 7, []), (169, 1, .iconst 1, 0, 0, []), (170, 1, .iadd, 0, 0, []), (171, 3, .putfield 33, 4, 7, []), (174, 1, .return_, 0, 0, [])]
def kd_X4_stepNumber : List RI := [(0, 1, .aload_n 0, 0, 0, []), (1, 1, .iconst 0, 0, 0, []), (2, 3, .putfield 42, 4, 10, []), (5, 0, .nop, 0, 0, [0]), (5, 1, .aload_n 0, 0, 0, []), (6, 3, .getfield 33, 4, 7, []), (9, 1, .aload_n 0, 0, 0, []), (10, 3, .getfield 22, 4, 4, []), (13, 3, .if_icmp .ge 59, 72, 0, []), (16, 1, .aload_n 0, 0, 0, []), (17, 1, .aload_n 0, 0, 0, []), (18, 3, .getfield 33, 4, 7, []), (21, 3, .invokevirtual 173, 81, 0, [1, 1, 0]), (24, 3, .invokestatic 180, 84, 0, [1, 1, 0]), (27, 3, .ifCond .eq 45, 72, 0, []), (30, 1, .aload_n 0, 0, 0, []), (31, 3, .sipush 10000, 0, 0, []), (34, 1, .aload_n 0, 0, 0, []), (35, 3, .getfield 42, 4, 10, []), (38, 2, .bipush 10, 0, 0, []), (40, 1, .imul, 0, 0, []), (41, 1, .aload_n 0, 0, 0, []), (42, 1, .aload_n 0, 0, 0, []), (43, 3, .getfield 33, 4, 7, []), (46, 3, .invokevirtual 173, 81, 0, [1, 1, 0]), (49, 1, .iadd, 0, 0, []), (50, 2, .bipush 48, 0, 0, []), (52, 1, .isub, 0, 0, []), (53, 3, .invokestatic 71, 0, 0, [1]), (56, 3, .putfield 42, 4, 10, []), (59, 1, .aload_n 0, 0, 0, []), (60, 1, .dup, 0, 0, []), (61, 3, .getfield 33, 4, 7, []), (64, 1, .iconst 1, 0, 0, []), (65, 1, .iadd, 0, 0, []), (66, 3, .putfield 33, 4, 7, []), (69, 3, .goto (-64), 5, 0, []), (72, 1, .return_, 0, 0, [])]
def kd_X4_isDigit : List RI := [(0, 1, .iload_n 0, 0, 0, []), (1, 2, .bipush 48, 0, 0, []), (3, 3, .if_icmp .lt 13, 16, 0, []), (6, 1, .iload_n 0, 0, 0, []), (7, 2, .bipush 57, 0, 0, []), (9, 3, .if_icmp .gt 7, 16, 0, []), (12, 1, .iconst 1, 0, 0, []), (13, 3, .goto 4, 17, 0, []), (16, 1, .iconst 0, 0, 0, []), (17, 1, .ireturn, 0, 0, [])]
def kd_X4_isLetter : List RI := [(0, 1, .iload_n 0, 0, 0, []), (1, 2, .bipush 97, 0, 0, []), (3, 3, .if_icmp .lt 9, 12, 0, []), (6, 1, .iload_n 0, 0, 0, []), (7, 2, .bipush 122, 0, 0, []), (9, 3, .if_icmp .le 15, 24, 0, []), (12, 1, .iload_n 0, 0, 0, []), (13, 2, .bipush 65, 0, 0, []), (15, 3, .if_icmp .lt 13, 28, 0, []), (18, 1, .iload_n 0, 0, 0, []), (19, 2, .bipush 90, 0, 0, []), (21, 3, .if_icmp .gt 7, 28, 0, []), (24, 1, .iconst 1, 0, 0, []), (25, 3, .goto 4, 29, 0, []), (28, 1, .iconst 0, 0, 0, []), (29, 1, .ireturn, 0, 0, [])]
def kd_X4_isSign : List RI := [(0, 1, .iload_n 0, 0, 0, []), (1, 2, .bipush 43, 0, 0, []), (3, 3, .if_icmp .eq 39, 42, 0, []), (6, 1, .iload_n 0, 0, 0, []), (7, 2, .bipush 45, 0, 0, []), (9, 3, .if_icmp .eq 33, 42, 0, []), (12, 1, .iload_n 0, 0, 0, []), (13, 2, .bipush 42, 0, 0, []), (15, 3, .if_icmp .eq 27, 42, 0, []), (18, 1, .iload_n 0, 0, 0, []), (19, 2, .bipush 94, 0, 0, []), (21, 3, .if_icmp .eq 21, 42, 0, []), (24, 1, .iload_n 0, 0, 0, []), (25, 2, .bipush 40, 0, 0, []), (27, 3, .if_icmp .eq 15, 42, 0, []), (30, 1, .iload_n 0, 0, 0, []), (31, 2, .bipush 41, 0, 0, []), (33, 3, .if_icmp .eq 9, 42, 0, []), (36, 1, .iload_n 0, 0, 0, []), (37, 2, .bipush 59, 0, 0, []), (39, 3, .if_icmp .ne 7, 46, 0, []), (42, 1, .iconst 1, 0, 0, []), (43, 3, .goto 4, 47, 0, []), (46, 1, .iconst 0, 0, 0, []), (47, 1, .ireturn, 0, 0, [])]
def kd_X5_init : List RI := [(0, 1, .aload_n 0, 0, 0, []), (1, 3, .invokespecial 1, 0, 0, []), (4, 1, .aload_n 0, 0, 0, []), (5, 1, .iconst 2, 0, 0, []), (6, 3, .putfield 7, 5, 1, []), (9, 1, .aload_n 0, 0, 0, []), (10, 1, .iconst 1, 0, 0, []), (11, 3, .putfield 13, 5, 2, []), (14, 1, .aload_n 0, 0, 0, []), (15, 1, .iconst 2, 0, 0, []), (16, 3, .putfield 16, 5, 3, []), (19, 1, .aload_n 0, 0, 0, []), (20, 3, .sipush 128, 0, 0, []), (23, 2, .newarray .int, 0, 0, []), (25, 3, .putfield 19, 5, 4, []), (28, 1, .aload_n 0, 0, 0, []), (29, 3, .sipush 128, 0, 0, []), (32, 2, .newarray .int, 0, 0, []), (34, 3, .putfield 23, 5, 5, []), (37, 1, .aload_n 0, 0, 0, []), (38, 2, .bipush 13, 0, 0, []), (40, 2, .newarray .int, 0, 0, []), (42, 3, .putfield 28, 5, 6, []), (45, 1, .aload_n 0, 0, 0, []), (46, 1, .aload_n 1, 0, 0, []), (47, 3, .putfield 31, 5, 0, []), (50, 1, .return_, 0, 0, [])]
def kd_X5_setModulus : List RI := [(0, 1, .aload_n 0, 0, 0, []), (1, 3, .getfield 31, 5, 0, []), (4, 1, .iload_n 1, 0, 0, []), (5, 3, .invokevirtual 35, 18, 0, [1, 1, 0]), (8, 1, .istore_n 2, 0, 0, []), (9, 1, .aload_n 0, 0, 0, []), (10, 3, .getfield 31, 5, 0, []), (13, 1, .iload_n 2, 0, 0, []), (14, 3, .invokevirtual 38, 16, 0, [1, 1, 0]), (17, 1, .istore_n 3, 0, 0, []), (18, 1, .iload_n 2, 0, 0, []), (19, 1, .iconst 1, 0, 0, []), (20, 3, .if_icmp .lt 15, 35, 0, []), (23, 1, .iload_n 3, 0, 0, []), (24, 1, .iconst 2, 0, 0, []), (25, 3, .if_icmp .lt 10, 35, 0, []), (28, 1, .iload_n 3, 0, 0, []), (29, 3, .sipush 128, 0, 0, []), (32, 3, .if_icmp .le 4, 36, 0, []), (35, 1, .return_, 0, 0, []), (36, 1, .aload_n 0, 0, 0, []), (37, 1, .iload_n 1, 0, 0, []), (38, 3, .putfield 7, 5, 1, []), (41, 1, .aload_n 0, 0, 0, []), (42, 1, .iload_n 2, 0, 0, []), (43, 3, .putfield 13, 5, 2, []), (46, 1, .aload_n 0, 0, 0, []), (47, 1, .iload_n 3, 0, 0, []), (48, 3, .putfield 16, 5, 3, []), (51, 1, .iconst 1, 0, 0, []), (52, 2, .istore 4, 0, 0, []), (54, 0, .nop, 0, 0, [0, 4]), (54, 2, .iload 4, 0, 0, []), (56, 1, .aload_n 0, 0, 0, []), (57, 3, .getfield 16, 5, 3, []), (60, 3, .if_icmp .ge 24, 84, 0, []), (63, 1, .aload_n 0, 0, 0, []), (64, 2, .iload 4, 0, 0, []), (66, 3, .invokevirtual 41, 89, 0, [1, 1, 0]), (69, 1, .aload_n 0, 0, 0, []), (70, 3, .getfield 16, 5, 3, []), (73, 1, .iconst 1, 0, 0, []), (74, 1, .isub, 0, 0, []), (75, 3, .if_icmp .ge 9, 84, 0, []), (78, 3, .iinc 4 1, 0, 0, []), (81, 3, .goto (-27), 54, 0, []), (84, 1, .iconst 1, 0, 0, []), (85, 1, .aload_n 0, 0, 0, []), (86, 3, .getfield 16, 5, 3, []), (89, 1, .iconst 1, 0, 0, []), (90, 1, .isub, 0, 0, []), (91, 1, .irem, 0, 0, []), (92, 2, .istore 5, 0, 0, []), (94, 1, .iconst 0, 0, 0, []), (95, 2, .istore 6, 0, 0, []), (97, 0, .nop, 0, 0, [0, 5, 6]), (97, 2, .iload 6, 0, 0, []), (99, 1, .aload_n 0, 0, 0, []), (100, 3, .getfield 28, 5, 6, []), (103, 1, .arraylength, 0, 1, []), (104, 3, .if_icmp .ge 37, 141, 0, []), (107, 1, .aload_n 0, 0, 0, []), (108, 3, .getfield 28, 5, 6, []), (111, 2, .iload 6, 0, 0, []), (113, 2, .iload 5, 0, 0, []), (115, 1, .iastore, 0, 1, []), (116, 2, .iload 5, 0, 0, []), (118, 1, .aload_n 0, 0, 0, []), (119, 3, .getfield 31, 5, 0, []), (122, 3, .invokevirtual 44, 15, 0, [0, 1, 0]), (125, 1, .imul, 0, 0, []), (126, 1, .aload_n 0, 0, 0, []), (127, 3, .getfield 16, 5, 3, []), (130, 1, .iconst 1, 0, 0, []), (131, 1, .isub, 0, 0, []), (132, 1, .irem, 0, 0, []), (133, 2, .istore 5, 0, 0, []), (135, 3, .iinc 6 1, 0, 0, []), (138, 3, .goto (-41), 97, 0, []), (141, 1, .return_, 0, 0, [])]
def kd_X5_listPowers : List RI := [(0, 1, .iconst 1, 0, 0, []), (1, 1, .istore_n 2, 0, 0, []), (2, 1, .iconst 0, 0, 0, []), (3, 1, .istore_n 3, 0, 0, []), (4, 0, .nop, 0, 0, [0, 1, 2, 3]), (4, 1, .iload_n 3, 0, 0, []), (5, 1, .aload_n 0, 0, 0, []), (6, 3, .getfield 16, 5, 3, []), (9, 1, .iconst 1, 0, 0, []), (10, 1, .isub, 0, 0, []), (11, 3, .if_icmp .ge 58, 69, 0, []), (14, 1, .iload_n 2, 0, 0, []), (15, 3, .ifCond .le 54, 69, 0, []), (18, 1, .iload_n 2, 0, 0, []), (19, 1, .aload_n 0, 0, 0, []), (20, 3, .getfield 16, 5, 3, []), (23, 3, .if_icmp .ge 46, 69, 0, []), (26, 1, .aload_n 0, 0, 0, []), (27, 3, .getfield 19, 5, 4, []), (30, 1, .iload_n 3, 0, 0, []), (31, 1, .iload_n 2, 0, 0, []), (32, 1, .iastore, 0, 1, []), (33, 1, .aload_n 0, 0, 0, []), (34, 3, .getfield 23, 5, 5, []), (37, 1, .iload_n 2, 0, 0, []), (38, 1, .iload_n 3, 0, 0, []), (39, 1, .iastore, 0, 1, []), (40, 1, .aload_n 0, 0, 0, []), (41, 3, .getfield 31, 5, 0, []), (44, 1, .iload_n 2, 0, 0, []), (45, 1, .iload_n 1, 0, 0, []), (46, 1, .aload_n 0, 0, 0, []), (47, 3, .getfield 7, 5, 1, []), (50, 3, .invokevirtual 48, 33, 0, [3, 1, 0]), (53, 1, .istore_n 2, 0, 0, []), (54, 1, .iload_n 2, 0, 0, []), (55, 1, .iconst 1, 0, 0, []), (56, 3, .if_icmp .ne 7, 63, 0, []), (59, 1, .iload_n 3, 0, 0, []), (60, 1, .iconst 1, 0, 0, []), (61, 1, .iadd, 0, 0, []), (62, 1, .ireturn, 0, 0, []), (63, 3, .iinc 3 1, 0, 0, []), (66, 3, .goto (-62), 4, 0, []), (69, 1, .iconst 0, 0, 0, []), (70, 1, .ireturn, 0, 0, [])]
def kd_X5_modulus : List RI := [(0, 1, .aload_n 0, 0, 0, []), (1, 3, .getfield 7, 5, 1, []), (4, 1, .ireturn, 0, 0, [])]
def kd_X5_degree : List RI := [(0, 1, .aload_n 0, 0, 0, []), (1, 3, .getfield 13, 5, 2, []), (4, 1, .ireturn, 0, 0, [])]
def kd_X5_size : List RI := [(0, 1, .aload_n 0, 0, 0, []), (1, 3, .getfield 16, 5, 3, []), (4, 1, .ireturn, 0, 0, [])]
def kd_X5_holds : List RI := [(0, 1, .iload_n 1, 0, 0, []), (1, 3, .ifCond .lt 15, 16, 0, []), (4, 1, .iload_n 1, 0, 0, []), (5, 1, .aload_n 0, 0, 0, []), (6, 3, .getfield 16, 5, 3, []), (9, 3, .if_icmp .ge 7, 16, 0, []), (12, 1, .iconst 1, 0, 0, []), (13, 3, .goto 4, 17, 0, []), (16, 1, .iconst 0, 0, 0, []), (17, 1, .ireturn, 0, 0, [])]
def kd_X5_makerPower : List RI := [(0, 1, .iload_n 1, 0, 0, []), (1, 3, .ifCond .lt 11, 12, 0, []), (4, 1, .aload_n 0, 0, 0, []), (5, 3, .getfield 16, 5, 3, []), (8, 1, .iconst 2, 0, 0, []), (9, 3, .if_icmp .ge 7, 16, 0, []), (12, 1, .iconst 1, 0, 0, []), (13, 3, .goto 16, 29, 0, []), (16, 1, .aload_n 0, 0, 0, []), (17, 3, .getfield 19, 5, 4, []), (20, 1, .iload_n 1, 0, 0, []), (21, 1, .aload_n 0, 0, 0, []), (22, 3, .getfield 16, 5, 3, []), (25, 1, .iconst 1, 0, 0, []), (26, 1, .isub, 0, 0, []), (27, 1, .irem, 0, 0, []), (28, 1, .iaload, 0, 1, []), (29, 1, .ireturn, 0, 0, [])]
def kd_X5_product : List RI := [(0, 1, .iload_n 1, 0, 0, []), (1, 1, .iconst 1, 0, 0, []), (2, 3, .if_icmp .lt 24, 26, 0, []), (5, 1, .iload_n 2, 0, 0, []), (6, 1, .iconst 1, 0, 0, []), (7, 3, .if_icmp .lt 19, 26, 0, []), (10, 1, .iload_n 1, 0, 0, []), (11, 1, .aload_n 0, 0, 0, []), (12, 3, .getfield 16, 5, 3, []), (15, 3, .if_icmp .ge 11, 26, 0, []), (18, 1, .iload_n 2, 0, 0, []), (19, 1, .aload_n 0, 0, 0, []), (20, 3, .getfield 16, 5, 3, []), (23, 3, .if_icmp .lt 5, 28, 0, []), (26, 1, .iconst 0, 0, 0, []), (27, 1, .ireturn, 0, 0, []), (28, 1, .aload_n 0, 0, 0, []), (29, 3, .getfield 19, 5, 4, []), (32, 1, .aload_n 0, 0, 0, []), (33, 3, .getfield 23, 5, 5, []), (36, 1, .iload_n 1, 0, 0, []), (37, 1, .iaload, 0, 1, []), (38, 1, .aload_n 0, 0, 0, []), (39, 3, .getfield 23, 5, 5, []), (42, 1, .iload_n 2, 0, 0, []), (43, 1, .iaload, 0, 1, []), (44, 1, .iadd, 0, 0, []), (45, 1, .aload_n 0, 0, 0, []), (46, 3, .getfield 16, 5, 3, []), (49, 1, .iconst 1, 0, 0, []), (50, 1, .isub, 0, 0, []), (51, 1, .irem, 0, 0, []), (52, 1, .iaload, 0, 1, []), (53, 1, .ireturn, 0, 0, [])]
def kd_X5_quotient : List RI := [(0, 1, .iload_n 1, 0, 0, []), (1, 1, .iconst 1, 0, 0, []), (2, 3, .if_icmp .lt 24, 26, 0, []), (5, 1, .iload_n 2, 0, 0, []), (6, 1, .iconst 1, 0, 0, []), (7, 3, .if_icmp .lt 19, 26, 0, []), (10, 1, .iload_n 1, 0, 0, []), (11, 1, .aload_n 0, 0, 0, []), (12, 3, .getfield 16, 5, 3, []), (15, 3, .if_icmp .ge 11, 26, 0, []), (18, 1, .iload_n 2, 0, 0, []), (19, 1, .aload_n 0, 0, 0, []), (20, 3, .getfield 16, 5, 3, []), (23, 3, .if_icmp .lt 5, 28, 0, []), (26, 1, .iconst 0, 0, 0, []), (27, 1, .ireturn, 0, 0, []), (28, 1, .aload_n 0, 0, 0, []), (29, 3, .getfield 19, 5, 4, []), (32, 1, .aload_n 0, 0, 0, []), (33, 3, .getfield 23, 5, 5, []), (36, 1, .iload_n 1, 0, 0, []), (37, 1, .iaload, 0, 1, []), (38, 1, .aload_n 0, 0, 0, []), (39, 3, .getfield 16, 5, 3, []), (42, 1, .iadd, 0, 0, []), (43, 1, .iconst 1, 0, 0, []), (44, 1, .isub, 0, 0, []), (45, 1, .aload_n 0, 0, 0, []), (46, 3, .getfield 23, 5, 5, []), (49, 1, .iload_n 2, 0, 0, []), (50, 1, .iaload, 0, 1, []), (51, 1, .isub, 0, 0, []), (52, 1, .aload_n 0, 0, 0, []), (53, 3, .getfield 16, 5, 3, []), (56, 1, .iconst 1, 0, 0, []), (57, 1, .isub, 0, 0, []), (58, 1, .irem, 0, 0, []), (59, 1, .iaload, 0, 1, []), (60, 1, .ireturn, 0, 0, [])]
def kd_X5_turnedUp : List RI := [(0, 1, .iload_n 1, 0, 0, []), (1, 1, .iconst 1, 0, 0, []), (2, 3, .if_icmp .lt 23, 25, 0, []), (5, 1, .iload_n 1, 0, 0, []), (6, 1, .aload_n 0, 0, 0, []), (7, 3, .getfield 16, 5, 3, []), (10, 3, .if_icmp .ge 15, 25, 0, []), (13, 1, .iload_n 2, 0, 0, []), (14, 3, .ifCond .lt 11, 25, 0, []), (17, 1, .aload_n 0, 0, 0, []), (18, 3, .getfield 13, 5, 2, []), (21, 1, .iconst 1, 0, 0, []), (22, 3, .if_icmp .ge 5, 27, 0, []), (25, 1, .iconst 0, 0, 0, []), (26, 1, .ireturn, 0, 0, []), (27, 1, .aload_n 0, 0, 0, []), (28, 3, .getfield 19, 5, 4, []), (31, 1, .aload_n 0, 0, 0, []), (32, 3, .getfield 23, 5, 5, []), (35, 1, .iload_n 1, 0, 0, []), (36, 1, .iaload, 0, 1, []), (37, 1, .aload_n 0, 0, 0, []), (38, 3, .getfield 28, 5, 6, []), (41, 1, .iload_n 2, 0, 0, []), (42, 1, .aload_n 0, 0, 0, []), (43, 3, .getfield 13, 5, 2, []), (46, 1, .irem, 0, 0, []), (47, 1, .iaload, 0, 1, []), (48, 1, .imul, 0, 0, []), (49, 1, .aload_n 0, 0, 0, []), (50, 3, .getfield 16, 5, 3, []), (53, 1, .iconst 1, 0, 0, []), (54, 1, .isub, 0, 0, []), (55, 1, .irem, 0, 0, []), (56, 1, .iaload, 0, 1, []), (57, 1, .ireturn, 0, 0, [])]
def kd_X6_init : List RI := [(0, 1, .aload_n 0, 0, 0, []), (1, 3, .invokespecial 3, 0, 0, []), (4, 1, .aload_n 0, 0, 0, []), (5, 1, .iconst 2, 0, 0, []), (6, 3, .putfield 9, 6, 0, []), (9, 1, .aload_n 0, 0, 0, []), (10, 1, .iconst 2, 0, 0, []), (11, 3, .putfield 15, 6, 1, []), (14, 1, .aload_n 0, 0, 0, []), (15, 1, .iconst 0, 0, 0, []), (16, 3, .putfield 18, 6, 2, []), (19, 1, .aload_n 0, 0, 0, []), (20, 1, .iconst 0, 0, 0, []), (21, 3, .putfield 21, 6, 3, []), (24, 1, .aload_n 0, 0, 0, []), (25, 1, .iconst 0, 0, 0, []), (26, 3, .putfield 24, 6, 4, []), (29, 1, .aload_n 0, 0, 0, []), (30, 2, .bipush 10, 0, 0, []), (32, 1, .iconst 4, 0, 0, []), (33, 4, .multianewarray 27 2, 0, 0, []), (37, 3, .putfield 29, 6, 5, []), (40, 1, .aload_n 0, 0, 0, []), (41, 2, .bipush 10, 0, 0, []), (43, 2, .bipush 8, 0, 0, []), (45, 4, .multianewarray 27 2, 0, 0, []), (49, 3, .putfield 32, 6, 6, []), (52, 1, .aload_n 0, 0, 0, []), (53, 1, .iconst 2, 0, 0, []), (54, 2, .newarray .int, 0, 0, []), (56, 3, .putfield 35, 6, 7, []), (59, 1, .aload_n 0, 0, 0, []), (60, 2, .bipush 20, 0, 0, []), (62, 2, .newarray .int, 0, 0, []), (64, 3, .putfield 39, 6, 8, []), (67, 1, .return_, 0, 0, [])]
def kd_X6_start : List RI := [(0, 1, .aload_n 0, 0, 0, []), (1, 1, .iload_n 1, 0, 0, []), (2, 3, .putfield 9, 6, 0, []), (5, 1, .aload_n 0, 0, 0, []), (6, 1, .iload_n 2, 0, 0, []), (7, 3, .putfield 15, 6, 1, []), (10, 1, .aload_n 0, 0, 0, []), (11, 1, .iconst 0, 0, 0, []), (12, 3, .putfield 21, 6, 3, []), (15, 1, .aload_n 0, 0, 0, []), (16, 1, .iconst 0, 0, 0, []), (17, 3, .putfield 24, 6, 4, []), (20, 1, .aload_n 0, 0, 0, []), (21, 3, .getfield 35, 6, 7, []), (24, 1, .iconst 0, 0, 0, []), (25, 1, .iconst 0, 0, 0, []), (26, 1, .iastore, 0, 1, []), (27, 1, .aload_n 0, 0, 0, []), (28, 3, .getfield 35, 6, 7, []), (31, 1, .iconst 1, 0, 0, []), (32, 1, .iconst 0, 0, 0, []), (33, 1, .iastore, 0, 1, []), (34, 1, .return_, 0, 0, [])]
def kd_X6_copyOf : List RI := [(0, 1, .aload_n 0, 0, 0, []), (1, 1, .aload_n 1, 0, 0, []), (2, 3, .getfield 9, 6, 0, []), (5, 3, .putfield 9, 6, 0, []), (8, 1, .aload_n 0, 0, 0, []), (9, 1, .aload_n 1, 0, 0, []), (10, 3, .getfield 15, 6, 1, []), (13, 3, .putfield 15, 6, 1, []), (16, 1, .aload_n 0, 0, 0, []), (17, 1, .aload_n 1, 0, 0, []), (18, 3, .getfield 18, 6, 2, []), (21, 3, .putfield 18, 6, 2, []), (24, 1, .aload_n 0, 0, 0, []), (25, 1, .aload_n 1, 0, 0, []), (26, 3, .getfield 21, 6, 3, []), (29, 3, .putfield 21, 6, 3, []), (32, 1, .aload_n 0, 0, 0, []), (33, 1, .aload_n 1, 0, 0, []), (34, 3, .getfield 24, 6, 4, []), (37, 3, .putfield 24, 6, 4, []), (40, 1, .iconst 0, 0, 0, []), (41, 1, .istore_n 2, 0, 0, []), (42, 0, .nop, 0, 0, [0, 1, 2]), (42, 1, .iload_n 2, 0, 0, []), (43, 2, .bipush 10, 0, 0, []), (45, 3, .if_icmp .ge 39, 84, 0, []), (48, 1, .aload_n 1, 0, 0, []), (49, 3, .getfield 29, 6, 5, []), (52, 1, .iload_n 2, 0, 0, []), (53, 1, .aaload, 0, 1, []), (54, 1, .aload_n 0, 0, 0, []), (55, 3, .getfield 29, 6, 5, []), (58, 1, .iload_n 2, 0, 0, []), (59, 1, .aaload, 0, 1, []), (60, 3, .invokestatic 42, 122, 0, [2, 0, 0]), (63, 1, .aload_n 1, 0, 0, []), (64, 3, .getfield 32, 6, 6, []), (67, 1, .iload_n 2, 0, 0, []), (68, 1, .aaload, 0, 1, []), (69, 1, .aload_n 0, 0, 0, []), (70, 3, .getfield 32, 6, 6, []), (73, 1, .iload_n 2, 0, 0, []), (74, 1, .aaload, 0, 1, []), (75, 3, .invokestatic 42, 122, 0, [2, 0, 0]), (78, 3, .iinc 2 1, 0, 0, []), (81, 3, .goto (-39), 42, 0, []), (84, 1, .aload_n 1, 0, 0, []), (85, 3, .getfield 35, 6, 7, []), (88, 1, .aload_n 0, 0, 0, []), (89, 3, .getfield 35, 6, 7, []), (92, 3, .invokestatic 42, 122, 0, [2, 0, 0]), (95, 1, .aload_n 1, 0, 0, []), (96, 3, .getfield 39, 6, 8, []), (99, 1, .aload_n 0, 0, 0, []), (100, 3, .getfield 39, 6, 8, []), (103, 3, .invokestatic 42, 122, 0, [2, 0, 0]), (106, 1, .return_, 0, 0, [])]
def kd_X6_base : List RI := [(0, 1, .aload_n 0, 0, 0, []), (1, 3, .getfield 9, 6, 0, []), (4, 1, .ireturn, 0, 0, [])]
def kd_X6_modulus : List RI := [(0, 1, .aload_n 0, 0, 0, []), (1, 3, .getfield 15, 6, 1, []), (4, 1, .ireturn, 0, 0, [])]
def kd_X6_texts : List RI := [(0, 1, .aload_n 0, 0, 0, []), (1, 3, .getfield 18, 6, 2, []), (4, 1, .ireturn, 0, 0, [])]
def kd_X6_addText : List RI := [(0, 1, .aload_n 0, 0, 0, []), (1, 1, .dup, 0, 0, []), (2, 3, .getfield 18, 6, 2, []), (5, 1, .iconst 1, 0, 0, []), (6, 1, .iadd, 0, 0, []), (7, 3, .putfield 18, 6, 2, []), (10, 1, .return_, 0, 0, [])]
def kd_X6_steps : List RI := [(0, 1, .aload_n 0, 0, 0, []), (1, 3, .getfield 21, 6, 3, []), (4, 1, .ireturn, 0, 0, [])]
def kd_X6_undone : List RI := [(0, 1, .aload_n 0, 0, 0, []), (1, 3, .getfield 24, 6, 4, []), (4, 1, .aload_n 0, 0, 0, []), (5, 3, .getfield 21, 6, 3, []), (8, 1, .isub, 0, 0, []), (9, 1, .ireturn, 0, 0, [])]
def kd_X6_many : List RI := [(0, 1, .iload_n 1, 0, 0, []), (1, 1, .iconst 1, 0, 0, []), (2, 3, .if_icmp .ne 12, 14, 0, []), (5, 1, .aload_n 0, 0, 0, []), (6, 3, .getfield 35, 6, 7, []), (9, 1, .iconst 1, 0, 0, []), (10, 1, .iaload, 0, 1, []), (11, 3, .goto 9, 20, 0, []), (14, 1, .aload_n 0, 0, 0, []), (15, 3, .getfield 35, 6, 7, []), (18, 1, .iconst 0, 0, 0, []), (19, 1, .iaload, 0, 1, []), (20, 1, .ireturn, 0, 0, [])]
def kd_X6_has : List RI := [(0, 1, .iload_n 2, 0, 0, []), (1, 3, .ifCond .lt 22, 23, 0, []), (4, 1, .iload_n 2, 0, 0, []), (5, 1, .aload_n 0, 0, 0, []), (6, 1, .iload_n 1, 0, 0, []), (7, 3, .invokevirtual 48, 107, 0, [1, 1, 0]), (10, 3, .if_icmp .ge 13, 23, 0, []), (13, 1, .iload_n 2, 0, 0, []), (14, 2, .bipush 10, 0, 0, []), (16, 3, .if_icmp .ge 7, 23, 0, []), (19, 1, .iconst 1, 0, 0, []), (20, 3, .goto 4, 24, 0, []), (23, 1, .iconst 0, 0, 0, []), (24, 1, .ireturn, 0, 0, [])]
def kd_X6_get : List RI := [(0, 1, .iload_n 2, 0, 0, []), (1, 3, .ifCond .lt 9, 10, 0, []), (4, 1, .iload_n 2, 0, 0, []), (5, 2, .bipush 10, 0, 0, []), (7, 3, .if_icmp .lt 7, 14, 0, []), (10, 1, .iconst 0, 0, 0, []), (11, 3, .goto 4, 15, 0, []), (14, 1, .iload_n 2, 0, 0, []), (15, 1, .istore_n 3, 0, 0, []), (16, 1, .iload_n 1, 0, 0, []), (17, 1, .iconst 1, 0, 0, []), (18, 3, .if_icmp .ne 12, 30, 0, []), (21, 1, .aload_n 0, 0, 0, []), (22, 3, .getfield 32, 6, 6, []), (25, 1, .iload_n 3, 0, 0, []), (26, 1, .aaload, 0, 1, []), (27, 3, .goto 9, 36, 0, []), (30, 1, .aload_n 0, 0, 0, []), (31, 3, .getfield 29, 6, 5, []), (34, 1, .iload_n 3, 0, 0, []), (35, 1, .aaload, 0, 1, []), (36, 1, .areturn, 0, 0, [])]
def kd_X6_tell : List RI := [(0, 1, .aload_n 2, 0, 0, []), (1, 3, .invokestatic 51, 120, 0, [1, 1, 0]), (4, 1, .istore_n 3, 0, 0, []), (5, 1, .iload_n 1, 0, 0, []), (6, 1, .iconst 1, 0, 0, []), (7, 3, .if_icmp .ne 21, 28, 0, []), (10, 1, .iload_n 3, 0, 0, []), (11, 3, .ifCond .lt 13, 24, 0, []), (14, 1, .iload_n 3, 0, 0, []), (15, 2, .bipush 7, 0, 0, []), (17, 3, .if_icmp .gt 7, 24, 0, []), (20, 1, .iconst 1, 0, 0, []), (21, 3, .goto 22, 43, 0, []), (24, 1, .iconst 0, 0, 0, []), (25, 3, .goto 18, 43, 0, []), (28, 1, .iload_n 3, 0, 0, []), (29, 1, .iconst 1, 0, 0, []), (30, 3, .if_icmp .lt 12, 42, 0, []), (33, 1, .iload_n 3, 0, 0, []), (34, 1, .iconst 3, 0, 0, []), (35, 3, .if_icmp .gt 7, 42, 0, []), (38, 1, .iconst 1, 0, 0, []), (39, 3, .goto 4, 43, 0, []), (42, 1, .iconst 0, 0, 0, []), (43, 2, .istore 4, 0, 0, []), (45, 1, .aload_n 0, 0, 0, []), (46, 1, .iload_n 1, 0, 0, []), (47, 3, .invokevirtual 48, 107, 0, [1, 1, 0]), (50, 2, .istore 5, 0, 0, []), (52, 2, .iload 4, 0, 0, []), (54, 3, .ifCond .eq 22, 76, 0, []), (57, 2, .iload 5, 0, 0, []), (59, 2, .bipush 10, 0, 0, []), (61, 3, .if_icmp .ge 15, 76, 0, []), (64, 1, .aload_n 0, 0, 0, []), (65, 3, .getfield 21, 6, 3, []), (68, 1, .aload_n 0, 0, 0, []), (69, 3, .getfield 39, 6, 8, []), (72, 1, .arraylength, 0, 1, []), (73, 3, .if_icmp .lt 5, 78, 0, []), (76, 1, .iconst (-1), 0, 0, []), (77, 1, .ireturn, 0, 0, []), (78, 1, .aload_n 2, 0, 0, []), (79, 1, .aload_n 0, 0, 0, []), (80, 1, .iload_n 1, 0, 0, []), (81, 2, .iload 5, 0, 0, []), (83, 3, .invokevirtual 55, 109, 0, [2, 2, 0]), (86, 3, .invokestatic 42, 122, 0, [2, 0, 0]), (89, 1, .aload_n 0, 0, 0, []), (90, 3, .getfield 39, 6, 8, []), (93, 1, .aload_n 0, 0, 0, []), (94, 3, .getfield 21, 6, 3, []), (97, 1, .iload_n 1, 0, 0, []), (98, 1, .iastore, 0, 1, []), (99, 1, .aload_n 0, 0, 0, []), (100, 1, .aload_n 0, 0, 0, []), (101, 3, .getfield 21, 6, 3, []), (104, 1, .iconst 1, 0, 0, []), (105, 1, .iadd, 0, 0, []), (106, 3, .putfield 24, 6, 4, []), (109, 1, .aload_n 0, 0, 0, []), (110, 3, .invokevirtual 59, 112, 0, [0, 1, 0]), (113, 1, .pop, 0, 0, []), (114, 2, .iload 5, 0, 0, []), (116, 1, .ireturn, 0, 0, [])]
def kd_X6_undoLatest : List RI := [(0, 1, .aload_n 0, 0, 0, []), (1, 3, .getfield 21, 6, 3, []), (4, 3, .ifCond .le 15, 19, 0, []), (7, 1, .aload_n 0, 0, 0, []), (8, 3, .getfield 21, 6, 3, []), (11, 1, .aload_n 0, 0, 0, []), (12, 3, .getfield 39, 6, 8, []), (15, 1, .arraylength, 0, 1, []), (16, 3, .if_icmp .le 5, 21, 0, []), (19, 1, .iconst (-1), 0, 0, []), (20, 1, .ireturn, 0, 0, []), (21, 1, .aload_n 0, 0, 0, []), (22, 1, .dup, 0, 0, []), (23, 3, .getfield 21, 6, 3, []), (26, 1, .iconst 1, 0, 0, []), (27, 1, .isub, 0, 0, []), (28, 3, .putfield 21, 6, 3, []), (31, 1, .aload_n 0, 0, 0, []), (32, 3, .getfield 35, 6, 7, []), (35, 1, .aload_n 0, 0, 0, []), (36, 3, .getfield 39, 6, 8, []), (39, 1, .aload_n 0, 0, 0, []), (40, 3, .getfield 21, 6, 3, []), (43, 1, .iaload, 0, 1, []), (44, 1, .iconst 1, 0, 0, []), (45, 3, .if_icmp .ne 7, 52, 0, []), (48, 1, .iconst 1, 0, 0, []), (49, 3, .goto 4, 53, 0, []), (52, 1, .iconst 0, 0, 0, []), (53, 1, .dup2, 0, 0, []), (54, 1, .iaload, 0, 1, []), (55, 1, .iconst 1, 0, 0, []), (56, 1, .isub, 0, 0, []), (57, 1, .iastore, 0, 1, []), (58, 1, .aload_n 0, 0, 0, []), (59, 3, .getfield 21, 6, 3, []), (62, 1, .ireturn, 0, 0, [])]
def kd_X6_redoLatest : List RI := [(0, 1, .aload_n 0, 0, 0, []), (1, 3, .getfield 21, 6, 3, []), (4, 1, .aload_n 0, 0, 0, []), (5, 3, .getfield 24, 6, 4, []), (8, 3, .if_icmp .ge 15, 23, 0, []), (11, 1, .aload_n 0, 0, 0, []), (12, 3, .getfield 21, 6, 3, []), (15, 1, .aload_n 0, 0, 0, []), (16, 3, .getfield 39, 6, 8, []), (19, 1, .arraylength, 0, 1, []), (20, 3, .if_icmp .lt 5, 25, 0, []), (23, 1, .iconst (-1), 0, 0, []), (24, 1, .ireturn, 0, 0, []), (25, 1, .aload_n 0, 0, 0, []), (26, 3, .getfield 35, 6, 7, []), (29, 1, .aload_n 0, 0, 0, []), (30, 3, .getfield 39, 6, 8, []), (33, 1, .aload_n 0, 0, 0, []), (34, 3, .getfield 21, 6, 3, []), (37, 1, .iaload, 0, 1, []), (38, 1, .iconst 1, 0, 0, []), (39, 3, .if_icmp .ne 7, 46, 0, []), (42, 1, .iconst 1, 0, 0, []), (43, 3, .goto 4, 47, 0, []), (46, 1, .iconst 0, 0, 0, []), (47, 1, .dup2, 0, 0, []), (48, 1, .iaload, 0, 1, []), (49, 1, .iconst 1, 0, 0, []), (50, 1, .iadd, 0, 0, []), (51, 1, .iastore, 0, 1, []), (52, 1, .aload_n 0, 0, 0, []), (53, 1, .dup, 0, 0, []), (54, 3, .getfield 21, 6, 3, []), (57, 1, .iconst 1, 0, 0, []), (58, 1, .iadd, 0, 0, []), (59, 3, .putfield 21, 6, 3, []), (62, 1, .aload_n 0, 0, 0, []), (63, 3, .getfield 21, 6, 3, []), (66, 1, .ireturn, 0, 0, [])]
def kd_X7_init : List RI := [(0, 1, .aload_n 0, 0, 0, []), (1, 3, .invokespecial 3, 0, 0, []), (4, 1, .aload_n 0, 0, 0, []), (5, 2, .bipush 49, 0, 0, []), (7, 2, .bipush 7, 0, 0, []), (9, 4, .multianewarray 11 2, 0, 0, []), (13, 3, .putfield 13, 7, 1, []), (16, 1, .aload_n 0, 0, 0, []), (17, 2, .bipush 49, 0, 0, []), (19, 2, .newarray .int, 0, 0, []), (21, 3, .putfield 16, 7, 2, []), (24, 1, .aload_n 0, 0, 0, []), (25, 2, .bipush 49, 0, 0, []), (27, 2, .newarray .boolean, 0, 0, []), (29, 3, .putfield 20, 7, 3, []), (32, 1, .aload_n 0, 0, 0, []), (33, 2, .bipush 7, 0, 0, []), (35, 2, .newarray .int, 0, 0, []), (37, 3, .putfield 24, 7, 4, []), (40, 1, .aload_n 0, 0, 0, []), (41, 1, .aload_n 1, 0, 0, []), (42, 3, .putfield 27, 7, 0, []), (45, 1, .return_, 0, 0, [])]
def kd_X7_clear : List RI := [(0, 1, .iconst 0, 0, 0, []), (1, 1, .istore_n 1, 0, 0, []), (2, 0, .nop, 0, 0, [0, 1]), (2, 1, .iload_n 1, 0, 0, []), (3, 1, .aload_n 0, 0, 0, []), (4, 3, .getfield 20, 7, 3, []), (7, 1, .arraylength, 0, 1, []), (8, 3, .if_icmp .ge 16, 24, 0, []), (11, 1, .aload_n 0, 0, 0, []), (12, 3, .getfield 20, 7, 3, []), (15, 1, .iload_n 1, 0, 0, []), (16, 1, .iconst 0, 0, 0, []), (17, 1, .bastore, 0, 1, []), (18, 3, .iinc 1 1, 0, 0, []), (21, 3, .goto (-19), 2, 0, []), (24, 1, .return_, 0, 0, [])]
def kd_X7_dropTags : List RI := [(0, 1, .iconst 0, 0, 0, []), (1, 1, .istore_n 1, 0, 0, []), (2, 0, .nop, 0, 0, [0, 1]), (2, 1, .iload_n 1, 0, 0, []), (3, 1, .aload_n 0, 0, 0, []), (4, 3, .getfield 16, 7, 2, []), (7, 1, .arraylength, 0, 1, []), (8, 3, .if_icmp .ge 16, 24, 0, []), (11, 1, .aload_n 0, 0, 0, []), (12, 3, .getfield 16, 7, 2, []), (15, 1, .iload_n 1, 0, 0, []), (16, 1, .iconst 0, 0, 0, []), (17, 1, .iastore, 0, 1, []), (18, 3, .iinc 1 1, 0, 0, []), (21, 3, .goto (-19), 2, 0, []), (24, 1, .return_, 0, 0, [])]
def kd_X7_addRest : List RI := [(0, 1, .aload_n 0, 0, 0, []), (1, 3, .getfield 24, 7, 4, []), (4, 3, .invokestatic 31, 121, 0, [1, 0, 0]), (7, 1, .aload_n 0, 0, 0, []), (8, 3, .getfield 24, 7, 4, []), (11, 1, .iconst 0, 0, 0, []), (12, 1, .iload_n 1, 0, 0, []), (13, 1, .iastore, 0, 1, []), (14, 1, .aload_n 0, 0, 0, []), (15, 1, .aload_n 0, 0, 0, []), (16, 3, .getfield 24, 7, 4, []), (19, 1, .iload_n 2, 0, 0, []), (20, 3, .invokevirtual 37, 117, 0, [2, 1, 0]), (23, 1, .ireturn, 0, 0, [])]
def kd_X7_add : List RI := [(0, 1, .aload_n 1, 0, 0, []), (1, 1, .arraylength, 0, 0, []), (2, 2, .bipush 7, 0, 0, []), (4, 3, .invokestatic 41, 0, 0, [1]), (7, 1, .iconst 1, 0, 0, []), (8, 1, .isub, 0, 0, []), (9, 1, .istore_n 3, 0, 0, []), (10, 0, .nop, 0, 0, [0, 1, 2, 3]), (10, 1, .iload_n 3, 0, 0, []), (11, 3, .ifCond .lt 155, 166, 0, []), (14, 2, .bipush 6, 0, 0, []), (16, 2, .istore 4, 0, 0, []), (18, 0, .nop, 0, 0, [0, 1, 2, 3, 4]), (18, 2, .iload 4, 0, 0, []), (20, 3, .ifCond .lt 140, 160, 0, []), (23, 1, .aload_n 0, 0, 0, []), (24, 3, .getfield 27, 7, 0, []), (27, 1, .aload_n 1, 0, 0, []), (28, 1, .iload_n 3, 0, 0, []), (29, 1, .iaload, 0, 0, []), (30, 2, .iload 4, 0, 0, []), (32, 3, .invokevirtual 47, 19, 0, [2, 1, 0]), (35, 2, .istore 5, 0, 0, []), (37, 2, .iload 5, 0, 0, []), (39, 3, .ifCond .ne 6, 45, 0, []), (42, 3, .goto 112, 154, 0, []), (45, 1, .iload_n 3, 0, 0, []), (46, 2, .bipush 7, 0, 0, []), (48, 1, .imul, 0, 0, []), (49, 2, .iload 4, 0, 0, []), (51, 1, .iadd, 0, 0, []), (52, 2, .istore 6, 0, 0, []), (54, 1, .aload_n 0, 0, 0, []), (55, 3, .getfield 20, 7, 3, []), (58, 2, .iload 6, 0, 0, []), (60, 1, .baload, 0, 1, []), (61, 3, .ifCond .ne 22, 83, 0, []), (64, 1, .aload_n 0, 0, 0, []), (65, 1, .aload_n 1, 0, 0, []), (66, 1, .iload_n 2, 0, 0, []), (67, 2, .iload 6, 0, 0, []), (69, 1, .aload_n 0, 0, 0, []), (70, 3, .getfield 27, 7, 0, []), (73, 2, .iload 5, 0, 0, []), (75, 3, .invokevirtual 52, 22, 0, [1, 1, 0]), (78, 3, .invokevirtual 56, 118, 0, [4, 0, 0]), (81, 1, .iconst (-1), 0, 0, []), (82, 1, .ireturn, 0, 0, []), (83, 1, .aload_n 0, 0, 0, []), (84, 3, .getfield 27, 7, 0, []), (87, 2, .iload 5, 0, 0, []), (89, 3, .invokevirtual 60, 23, 0, [1, 1, 0]), (92, 2, .istore 7, 0, 0, []), (94, 1, .iconst 0, 0, 0, []), (95, 2, .istore 8, 0, 0, []), (97, 0, .nop, 0, 0, [0, 1, 2, 3, 4, 6, 7, 8]), (97, 2, .iload 8, 0, 0, []), (99, 1, .iload_n 3, 0, 0, []), (100, 3, .if_icmp .gt 36, 136, 0, []), (103, 1, .aload_n 1, 0, 0, []), (104, 2, .iload 8, 0, 0, []), (106, 1, .aload_n 0, 0, 0, []), (107, 3, .getfield 27, 7, 0, []), (110, 1, .aload_n 1, 0, 0, []), (111, 2, .iload 8, 0, 0, []), (113, 1, .iaload, 0, 0, []), (114, 1, .aload_n 0, 0, 0, []), (115, 3, .getfield 13, 7, 1, []), (118, 2, .iload 6, 0, 0, []), (120, 1, .aaload, 0, 1, []), (121, 2, .iload 8, 0, 0, []), (123, 1, .iaload, 0, 0, []), (124, 2, .iload 7, 0, 0, []), (126, 3, .invokevirtual 63, 24, 0, [3, 1, 0]), (129, 1, .iastore, 0, 0, []), (130, 3, .iinc 8 1, 0, 0, []), (133, 3, .goto (-36), 97, 0, []), (136, 1, .aload_n 0, 0, 0, []), (137, 3, .getfield 27, 7, 0, []), (140, 1, .iload_n 2, 0, 0, []), (141, 1, .aload_n 0, 0, 0, []), (142, 3, .getfield 16, 7, 2, []), (145, 2, .iload 6, 0, 0, []), (147, 1, .iaload, 0, 1, []), (148, 2, .iload 7, 0, 0, []), (150, 3, .invokevirtual 63, 24, 0, [3, 1, 0]), (153, 1, .istore_n 2, 0, 0, []), (154, 3, .iinc 4 (-1), 0, 0, []), (157, 3, .goto (-139), 18, 0, []), (160, 3, .iinc 3 (-1), 0, 0, []), (163, 3, .goto (-153), 10, 0, []), (166, 1, .iload_n 2, 0, 0, []), (167, 1, .ireturn, 0, 0, [])]
def kd_X7_keep : List RI := [(0, 1, .aload_n 0, 0, 0, []), (1, 3, .getfield 20, 7, 3, []), (4, 1, .iload_n 3, 0, 0, []), (5, 1, .iconst 1, 0, 0, []), (6, 1, .bastore, 0, 1, []), (7, 1, .aload_n 0, 0, 0, []), (8, 3, .getfield 16, 7, 2, []), (11, 1, .iload_n 3, 0, 0, []), (12, 1, .aload_n 0, 0, 0, []), (13, 3, .getfield 27, 7, 0, []), (16, 1, .iconst 0, 0, 0, []), (17, 1, .iload_n 2, 0, 0, []), (18, 2, .iload 4, 0, 0, []), (20, 3, .invokevirtual 63, 24, 0, [3, 1, 0]), (23, 1, .iastore, 0, 1, []), (24, 1, .iconst 0, 0, 0, []), (25, 2, .istore 5, 0, 0, []), (27, 0, .nop, 0, 0, [0, 1, 3, 4, 5]), (27, 2, .iload 5, 0, 0, []), (29, 2, .bipush 7, 0, 0, []), (31, 3, .if_icmp .ge 43, 74, 0, []), (34, 1, .aload_n 0, 0, 0, []), (35, 3, .getfield 13, 7, 1, []), (38, 1, .iload_n 3, 0, 0, []), (39, 1, .aaload, 0, 1, []), (40, 2, .iload 5, 0, 0, []), (42, 2, .iload 5, 0, 0, []), (44, 1, .aload_n 1, 0, 0, []), (45, 1, .arraylength, 0, 0, []), (46, 3, .if_icmp .ge 20, 66, 0, []), (49, 1, .aload_n 0, 0, 0, []), (50, 3, .getfield 27, 7, 0, []), (53, 1, .iconst 0, 0, 0, []), (54, 1, .aload_n 1, 0, 0, []), (55, 2, .iload 5, 0, 0, []), (57, 1, .iaload, 0, 0, []), (58, 2, .iload 4, 0, 0, []), (60, 3, .invokevirtual 63, 24, 0, [3, 1, 0]), (63, 3, .goto 4, 67, 0, []), (66, 1, .iconst 0, 0, 0, []), (67, 1, .iastore, 0, 0, []), (68, 3, .iinc 5 1, 0, 0, []), (71, 3, .goto (-44), 27, 0, []), (74, 1, .return_, 0, 0, [])]
def kd_X8_init : List RI := [(0, 1, .aload_n 0, 0, 0, []), (1, 3, .invokespecial 1, 0, 0, []), (4, 1, .aload_n 0, 0, 0, []), (5, 1, .aload_n 1, 0, 0, []), (6, 3, .putfield 7, 8, 0, []), (9, 1, .aload_n 0, 0, 0, []), (10, 1, .aload_n 1, 0, 0, []), (11, 3, .getfield 13, 5, 0, []), (14, 3, .putfield 19, 8, 1, []), (17, 1, .return_, 0, 0, [])]
def kd_X8_degreeOf : List RI := [(0, 1, .aload_n 0, 0, 0, []), (1, 1, .arraylength, 0, 0, []), (2, 1, .iconst 1, 0, 0, []), (3, 1, .isub, 0, 0, []), (4, 1, .istore_n 1, 0, 0, []), (5, 0, .nop, 0, 0, [0, 1]), (5, 1, .iload_n 1, 0, 0, []), (6, 3, .ifCond .lt 15, 21, 0, []), (9, 1, .aload_n 0, 0, 0, []), (10, 1, .iload_n 1, 0, 0, []), (11, 1, .iaload, 0, 0, []), (12, 3, .ifCond .ne 9, 21, 0, []), (15, 3, .iinc 1 (-1), 0, 0, []), (18, 3, .goto (-13), 5, 0, []), (21, 1, .iload_n 1, 0, 0, []), (22, 1, .ireturn, 0, 0, [])]
def kd_X8_clear : List RI := [(0, 1, .iconst 0, 0, 0, []), (1, 1, .istore_n 1, 0, 0, []), (2, 0, .nop, 0, 0, [0, 1]), (2, 1, .iload_n 1, 0, 0, []), (3, 1, .aload_n 0, 0, 0, []), (4, 1, .arraylength, 0, 0, []), (5, 3, .if_icmp .ge 13, 18, 0, []), (8, 1, .aload_n 0, 0, 0, []), (9, 1, .iload_n 1, 0, 0, []), (10, 1, .iconst 0, 0, 0, []), (11, 1, .iastore, 0, 0, []), (12, 3, .iinc 1 1, 0, 0, []), (15, 3, .goto (-13), 2, 0, []), (18, 1, .return_, 0, 0, [])]
def kd_X8_copy : List RI := [(0, 1, .iconst 0, 0, 0, []), (1, 1, .istore_n 2, 0, 0, []), (2, 0, .nop, 0, 0, [0, 1, 2]), (2, 1, .iload_n 2, 0, 0, []), (3, 1, .aload_n 1, 0, 0, []), (4, 1, .arraylength, 0, 0, []), (5, 3, .if_icmp .ge 25, 30, 0, []), (8, 1, .aload_n 1, 0, 0, []), (9, 1, .iload_n 2, 0, 0, []), (10, 1, .iload_n 2, 0, 0, []), (11, 1, .aload_n 0, 0, 0, []), (12, 1, .arraylength, 0, 0, []), (13, 3, .if_icmp .ge 9, 22, 0, []), (16, 1, .aload_n 0, 0, 0, []), (17, 1, .iload_n 2, 0, 0, []), (18, 1, .iaload, 0, 0, []), (19, 3, .goto 4, 23, 0, []), (22, 1, .iconst 0, 0, 0, []), (23, 1, .iastore, 0, 0, []), (24, 3, .iinc 2 1, 0, 0, []), (27, 3, .goto (-25), 2, 0, []), (30, 1, .return_, 0, 0, [])]
def kd_X8_mix : List RI := [(0, 1, .iconst 0, 0, 0, []), (1, 2, .istore 4, 0, 0, []), (3, 0, .nop, 0, 0, [0, 1, 2, 3, 4]), (3, 2, .iload 4, 0, 0, []), (5, 1, .aload_n 1, 0, 0, []), (6, 1, .arraylength, 0, 0, []), (7, 3, .if_icmp .ge 36, 43, 0, []), (10, 2, .iload 4, 0, 0, []), (12, 1, .aload_n 2, 0, 0, []), (13, 1, .arraylength, 0, 0, []), (14, 3, .if_icmp .ge 29, 43, 0, []), (17, 1, .aload_n 1, 0, 0, []), (18, 2, .iload 4, 0, 0, []), (20, 1, .aload_n 0, 0, 0, []), (21, 3, .getfield 19, 8, 1, []), (24, 1, .aload_n 1, 0, 0, []), (25, 2, .iload 4, 0, 0, []), (27, 1, .iaload, 0, 0, []), (28, 1, .aload_n 2, 0, 0, []), (29, 2, .iload 4, 0, 0, []), (31, 1, .iaload, 0, 0, []), (32, 1, .iload_n 3, 0, 0, []), (33, 3, .invokevirtual 20, 24, 0, [3, 1, 0]), (36, 1, .iastore, 0, 0, []), (37, 3, .iinc 4 1, 0, 0, []), (40, 3, .goto (-37), 3, 0, []), (43, 1, .return_, 0, 0, [])]
def kd_X8_multiply : List RI := [(0, 1, .aload_n 1, 0, 0, []), (1, 3, .invokestatic 26, 120, 0, [1, 1, 0]), (4, 1, .istore_n 3, 0, 0, []), (5, 1, .aload_n 2, 0, 0, []), (6, 3, .invokestatic 26, 120, 0, [1, 1, 0]), (9, 2, .istore 4, 0, 0, []), (11, 1, .iload_n 3, 0, 0, []), (12, 3, .ifCond .lt 19, 31, 0, []), (15, 2, .iload 4, 0, 0, []), (17, 3, .ifCond .lt 14, 31, 0, []), (20, 1, .iload_n 3, 0, 0, []), (21, 2, .iload 4, 0, 0, []), (23, 1, .iadd, 0, 0, []), (24, 1, .aload_n 1, 0, 0, []), (25, 1, .arraylength, 0, 0, []), (26, 3, .if_icmp .lt 5, 31, 0, []), (29, 1, .iconst 0, 0, 0, []), (30, 1, .ireturn, 0, 0, []), (31, 2, .iload 4, 0, 0, []), (33, 3, .ifCond .ge 7, 40, 0, []), (36, 1, .iload_n 3, 0, 0, []), (37, 3, .goto 7, 44, 0, []), (40, 1, .iload_n 3, 0, 0, []), (41, 2, .iload 4, 0, 0, []), (43, 1, .iadd, 0, 0, []), (44, 2, .istore 5, 0, 0, []), (46, 0, .nop, 0, 0, [0, 1, 2, 4, 5]), (46, 2, .iload 5, 0, 0, []), (48, 3, .ifCond .lt 94, 142, 0, []), (51, 2, .iload 5, 0, 0, []), (53, 1, .aload_n 1, 0, 0, []), (54, 1, .arraylength, 0, 0, []), (55, 3, .if_icmp .ge 87, 142, 0, []), (58, 1, .iconst 0, 0, 0, []), (59, 2, .istore 6, 0, 0, []), (61, 1, .iconst 0, 0, 0, []), (62, 2, .istore 7, 0, 0, []), (64, 0, .nop, 0, 0, [0, 1, 2, 4, 5, 6, 7]), (64, 2, .iload 7, 0, 0, []), (66, 2, .iload 4, 0, 0, []), (68, 3, .if_icmp .gt 62, 130, 0, []), (71, 2, .iload 7, 0, 0, []), (73, 2, .iload 5, 0, 0, []), (75, 3, .if_icmp .gt 55, 130, 0, []), (78, 1, .aload_n 0, 0, 0, []), (79, 3, .getfield 7, 8, 0, []), (82, 1, .aload_n 1, 0, 0, []), (83, 2, .iload 5, 0, 0, []), (85, 2, .iload 7, 0, 0, []), (87, 1, .isub, 0, 0, []), (88, 1, .iaload, 0, 0, []), (89, 1, .aload_n 0, 0, 0, []), (90, 3, .getfield 7, 8, 0, []), (93, 1, .aload_n 2, 0, 0, []), (94, 2, .iload 7, 0, 0, []), (96, 1, .iaload, 0, 0, []), (97, 2, .iload 5, 0, 0, []), (99, 2, .iload 7, 0, 0, []), (101, 1, .isub, 0, 0, []), (102, 3, .invokevirtual 30, 97, 0, [2, 1, 0]), (105, 3, .invokevirtual 34, 95, 0, [2, 1, 0]), (108, 2, .istore 8, 0, 0, []), (110, 1, .aload_n 0, 0, 0, []), (111, 3, .getfield 19, 8, 1, []), (114, 2, .iload 6, 0, 0, []), (116, 2, .iload 8, 0, 0, []), (118, 1, .iconst 1, 0, 0, []), (119, 3, .invokevirtual 20, 24, 0, [3, 1, 0]), (122, 2, .istore 6, 0, 0, []), (124, 3, .iinc 7 1, 0, 0, []), (127, 3, .goto (-63), 64, 0, []), (130, 1, .aload_n 1, 0, 0, []), (131, 2, .iload 5, 0, 0, []), (133, 2, .iload 6, 0, 0, []), (135, 1, .iastore, 0, 0, []), (136, 3, .iinc 5 (-1), 0, 0, []), (139, 3, .goto (-93), 46, 0, []), (142, 1, .iconst 1, 0, 0, []), (143, 1, .ireturn, 0, 0, [])]
def kd_X8_divide : List RI := [(0, 1, .aload_n 3, 0, 0, []), (1, 3, .invokestatic 37, 121, 0, [1, 0, 0]), (4, 1, .aload_n 2, 0, 0, []), (5, 3, .invokestatic 26, 120, 0, [1, 1, 0]), (8, 2, .istore 4, 0, 0, []), (10, 2, .iload 4, 0, 0, []), (12, 3, .ifCond .ge 4, 16, 0, []), (15, 1, .return_, 0, 0, []), (16, 1, .aload_n 1, 0, 0, []), (17, 3, .invokestatic 26, 120, 0, [1, 1, 0]), (20, 2, .iload 4, 0, 0, []), (22, 1, .isub, 0, 0, []), (23, 2, .istore 5, 0, 0, []), (25, 0, .nop, 0, 0, [0, 1, 2, 3, 4, 5]), (25, 2, .iload 5, 0, 0, []), (27, 3, .ifCond .lt 114, 141, 0, []), (30, 2, .iload 5, 0, 0, []), (32, 1, .aload_n 3, 0, 0, []), (33, 1, .arraylength, 0, 0, []), (34, 3, .if_icmp .ge 107, 141, 0, []), (37, 1, .aload_n 0, 0, 0, []), (38, 3, .getfield 7, 8, 0, []), (41, 1, .aload_n 1, 0, 0, []), (42, 2, .iload 5, 0, 0, []), (44, 2, .iload 4, 0, 0, []), (46, 1, .iadd, 0, 0, []), (47, 1, .iaload, 0, 0, []), (48, 1, .aload_n 0, 0, 0, []), (49, 3, .getfield 7, 8, 0, []), (52, 1, .aload_n 2, 0, 0, []), (53, 2, .iload 4, 0, 0, []), (55, 1, .iaload, 0, 0, []), (56, 2, .iload 5, 0, 0, []), (58, 3, .invokevirtual 30, 97, 0, [2, 1, 0]), (61, 3, .invokevirtual 41, 96, 0, [2, 1, 0]), (64, 2, .istore 6, 0, 0, []), (66, 1, .aload_n 3, 0, 0, []), (67, 2, .iload 5, 0, 0, []), (69, 2, .iload 6, 0, 0, []), (71, 1, .iastore, 0, 0, []), (72, 1, .iconst 0, 0, 0, []), (73, 2, .istore 7, 0, 0, []), (75, 0, .nop, 0, 0, [0, 1, 2, 3, 4, 5, 6, 7]), (75, 2, .iload 7, 0, 0, []), (77, 2, .iload 4, 0, 0, []), (79, 3, .if_icmp .gt 56, 135, 0, []), (82, 1, .aload_n 0, 0, 0, []), (83, 3, .getfield 7, 8, 0, []), (86, 2, .iload 6, 0, 0, []), (88, 1, .aload_n 0, 0, 0, []), (89, 3, .getfield 7, 8, 0, []), (92, 1, .aload_n 2, 0, 0, []), (93, 2, .iload 7, 0, 0, []), (95, 1, .iaload, 0, 0, []), (96, 2, .iload 5, 0, 0, []), (98, 3, .invokevirtual 30, 97, 0, [2, 1, 0]), (101, 3, .invokevirtual 34, 95, 0, [2, 1, 0]), (104, 2, .istore 8, 0, 0, []), (106, 1, .aload_n 1, 0, 0, []), (107, 2, .iload 5, 0, 0, []), (109, 2, .iload 7, 0, 0, []), (111, 1, .iadd, 0, 0, []), (112, 1, .aload_n 0, 0, 0, []), (113, 3, .getfield 19, 8, 1, []), (116, 1, .aload_n 1, 0, 0, []), (117, 2, .iload 5, 0, 0, []), (119, 2, .iload 7, 0, 0, []), (121, 1, .iadd, 0, 0, []), (122, 1, .iaload, 0, 0, []), (123, 2, .iload 8, 0, 0, []), (125, 3, .invokevirtual 44, 26, 0, [2, 1, 0]), (128, 1, .iastore, 0, 0, []), (129, 3, .iinc 7 1, 0, 0, []), (132, 3, .goto (-57), 75, 0, []), (135, 3, .iinc 5 (-1), 0, 0, []), (138, 3, .goto (-113), 25, 0, []), (141, 1, .return_, 0, 0, [])]
def kd_X8_valueAt : List RI := [(0, 1, .iconst 0, 0, 0, []), (1, 1, .istore_n 3, 0, 0, []), (2, 1, .iconst 0, 0, 0, []), (3, 2, .istore 4, 0, 0, []), (5, 0, .nop, 0, 0, [0, 1, 2, 3, 4]), (5, 2, .iload 4, 0, 0, []), (7, 1, .aload_n 1, 0, 0, []), (8, 1, .arraylength, 0, 0, []), (9, 3, .if_icmp .ge 47, 56, 0, []), (12, 1, .aload_n 1, 0, 0, []), (13, 2, .iload 4, 0, 0, []), (15, 1, .iaload, 0, 0, []), (16, 3, .ifCond .eq 34, 50, 0, []), (19, 1, .aload_n 0, 0, 0, []), (20, 3, .getfield 19, 8, 1, []), (23, 1, .iload_n 3, 0, 0, []), (24, 1, .aload_n 0, 0, 0, []), (25, 3, .getfield 7, 8, 0, []), (28, 1, .aload_n 1, 0, 0, []), (29, 2, .iload 4, 0, 0, []), (31, 1, .iaload, 0, 0, []), (32, 1, .aload_n 0, 0, 0, []), (33, 3, .getfield 7, 8, 0, []), (36, 1, .iload_n 2, 0, 0, []), (37, 2, .iload 4, 0, 0, []), (39, 3, .invokevirtual 30, 97, 0, [2, 1, 0]), (42, 3, .invokevirtual 34, 95, 0, [2, 1, 0]), (45, 1, .iconst 1, 0, 0, []), (46, 3, .invokevirtual 20, 24, 0, [3, 1, 0]), (49, 1, .istore_n 3, 0, 0, []), (50, 3, .iinc 4 1, 0, 0, []), (53, 3, .goto (-48), 5, 0, []), (56, 1, .iload_n 3, 0, 0, []), (57, 1, .ireturn, 0, 0, [])]
def kd_X9_init : List RI := [(0, 1, .aload_n 0, 0, 0, []), (1, 3, .invokespecial 1, 0, 0, []), (4, 1, .aload_n 0, 0, 0, []), (5, 3, .new 7, 1, 0, []), (8, 1, .dup, 0, 0, []), (9, 3, .invokespecial 9, 13, 0, [0, 9, 0]), (12, 3, .putfield 10, 9, 0, []), (15, 1, .aload_n 0, 0, 0, []), (16, 3, .new 16, 5, 0, []), (19, 1, .dup, 0, 0, []), (20, 1, .aload_n 0, 0, 0, []), (21, 3, .getfield 10, 9, 0, []), (24, 3, .invokespecial 18, 87, 0, [1, 9, 0]), (27, 3, .putfield 21, 9, 1, []), (30, 1, .aload_n 0, 0, 0, []), (31, 3, .new 25, 3, 0, []), (34, 1, .dup, 0, 0, []), (35, 1, .aload_n 0, 0, 0, []), (36, 3, .getfield 10, 9, 0, []), (39, 3, .invokespecial 27, 49, 0, [1, 9, 0]), (42, 3, .putfield 28, 9, 2, []), (45, 1, .aload_n 0, 0, 0, []), (46, 3, .new 32, 8, 0, []), (49, 1, .dup, 0, 0, []), (50, 1, .aload_n 0, 0, 0, []), (51, 3, .getfield 21, 9, 1, []), (54, 3, .invokespecial 34, 119, 0, [1, 9, 0]), (57, 3, .putfield 37, 9, 3, []), (60, 1, .aload_n 0, 0, 0, []), (61, 3, .new 41, 0, 0, []), (64, 1, .dup, 0, 0, []), (65, 1, .aload_n 0, 0, 0, []), (66, 3, .getfield 37, 9, 3, []), (69, 1, .aload_n 0, 0, 0, []), (70, 3, .getfield 28, 9, 2, []), (73, 3, .invokespecial 43, 0, 0, [2, 9, 0]), (76, 3, .putfield 46, 9, 4, []), (79, 1, .aload_n 0, 0, 0, []), (80, 3, .new 50, 2, 0, []), (83, 1, .dup, 0, 0, []), (84, 1, .aload_n 0, 0, 0, []), (85, 3, .getfield 46, 9, 4, []), (88, 3, .invokespecial 52, 37, 0, [1, 9, 0]), (91, 3, .putfield 55, 9, 5, []), (94, 1, .aload_n 0, 0, 0, []), (95, 3, .new 59, 4, 0, []), (98, 1, .dup, 0, 0, []), (99, 1, .aload_n 0, 0, 0, []), (100, 3, .getfield 37, 9, 3, []), (103, 3, .invokespecial 61, 59, 0, [1, 9, 0]), (106, 3, .putfield 64, 9, 6, []), (109, 1, .aload_n 0, 0, 0, []), (110, 3, .new 68, 6, 0, []), (113, 1, .dup, 0, 0, []), (114, 3, .invokespecial 70, 98, 0, [0, 9, 0]), (117, 3, .putfield 71, 9, 7, []), (120, 1, .aload_n 0, 0, 0, []), (121, 3, .new 68, 6, 0, []), (124, 1, .dup, 0, 0, []), (125, 3, .invokespecial 70, 98, 0, [0, 9, 0]), (128, 3, .putfield 75, 9, 8, []), (131, 1, .aload_n 0, 0, 0, []), (132, 1, .iconst 4, 0, 0, []), (133, 3, .sipush 300, 0, 0, []), (136, 4, .multianewarray 78 2, 0, 0, []), (140, 3, .putfield 80, 9, 9, []), (143, 1, .aload_n 0, 0, 0, []), (144, 1, .iconst 4, 0, 0, []), (145, 2, .newarray .int, 0, 0, []), (147, 3, .putfield 83, 9, 10, []), (150, 1, .aload_n 0, 0, 0, []), (151, 3, .sipush 300, 0, 0, []), (154, 2, .newarray .int, 0, 0, []), (156, 3, .putfield 87, 9, 11, []), (159, 1, .aload_n 0, 0, 0, []), (160, 2, .bipush 25, 0, 0, []), (162, 2, .newarray .int, 0, 0, []), (164, 3, .putfield 90, 9, 12, []), (167, 1, .aload_n 0, 0, 0, []), (168, 1, .iconst 0, 0, 0, []), (169, 3, .putfield 93, 9, 13, []), (172, 1, .aload_n 0, 0, 0, []), (173, 1, .iconst (-1), 0, 0, []), (174, 3, .putfield 97, 9, 14, []), (177, 1, .aload_n 0, 0, 0, []), (178, 1, .iconst (-1), 0, 0, []), (179, 3, .putfield 100, 9, 15, []), (182, 1, .aload_n 0, 0, 0, []), (183, 3, .getfield 71, 9, 7, []), (186, 1, .iconst 2, 0, 0, []), (187, 1, .iconst 2, 0, 0, []), (188, 3, .invokevirtual 103, 99, 0, [2, 0, 0]), (191, 1, .aload_n 0, 0, 0, []), (192, 3, .getfield 75, 9, 8, []), (195, 1, .aload_n 0, 0, 0, []), (196, 3, .getfield 71, 9, 7, []), (199, 3, .invokevirtual 107, 100, 0, [1, 0, 0]), (202, 1, .aload_n 0, 0, 0, []), (203, 3, .getfield 21, 9, 1, []), (206, 1, .iconst 2, 0, 0, []), (207, 3, .invokevirtual 111, 88, 0, [1, 0, 0]), (210, 1, .return_, 0, 0, [])]
def kd_X9_world : List RI := [(0, 1, .iload_n 1, 0, 0, []), (1, 1, .iconst 2, 0, 0, []), (2, 3, .if_icmp .eq 15, 17, 0, []), (5, 1, .iload_n 1, 0, 0, []), (6, 1, .iconst 3, 0, 0, []), (7, 3, .if_icmp .eq 10, 17, 0, []), (10, 1, .iload_n 1, 0, 0, []), (11, 1, .iconst 5, 0, 0, []), (12, 3, .if_icmp .eq 5, 17, 0, []), (15, 1, .iconst (-1), 0, 0, []), (16, 1, .ireturn, 0, 0, []), (17, 1, .aload_n 0, 0, 0, []), (18, 3, .getfield 10, 9, 0, []), (21, 3, .invokevirtual 115, 15, 0, [0, 1, 0]), (24, 1, .istore_n 3, 0, 0, []), (25, 1, .aload_n 0, 0, 0, []), (26, 3, .getfield 10, 9, 0, []), (29, 1, .iload_n 1, 0, 0, []), (30, 3, .invokevirtual 119, 14, 0, [1, 0, 0]), (33, 1, .aload_n 0, 0, 0, []), (34, 1, .iload_n 2, 0, 0, []), (35, 3, .invokevirtual 122, 161, 0, [1, 1, 0]), (38, 3, .ifCond .ne 13, 51, 0, []), (41, 1, .aload_n 0, 0, 0, []), (42, 3, .getfield 10, 9, 0, []), (45, 1, .iload_n 3, 0, 0, []), (46, 3, .invokevirtual 119, 14, 0, [1, 0, 0]), (49, 1, .iconst (-1), 0, 0, []), (50, 1, .ireturn, 0, 0, []), (51, 1, .aload_n 0, 0, 0, []), (52, 3, .getfield 71, 9, 7, []), (55, 1, .iload_n 1, 0, 0, []), (56, 1, .iload_n 2, 0, 0, []), (57, 3, .invokevirtual 103, 99, 0, [2, 0, 0]), (60, 1, .aload_n 0, 0, 0, []), (61, 3, .getfield 21, 9, 1, []), (64, 1, .iload_n 2, 0, 0, []), (65, 3, .invokevirtual 111, 88, 0, [1, 0, 0]), (68, 1, .aload_n 0, 0, 0, []), (69, 3, .getfield 21, 9, 1, []), (72, 3, .invokevirtual 126, 92, 0, [0, 1, 0]), (75, 1, .ireturn, 0, 0, [])]
def kd_X9_work : List RI := [(0, 1, .aload_n 0, 0, 0, []), (1, 3, .getfield 21, 9, 1, []), (4, 1, .iload_n 2, 0, 0, []), (5, 3, .invokevirtual 129, 93, 0, [1, 1, 0]), (8, 3, .ifCond .eq 14, 22, 0, []), (11, 1, .aload_n 0, 0, 0, []), (12, 3, .getfield 21, 9, 1, []), (15, 1, .iload_n 3, 0, 0, []), (16, 3, .invokevirtual 129, 93, 0, [1, 1, 0]), (19, 3, .ifCond .ne 5, 24, 0, []), (22, 1, .iconst (-1), 0, 0, []), (23, 1, .ireturn, 0, 0, []), (24, 1, .iload_n 1, 0, 0, []), (25, 31, .tableswitch 79 0 3 #[31, 41, 51, 61], 104, 0, [0, 56, 1, 66, 2, 76, 3, 86]), (56, 1, .aload_n 0, 0, 0, []), (57, 3, .getfield 10, 9, 0, []), (60, 1, .iload_n 2, 0, 0, []), (61, 1, .iload_n 3, 0, 0, []), (62, 3, .invokevirtual 132, 25, 0, [2, 1, 0]), (65, 1, .ireturn, 0, 0, []), (66, 1, .aload_n 0, 0, 0, []), (67, 3, .getfield 10, 9, 0, []), (70, 1, .iload_n 2, 0, 0, []), (71, 1, .iload_n 3, 0, 0, []), (72, 3, .invokevirtual 136, 26, 0, [2, 1, 0]), (75, 1, .ireturn, 0, 0, []), (76, 1, .aload_n 0, 0, 0, []), (77, 3, .getfield 21, 9, 1, []), (80, 1, .iload_n 2, 0, 0, []), (81, 1, .iload_n 3, 0, 0, []), (82, 3, .invokevirtual 139, 95, 0, [2, 1, 0]), (85, 1, .ireturn, 0, 0, []), (86, 1, .iload_n 3, 0, 0, []), (87, 3, .ifCond .ne 7, 94, 0, []), (90, 1, .iconst (-1), 0, 0, []), (91, 3, .goto 12, 103, 0, []), (94, 1, .aload_n 0, 0, 0, []), (95, 3, .getfield 21, 9, 1, []), (98, 1, .iload_n 2, 0, 0, []), (99, 1, .iload_n 3, 0, 0, []), (100, 3, .invokevirtual 142, 96, 0, [2, 1, 0]), (103, 1, .ireturn, 0, 0, []), (104, 1, .iconst (-1), 0, 0, []), (105, 1, .ireturn, 0, 0, [])]
def kd_X9_poly : List RI := [(0, 1, .aload_n 0, 0, 0, []), (1, 3, .getfield 10, 9, 0, []), (4, 1, .iload_n 2, 0, 0, []), (5, 3, .invokevirtual 145, 17, 0, [1, 1, 0]), (8, 3, .ifCond .eq 14, 22, 0, []), (11, 1, .aload_n 0, 0, 0, []), (12, 3, .getfield 10, 9, 0, []), (15, 1, .iload_n 3, 0, 0, []), (16, 3, .invokevirtual 145, 17, 0, [1, 1, 0]), (19, 3, .ifCond .ne 5, 24, 0, []), (22, 1, .iconst (-1), 0, 0, []), (23, 1, .ireturn, 0, 0, []), (24, 1, .iload_n 1, 0, 0, []), (25, 39, .tableswitch 131 0 5 #[39, 49, 59, 85, 103, 121], 156, 0, [0, 64, 1, 74, 2, 84, 3, 110, 4, 128, 5, 146]), (64, 1, .aload_n 0, 0, 0, []), (65, 3, .getfield 10, 9, 0, []), (68, 1, .iload_n 2, 0, 0, []), (69, 1, .iload_n 3, 0, 0, []), (70, 3, .invokevirtual 132, 25, 0, [2, 1, 0]), (73, 1, .ireturn, 0, 0, []), (74, 1, .aload_n 0, 0, 0, []), (75, 3, .getfield 10, 9, 0, []), (78, 1, .iload_n 2, 0, 0, []), (79, 1, .iload_n 3, 0, 0, []), (80, 3, .invokevirtual 136, 26, 0, [2, 1, 0]), (83, 1, .ireturn, 0, 0, []), (84, 1, .aload_n 0, 0, 0, []), (85, 3, .getfield 10, 9, 0, []), (88, 1, .iload_n 2, 0, 0, []), (89, 1, .iload_n 3, 0, 0, []), (90, 3, .invokevirtual 146, 28, 0, [2, 1, 0]), (93, 3, .ifCond .eq 15, 108, 0, []), (96, 1, .aload_n 0, 0, 0, []), (97, 3, .getfield 10, 9, 0, []), (100, 1, .iload_n 2, 0, 0, []), (101, 1, .iload_n 3, 0, 0, []), (102, 3, .invokevirtual 150, 29, 0, [2, 1, 0]), (105, 3, .goto 4, 109, 0, []), (108, 1, .iconst (-1), 0, 0, []), (109, 1, .ireturn, 0, 0, []), (110, 1, .iload_n 3, 0, 0, []), (111, 3, .ifCond .ne 7, 118, 0, []), (114, 1, .iconst (-1), 0, 0, []), (115, 3, .goto 12, 127, 0, []), (118, 1, .aload_n 0, 0, 0, []), (119, 3, .getfield 10, 9, 0, []), (122, 1, .iload_n 2, 0, 0, []), (123, 1, .iload_n 3, 0, 0, []), (124, 3, .invokevirtual 151, 30, 0, [2, 1, 0]), (127, 1, .ireturn, 0, 0, []), (128, 1, .iload_n 3, 0, 0, []), (129, 3, .ifCond .ne 7, 136, 0, []), (132, 1, .iconst (-1), 0, 0, []), (133, 3, .goto 12, 145, 0, []), (136, 1, .aload_n 0, 0, 0, []), (137, 3, .getfield 10, 9, 0, []), (140, 1, .iload_n 2, 0, 0, []), (141, 1, .iload_n 3, 0, 0, []), (142, 3, .invokevirtual 154, 31, 0, [2, 1, 0]), (145, 1, .ireturn, 0, 0, []), (146, 1, .aload_n 0, 0, 0, []), (147, 3, .getfield 10, 9, 0, []), (150, 1, .iload_n 2, 0, 0, []), (151, 1, .iload_n 3, 0, 0, []), (152, 3, .invokevirtual 155, 32, 0, [2, 1, 0]), (155, 1, .ireturn, 0, 0, []), (156, 1, .iconst (-1), 0, 0, []), (157, 1, .ireturn, 0, 0, [])]
def kd_X9_module : List RI := [(0, 1, .aload_n 0, 0, 0, []), (1, 3, .getfield 21, 9, 1, []), (4, 1, .iload_n 1, 0, 0, []), (5, 3, .invokevirtual 129, 93, 0, [1, 1, 0]), (8, 3, .ifCond .eq 37, 45, 0, []), (11, 1, .aload_n 0, 0, 0, []), (12, 3, .getfield 21, 9, 1, []), (15, 1, .iload_n 2, 0, 0, []), (16, 3, .invokevirtual 129, 93, 0, [1, 1, 0]), (19, 3, .ifCond .eq 26, 45, 0, []), (22, 1, .aload_n 0, 0, 0, []), (23, 3, .getfield 21, 9, 1, []), (26, 1, .iload_n 3, 0, 0, []), (27, 3, .invokevirtual 129, 93, 0, [1, 1, 0]), (30, 3, .ifCond .eq 15, 45, 0, []), (33, 1, .aload_n 0, 0, 0, []), (34, 3, .getfield 21, 9, 1, []), (37, 2, .iload 4, 0, 0, []), (39, 3, .invokevirtual 129, 93, 0, [1, 1, 0]), (42, 3, .ifCond .ne 5, 47, 0, []), (45, 1, .iconst (-1), 0, 0, []), (46, 1, .ireturn, 0, 0, []), (47, 1, .aload_n 0, 0, 0, []), (48, 1, .iload_n 1, 0, 0, []), (49, 1, .iload_n 2, 0, 0, []), (50, 1, .iload_n 3, 0, 0, []), (51, 2, .iload 4, 0, 0, []), (53, 3, .invokevirtual 158, 164, 0, [4, 0, 0]), (56, 1, .aload_n 0, 0, 0, []), (57, 3, .getfield 71, 9, 7, []), (60, 1, .iconst 0, 0, 0, []), (61, 1, .aload_n 0, 0, 0, []), (62, 3, .getfield 90, 9, 12, []), (65, 3, .invokevirtual 162, 110, 0, [2, 1, 0]), (68, 1, .ireturn, 0, 0, [])]
def kd_X9_map : List RI := [(0, 1, .aload_n 0, 0, 0, []), (1, 3, .getfield 21, 9, 1, []), (4, 1, .iload_n 1, 0, 0, []), (5, 3, .invokevirtual 129, 93, 0, [1, 1, 0]), (8, 3, .ifCond .eq 25, 33, 0, []), (11, 1, .aload_n 0, 0, 0, []), (12, 3, .getfield 21, 9, 1, []), (15, 1, .iload_n 2, 0, 0, []), (16, 3, .invokevirtual 129, 93, 0, [1, 1, 0]), (19, 3, .ifCond .eq 14, 33, 0, []), (22, 1, .aload_n 0, 0, 0, []), (23, 3, .getfield 21, 9, 1, []), (26, 1, .iload_n 3, 0, 0, []), (27, 3, .invokevirtual 129, 93, 0, [1, 1, 0]), (30, 3, .ifCond .ne 5, 35, 0, []), (33, 1, .iconst (-1), 0, 0, []), (34, 1, .ireturn, 0, 0, []), (35, 1, .aload_n 0, 0, 0, []), (36, 1, .iload_n 1, 0, 0, []), (37, 1, .iload_n 2, 0, 0, []), (38, 1, .iload_n 3, 0, 0, []), (39, 1, .iconst 0, 0, 0, []), (40, 3, .invokevirtual 158, 164, 0, [4, 0, 0]), (43, 1, .aload_n 0, 0, 0, []), (44, 3, .getfield 71, 9, 7, []), (47, 1, .iconst 1, 0, 0, []), (48, 1, .aload_n 0, 0, 0, []), (49, 3, .getfield 90, 9, 12, []), (52, 3, .invokevirtual 162, 110, 0, [2, 1, 0]), (55, 1, .ireturn, 0, 0, [])]
def kd_X9_feed : List RI := [(0, 1, .aload_n 0, 0, 0, []), (1, 3, .getfield 93, 9, 13, []), (4, 3, .sipush 280, 0, 0, []), (7, 3, .if_icmp .le 5, 12, 0, []), (10, 1, .iconst (-1), 0, 0, []), (11, 1, .ireturn, 0, 0, []), (12, 1, .aload_n 0, 0, 0, []), (13, 1, .iload_n 1, 0, 0, []), (14, 3, .invokevirtual 166, 165, 0, [1, 0, 0]), (17, 1, .aload_n 0, 0, 0, []), (18, 1, .iload_n 2, 0, 0, []), (19, 3, .invokevirtual 166, 165, 0, [1, 0, 0]), (22, 1, .aload_n 0, 0, 0, []), (23, 1, .iload_n 3, 0, 0, []), (24, 3, .invokevirtual 166, 165, 0, [1, 0, 0]), (27, 1, .aload_n 0, 0, 0, []), (28, 2, .iload 4, 0, 0, []), (30, 3, .invokevirtual 166, 165, 0, [1, 0, 0]), (33, 1, .aload_n 0, 0, 0, []), (34, 2, .iload 5, 0, 0, []), (36, 3, .invokevirtual 166, 165, 0, [1, 0, 0]), (39, 1, .aload_n 0, 0, 0, []), (40, 3, .getfield 93, 9, 13, []), (43, 1, .ireturn, 0, 0, [])]
def kd_X9_end : List RI := [(0, 1, .iload_n 1, 0, 0, []), (1, 3, .ifCond .lt 11, 12, 0, []), (4, 1, .iload_n 1, 0, 0, []), (5, 1, .aload_n 0, 0, 0, []), (6, 3, .getfield 93, 9, 13, []), (9, 3, .if_icmp .le 5, 14, 0, []), (12, 1, .iconst (-1), 0, 0, []), (13, 1, .ireturn, 0, 0, []), (14, 1, .aload_n 0, 0, 0, []), (15, 1, .iload_n 1, 0, 0, []), (16, 3, .putfield 93, 9, 13, []), (19, 1, .iload_n 1, 0, 0, []), (20, 1, .ireturn, 0, 0, [])]
def kd_X9_text : List RI := [(0, 1, .aload_n 0, 0, 0, []), (1, 3, .getfield 71, 9, 7, []), (4, 3, .invokevirtual 169, 103, 0, [0, 1, 0]), (7, 1, .istore_n 1, 0, 0, []), (8, 1, .iload_n 1, 0, 0, []), (9, 3, .ifCond .lt 8, 17, 0, []), (12, 1, .iload_n 1, 0, 0, []), (13, 1, .iconst 4, 0, 0, []), (14, 3, .if_icmp .lt 5, 19, 0, []), (17, 1, .iconst (-1), 0, 0, []), (18, 1, .ireturn, 0, 0, []), (19, 1, .aload_n 0, 0, 0, []), (20, 1, .aload_n 0, 0, 0, []), (21, 3, .getfield 64, 9, 6, []), (24, 1, .aload_n 0, 0, 0, []), (25, 3, .getfield 87, 9, 11, []), (28, 1, .aload_n 0, 0, 0, []), (29, 3, .getfield 93, 9, 13, []), (32, 3, .invokevirtual 171, 60, 0, [2, 1, 0]), (35, 3, .putfield 97, 9, 14, []), (38, 1, .aload_n 0, 0, 0, []), (39, 1, .aload_n 0, 0, 0, []), (40, 3, .getfield 64, 9, 6, []), (43, 3, .invokevirtual 175, 61, 0, [0, 1, 0]), (46, 3, .putfield 100, 9, 15, []), (49, 1, .aload_n 0, 0, 0, []), (50, 3, .getfield 97, 9, 14, []), (53, 3, .ifCond .ne 42, 95, 0, []), (56, 1, .aload_n 0, 0, 0, []), (57, 3, .getfield 87, 9, 11, []), (60, 1, .iconst 0, 0, 0, []), (61, 1, .aload_n 0, 0, 0, []), (62, 3, .getfield 80, 9, 9, []), (65, 1, .iload_n 1, 0, 0, []), (66, 1, .aaload, 0, 1, []), (67, 1, .iconst 0, 0, 0, []), (68, 1, .aload_n 0, 0, 0, []), (69, 3, .getfield 93, 9, 13, []), (72, 3, .invokestatic 178, 0, 0, [2]), (75, 1, .aload_n 0, 0, 0, []), (76, 3, .getfield 83, 9, 10, []), (79, 1, .iload_n 1, 0, 0, []), (80, 1, .aload_n 0, 0, 0, []), (81, 3, .getfield 93, 9, 13, []), (84, 1, .iastore, 0, 1, []), (85, 1, .aload_n 0, 0, 0, []), (86, 3, .getfield 71, 9, 7, []), (89, 3, .invokevirtual 184, 104, 0, [0, 0, 0]), (92, 3, .goto 5, 97, 0, []), (95, 1, .iconst (-1), 0, 0, []), (96, 1, .istore_n 1, 0, 0, []), (97, 1, .aload_n 0, 0, 0, []), (98, 1, .iconst 0, 0, 0, []), (99, 3, .putfield 93, 9, 13, []), (102, 1, .iload_n 1, 0, 0, []), (103, 1, .ireturn, 0, 0, [])]
def kd_X9_fault : List RI := [(0, 1, .iload_n 1, 0, 0, []), (1, 27, .lookupswitch 37 #[(0, 27), (1, 32)], 38, 0, [0, 28, 1, 33]), (28, 1, .aload_n 0, 0, 0, []), (29, 3, .getfield 97, 9, 14, []), (32, 1, .ireturn, 0, 0, []), (33, 1, .aload_n 0, 0, 0, []), (34, 3, .getfield 100, 9, 15, []), (37, 1, .ireturn, 0, 0, []), (38, 1, .iconst (-1), 0, 0, []), (39, 1, .ireturn, 0, 0, [])]
def kd_X9_told : List RI := [(0, 1, .iload_n 1, 0, 0, []), (1, 3, .ifCond .lt 19, 20, 0, []), (4, 1, .iload_n 1, 0, 0, []), (5, 1, .aload_n 0, 0, 0, []), (6, 3, .getfield 71, 9, 7, []), (9, 3, .invokevirtual 169, 103, 0, [0, 1, 0]), (12, 3, .if_icmp .ge 8, 20, 0, []), (15, 1, .iload_n 1, 0, 0, []), (16, 1, .iconst 4, 0, 0, []), (17, 3, .if_icmp .lt 6, 23, 0, []), (20, 2, .bipush (-2), 0, 0, []), (22, 1, .ireturn, 0, 0, []), (23, 1, .aload_n 0, 0, 0, []), (24, 3, .getfield 64, 9, 6, []), (27, 1, .aload_n 0, 0, 0, []), (28, 3, .getfield 80, 9, 9, []), (31, 1, .iload_n 1, 0, 0, []), (32, 1, .aaload, 0, 1, []), (33, 1, .aload_n 0, 0, 0, []), (34, 3, .getfield 83, 9, 10, []), (37, 1, .iload_n 1, 0, 0, []), (38, 1, .iaload, 0, 1, []), (39, 1, .iconst 1, 0, 0, []), (40, 3, .invokevirtual 187, 62, 0, [3, 0, 0]), (43, 1, .iconst 0, 0, 0, []), (44, 1, .istore_n 2, 0, 0, []), (45, 0, .nop, 0, 0, [0, 2]), (45, 1, .iload_n 2, 0, 0, []), (46, 2, .bipush 20, 0, 0, []), (48, 3, .if_icmp .ge 67, 115, 0, []), (51, 1, .aload_n 0, 0, 0, []), (52, 3, .getfield 64, 9, 6, []), (55, 3, .invokevirtual 190, 65, 0, [0, 1, 0]), (58, 1, .istore_n 3, 0, 0, []), (59, 1, .iload_n 3, 0, 0, []), (60, 3, .ifCond .ne 5, 65, 0, []), (63, 1, .iconst (-1), 0, 0, []), (64, 1, .ireturn, 0, 0, []), (65, 1, .iload_n 3, 0, 0, []), (66, 1, .iconst 2, 0, 0, []), (67, 3, .if_icmp .ne 7, 74, 0, []), (70, 1, .iconst 1, 0, 0, []), (71, 3, .goto 4, 75, 0, []), (74, 1, .iconst 0, 0, 0, []), (75, 2, .istore 4, 0, 0, []), (77, 1, .aload_n 0, 0, 0, []), (78, 3, .getfield 64, 9, 6, []), (81, 3, .invokevirtual 193, 63, 0, [0, 1, 0]), (84, 3, .ifCond .ne 23, 107, 0, []), (87, 1, .aload_n 0, 0, 0, []), (88, 3, .getfield 71, 9, 7, []), (91, 2, .iload 4, 0, 0, []), (93, 1, .aload_n 0, 0, 0, []), (94, 3, .getfield 64, 9, 6, []), (97, 3, .invokevirtual 197, 64, 0, [0, 2, 0]), (100, 3, .invokevirtual 162, 110, 0, [2, 1, 0]), (103, 1, .iconst (-1), 0, 0, []), (104, 3, .if_icmp .ne 5, 109, 0, []), (107, 1, .iload_n 2, 0, 0, []), (108, 1, .ireturn, 0, 0, []), (109, 3, .iinc 2 1, 0, 0, []), (112, 3, .goto (-67), 45, 0, []), (115, 1, .iconst (-1), 0, 0, []), (116, 1, .ireturn, 0, 0, [])]
def kd_X9_of : List RI := [(0, 1, .iload_n 1, 0, 0, []), (1, 3, .ifCond .eq 7, 8, 0, []), (4, 1, .iconst 1, 0, 0, []), (5, 3, .goto 4, 9, 0, []), (8, 1, .iconst 0, 0, 0, []), (9, 2, .istore 4, 0, 0, []), (11, 1, .aload_n 0, 0, 0, []), (12, 3, .getfield 71, 9, 7, []), (15, 2, .iload 4, 0, 0, []), (17, 1, .iload_n 2, 0, 0, []), (18, 3, .invokevirtual 201, 108, 0, [2, 1, 0]), (21, 3, .ifCond .eq 8, 29, 0, []), (24, 1, .iload_n 3, 0, 0, []), (25, 1, .iconst (-1), 0, 0, []), (26, 3, .if_icmp .ge 5, 31, 0, []), (29, 1, .iconst (-1), 0, 0, []), (30, 1, .ireturn, 0, 0, []), (31, 1, .aload_n 0, 0, 0, []), (32, 3, .getfield 71, 9, 7, []), (35, 2, .iload 4, 0, 0, []), (37, 1, .iload_n 2, 0, 0, []), (38, 3, .invokevirtual 204, 109, 0, [2, 2, 0]), (41, 2, .astore 5, 0, 0, []), (43, 1, .iload_n 3, 0, 0, []), (44, 1, .iconst (-1), 0, 0, []), (45, 3, .if_icmp .ne 9, 54, 0, []), (48, 2, .aload 5, 0, 0, []), (50, 3, .invokestatic 208, 120, 0, [1, 1, 0]), (53, 1, .ireturn, 0, 0, []), (54, 1, .iload_n 3, 0, 0, []), (55, 2, .aload 5, 0, 0, []), (57, 1, .arraylength, 0, 0, []), (58, 3, .if_icmp .ge 10, 68, 0, []), (61, 2, .aload 5, 0, 0, []), (63, 1, .iload_n 3, 0, 0, []), (64, 1, .iaload, 0, 0, []), (65, 3, .goto 4, 69, 0, []), (68, 1, .iconst 0, 0, 0, []), (69, 1, .ireturn, 0, 0, [])]
def kd_X9_act : List RI := [(0, 1, .aload_n 0, 0, 0, []), (1, 1, .iload_n 1, 0, 0, []), (2, 1, .iload_n 2, 0, 0, []), (3, 3, .invokevirtual 212, 162, 0, [2, 1, 0]), (6, 3, .ifCond .eq 14, 20, 0, []), (9, 1, .aload_n 0, 0, 0, []), (10, 3, .getfield 21, 9, 1, []), (13, 1, .iload_n 3, 0, 0, []), (14, 3, .invokevirtual 129, 93, 0, [1, 1, 0]), (17, 3, .ifCond .ne 5, 22, 0, []), (20, 1, .iconst (-1), 0, 0, []), (21, 1, .ireturn, 0, 0, []), (22, 1, .aload_n 0, 0, 0, []), (23, 3, .getfield 46, 9, 4, []), (26, 1, .aload_n 0, 0, 0, []), (27, 3, .getfield 71, 9, 7, []), (30, 1, .iconst 0, 0, 0, []), (31, 1, .iload_n 1, 0, 0, []), (32, 3, .invokevirtual 204, 109, 0, [2, 2, 0]), (35, 1, .iload_n 2, 0, 0, []), (36, 1, .iload_n 3, 0, 0, []), (37, 3, .invokevirtual 215, 1, 0, [3, 1, 0]), (40, 1, .ireturn, 0, 0, [])]
def kd_X9_acts : List RI := [(0, 1, .aload_n 0, 0, 0, []), (1, 1, .iload_n 1, 0, 0, []), (2, 1, .iload_n 2, 0, 0, []), (3, 3, .invokevirtual 212, 162, 0, [2, 1, 0]), (6, 3, .ifCond .eq 13, 19, 0, []), (9, 1, .iload_n 3, 0, 0, []), (10, 3, .ifCond .lt 9, 19, 0, []), (13, 1, .iload_n 3, 0, 0, []), (14, 2, .bipush 24, 0, 0, []), (16, 3, .if_icmp .le 5, 21, 0, []), (19, 1, .iconst (-1), 0, 0, []), (20, 1, .ireturn, 0, 0, []), (21, 1, .aload_n 0, 0, 0, []), (22, 3, .getfield 46, 9, 4, []), (25, 1, .aload_n 0, 0, 0, []), (26, 3, .getfield 71, 9, 7, []), (29, 1, .iconst 0, 0, 0, []), (30, 1, .iload_n 1, 0, 0, []), (31, 3, .invokevirtual 204, 109, 0, [2, 2, 0]), (34, 1, .iload_n 2, 0, 0, []), (35, 1, .aload_n 0, 0, 0, []), (36, 3, .getfield 90, 9, 12, []), (39, 3, .invokevirtual 219, 2, 0, [3, 1, 0]), (42, 3, .ifCond .ne 5, 47, 0, []), (45, 1, .iconst (-1), 0, 0, []), (46, 1, .ireturn, 0, 0, []), (47, 1, .aload_n 0, 0, 0, []), (48, 3, .getfield 90, 9, 12, []), (51, 1, .iload_n 3, 0, 0, []), (52, 1, .iaload, 0, 1, []), (53, 1, .ireturn, 0, 0, [])]
def kd_X9_send : List RI := [(0, 1, .aload_n 0, 0, 0, []), (1, 3, .getfield 71, 9, 7, []), (4, 1, .iconst 1, 0, 0, []), (5, 1, .iload_n 1, 0, 0, []), (6, 3, .invokevirtual 201, 108, 0, [2, 1, 0]), (9, 3, .ifCond .eq 14, 23, 0, []), (12, 1, .aload_n 0, 0, 0, []), (13, 3, .getfield 21, 9, 1, []), (16, 1, .iload_n 2, 0, 0, []), (17, 3, .invokevirtual 129, 93, 0, [1, 1, 0]), (20, 3, .ifCond .ne 5, 25, 0, []), (23, 1, .iconst (-1), 0, 0, []), (24, 1, .ireturn, 0, 0, []), (25, 1, .aload_n 0, 0, 0, []), (26, 3, .getfield 37, 9, 3, []), (29, 1, .aload_n 0, 0, 0, []), (30, 3, .getfield 71, 9, 7, []), (33, 1, .iconst 1, 0, 0, []), (34, 1, .iload_n 1, 0, 0, []), (35, 3, .invokevirtual 204, 109, 0, [2, 2, 0]), (38, 1, .iload_n 2, 0, 0, []), (39, 3, .invokevirtual 223, 126, 0, [2, 1, 0]), (42, 1, .ireturn, 0, 0, [])]
def kd_X9_noughts : List RI := [(0, 1, .aload_n 0, 0, 0, []), (1, 1, .iload_n 1, 0, 0, []), (2, 1, .iload_n 2, 0, 0, []), (3, 3, .invokevirtual 212, 162, 0, [2, 1, 0]), (6, 3, .ifCond .eq 8, 14, 0, []), (9, 1, .iload_n 3, 0, 0, []), (10, 1, .iconst (-1), 0, 0, []), (11, 3, .if_icmp .ge 5, 16, 0, []), (14, 1, .iconst (-1), 0, 0, []), (15, 1, .ireturn, 0, 0, []), (16, 1, .aload_n 0, 0, 0, []), (17, 3, .getfield 71, 9, 7, []), (20, 1, .iconst 0, 0, 0, []), (21, 1, .iload_n 1, 0, 0, []), (22, 3, .invokevirtual 204, 109, 0, [2, 2, 0]), (25, 2, .astore 4, 0, 0, []), (27, 1, .iconst 0, 0, 0, []), (28, 2, .istore 5, 0, 0, []), (30, 1, .iconst 0, 0, 0, []), (31, 2, .istore 6, 0, 0, []), (33, 0, .nop, 0, 0, [0, 2, 3, 4, 5, 6]), (33, 2, .iload 6, 0, 0, []), (35, 1, .aload_n 0, 0, 0, []), (36, 3, .getfield 21, 9, 1, []), (39, 3, .invokevirtual 126, 92, 0, [0, 1, 0]), (42, 3, .if_icmp .ge 36, 78, 0, []), (45, 1, .aload_n 0, 0, 0, []), (46, 3, .getfield 46, 9, 4, []), (49, 2, .aload 4, 0, 0, []), (51, 1, .iload_n 2, 0, 0, []), (52, 2, .iload 6, 0, 0, []), (54, 3, .invokevirtual 215, 1, 0, [3, 1, 0]), (57, 3, .ifCond .ne 15, 72, 0, []), (60, 2, .iload 5, 0, 0, []), (62, 1, .iload_n 3, 0, 0, []), (63, 3, .if_icmp .ne 6, 69, 0, []), (66, 2, .iload 6, 0, 0, []), (68, 1, .ireturn, 0, 0, []), (69, 3, .iinc 5 1, 0, 0, []), (72, 3, .iinc 6 1, 0, 0, []), (75, 3, .goto (-42), 33, 0, []), (78, 1, .iload_n 3, 0, 0, []), (79, 1, .iconst (-1), 0, 0, []), (80, 3, .if_icmp .ne 8, 88, 0, []), (83, 2, .iload 5, 0, 0, []), (85, 3, .goto 4, 89, 0, []), (88, 1, .iconst (-1), 0, 0, []), (89, 1, .ireturn, 0, 0, [])]
def kd_X9_about : List RI := [(0, 1, .aload_n 0, 0, 0, []), (1, 3, .getfield 71, 9, 7, []), (4, 1, .iconst 0, 0, 0, []), (5, 1, .iload_n 1, 0, 0, []), (6, 3, .invokevirtual 201, 108, 0, [2, 1, 0]), (9, 3, .ifCond .ne 5, 14, 0, []), (12, 1, .iconst (-1), 0, 0, []), (13, 1, .ireturn, 0, 0, []), (14, 1, .aload_n 0, 0, 0, []), (15, 3, .getfield 71, 9, 7, []), (18, 1, .iconst 0, 0, 0, []), (19, 1, .iload_n 1, 0, 0, []), (20, 3, .invokevirtual 204, 109, 0, [2, 2, 0]), (23, 1, .astore_n 3, 0, 0, []), (24, 1, .iload_n 2, 0, 0, []), (25, 27, .tableswitch 66 0 2 #[27, 38, 57], 91, 0, [0, 52, 1, 63, 2, 82]), (52, 1, .aload_n 0, 0, 0, []), (53, 3, .getfield 46, 9, 4, []), (56, 1, .aload_n 3, 0, 0, []), (57, 1, .iconst 0, 0, 0, []), (58, 1, .iaload, 0, 0, []), (59, 3, .invokevirtual 226, 3, 0, [1, 1, 0]), (62, 1, .ireturn, 0, 0, []), (63, 1, .aload_n 0, 0, 0, []), (64, 3, .getfield 46, 9, 4, []), (67, 1, .aload_n 3, 0, 0, []), (68, 1, .aload_n 0, 0, 0, []), (69, 3, .getfield 46, 9, 4, []), (72, 1, .aload_n 3, 0, 0, []), (73, 1, .iconst 0, 0, 0, []), (74, 1, .iaload, 0, 0, []), (75, 3, .invokevirtual 226, 3, 0, [1, 1, 0]), (78, 3, .invokevirtual 230, 4, 0, [2, 1, 0]), (81, 1, .ireturn, 0, 0, []), (82, 1, .aload_n 0, 0, 0, []), (83, 3, .getfield 46, 9, 4, []), (86, 1, .aload_n 3, 0, 0, []), (87, 3, .invokevirtual 233, 5, 0, [1, 1, 0]), (90, 1, .ireturn, 0, 0, []), (91, 1, .iconst (-1), 0, 0, []), (92, 1, .ireturn, 0, 0, [])]
def kd_X9_parts : List RI := [(0, 1, .aload_n 0, 0, 0, []), (1, 3, .getfield 71, 9, 7, []), (4, 1, .iconst 0, 0, 0, []), (5, 1, .iload_n 1, 0, 0, []), (6, 3, .invokevirtual 201, 108, 0, [2, 1, 0]), (9, 3, .ifCond .eq 8, 17, 0, []), (12, 1, .iload_n 2, 0, 0, []), (13, 1, .iconst (-1), 0, 0, []), (14, 3, .if_icmp .ge 5, 19, 0, []), (17, 1, .iconst (-1), 0, 0, []), (18, 1, .ireturn, 0, 0, []), (19, 1, .aload_n 0, 0, 0, []), (20, 3, .getfield 46, 9, 4, []), (23, 1, .aload_n 0, 0, 0, []), (24, 3, .getfield 71, 9, 7, []), (27, 1, .iconst 0, 0, 0, []), (28, 1, .iload_n 1, 0, 0, []), (29, 3, .invokevirtual 204, 109, 0, [2, 2, 0]), (32, 3, .invokevirtual 236, 7, 0, [1, 1, 0]), (35, 1, .istore_n 3, 0, 0, []), (36, 1, .iload_n 2, 0, 0, []), (37, 1, .iconst (-1), 0, 0, []), (38, 3, .if_icmp .ne 5, 43, 0, []), (41, 1, .iload_n 3, 0, 0, []), (42, 1, .ireturn, 0, 0, []), (43, 1, .iload_n 2, 0, 0, []), (44, 1, .iload_n 3, 0, 0, []), (45, 3, .if_icmp .ge 14, 59, 0, []), (48, 1, .aload_n 0, 0, 0, []), (49, 3, .getfield 46, 9, 4, []), (52, 1, .iload_n 2, 0, 0, []), (53, 3, .invokevirtual 239, 6, 0, [1, 1, 0]), (56, 3, .goto 4, 60, 0, []), (59, 1, .iconst (-1), 0, 0, []), (60, 1, .ireturn, 0, 0, [])]
def kd_X9_great : List RI := [(0, 1, .aload_n 0, 0, 0, []), (1, 3, .getfield 71, 9, 7, []), (4, 1, .iconst 0, 0, 0, []), (5, 1, .iload_n 1, 0, 0, []), (6, 3, .invokevirtual 201, 108, 0, [2, 1, 0]), (9, 3, .ifCond .ne 5, 14, 0, []), (12, 1, .iconst (-1), 0, 0, []), (13, 1, .ireturn, 0, 0, []), (14, 1, .aload_n 0, 0, 0, []), (15, 3, .getfield 71, 9, 7, []), (18, 1, .iconst 0, 0, 0, []), (19, 1, .iload_n 1, 0, 0, []), (20, 3, .invokevirtual 204, 109, 0, [2, 2, 0]), (23, 1, .astore_n 3, 0, 0, []), (24, 1, .aload_n 3, 0, 0, []), (25, 3, .invokestatic 208, 120, 0, [1, 1, 0]), (28, 1, .iconst 2, 0, 0, []), (29, 3, .if_icmp .eq 5, 34, 0, []), (32, 1, .iconst (-1), 0, 0, []), (33, 1, .ireturn, 0, 0, []), (34, 1, .iload_n 2, 0, 0, []), (35, 25, .lookupswitch 43 #[(0, 25), (1, 34)], 78, 0, [0, 60, 1, 69]), (60, 1, .aload_n 0, 0, 0, []), (61, 3, .getfield 46, 9, 4, []), (64, 1, .aload_n 3, 0, 0, []), (65, 3, .invokevirtual 242, 11, 0, [1, 1, 0]), (68, 1, .ireturn, 0, 0, []), (69, 1, .aload_n 0, 0, 0, []), (70, 3, .getfield 46, 9, 4, []), (73, 1, .aload_n 3, 0, 0, []), (74, 3, .invokevirtual 245, 10, 0, [1, 1, 0]), (77, 1, .ireturn, 0, 0, []), (78, 1, .iconst (-1), 0, 0, []), (79, 1, .ireturn, 0, 0, [])]
def kd_X9_leads : List RI := [(0, 1, .aload_n 0, 0, 0, []), (1, 1, .iload_n 1, 0, 0, []), (2, 1, .iload_n 2, 0, 0, []), (3, 3, .invokevirtual 248, 163, 0, [2, 1, 0]), (6, 3, .ifCond .eq 12, 18, 0, []), (9, 1, .iload_n 3, 0, 0, []), (10, 3, .ifCond .lt 8, 18, 0, []), (13, 1, .iload_n 3, 0, 0, []), (14, 1, .iconst 3, 0, 0, []), (15, 3, .if_icmp .le 5, 20, 0, []), (18, 1, .iconst (-1), 0, 0, []), (19, 1, .ireturn, 0, 0, []), (20, 1, .aload_n 0, 0, 0, []), (21, 3, .getfield 55, 9, 5, []), (24, 1, .aload_n 0, 0, 0, []), (25, 3, .getfield 71, 9, 7, []), (28, 1, .iconst 1, 0, 0, []), (29, 1, .iload_n 1, 0, 0, []), (30, 3, .invokevirtual 204, 109, 0, [2, 2, 0]), (33, 1, .aload_n 0, 0, 0, []), (34, 3, .getfield 71, 9, 7, []), (37, 1, .iconst 0, 0, 0, []), (38, 1, .iload_n 2, 0, 0, []), (39, 3, .invokevirtual 204, 109, 0, [2, 2, 0]), (42, 1, .aload_n 0, 0, 0, []), (43, 3, .getfield 90, 9, 12, []), (46, 3, .invokevirtual 251, 38, 0, [3, 1, 0]), (49, 3, .ifCond .ne 5, 54, 0, []), (52, 1, .iconst (-1), 0, 0, []), (53, 1, .ireturn, 0, 0, []), (54, 1, .aload_n 0, 0, 0, []), (55, 3, .getfield 90, 9, 12, []), (58, 1, .iload_n 3, 0, 0, []), (59, 1, .iaload, 0, 1, []), (60, 1, .ireturn, 0, 0, [])]
def kd_X9_dual : List RI := [(0, 1, .aload_n 0, 0, 0, []), (1, 1, .iload_n 1, 0, 0, []), (2, 1, .iload_n 2, 0, 0, []), (3, 3, .invokevirtual 248, 163, 0, [2, 1, 0]), (6, 3, .ifCond .eq 14, 20, 0, []), (9, 1, .iload_n 3, 0, 0, []), (10, 1, .iconst (-1), 0, 0, []), (11, 3, .if_icmp .lt 9, 20, 0, []), (14, 1, .iload_n 3, 0, 0, []), (15, 2, .bipush 24, 0, 0, []), (17, 3, .if_icmp .le 5, 22, 0, []), (20, 1, .iconst (-1), 0, 0, []), (21, 1, .ireturn, 0, 0, []), (22, 1, .aload_n 0, 0, 0, []), (23, 3, .getfield 71, 9, 7, []), (26, 1, .iconst 1, 0, 0, []), (27, 1, .iload_n 1, 0, 0, []), (28, 3, .invokevirtual 204, 109, 0, [2, 2, 0]), (31, 2, .astore 4, 0, 0, []), (33, 1, .aload_n 0, 0, 0, []), (34, 3, .getfield 71, 9, 7, []), (37, 1, .iconst 0, 0, 0, []), (38, 1, .iload_n 2, 0, 0, []), (39, 3, .invokevirtual 204, 109, 0, [2, 2, 0]), (42, 2, .astore 5, 0, 0, []), (44, 1, .aload_n 0, 0, 0, []), (45, 3, .getfield 55, 9, 5, []), (48, 2, .aload 4, 0, 0, []), (50, 2, .aload 5, 0, 0, []), (52, 1, .aload_n 0, 0, 0, []), (53, 3, .getfield 90, 9, 12, []), (56, 3, .invokevirtual 251, 38, 0, [3, 1, 0]), (59, 3, .ifCond .eq 17, 76, 0, []), (62, 1, .aload_n 0, 0, 0, []), (63, 3, .getfield 55, 9, 5, []), (66, 2, .aload 4, 0, 0, []), (68, 2, .aload 5, 0, 0, []), (70, 3, .invokevirtual 255, 39, 0, [2, 1, 0]), (73, 3, .goto 4, 77, 0, []), (76, 1, .iconst (-1), 0, 0, []), (77, 2, .istore 6, 0, 0, []), (79, 2, .iload 6, 0, 0, []), (81, 1, .iconst (-1), 0, 0, []), (82, 3, .if_icmp .eq 8, 90, 0, []), (85, 1, .iload_n 3, 0, 0, []), (86, 1, .iconst (-1), 0, 0, []), (87, 3, .if_icmp .ne 6, 93, 0, []), (90, 2, .iload 6, 0, 0, []), (92, 1, .ireturn, 0, 0, []), (93, 1, .aload_n 0, 0, 0, []), (94, 3, .getfield 55, 9, 5, []), (97, 2, .aload 4, 0, 0, []), (99, 2, .aload 5, 0, 0, []), (101, 2, .iload 6, 0, 0, []), (103, 1, .aload_n 0, 0, 0, []), (104, 3, .getfield 90, 9, 12, []), (107, 3, .invokevirtual 259, 40, 0, [4, 1, 0]), (110, 3, .ifCond .eq 12, 122, 0, []), (113, 1, .aload_n 0, 0, 0, []), (114, 3, .getfield 90, 9, 12, []), (117, 1, .iload_n 3, 0, 0, []), (118, 1, .iaload, 0, 1, []), (119, 3, .goto 4, 123, 0, []), (122, 1, .iconst (-1), 0, 0, []), (123, 1, .ireturn, 0, 0, [])]
def kd_X9_made : List RI := [(0, 1, .aload_n 0, 0, 0, []), (1, 3, .getfield 71, 9, 7, []), (4, 1, .iconst 0, 0, 0, []), (5, 1, .iload_n 1, 0, 0, []), (6, 3, .invokevirtual 201, 108, 0, [2, 1, 0]), (9, 3, .ifCond .eq 14, 23, 0, []), (12, 1, .aload_n 0, 0, 0, []), (13, 3, .getfield 21, 9, 1, []), (16, 1, .iload_n 2, 0, 0, []), (17, 3, .invokevirtual 129, 93, 0, [1, 1, 0]), (20, 3, .ifCond .ne 5, 25, 0, []), (23, 1, .iconst (-1), 0, 0, []), (24, 1, .ireturn, 0, 0, []), (25, 1, .aload_n 0, 0, 0, []), (26, 3, .getfield 55, 9, 5, []), (29, 1, .aload_n 0, 0, 0, []), (30, 3, .getfield 71, 9, 7, []), (33, 1, .iconst 0, 0, 0, []), (34, 1, .iload_n 1, 0, 0, []), (35, 3, .invokevirtual 204, 109, 0, [2, 2, 0]), (38, 1, .iload_n 2, 0, 0, []), (39, 1, .aload_n 0, 0, 0, []), (40, 3, .getfield 90, 9, 12, []), (43, 3, .invokevirtual 263, 41, 0, [3, 0, 0]), (46, 1, .aload_n 0, 0, 0, []), (47, 3, .getfield 71, 9, 7, []), (50, 1, .iconst 1, 0, 0, []), (51, 1, .aload_n 0, 0, 0, []), (52, 3, .getfield 90, 9, 12, []), (55, 3, .invokevirtual 162, 110, 0, [2, 1, 0]), (58, 1, .ireturn, 0, 0, [])]
def kd_X9_ends : List RI := [(0, 1, .aload_n 0, 0, 0, []), (1, 3, .getfield 71, 9, 7, []), (4, 1, .iconst 0, 0, 0, []), (5, 1, .iload_n 1, 0, 0, []), (6, 3, .invokevirtual 201, 108, 0, [2, 1, 0]), (9, 3, .ifCond .eq 12, 21, 0, []), (12, 1, .iload_n 2, 0, 0, []), (13, 3, .ifCond .lt 8, 21, 0, []), (16, 1, .iload_n 2, 0, 0, []), (17, 1, .iconst 2, 0, 0, []), (18, 3, .if_icmp .le 5, 23, 0, []), (21, 1, .iconst (-1), 0, 0, []), (22, 1, .ireturn, 0, 0, []), (23, 1, .aload_n 0, 0, 0, []), (24, 3, .getfield 55, 9, 5, []), (27, 1, .aload_n 0, 0, 0, []), (28, 3, .getfield 71, 9, 7, []), (31, 1, .iconst 0, 0, 0, []), (32, 1, .iload_n 1, 0, 0, []), (33, 3, .invokevirtual 204, 109, 0, [2, 2, 0]), (36, 1, .iload_n 2, 0, 0, []), (37, 3, .invokevirtual 267, 42, 0, [2, 1, 0]), (40, 1, .ireturn, 0, 0, [])]
def kd_X9_alike : List RI := [(0, 1, .aload_n 0, 0, 0, []), (1, 3, .getfield 71, 9, 7, []), (4, 1, .iconst 0, 0, 0, []), (5, 1, .iload_n 1, 0, 0, []), (6, 3, .invokevirtual 201, 108, 0, [2, 1, 0]), (9, 3, .ifCond .eq 15, 24, 0, []), (12, 1, .aload_n 0, 0, 0, []), (13, 3, .getfield 71, 9, 7, []), (16, 1, .iconst 0, 0, 0, []), (17, 1, .iload_n 2, 0, 0, []), (18, 3, .invokevirtual 201, 108, 0, [2, 1, 0]), (21, 3, .ifCond .ne 5, 26, 0, []), (24, 1, .iconst (-1), 0, 0, []), (25, 1, .ireturn, 0, 0, []), (26, 1, .aload_n 0, 0, 0, []), (27, 3, .getfield 55, 9, 5, []), (30, 1, .aload_n 0, 0, 0, []), (31, 3, .getfield 71, 9, 7, []), (34, 1, .iconst 0, 0, 0, []), (35, 1, .iload_n 1, 0, 0, []), (36, 3, .invokevirtual 204, 109, 0, [2, 2, 0]), (39, 1, .aload_n 0, 0, 0, []), (40, 3, .getfield 71, 9, 7, []), (43, 1, .iconst 0, 0, 0, []), (44, 1, .iload_n 2, 0, 0, []), (45, 3, .invokevirtual 204, 109, 0, [2, 2, 0]), (48, 3, .invokevirtual 270, 44, 0, [2, 1, 0]), (51, 1, .ireturn, 0, 0, [])]
def kd_X9_classes : List RI := [(0, 1, .aload_n 0, 0, 0, []), (1, 3, .getfield 21, 9, 1, []), (4, 1, .iload_n 1, 0, 0, []), (5, 3, .invokevirtual 129, 93, 0, [1, 1, 0]), (8, 3, .ifCond .eq 13, 21, 0, []), (11, 1, .iload_n 2, 0, 0, []), (12, 1, .iconst 1, 0, 0, []), (13, 3, .if_icmp .lt 8, 21, 0, []), (16, 1, .iload_n 2, 0, 0, []), (17, 1, .iconst 3, 0, 0, []), (18, 3, .if_icmp .le 5, 23, 0, []), (21, 1, .iconst (-1), 0, 0, []), (22, 1, .ireturn, 0, 0, []), (23, 1, .aload_n 0, 0, 0, []), (24, 3, .getfield 55, 9, 5, []), (27, 1, .iload_n 2, 0, 0, []), (28, 3, .invokevirtual 273, 45, 0, [1, 1, 0]), (31, 1, .ireturn, 0, 0, [])]
def kd_X9_greatest : List RI := [(0, 1, .aload_n 0, 0, 0, []), (1, 3, .getfield 21, 9, 1, []), (4, 1, .iload_n 1, 0, 0, []), (5, 3, .invokevirtual 129, 93, 0, [1, 1, 0]), (8, 3, .ifCond .eq 14, 22, 0, []), (11, 1, .aload_n 0, 0, 0, []), (12, 3, .getfield 55, 9, 5, []), (15, 1, .iload_n 1, 0, 0, []), (16, 3, .invokevirtual 276, 46, 0, [1, 1, 0]), (19, 3, .goto 4, 23, 0, []), (22, 1, .iconst (-1), 0, 0, []), (23, 1, .ireturn, 0, 0, [])]
def kd_X9_sums : List RI := [(0, 1, .iload_n 1, 0, 0, []), (1, 1, .iconst 1, 0, 0, []), (2, 3, .if_icmp .lt 27, 29, 0, []), (5, 1, .iload_n 1, 0, 0, []), (6, 2, .bipush 12, 0, 0, []), (8, 3, .if_icmp .gt 21, 29, 0, []), (11, 1, .iload_n 2, 0, 0, []), (12, 1, .iconst 1, 0, 0, []), (13, 3, .if_icmp .lt 16, 29, 0, []), (16, 1, .iload_n 2, 0, 0, []), (17, 1, .iconst 4, 0, 0, []), (18, 3, .if_icmp .gt 11, 29, 0, []), (21, 1, .iload_n 2, 0, 0, []), (22, 1, .iload_n 1, 0, 0, []), (23, 1, .imul, 0, 0, []), (24, 2, .bipush 12, 0, 0, []), (26, 3, .if_icmp .le 5, 31, 0, []), (29, 1, .iconst (-1), 0, 0, []), (30, 1, .ireturn, 0, 0, []), (31, 1, .aload_n 0, 0, 0, []), (32, 3, .getfield 10, 9, 0, []), (35, 1, .iload_n 1, 0, 0, []), (36, 1, .iload_n 2, 0, 0, []), (37, 3, .invokevirtual 279, 35, 0, [2, 1, 0]), (40, 1, .ireturn, 0, 0, [])]
def kd_X9_symbol : List RI := [(0, 1, .aload_n 0, 0, 0, []), (1, 3, .getfield 10, 9, 0, []), (4, 1, .iload_n 1, 0, 0, []), (5, 3, .invokevirtual 145, 17, 0, [1, 1, 0]), (8, 3, .ifCond .eq 25, 33, 0, []), (11, 1, .aload_n 0, 0, 0, []), (12, 3, .getfield 10, 9, 0, []), (15, 1, .iload_n 2, 0, 0, []), (16, 3, .invokevirtual 145, 17, 0, [1, 1, 0]), (19, 3, .ifCond .eq 14, 33, 0, []), (22, 1, .aload_n 0, 0, 0, []), (23, 3, .getfield 10, 9, 0, []), (26, 1, .iload_n 2, 0, 0, []), (27, 3, .invokevirtual 282, 21, 0, [1, 1, 0]), (30, 3, .ifCond .ne 5, 35, 0, []), (33, 1, .iconst (-1), 0, 0, []), (34, 1, .ireturn, 0, 0, []), (35, 1, .aload_n 0, 0, 0, []), (36, 3, .getfield 10, 9, 0, []), (39, 1, .iload_n 2, 0, 0, []), (40, 3, .invokevirtual 285, 18, 0, [1, 1, 0]), (43, 1, .istore_n 3, 0, 0, []), (44, 1, .iload_n 3, 0, 0, []), (45, 1, .iconst 1, 0, 0, []), (46, 3, .if_icmp .lt 9, 55, 0, []), (49, 1, .iload_n 3, 0, 0, []), (50, 2, .bipush 6, 0, 0, []), (52, 3, .if_icmp .le 7, 59, 0, []), (55, 1, .iconst (-1), 0, 0, []), (56, 3, .goto 12, 68, 0, []), (59, 1, .aload_n 0, 0, 0, []), (60, 3, .getfield 10, 9, 0, []), (63, 1, .iload_n 1, 0, 0, []), (64, 1, .iload_n 2, 0, 0, []), (65, 3, .invokevirtual 288, 36, 0, [2, 1, 0]), (68, 1, .ireturn, 0, 0, [])]
def kd_X9_factors : List RI := [(0, 1, .aload_n 0, 0, 0, []), (1, 3, .getfield 10, 9, 0, []), (4, 1, .iload_n 1, 0, 0, []), (5, 3, .invokevirtual 145, 17, 0, [1, 1, 0]), (8, 3, .ifCond .eq 12, 20, 0, []), (11, 1, .iload_n 1, 0, 0, []), (12, 3, .ifCond .eq 8, 20, 0, []), (15, 1, .iload_n 2, 0, 0, []), (16, 1, .iconst (-1), 0, 0, []), (17, 3, .if_icmp .ge 5, 22, 0, []), (20, 1, .iconst (-1), 0, 0, []), (21, 1, .ireturn, 0, 0, []), (22, 1, .aload_n 0, 0, 0, []), (23, 3, .getfield 28, 9, 2, []), (26, 1, .iload_n 1, 0, 0, []), (27, 3, .invokevirtual 291, 52, 0, [1, 0, 0]), (30, 1, .iload_n 2, 0, 0, []), (31, 1, .iconst (-1), 0, 0, []), (32, 3, .if_icmp .ne 11, 43, 0, []), (35, 1, .aload_n 0, 0, 0, []), (36, 3, .getfield 28, 9, 2, []), (39, 3, .invokevirtual 294, 50, 0, [0, 1, 0]), (42, 1, .ireturn, 0, 0, []), (43, 1, .iload_n 2, 0, 0, []), (44, 1, .aload_n 0, 0, 0, []), (45, 3, .getfield 28, 9, 2, []), (48, 3, .invokevirtual 294, 50, 0, [0, 1, 0]), (51, 3, .if_icmp .ge 14, 65, 0, []), (54, 1, .aload_n 0, 0, 0, []), (55, 3, .getfield 28, 9, 2, []), (58, 1, .iload_n 2, 0, 0, []), (59, 3, .invokevirtual 297, 51, 0, [1, 1, 0]), (62, 3, .goto 4, 66, 0, []), (65, 1, .iconst (-1), 0, 0, []), (66, 1, .ireturn, 0, 0, [])]
def kd_X9_undo : List RI := [(0, 1, .aload_n 0, 0, 0, []), (1, 3, .getfield 71, 9, 7, []), (4, 3, .invokevirtual 299, 111, 0, [0, 1, 0]), (7, 1, .ireturn, 0, 0, [])]
def kd_X9_redo : List RI := [(0, 1, .aload_n 0, 0, 0, []), (1, 3, .getfield 71, 9, 7, []), (4, 3, .invokevirtual 302, 112, 0, [0, 1, 0]), (7, 1, .ireturn, 0, 0, [])]
def kd_X9_image : List RI := [(0, 1, .aload_n 0, 0, 0, []), (1, 3, .getfield 75, 9, 8, []), (4, 1, .aload_n 0, 0, 0, []), (5, 3, .getfield 71, 9, 7, []), (8, 3, .invokevirtual 107, 100, 0, [1, 0, 0]), (11, 1, .aload_n 0, 0, 0, []), (12, 3, .getfield 71, 9, 7, []), (15, 3, .invokevirtual 305, 105, 0, [0, 1, 0]), (18, 1, .ireturn, 0, 0, [])]
def kd_X9_back : List RI := [(0, 1, .aload_n 0, 0, 0, []), (1, 3, .getfield 71, 9, 7, []), (4, 1, .aload_n 0, 0, 0, []), (5, 3, .getfield 75, 9, 8, []), (8, 3, .invokevirtual 107, 100, 0, [1, 0, 0]), (11, 1, .aload_n 0, 0, 0, []), (12, 3, .getfield 10, 9, 0, []), (15, 1, .aload_n 0, 0, 0, []), (16, 3, .getfield 71, 9, 7, []), (19, 3, .invokevirtual 308, 101, 0, [0, 1, 0]), (22, 3, .invokevirtual 119, 14, 0, [1, 0, 0]), (25, 1, .aload_n 0, 0, 0, []), (26, 3, .getfield 21, 9, 1, []), (29, 1, .aload_n 0, 0, 0, []), (30, 3, .getfield 71, 9, 7, []), (33, 3, .invokevirtual 309, 102, 0, [0, 1, 0]), (36, 3, .invokevirtual 111, 88, 0, [1, 0, 0]), (39, 1, .aload_n 0, 0, 0, []), (40, 3, .getfield 71, 9, 7, []), (43, 3, .invokevirtual 305, 105, 0, [0, 1, 0]), (46, 1, .ireturn, 0, 0, [])]
def kd_X9_count : List RI := [(0, 1, .iload_n 1, 0, 0, []), (1, 55, .tableswitch 134 0 9 #[55, 63, 71, 79, 87, 96, 105, 113, 121, 129], 135, 0, [0, 56, 1, 64, 2, 72, 3, 80, 4, 88, 5, 97, 6, 106, 7, 114, 8, 122, 9, 130]), (56, 1, .aload_n 0, 0, 0, []), (57, 3, .getfield 10, 9, 0, []), (60, 3, .invokevirtual 115, 15, 0, [0, 1, 0]), (63, 1, .ireturn, 0, 0, []), (64, 1, .aload_n 0, 0, 0, []), (65, 3, .getfield 21, 9, 1, []), (68, 3, .invokevirtual 312, 90, 0, [0, 1, 0]), (71, 1, .ireturn, 0, 0, []), (72, 1, .aload_n 0, 0, 0, []), (73, 3, .getfield 21, 9, 1, []), (76, 3, .invokevirtual 313, 91, 0, [0, 1, 0]), (79, 1, .ireturn, 0, 0, []), (80, 1, .aload_n 0, 0, 0, []), (81, 3, .getfield 21, 9, 1, []), (84, 3, .invokevirtual 126, 92, 0, [0, 1, 0]), (87, 1, .ireturn, 0, 0, []), (88, 1, .aload_n 0, 0, 0, []), (89, 3, .getfield 71, 9, 7, []), (92, 1, .iconst 0, 0, 0, []), (93, 3, .invokevirtual 315, 107, 0, [1, 1, 0]), (96, 1, .ireturn, 0, 0, []), (97, 1, .aload_n 0, 0, 0, []), (98, 3, .getfield 71, 9, 7, []), (101, 1, .iconst 1, 0, 0, []), (102, 3, .invokevirtual 315, 107, 0, [1, 1, 0]), (105, 1, .ireturn, 0, 0, []), (106, 1, .aload_n 0, 0, 0, []), (107, 3, .getfield 71, 9, 7, []), (110, 3, .invokevirtual 169, 103, 0, [0, 1, 0]), (113, 1, .ireturn, 0, 0, []), (114, 1, .aload_n 0, 0, 0, []), (115, 3, .getfield 71, 9, 7, []), (118, 3, .invokevirtual 305, 105, 0, [0, 1, 0]), (121, 1, .ireturn, 0, 0, []), (122, 1, .aload_n 0, 0, 0, []), (123, 3, .getfield 71, 9, 7, []), (126, 3, .invokevirtual 317, 106, 0, [0, 1, 0]), (129, 1, .ireturn, 0, 0, []), (130, 1, .aload_n 0, 0, 0, []), (131, 3, .getfield 93, 9, 13, []), (134, 1, .ireturn, 0, 0, []), (135, 2, .bipush (-2), 0, 0, []), (137, 1, .ireturn, 0, 0, [])]
def kd_X9_isModulus : List RI := [(0, 1, .aload_n 0, 0, 0, []), (1, 3, .getfield 10, 9, 0, []), (4, 1, .iload_n 1, 0, 0, []), (5, 3, .invokevirtual 145, 17, 0, [1, 1, 0]), (8, 3, .ifCond .ne 5, 13, 0, []), (11, 1, .iconst 0, 0, 0, []), (12, 1, .ireturn, 0, 0, []), (13, 1, .aload_n 0, 0, 0, []), (14, 3, .getfield 10, 9, 0, []), (17, 1, .iload_n 1, 0, 0, []), (18, 3, .invokevirtual 285, 18, 0, [1, 1, 0]), (21, 1, .istore_n 2, 0, 0, []), (22, 1, .iload_n 2, 0, 0, []), (23, 1, .iconst 1, 0, 0, []), (24, 3, .if_icmp .lt 28, 52, 0, []), (27, 1, .aload_n 0, 0, 0, []), (28, 3, .getfield 10, 9, 0, []), (31, 1, .iload_n 2, 0, 0, []), (32, 3, .invokevirtual 320, 16, 0, [1, 1, 0]), (35, 3, .sipush 128, 0, 0, []), (38, 3, .if_icmp .gt 14, 52, 0, []), (41, 1, .aload_n 0, 0, 0, []), (42, 3, .getfield 10, 9, 0, []), (45, 1, .iload_n 1, 0, 0, []), (46, 3, .invokevirtual 282, 21, 0, [1, 1, 0]), (49, 3, .ifCond .ne 5, 54, 0, []), (52, 1, .iconst 0, 0, 0, []), (53, 1, .ireturn, 0, 0, []), (54, 1, .aload_n 0, 0, 0, []), (55, 3, .getfield 28, 9, 2, []), (58, 1, .iload_n 1, 0, 0, []), (59, 3, .invokevirtual 291, 52, 0, [1, 0, 0]), (62, 1, .aload_n 0, 0, 0, []), (63, 3, .getfield 28, 9, 2, []), (66, 3, .invokevirtual 294, 50, 0, [0, 1, 0]), (69, 1, .iconst 1, 0, 0, []), (70, 3, .if_icmp .ne 7, 77, 0, []), (73, 1, .iconst 1, 0, 0, []), (74, 3, .goto 4, 78, 0, []), (77, 1, .iconst 0, 0, 0, []), (78, 1, .ireturn, 0, 0, [])]
def kd_X9_isActing : List RI := [(0, 1, .aload_n 0, 0, 0, []), (1, 3, .getfield 71, 9, 7, []), (4, 1, .iconst 0, 0, 0, []), (5, 1, .iload_n 1, 0, 0, []), (6, 3, .invokevirtual 201, 108, 0, [2, 1, 0]), (9, 3, .ifCond .eq 18, 27, 0, []), (12, 1, .aload_n 0, 0, 0, []), (13, 3, .getfield 10, 9, 0, []), (16, 1, .iload_n 2, 0, 0, []), (17, 3, .invokevirtual 145, 17, 0, [1, 1, 0]), (20, 3, .ifCond .eq 7, 27, 0, []), (23, 1, .iconst 1, 0, 0, []), (24, 3, .goto 4, 28, 0, []), (27, 1, .iconst 0, 0, 0, []), (28, 1, .ireturn, 0, 0, [])]
def kd_X9_areMapAndModule : List RI := [(0, 1, .aload_n 0, 0, 0, []), (1, 3, .getfield 71, 9, 7, []), (4, 1, .iconst 1, 0, 0, []), (5, 1, .iload_n 1, 0, 0, []), (6, 3, .invokevirtual 201, 108, 0, [2, 1, 0]), (9, 3, .ifCond .eq 19, 28, 0, []), (12, 1, .aload_n 0, 0, 0, []), (13, 3, .getfield 71, 9, 7, []), (16, 1, .iconst 0, 0, 0, []), (17, 1, .iload_n 2, 0, 0, []), (18, 3, .invokevirtual 201, 108, 0, [2, 1, 0]), (21, 3, .ifCond .eq 7, 28, 0, []), (24, 1, .iconst 1, 0, 0, []), (25, 3, .goto 4, 29, 0, []), (28, 1, .iconst 0, 0, 0, []), (29, 1, .ireturn, 0, 0, [])]
def kd_X9_putRow : List RI := [(0, 1, .aload_n 0, 0, 0, []), (1, 3, .getfield 90, 9, 12, []), (4, 3, .invokestatic 323, 121, 0, [1, 0, 0]), (7, 1, .aload_n 0, 0, 0, []), (8, 3, .getfield 90, 9, 12, []), (11, 1, .iconst 0, 0, 0, []), (12, 1, .iload_n 1, 0, 0, []), (13, 1, .iastore, 0, 1, []), (14, 1, .aload_n 0, 0, 0, []), (15, 3, .getfield 90, 9, 12, []), (18, 1, .iconst 1, 0, 0, []), (19, 1, .iload_n 2, 0, 0, []), (20, 1, .iastore, 0, 1, []), (21, 1, .aload_n 0, 0, 0, []), (22, 3, .getfield 90, 9, 12, []), (25, 1, .iconst 2, 0, 0, []), (26, 1, .iload_n 3, 0, 0, []), (27, 1, .iastore, 0, 1, []), (28, 1, .aload_n 0, 0, 0, []), (29, 3, .getfield 90, 9, 12, []), (32, 1, .iconst 3, 0, 0, []), (33, 2, .iload 4, 0, 0, []), (35, 1, .iastore, 0, 1, []), (36, 1, .return_, 0, 0, [])]
def kd_X9_feedFour : List RI := [(0, 2, .bipush 24, 0, 0, []), (2, 1, .istore_n 2, 0, 0, []), (3, 0, .nop, 0, 0, [0, 1, 2]), (3, 1, .iload_n 2, 0, 0, []), (4, 3, .ifCond .lt 47, 51, 0, []), (7, 1, .aload_n 0, 0, 0, []), (8, 3, .getfield 93, 9, 13, []), (11, 1, .aload_n 0, 0, 0, []), (12, 3, .getfield 87, 9, 11, []), (15, 1, .arraylength, 0, 1, []), (16, 3, .if_icmp .ge 35, 51, 0, []), (19, 1, .aload_n 0, 0, 0, []), (20, 3, .getfield 87, 9, 11, []), (23, 1, .aload_n 0, 0, 0, []), (24, 3, .getfield 93, 9, 13, []), (27, 1, .iload_n 1, 0, 0, []), (28, 1, .iload_n 2, 0, 0, []), (29, 1, .iushr, 0, 0, []), (30, 3, .sipush 255, 0, 0, []), (33, 1, .iand, 0, 0, []), (34, 1, .iastore, 0, 1, []), (35, 1, .aload_n 0, 0, 0, []), (36, 1, .dup, 0, 0, []), (37, 3, .getfield 93, 9, 13, []), (40, 1, .iconst 1, 0, 0, []), (41, 1, .iadd, 0, 0, []), (42, 3, .putfield 93, 9, 13, []), (45, 3, .iinc 2 (-8), 0, 0, []), (48, 3, .goto (-45), 3, 0, []), (51, 1, .return_, 0, 0, [])]
def kd_X10_init : List RI := [(0, 1, .aload_n 0, 0, 0, []), (1, 3, .invokespecial 1, 0, 0, []), (4, 1, .aload_n 0, 0, 0, []), (5, 3, .sipush 150, 0, 0, []), (8, 2, .newarray .int, 0, 0, []), (10, 3, .putfield 7, 10, 0, []), (13, 1, .aload_n 0, 0, 0, []), (14, 3, .sipush 150, 0, 0, []), (17, 2, .newarray .int, 0, 0, []), (19, 3, .putfield 13, 10, 1, []), (22, 1, .aload_n 0, 0, 0, []), (23, 3, .sipush 2680, 0, 0, []), (26, 2, .newarray .int, 0, 0, []), (28, 3, .putfield 16, 10, 2, []), (31, 1, .aload_n 0, 0, 0, []), (32, 3, .sipush 16384, 0, 0, []), (35, 2, .newarray .int, 0, 0, []), (37, 3, .putfield 19, 10, 5, []), (40, 1, .aload_n 0, 0, 0, []), (41, 3, .sipush 128, 0, 0, []), (44, 2, .newarray .int, 0, 0, []), (46, 3, .putfield 22, 10, 6, []), (49, 1, .aload_n 0, 0, 0, []), (50, 3, .sipush 128, 0, 0, []), (53, 2, .newarray .int, 0, 0, []), (55, 3, .putfield 25, 10, 7, []), (58, 1, .aload_n 0, 0, 0, []), (59, 3, .sipush 1250, 0, 0, []), (62, 2, .newarray .int, 0, 0, []), (64, 3, .putfield 28, 10, 8, []), (67, 1, .aload_n 0, 0, 0, []), (68, 3, .sipush 300, 0, 0, []), (71, 2, .newarray .int, 0, 0, []), (73, 3, .putfield 31, 10, 11, []), (76, 1, .aload_n 0, 0, 0, []), (77, 1, .iconst (-1), 0, 0, []), (78, 3, .putfield 34, 10, 13, []), (81, 1, .aload_n 0, 0, 0, []), (82, 1, .iconst (-1), 0, 0, []), (83, 3, .putfield 38, 10, 14, []), (86, 1, .aload_n 0, 0, 0, []), (87, 3, .sipush 160, 0, 0, []), (90, 2, .newarray .int, 0, 0, []), (92, 3, .putfield 41, 10, 24, []), (95, 1, .aload_n 0, 0, 0, []), (96, 2, .bipush 9, 0, 0, []), (98, 2, .newarray .int, 0, 0, []), (100, 3, .putfield 44, 10, 27, []), (103, 1, .aload_n 0, 0, 0, []), (104, 3, .sipush 1024, 0, 0, []), (107, 2, .newarray .int, 0, 0, []), (109, 3, .putfield 47, 10, 28, []), (112, 1, .aload_n 0, 0, 0, []), (113, 2, .bipush 9, 0, 0, []), (115, 2, .newarray .int, 0, 0, []), (117, 3, .putfield 50, 10, 29, []), (120, 1, .aload_n 0, 0, 0, []), (121, 2, .bipush 8, 0, 0, []), (123, 2, .newarray .int, 0, 0, []), (125, 3, .putfield 53, 10, 30, []), (128, 1, .aload_n 0, 0, 0, []), (129, 3, .getfield 7, 10, 0, []), (132, 1, .iconst 0, 0, 0, []), (133, 1, .iconst 2, 0, 0, []), (134, 1, .iastore, 0, 1, []), (135, 1, .aload_n 0, 0, 0, []), (136, 3, .getfield 7, 10, 0, []), (139, 1, .iconst 1, 0, 0, []), (140, 1, .iconst 2, 0, 0, []), (141, 1, .iastore, 0, 1, []), (142, 1, .aload_n 0, 0, 0, []), (143, 3, .invokevirtual 56, 185, 0, [0, 0, 0]), (146, 1, .aload_n 0, 0, 0, []), (147, 3, .getfield 7, 10, 0, []), (150, 1, .aload_n 0, 0, 0, []), (151, 3, .getfield 13, 10, 1, []), (154, 3, .invokestatic 59, 167, 0, [2, 0, 0]), (157, 1, .return_, 0, 0, [])]
def kd_X10_copy : List RI := [(0, 1, .iconst 0, 0, 0, []), (1, 1, .istore_n 2, 0, 0, []), (2, 0, .nop, 0, 0, [0, 1, 2]), (2, 1, .iload_n 2, 0, 0, []), (3, 3, .sipush 150, 0, 0, []), (6, 3, .if_icmp .ge 15, 21, 0, []), (9, 1, .aload_n 1, 0, 0, []), (10, 1, .iload_n 2, 0, 0, []), (11, 1, .aload_n 0, 0, 0, []), (12, 1, .iload_n 2, 0, 0, []), (13, 1, .iaload, 0, 0, []), (14, 1, .iastore, 0, 0, []), (15, 3, .iinc 2 1, 0, 0, []), (18, 3, .goto (-16), 2, 0, []), (21, 1, .return_, 0, 0, [])]
def kd_X10_isIn : List RI := [(0, 1, .iload_n 0, 0, 0, []), (1, 1, .iload_n 1, 0, 0, []), (2, 3, .if_icmp .lt 12, 14, 0, []), (5, 1, .iload_n 0, 0, 0, []), (6, 1, .iload_n 2, 0, 0, []), (7, 3, .if_icmp .gt 7, 14, 0, []), (10, 1, .iconst 1, 0, 0, []), (11, 3, .goto 4, 15, 0, []), (14, 1, .iconst 0, 0, 0, []), (15, 1, .ireturn, 0, 0, [])]
def kd_X10_power : List RI := [(0, 1, .iconst 1, 0, 0, []), (1, 1, .istore_n 2, 0, 0, []), (2, 1, .iconst 0, 0, 0, []), (3, 1, .istore_n 3, 0, 0, []), (4, 0, .nop, 0, 0, [0, 1, 2, 3]), (4, 1, .iload_n 3, 0, 0, []), (5, 1, .iload_n 1, 0, 0, []), (6, 3, .if_icmp .ge 18, 24, 0, []), (9, 1, .iload_n 2, 0, 0, []), (10, 1, .aload_n 0, 0, 0, []), (11, 3, .getfield 7, 10, 0, []), (14, 1, .iconst 0, 0, 0, []), (15, 1, .iaload, 0, 1, []), (16, 1, .imul, 0, 0, []), (17, 1, .istore_n 2, 0, 0, []), (18, 3, .iinc 3 1, 0, 0, []), (21, 3, .goto (-17), 4, 0, []), (24, 1, .iload_n 2, 0, 0, []), (25, 1, .ireturn, 0, 0, [])]
def kd_X10_degree : List RI := [(0, 1, .iconst 0, 0, 0, []), (1, 1, .istore_n 2, 0, 0, []), (2, 1, .iload_n 1, 0, 0, []), (3, 1, .aload_n 0, 0, 0, []), (4, 3, .getfield 7, 10, 0, []), (7, 1, .iconst 0, 0, 0, []), (8, 1, .iaload, 0, 1, []), (9, 1, .idiv, 0, 0, []), (10, 1, .istore_n 3, 0, 0, []), (11, 0, .nop, 0, 0, [0, 2, 3]), (11, 1, .iload_n 3, 0, 0, []), (12, 3, .ifCond .le 18, 30, 0, []), (15, 3, .iinc 2 1, 0, 0, []), (18, 1, .iload_n 3, 0, 0, []), (19, 1, .aload_n 0, 0, 0, []), (20, 3, .getfield 7, 10, 0, []), (23, 1, .iconst 0, 0, 0, []), (24, 1, .iaload, 0, 1, []), (25, 1, .idiv, 0, 0, []), (26, 1, .istore_n 3, 0, 0, []), (27, 3, .goto (-16), 11, 0, []), (30, 1, .iload_n 2, 0, 0, []), (31, 1, .ireturn, 0, 0, [])]
def kd_X10_figure : List RI := [(0, 1, .iload_n 1, 0, 0, []), (1, 1, .istore_n 3, 0, 0, []), (2, 1, .iconst 0, 0, 0, []), (3, 2, .istore 4, 0, 0, []), (5, 0, .nop, 0, 0, [0, 2, 3, 4]), (5, 2, .iload 4, 0, 0, []), (7, 1, .iload_n 2, 0, 0, []), (8, 3, .if_icmp .ge 18, 26, 0, []), (11, 1, .iload_n 3, 0, 0, []), (12, 1, .aload_n 0, 0, 0, []), (13, 3, .getfield 7, 10, 0, []), (16, 1, .iconst 0, 0, 0, []), (17, 1, .iaload, 0, 1, []), (18, 1, .idiv, 0, 0, []), (19, 1, .istore_n 3, 0, 0, []), (20, 3, .iinc 4 1, 0, 0, []), (23, 3, .goto (-18), 5, 0, []), (26, 1, .iload_n 3, 0, 0, []), (27, 1, .aload_n 0, 0, 0, []), (28, 3, .getfield 7, 10, 0, []), (31, 1, .iconst 0, 0, 0, []), (32, 1, .iaload, 0, 1, []), (33, 1, .irem, 0, 0, []), (34, 1, .ireturn, 0, 0, [])]
def kd_X10_isPoly : List RI := [(0, 1, .iconst 1, 0, 0, []), (1, 1, .istore_n 2, 0, 0, []), (2, 1, .iconst 0, 0, 0, []), (3, 1, .istore_n 3, 0, 0, []), (4, 0, .nop, 0, 0, [0, 1, 2, 3]), (4, 1, .iload_n 3, 0, 0, []), (5, 2, .bipush 13, 0, 0, []), (7, 3, .if_icmp .ge 18, 25, 0, []), (10, 1, .iload_n 2, 0, 0, []), (11, 1, .aload_n 0, 0, 0, []), (12, 3, .getfield 7, 10, 0, []), (15, 1, .iconst 0, 0, 0, []), (16, 1, .iaload, 0, 1, []), (17, 1, .imul, 0, 0, []), (18, 1, .istore_n 2, 0, 0, []), (19, 3, .iinc 3 1, 0, 0, []), (22, 3, .goto (-18), 4, 0, []), (25, 1, .iload_n 1, 0, 0, []), (26, 3, .ifCond .lt 14, 40, 0, []), (29, 1, .iload_n 1, 0, 0, []), (30, 1, .iload_n 2, 0, 0, []), (31, 1, .iconst 1, 0, 0, []), (32, 1, .isub, 0, 0, []), (33, 3, .if_icmp .gt 7, 40, 0, []), (36, 1, .iconst 1, 0, 0, []), (37, 3, .goto 4, 41, 0, []), (40, 1, .iconst 0, 0, 0, []), (41, 1, .ireturn, 0, 0, [])]
def kd_X10_sumOf : List RI := [(0, 1, .iconst 0, 0, 0, []), (1, 2, .istore 4, 0, 0, []), (3, 1, .iconst 1, 0, 0, []), (4, 2, .istore 5, 0, 0, []), (6, 1, .iload_n 1, 0, 0, []), (7, 2, .istore 6, 0, 0, []), (9, 1, .iload_n 2, 0, 0, []), (10, 2, .istore 7, 0, 0, []), (12, 1, .iconst 0, 0, 0, []), (13, 2, .istore 8, 0, 0, []), (15, 0, .nop, 0, 0, [0, 3, 4, 5, 6, 7, 8]), (15, 2, .iload 8, 0, 0, []), (17, 2, .bipush 13, 0, 0, []), (19, 3, .if_icmp .ge 98, 117, 0, []), (22, 2, .iload 6, 0, 0, []), (24, 3, .ifCond .gt 8, 32, 0, []), (27, 2, .iload 7, 0, 0, []), (29, 3, .ifCond .le 88, 117, 0, []), (32, 2, .iload 4, 0, 0, []), (34, 2, .iload 6, 0, 0, []), (36, 1, .aload_n 0, 0, 0, []), (37, 3, .getfield 7, 10, 0, []), (40, 1, .iconst 0, 0, 0, []), (41, 1, .iaload, 0, 1, []), (42, 1, .irem, 0, 0, []), (43, 2, .iload 7, 0, 0, []), (45, 1, .aload_n 0, 0, 0, []), (46, 3, .getfield 7, 10, 0, []), (49, 1, .iconst 0, 0, 0, []), (50, 1, .iaload, 0, 1, []), (51, 1, .irem, 0, 0, []), (52, 1, .iload_n 3, 0, 0, []), (53, 1, .imul, 0, 0, []), (54, 1, .iadd, 0, 0, []), (55, 1, .aload_n 0, 0, 0, []), (56, 3, .getfield 7, 10, 0, []), (59, 1, .iconst 0, 0, 0, []), (60, 1, .iaload, 0, 1, []), (61, 1, .irem, 0, 0, []), (62, 2, .iload 5, 0, 0, []), (64, 1, .imul, 0, 0, []), (65, 1, .iadd, 0, 0, []), (66, 2, .istore 4, 0, 0, []), (68, 2, .iload 6, 0, 0, []), (70, 1, .aload_n 0, 0, 0, []), (71, 3, .getfield 7, 10, 0, []), (74, 1, .iconst 0, 0, 0, []), (75, 1, .iaload, 0, 1, []), (76, 1, .idiv, 0, 0, []), (77, 2, .istore 6, 0, 0, []), (79, 2, .iload 7, 0, 0, []), (81, 1, .aload_n 0, 0, 0, []), (82, 3, .getfield 7, 10, 0, []), (85, 1, .iconst 0, 0, 0, []), (86, 1, .iaload, 0, 1, []), (87, 1, .idiv, 0, 0, []), (88, 2, .istore 7, 0, 0, []), (90, 2, .iload 6, 0, 0, []), (92, 3, .ifCond .gt 8, 100, 0, []), (95, 2, .iload 7, 0, 0, []), (97, 3, .ifCond .le 14, 111, 0, []), (100, 2, .iload 5, 0, 0, []), (102, 1, .aload_n 0, 0, 0, []), (103, 3, .getfield 7, 10, 0, []), (106, 1, .iconst 0, 0, 0, []), (107, 1, .iaload, 0, 1, []), (108, 1, .imul, 0, 0, []), (109, 2, .istore 5, 0, 0, []), (111, 3, .iinc 8 1, 0, 0, []), (114, 3, .goto (-99), 15, 0, []), (117, 2, .iload 4, 0, 0, []), (119, 1, .ireturn, 0, 0, [])]
def kd_X10_shifted : List RI := [(0, 1, .iload_n 1, 0, 0, []), (1, 1, .aload_n 0, 0, 0, []), (2, 1, .iload_n 2, 0, 0, []), (3, 3, .invokevirtual 63, 169, 0, [1, 1, 0]), (6, 1, .imul, 0, 0, []), (7, 1, .ireturn, 0, 0, [])]
def kd_X10_times : List RI := [(0, 1, .iload_n 1, 0, 0, []), (1, 3, .ifCond .eq 7, 8, 0, []), (4, 1, .iload_n 2, 0, 0, []), (5, 3, .ifCond .ne 5, 10, 0, []), (8, 1, .iconst 0, 0, 0, []), (9, 1, .ireturn, 0, 0, []), (10, 1, .aload_n 0, 0, 0, []), (11, 1, .iload_n 1, 0, 0, []), (12, 3, .invokevirtual 67, 170, 0, [1, 1, 0]), (15, 1, .aload_n 0, 0, 0, []), (16, 1, .iload_n 2, 0, 0, []), (17, 3, .invokevirtual 67, 170, 0, [1, 1, 0]), (20, 1, .iadd, 0, 0, []), (21, 2, .bipush 12, 0, 0, []), (23, 3, .if_icmp .le 5, 28, 0, []), (26, 1, .iconst (-1), 0, 0, []), (27, 1, .ireturn, 0, 0, []), (28, 1, .iconst 0, 0, 0, []), (29, 1, .istore_n 3, 0, 0, []), (30, 1, .iload_n 2, 0, 0, []), (31, 2, .istore 4, 0, 0, []), (33, 1, .iconst 0, 0, 0, []), (34, 2, .istore 5, 0, 0, []), (36, 0, .nop, 0, 0, [0, 1, 3, 4, 5]), (36, 2, .iload 4, 0, 0, []), (38, 3, .ifCond .le 54, 92, 0, []), (41, 2, .iload 4, 0, 0, []), (43, 1, .aload_n 0, 0, 0, []), (44, 3, .getfield 7, 10, 0, []), (47, 1, .iconst 0, 0, 0, []), (48, 1, .iaload, 0, 1, []), (49, 1, .irem, 0, 0, []), (50, 3, .ifCond .le 25, 75, 0, []), (53, 1, .aload_n 0, 0, 0, []), (54, 1, .iload_n 3, 0, 0, []), (55, 1, .aload_n 0, 0, 0, []), (56, 1, .iload_n 1, 0, 0, []), (57, 2, .iload 5, 0, 0, []), (59, 3, .invokevirtual 70, 174, 0, [2, 1, 0]), (62, 2, .iload 4, 0, 0, []), (64, 1, .aload_n 0, 0, 0, []), (65, 3, .getfield 7, 10, 0, []), (68, 1, .iconst 0, 0, 0, []), (69, 1, .iaload, 0, 1, []), (70, 1, .irem, 0, 0, []), (71, 3, .invokevirtual 74, 173, 0, [3, 1, 0]), (74, 1, .istore_n 3, 0, 0, []), (75, 2, .iload 4, 0, 0, []), (77, 1, .aload_n 0, 0, 0, []), (78, 3, .getfield 7, 10, 0, []), (81, 1, .iconst 0, 0, 0, []), (82, 1, .iaload, 0, 1, []), (83, 1, .idiv, 0, 0, []), (84, 2, .istore 4, 0, 0, []), (86, 3, .iinc 5 1, 0, 0, []), (89, 3, .goto (-53), 36, 0, []), (92, 1, .iload_n 3, 0, 0, []), (93, 1, .ireturn, 0, 0, [])]
def kd_X10_unit : List RI := [(0, 1, .iconst 1, 0, 0, []), (1, 1, .istore_n 2, 0, 0, []), (2, 0, .nop, 0, 0, [0, 1, 2]), (2, 1, .iload_n 2, 0, 0, []), (3, 1, .iload_n 1, 0, 0, []), (4, 1, .imul, 0, 0, []), (5, 1, .aload_n 0, 0, 0, []), (6, 3, .getfield 7, 10, 0, []), (9, 1, .iconst 0, 0, 0, []), (10, 1, .iaload, 0, 1, []), (11, 1, .irem, 0, 0, []), (12, 1, .iconst 1, 0, 0, []), (13, 3, .if_icmp .eq 9, 22, 0, []), (16, 3, .iinc 2 1, 0, 0, []), (19, 3, .goto (-17), 2, 0, []), (22, 1, .iload_n 2, 0, 0, []), (23, 1, .ireturn, 0, 0, [])]
def kd_X10_divide : List RI := [(0, 1, .aload_n 0, 0, 0, []), (1, 1, .iconst 0, 0, 0, []), (2, 3, .putfield 78, 10, 9, []), (5, 1, .aload_n 0, 0, 0, []), (6, 1, .iload_n 1, 0, 0, []), (7, 3, .putfield 81, 10, 10, []), (10, 1, .aload_n 0, 0, 0, []), (11, 1, .iload_n 2, 0, 0, []), (12, 3, .invokevirtual 67, 170, 0, [1, 1, 0]), (15, 1, .istore_n 3, 0, 0, []), (16, 1, .aload_n 0, 0, 0, []), (17, 1, .aload_n 0, 0, 0, []), (18, 1, .iload_n 2, 0, 0, []), (19, 1, .iload_n 3, 0, 0, []), (20, 3, .invokevirtual 84, 171, 0, [2, 1, 0]), (23, 3, .invokevirtual 87, 176, 0, [1, 1, 0]), (26, 2, .istore 4, 0, 0, []), (28, 0, .nop, 0, 0, [0, 2, 3, 4]), (28, 1, .aload_n 0, 0, 0, []), (29, 3, .getfield 81, 10, 10, []), (32, 3, .ifCond .le 106, 138, 0, []), (35, 1, .aload_n 0, 0, 0, []), (36, 1, .aload_n 0, 0, 0, []), (37, 3, .getfield 81, 10, 10, []), (40, 3, .invokevirtual 67, 170, 0, [1, 1, 0]), (43, 1, .iload_n 3, 0, 0, []), (44, 3, .if_icmp .lt 94, 138, 0, []), (47, 1, .aload_n 0, 0, 0, []), (48, 1, .aload_n 0, 0, 0, []), (49, 3, .getfield 81, 10, 10, []), (52, 3, .invokevirtual 67, 170, 0, [1, 1, 0]), (55, 1, .iload_n 3, 0, 0, []), (56, 1, .isub, 0, 0, []), (57, 2, .istore 5, 0, 0, []), (59, 1, .aload_n 0, 0, 0, []), (60, 1, .aload_n 0, 0, 0, []), (61, 3, .getfield 81, 10, 10, []), (64, 1, .aload_n 0, 0, 0, []), (65, 1, .aload_n 0, 0, 0, []), (66, 3, .getfield 81, 10, 10, []), (69, 3, .invokevirtual 67, 170, 0, [1, 1, 0]), (72, 3, .invokevirtual 84, 171, 0, [2, 1, 0]), (75, 2, .iload 4, 0, 0, []), (77, 1, .imul, 0, 0, []), (78, 1, .aload_n 0, 0, 0, []), (79, 3, .getfield 7, 10, 0, []), (82, 1, .iconst 0, 0, 0, []), (83, 1, .iaload, 0, 1, []), (84, 1, .irem, 0, 0, []), (85, 2, .istore 6, 0, 0, []), (87, 1, .aload_n 0, 0, 0, []), (88, 1, .aload_n 0, 0, 0, []), (89, 1, .aload_n 0, 0, 0, []), (90, 3, .getfield 78, 10, 9, []), (93, 1, .aload_n 0, 0, 0, []), (94, 2, .iload 5, 0, 0, []), (96, 3, .invokevirtual 63, 169, 0, [1, 1, 0]), (99, 2, .iload 6, 0, 0, []), (101, 3, .invokevirtual 74, 173, 0, [3, 1, 0]), (104, 3, .putfield 78, 10, 9, []), (107, 1, .aload_n 0, 0, 0, []), (108, 1, .aload_n 0, 0, 0, []), (109, 1, .aload_n 0, 0, 0, []), (110, 3, .getfield 81, 10, 10, []), (113, 1, .aload_n 0, 0, 0, []), (114, 1, .iload_n 2, 0, 0, []), (115, 2, .iload 5, 0, 0, []), (117, 3, .invokevirtual 70, 174, 0, [2, 1, 0]), (120, 1, .aload_n 0, 0, 0, []), (121, 3, .getfield 7, 10, 0, []), (124, 1, .iconst 0, 0, 0, []), (125, 1, .iaload, 0, 1, []), (126, 2, .iload 6, 0, 0, []), (128, 1, .isub, 0, 0, []), (129, 3, .invokevirtual 74, 173, 0, [3, 1, 0]), (132, 3, .putfield 81, 10, 10, []), (135, 3, .goto (-107), 28, 0, []), (138, 1, .return_, 0, 0, [])]
def kd_X10_rest : List RI := [(0, 1, .aload_n 0, 0, 0, []), (1, 1, .iload_n 1, 0, 0, []), (2, 1, .iload_n 2, 0, 0, []), (3, 3, .invokevirtual 90, 177, 0, [2, 0, 0]), (6, 1, .aload_n 0, 0, 0, []), (7, 3, .getfield 81, 10, 10, []), (10, 1, .ireturn, 0, 0, [])]
def kd_X10_by : List RI := [(0, 1, .aload_n 0, 0, 0, []), (1, 1, .iload_n 1, 0, 0, []), (2, 1, .iload_n 2, 0, 0, []), (3, 3, .invokevirtual 90, 177, 0, [2, 0, 0]), (6, 1, .aload_n 0, 0, 0, []), (7, 3, .getfield 78, 10, 9, []), (10, 1, .ireturn, 0, 0, [])]
def kd_X10_monic : List RI := [(0, 1, .iload_n 1, 0, 0, []), (1, 3, .ifCond .ne 7, 8, 0, []), (4, 1, .iconst 0, 0, 0, []), (5, 3, .goto 23, 28, 0, []), (8, 1, .aload_n 0, 0, 0, []), (9, 1, .iconst 0, 0, 0, []), (10, 1, .iload_n 1, 0, 0, []), (11, 1, .aload_n 0, 0, 0, []), (12, 1, .aload_n 0, 0, 0, []), (13, 1, .iload_n 1, 0, 0, []), (14, 1, .aload_n 0, 0, 0, []), (15, 1, .iload_n 1, 0, 0, []), (16, 3, .invokevirtual 67, 170, 0, [1, 1, 0]), (19, 3, .invokevirtual 84, 171, 0, [2, 1, 0]), (22, 3, .invokevirtual 87, 176, 0, [1, 1, 0]), (25, 3, .invokevirtual 74, 173, 0, [3, 1, 0]), (28, 1, .ireturn, 0, 0, [])]
def kd_X10_common : List RI := [(0, 1, .iload_n 1, 0, 0, []), (1, 1, .istore_n 3, 0, 0, []), (2, 1, .iload_n 2, 0, 0, []), (3, 2, .istore 4, 0, 0, []), (5, 0, .nop, 0, 0, [0, 3, 4]), (5, 2, .iload 4, 0, 0, []), (7, 3, .ifCond .le 22, 29, 0, []), (10, 1, .aload_n 0, 0, 0, []), (11, 1, .iload_n 3, 0, 0, []), (12, 2, .iload 4, 0, 0, []), (14, 3, .invokevirtual 94, 178, 0, [2, 1, 0]), (17, 2, .istore 5, 0, 0, []), (19, 2, .iload 4, 0, 0, []), (21, 1, .istore_n 3, 0, 0, []), (22, 2, .iload 5, 0, 0, []), (24, 2, .istore 4, 0, 0, []), (26, 3, .goto (-21), 5, 0, []), (29, 1, .aload_n 0, 0, 0, []), (30, 1, .iload_n 3, 0, 0, []), (31, 3, .invokevirtual 97, 180, 0, [1, 1, 0]), (34, 1, .ireturn, 0, 0, [])]
def kd_X10_leastFactor : List RI := [(0, 1, .aload_n 0, 0, 0, []), (1, 1, .iload_n 1, 0, 0, []), (2, 3, .invokevirtual 67, 170, 0, [1, 1, 0]), (5, 1, .istore_n 2, 0, 0, []), (6, 1, .aload_n 0, 0, 0, []), (7, 3, .getfield 7, 10, 0, []), (10, 1, .iconst 0, 0, 0, []), (11, 1, .iaload, 0, 1, []), (12, 1, .istore_n 3, 0, 0, []), (13, 1, .iconst 1, 0, 0, []), (14, 2, .istore 4, 0, 0, []), (16, 0, .nop, 0, 0, [0, 1, 2, 3, 4]), (16, 1, .iconst 2, 0, 0, []), (17, 2, .iload 4, 0, 0, []), (19, 1, .imul, 0, 0, []), (20, 1, .iload_n 2, 0, 0, []), (21, 3, .if_icmp .gt 48, 69, 0, []), (24, 1, .iload_n 3, 0, 0, []), (25, 2, .istore 5, 0, 0, []), (27, 0, .nop, 0, 0, [0, 1, 2, 3, 4, 5]), (27, 2, .iload 5, 0, 0, []), (29, 1, .iconst 2, 0, 0, []), (30, 1, .iload_n 3, 0, 0, []), (31, 1, .imul, 0, 0, []), (32, 3, .if_icmp .ge 22, 54, 0, []), (35, 1, .aload_n 0, 0, 0, []), (36, 1, .iload_n 1, 0, 0, []), (37, 2, .iload 5, 0, 0, []), (39, 3, .invokevirtual 94, 178, 0, [2, 1, 0]), (42, 3, .ifCond .ne 6, 48, 0, []), (45, 2, .iload 5, 0, 0, []), (47, 1, .ireturn, 0, 0, []), (48, 3, .iinc 5 1, 0, 0, []), (51, 3, .goto (-24), 27, 0, []), (54, 1, .iload_n 3, 0, 0, []), (55, 1, .aload_n 0, 0, 0, []), (56, 3, .getfield 7, 10, 0, []), (59, 1, .iconst 0, 0, 0, []), (60, 1, .iaload, 0, 1, []), (61, 1, .imul, 0, 0, []), (62, 1, .istore_n 3, 0, 0, []), (63, 3, .iinc 4 1, 0, 0, []), (66, 3, .goto (-50), 16, 0, []), (69, 1, .iload_n 1, 0, 0, []), (70, 1, .ireturn, 0, 0, [])]
def kd_X10_isPrime : List RI := [(0, 1, .aload_n 0, 0, 0, []), (1, 1, .iload_n 1, 0, 0, []), (2, 3, .invokevirtual 67, 170, 0, [1, 1, 0]), (5, 1, .istore_n 2, 0, 0, []), (6, 1, .iload_n 2, 0, 0, []), (7, 3, .ifCond .le 26, 33, 0, []), (10, 1, .aload_n 0, 0, 0, []), (11, 1, .iload_n 1, 0, 0, []), (12, 1, .iload_n 2, 0, 0, []), (13, 3, .invokevirtual 84, 171, 0, [2, 1, 0]), (16, 1, .iconst 1, 0, 0, []), (17, 3, .if_icmp .ne 16, 33, 0, []), (20, 1, .aload_n 0, 0, 0, []), (21, 1, .iload_n 1, 0, 0, []), (22, 3, .invokevirtual 100, 182, 0, [1, 1, 0]), (25, 1, .iload_n 1, 0, 0, []), (26, 3, .if_icmp .ne 7, 33, 0, []), (29, 1, .iconst 1, 0, 0, []), (30, 3, .goto 4, 34, 0, []), (33, 1, .iconst 0, 0, 0, []), (34, 1, .ireturn, 0, 0, [])]
def kd_X10_poly : List RI := [(0, 1, .aload_n 0, 0, 0, []), (1, 1, .iload_n 2, 0, 0, []), (2, 3, .invokevirtual 103, 172, 0, [1, 1, 0]), (5, 3, .ifCond .eq 34, 39, 0, []), (8, 1, .aload_n 0, 0, 0, []), (9, 1, .iload_n 3, 0, 0, []), (10, 3, .invokevirtual 103, 172, 0, [1, 1, 0]), (13, 3, .ifCond .eq 26, 39, 0, []), (16, 1, .iload_n 1, 0, 0, []), (17, 1, .iconst 0, 0, 0, []), (18, 1, .iconst 5, 0, 0, []), (19, 3, .invokestatic 107, 168, 0, [3, 1, 0]), (22, 3, .ifCond .eq 17, 39, 0, []), (25, 1, .iload_n 3, 0, 0, []), (26, 3, .ifCond .ne 15, 41, 0, []), (29, 1, .iload_n 1, 0, 0, []), (30, 1, .iconst 3, 0, 0, []), (31, 3, .if_icmp .eq 8, 39, 0, []), (34, 1, .iload_n 1, 0, 0, []), (35, 1, .iconst 4, 0, 0, []), (36, 3, .if_icmp .ne 5, 41, 0, []), (39, 1, .iconst (-1), 0, 0, []), (40, 1, .ireturn, 0, 0, []), (41, 1, .iload_n 1, 0, 0, []), (42, 34, .tableswitch 78 0 4 #[34, 42, 57, 64, 71], 120, 0, [0, 76, 1, 84, 2, 99, 3, 106, 4, 113]), (76, 1, .aload_n 0, 0, 0, []), (77, 1, .iload_n 2, 0, 0, []), (78, 1, .iload_n 3, 0, 0, []), (79, 1, .iconst 1, 0, 0, []), (80, 3, .invokevirtual 74, 173, 0, [3, 1, 0]), (83, 1, .ireturn, 0, 0, []), (84, 1, .aload_n 0, 0, 0, []), (85, 1, .iload_n 2, 0, 0, []), (86, 1, .iload_n 3, 0, 0, []), (87, 1, .aload_n 0, 0, 0, []), (88, 3, .getfield 7, 10, 0, []), (91, 1, .iconst 0, 0, 0, []), (92, 1, .iaload, 0, 1, []), (93, 1, .iconst 1, 0, 0, []), (94, 1, .isub, 0, 0, []), (95, 3, .invokevirtual 74, 173, 0, [3, 1, 0]), (98, 1, .ireturn, 0, 0, []), (99, 1, .aload_n 0, 0, 0, []), (100, 1, .iload_n 2, 0, 0, []), (101, 1, .iload_n 3, 0, 0, []), (102, 3, .invokevirtual 111, 175, 0, [2, 1, 0]), (105, 1, .ireturn, 0, 0, []), (106, 1, .aload_n 0, 0, 0, []), (107, 1, .iload_n 2, 0, 0, []), (108, 1, .iload_n 3, 0, 0, []), (109, 3, .invokevirtual 94, 178, 0, [2, 1, 0]), (112, 1, .ireturn, 0, 0, []), (113, 1, .aload_n 0, 0, 0, []), (114, 1, .iload_n 2, 0, 0, []), (115, 1, .iload_n 3, 0, 0, []), (116, 3, .invokevirtual 114, 179, 0, [2, 1, 0]), (119, 1, .ireturn, 0, 0, []), (120, 1, .aload_n 0, 0, 0, []), (121, 1, .iload_n 2, 0, 0, []), (122, 1, .iload_n 3, 0, 0, []), (123, 3, .invokevirtual 117, 181, 0, [2, 1, 0]), (126, 1, .ireturn, 0, 0, [])]
def kd_X10_makeWorld : List RI := [(0, 1, .aload_n 0, 0, 0, []), (1, 1, .aload_n 0, 0, 0, []), (2, 1, .aload_n 0, 0, 0, []), (3, 3, .getfield 7, 10, 0, []), (6, 1, .iconst 1, 0, 0, []), (7, 1, .iaload, 0, 1, []), (8, 3, .invokevirtual 67, 170, 0, [1, 1, 0]), (11, 3, .putfield 120, 10, 3, []), (14, 1, .aload_n 0, 0, 0, []), (15, 1, .aload_n 0, 0, 0, []), (16, 1, .aload_n 0, 0, 0, []), (17, 3, .getfield 120, 10, 3, []), (20, 3, .invokevirtual 63, 169, 0, [1, 1, 0]), (23, 3, .putfield 123, 10, 4, []), (26, 1, .iconst 0, 0, 0, []), (27, 1, .istore_n 1, 0, 0, []), (28, 0, .nop, 0, 0, [0, 1]), (28, 1, .iload_n 1, 0, 0, []), (29, 1, .aload_n 0, 0, 0, []), (30, 3, .getfield 123, 10, 4, []), (33, 3, .if_icmp .ge 135, 168, 0, []), (36, 1, .iconst 0, 0, 0, []), (37, 1, .istore_n 2, 0, 0, []), (38, 0, .nop, 0, 0, [0, 1, 2]), (38, 1, .iload_n 2, 0, 0, []), (39, 1, .aload_n 0, 0, 0, []), (40, 3, .getfield 123, 10, 4, []), (43, 3, .if_icmp .ge 119, 162, 0, []), (46, 1, .iconst 0, 0, 0, []), (47, 1, .istore_n 3, 0, 0, []), (48, 1, .iload_n 2, 0, 0, []), (49, 2, .istore 4, 0, 0, []), (51, 1, .iload_n 1, 0, 0, []), (52, 2, .istore 5, 0, 0, []), (54, 1, .iconst 0, 0, 0, []), (55, 2, .istore 6, 0, 0, []), (57, 0, .nop, 0, 0, [0, 1, 2, 3, 4, 5, 6]), (57, 2, .iload 6, 0, 0, []), (59, 1, .aload_n 0, 0, 0, []), (60, 3, .getfield 120, 10, 3, []), (63, 3, .if_icmp .ge 68, 131, 0, []), (66, 2, .iload 4, 0, 0, []), (68, 1, .aload_n 0, 0, 0, []), (69, 3, .getfield 7, 10, 0, []), (72, 1, .iconst 0, 0, 0, []), (73, 1, .iaload, 0, 1, []), (74, 1, .irem, 0, 0, []), (75, 3, .ifCond .le 20, 95, 0, []), (78, 1, .aload_n 0, 0, 0, []), (79, 1, .iload_n 3, 0, 0, []), (80, 2, .iload 5, 0, 0, []), (82, 2, .iload 4, 0, 0, []), (84, 1, .aload_n 0, 0, 0, []), (85, 3, .getfield 7, 10, 0, []), (88, 1, .iconst 0, 0, 0, []), (89, 1, .iaload, 0, 1, []), (90, 1, .irem, 0, 0, []), (91, 3, .invokevirtual 74, 173, 0, [3, 1, 0]), (94, 1, .istore_n 3, 0, 0, []), (95, 2, .iload 4, 0, 0, []), (97, 1, .aload_n 0, 0, 0, []), (98, 3, .getfield 7, 10, 0, []), (101, 1, .iconst 0, 0, 0, []), (102, 1, .iaload, 0, 1, []), (103, 1, .idiv, 0, 0, []), (104, 2, .istore 4, 0, 0, []), (106, 1, .aload_n 0, 0, 0, []), (107, 1, .aload_n 0, 0, 0, []), (108, 2, .iload 5, 0, 0, []), (110, 1, .iconst 1, 0, 0, []), (111, 3, .invokevirtual 70, 174, 0, [2, 1, 0]), (114, 1, .aload_n 0, 0, 0, []), (115, 3, .getfield 7, 10, 0, []), (118, 1, .iconst 1, 0, 0, []), (119, 1, .iaload, 0, 1, []), (120, 3, .invokevirtual 94, 178, 0, [2, 1, 0]), (123, 2, .istore 5, 0, 0, []), (125, 3, .iinc 6 1, 0, 0, []), (128, 3, .goto (-71), 57, 0, []), (131, 1, .aload_n 0, 0, 0, []), (132, 3, .getfield 19, 10, 5, []), (135, 3, .sipush 128, 0, 0, []), (138, 1, .iload_n 1, 0, 0, []), (139, 1, .imul, 0, 0, []), (140, 1, .iload_n 2, 0, 0, []), (141, 1, .iadd, 0, 0, []), (142, 1, .iload_n 3, 0, 0, []), (143, 1, .iastore, 0, 1, []), (144, 1, .iload_n 3, 0, 0, []), (145, 1, .iconst 1, 0, 0, []), (146, 3, .if_icmp .ne 10, 156, 0, []), (149, 1, .aload_n 0, 0, 0, []), (150, 3, .getfield 22, 10, 6, []), (153, 1, .iload_n 1, 0, 0, []), (154, 1, .iload_n 2, 0, 0, []), (155, 1, .iastore, 0, 1, []), (156, 3, .iinc 2 1, 0, 0, []), (159, 3, .goto (-121), 38, 0, []), (162, 3, .iinc 1 1, 0, 0, []), (165, 3, .goto (-137), 28, 0, []), (168, 1, .aload_n 0, 0, 0, []), (169, 3, .getfield 22, 10, 6, []), (172, 1, .iconst 0, 0, 0, []), (173, 1, .iconst 0, 0, 0, []), (174, 1, .iastore, 0, 1, []), (175, 1, .iconst 0, 0, 0, []), (176, 1, .istore_n 1, 0, 0, []), (177, 0, .nop, 0, 0, [0, 1]), (177, 1, .iload_n 1, 0, 0, []), (178, 1, .aload_n 0, 0, 0, []), (179, 3, .getfield 123, 10, 4, []), (182, 3, .if_icmp .ge 49, 231, 0, []), (185, 1, .iconst 1, 0, 0, []), (186, 1, .istore_n 2, 0, 0, []), (187, 1, .iconst 0, 0, 0, []), (188, 1, .istore_n 3, 0, 0, []), (189, 0, .nop, 0, 0, [0, 1, 2, 3]), (189, 1, .iload_n 3, 0, 0, []), (190, 1, .aload_n 0, 0, 0, []), (191, 3, .getfield 7, 10, 0, []), (194, 1, .iconst 0, 0, 0, []), (195, 1, .iaload, 0, 1, []), (196, 3, .if_icmp .ge 22, 218, 0, []), (199, 1, .aload_n 0, 0, 0, []), (200, 3, .getfield 19, 10, 5, []), (203, 3, .sipush 128, 0, 0, []), (206, 1, .iload_n 2, 0, 0, []), (207, 1, .imul, 0, 0, []), (208, 1, .iload_n 1, 0, 0, []), (209, 1, .iadd, 0, 0, []), (210, 1, .iaload, 0, 1, []), (211, 1, .istore_n 2, 0, 0, []), (212, 3, .iinc 3 1, 0, 0, []), (215, 3, .goto (-26), 189, 0, []), (218, 1, .aload_n 0, 0, 0, []), (219, 3, .getfield 25, 10, 7, []), (222, 1, .iload_n 1, 0, 0, []), (223, 1, .iload_n 2, 0, 0, []), (224, 1, .iastore, 0, 1, []), (225, 3, .iinc 1 1, 0, 0, []), (228, 3, .goto (-51), 177, 0, []), (231, 1, .return_, 0, 0, [])]
def kd_X10_world : List RI := [(0, 1, .iload_n 1, 0, 0, []), (1, 1, .iconst 2, 0, 0, []), (2, 3, .if_icmp .eq 13, 15, 0, []), (5, 1, .iload_n 1, 0, 0, []), (6, 1, .iconst 3, 0, 0, []), (7, 3, .if_icmp .eq 8, 15, 0, []), (10, 1, .iload_n 1, 0, 0, []), (11, 1, .iconst 5, 0, 0, []), (12, 3, .if_icmp .ne 8, 20, 0, []), (15, 1, .iload_n 2, 0, 0, []), (16, 1, .iload_n 1, 0, 0, []), (17, 3, .if_icmp .ge 5, 22, 0, []), (20, 1, .iconst (-1), 0, 0, []), (21, 1, .ireturn, 0, 0, []), (22, 1, .aload_n 0, 0, 0, []), (23, 3, .getfield 7, 10, 0, []), (26, 1, .iconst 0, 0, 0, []), (27, 1, .iaload, 0, 1, []), (28, 1, .istore_n 3, 0, 0, []), (29, 1, .aload_n 0, 0, 0, []), (30, 3, .getfield 7, 10, 0, []), (33, 1, .iconst 0, 0, 0, []), (34, 1, .iload_n 1, 0, 0, []), (35, 1, .iastore, 0, 1, []), (36, 1, .iload_n 2, 0, 0, []), (37, 3, .sipush 256, 0, 0, []), (40, 3, .if_icmp .ge 44, 84, 0, []), (43, 1, .aload_n 0, 0, 0, []), (44, 1, .iload_n 2, 0, 0, []), (45, 3, .invokevirtual 126, 183, 0, [1, 1, 0]), (48, 3, .ifCond .eq 36, 84, 0, []), (51, 1, .aload_n 0, 0, 0, []), (52, 1, .iload_n 2, 0, 0, []), (53, 3, .invokevirtual 67, 170, 0, [1, 1, 0]), (56, 1, .iconst 1, 0, 0, []), (57, 2, .bipush 7, 0, 0, []), (59, 3, .invokestatic 107, 168, 0, [3, 1, 0]), (62, 3, .ifCond .eq 22, 84, 0, []), (65, 1, .aload_n 0, 0, 0, []), (66, 1, .aload_n 0, 0, 0, []), (67, 1, .iload_n 2, 0, 0, []), (68, 3, .invokevirtual 67, 170, 0, [1, 1, 0]), (71, 3, .invokevirtual 63, 169, 0, [1, 1, 0]), (74, 3, .sipush 128, 0, 0, []), (77, 3, .if_icmp .gt 7, 84, 0, []), (80, 1, .iconst 1, 0, 0, []), (81, 3, .goto 4, 85, 0, []), (84, 1, .iconst 0, 0, 0, []), (85, 0, .nop, 0, 0, [0, 2, 3]), (85, 2, .istore 4, 0, 0, []), (87, 2, .iload 4, 0, 0, []), (89, 3, .ifCond .ne 12, 101, 0, []), (92, 1, .aload_n 0, 0, 0, []), (93, 3, .getfield 7, 10, 0, []), (96, 1, .iconst 0, 0, 0, []), (97, 1, .iload_n 3, 0, 0, []), (98, 1, .iastore, 0, 1, []), (99, 1, .iconst (-1), 0, 0, []), (100, 1, .ireturn, 0, 0, []), (101, 1, .aload_n 0, 0, 0, []), (102, 3, .getfield 7, 10, 0, []), (105, 1, .iconst 1, 0, 0, []), (106, 1, .iload_n 2, 0, 0, []), (107, 1, .iastore, 0, 1, []), (108, 1, .aload_n 0, 0, 0, []), (109, 3, .getfield 7, 10, 0, []), (112, 1, .iconst 2, 0, 0, []), (113, 1, .iconst 0, 0, 0, []), (114, 1, .iastore, 0, 1, []), (115, 1, .aload_n 0, 0, 0, []), (116, 3, .getfield 7, 10, 0, []), (119, 1, .iconst 3, 0, 0, []), (120, 1, .iconst 0, 0, 0, []), (121, 1, .iastore, 0, 1, []), (122, 1, .aload_n 0, 0, 0, []), (123, 3, .getfield 7, 10, 0, []), (126, 1, .iconst 5, 0, 0, []), (127, 1, .iconst 0, 0, 0, []), (128, 1, .iastore, 0, 1, []), (129, 1, .aload_n 0, 0, 0, []), (130, 3, .getfield 7, 10, 0, []), (133, 2, .bipush 6, 0, 0, []), (135, 1, .iconst 0, 0, 0, []), (136, 1, .iastore, 0, 1, []), (137, 1, .aload_n 0, 0, 0, []), (138, 3, .invokevirtual 56, 185, 0, [0, 0, 0]), (141, 1, .aload_n 0, 0, 0, []), (142, 3, .getfield 123, 10, 4, []), (145, 1, .ireturn, 0, 0, [])]
def kd_X10_isRest : List RI := [(0, 1, .iload_n 1, 0, 0, []), (1, 1, .iconst 0, 0, 0, []), (2, 1, .aload_n 0, 0, 0, []), (3, 3, .getfield 123, 10, 4, []), (6, 1, .iconst 1, 0, 0, []), (7, 1, .isub, 0, 0, []), (8, 3, .invokestatic 107, 168, 0, [3, 1, 0]), (11, 1, .ireturn, 0, 0, [])]
def kd_X10_mul : List RI := [(0, 1, .aload_n 0, 0, 0, []), (1, 3, .getfield 19, 10, 5, []), (4, 3, .sipush 128, 0, 0, []), (7, 1, .iload_n 1, 0, 0, []), (8, 1, .imul, 0, 0, []), (9, 1, .iload_n 2, 0, 0, []), (10, 1, .iadd, 0, 0, []), (11, 1, .iaload, 0, 1, []), (12, 1, .ireturn, 0, 0, [])]
def kd_X10_minus : List RI := [(0, 1, .aload_n 0, 0, 0, []), (1, 1, .iconst 0, 0, 0, []), (2, 1, .iload_n 1, 0, 0, []), (3, 1, .aload_n 0, 0, 0, []), (4, 3, .getfield 7, 10, 0, []), (7, 1, .iconst 0, 0, 0, []), (8, 1, .iaload, 0, 1, []), (9, 1, .iconst 1, 0, 0, []), (10, 1, .isub, 0, 0, []), (11, 3, .invokevirtual 74, 173, 0, [3, 1, 0]), (14, 1, .ireturn, 0, 0, [])]
def kd_X10_raise : List RI := [(0, 1, .iload_n 1, 0, 0, []), (1, 1, .istore_n 3, 0, 0, []), (2, 1, .iload_n 2, 0, 0, []), (3, 1, .aload_n 0, 0, 0, []), (4, 3, .getfield 120, 10, 3, []), (7, 1, .irem, 0, 0, []), (8, 2, .istore 4, 0, 0, []), (10, 0, .nop, 0, 0, [0, 3, 4]), (10, 2, .iload 4, 0, 0, []), (12, 3, .ifCond .le 16, 28, 0, []), (15, 1, .aload_n 0, 0, 0, []), (16, 3, .getfield 25, 10, 7, []), (19, 1, .iload_n 3, 0, 0, []), (20, 1, .iaload, 0, 1, []), (21, 1, .istore_n 3, 0, 0, []), (22, 3, .iinc 4 (-1), 0, 0, []), (25, 3, .goto (-15), 10, 0, []), (28, 1, .iload_n 3, 0, 0, []), (29, 1, .ireturn, 0, 0, [])]
def kd_X10_work : List RI := [(0, 1, .aload_n 0, 0, 0, []), (1, 1, .iload_n 2, 0, 0, []), (2, 3, .invokevirtual 129, 187, 0, [1, 1, 0]), (5, 3, .ifCond .eq 29, 34, 0, []), (8, 1, .aload_n 0, 0, 0, []), (9, 1, .iload_n 3, 0, 0, []), (10, 3, .invokevirtual 129, 187, 0, [1, 1, 0]), (13, 3, .ifCond .eq 21, 34, 0, []), (16, 1, .iload_n 1, 0, 0, []), (17, 1, .iconst 0, 0, 0, []), (18, 1, .iconst 3, 0, 0, []), (19, 3, .invokestatic 107, 168, 0, [3, 1, 0]), (22, 3, .ifCond .eq 12, 34, 0, []), (25, 1, .iload_n 1, 0, 0, []), (26, 1, .iconst 3, 0, 0, []), (27, 3, .if_icmp .ne 9, 36, 0, []), (30, 1, .iload_n 3, 0, 0, []), (31, 3, .ifCond .ne 5, 36, 0, []), (34, 1, .iconst (-1), 0, 0, []), (35, 1, .ireturn, 0, 0, []), (36, 1, .iload_n 1, 0, 0, []), (37, 3, .ifCond .ne 13, 50, 0, []), (40, 1, .aload_n 0, 0, 0, []), (41, 1, .iload_n 2, 0, 0, []), (42, 1, .iload_n 3, 0, 0, []), (43, 1, .iconst 1, 0, 0, []), (44, 3, .invokevirtual 74, 173, 0, [3, 1, 0]), (47, 3, .goto 45, 92, 0, []), (50, 1, .iload_n 1, 0, 0, []), (51, 1, .iconst 1, 0, 0, []), (52, 3, .if_icmp .ne 20, 72, 0, []), (55, 1, .aload_n 0, 0, 0, []), (56, 1, .iload_n 2, 0, 0, []), (57, 1, .iload_n 3, 0, 0, []), (58, 1, .aload_n 0, 0, 0, []), (59, 3, .getfield 7, 10, 0, []), (62, 1, .iconst 0, 0, 0, []), (63, 1, .iaload, 0, 1, []), (64, 1, .iconst 1, 0, 0, []), (65, 1, .isub, 0, 0, []), (66, 3, .invokevirtual 74, 173, 0, [3, 1, 0]), (69, 3, .goto 23, 92, 0, []), (72, 1, .aload_n 0, 0, 0, []), (73, 1, .iload_n 2, 0, 0, []), (74, 1, .iload_n 1, 0, 0, []), (75, 1, .iconst 2, 0, 0, []), (76, 3, .if_icmp .ne 7, 83, 0, []), (79, 1, .iload_n 3, 0, 0, []), (80, 3, .goto 9, 89, 0, []), (83, 1, .aload_n 0, 0, 0, []), (84, 3, .getfield 22, 10, 6, []), (87, 1, .iload_n 3, 0, 0, []), (88, 1, .iaload, 0, 1, []), (89, 3, .invokevirtual 132, 188, 0, [2, 1, 0]), (92, 1, .ireturn, 0, 0, [])]
def kd_X10_clear : List RI := [(0, 1, .iconst 0, 0, 0, []), (1, 1, .istore_n 2, 0, 0, []), (2, 0, .nop, 0, 0, [0, 1, 2]), (2, 1, .iload_n 2, 0, 0, []), (3, 2, .bipush 25, 0, 0, []), (5, 3, .if_icmp .ge 21, 26, 0, []), (8, 1, .aload_n 0, 0, 0, []), (9, 3, .getfield 28, 10, 8, []), (12, 2, .bipush 25, 0, 0, []), (14, 1, .iload_n 1, 0, 0, []), (15, 1, .imul, 0, 0, []), (16, 1, .iload_n 2, 0, 0, []), (17, 1, .iadd, 0, 0, []), (18, 1, .iconst 0, 0, 0, []), (19, 1, .iastore, 0, 1, []), (20, 3, .iinc 2 1, 0, 0, []), (23, 3, .goto (-21), 2, 0, []), (26, 1, .return_, 0, 0, [])]
def kd_X10_lay : List RI := [(0, 1, .iconst 0, 0, 0, []), (1, 1, .istore_n 3, 0, 0, []), (2, 0, .nop, 0, 0, [0, 1, 2, 3]), (2, 1, .iload_n 3, 0, 0, []), (3, 2, .bipush 25, 0, 0, []), (5, 3, .if_icmp .ge 31, 36, 0, []), (8, 1, .aload_n 0, 0, 0, []), (9, 3, .getfield 28, 10, 8, []), (12, 2, .bipush 25, 0, 0, []), (14, 1, .iload_n 2, 0, 0, []), (15, 1, .imul, 0, 0, []), (16, 1, .iload_n 3, 0, 0, []), (17, 1, .iadd, 0, 0, []), (18, 1, .aload_n 0, 0, 0, []), (19, 3, .getfield 28, 10, 8, []), (22, 2, .bipush 25, 0, 0, []), (24, 1, .iload_n 1, 0, 0, []), (25, 1, .imul, 0, 0, []), (26, 1, .iload_n 3, 0, 0, []), (27, 1, .iadd, 0, 0, []), (28, 1, .iaload, 0, 1, []), (29, 1, .iastore, 0, 1, []), (30, 3, .iinc 3 1, 0, 0, []), (33, 3, .goto (-31), 2, 0, []), (36, 1, .return_, 0, 0, [])]
def kd_X10_degreeAt : List RI := [(0, 2, .bipush 24, 0, 0, []), (2, 1, .istore_n 2, 0, 0, []), (3, 0, .nop, 0, 0, [0, 1, 2]), (3, 1, .iload_n 2, 0, 0, []), (4, 3, .ifCond .lt 23, 27, 0, []), (7, 1, .aload_n 0, 0, 0, []), (8, 3, .getfield 28, 10, 8, []), (11, 2, .bipush 25, 0, 0, []), (13, 1, .iload_n 1, 0, 0, []), (14, 1, .imul, 0, 0, []), (15, 1, .iload_n 2, 0, 0, []), (16, 1, .iadd, 0, 0, []), (17, 1, .iaload, 0, 1, []), (18, 3, .ifCond .ne 9, 27, 0, []), (21, 3, .iinc 2 (-1), 0, 0, []), (24, 3, .goto (-21), 3, 0, []), (27, 1, .iload_n 2, 0, 0, []), (28, 1, .ireturn, 0, 0, [])]
def kd_X10_multiply : List RI := [(0, 1, .aload_n 0, 0, 0, []), (1, 1, .iload_n 3, 0, 0, []), (2, 3, .invokevirtual 135, 192, 0, [1, 0, 0]), (5, 1, .aload_n 0, 0, 0, []), (6, 1, .iload_n 1, 0, 0, []), (7, 3, .invokevirtual 139, 194, 0, [1, 1, 0]), (10, 3, .ifCond .lt 11, 21, 0, []), (13, 1, .aload_n 0, 0, 0, []), (14, 1, .iload_n 2, 0, 0, []), (15, 3, .invokevirtual 139, 194, 0, [1, 1, 0]), (18, 3, .ifCond .ge 5, 23, 0, []), (21, 1, .iconst 1, 0, 0, []), (22, 1, .ireturn, 0, 0, []), (23, 1, .aload_n 0, 0, 0, []), (24, 1, .iload_n 1, 0, 0, []), (25, 3, .invokevirtual 139, 194, 0, [1, 1, 0]), (28, 1, .aload_n 0, 0, 0, []), (29, 1, .iload_n 2, 0, 0, []), (30, 3, .invokevirtual 139, 194, 0, [1, 1, 0]), (33, 1, .iadd, 0, 0, []), (34, 2, .bipush 24, 0, 0, []), (36, 3, .if_icmp .le 5, 41, 0, []), (39, 1, .iconst 0, 0, 0, []), (40, 1, .ireturn, 0, 0, []), (41, 1, .iconst 0, 0, 0, []), (42, 2, .istore 4, 0, 0, []), (44, 0, .nop, 0, 0, [0, 1, 2, 3, 4]), (44, 2, .iload 4, 0, 0, []), (46, 1, .aload_n 0, 0, 0, []), (47, 1, .iload_n 1, 0, 0, []), (48, 3, .invokevirtual 139, 194, 0, [1, 1, 0]), (51, 3, .if_icmp .gt 115, 166, 0, []), (54, 1, .aload_n 0, 0, 0, []), (55, 3, .getfield 28, 10, 8, []), (58, 2, .bipush 25, 0, 0, []), (60, 1, .iload_n 1, 0, 0, []), (61, 1, .imul, 0, 0, []), (62, 2, .iload 4, 0, 0, []), (64, 1, .iadd, 0, 0, []), (65, 1, .iaload, 0, 1, []), (66, 3, .ifCond .ne 6, 72, 0, []), (69, 3, .goto 91, 160, 0, []), (72, 1, .iconst 0, 0, 0, []), (73, 2, .istore 5, 0, 0, []), (75, 0, .nop, 0, 0, [0, 1, 2, 3, 4, 5]), (75, 2, .iload 5, 0, 0, []), (77, 1, .aload_n 0, 0, 0, []), (78, 1, .iload_n 2, 0, 0, []), (79, 3, .invokevirtual 139, 194, 0, [1, 1, 0]), (82, 3, .if_icmp .gt 78, 160, 0, []), (85, 1, .aload_n 0, 0, 0, []), (86, 3, .getfield 28, 10, 8, []), (89, 2, .bipush 25, 0, 0, []), (91, 1, .iload_n 3, 0, 0, []), (92, 1, .imul, 0, 0, []), (93, 2, .iload 4, 0, 0, []), (95, 1, .iadd, 0, 0, []), (96, 2, .iload 5, 0, 0, []), (98, 1, .iadd, 0, 0, []), (99, 1, .aload_n 0, 0, 0, []), (100, 1, .aload_n 0, 0, 0, []), (101, 3, .getfield 28, 10, 8, []), (104, 2, .bipush 25, 0, 0, []), (106, 1, .iload_n 3, 0, 0, []), (107, 1, .imul, 0, 0, []), (108, 2, .iload 4, 0, 0, []), (110, 1, .iadd, 0, 0, []), (111, 2, .iload 5, 0, 0, []), (113, 1, .iadd, 0, 0, []), (114, 1, .iaload, 0, 1, []), (115, 1, .aload_n 0, 0, 0, []), (116, 1, .aload_n 0, 0, 0, []), (117, 3, .getfield 28, 10, 8, []), (120, 2, .bipush 25, 0, 0, []), (122, 1, .iload_n 1, 0, 0, []), (123, 1, .imul, 0, 0, []), (124, 2, .iload 4, 0, 0, []), (126, 1, .iadd, 0, 0, []), (127, 1, .iaload, 0, 1, []), (128, 1, .aload_n 0, 0, 0, []), (129, 1, .aload_n 0, 0, 0, []), (130, 3, .getfield 28, 10, 8, []), (133, 2, .bipush 25, 0, 0, []), (135, 1, .iload_n 2, 0, 0, []), (136, 1, .imul, 0, 0, []), (137, 2, .iload 5, 0, 0, []), (139, 1, .iadd, 0, 0, []), (140, 1, .iaload, 0, 1, []), (141, 2, .iload 4, 0, 0, []), (143, 3, .invokevirtual 142, 190, 0, [2, 1, 0]), (146, 3, .invokevirtual 132, 188, 0, [2, 1, 0]), (149, 1, .iconst 1, 0, 0, []), (150, 3, .invokevirtual 74, 173, 0, [3, 1, 0]), (153, 1, .iastore, 0, 1, []), (154, 3, .iinc 5 1, 0, 0, []), (157, 3, .goto (-82), 75, 0, []), (160, 3, .iinc 4 1, 0, 0, []), (163, 3, .goto (-119), 44, 0, []), (166, 1, .iconst 1, 0, 0, []), (167, 1, .ireturn, 0, 0, [])]
def kd_X10_add : List RI := [(0, 1, .iconst 0, 0, 0, []), (1, 2, .istore 4, 0, 0, []), (3, 0, .nop, 0, 0, [0, 1, 2, 3, 4]), (3, 2, .iload 4, 0, 0, []), (5, 2, .bipush 25, 0, 0, []), (7, 3, .if_icmp .ge 50, 57, 0, []), (10, 1, .aload_n 0, 0, 0, []), (11, 3, .getfield 28, 10, 8, []), (14, 2, .bipush 25, 0, 0, []), (16, 1, .iload_n 1, 0, 0, []), (17, 1, .imul, 0, 0, []), (18, 2, .iload 4, 0, 0, []), (20, 1, .iadd, 0, 0, []), (21, 1, .aload_n 0, 0, 0, []), (22, 1, .aload_n 0, 0, 0, []), (23, 3, .getfield 28, 10, 8, []), (26, 2, .bipush 25, 0, 0, []), (28, 1, .iload_n 1, 0, 0, []), (29, 1, .imul, 0, 0, []), (30, 2, .iload 4, 0, 0, []), (32, 1, .iadd, 0, 0, []), (33, 1, .iaload, 0, 1, []), (34, 1, .aload_n 0, 0, 0, []), (35, 3, .getfield 28, 10, 8, []), (38, 2, .bipush 25, 0, 0, []), (40, 1, .iload_n 2, 0, 0, []), (41, 1, .imul, 0, 0, []), (42, 2, .iload 4, 0, 0, []), (44, 1, .iadd, 0, 0, []), (45, 1, .iaload, 0, 1, []), (46, 1, .iload_n 3, 0, 0, []), (47, 3, .invokevirtual 74, 173, 0, [3, 1, 0]), (50, 1, .iastore, 0, 1, []), (51, 3, .iinc 4 1, 0, 0, []), (54, 3, .goto (-51), 3, 0, []), (57, 1, .return_, 0, 0, [])]
def kd_X10_divideBy : List RI := [(0, 1, .aload_n 0, 0, 0, []), (1, 1, .iload_n 3, 0, 0, []), (2, 3, .invokevirtual 135, 192, 0, [1, 0, 0]), (5, 1, .aload_n 0, 0, 0, []), (6, 1, .iload_n 2, 0, 0, []), (7, 3, .invokevirtual 139, 194, 0, [1, 1, 0]), (10, 2, .istore 4, 0, 0, []), (12, 0, .nop, 0, 0, [0, 1, 2, 3, 4]), (12, 1, .aload_n 0, 0, 0, []), (13, 1, .iload_n 1, 0, 0, []), (14, 3, .invokevirtual 139, 194, 0, [1, 1, 0]), (17, 2, .iload 4, 0, 0, []), (19, 3, .if_icmp .lt 157, 176, 0, []), (22, 1, .aload_n 0, 0, 0, []), (23, 1, .iload_n 1, 0, 0, []), (24, 3, .invokevirtual 139, 194, 0, [1, 1, 0]), (27, 2, .istore 5, 0, 0, []), (29, 2, .iload 5, 0, 0, []), (31, 2, .iload 4, 0, 0, []), (33, 1, .isub, 0, 0, []), (34, 2, .istore 6, 0, 0, []), (36, 1, .aload_n 0, 0, 0, []), (37, 1, .aload_n 0, 0, 0, []), (38, 3, .getfield 28, 10, 8, []), (41, 2, .bipush 25, 0, 0, []), (43, 1, .iload_n 1, 0, 0, []), (44, 1, .imul, 0, 0, []), (45, 2, .iload 5, 0, 0, []), (47, 1, .iadd, 0, 0, []), (48, 1, .iaload, 0, 1, []), (49, 1, .aload_n 0, 0, 0, []), (50, 3, .getfield 22, 10, 6, []), (53, 1, .aload_n 0, 0, 0, []), (54, 1, .aload_n 0, 0, 0, []), (55, 3, .getfield 28, 10, 8, []), (58, 2, .bipush 25, 0, 0, []), (60, 1, .iload_n 2, 0, 0, []), (61, 1, .imul, 0, 0, []), (62, 2, .iload 4, 0, 0, []), (64, 1, .iadd, 0, 0, []), (65, 1, .iaload, 0, 1, []), (66, 2, .iload 6, 0, 0, []), (68, 3, .invokevirtual 142, 190, 0, [2, 1, 0]), (71, 1, .iaload, 0, 1, []), (72, 3, .invokevirtual 132, 188, 0, [2, 1, 0]), (75, 2, .istore 7, 0, 0, []), (77, 1, .aload_n 0, 0, 0, []), (78, 3, .getfield 28, 10, 8, []), (81, 2, .bipush 25, 0, 0, []), (83, 1, .iload_n 3, 0, 0, []), (84, 1, .imul, 0, 0, []), (85, 2, .iload 6, 0, 0, []), (87, 1, .iadd, 0, 0, []), (88, 2, .iload 7, 0, 0, []), (90, 1, .iastore, 0, 1, []), (91, 1, .iconst 0, 0, 0, []), (92, 2, .istore 8, 0, 0, []), (94, 0, .nop, 0, 0, [0, 1, 2, 3, 4, 6, 7, 8]), (94, 2, .iload 8, 0, 0, []), (96, 2, .iload 4, 0, 0, []), (98, 3, .if_icmp .gt 75, 173, 0, []), (101, 1, .aload_n 0, 0, 0, []), (102, 3, .getfield 28, 10, 8, []), (105, 2, .bipush 25, 0, 0, []), (107, 1, .iload_n 1, 0, 0, []), (108, 1, .imul, 0, 0, []), (109, 2, .iload 6, 0, 0, []), (111, 1, .iadd, 0, 0, []), (112, 2, .iload 8, 0, 0, []), (114, 1, .iadd, 0, 0, []), (115, 1, .aload_n 0, 0, 0, []), (116, 1, .aload_n 0, 0, 0, []), (117, 3, .getfield 28, 10, 8, []), (120, 2, .bipush 25, 0, 0, []), (122, 1, .iload_n 1, 0, 0, []), (123, 1, .imul, 0, 0, []), (124, 2, .iload 6, 0, 0, []), (126, 1, .iadd, 0, 0, []), (127, 2, .iload 8, 0, 0, []), (129, 1, .iadd, 0, 0, []), (130, 1, .iaload, 0, 1, []), (131, 1, .aload_n 0, 0, 0, []), (132, 2, .iload 7, 0, 0, []), (134, 1, .aload_n 0, 0, 0, []), (135, 1, .aload_n 0, 0, 0, []), (136, 3, .getfield 28, 10, 8, []), (139, 2, .bipush 25, 0, 0, []), (141, 1, .iload_n 2, 0, 0, []), (142, 1, .imul, 0, 0, []), (143, 2, .iload 8, 0, 0, []), (145, 1, .iadd, 0, 0, []), (146, 1, .iaload, 0, 1, []), (147, 2, .iload 6, 0, 0, []), (149, 3, .invokevirtual 142, 190, 0, [2, 1, 0]), (152, 3, .invokevirtual 132, 188, 0, [2, 1, 0]), (155, 1, .aload_n 0, 0, 0, []), (156, 3, .getfield 7, 10, 0, []), (159, 1, .iconst 0, 0, 0, []), (160, 1, .iaload, 0, 1, []), (161, 1, .iconst 1, 0, 0, []), (162, 1, .isub, 0, 0, []), (163, 3, .invokevirtual 74, 173, 0, [3, 1, 0]), (166, 1, .iastore, 0, 1, []), (167, 3, .iinc 8 1, 0, 0, []), (170, 3, .goto (-76), 94, 0, []), (173, 3, .goto (-161), 12, 0, []), (176, 1, .return_, 0, 0, [])]
def kd_X10_sent : List RI := [(0, 1, .iconst 0, 0, 0, []), (1, 1, .istore_n 3, 0, 0, []), (2, 1, .iconst 0, 0, 0, []), (3, 2, .istore 4, 0, 0, []), (5, 0, .nop, 0, 0, [0, 1, 2, 3, 4]), (5, 2, .iload 4, 0, 0, []), (7, 2, .bipush 25, 0, 0, []), (9, 3, .if_icmp .ge 54, 63, 0, []), (12, 1, .aload_n 0, 0, 0, []), (13, 3, .getfield 28, 10, 8, []), (16, 2, .bipush 25, 0, 0, []), (18, 1, .iload_n 1, 0, 0, []), (19, 1, .imul, 0, 0, []), (20, 2, .iload 4, 0, 0, []), (22, 1, .iadd, 0, 0, []), (23, 1, .iaload, 0, 1, []), (24, 3, .ifCond .le 33, 57, 0, []), (27, 1, .aload_n 0, 0, 0, []), (28, 1, .iload_n 3, 0, 0, []), (29, 1, .aload_n 0, 0, 0, []), (30, 1, .aload_n 0, 0, 0, []), (31, 3, .getfield 28, 10, 8, []), (34, 2, .bipush 25, 0, 0, []), (36, 1, .iload_n 1, 0, 0, []), (37, 1, .imul, 0, 0, []), (38, 2, .iload 4, 0, 0, []), (40, 1, .iadd, 0, 0, []), (41, 1, .iaload, 0, 1, []), (42, 1, .aload_n 0, 0, 0, []), (43, 1, .iload_n 2, 0, 0, []), (44, 2, .iload 4, 0, 0, []), (46, 3, .invokevirtual 142, 190, 0, [2, 1, 0]), (49, 3, .invokevirtual 132, 188, 0, [2, 1, 0]), (52, 1, .iconst 1, 0, 0, []), (53, 3, .invokevirtual 74, 173, 0, [3, 1, 0]), (56, 1, .istore_n 3, 0, 0, []), (57, 3, .iinc 4 1, 0, 0, []), (60, 3, .goto (-55), 5, 0, []), (63, 1, .iload_n 3, 0, 0, []), (64, 1, .ireturn, 0, 0, [])]
def kd_X10_layModule : List RI := [(0, 1, .aload_n 0, 0, 0, []), (1, 1, .iload_n 2, 0, 0, []), (2, 3, .invokevirtual 135, 192, 0, [1, 0, 0]), (5, 1, .iconst 0, 0, 0, []), (6, 1, .istore_n 3, 0, 0, []), (7, 0, .nop, 0, 0, [0, 1, 2, 3]), (7, 1, .iload_n 3, 0, 0, []), (8, 1, .iconst 4, 0, 0, []), (9, 3, .if_icmp .ge 33, 42, 0, []), (12, 1, .aload_n 0, 0, 0, []), (13, 3, .getfield 28, 10, 8, []), (16, 2, .bipush 25, 0, 0, []), (18, 1, .iload_n 2, 0, 0, []), (19, 1, .imul, 0, 0, []), (20, 1, .iload_n 3, 0, 0, []), (21, 1, .iadd, 0, 0, []), (22, 1, .aload_n 0, 0, 0, []), (23, 3, .getfield 7, 10, 0, []), (26, 2, .bipush 10, 0, 0, []), (28, 1, .iconst 4, 0, 0, []), (29, 1, .iload_n 1, 0, 0, []), (30, 1, .imul, 0, 0, []), (31, 1, .iadd, 0, 0, []), (32, 1, .iload_n 3, 0, 0, []), (33, 1, .iadd, 0, 0, []), (34, 1, .iaload, 0, 1, []), (35, 1, .iastore, 0, 1, []), (36, 3, .iinc 3 1, 0, 0, []), (39, 3, .goto (-32), 7, 0, []), (42, 1, .return_, 0, 0, [])]
def kd_X10_layMap : List RI := [(0, 1, .aload_n 0, 0, 0, []), (1, 1, .iload_n 2, 0, 0, []), (2, 3, .invokevirtual 135, 192, 0, [1, 0, 0]), (5, 1, .iconst 0, 0, 0, []), (6, 1, .istore_n 3, 0, 0, []), (7, 0, .nop, 0, 0, [0, 1, 2, 3]), (7, 1, .iload_n 3, 0, 0, []), (8, 2, .bipush 8, 0, 0, []), (10, 3, .if_icmp .ge 34, 44, 0, []), (13, 1, .aload_n 0, 0, 0, []), (14, 3, .getfield 28, 10, 8, []), (17, 2, .bipush 25, 0, 0, []), (19, 1, .iload_n 2, 0, 0, []), (20, 1, .imul, 0, 0, []), (21, 1, .iload_n 3, 0, 0, []), (22, 1, .iadd, 0, 0, []), (23, 1, .aload_n 0, 0, 0, []), (24, 3, .getfield 7, 10, 0, []), (27, 2, .bipush 50, 0, 0, []), (29, 2, .bipush 8, 0, 0, []), (31, 1, .iload_n 1, 0, 0, []), (32, 1, .imul, 0, 0, []), (33, 1, .iadd, 0, 0, []), (34, 1, .iload_n 3, 0, 0, []), (35, 1, .iadd, 0, 0, []), (36, 1, .iaload, 0, 1, []), (37, 1, .iastore, 0, 1, []), (38, 3, .iinc 3 1, 0, 0, []), (41, 3, .goto (-34), 7, 0, []), (44, 1, .return_, 0, 0, [])]
def kd_X10_isModule : List RI := [(0, 1, .iload_n 1, 0, 0, []), (1, 1, .iconst 0, 0, 0, []), (2, 1, .aload_n 0, 0, 0, []), (3, 3, .getfield 7, 10, 0, []), (6, 1, .iconst 2, 0, 0, []), (7, 1, .iaload, 0, 1, []), (8, 1, .iconst 1, 0, 0, []), (9, 1, .isub, 0, 0, []), (10, 3, .invokestatic 107, 168, 0, [3, 1, 0]), (13, 1, .ireturn, 0, 0, [])]
def kd_X10_isMap : List RI := [(0, 1, .iload_n 1, 0, 0, []), (1, 1, .iconst 0, 0, 0, []), (2, 1, .aload_n 0, 0, 0, []), (3, 3, .getfield 7, 10, 0, []), (6, 1, .iconst 3, 0, 0, []), (7, 1, .iaload, 0, 1, []), (8, 1, .iconst 1, 0, 0, []), (9, 1, .isub, 0, 0, []), (10, 3, .invokestatic 107, 168, 0, [3, 1, 0]), (13, 1, .ireturn, 0, 0, [])]
def kd_X10_step : List RI := [(0, 1, .aload_n 0, 0, 0, []), (1, 3, .getfield 7, 10, 0, []), (4, 3, .sipush 130, 0, 0, []), (7, 1, .aload_n 0, 0, 0, []), (8, 3, .getfield 7, 10, 0, []), (11, 1, .iconst 5, 0, 0, []), (12, 1, .iaload, 0, 1, []), (13, 1, .iadd, 0, 0, []), (14, 1, .iload_n 1, 0, 0, []), (15, 1, .iastore, 0, 1, []), (16, 1, .aload_n 0, 0, 0, []), (17, 3, .getfield 7, 10, 0, []), (20, 1, .iconst 5, 0, 0, []), (21, 1, .dup2, 0, 0, []), (22, 1, .iaload, 0, 1, []), (23, 1, .iconst 1, 0, 0, []), (24, 1, .iadd, 0, 0, []), (25, 1, .iastore, 0, 1, []), (26, 1, .aload_n 0, 0, 0, []), (27, 3, .getfield 7, 10, 0, []), (30, 2, .bipush 6, 0, 0, []), (32, 1, .aload_n 0, 0, 0, []), (33, 3, .getfield 7, 10, 0, []), (36, 1, .iconst 5, 0, 0, []), (37, 1, .iaload, 0, 1, []), (38, 1, .iastore, 0, 1, []), (39, 1, .return_, 0, 0, [])]
def kd_X10_tellModule : List RI := [(0, 1, .aload_n 0, 0, 0, []), (1, 1, .iload_n 1, 0, 0, []), (2, 3, .invokevirtual 139, 194, 0, [1, 1, 0]), (5, 1, .iconst 1, 0, 0, []), (6, 1, .iconst 3, 0, 0, []), (7, 3, .invokestatic 107, 168, 0, [3, 1, 0]), (10, 3, .ifCond .eq 14, 24, 0, []), (13, 1, .aload_n 0, 0, 0, []), (14, 3, .getfield 7, 10, 0, []), (17, 1, .iconst 2, 0, 0, []), (18, 1, .iaload, 0, 1, []), (19, 2, .bipush 10, 0, 0, []), (21, 3, .if_icmp .ne 5, 26, 0, []), (24, 1, .iconst (-1), 0, 0, []), (25, 1, .ireturn, 0, 0, []), (26, 1, .iconst 0, 0, 0, []), (27, 1, .istore_n 2, 0, 0, []), (28, 0, .nop, 0, 0, [0, 1, 2]), (28, 1, .iload_n 2, 0, 0, []), (29, 1, .iconst 4, 0, 0, []), (30, 3, .if_icmp .ge 38, 68, 0, []), (33, 1, .aload_n 0, 0, 0, []), (34, 3, .getfield 7, 10, 0, []), (37, 2, .bipush 10, 0, 0, []), (39, 1, .iconst 4, 0, 0, []), (40, 1, .aload_n 0, 0, 0, []), (41, 3, .getfield 7, 10, 0, []), (44, 1, .iconst 2, 0, 0, []), (45, 1, .iaload, 0, 1, []), (46, 1, .imul, 0, 0, []), (47, 1, .iadd, 0, 0, []), (48, 1, .iload_n 2, 0, 0, []), (49, 1, .iadd, 0, 0, []), (50, 1, .aload_n 0, 0, 0, []), (51, 3, .getfield 28, 10, 8, []), (54, 2, .bipush 25, 0, 0, []), (56, 1, .iload_n 1, 0, 0, []), (57, 1, .imul, 0, 0, []), (58, 1, .iload_n 2, 0, 0, []), (59, 1, .iadd, 0, 0, []), (60, 1, .iaload, 0, 1, []), (61, 1, .iastore, 0, 1, []), (62, 3, .iinc 2 1, 0, 0, []), (65, 3, .goto (-37), 28, 0, []), (68, 1, .aload_n 0, 0, 0, []), (69, 3, .getfield 7, 10, 0, []), (72, 1, .iconst 2, 0, 0, []), (73, 1, .dup2, 0, 0, []), (74, 1, .iaload, 0, 1, []), (75, 1, .iconst 1, 0, 0, []), (76, 1, .iadd, 0, 0, []), (77, 1, .iastore, 0, 1, []), (78, 1, .aload_n 0, 0, 0, []), (79, 1, .iconst 0, 0, 0, []), (80, 3, .invokevirtual 145, 203, 0, [1, 0, 0]), (83, 1, .aload_n 0, 0, 0, []), (84, 3, .getfield 7, 10, 0, []), (87, 1, .iconst 2, 0, 0, []), (88, 1, .iaload, 0, 1, []), (89, 1, .iconst 1, 0, 0, []), (90, 1, .isub, 0, 0, []), (91, 1, .ireturn, 0, 0, [])]
def kd_X10_tellMap : List RI := [(0, 1, .aload_n 0, 0, 0, []), (1, 1, .iload_n 1, 0, 0, []), (2, 3, .invokevirtual 139, 194, 0, [1, 1, 0]), (5, 1, .iconst 0, 0, 0, []), (6, 2, .bipush 7, 0, 0, []), (8, 3, .invokestatic 107, 168, 0, [3, 1, 0]), (11, 3, .ifCond .eq 14, 25, 0, []), (14, 1, .aload_n 0, 0, 0, []), (15, 3, .getfield 7, 10, 0, []), (18, 1, .iconst 3, 0, 0, []), (19, 1, .iaload, 0, 1, []), (20, 2, .bipush 10, 0, 0, []), (22, 3, .if_icmp .ne 5, 27, 0, []), (25, 1, .iconst (-1), 0, 0, []), (26, 1, .ireturn, 0, 0, []), (27, 1, .iconst 0, 0, 0, []), (28, 1, .istore_n 2, 0, 0, []), (29, 0, .nop, 0, 0, [0, 1, 2]), (29, 1, .iload_n 2, 0, 0, []), (30, 2, .bipush 8, 0, 0, []), (32, 3, .if_icmp .ge 39, 71, 0, []), (35, 1, .aload_n 0, 0, 0, []), (36, 3, .getfield 7, 10, 0, []), (39, 2, .bipush 50, 0, 0, []), (41, 2, .bipush 8, 0, 0, []), (43, 1, .aload_n 0, 0, 0, []), (44, 3, .getfield 7, 10, 0, []), (47, 1, .iconst 3, 0, 0, []), (48, 1, .iaload, 0, 1, []), (49, 1, .imul, 0, 0, []), (50, 1, .iadd, 0, 0, []), (51, 1, .iload_n 2, 0, 0, []), (52, 1, .iadd, 0, 0, []), (53, 1, .aload_n 0, 0, 0, []), (54, 3, .getfield 28, 10, 8, []), (57, 2, .bipush 25, 0, 0, []), (59, 1, .iload_n 1, 0, 0, []), (60, 1, .imul, 0, 0, []), (61, 1, .iload_n 2, 0, 0, []), (62, 1, .iadd, 0, 0, []), (63, 1, .iaload, 0, 1, []), (64, 1, .iastore, 0, 1, []), (65, 3, .iinc 2 1, 0, 0, []), (68, 3, .goto (-39), 29, 0, []), (71, 1, .aload_n 0, 0, 0, []), (72, 3, .getfield 7, 10, 0, []), (75, 1, .iconst 3, 0, 0, []), (76, 1, .dup2, 0, 0, []), (77, 1, .iaload, 0, 1, []), (78, 1, .iconst 1, 0, 0, []), (79, 1, .iadd, 0, 0, []), (80, 1, .iastore, 0, 1, []), (81, 1, .aload_n 0, 0, 0, []), (82, 1, .iconst 1, 0, 0, []), (83, 3, .invokevirtual 145, 203, 0, [1, 0, 0]), (86, 1, .aload_n 0, 0, 0, []), (87, 3, .getfield 7, 10, 0, []), (90, 1, .iconst 3, 0, 0, []), (91, 1, .iaload, 0, 1, []), (92, 1, .iconst 1, 0, 0, []), (93, 1, .isub, 0, 0, []), (94, 1, .ireturn, 0, 0, [])]
def kd_X10_module : List RI := [(0, 1, .aload_n 0, 0, 0, []), (1, 1, .iload_n 1, 0, 0, []), (2, 3, .invokevirtual 129, 187, 0, [1, 1, 0]), (5, 3, .ifCond .eq 28, 33, 0, []), (8, 1, .aload_n 0, 0, 0, []), (9, 1, .iload_n 2, 0, 0, []), (10, 3, .invokevirtual 129, 187, 0, [1, 1, 0]), (13, 3, .ifCond .eq 20, 33, 0, []), (16, 1, .aload_n 0, 0, 0, []), (17, 1, .iload_n 3, 0, 0, []), (18, 3, .invokevirtual 129, 187, 0, [1, 1, 0]), (21, 3, .ifCond .eq 12, 33, 0, []), (24, 1, .aload_n 0, 0, 0, []), (25, 2, .iload 4, 0, 0, []), (27, 3, .invokevirtual 129, 187, 0, [1, 1, 0]), (30, 3, .ifCond .ne 5, 35, 0, []), (33, 1, .iconst (-1), 0, 0, []), (34, 1, .ireturn, 0, 0, []), (35, 1, .aload_n 0, 0, 0, []), (36, 1, .iconst 3, 0, 0, []), (37, 3, .invokevirtual 135, 192, 0, [1, 0, 0]), (40, 1, .aload_n 0, 0, 0, []), (41, 3, .getfield 28, 10, 8, []), (44, 2, .bipush 75, 0, 0, []), (46, 1, .iload_n 1, 0, 0, []), (47, 1, .iastore, 0, 1, []), (48, 1, .aload_n 0, 0, 0, []), (49, 3, .getfield 28, 10, 8, []), (52, 2, .bipush 76, 0, 0, []), (54, 1, .iload_n 2, 0, 0, []), (55, 1, .iastore, 0, 1, []), (56, 1, .aload_n 0, 0, 0, []), (57, 3, .getfield 28, 10, 8, []), (60, 2, .bipush 77, 0, 0, []), (62, 1, .iload_n 3, 0, 0, []), (63, 1, .iastore, 0, 1, []), (64, 1, .aload_n 0, 0, 0, []), (65, 3, .getfield 28, 10, 8, []), (68, 2, .bipush 78, 0, 0, []), (70, 2, .iload 4, 0, 0, []), (72, 1, .iastore, 0, 1, []), (73, 1, .aload_n 0, 0, 0, []), (74, 1, .iconst 3, 0, 0, []), (75, 3, .invokevirtual 148, 204, 0, [1, 1, 0]), (78, 1, .ireturn, 0, 0, [])]
def kd_X10_map : List RI := [(0, 1, .aload_n 0, 0, 0, []), (1, 1, .iload_n 1, 0, 0, []), (2, 3, .invokevirtual 129, 187, 0, [1, 1, 0]), (5, 3, .ifCond .eq 19, 24, 0, []), (8, 1, .aload_n 0, 0, 0, []), (9, 1, .iload_n 2, 0, 0, []), (10, 3, .invokevirtual 129, 187, 0, [1, 1, 0]), (13, 3, .ifCond .eq 11, 24, 0, []), (16, 1, .aload_n 0, 0, 0, []), (17, 1, .iload_n 3, 0, 0, []), (18, 3, .invokevirtual 129, 187, 0, [1, 1, 0]), (21, 3, .ifCond .ne 5, 26, 0, []), (24, 1, .iconst (-1), 0, 0, []), (25, 1, .ireturn, 0, 0, []), (26, 1, .aload_n 0, 0, 0, []), (27, 1, .iconst 3, 0, 0, []), (28, 3, .invokevirtual 135, 192, 0, [1, 0, 0]), (31, 1, .aload_n 0, 0, 0, []), (32, 3, .getfield 28, 10, 8, []), (35, 2, .bipush 75, 0, 0, []), (37, 1, .iload_n 1, 0, 0, []), (38, 1, .iastore, 0, 1, []), (39, 1, .aload_n 0, 0, 0, []), (40, 3, .getfield 28, 10, 8, []), (43, 2, .bipush 76, 0, 0, []), (45, 1, .iload_n 2, 0, 0, []), (46, 1, .iastore, 0, 1, []), (47, 1, .aload_n 0, 0, 0, []), (48, 3, .getfield 28, 10, 8, []), (51, 2, .bipush 77, 0, 0, []), (53, 1, .iload_n 3, 0, 0, []), (54, 1, .iastore, 0, 1, []), (55, 1, .aload_n 0, 0, 0, []), (56, 1, .iconst 3, 0, 0, []), (57, 3, .invokevirtual 151, 205, 0, [1, 1, 0]), (60, 1, .ireturn, 0, 0, [])]
def kd_X10_four : List RI := [(0, 2, .bipush 24, 0, 0, []), (2, 1, .istore_n 2, 0, 0, []), (3, 0, .nop, 0, 0, [0, 1, 2]), (3, 1, .iload_n 2, 0, 0, []), (4, 3, .ifCond .lt 35, 39, 0, []), (7, 1, .aload_n 0, 0, 0, []), (8, 3, .getfield 31, 10, 11, []), (11, 1, .aload_n 0, 0, 0, []), (12, 3, .getfield 154, 10, 12, []), (15, 1, .iload_n 1, 0, 0, []), (16, 1, .iload_n 2, 0, 0, []), (17, 1, .ishr, 0, 0, []), (18, 3, .sipush 255, 0, 0, []), (21, 1, .iand, 0, 0, []), (22, 1, .iastore, 0, 1, []), (23, 1, .aload_n 0, 0, 0, []), (24, 1, .dup, 0, 0, []), (25, 3, .getfield 154, 10, 12, []), (28, 1, .iconst 1, 0, 0, []), (29, 1, .iadd, 0, 0, []), (30, 3, .putfield 154, 10, 12, []), (33, 3, .iinc 2 (-8), 0, 0, []), (36, 3, .goto (-33), 3, 0, []), (39, 1, .return_, 0, 0, [])]
def kd_X10_feed : List RI := [(0, 1, .aload_n 0, 0, 0, []), (1, 3, .getfield 154, 10, 12, []), (4, 2, .bipush 20, 0, 0, []), (6, 1, .iadd, 0, 0, []), (7, 3, .sipush 300, 0, 0, []), (10, 3, .if_icmp .le 5, 15, 0, []), (13, 1, .iconst (-1), 0, 0, []), (14, 1, .ireturn, 0, 0, []), (15, 1, .aload_n 0, 0, 0, []), (16, 1, .iload_n 1, 0, 0, []), (17, 3, .invokevirtual 157, 208, 0, [1, 0, 0]), (20, 1, .aload_n 0, 0, 0, []), (21, 1, .iload_n 2, 0, 0, []), (22, 3, .invokevirtual 157, 208, 0, [1, 0, 0]), (25, 1, .aload_n 0, 0, 0, []), (26, 1, .iload_n 3, 0, 0, []), (27, 3, .invokevirtual 157, 208, 0, [1, 0, 0]), (30, 1, .aload_n 0, 0, 0, []), (31, 2, .iload 4, 0, 0, []), (33, 3, .invokevirtual 157, 208, 0, [1, 0, 0]), (36, 1, .aload_n 0, 0, 0, []), (37, 2, .iload 5, 0, 0, []), (39, 3, .invokevirtual 157, 208, 0, [1, 0, 0]), (42, 1, .aload_n 0, 0, 0, []), (43, 3, .getfield 154, 10, 12, []), (46, 1, .ireturn, 0, 0, [])]
def kd_X10_end : List RI := [(0, 1, .iload_n 1, 0, 0, []), (1, 1, .iconst 0, 0, 0, []), (2, 1, .aload_n 0, 0, 0, []), (3, 3, .getfield 154, 10, 12, []), (6, 3, .invokestatic 107, 168, 0, [3, 1, 0]), (9, 3, .ifCond .ne 5, 14, 0, []), (12, 1, .iconst (-1), 0, 0, []), (13, 1, .ireturn, 0, 0, []), (14, 1, .aload_n 0, 0, 0, []), (15, 1, .iload_n 1, 0, 0, []), (16, 3, .putfield 154, 10, 12, []), (19, 1, .iload_n 1, 0, 0, []), (20, 1, .ireturn, 0, 0, [])]
def kd_X10_byteAt : List RI := [(0, 1, .iload_n 1, 0, 0, []), (1, 1, .aload_n 0, 0, 0, []), (2, 3, .getfield 154, 10, 12, []), (5, 3, .if_icmp .ge 12, 17, 0, []), (8, 1, .aload_n 0, 0, 0, []), (9, 3, .getfield 31, 10, 11, []), (12, 1, .iload_n 1, 0, 0, []), (13, 1, .iaload, 0, 1, []), (14, 3, .goto 4, 18, 0, []), (17, 1, .iconst (-1), 0, 0, []), (18, 1, .ireturn, 0, 0, [])]
def kd_X10_isLetter : List RI := [(0, 1, .iload_n 0, 0, 0, []), (1, 2, .bipush 97, 0, 0, []), (3, 2, .bipush 122, 0, 0, []), (5, 3, .invokestatic 107, 168, 0, [3, 1, 0]), (8, 3, .ifCond .ne 14, 22, 0, []), (11, 1, .iload_n 0, 0, 0, []), (12, 2, .bipush 65, 0, 0, []), (14, 2, .bipush 90, 0, 0, []), (16, 3, .invokestatic 107, 168, 0, [3, 1, 0]), (19, 3, .ifCond .eq 7, 26, 0, []), (22, 1, .iconst 1, 0, 0, []), (23, 3, .goto 4, 27, 0, []), (26, 1, .iconst 0, 0, 0, []), (27, 1, .ireturn, 0, 0, [])]
def kd_X10_isDigit : List RI := [(0, 1, .iload_n 0, 0, 0, []), (1, 2, .bipush 48, 0, 0, []), (3, 2, .bipush 57, 0, 0, []), (5, 3, .invokestatic 107, 168, 0, [3, 1, 0]), (8, 1, .ireturn, 0, 0, [])]
def kd_X10_nextToken : List RI := [(0, 0, .nop, 0, 0, [0]), (0, 1, .aload_n 0, 0, 0, []), (1, 1, .aload_n 0, 0, 0, []), (2, 3, .getfield 160, 10, 15, []), (5, 3, .invokevirtual 163, 211, 0, [1, 1, 0]), (8, 2, .bipush 32, 0, 0, []), (10, 3, .if_icmp .eq 16, 26, 0, []), (13, 1, .aload_n 0, 0, 0, []), (14, 1, .aload_n 0, 0, 0, []), (15, 3, .getfield 160, 10, 15, []), (18, 3, .invokevirtual 163, 211, 0, [1, 1, 0]), (21, 2, .bipush 10, 0, 0, []), (23, 3, .if_icmp .ne 16, 39, 0, []), (26, 1, .aload_n 0, 0, 0, []), (27, 1, .dup, 0, 0, []), (28, 3, .getfield 160, 10, 15, []), (31, 1, .iconst 1, 0, 0, []), (32, 1, .iadd, 0, 0, []), (33, 3, .putfield 160, 10, 15, []), (36, 3, .goto (-36), 0, 0, []), (39, 1, .aload_n 0, 0, 0, []), (40, 1, .aload_n 0, 0, 0, []), (41, 3, .getfield 160, 10, 15, []), (44, 3, .putfield 166, 10, 16, []), (47, 1, .aload_n 0, 0, 0, []), (48, 1, .aload_n 0, 0, 0, []), (49, 3, .getfield 160, 10, 15, []), (52, 3, .invokevirtual 163, 211, 0, [1, 1, 0]), (55, 1, .istore_n 1, 0, 0, []), (56, 1, .iload_n 1, 0, 0, []), (57, 3, .ifCond .ge 11, 68, 0, []), (60, 1, .aload_n 0, 0, 0, []), (61, 1, .iconst 0, 0, 0, []), (62, 3, .putfield 169, 10, 17, []), (65, 3, .goto 251, 316, 0, []), (68, 1, .iload_n 1, 0, 0, []), (69, 3, .invokestatic 172, 213, 0, [1, 1, 0]), (72, 3, .ifCond .eq 72, 144, 0, []), (75, 1, .aload_n 0, 0, 0, []), (76, 1, .iconst 1, 0, 0, []), (77, 3, .putfield 169, 10, 17, []), (80, 1, .aload_n 0, 0, 0, []), (81, 1, .iconst 0, 0, 0, []), (82, 3, .putfield 175, 10, 18, []), (85, 0, .nop, 0, 0, [0]), (85, 1, .aload_n 0, 0, 0, []), (86, 1, .aload_n 0, 0, 0, []), (87, 3, .getfield 160, 10, 15, []), (90, 3, .invokevirtual 163, 211, 0, [1, 1, 0]), (93, 3, .invokestatic 172, 213, 0, [1, 1, 0]), (96, 3, .ifCond .eq 220, 316, 0, []), (99, 1, .aload_n 0, 0, 0, []), (100, 3, .getfield 175, 10, 18, []), (103, 2, .ldc 178, 100000, 1, []), (105, 3, .if_icmp .ge 26, 131, 0, []), (108, 1, .aload_n 0, 0, 0, []), (109, 2, .bipush 10, 0, 0, []), (111, 1, .aload_n 0, 0, 0, []), (112, 3, .getfield 175, 10, 18, []), (115, 1, .imul, 0, 0, []), (116, 1, .aload_n 0, 0, 0, []), (117, 1, .aload_n 0, 0, 0, []), (118, 3, .getfield 160, 10, 15, []), (121, 3, .invokevirtual 163, 211, 0, [1, 1, 0]), (124, 1, .iadd, 0, 0, []), (125, 2, .bipush 48, 0, 0, []), (127, 1, .isub, 0, 0, []), (128, 3, .putfield 175, 10, 18, []), (131, 1, .aload_n 0, 0, 0, []), (132, 1, .dup, 0, 0, []), (133, 3, .getfield 160, 10, 15, []), (136, 1, .iconst 1, 0, 0, []), (137, 1, .iadd, 0, 0, []), (138, 3, .putfield 160, 10, 15, []), (141, 3, .goto (-56), 85, 0, []), (144, 1, .iload_n 1, 0, 0, []), (145, 3, .invokestatic 179, 212, 0, [1, 1, 0]), (148, 3, .ifCond .eq 97, 245, 0, []), (151, 1, .aload_n 0, 0, 0, []), (152, 1, .iconst 2, 0, 0, []), (153, 3, .putfield 169, 10, 17, []), (156, 1, .aload_n 0, 0, 0, []), (157, 1, .lconst 0, 0, 0, []), (158, 3, .putfield 182, 10, 19, []), (161, 0, .nop, 0, 0, [0]), (161, 1, .aload_n 0, 0, 0, []), (162, 1, .aload_n 0, 0, 0, []), (163, 3, .getfield 160, 10, 15, []), (166, 3, .invokevirtual 163, 211, 0, [1, 1, 0]), (169, 3, .invokestatic 179, 212, 0, [1, 1, 0]), (172, 3, .ifCond .eq 51, 223, 0, []), (175, 1, .aload_n 0, 0, 0, []), (176, 3, .getfield 160, 10, 15, []), (179, 1, .aload_n 0, 0, 0, []), (180, 3, .getfield 166, 10, 16, []), (183, 1, .isub, 0, 0, []), (184, 2, .bipush 7, 0, 0, []), (186, 3, .if_icmp .ge 24, 210, 0, []), (189, 1, .aload_n 0, 0, 0, []), (190, 1, .aload_n 0, 0, 0, []), (191, 3, .getfield 182, 10, 19, []), (194, 2, .bipush 8, 0, 0, []), (196, 1, .lshl, 0, 0, []), (197, 1, .aload_n 0, 0, 0, []), (198, 1, .aload_n 0, 0, 0, []), (199, 3, .getfield 160, 10, 15, []), (202, 3, .invokevirtual 163, 211, 0, [1, 1, 0]), (205, 1, .i2l, 0, 0, []), (206, 1, .lor, 0, 0, []), (207, 3, .putfield 182, 10, 19, []), (210, 1, .aload_n 0, 0, 0, []), (211, 1, .dup, 0, 0, []), (212, 3, .getfield 160, 10, 15, []), (215, 1, .iconst 1, 0, 0, []), (216, 1, .iadd, 0, 0, []), (217, 3, .putfield 160, 10, 15, []), (220, 3, .goto (-59), 161, 0, []), (223, 1, .aload_n 0, 0, 0, []), (224, 3, .getfield 160, 10, 15, []), (227, 1, .aload_n 0, 0, 0, []), (228, 3, .getfield 166, 10, 16, []), (231, 1, .isub, 0, 0, []), (232, 2, .bipush 7, 0, 0, []), (234, 3, .if_icmp .le 82, 316, 0, []), (237, 1, .aload_n 0, 0, 0, []), (238, 1, .lconst 0, 0, 0, []), (239, 3, .putfield 182, 10, 19, []), (242, 3, .goto 74, 316, 0, []), (245, 1, .aload_n 0, 0, 0, []), (246, 1, .dup, 0, 0, []), (247, 3, .getfield 160, 10, 15, []), (250, 1, .iconst 1, 0, 0, []), (251, 1, .iadd, 0, 0, []), (252, 3, .putfield 160, 10, 15, []), (255, 1, .iload_n 1, 0, 0, []), (256, 2, .bipush 43, 0, 0, []), (258, 3, .if_icmp .eq 39, 297, 0, []), (261, 1, .iload_n 1, 0, 0, []), (262, 2, .bipush 45, 0, 0, []), (264, 3, .if_icmp .eq 33, 297, 0, []), (267, 1, .iload_n 1, 0, 0, []), (268, 2, .bipush 42, 0, 0, []), (270, 3, .if_icmp .eq 27, 297, 0, []), (273, 1, .iload_n 1, 0, 0, []), (274, 2, .bipush 94, 0, 0, []), (276, 3, .if_icmp .eq 21, 297, 0, []), (279, 1, .iload_n 1, 0, 0, []), (280, 2, .bipush 40, 0, 0, []), (282, 3, .if_icmp .eq 15, 297, 0, []), (285, 1, .iload_n 1, 0, 0, []), (286, 2, .bipush 41, 0, 0, []), (288, 3, .if_icmp .eq 9, 297, 0, []), (291, 1, .iload_n 1, 0, 0, []), (292, 2, .bipush 59, 0, 0, []), (294, 3, .if_icmp .ne 7, 301, 0, []), (297, 1, .iconst 1, 0, 0, []), (298, 3, .goto 4, 302, 0, []), (301, 1, .iconst 0, 0, 0, []), (302, 1, .istore_n 2, 0, 0, []), (303, 1, .aload_n 0, 0, 0, []), (304, 1, .iload_n 2, 0, 0, []), (305, 3, .ifCond .eq 7, 312, 0, []), (308, 1, .iload_n 1, 0, 0, []), (309, 3, .goto 4, 313, 0, []), (312, 1, .iconst 3, 0, 0, []), (313, 3, .putfield 169, 10, 17, []), (316, 1, .return_, 0, 0, [])]
def kd_X10_w3 : List RI := [(0, 1, .iload_n 0, 0, 0, []), (1, 1, .i2l, 0, 0, []), (2, 2, .bipush 8, 0, 0, []), (4, 1, .lshl, 0, 0, []), (5, 1, .iload_n 1, 0, 0, []), (6, 1, .i2l, 0, 0, []), (7, 1, .lor, 0, 0, []), (8, 2, .bipush 8, 0, 0, []), (10, 1, .lshl, 0, 0, []), (11, 1, .iload_n 2, 0, 0, []), (12, 1, .i2l, 0, 0, []), (13, 1, .lor, 0, 0, []), (14, 1, .lreturn, 0, 0, [])]
def kd_X10_emit : List RI := [(0, 1, .aload_n 0, 0, 0, []), (1, 3, .getfield 16, 10, 2, []), (4, 1, .aload_n 0, 0, 0, []), (5, 3, .getfield 186, 10, 20, []), (8, 2, .bipush 65, 0, 0, []), (10, 1, .iadd, 0, 0, []), (11, 1, .iconst 2, 0, 0, []), (12, 1, .aload_n 0, 0, 0, []), (13, 3, .getfield 189, 10, 21, []), (16, 1, .imul, 0, 0, []), (17, 1, .iadd, 0, 0, []), (18, 1, .iload_n 1, 0, 0, []), (19, 1, .iastore, 0, 1, []), (20, 1, .aload_n 0, 0, 0, []), (21, 3, .getfield 16, 10, 2, []), (24, 1, .aload_n 0, 0, 0, []), (25, 3, .getfield 186, 10, 20, []), (28, 2, .bipush 65, 0, 0, []), (30, 1, .iadd, 0, 0, []), (31, 1, .iconst 2, 0, 0, []), (32, 1, .aload_n 0, 0, 0, []), (33, 3, .getfield 189, 10, 21, []), (36, 1, .imul, 0, 0, []), (37, 1, .iadd, 0, 0, []), (38, 1, .iconst 1, 0, 0, []), (39, 1, .iadd, 0, 0, []), (40, 1, .iload_n 2, 0, 0, []), (41, 1, .iastore, 0, 1, []), (42, 1, .aload_n 0, 0, 0, []), (43, 1, .dup, 0, 0, []), (44, 3, .getfield 189, 10, 21, []), (47, 1, .iconst 1, 0, 0, []), (48, 1, .iadd, 0, 0, []), (49, 3, .putfield 189, 10, 21, []), (52, 1, .return_, 0, 0, [])]
def kd_X10_push : List RI := [(0, 1, .aload_n 0, 0, 0, []), (1, 3, .getfield 41, 10, 24, []), (4, 1, .aload_n 0, 0, 0, []), (5, 3, .getfield 192, 10, 22, []), (8, 1, .iload_n 1, 0, 0, []), (9, 1, .iastore, 0, 1, []), (10, 1, .aload_n 0, 0, 0, []), (11, 1, .dup, 0, 0, []), (12, 3, .getfield 192, 10, 22, []), (15, 1, .iconst 1, 0, 0, []), (16, 1, .iadd, 0, 0, []), (17, 3, .putfield 192, 10, 22, []), (20, 1, .return_, 0, 0, [])]
def kd_X10_rank : List RI := [(0, 1, .iload_n 0, 0, 0, []), (1, 2, .bipush 9, 0, 0, []), (3, 3, .if_icmp .ne 7, 10, 0, []), (6, 1, .iconst 0, 0, 0, []), (7, 3, .goto 22, 29, 0, []), (10, 1, .iload_n 0, 0, 0, []), (11, 1, .iconst 2, 0, 0, []), (12, 3, .if_icmp .ne 7, 19, 0, []), (15, 1, .iconst 3, 0, 0, []), (16, 3, .goto 13, 29, 0, []), (19, 1, .iload_n 0, 0, 0, []), (20, 1, .iconst 5, 0, 0, []), (21, 3, .if_icmp .ne 7, 28, 0, []), (24, 1, .iconst 2, 0, 0, []), (25, 3, .goto 4, 29, 0, []), (28, 1, .iconst 1, 0, 0, []), (29, 1, .ireturn, 0, 0, [])]
def kd_X10_settle : List RI := [(0, 0, .nop, 0, 0, [0, 1]), (0, 1, .aload_n 0, 0, 0, []), (1, 3, .getfield 192, 10, 22, []), (4, 3, .ifCond .le 71, 75, 0, []), (7, 1, .aload_n 0, 0, 0, []), (8, 3, .getfield 41, 10, 24, []), (11, 1, .aload_n 0, 0, 0, []), (12, 3, .getfield 192, 10, 22, []), (15, 1, .iconst 1, 0, 0, []), (16, 1, .isub, 0, 0, []), (17, 1, .iaload, 0, 1, []), (18, 3, .invokestatic 195, 218, 0, [1, 1, 0]), (21, 1, .iload_n 1, 0, 0, []), (22, 3, .if_icmp .lt 53, 75, 0, []), (25, 1, .aload_n 0, 0, 0, []), (26, 1, .dup, 0, 0, []), (27, 3, .getfield 192, 10, 22, []), (30, 1, .iconst 1, 0, 0, []), (31, 1, .isub, 0, 0, []), (32, 3, .putfield 192, 10, 22, []), (35, 1, .aload_n 0, 0, 0, []), (36, 1, .aload_n 0, 0, 0, []), (37, 3, .getfield 41, 10, 24, []), (40, 1, .aload_n 0, 0, 0, []), (41, 3, .getfield 192, 10, 22, []), (44, 1, .iaload, 0, 1, []), (45, 1, .iconst 0, 0, 0, []), (46, 3, .invokevirtual 198, 216, 0, [2, 0, 0]), (49, 1, .aload_n 0, 0, 0, []), (50, 3, .getfield 41, 10, 24, []), (53, 1, .aload_n 0, 0, 0, []), (54, 3, .getfield 192, 10, 22, []), (57, 1, .iaload, 0, 1, []), (58, 1, .iconst 2, 0, 0, []), (59, 3, .if_icmp .ne (-59), 0, 0, []), (62, 1, .aload_n 0, 0, 0, []), (63, 1, .dup, 0, 0, []), (64, 3, .getfield 201, 10, 23, []), (67, 1, .iconst 1, 0, 0, []), (68, 1, .isub, 0, 0, []), (69, 3, .putfield 201, 10, 23, []), (72, 3, .goto (-72), 0, 0, []), (75, 1, .return_, 0, 0, [])]
def kd_X10_opensBy : List RI := [(0, 1, .aload_n 0, 0, 0, []), (1, 3, .getfield 201, 10, 23, []), (4, 2, .bipush 8, 0, 0, []), (6, 3, .if_icmp .ne 5, 11, 0, []), (9, 1, .iconst 3, 0, 0, []), (10, 1, .ireturn, 0, 0, []), (11, 1, .aload_n 0, 0, 0, []), (12, 1, .dup, 0, 0, []), (13, 3, .getfield 201, 10, 23, []), (16, 1, .iconst 1, 0, 0, []), (17, 1, .iadd, 0, 0, []), (18, 3, .putfield 201, 10, 23, []), (21, 1, .aload_n 0, 0, 0, []), (22, 1, .iload_n 1, 0, 0, []), (23, 3, .invokevirtual 204, 217, 0, [1, 0, 0]), (26, 1, .aload_n 0, 0, 0, []), (27, 3, .invokevirtual 207, 214, 0, [0, 0, 0]), (30, 1, .iconst 0, 0, 0, []), (31, 1, .ireturn, 0, 0, [])]
def kd_X10_whole : List RI := [(0, 1, .aload_n 0, 0, 0, []), (1, 1, .iconst 1, 0, 0, []), (2, 3, .putfield 210, 10, 25, []), (5, 1, .aload_n 0, 0, 0, []), (6, 1, .iconst 1, 0, 0, []), (7, 3, .putfield 214, 10, 26, []), (10, 1, .aload_n 0, 0, 0, []), (11, 1, .iconst 3, 0, 0, []), (12, 3, .invokevirtual 217, 219, 0, [1, 0, 0]), (15, 1, .return_, 0, 0, [])]
def kd_X10_beginOne : List RI := [(0, 1, .aload_n 0, 0, 0, []), (1, 3, .getfield 169, 10, 17, []), (4, 1, .iconst 1, 0, 0, []), (5, 3, .if_icmp .ne 15, 20, 0, []), (8, 1, .aload_n 0, 0, 0, []), (9, 3, .getfield 175, 10, 18, []), (12, 3, .sipush 9999, 0, 0, []), (15, 3, .if_icmp .le 5, 20, 0, []), (18, 1, .iconst 2, 0, 0, []), (19, 1, .ireturn, 0, 0, []), (20, 1, .aload_n 0, 0, 0, []), (21, 3, .getfield 169, 10, 17, []), (24, 1, .iconst 1, 0, 0, []), (25, 3, .if_icmp .eq 22, 47, 0, []), (28, 1, .aload_n 0, 0, 0, []), (29, 3, .getfield 169, 10, 17, []), (32, 1, .iconst 2, 0, 0, []), (33, 3, .if_icmp .ne 57, 90, 0, []), (36, 1, .aload_n 0, 0, 0, []), (37, 3, .getfield 182, 10, 19, []), (40, 3, .ldc2_w 220, 116, 0, []), (43, 1, .lcmp, 0, 0, []), (44, 3, .ifCond .ne 46, 90, 0, []), (47, 1, .aload_n 0, 0, 0, []), (48, 1, .aload_n 0, 0, 0, []), (49, 3, .getfield 169, 10, 17, []), (52, 1, .iconst 1, 0, 0, []), (53, 3, .if_icmp .ne 7, 60, 0, []), (56, 1, .iconst 0, 0, 0, []), (57, 3, .goto 4, 61, 0, []), (60, 1, .iconst 1, 0, 0, []), (61, 1, .aload_n 0, 0, 0, []), (62, 3, .getfield 169, 10, 17, []), (65, 1, .iconst 1, 0, 0, []), (66, 3, .if_icmp .ne 10, 76, 0, []), (69, 1, .aload_n 0, 0, 0, []), (70, 3, .getfield 175, 10, 18, []), (73, 3, .goto 4, 77, 0, []), (76, 1, .iconst 0, 0, 0, []), (77, 0, .nop, 0, 0, [0]), (77, 3, .invokevirtual 198, 216, 0, [2, 0, 0]), (80, 1, .aload_n 0, 0, 0, []), (81, 3, .invokevirtual 207, 214, 0, [0, 0, 0]), (84, 1, .aload_n 0, 0, 0, []), (85, 3, .invokevirtual 222, 221, 0, [0, 0, 0]), (88, 1, .iconst 0, 0, 0, []), (89, 1, .ireturn, 0, 0, []), (90, 1, .aload_n 0, 0, 0, []), (91, 3, .getfield 169, 10, 17, []), (94, 2, .bipush 40, 0, 0, []), (96, 3, .if_icmp .ne 12, 108, 0, []), (99, 1, .aload_n 0, 0, 0, []), (100, 2, .bipush 9, 0, 0, []), (102, 3, .invokevirtual 225, 220, 0, [1, 1, 0]), (105, 3, .goto 21, 126, 0, []), (108, 1, .aload_n 0, 0, 0, []), (109, 3, .getfield 169, 10, 17, []), (112, 2, .bipush 45, 0, 0, []), (114, 3, .if_icmp .ne 11, 125, 0, []), (117, 1, .aload_n 0, 0, 0, []), (118, 1, .iconst 2, 0, 0, []), (119, 3, .invokevirtual 225, 220, 0, [1, 1, 0]), (122, 3, .goto 4, 126, 0, []), (125, 1, .iconst 1, 0, 0, []), (126, 1, .ireturn, 0, 0, [])]
def kd_X10_raises : List RI := [(0, 1, .aload_n 0, 0, 0, []), (1, 3, .invokevirtual 207, 214, 0, [0, 0, 0]), (4, 1, .aload_n 0, 0, 0, []), (5, 3, .getfield 169, 10, 17, []), (8, 1, .iconst 1, 0, 0, []), (9, 3, .if_icmp .eq 5, 14, 0, []), (12, 1, .iconst 1, 0, 0, []), (13, 1, .ireturn, 0, 0, []), (14, 1, .aload_n 0, 0, 0, []), (15, 3, .getfield 175, 10, 18, []), (18, 2, .bipush 24, 0, 0, []), (20, 3, .if_icmp .le 5, 25, 0, []), (23, 1, .iconst 2, 0, 0, []), (24, 1, .ireturn, 0, 0, []), (25, 1, .aload_n 0, 0, 0, []), (26, 2, .bipush 6, 0, 0, []), (28, 1, .aload_n 0, 0, 0, []), (29, 3, .getfield 175, 10, 18, []), (32, 3, .invokevirtual 198, 216, 0, [2, 0, 0]), (35, 1, .aload_n 0, 0, 0, []), (36, 3, .invokevirtual 207, 214, 0, [0, 0, 0]), (39, 1, .aload_n 0, 0, 0, []), (40, 1, .iconst 0, 0, 0, []), (41, 3, .putfield 214, 10, 26, []), (44, 1, .iconst 0, 0, 0, []), (45, 1, .ireturn, 0, 0, [])]
def kd_X10_behindOne : List RI := [(0, 1, .aload_n 0, 0, 0, []), (1, 3, .getfield 169, 10, 17, []), (4, 2, .bipush 43, 0, 0, []), (6, 3, .if_icmp .ne 7, 13, 0, []), (9, 1, .iconst 3, 0, 0, []), (10, 3, .goto 30, 40, 0, []), (13, 1, .aload_n 0, 0, 0, []), (14, 3, .getfield 169, 10, 17, []), (17, 2, .bipush 45, 0, 0, []), (19, 3, .if_icmp .ne 7, 26, 0, []), (22, 1, .iconst 4, 0, 0, []), (23, 3, .goto 17, 40, 0, []), (26, 1, .aload_n 0, 0, 0, []), (27, 3, .getfield 169, 10, 17, []), (30, 2, .bipush 42, 0, 0, []), (32, 3, .if_icmp .ne 7, 39, 0, []), (35, 1, .iconst 5, 0, 0, []), (36, 3, .goto 4, 40, 0, []), (39, 1, .iconst (-1), 0, 0, []), (40, 1, .istore_n 1, 0, 0, []), (41, 1, .iload_n 1, 0, 0, []), (42, 3, .ifCond .lt 27, 69, 0, []), (45, 1, .aload_n 0, 0, 0, []), (46, 1, .iload_n 1, 0, 0, []), (47, 3, .invokestatic 195, 218, 0, [1, 1, 0]), (50, 3, .invokevirtual 217, 219, 0, [1, 0, 0]), (53, 1, .aload_n 0, 0, 0, []), (54, 1, .iload_n 1, 0, 0, []), (55, 3, .invokevirtual 204, 217, 0, [1, 0, 0]), (58, 1, .aload_n 0, 0, 0, []), (59, 1, .iconst 0, 0, 0, []), (60, 3, .putfield 210, 10, 25, []), (63, 1, .aload_n 0, 0, 0, []), (64, 3, .invokevirtual 207, 214, 0, [0, 0, 0]), (67, 1, .iconst 1, 0, 0, []), (68, 1, .ireturn, 0, 0, []), (69, 1, .aload_n 0, 0, 0, []), (70, 3, .getfield 169, 10, 17, []), (73, 2, .bipush 41, 0, 0, []), (75, 3, .if_icmp .eq 5, 80, 0, []), (78, 1, .iconst 0, 0, 0, []), (79, 1, .ireturn, 0, 0, []), (80, 1, .aload_n 0, 0, 0, []), (81, 1, .iconst 1, 0, 0, []), (82, 3, .invokevirtual 217, 219, 0, [1, 0, 0]), (85, 1, .aload_n 0, 0, 0, []), (86, 3, .getfield 192, 10, 22, []), (89, 3, .ifCond .ne 5, 94, 0, []), (92, 1, .iconst 0, 0, 0, []), (93, 1, .ireturn, 0, 0, []), (94, 1, .aload_n 0, 0, 0, []), (95, 1, .dup, 0, 0, []), (96, 3, .getfield 192, 10, 22, []), (99, 1, .iconst 1, 0, 0, []), (100, 1, .isub, 0, 0, []), (101, 3, .putfield 192, 10, 22, []), (104, 1, .aload_n 0, 0, 0, []), (105, 1, .dup, 0, 0, []), (106, 3, .getfield 201, 10, 23, []), (109, 1, .iconst 1, 0, 0, []), (110, 1, .isub, 0, 0, []), (111, 3, .putfield 201, 10, 23, []), (114, 1, .aload_n 0, 0, 0, []), (115, 3, .invokevirtual 207, 214, 0, [0, 0, 0]), (118, 1, .aload_n 0, 0, 0, []), (119, 3, .invokevirtual 222, 221, 0, [0, 0, 0]), (122, 1, .iconst 1, 0, 0, []), (123, 1, .ireturn, 0, 0, [])]
def kd_X10_summed : List RI := [(0, 1, .aload_n 0, 0, 0, []), (1, 1, .iconst 0, 0, 0, []), (2, 3, .putfield 192, 10, 22, []), (5, 1, .aload_n 0, 0, 0, []), (6, 1, .iconst 0, 0, 0, []), (7, 3, .putfield 210, 10, 25, []), (10, 1, .iconst 1, 0, 0, []), (11, 1, .istore_n 1, 0, 0, []), (12, 0, .nop, 0, 0, [0, 1]), (12, 1, .iload_n 1, 0, 0, []), (13, 3, .ifCond .eq 58, 71, 0, []), (16, 1, .iconst 0, 0, 0, []), (17, 1, .istore_n 2, 0, 0, []), (18, 1, .aload_n 0, 0, 0, []), (19, 3, .getfield 210, 10, 25, []), (22, 3, .ifCond .ne 11, 33, 0, []), (25, 1, .aload_n 0, 0, 0, []), (26, 3, .invokevirtual 228, 222, 0, [0, 1, 0]), (29, 1, .istore_n 2, 0, 0, []), (30, 3, .goto 32, 62, 0, []), (33, 1, .aload_n 0, 0, 0, []), (34, 3, .getfield 169, 10, 17, []), (37, 2, .bipush 94, 0, 0, []), (39, 3, .if_icmp .ne 18, 57, 0, []), (42, 1, .aload_n 0, 0, 0, []), (43, 3, .getfield 214, 10, 26, []), (46, 3, .ifCond .eq 11, 57, 0, []), (49, 1, .aload_n 0, 0, 0, []), (50, 3, .invokevirtual 232, 223, 0, [0, 1, 0]), (53, 1, .istore_n 2, 0, 0, []), (54, 3, .goto 8, 62, 0, []), (57, 1, .aload_n 0, 0, 0, []), (58, 3, .invokevirtual 235, 224, 0, [0, 1, 0]), (61, 1, .istore_n 1, 0, 0, []), (62, 1, .iload_n 2, 0, 0, []), (63, 3, .ifCond .eq 5, 68, 0, []), (66, 1, .iload_n 2, 0, 0, []), (67, 1, .ireturn, 0, 0, []), (68, 3, .goto (-56), 12, 0, []), (71, 1, .aload_n 0, 0, 0, []), (72, 1, .iconst 1, 0, 0, []), (73, 3, .invokevirtual 217, 219, 0, [1, 0, 0]), (76, 1, .aload_n 0, 0, 0, []), (77, 3, .getfield 192, 10, 22, []), (80, 3, .ifCond .le 7, 87, 0, []), (83, 1, .iconst 1, 0, 0, []), (84, 3, .goto 4, 88, 0, []), (87, 1, .iconst 0, 0, 0, []), (88, 1, .ireturn, 0, 0, [])]
def kd_X10_clause : List RI := [(0, 1, .aload_n 0, 0, 0, []), (1, 3, .getfield 169, 10, 17, []), (4, 1, .iconst 2, 0, 0, []), (5, 3, .if_icmp .ne 50, 55, 0, []), (8, 1, .aload_n 0, 0, 0, []), (9, 3, .getfield 182, 10, 19, []), (12, 2, .bipush 109, 0, 0, []), (14, 2, .bipush 97, 0, 0, []), (16, 2, .bipush 112, 0, 0, []), (18, 3, .invokestatic 239, 215, 0, [3, 3, 0]), (21, 1, .lcmp, 0, 0, []), (22, 3, .ifCond .eq 35, 57, 0, []), (25, 1, .aload_n 0, 0, 0, []), (26, 3, .getfield 182, 10, 19, []), (29, 2, .bipush 109, 0, 0, []), (31, 2, .bipush 111, 0, 0, []), (33, 2, .bipush 100, 0, 0, []), (35, 3, .invokestatic 239, 215, 0, [3, 3, 0]), (38, 2, .bipush 24, 0, 0, []), (40, 1, .lshl, 0, 0, []), (41, 2, .bipush 117, 0, 0, []), (43, 2, .bipush 108, 0, 0, []), (45, 2, .bipush 101, 0, 0, []), (47, 3, .invokestatic 239, 215, 0, [3, 3, 0]), (50, 1, .lor, 0, 0, []), (51, 1, .lcmp, 0, 0, []), (52, 3, .ifCond .eq 5, 57, 0, []), (55, 1, .iconst 1, 0, 0, []), (56, 1, .ireturn, 0, 0, []), (57, 1, .aload_n 0, 0, 0, []), (58, 3, .getfield 182, 10, 19, []), (61, 2, .bipush 109, 0, 0, []), (63, 2, .bipush 97, 0, 0, []), (65, 2, .bipush 112, 0, 0, []), (67, 3, .invokestatic 239, 215, 0, [3, 3, 0]), (70, 1, .lcmp, 0, 0, []), (71, 3, .ifCond .ne 7, 78, 0, []), (74, 1, .iconst 1, 0, 0, []), (75, 3, .goto 4, 79, 0, []), (78, 1, .iconst 0, 0, 0, []), (79, 0, .nop, 0, 0, [0]), (79, 1, .istore_n 1, 0, 0, []), (80, 1, .aload_n 0, 0, 0, []), (81, 3, .getfield 16, 10, 2, []), (84, 1, .aload_n 0, 0, 0, []), (85, 3, .getfield 186, 10, 20, []), (88, 1, .iaload, 0, 1, []), (89, 1, .istore_n 2, 0, 0, []), (90, 1, .iload_n 2, 0, 0, []), (91, 2, .bipush 20, 0, 0, []), (93, 3, .if_icmp .ne 5, 98, 0, []), (96, 1, .iconst 4, 0, 0, []), (97, 1, .ireturn, 0, 0, []), (98, 1, .aload_n 0, 0, 0, []), (99, 3, .invokevirtual 207, 214, 0, [0, 0, 0]), (102, 1, .aload_n 0, 0, 0, []), (103, 3, .getfield 186, 10, 20, []), (106, 1, .iconst 1, 0, 0, []), (107, 1, .iadd, 0, 0, []), (108, 1, .iconst 3, 0, 0, []), (109, 1, .iload_n 2, 0, 0, []), (110, 1, .imul, 0, 0, []), (111, 1, .iadd, 0, 0, []), (112, 1, .istore_n 3, 0, 0, []), (113, 1, .aload_n 0, 0, 0, []), (114, 3, .getfield 16, 10, 2, []), (117, 1, .iload_n 3, 0, 0, []), (118, 1, .iload_n 1, 0, 0, []), (119, 1, .iastore, 0, 1, []), (120, 1, .aload_n 0, 0, 0, []), (121, 3, .getfield 16, 10, 2, []), (124, 1, .iload_n 3, 0, 0, []), (125, 1, .iconst 1, 0, 0, []), (126, 1, .iadd, 0, 0, []), (127, 1, .aload_n 0, 0, 0, []), (128, 3, .getfield 189, 10, 21, []), (131, 1, .iastore, 0, 1, []), (132, 1, .aload_n 0, 0, 0, []), (133, 3, .invokevirtual 243, 225, 0, [0, 1, 0]), (136, 2, .istore 4, 0, 0, []), (138, 2, .iload 4, 0, 0, []), (140, 3, .ifCond .eq 6, 146, 0, []), (143, 2, .iload 4, 0, 0, []), (145, 1, .ireturn, 0, 0, []), (146, 1, .aload_n 0, 0, 0, []), (147, 3, .getfield 16, 10, 2, []), (150, 1, .iload_n 3, 0, 0, []), (151, 1, .iconst 2, 0, 0, []), (152, 1, .iadd, 0, 0, []), (153, 1, .aload_n 0, 0, 0, []), (154, 3, .getfield 189, 10, 21, []), (157, 1, .iastore, 0, 1, []), (158, 1, .aload_n 0, 0, 0, []), (159, 3, .getfield 16, 10, 2, []), (162, 1, .aload_n 0, 0, 0, []), (163, 3, .getfield 186, 10, 20, []), (166, 1, .dup2, 0, 0, []), (167, 1, .iaload, 0, 1, []), (168, 1, .iconst 1, 0, 0, []), (169, 1, .iadd, 0, 0, []), (170, 1, .iastore, 0, 1, []), (171, 1, .aload_n 0, 0, 0, []), (172, 3, .getfield 169, 10, 17, []), (175, 2, .bipush 59, 0, 0, []), (177, 3, .if_icmp .eq 5, 182, 0, []), (180, 1, .iconst 1, 0, 0, []), (181, 1, .ireturn, 0, 0, []), (182, 1, .aload_n 0, 0, 0, []), (183, 3, .invokevirtual 207, 214, 0, [0, 0, 0]), (186, 1, .iconst 0, 0, 0, []), (187, 1, .ireturn, 0, 0, [])]
def kd_X10_readText : List RI := [(0, 1, .aload_n 0, 0, 0, []), (1, 3, .sipush 670, 0, 0, []), (4, 1, .aload_n 0, 0, 0, []), (5, 3, .getfield 7, 10, 0, []), (8, 1, .iconst 4, 0, 0, []), (9, 1, .iaload, 0, 1, []), (10, 1, .imul, 0, 0, []), (11, 3, .putfield 186, 10, 20, []), (14, 1, .aload_n 0, 0, 0, []), (15, 3, .getfield 16, 10, 2, []), (18, 1, .aload_n 0, 0, 0, []), (19, 3, .getfield 186, 10, 20, []), (22, 1, .iconst 0, 0, 0, []), (23, 1, .iastore, 0, 1, []), (24, 1, .aload_n 0, 0, 0, []), (25, 1, .iconst 0, 0, 0, []), (26, 3, .putfield 189, 10, 21, []), (29, 1, .aload_n 0, 0, 0, []), (30, 1, .iconst 0, 0, 0, []), (31, 3, .putfield 201, 10, 23, []), (34, 1, .aload_n 0, 0, 0, []), (35, 1, .iconst 0, 0, 0, []), (36, 3, .putfield 160, 10, 15, []), (39, 1, .aload_n 0, 0, 0, []), (40, 3, .invokevirtual 207, 214, 0, [0, 0, 0]), (43, 0, .nop, 0, 0, [0]), (43, 1, .aload_n 0, 0, 0, []), (44, 3, .getfield 169, 10, 17, []), (47, 3, .ifCond .eq 17, 64, 0, []), (50, 1, .aload_n 0, 0, 0, []), (51, 3, .invokevirtual 246, 226, 0, [0, 1, 0]), (54, 1, .istore_n 1, 0, 0, []), (55, 1, .iload_n 1, 0, 0, []), (56, 3, .ifCond .eq 5, 61, 0, []), (59, 1, .iload_n 1, 0, 0, []), (60, 1, .ireturn, 0, 0, []), (61, 3, .goto (-18), 43, 0, []), (64, 1, .iconst 0, 0, 0, []), (65, 1, .ireturn, 0, 0, [])]
def kd_X10_text : List RI := [(0, 1, .aload_n 0, 0, 0, []), (1, 3, .getfield 7, 10, 0, []), (4, 1, .iconst 4, 0, 0, []), (5, 1, .iaload, 0, 1, []), (6, 1, .iconst 4, 0, 0, []), (7, 3, .if_icmp .ne 5, 12, 0, []), (10, 1, .iconst (-1), 0, 0, []), (11, 1, .ireturn, 0, 0, []), (12, 1, .aload_n 0, 0, 0, []), (13, 1, .aload_n 0, 0, 0, []), (14, 3, .invokevirtual 249, 227, 0, [0, 1, 0]), (17, 3, .putfield 34, 10, 13, []), (20, 1, .aload_n 0, 0, 0, []), (21, 1, .aload_n 0, 0, 0, []), (22, 3, .getfield 34, 10, 13, []), (25, 3, .ifCond .ne 7, 32, 0, []), (28, 1, .iconst (-1), 0, 0, []), (29, 3, .goto 7, 36, 0, []), (32, 1, .aload_n 0, 0, 0, []), (33, 3, .getfield 166, 10, 16, []), (36, 3, .putfield 38, 10, 14, []), (39, 1, .aload_n 0, 0, 0, []), (40, 1, .iconst 0, 0, 0, []), (41, 3, .putfield 154, 10, 12, []), (44, 1, .aload_n 0, 0, 0, []), (45, 3, .getfield 34, 10, 13, []), (48, 3, .ifCond .eq 5, 53, 0, []), (51, 1, .iconst (-1), 0, 0, []), (52, 1, .ireturn, 0, 0, []), (53, 1, .aload_n 0, 0, 0, []), (54, 3, .getfield 7, 10, 0, []), (57, 1, .iconst 4, 0, 0, []), (58, 1, .dup2, 0, 0, []), (59, 1, .iaload, 0, 1, []), (60, 1, .iconst 1, 0, 0, []), (61, 1, .iadd, 0, 0, []), (62, 1, .iastore, 0, 1, []), (63, 1, .aload_n 0, 0, 0, []), (64, 3, .getfield 7, 10, 0, []), (67, 1, .iconst 4, 0, 0, []), (68, 1, .iaload, 0, 1, []), (69, 1, .iconst 1, 0, 0, []), (70, 1, .isub, 0, 0, []), (71, 1, .ireturn, 0, 0, [])]
def kd_X10_fault : List RI := [(0, 1, .iload_n 1, 0, 0, []), (1, 3, .ifCond .ne 10, 11, 0, []), (4, 1, .aload_n 0, 0, 0, []), (5, 3, .getfield 34, 10, 13, []), (8, 3, .goto 16, 24, 0, []), (11, 1, .iload_n 1, 0, 0, []), (12, 1, .iconst 1, 0, 0, []), (13, 3, .if_icmp .ne 10, 23, 0, []), (16, 1, .aload_n 0, 0, 0, []), (17, 3, .getfield 38, 10, 14, []), (20, 3, .goto 4, 24, 0, []), (23, 1, .iconst (-1), 0, 0, []), (24, 1, .ireturn, 0, 0, [])]
def kd_X10_raiseBy : List RI := [(0, 1, .aload_n 0, 0, 0, []), (1, 1, .iconst 4, 0, 0, []), (2, 3, .invokevirtual 135, 192, 0, [1, 0, 0]), (5, 1, .aload_n 0, 0, 0, []), (6, 3, .getfield 28, 10, 8, []), (9, 2, .bipush 100, 0, 0, []), (11, 1, .iconst 1, 0, 0, []), (12, 1, .iastore, 0, 1, []), (13, 1, .iconst 0, 0, 0, []), (14, 1, .istore_n 3, 0, 0, []), (15, 0, .nop, 0, 0, [0, 1, 2, 3]), (15, 1, .iload_n 3, 0, 0, []), (16, 1, .iload_n 2, 0, 0, []), (17, 3, .if_icmp .ge 27, 44, 0, []), (20, 1, .aload_n 0, 0, 0, []), (21, 1, .iconst 4, 0, 0, []), (22, 1, .iload_n 1, 0, 0, []), (23, 1, .iconst 3, 0, 0, []), (24, 3, .invokevirtual 252, 195, 0, [3, 1, 0]), (27, 3, .ifCond .ne 5, 32, 0, []), (30, 1, .iconst 0, 0, 0, []), (31, 1, .ireturn, 0, 0, []), (32, 1, .aload_n 0, 0, 0, []), (33, 1, .iconst 3, 0, 0, []), (34, 1, .iconst 4, 0, 0, []), (35, 3, .invokevirtual 255, 193, 0, [2, 0, 0]), (38, 3, .iinc 3 1, 0, 0, []), (41, 3, .goto (-26), 15, 0, []), (44, 1, .aload_n 0, 0, 0, []), (45, 1, .iconst 4, 0, 0, []), (46, 1, .iload_n 1, 0, 0, []), (47, 3, .invokevirtual 255, 193, 0, [2, 0, 0]), (50, 1, .iconst 1, 0, 0, []), (51, 1, .ireturn, 0, 0, [])]
def kd_X10_works : List RI := [(0, 2, .bipush 8, 0, 0, []), (2, 1, .istore_n 3, 0, 0, []), (3, 1, .aload_n 0, 0, 0, []), (4, 3, .getfield 16, 10, 2, []), (7, 1, .iload_n 1, 0, 0, []), (8, 1, .iconst 1, 0, 0, []), (9, 1, .iadd, 0, 0, []), (10, 1, .iaload, 0, 1, []), (11, 2, .istore 4, 0, 0, []), (13, 0, .nop, 0, 0, [0, 1, 2, 3, 4]), (13, 2, .iload 4, 0, 0, []), (15, 1, .aload_n 0, 0, 0, []), (16, 3, .getfield 16, 10, 2, []), (19, 1, .iload_n 1, 0, 0, []), (20, 1, .iconst 2, 0, 0, []), (21, 1, .iadd, 0, 0, []), (22, 1, .iaload, 0, 1, []), (23, 3, .if_icmp .ge 245, 268, 0, []), (26, 1, .aload_n 0, 0, 0, []), (27, 3, .getfield 16, 10, 2, []), (30, 1, .iload_n 2, 0, 0, []), (31, 1, .iconst 2, 0, 0, []), (32, 2, .iload 4, 0, 0, []), (34, 1, .imul, 0, 0, []), (35, 1, .iadd, 0, 0, []), (36, 1, .iaload, 0, 1, []), (37, 2, .istore 5, 0, 0, []), (39, 1, .aload_n 0, 0, 0, []), (40, 3, .getfield 16, 10, 2, []), (43, 1, .iload_n 2, 0, 0, []), (44, 1, .iconst 2, 0, 0, []), (45, 2, .iload 4, 0, 0, []), (47, 1, .imul, 0, 0, []), (48, 1, .iadd, 0, 0, []), (49, 1, .iconst 1, 0, 0, []), (50, 1, .iadd, 0, 0, []), (51, 1, .iaload, 0, 1, []), (52, 2, .istore 6, 0, 0, []), (54, 2, .iload 5, 0, 0, []), (56, 1, .iconst 1, 0, 0, []), (57, 3, .if_icmp .gt 61, 118, 0, []), (60, 2, .iload 5, 0, 0, []), (62, 3, .ifCond .ne 14, 76, 0, []), (65, 1, .aload_n 0, 0, 0, []), (66, 2, .iload 6, 0, 0, []), (68, 3, .invokevirtual 129, 187, 0, [1, 1, 0]), (71, 3, .ifCond .ne 5, 76, 0, []), (74, 1, .iconst 0, 0, 0, []), (75, 1, .ireturn, 0, 0, []), (76, 1, .aload_n 0, 0, 0, []), (77, 1, .iload_n 3, 0, 0, []), (78, 3, .invokevirtual 135, 192, 0, [1, 0, 0]), (81, 1, .aload_n 0, 0, 0, []), (82, 3, .getfield 28, 10, 8, []), (85, 2, .bipush 25, 0, 0, []), (87, 1, .iload_n 3, 0, 0, []), (88, 1, .imul, 0, 0, []), (89, 2, .iload 5, 0, 0, []), (91, 3, .ifCond .ne 7, 98, 0, []), (94, 1, .iconst 0, 0, 0, []), (95, 3, .goto 4, 99, 0, []), (98, 1, .iconst 1, 0, 0, []), (99, 0, .nop, 0, 0, [0, 1, 2, 3, 4, 5, 6]), (99, 1, .iadd, 0, 0, []), (100, 2, .iload 5, 0, 0, []), (102, 3, .ifCond .ne 8, 110, 0, []), (105, 2, .iload 6, 0, 0, []), (107, 3, .goto 4, 111, 0, []), (110, 1, .iconst 1, 0, 0, []), (111, 0, .nop, 0, 0, [0, 1, 2, 3, 4]), (111, 1, .iastore, 0, 1, []), (112, 3, .iinc 3 1, 0, 0, []), (115, 3, .goto 147, 262, 0, []), (118, 2, .iload 5, 0, 0, []), (120, 1, .iconst 2, 0, 0, []), (121, 3, .if_icmp .ne 54, 175, 0, []), (124, 1, .iconst 0, 0, 0, []), (125, 2, .istore 7, 0, 0, []), (127, 0, .nop, 0, 0, [0, 1, 2, 3, 4, 7]), (127, 2, .iload 7, 0, 0, []), (129, 2, .bipush 25, 0, 0, []), (131, 3, .if_icmp .ge 41, 172, 0, []), (134, 1, .aload_n 0, 0, 0, []), (135, 3, .getfield 28, 10, 8, []), (138, 2, .bipush 25, 0, 0, []), (140, 1, .iload_n 3, 0, 0, []), (141, 1, .iconst 1, 0, 0, []), (142, 1, .isub, 0, 0, []), (143, 1, .imul, 0, 0, []), (144, 2, .iload 7, 0, 0, []), (146, 1, .iadd, 0, 0, []), (147, 1, .aload_n 0, 0, 0, []), (148, 1, .aload_n 0, 0, 0, []), (149, 3, .getfield 28, 10, 8, []), (152, 2, .bipush 25, 0, 0, []), (154, 1, .iload_n 3, 0, 0, []), (155, 1, .iconst 1, 0, 0, []), (156, 1, .isub, 0, 0, []), (157, 1, .imul, 0, 0, []), (158, 2, .iload 7, 0, 0, []), (160, 1, .iadd, 0, 0, []), (161, 1, .iaload, 0, 1, []), (162, 3, .invokevirtual 258, 189, 0, [1, 1, 0]), (165, 1, .iastore, 0, 1, []), (166, 3, .iinc 7 1, 0, 0, []), (169, 3, .goto (-42), 127, 0, []), (172, 3, .goto 90, 262, 0, []), (175, 2, .iload 5, 0, 0, []), (177, 2, .bipush 6, 0, 0, []), (179, 3, .if_icmp .ne 17, 196, 0, []), (182, 1, .aload_n 0, 0, 0, []), (183, 1, .iload_n 3, 0, 0, []), (184, 1, .iconst 1, 0, 0, []), (185, 1, .isub, 0, 0, []), (186, 2, .iload 6, 0, 0, []), (188, 3, .invokevirtual 261, 230, 0, [2, 1, 0]), (191, 3, .ifCond .ne 71, 262, 0, []), (194, 1, .iconst 0, 0, 0, []), (195, 1, .ireturn, 0, 0, []), (196, 3, .iinc 3 (-1), 0, 0, []), (199, 2, .iload 5, 0, 0, []), (201, 1, .iconst 5, 0, 0, []), (202, 3, .if_icmp .ne 17, 219, 0, []), (205, 1, .aload_n 0, 0, 0, []), (206, 1, .iload_n 3, 0, 0, []), (207, 1, .iconst 1, 0, 0, []), (208, 1, .isub, 0, 0, []), (209, 1, .iload_n 3, 0, 0, []), (210, 1, .iconst 3, 0, 0, []), (211, 3, .invokevirtual 252, 195, 0, [3, 1, 0]), (214, 3, .ifCond .ne 5, 219, 0, []), (217, 1, .iconst 0, 0, 0, []), (218, 1, .ireturn, 0, 0, []), (219, 2, .iload 5, 0, 0, []), (221, 1, .iconst 5, 0, 0, []), (222, 3, .if_icmp .ne 14, 236, 0, []), (225, 1, .aload_n 0, 0, 0, []), (226, 1, .iconst 3, 0, 0, []), (227, 1, .iload_n 3, 0, 0, []), (228, 1, .iconst 1, 0, 0, []), (229, 1, .isub, 0, 0, []), (230, 3, .invokevirtual 255, 193, 0, [2, 0, 0]), (233, 3, .goto 29, 262, 0, []), (236, 1, .aload_n 0, 0, 0, []), (237, 1, .iload_n 3, 0, 0, []), (238, 1, .iconst 1, 0, 0, []), (239, 1, .isub, 0, 0, []), (240, 1, .iload_n 3, 0, 0, []), (241, 2, .iload 5, 0, 0, []), (243, 1, .iconst 3, 0, 0, []), (244, 3, .if_icmp .ne 7, 251, 0, []), (247, 1, .iconst 1, 0, 0, []), (248, 3, .goto 11, 259, 0, []), (251, 1, .aload_n 0, 0, 0, []), (252, 3, .getfield 7, 10, 0, []), (255, 1, .iconst 0, 0, 0, []), (256, 1, .iaload, 0, 1, []), (257, 1, .iconst 1, 0, 0, []), (258, 1, .isub, 0, 0, []), (259, 3, .invokevirtual 265, 196, 0, [3, 0, 0]), (262, 0, .nop, 0, 0, [0, 1, 2, 3, 4]), (262, 3, .iinc 4 1, 0, 0, []), (265, 3, .goto (-252), 13, 0, []), (268, 1, .iconst 1, 0, 0, []), (269, 1, .ireturn, 0, 0, [])]
def kd_X10_told : List RI := [(0, 1, .iload_n 1, 0, 0, []), (1, 1, .iconst 0, 0, 0, []), (2, 1, .aload_n 0, 0, 0, []), (3, 3, .getfield 7, 10, 0, []), (6, 1, .iconst 4, 0, 0, []), (7, 1, .iaload, 0, 1, []), (8, 1, .iconst 1, 0, 0, []), (9, 1, .isub, 0, 0, []), (10, 3, .invokestatic 107, 168, 0, [3, 1, 0]), (13, 3, .ifCond .ne 6, 19, 0, []), (16, 2, .bipush (-2), 0, 0, []), (18, 1, .ireturn, 0, 0, []), (19, 1, .iconst 0, 0, 0, []), (20, 1, .istore_n 2, 0, 0, []), (21, 0, .nop, 0, 0, [0, 1, 2]), (21, 1, .iload_n 2, 0, 0, []), (22, 1, .aload_n 0, 0, 0, []), (23, 3, .getfield 16, 10, 2, []), (26, 3, .sipush 670, 0, 0, []), (29, 1, .iload_n 1, 0, 0, []), (30, 1, .imul, 0, 0, []), (31, 1, .iaload, 0, 1, []), (32, 3, .if_icmp .ge 68, 100, 0, []), (35, 3, .sipush 670, 0, 0, []), (38, 1, .iload_n 1, 0, 0, []), (39, 1, .imul, 0, 0, []), (40, 1, .iconst 1, 0, 0, []), (41, 1, .iadd, 0, 0, []), (42, 1, .iconst 3, 0, 0, []), (43, 1, .iload_n 2, 0, 0, []), (44, 1, .imul, 0, 0, []), (45, 1, .iadd, 0, 0, []), (46, 1, .istore_n 3, 0, 0, []), (47, 1, .aload_n 0, 0, 0, []), (48, 1, .iload_n 3, 0, 0, []), (49, 3, .sipush 670, 0, 0, []), (52, 1, .iload_n 1, 0, 0, []), (53, 1, .imul, 0, 0, []), (54, 2, .bipush 65, 0, 0, []), (56, 1, .iadd, 0, 0, []), (57, 3, .invokevirtual 269, 231, 0, [2, 1, 0]), (60, 3, .ifCond .ne 5, 65, 0, []), (63, 1, .iload_n 2, 0, 0, []), (64, 1, .ireturn, 0, 0, []), (65, 1, .aload_n 0, 0, 0, []), (66, 3, .getfield 16, 10, 2, []), (69, 1, .iload_n 3, 0, 0, []), (70, 1, .iaload, 0, 1, []), (71, 3, .ifCond .ne 12, 83, 0, []), (74, 1, .aload_n 0, 0, 0, []), (75, 2, .bipush 8, 0, 0, []), (77, 3, .invokevirtual 148, 204, 0, [1, 1, 0]), (80, 3, .goto 9, 89, 0, []), (83, 1, .aload_n 0, 0, 0, []), (84, 2, .bipush 8, 0, 0, []), (86, 3, .invokevirtual 151, 205, 0, [1, 1, 0]), (89, 3, .ifCond .ge 5, 94, 0, []), (92, 1, .iload_n 2, 0, 0, []), (93, 1, .ireturn, 0, 0, []), (94, 3, .iinc 2 1, 0, 0, []), (97, 3, .goto (-76), 21, 0, []), (100, 1, .iconst (-1), 0, 0, []), (101, 1, .ireturn, 0, 0, [])]
def kd_X10_of : List RI := [(0, 1, .iload_n 1, 0, 0, []), (1, 3, .ifCond .eq 14, 15, 0, []), (4, 1, .aload_n 0, 0, 0, []), (5, 1, .iload_n 2, 0, 0, []), (6, 3, .invokevirtual 272, 202, 0, [1, 1, 0]), (9, 3, .ifCond .eq 19, 28, 0, []), (12, 3, .goto 11, 23, 0, []), (15, 1, .aload_n 0, 0, 0, []), (16, 1, .iload_n 2, 0, 0, []), (17, 3, .invokevirtual 275, 201, 0, [1, 1, 0]), (20, 3, .ifCond .eq 8, 28, 0, []), (23, 1, .iload_n 3, 0, 0, []), (24, 1, .iconst (-1), 0, 0, []), (25, 3, .if_icmp .ge 5, 30, 0, []), (28, 1, .iconst (-1), 0, 0, []), (29, 1, .ireturn, 0, 0, []), (30, 1, .iload_n 1, 0, 0, []), (31, 3, .ifCond .eq 12, 43, 0, []), (34, 1, .aload_n 0, 0, 0, []), (35, 1, .iload_n 2, 0, 0, []), (36, 1, .iconst 3, 0, 0, []), (37, 3, .invokevirtual 278, 200, 0, [2, 0, 0]), (40, 3, .goto 9, 49, 0, []), (43, 1, .aload_n 0, 0, 0, []), (44, 1, .iload_n 2, 0, 0, []), (45, 1, .iconst 3, 0, 0, []), (46, 3, .invokevirtual 281, 199, 0, [2, 0, 0]), (49, 1, .iload_n 3, 0, 0, []), (50, 1, .iconst (-1), 0, 0, []), (51, 3, .if_icmp .ne 11, 62, 0, []), (54, 1, .aload_n 0, 0, 0, []), (55, 1, .iconst 3, 0, 0, []), (56, 3, .invokevirtual 139, 194, 0, [1, 1, 0]), (59, 3, .goto 22, 81, 0, []), (62, 1, .iload_n 3, 0, 0, []), (63, 2, .bipush 24, 0, 0, []), (65, 3, .if_icmp .le 7, 72, 0, []), (68, 1, .iconst 0, 0, 0, []), (69, 3, .goto 12, 81, 0, []), (72, 1, .aload_n 0, 0, 0, []), (73, 3, .getfield 28, 10, 8, []), (76, 2, .bipush 75, 0, 0, []), (78, 1, .iload_n 3, 0, 0, []), (79, 1, .iadd, 0, 0, []), (80, 1, .iaload, 0, 1, []), (81, 1, .ireturn, 0, 0, [])]
def kd_X10_stepped : List RI := [(0, 1, .iconst 0, 0, 0, []), (1, 1, .istore_n 3, 0, 0, []), (2, 1, .iconst 0, 0, 0, []), (3, 2, .istore 4, 0, 0, []), (5, 0, .nop, 0, 0, [0, 1, 2, 3, 4]), (5, 2, .iload 4, 0, 0, []), (7, 1, .iconst 4, 0, 0, []), (8, 3, .if_icmp .ge 41, 49, 0, []), (11, 1, .aload_n 0, 0, 0, []), (12, 1, .iload_n 3, 0, 0, []), (13, 1, .aload_n 0, 0, 0, []), (14, 1, .aload_n 0, 0, 0, []), (15, 3, .getfield 7, 10, 0, []), (18, 2, .bipush 10, 0, 0, []), (20, 1, .iconst 4, 0, 0, []), (21, 1, .iload_n 1, 0, 0, []), (22, 1, .imul, 0, 0, []), (23, 1, .iadd, 0, 0, []), (24, 2, .iload 4, 0, 0, []), (26, 1, .iadd, 0, 0, []), (27, 1, .iaload, 0, 1, []), (28, 1, .aload_n 0, 0, 0, []), (29, 1, .iload_n 2, 0, 0, []), (30, 2, .iload 4, 0, 0, []), (32, 3, .invokevirtual 142, 190, 0, [2, 1, 0]), (35, 3, .invokevirtual 132, 188, 0, [2, 1, 0]), (38, 1, .iconst 1, 0, 0, []), (39, 3, .invokevirtual 74, 173, 0, [3, 1, 0]), (42, 1, .istore_n 3, 0, 0, []), (43, 3, .iinc 4 1, 0, 0, []), (46, 3, .goto (-41), 5, 0, []), (49, 1, .iload_n 3, 0, 0, []), (50, 1, .ireturn, 0, 0, [])]
def kd_X10_acted : List RI := [(0, 1, .iconst 0, 0, 0, []), (1, 2, .istore 4, 0, 0, []), (3, 1, .iload_n 2, 0, 0, []), (4, 2, .istore 5, 0, 0, []), (6, 1, .iload_n 3, 0, 0, []), (7, 2, .istore 6, 0, 0, []), (9, 0, .nop, 0, 0, [0, 1, 4, 5, 6]), (9, 2, .iload 5, 0, 0, []), (11, 3, .ifCond .le 57, 68, 0, []), (14, 2, .iload 5, 0, 0, []), (16, 1, .aload_n 0, 0, 0, []), (17, 3, .getfield 7, 10, 0, []), (20, 1, .iconst 0, 0, 0, []), (21, 1, .iaload, 0, 1, []), (22, 1, .irem, 0, 0, []), (23, 3, .ifCond .le 22, 45, 0, []), (26, 1, .aload_n 0, 0, 0, []), (27, 2, .iload 4, 0, 0, []), (29, 2, .iload 6, 0, 0, []), (31, 2, .iload 5, 0, 0, []), (33, 1, .aload_n 0, 0, 0, []), (34, 3, .getfield 7, 10, 0, []), (37, 1, .iconst 0, 0, 0, []), (38, 1, .iaload, 0, 1, []), (39, 1, .irem, 0, 0, []), (40, 3, .invokevirtual 74, 173, 0, [3, 1, 0]), (43, 2, .istore 4, 0, 0, []), (45, 2, .iload 5, 0, 0, []), (47, 1, .aload_n 0, 0, 0, []), (48, 3, .getfield 7, 10, 0, []), (51, 1, .iconst 0, 0, 0, []), (52, 1, .iaload, 0, 1, []), (53, 1, .idiv, 0, 0, []), (54, 2, .istore 5, 0, 0, []), (56, 1, .aload_n 0, 0, 0, []), (57, 1, .iload_n 1, 0, 0, []), (58, 2, .iload 6, 0, 0, []), (60, 3, .invokevirtual 284, 234, 0, [2, 1, 0]), (63, 2, .istore 6, 0, 0, []), (65, 3, .goto (-56), 9, 0, []), (68, 2, .iload 4, 0, 0, []), (70, 1, .ireturn, 0, 0, [])]
def kd_X10_act : List RI := [(0, 1, .aload_n 0, 0, 0, []), (1, 1, .iload_n 1, 0, 0, []), (2, 3, .invokevirtual 275, 201, 0, [1, 1, 0]), (5, 3, .ifCond .eq 29, 34, 0, []), (8, 1, .aload_n 0, 0, 0, []), (9, 1, .iload_n 2, 0, 0, []), (10, 3, .invokevirtual 103, 172, 0, [1, 1, 0]), (13, 3, .ifCond .eq 21, 34, 0, []), (16, 1, .aload_n 0, 0, 0, []), (17, 1, .iload_n 3, 0, 0, []), (18, 3, .invokevirtual 129, 187, 0, [1, 1, 0]), (21, 3, .ifCond .eq 13, 34, 0, []), (24, 1, .aload_n 0, 0, 0, []), (25, 1, .iload_n 1, 0, 0, []), (26, 1, .iload_n 2, 0, 0, []), (27, 1, .iload_n 3, 0, 0, []), (28, 3, .invokevirtual 287, 235, 0, [3, 1, 0]), (31, 3, .goto 4, 35, 0, []), (34, 1, .iconst (-1), 0, 0, []), (35, 1, .ireturn, 0, 0, [])]
def kd_X10_layActs : List RI := [(0, 1, .aload_n 0, 0, 0, []), (1, 1, .iload_n 1, 0, 0, []), (2, 1, .iconst 0, 0, 0, []), (3, 3, .invokevirtual 281, 199, 0, [2, 0, 0]), (6, 1, .aload_n 0, 0, 0, []), (7, 1, .iload_n 3, 0, 0, []), (8, 3, .invokevirtual 135, 192, 0, [1, 0, 0]), (11, 1, .iload_n 2, 0, 0, []), (12, 3, .ifCond .ne 5, 17, 0, []), (15, 1, .iconst 1, 0, 0, []), (16, 1, .ireturn, 0, 0, []), (17, 1, .aload_n 0, 0, 0, []), (18, 1, .iconst 0, 0, 0, []), (19, 3, .invokevirtual 139, 194, 0, [1, 1, 0]), (22, 1, .aload_n 0, 0, 0, []), (23, 1, .iload_n 2, 0, 0, []), (24, 3, .invokevirtual 67, 170, 0, [1, 1, 0]), (27, 1, .imul, 0, 0, []), (28, 2, .bipush 24, 0, 0, []), (30, 3, .if_icmp .le 5, 35, 0, []), (33, 1, .iconst 0, 0, 0, []), (34, 1, .ireturn, 0, 0, []), (35, 1, .aload_n 0, 0, 0, []), (36, 1, .iload_n 2, 0, 0, []), (37, 3, .invokevirtual 67, 170, 0, [1, 1, 0]), (40, 2, .istore 4, 0, 0, []), (42, 0, .nop, 0, 0, [0, 2, 3, 4]), (42, 2, .iload 4, 0, 0, []), (44, 3, .ifCond .lt 54, 98, 0, []), (47, 1, .aload_n 0, 0, 0, []), (48, 1, .iload_n 3, 0, 0, []), (49, 1, .iconst 0, 0, 0, []), (50, 1, .iconst 3, 0, 0, []), (51, 3, .invokevirtual 252, 195, 0, [3, 1, 0]), (54, 2, .istore 5, 0, 0, []), (56, 1, .aload_n 0, 0, 0, []), (57, 1, .iconst 3, 0, 0, []), (58, 1, .iload_n 3, 0, 0, []), (59, 3, .invokevirtual 255, 193, 0, [2, 0, 0]), (62, 1, .aload_n 0, 0, 0, []), (63, 3, .getfield 28, 10, 8, []), (66, 2, .bipush 25, 0, 0, []), (68, 1, .iload_n 3, 0, 0, []), (69, 1, .imul, 0, 0, []), (70, 1, .aload_n 0, 0, 0, []), (71, 1, .aload_n 0, 0, 0, []), (72, 3, .getfield 28, 10, 8, []), (75, 2, .bipush 25, 0, 0, []), (77, 1, .iload_n 3, 0, 0, []), (78, 1, .imul, 0, 0, []), (79, 1, .iaload, 0, 1, []), (80, 1, .aload_n 0, 0, 0, []), (81, 1, .iload_n 2, 0, 0, []), (82, 2, .iload 4, 0, 0, []), (84, 3, .invokevirtual 84, 171, 0, [2, 1, 0]), (87, 1, .iconst 1, 0, 0, []), (88, 3, .invokevirtual 74, 173, 0, [3, 1, 0]), (91, 1, .iastore, 0, 1, []), (92, 3, .iinc 4 (-1), 0, 0, []), (95, 3, .goto (-53), 42, 0, []), (98, 1, .iconst 1, 0, 0, []), (99, 1, .ireturn, 0, 0, [])]
def kd_X10_acts : List RI := [(0, 1, .aload_n 0, 0, 0, []), (1, 1, .iload_n 1, 0, 0, []), (2, 3, .invokevirtual 275, 201, 0, [1, 1, 0]), (5, 3, .ifCond .eq 43, 48, 0, []), (8, 1, .aload_n 0, 0, 0, []), (9, 1, .iload_n 2, 0, 0, []), (10, 3, .invokevirtual 103, 172, 0, [1, 1, 0]), (13, 3, .ifCond .eq 35, 48, 0, []), (16, 1, .iload_n 3, 0, 0, []), (17, 1, .iconst 0, 0, 0, []), (18, 2, .bipush 24, 0, 0, []), (20, 3, .invokestatic 107, 168, 0, [3, 1, 0]), (23, 3, .ifCond .eq 25, 48, 0, []), (26, 1, .aload_n 0, 0, 0, []), (27, 1, .iload_n 1, 0, 0, []), (28, 1, .iload_n 2, 0, 0, []), (29, 1, .iconst 1, 0, 0, []), (30, 3, .invokevirtual 290, 237, 0, [3, 1, 0]), (33, 3, .ifCond .eq 15, 48, 0, []), (36, 1, .aload_n 0, 0, 0, []), (37, 3, .getfield 28, 10, 8, []), (40, 2, .bipush 25, 0, 0, []), (42, 1, .iload_n 3, 0, 0, []), (43, 1, .iadd, 0, 0, []), (44, 1, .iaload, 0, 1, []), (45, 3, .goto 4, 49, 0, []), (48, 1, .iconst (-1), 0, 0, []), (49, 1, .ireturn, 0, 0, [])]
def kd_X10_send : List RI := [(0, 1, .aload_n 0, 0, 0, []), (1, 1, .iload_n 1, 0, 0, []), (2, 3, .invokevirtual 272, 202, 0, [1, 1, 0]), (5, 3, .ifCond .eq 11, 16, 0, []), (8, 1, .aload_n 0, 0, 0, []), (9, 1, .iload_n 2, 0, 0, []), (10, 3, .invokevirtual 129, 187, 0, [1, 1, 0]), (13, 3, .ifCond .ne 5, 18, 0, []), (16, 1, .iconst (-1), 0, 0, []), (17, 1, .ireturn, 0, 0, []), (18, 1, .aload_n 0, 0, 0, []), (19, 1, .iload_n 1, 0, 0, []), (20, 1, .iconst 2, 0, 0, []), (21, 3, .invokevirtual 278, 200, 0, [2, 0, 0]), (24, 1, .aload_n 0, 0, 0, []), (25, 1, .iconst 2, 0, 0, []), (26, 1, .iload_n 2, 0, 0, []), (27, 3, .invokevirtual 293, 198, 0, [2, 1, 0]), (30, 1, .ireturn, 0, 0, [])]
def kd_X10_noughts : List RI := [(0, 1, .aload_n 0, 0, 0, []), (1, 1, .iload_n 1, 0, 0, []), (2, 3, .invokevirtual 275, 201, 0, [1, 1, 0]), (5, 3, .ifCond .eq 16, 21, 0, []), (8, 1, .aload_n 0, 0, 0, []), (9, 1, .iload_n 2, 0, 0, []), (10, 3, .invokevirtual 103, 172, 0, [1, 1, 0]), (13, 3, .ifCond .eq 8, 21, 0, []), (16, 1, .iload_n 3, 0, 0, []), (17, 1, .iconst (-1), 0, 0, []), (18, 3, .if_icmp .ge 5, 23, 0, []), (21, 1, .iconst (-1), 0, 0, []), (22, 1, .ireturn, 0, 0, []), (23, 1, .iconst 0, 0, 0, []), (24, 2, .istore 4, 0, 0, []), (26, 1, .iconst 0, 0, 0, []), (27, 2, .istore 5, 0, 0, []), (29, 0, .nop, 0, 0, [0, 1, 2, 3, 4, 5]), (29, 2, .iload 5, 0, 0, []), (31, 1, .aload_n 0, 0, 0, []), (32, 3, .getfield 123, 10, 4, []), (35, 3, .if_icmp .ge 35, 70, 0, []), (38, 1, .aload_n 0, 0, 0, []), (39, 1, .iload_n 1, 0, 0, []), (40, 1, .iload_n 2, 0, 0, []), (41, 2, .iload 5, 0, 0, []), (43, 3, .invokevirtual 287, 235, 0, [3, 1, 0]), (46, 3, .ifCond .eq 6, 52, 0, []), (49, 3, .goto 15, 64, 0, []), (52, 2, .iload 4, 0, 0, []), (54, 1, .iload_n 3, 0, 0, []), (55, 3, .if_icmp .ne 6, 61, 0, []), (58, 2, .iload 5, 0, 0, []), (60, 1, .ireturn, 0, 0, []), (61, 3, .iinc 4 1, 0, 0, []), (64, 3, .iinc 5 1, 0, 0, []), (67, 3, .goto (-38), 29, 0, []), (70, 1, .iload_n 3, 0, 0, []), (71, 1, .iconst (-1), 0, 0, []), (72, 3, .if_icmp .ne 8, 80, 0, []), (75, 2, .iload 4, 0, 0, []), (77, 3, .goto 4, 81, 0, []), (80, 1, .iconst (-1), 0, 0, []), (81, 1, .ireturn, 0, 0, [])]
def kd_X10_characteristic : List RI := [(0, 1, .iconst 0, 0, 0, []), (1, 1, .istore_n 2, 0, 0, []), (2, 0, .nop, 0, 0, [0, 1, 2]), (2, 1, .iload_n 2, 0, 0, []), (3, 2, .bipush 9, 0, 0, []), (5, 3, .if_icmp .ge 16, 21, 0, []), (8, 1, .aload_n 0, 0, 0, []), (9, 3, .getfield 44, 10, 27, []), (12, 1, .iload_n 2, 0, 0, []), (13, 1, .iconst 0, 0, 0, []), (14, 1, .iastore, 0, 1, []), (15, 3, .iinc 2 1, 0, 0, []), (18, 3, .goto (-16), 2, 0, []), (21, 1, .aload_n 0, 0, 0, []), (22, 3, .getfield 44, 10, 27, []), (25, 1, .iconst 0, 0, 0, []), (26, 1, .iconst 1, 0, 0, []), (27, 1, .iastore, 0, 1, []), (28, 1, .iconst 0, 0, 0, []), (29, 1, .istore_n 2, 0, 0, []), (30, 1, .iload_n 1, 0, 0, []), (31, 1, .istore_n 3, 0, 0, []), (32, 1, .iconst 1, 0, 0, []), (33, 2, .istore 4, 0, 0, []), (35, 0, .nop, 0, 0, [0, 1, 2, 3, 4]), (35, 2, .iload 4, 0, 0, []), (37, 3, .ifCond .eq 105, 142, 0, []), (40, 1, .iload_n 2, 0, 0, []), (41, 1, .iconst 1, 0, 0, []), (42, 1, .iadd, 0, 0, []), (43, 2, .istore 5, 0, 0, []), (45, 0, .nop, 0, 0, [0, 1, 2, 3, 5]), (45, 2, .iload 5, 0, 0, []), (47, 3, .ifCond .le 49, 96, 0, []), (50, 1, .aload_n 0, 0, 0, []), (51, 3, .getfield 44, 10, 27, []), (54, 2, .iload 5, 0, 0, []), (56, 1, .aload_n 0, 0, 0, []), (57, 1, .aload_n 0, 0, 0, []), (58, 3, .getfield 44, 10, 27, []), (61, 2, .iload 5, 0, 0, []), (63, 1, .iconst 1, 0, 0, []), (64, 1, .isub, 0, 0, []), (65, 1, .iaload, 0, 1, []), (66, 1, .aload_n 0, 0, 0, []), (67, 1, .aload_n 0, 0, 0, []), (68, 3, .getfield 44, 10, 27, []), (71, 2, .iload 5, 0, 0, []), (73, 1, .iaload, 0, 1, []), (74, 1, .iload_n 3, 0, 0, []), (75, 3, .invokevirtual 132, 188, 0, [2, 1, 0]), (78, 1, .aload_n 0, 0, 0, []), (79, 3, .getfield 7, 10, 0, []), (82, 1, .iconst 0, 0, 0, []), (83, 1, .iaload, 0, 1, []), (84, 1, .iconst 1, 0, 0, []), (85, 1, .isub, 0, 0, []), (86, 3, .invokevirtual 74, 173, 0, [3, 1, 0]), (89, 1, .iastore, 0, 1, []), (90, 3, .iinc 5 (-1), 0, 0, []), (93, 3, .goto (-48), 45, 0, []), (96, 1, .aload_n 0, 0, 0, []), (97, 3, .getfield 44, 10, 27, []), (100, 1, .iconst 0, 0, 0, []), (101, 1, .aload_n 0, 0, 0, []), (102, 1, .aload_n 0, 0, 0, []), (103, 1, .aload_n 0, 0, 0, []), (104, 3, .getfield 44, 10, 27, []), (107, 1, .iconst 0, 0, 0, []), (108, 1, .iaload, 0, 1, []), (109, 1, .iload_n 3, 0, 0, []), (110, 3, .invokevirtual 132, 188, 0, [2, 1, 0]), (113, 3, .invokevirtual 258, 189, 0, [1, 1, 0]), (116, 1, .iastore, 0, 1, []), (117, 3, .iinc 2 1, 0, 0, []), (120, 1, .aload_n 0, 0, 0, []), (121, 3, .getfield 25, 10, 7, []), (124, 1, .iload_n 3, 0, 0, []), (125, 1, .iaload, 0, 1, []), (126, 1, .istore_n 3, 0, 0, []), (127, 1, .iload_n 3, 0, 0, []), (128, 1, .iload_n 1, 0, 0, []), (129, 3, .if_icmp .eq 7, 136, 0, []), (132, 1, .iconst 1, 0, 0, []), (133, 3, .goto 4, 137, 0, []), (136, 1, .iconst 0, 0, 0, []), (137, 2, .istore 4, 0, 0, []), (139, 3, .goto (-104), 35, 0, []), (142, 1, .iconst 0, 0, 0, []), (143, 2, .istore 5, 0, 0, []), (145, 1, .iload_n 2, 0, 0, []), (146, 2, .istore 6, 0, 0, []), (148, 0, .nop, 0, 0, [0, 5, 6]), (148, 2, .iload 6, 0, 0, []), (150, 3, .ifCond .lt 28, 178, 0, []), (153, 2, .iload 5, 0, 0, []), (155, 1, .aload_n 0, 0, 0, []), (156, 3, .getfield 7, 10, 0, []), (159, 1, .iconst 0, 0, 0, []), (160, 1, .iaload, 0, 1, []), (161, 1, .imul, 0, 0, []), (162, 1, .aload_n 0, 0, 0, []), (163, 3, .getfield 44, 10, 27, []), (166, 2, .iload 6, 0, 0, []), (168, 1, .iaload, 0, 1, []), (169, 1, .iadd, 0, 0, []), (170, 2, .istore 5, 0, 0, []), (172, 3, .iinc 6 (-1), 0, 0, []), (175, 3, .goto (-27), 148, 0, []), (178, 2, .iload 5, 0, 0, []), (180, 1, .ireturn, 0, 0, [])]
def kd_X10_height : List RI := [(0, 1, .aload_n 0, 0, 0, []), (1, 1, .aload_n 0, 0, 0, []), (2, 3, .getfield 7, 10, 0, []), (5, 2, .bipush 10, 0, 0, []), (7, 1, .iconst 4, 0, 0, []), (8, 1, .iload_n 1, 0, 0, []), (9, 1, .imul, 0, 0, []), (10, 1, .iadd, 0, 0, []), (11, 1, .iaload, 0, 1, []), (12, 3, .invokevirtual 296, 241, 0, [1, 1, 0]), (15, 1, .istore_n 2, 0, 0, []), (16, 1, .aload_n 0, 0, 0, []), (17, 1, .iload_n 1, 0, 0, []), (18, 1, .iload_n 2, 0, 0, []), (19, 1, .iconst 1, 0, 0, []), (20, 3, .invokevirtual 290, 237, 0, [3, 1, 0]), (23, 1, .istore_n 3, 0, 0, []), (24, 1, .iconst 0, 0, 0, []), (25, 2, .istore 4, 0, 0, []), (27, 0, .nop, 0, 0, [0, 2, 4]), (27, 1, .aload_n 0, 0, 0, []), (28, 3, .getfield 28, 10, 8, []), (31, 2, .bipush 25, 0, 0, []), (33, 2, .iload 4, 0, 0, []), (35, 1, .iadd, 0, 0, []), (36, 1, .iaload, 0, 1, []), (37, 3, .ifCond .ne 9, 46, 0, []), (40, 3, .iinc 4 1, 0, 0, []), (43, 3, .goto (-16), 27, 0, []), (46, 2, .iload 4, 0, 0, []), (48, 1, .aload_n 0, 0, 0, []), (49, 1, .iload_n 2, 0, 0, []), (50, 3, .invokevirtual 67, 170, 0, [1, 1, 0]), (53, 1, .idiv, 0, 0, []), (54, 1, .ireturn, 0, 0, [])]
def kd_X10_toSteps : List RI := [(0, 1, .iconst 0, 0, 0, []), (1, 1, .istore_n 2, 0, 0, []), (2, 0, .nop, 0, 0, [0, 1, 2]), (2, 1, .iload_n 2, 0, 0, []), (3, 1, .iconst 2, 0, 0, []), (4, 1, .iadd, 0, 0, []), (5, 1, .iload_n 1, 0, 0, []), (6, 3, .if_icmp .ge 396, 402, 0, []), (9, 1, .iload_n 2, 0, 0, []), (10, 1, .iconst 1, 0, 0, []), (11, 1, .iadd, 0, 0, []), (12, 1, .istore_n 3, 0, 0, []), (13, 0, .nop, 0, 0, [0, 1, 2, 3]), (13, 1, .iload_n 3, 0, 0, []), (14, 1, .iload_n 1, 0, 0, []), (15, 3, .if_icmp .ge 23, 38, 0, []), (18, 1, .aload_n 0, 0, 0, []), (19, 3, .getfield 47, 10, 28, []), (22, 2, .bipush 24, 0, 0, []), (24, 1, .iload_n 3, 0, 0, []), (25, 1, .imul, 0, 0, []), (26, 1, .iload_n 2, 0, 0, []), (27, 1, .iadd, 0, 0, []), (28, 1, .iaload, 0, 1, []), (29, 3, .ifCond .ne 9, 38, 0, []), (32, 3, .iinc 3 1, 0, 0, []), (35, 3, .goto (-22), 13, 0, []), (38, 1, .iload_n 3, 0, 0, []), (39, 1, .iload_n 1, 0, 0, []), (40, 3, .if_icmp .ne 6, 46, 0, []), (43, 3, .goto 353, 396, 0, []), (46, 1, .iconst 0, 0, 0, []), (47, 2, .istore 4, 0, 0, []), (49, 0, .nop, 0, 0, [0, 1, 2, 3, 4]), (49, 2, .iload 4, 0, 0, []), (51, 1, .iload_n 1, 0, 0, []), (52, 3, .if_icmp .ge 65, 117, 0, []), (55, 1, .aload_n 0, 0, 0, []), (56, 3, .getfield 47, 10, 28, []), (59, 2, .bipush 24, 0, 0, []), (61, 1, .iload_n 3, 0, 0, []), (62, 1, .imul, 0, 0, []), (63, 2, .iload 4, 0, 0, []), (65, 1, .iadd, 0, 0, []), (66, 1, .iaload, 0, 1, []), (67, 2, .istore 5, 0, 0, []), (69, 1, .aload_n 0, 0, 0, []), (70, 3, .getfield 47, 10, 28, []), (73, 2, .bipush 24, 0, 0, []), (75, 1, .iload_n 3, 0, 0, []), (76, 1, .imul, 0, 0, []), (77, 2, .iload 4, 0, 0, []), (79, 1, .iadd, 0, 0, []), (80, 1, .aload_n 0, 0, 0, []), (81, 3, .getfield 47, 10, 28, []), (84, 2, .bipush 24, 0, 0, []), (86, 1, .iload_n 2, 0, 0, []), (87, 1, .iconst 1, 0, 0, []), (88, 1, .iadd, 0, 0, []), (89, 1, .imul, 0, 0, []), (90, 2, .iload 4, 0, 0, []), (92, 1, .iadd, 0, 0, []), (93, 1, .iaload, 0, 1, []), (94, 1, .iastore, 0, 1, []), (95, 1, .aload_n 0, 0, 0, []), (96, 3, .getfield 47, 10, 28, []), (99, 2, .bipush 24, 0, 0, []), (101, 1, .iload_n 2, 0, 0, []), (102, 1, .iconst 1, 0, 0, []), (103, 1, .iadd, 0, 0, []), (104, 1, .imul, 0, 0, []), (105, 2, .iload 4, 0, 0, []), (107, 1, .iadd, 0, 0, []), (108, 2, .iload 5, 0, 0, []), (110, 1, .iastore, 0, 1, []), (111, 3, .iinc 4 1, 0, 0, []), (114, 3, .goto (-65), 49, 0, []), (117, 1, .iconst 0, 0, 0, []), (118, 2, .istore 4, 0, 0, []), (120, 0, .nop, 0, 0, [0, 1, 2, 3, 4]), (120, 2, .iload 4, 0, 0, []), (122, 1, .iload_n 1, 0, 0, []), (123, 3, .if_icmp .ge 65, 188, 0, []), (126, 1, .aload_n 0, 0, 0, []), (127, 3, .getfield 47, 10, 28, []), (130, 2, .bipush 24, 0, 0, []), (132, 2, .iload 4, 0, 0, []), (134, 1, .imul, 0, 0, []), (135, 1, .iload_n 3, 0, 0, []), (136, 1, .iadd, 0, 0, []), (137, 1, .iaload, 0, 1, []), (138, 2, .istore 5, 0, 0, []), (140, 1, .aload_n 0, 0, 0, []), (141, 3, .getfield 47, 10, 28, []), (144, 2, .bipush 24, 0, 0, []), (146, 2, .iload 4, 0, 0, []), (148, 1, .imul, 0, 0, []), (149, 1, .iload_n 3, 0, 0, []), (150, 1, .iadd, 0, 0, []), (151, 1, .aload_n 0, 0, 0, []), (152, 3, .getfield 47, 10, 28, []), (155, 2, .bipush 24, 0, 0, []), (157, 2, .iload 4, 0, 0, []), (159, 1, .imul, 0, 0, []), (160, 1, .iload_n 2, 0, 0, []), (161, 1, .iadd, 0, 0, []), (162, 1, .iconst 1, 0, 0, []), (163, 1, .iadd, 0, 0, []), (164, 1, .iaload, 0, 1, []), (165, 1, .iastore, 0, 1, []), (166, 1, .aload_n 0, 0, 0, []), (167, 3, .getfield 47, 10, 28, []), (170, 2, .bipush 24, 0, 0, []), (172, 2, .iload 4, 0, 0, []), (174, 1, .imul, 0, 0, []), (175, 1, .iload_n 2, 0, 0, []), (176, 1, .iadd, 0, 0, []), (177, 1, .iconst 1, 0, 0, []), (178, 1, .iadd, 0, 0, []), (179, 2, .iload 5, 0, 0, []), (181, 1, .iastore, 0, 1, []), (182, 3, .iinc 4 1, 0, 0, []), (185, 3, .goto (-65), 120, 0, []), (188, 1, .aload_n 0, 0, 0, []), (189, 1, .aload_n 0, 0, 0, []), (190, 3, .getfield 47, 10, 28, []), (193, 2, .bipush 24, 0, 0, []), (195, 1, .iload_n 2, 0, 0, []), (196, 1, .iconst 1, 0, 0, []), (197, 1, .iadd, 0, 0, []), (198, 1, .imul, 0, 0, []), (199, 1, .iload_n 2, 0, 0, []), (200, 1, .iadd, 0, 0, []), (201, 1, .iaload, 0, 1, []), (202, 3, .invokevirtual 87, 176, 0, [1, 1, 0]), (205, 2, .istore 4, 0, 0, []), (207, 1, .iload_n 2, 0, 0, []), (208, 1, .iconst 2, 0, 0, []), (209, 1, .iadd, 0, 0, []), (210, 2, .istore 5, 0, 0, []), (212, 0, .nop, 0, 0, [0, 1, 2, 4, 5]), (212, 2, .iload 5, 0, 0, []), (214, 1, .iload_n 1, 0, 0, []), (215, 3, .if_icmp .ge 181, 396, 0, []), (218, 1, .aload_n 0, 0, 0, []), (219, 3, .getfield 47, 10, 28, []), (222, 2, .bipush 24, 0, 0, []), (224, 2, .iload 5, 0, 0, []), (226, 1, .imul, 0, 0, []), (227, 1, .iload_n 2, 0, 0, []), (228, 1, .iadd, 0, 0, []), (229, 1, .iaload, 0, 1, []), (230, 2, .iload 4, 0, 0, []), (232, 1, .imul, 0, 0, []), (233, 1, .aload_n 0, 0, 0, []), (234, 3, .getfield 7, 10, 0, []), (237, 1, .iconst 0, 0, 0, []), (238, 1, .iaload, 0, 1, []), (239, 1, .irem, 0, 0, []), (240, 2, .istore 6, 0, 0, []), (242, 2, .iload 6, 0, 0, []), (244, 3, .ifCond .ne 6, 250, 0, []), (247, 3, .goto 143, 390, 0, []), (250, 1, .iconst 0, 0, 0, []), (251, 2, .istore 7, 0, 0, []), (253, 0, .nop, 0, 0, [0, 1, 2, 4, 5, 6, 7]), (253, 2, .iload 7, 0, 0, []), (255, 1, .iload_n 1, 0, 0, []), (256, 3, .if_icmp .ge 67, 323, 0, []), (259, 1, .aload_n 0, 0, 0, []), (260, 3, .getfield 47, 10, 28, []), (263, 2, .bipush 24, 0, 0, []), (265, 2, .iload 5, 0, 0, []), (267, 1, .imul, 0, 0, []), (268, 2, .iload 7, 0, 0, []), (270, 1, .iadd, 0, 0, []), (271, 1, .aload_n 0, 0, 0, []), (272, 3, .getfield 47, 10, 28, []), (275, 2, .bipush 24, 0, 0, []), (277, 2, .iload 5, 0, 0, []), (279, 1, .imul, 0, 0, []), (280, 2, .iload 7, 0, 0, []), (282, 1, .iadd, 0, 0, []), (283, 1, .iaload, 0, 1, []), (284, 1, .aload_n 0, 0, 0, []), (285, 3, .getfield 7, 10, 0, []), (288, 1, .iconst 0, 0, 0, []), (289, 1, .iaload, 0, 1, []), (290, 2, .iload 6, 0, 0, []), (292, 1, .isub, 0, 0, []), (293, 1, .aload_n 0, 0, 0, []), (294, 3, .getfield 47, 10, 28, []), (297, 2, .bipush 24, 0, 0, []), (299, 1, .iload_n 2, 0, 0, []), (300, 1, .iconst 1, 0, 0, []), (301, 1, .iadd, 0, 0, []), (302, 1, .imul, 0, 0, []), (303, 2, .iload 7, 0, 0, []), (305, 1, .iadd, 0, 0, []), (306, 1, .iaload, 0, 1, []), (307, 1, .imul, 0, 0, []), (308, 1, .iadd, 0, 0, []), (309, 1, .aload_n 0, 0, 0, []), (310, 3, .getfield 7, 10, 0, []), (313, 1, .iconst 0, 0, 0, []), (314, 1, .iaload, 0, 1, []), (315, 1, .irem, 0, 0, []), (316, 1, .iastore, 0, 1, []), (317, 3, .iinc 7 1, 0, 0, []), (320, 3, .goto (-67), 253, 0, []), (323, 1, .iconst 0, 0, 0, []), (324, 2, .istore 7, 0, 0, []), (326, 0, .nop, 0, 0, [0, 1, 2, 4, 5, 6, 7]), (326, 2, .iload 7, 0, 0, []), (328, 1, .iload_n 1, 0, 0, []), (329, 3, .if_icmp .ge 61, 390, 0, []), (332, 1, .aload_n 0, 0, 0, []), (333, 3, .getfield 47, 10, 28, []), (336, 2, .bipush 24, 0, 0, []), (338, 2, .iload 7, 0, 0, []), (340, 1, .imul, 0, 0, []), (341, 1, .iload_n 2, 0, 0, []), (342, 1, .iadd, 0, 0, []), (343, 1, .iconst 1, 0, 0, []), (344, 1, .iadd, 0, 0, []), (345, 1, .aload_n 0, 0, 0, []), (346, 3, .getfield 47, 10, 28, []), (349, 2, .bipush 24, 0, 0, []), (351, 2, .iload 7, 0, 0, []), (353, 1, .imul, 0, 0, []), (354, 1, .iload_n 2, 0, 0, []), (355, 1, .iadd, 0, 0, []), (356, 1, .iconst 1, 0, 0, []), (357, 1, .iadd, 0, 0, []), (358, 1, .iaload, 0, 1, []), (359, 2, .iload 6, 0, 0, []), (361, 1, .aload_n 0, 0, 0, []), (362, 3, .getfield 47, 10, 28, []), (365, 2, .bipush 24, 0, 0, []), (367, 2, .iload 7, 0, 0, []), (369, 1, .imul, 0, 0, []), (370, 2, .iload 5, 0, 0, []), (372, 1, .iadd, 0, 0, []), (373, 1, .iaload, 0, 1, []), (374, 1, .imul, 0, 0, []), (375, 1, .iadd, 0, 0, []), (376, 1, .aload_n 0, 0, 0, []), (377, 3, .getfield 7, 10, 0, []), (380, 1, .iconst 0, 0, 0, []), (381, 1, .iaload, 0, 1, []), (382, 1, .irem, 0, 0, []), (383, 1, .iastore, 0, 1, []), (384, 3, .iinc 7 1, 0, 0, []), (387, 3, .goto (-61), 326, 0, []), (390, 3, .iinc 5 1, 0, 0, []), (393, 3, .goto (-181), 212, 0, []), (396, 3, .iinc 2 1, 0, 0, []), (399, 3, .goto (-397), 2, 0, []), (402, 1, .return_, 0, 0, [])]
def kd_X10_points : List RI := [(0, 1, .iconst 0, 0, 0, []), (1, 1, .istore_n 2, 0, 0, []), (2, 0, .nop, 0, 0, [0, 1, 2]), (2, 1, .iload_n 2, 0, 0, []), (3, 1, .aload_n 0, 0, 0, []), (4, 3, .getfield 120, 10, 3, []), (7, 3, .if_icmp .ge 57, 64, 0, []), (10, 1, .aload_n 0, 0, 0, []), (11, 1, .iload_n 1, 0, 0, []), (12, 1, .aload_n 0, 0, 0, []), (13, 1, .iload_n 2, 0, 0, []), (14, 3, .invokevirtual 63, 169, 0, [1, 1, 0]), (17, 3, .invokevirtual 284, 234, 0, [2, 1, 0]), (20, 1, .istore_n 3, 0, 0, []), (21, 1, .iconst 0, 0, 0, []), (22, 2, .istore 4, 0, 0, []), (24, 0, .nop, 0, 0, [0, 1, 2, 3, 4]), (24, 2, .iload 4, 0, 0, []), (26, 1, .aload_n 0, 0, 0, []), (27, 3, .getfield 120, 10, 3, []), (30, 3, .if_icmp .ge 28, 58, 0, []), (33, 1, .aload_n 0, 0, 0, []), (34, 3, .getfield 47, 10, 28, []), (37, 2, .bipush 24, 0, 0, []), (39, 2, .iload 4, 0, 0, []), (41, 1, .imul, 0, 0, []), (42, 1, .iload_n 2, 0, 0, []), (43, 1, .iadd, 0, 0, []), (44, 1, .aload_n 0, 0, 0, []), (45, 1, .iload_n 3, 0, 0, []), (46, 2, .iload 4, 0, 0, []), (48, 3, .invokevirtual 84, 171, 0, [2, 1, 0]), (51, 1, .iastore, 0, 1, []), (52, 3, .iinc 4 1, 0, 0, []), (55, 3, .goto (-31), 24, 0, []), (58, 3, .iinc 2 1, 0, 0, []), (61, 3, .goto (-59), 2, 0, []), (64, 1, .aload_n 0, 0, 0, []), (65, 1, .aload_n 0, 0, 0, []), (66, 3, .getfield 120, 10, 3, []), (69, 3, .invokevirtual 299, 243, 0, [1, 0, 0]), (72, 1, .aload_n 0, 0, 0, []), (73, 3, .getfield 50, 10, 29, []), (76, 1, .iconst 0, 0, 0, []), (77, 1, .iconst 1, 0, 0, []), (78, 1, .iastore, 0, 1, []), (79, 1, .iconst 1, 0, 0, []), (80, 1, .istore_n 2, 0, 0, []), (81, 0, .nop, 0, 0, [0, 2]), (81, 1, .iload_n 2, 0, 0, []), (82, 1, .aload_n 0, 0, 0, []), (83, 3, .getfield 120, 10, 3, []), (86, 3, .if_icmp .gt 165, 251, 0, []), (89, 1, .aload_n 0, 0, 0, []), (90, 1, .aload_n 0, 0, 0, []), (91, 1, .aload_n 0, 0, 0, []), (92, 3, .getfield 50, 10, 29, []), (95, 1, .iload_n 2, 0, 0, []), (96, 1, .iconst 1, 0, 0, []), (97, 1, .isub, 0, 0, []), (98, 1, .iaload, 0, 1, []), (99, 1, .iconst 1, 0, 0, []), (100, 3, .invokevirtual 70, 174, 0, [2, 1, 0]), (103, 1, .aload_n 0, 0, 0, []), (104, 3, .getfield 50, 10, 29, []), (107, 1, .iload_n 2, 0, 0, []), (108, 1, .iconst 1, 0, 0, []), (109, 1, .isub, 0, 0, []), (110, 1, .iaload, 0, 1, []), (111, 1, .aload_n 0, 0, 0, []), (112, 3, .getfield 7, 10, 0, []), (115, 1, .iconst 0, 0, 0, []), (116, 1, .iaload, 0, 1, []), (117, 1, .aload_n 0, 0, 0, []), (118, 3, .getfield 47, 10, 28, []), (121, 2, .bipush 24, 0, 0, []), (123, 1, .iload_n 2, 0, 0, []), (124, 1, .iconst 1, 0, 0, []), (125, 1, .isub, 0, 0, []), (126, 1, .imul, 0, 0, []), (127, 1, .iload_n 2, 0, 0, []), (128, 1, .iadd, 0, 0, []), (129, 1, .iconst 1, 0, 0, []), (130, 1, .isub, 0, 0, []), (131, 1, .iaload, 0, 1, []), (132, 1, .isub, 0, 0, []), (133, 3, .invokevirtual 74, 173, 0, [3, 1, 0]), (136, 1, .istore_n 3, 0, 0, []), (137, 1, .iconst 1, 0, 0, []), (138, 2, .istore 4, 0, 0, []), (140, 1, .iload_n 2, 0, 0, []), (141, 1, .iconst 1, 0, 0, []), (142, 1, .isub, 0, 0, []), (143, 2, .istore 5, 0, 0, []), (145, 0, .nop, 0, 0, [0, 2, 3, 4, 5]), (145, 2, .iload 5, 0, 0, []), (147, 3, .ifCond .le 91, 238, 0, []), (150, 2, .iload 4, 0, 0, []), (152, 1, .aload_n 0, 0, 0, []), (153, 3, .getfield 47, 10, 28, []), (156, 2, .bipush 24, 0, 0, []), (158, 2, .iload 5, 0, 0, []), (160, 1, .imul, 0, 0, []), (161, 2, .iload 5, 0, 0, []), (163, 1, .iadd, 0, 0, []), (164, 1, .iconst 1, 0, 0, []), (165, 1, .isub, 0, 0, []), (166, 1, .iaload, 0, 1, []), (167, 1, .imul, 0, 0, []), (168, 1, .aload_n 0, 0, 0, []), (169, 3, .getfield 7, 10, 0, []), (172, 1, .iconst 0, 0, 0, []), (173, 1, .iaload, 0, 1, []), (174, 1, .irem, 0, 0, []), (175, 2, .istore 4, 0, 0, []), (177, 1, .aload_n 0, 0, 0, []), (178, 1, .iload_n 3, 0, 0, []), (179, 1, .aload_n 0, 0, 0, []), (180, 3, .getfield 50, 10, 29, []), (183, 2, .iload 5, 0, 0, []), (185, 1, .iconst 1, 0, 0, []), (186, 1, .isub, 0, 0, []), (187, 1, .iaload, 0, 1, []), (188, 1, .aload_n 0, 0, 0, []), (189, 3, .getfield 7, 10, 0, []), (192, 1, .iconst 0, 0, 0, []), (193, 1, .iaload, 0, 1, []), (194, 2, .iload 4, 0, 0, []), (196, 1, .aload_n 0, 0, 0, []), (197, 3, .getfield 47, 10, 28, []), (200, 2, .bipush 24, 0, 0, []), (202, 2, .iload 5, 0, 0, []), (204, 1, .iconst 1, 0, 0, []), (205, 1, .isub, 0, 0, []), (206, 1, .imul, 0, 0, []), (207, 1, .iload_n 2, 0, 0, []), (208, 1, .iadd, 0, 0, []), (209, 1, .iconst 1, 0, 0, []), (210, 1, .isub, 0, 0, []), (211, 1, .iaload, 0, 1, []), (212, 1, .imul, 0, 0, []), (213, 1, .aload_n 0, 0, 0, []), (214, 3, .getfield 7, 10, 0, []), (217, 1, .iconst 0, 0, 0, []), (218, 1, .iaload, 0, 1, []), (219, 1, .irem, 0, 0, []), (220, 1, .isub, 0, 0, []), (221, 1, .aload_n 0, 0, 0, []), (222, 3, .getfield 7, 10, 0, []), (225, 1, .iconst 0, 0, 0, []), (226, 1, .iaload, 0, 1, []), (227, 1, .irem, 0, 0, []), (228, 3, .invokevirtual 74, 173, 0, [3, 1, 0]), (231, 1, .istore_n 3, 0, 0, []), (232, 3, .iinc 5 (-1), 0, 0, []), (235, 3, .goto (-90), 145, 0, []), (238, 1, .aload_n 0, 0, 0, []), (239, 3, .getfield 50, 10, 29, []), (242, 1, .iload_n 2, 0, 0, []), (243, 1, .iload_n 3, 0, 0, []), (244, 1, .iastore, 0, 1, []), (245, 3, .iinc 2 1, 0, 0, []), (248, 3, .goto (-167), 81, 0, []), (251, 1, .aload_n 0, 0, 0, []), (252, 3, .getfield 50, 10, 29, []), (255, 1, .aload_n 0, 0, 0, []), (256, 3, .getfield 120, 10, 3, []), (259, 1, .iaload, 0, 1, []), (260, 1, .ireturn, 0, 0, [])]
def kd_X10_about : List RI := [(0, 1, .aload_n 0, 0, 0, []), (1, 1, .iload_n 1, 0, 0, []), (2, 3, .invokevirtual 275, 201, 0, [1, 1, 0]), (5, 3, .ifCond .eq 12, 17, 0, []), (8, 1, .iload_n 2, 0, 0, []), (9, 1, .iconst 0, 0, 0, []), (10, 1, .iconst 2, 0, 0, []), (11, 3, .invokestatic 107, 168, 0, [3, 1, 0]), (14, 3, .ifCond .ne 5, 19, 0, []), (17, 1, .iconst (-1), 0, 0, []), (18, 1, .ireturn, 0, 0, []), (19, 1, .iload_n 2, 0, 0, []), (20, 3, .ifCond .ne 21, 41, 0, []), (23, 1, .aload_n 0, 0, 0, []), (24, 1, .aload_n 0, 0, 0, []), (25, 3, .getfield 7, 10, 0, []), (28, 2, .bipush 10, 0, 0, []), (30, 1, .iconst 4, 0, 0, []), (31, 1, .iload_n 1, 0, 0, []), (32, 1, .imul, 0, 0, []), (33, 1, .iadd, 0, 0, []), (34, 1, .iaload, 0, 1, []), (35, 3, .invokevirtual 296, 241, 0, [1, 1, 0]), (38, 3, .goto 21, 59, 0, []), (41, 1, .iload_n 2, 0, 0, []), (42, 1, .iconst 1, 0, 0, []), (43, 3, .if_icmp .ne 11, 54, 0, []), (46, 1, .aload_n 0, 0, 0, []), (47, 1, .iload_n 1, 0, 0, []), (48, 3, .invokevirtual 302, 242, 0, [1, 1, 0]), (51, 3, .goto 8, 59, 0, []), (54, 1, .aload_n 0, 0, 0, []), (55, 1, .iload_n 1, 0, 0, []), (56, 3, .invokevirtual 305, 244, 0, [1, 1, 0]), (59, 1, .ireturn, 0, 0, [])]
def kd_X10_rankOf : List RI := [(0, 1, .iconst 0, 0, 0, []), (1, 1, .istore_n 3, 0, 0, []), (2, 1, .iconst 0, 0, 0, []), (3, 2, .istore 4, 0, 0, []), (5, 0, .nop, 0, 0, [0, 1, 2, 3, 4]), (5, 2, .iload 4, 0, 0, []), (7, 1, .iload_n 2, 0, 0, []), (8, 3, .if_icmp .ge 265, 273, 0, []), (11, 1, .iload_n 3, 0, 0, []), (12, 1, .iload_n 1, 0, 0, []), (13, 3, .if_icmp .ge 260, 273, 0, []), (16, 1, .iload_n 3, 0, 0, []), (17, 2, .istore 5, 0, 0, []), (19, 0, .nop, 0, 0, [0, 1, 2, 3, 4, 5]), (19, 2, .iload 5, 0, 0, []), (21, 1, .iload_n 1, 0, 0, []), (22, 3, .if_icmp .ge 25, 47, 0, []), (25, 1, .aload_n 0, 0, 0, []), (26, 3, .getfield 47, 10, 28, []), (29, 2, .bipush 24, 0, 0, []), (31, 2, .iload 5, 0, 0, []), (33, 1, .imul, 0, 0, []), (34, 2, .iload 4, 0, 0, []), (36, 1, .iadd, 0, 0, []), (37, 1, .iaload, 0, 1, []), (38, 3, .ifCond .ne 9, 47, 0, []), (41, 3, .iinc 5 1, 0, 0, []), (44, 3, .goto (-25), 19, 0, []), (47, 2, .iload 5, 0, 0, []), (49, 1, .iload_n 1, 0, 0, []), (50, 3, .if_icmp .ne 6, 56, 0, []), (53, 3, .goto 214, 267, 0, []), (56, 1, .iconst 0, 0, 0, []), (57, 2, .istore 6, 0, 0, []), (59, 0, .nop, 0, 0, [0, 1, 2, 3, 4, 5, 6]), (59, 2, .iload 6, 0, 0, []), (61, 1, .iload_n 2, 0, 0, []), (62, 3, .if_icmp .ge 63, 125, 0, []), (65, 1, .aload_n 0, 0, 0, []), (66, 3, .getfield 47, 10, 28, []), (69, 2, .bipush 24, 0, 0, []), (71, 2, .iload 5, 0, 0, []), (73, 1, .imul, 0, 0, []), (74, 2, .iload 6, 0, 0, []), (76, 1, .iadd, 0, 0, []), (77, 1, .iaload, 0, 1, []), (78, 2, .istore 7, 0, 0, []), (80, 1, .aload_n 0, 0, 0, []), (81, 3, .getfield 47, 10, 28, []), (84, 2, .bipush 24, 0, 0, []), (86, 2, .iload 5, 0, 0, []), (88, 1, .imul, 0, 0, []), (89, 2, .iload 6, 0, 0, []), (91, 1, .iadd, 0, 0, []), (92, 1, .aload_n 0, 0, 0, []), (93, 3, .getfield 47, 10, 28, []), (96, 2, .bipush 24, 0, 0, []), (98, 1, .iload_n 3, 0, 0, []), (99, 1, .imul, 0, 0, []), (100, 2, .iload 6, 0, 0, []), (102, 1, .iadd, 0, 0, []), (103, 1, .iaload, 0, 1, []), (104, 1, .iastore, 0, 1, []), (105, 1, .aload_n 0, 0, 0, []), (106, 3, .getfield 47, 10, 28, []), (109, 2, .bipush 24, 0, 0, []), (111, 1, .iload_n 3, 0, 0, []), (112, 1, .imul, 0, 0, []), (113, 2, .iload 6, 0, 0, []), (115, 1, .iadd, 0, 0, []), (116, 2, .iload 7, 0, 0, []), (118, 1, .iastore, 0, 1, []), (119, 3, .iinc 6 1, 0, 0, []), (122, 3, .goto (-63), 59, 0, []), (125, 1, .aload_n 0, 0, 0, []), (126, 1, .aload_n 0, 0, 0, []), (127, 3, .getfield 47, 10, 28, []), (130, 2, .bipush 24, 0, 0, []), (132, 1, .iload_n 3, 0, 0, []), (133, 1, .imul, 0, 0, []), (134, 2, .iload 4, 0, 0, []), (136, 1, .iadd, 0, 0, []), (137, 1, .iaload, 0, 1, []), (138, 3, .invokevirtual 87, 176, 0, [1, 1, 0]), (141, 2, .istore 6, 0, 0, []), (143, 1, .iload_n 3, 0, 0, []), (144, 1, .iconst 1, 0, 0, []), (145, 1, .iadd, 0, 0, []), (146, 2, .istore 7, 0, 0, []), (148, 0, .nop, 0, 0, [0, 1, 2, 3, 4, 6, 7]), (148, 2, .iload 7, 0, 0, []), (150, 1, .iload_n 1, 0, 0, []), (151, 3, .if_icmp .ge 113, 264, 0, []), (154, 1, .aload_n 0, 0, 0, []), (155, 3, .getfield 47, 10, 28, []), (158, 2, .bipush 24, 0, 0, []), (160, 2, .iload 7, 0, 0, []), (162, 1, .imul, 0, 0, []), (163, 2, .iload 4, 0, 0, []), (165, 1, .iadd, 0, 0, []), (166, 1, .iaload, 0, 1, []), (167, 2, .iload 6, 0, 0, []), (169, 1, .imul, 0, 0, []), (170, 1, .aload_n 0, 0, 0, []), (171, 3, .getfield 7, 10, 0, []), (174, 1, .iconst 0, 0, 0, []), (175, 1, .iaload, 0, 1, []), (176, 1, .irem, 0, 0, []), (177, 2, .istore 8, 0, 0, []), (179, 2, .iload 8, 0, 0, []), (181, 3, .ifCond .ne 6, 187, 0, []), (184, 3, .goto 74, 258, 0, []), (187, 1, .iconst 0, 0, 0, []), (188, 2, .istore 9, 0, 0, []), (190, 0, .nop, 0, 0, [0, 1, 2, 3, 4, 6, 7, 8, 9]), (190, 2, .iload 9, 0, 0, []), (192, 1, .iload_n 2, 0, 0, []), (193, 3, .if_icmp .ge 65, 258, 0, []), (196, 1, .aload_n 0, 0, 0, []), (197, 3, .getfield 47, 10, 28, []), (200, 2, .bipush 24, 0, 0, []), (202, 2, .iload 7, 0, 0, []), (204, 1, .imul, 0, 0, []), (205, 2, .iload 9, 0, 0, []), (207, 1, .iadd, 0, 0, []), (208, 1, .aload_n 0, 0, 0, []), (209, 3, .getfield 47, 10, 28, []), (212, 2, .bipush 24, 0, 0, []), (214, 2, .iload 7, 0, 0, []), (216, 1, .imul, 0, 0, []), (217, 2, .iload 9, 0, 0, []), (219, 1, .iadd, 0, 0, []), (220, 1, .iaload, 0, 1, []), (221, 1, .aload_n 0, 0, 0, []), (222, 3, .getfield 7, 10, 0, []), (225, 1, .iconst 0, 0, 0, []), (226, 1, .iaload, 0, 1, []), (227, 2, .iload 8, 0, 0, []), (229, 1, .isub, 0, 0, []), (230, 1, .aload_n 0, 0, 0, []), (231, 3, .getfield 47, 10, 28, []), (234, 2, .bipush 24, 0, 0, []), (236, 1, .iload_n 3, 0, 0, []), (237, 1, .imul, 0, 0, []), (238, 2, .iload 9, 0, 0, []), (240, 1, .iadd, 0, 0, []), (241, 1, .iaload, 0, 1, []), (242, 1, .imul, 0, 0, []), (243, 1, .iadd, 0, 0, []), (244, 1, .aload_n 0, 0, 0, []), (245, 3, .getfield 7, 10, 0, []), (248, 1, .iconst 0, 0, 0, []), (249, 1, .iaload, 0, 1, []), (250, 1, .irem, 0, 0, []), (251, 1, .iastore, 0, 1, []), (252, 3, .iinc 9 1, 0, 0, []), (255, 3, .goto (-65), 190, 0, []), (258, 3, .iinc 7 1, 0, 0, []), (261, 3, .goto (-113), 148, 0, []), (264, 3, .iinc 3 1, 0, 0, []), (267, 3, .iinc 4 1, 0, 0, []), (270, 3, .goto (-265), 5, 0, []), (273, 1, .iload_n 3, 0, 0, []), (274, 1, .ireturn, 0, 0, [])]
def kd_X10_nought : List RI := [(0, 1, .iconst 0, 0, 0, []), (1, 1, .istore_n 3, 0, 0, []), (2, 0, .nop, 0, 0, [0, 1, 2, 3]), (2, 1, .iload_n 3, 0, 0, []), (3, 1, .aload_n 0, 0, 0, []), (4, 3, .getfield 120, 10, 3, []), (7, 3, .if_icmp .ge 60, 67, 0, []), (10, 1, .aload_n 0, 0, 0, []), (11, 1, .iload_n 1, 0, 0, []), (12, 1, .iload_n 2, 0, 0, []), (13, 1, .aload_n 0, 0, 0, []), (14, 1, .iload_n 3, 0, 0, []), (15, 3, .invokevirtual 63, 169, 0, [1, 1, 0]), (18, 3, .invokevirtual 287, 235, 0, [3, 1, 0]), (21, 2, .istore 4, 0, 0, []), (23, 1, .iconst 0, 0, 0, []), (24, 2, .istore 5, 0, 0, []), (26, 0, .nop, 0, 0, [0, 1, 2, 3, 4, 5]), (26, 2, .iload 5, 0, 0, []), (28, 1, .aload_n 0, 0, 0, []), (29, 3, .getfield 120, 10, 3, []), (32, 3, .if_icmp .ge 29, 61, 0, []), (35, 1, .aload_n 0, 0, 0, []), (36, 3, .getfield 47, 10, 28, []), (39, 2, .bipush 24, 0, 0, []), (41, 2, .iload 5, 0, 0, []), (43, 1, .imul, 0, 0, []), (44, 1, .iload_n 3, 0, 0, []), (45, 1, .iadd, 0, 0, []), (46, 1, .aload_n 0, 0, 0, []), (47, 2, .iload 4, 0, 0, []), (49, 2, .iload 5, 0, 0, []), (51, 3, .invokevirtual 84, 171, 0, [2, 1, 0]), (54, 1, .iastore, 0, 1, []), (55, 3, .iinc 5 1, 0, 0, []), (58, 3, .goto (-32), 26, 0, []), (61, 3, .iinc 3 1, 0, 0, []), (64, 3, .goto (-62), 2, 0, []), (67, 1, .aload_n 0, 0, 0, []), (68, 3, .getfield 120, 10, 3, []), (71, 1, .aload_n 0, 0, 0, []), (72, 1, .aload_n 0, 0, 0, []), (73, 3, .getfield 120, 10, 3, []), (76, 1, .aload_n 0, 0, 0, []), (77, 3, .getfield 120, 10, 3, []), (80, 3, .invokevirtual 308, 246, 0, [2, 1, 0]), (83, 1, .isub, 0, 0, []), (84, 1, .ireturn, 0, 0, [])]
def kd_X10_findParts : List RI := [(0, 1, .iconst 0, 0, 0, []), (1, 1, .istore_n 2, 0, 0, []), (2, 0, .nop, 0, 0, [0, 1, 2]), (2, 1, .iload_n 2, 0, 0, []), (3, 2, .bipush 8, 0, 0, []), (5, 3, .if_icmp .ge 16, 21, 0, []), (8, 1, .aload_n 0, 0, 0, []), (9, 3, .getfield 53, 10, 30, []), (12, 1, .iload_n 2, 0, 0, []), (13, 1, .iconst 1, 0, 0, []), (14, 1, .iastore, 0, 1, []), (15, 3, .iinc 2 1, 0, 0, []), (18, 3, .goto (-16), 2, 0, []), (21, 1, .aload_n 0, 0, 0, []), (22, 1, .iload_n 1, 0, 0, []), (23, 3, .invokevirtual 305, 244, 0, [1, 1, 0]), (26, 1, .istore_n 2, 0, 0, []), (27, 0, .nop, 0, 0, [0, 1, 2]), (27, 1, .aload_n 0, 0, 0, []), (28, 1, .iload_n 2, 0, 0, []), (29, 3, .invokevirtual 67, 170, 0, [1, 1, 0]), (32, 3, .ifCond .le 147, 179, 0, []), (35, 1, .aload_n 0, 0, 0, []), (36, 1, .iload_n 2, 0, 0, []), (37, 3, .invokevirtual 100, 182, 0, [1, 1, 0]), (40, 1, .istore_n 3, 0, 0, []), (41, 0, .nop, 0, 0, [0, 1, 2, 3]), (41, 1, .aload_n 0, 0, 0, []), (42, 1, .iload_n 2, 0, 0, []), (43, 3, .invokevirtual 67, 170, 0, [1, 1, 0]), (46, 3, .ifCond .le 22, 68, 0, []), (49, 1, .aload_n 0, 0, 0, []), (50, 1, .iload_n 2, 0, 0, []), (51, 1, .iload_n 3, 0, 0, []), (52, 3, .invokevirtual 94, 178, 0, [2, 1, 0]), (55, 3, .ifCond .ne 13, 68, 0, []), (58, 1, .aload_n 0, 0, 0, []), (59, 1, .iload_n 2, 0, 0, []), (60, 1, .iload_n 3, 0, 0, []), (61, 3, .invokevirtual 114, 179, 0, [2, 1, 0]), (64, 1, .istore_n 2, 0, 0, []), (65, 3, .goto (-24), 41, 0, []), (68, 1, .aload_n 0, 0, 0, []), (69, 1, .iload_n 3, 0, 0, []), (70, 3, .invokevirtual 67, 170, 0, [1, 1, 0]), (73, 2, .istore 4, 0, 0, []), (75, 1, .iload_n 3, 0, 0, []), (76, 2, .istore 5, 0, 0, []), (78, 1, .iconst 0, 0, 0, []), (79, 2, .istore 6, 0, 0, []), (81, 1, .aload_n 0, 0, 0, []), (82, 1, .iload_n 1, 0, 0, []), (83, 2, .iload 5, 0, 0, []), (85, 3, .invokevirtual 311, 247, 0, [2, 1, 0]), (88, 2, .iload 4, 0, 0, []), (90, 1, .idiv, 0, 0, []), (91, 2, .istore 7, 0, 0, []), (93, 0, .nop, 0, 0, [0, 1, 2, 3, 4, 5, 6, 7]), (93, 2, .iload 7, 0, 0, []), (95, 2, .iload 6, 0, 0, []), (97, 3, .if_icmp .le 79, 176, 0, []), (100, 1, .iconst 0, 0, 0, []), (101, 2, .istore 8, 0, 0, []), (103, 0, .nop, 0, 0, [0, 1, 2, 3, 4, 5, 6, 7, 8]), (103, 2, .iload 8, 0, 0, []), (105, 2, .iload 7, 0, 0, []), (107, 2, .iload 6, 0, 0, []), (109, 1, .isub, 0, 0, []), (110, 3, .if_icmp .ge 28, 138, 0, []), (113, 1, .aload_n 0, 0, 0, []), (114, 3, .getfield 53, 10, 30, []), (117, 2, .iload 8, 0, 0, []), (119, 1, .aload_n 0, 0, 0, []), (120, 1, .aload_n 0, 0, 0, []), (121, 3, .getfield 53, 10, 30, []), (124, 2, .iload 8, 0, 0, []), (126, 1, .iaload, 0, 1, []), (127, 1, .iload_n 3, 0, 0, []), (128, 3, .invokevirtual 111, 175, 0, [2, 1, 0]), (131, 1, .iastore, 0, 1, []), (132, 3, .iinc 8 1, 0, 0, []), (135, 3, .goto (-32), 103, 0, []), (138, 2, .iload 7, 0, 0, []), (140, 2, .istore 6, 0, 0, []), (142, 1, .aload_n 0, 0, 0, []), (143, 2, .iload 5, 0, 0, []), (145, 1, .iload_n 3, 0, 0, []), (146, 3, .invokevirtual 111, 175, 0, [2, 1, 0]), (149, 2, .istore 5, 0, 0, []), (151, 2, .iload 5, 0, 0, []), (153, 3, .ifCond .ge 8, 161, 0, []), (156, 2, .iload 6, 0, 0, []), (158, 3, .goto 13, 171, 0, []), (161, 1, .aload_n 0, 0, 0, []), (162, 1, .iload_n 1, 0, 0, []), (163, 2, .iload 5, 0, 0, []), (165, 3, .invokevirtual 311, 247, 0, [2, 1, 0]), (168, 2, .iload 4, 0, 0, []), (170, 1, .idiv, 0, 0, []), (171, 2, .istore 7, 0, 0, []), (173, 3, .goto (-80), 93, 0, []), (176, 3, .goto (-149), 27, 0, []), (179, 1, .return_, 0, 0, [])]
def kd_X10_parts : List RI := [(0, 1, .aload_n 0, 0, 0, []), (1, 1, .iload_n 1, 0, 0, []), (2, 3, .invokevirtual 275, 201, 0, [1, 1, 0]), (5, 3, .ifCond .eq 8, 13, 0, []), (8, 1, .iload_n 2, 0, 0, []), (9, 1, .iconst (-1), 0, 0, []), (10, 3, .if_icmp .ge 5, 15, 0, []), (13, 1, .iconst (-1), 0, 0, []), (14, 1, .ireturn, 0, 0, []), (15, 1, .aload_n 0, 0, 0, []), (16, 1, .iload_n 1, 0, 0, []), (17, 3, .invokevirtual 314, 248, 0, [1, 0, 0]), (20, 1, .iconst 0, 0, 0, []), (21, 1, .istore_n 3, 0, 0, []), (22, 0, .nop, 0, 0, [0, 2, 3]), (22, 1, .iload_n 3, 0, 0, []), (23, 2, .bipush 8, 0, 0, []), (25, 3, .if_icmp .ge 19, 44, 0, []), (28, 1, .aload_n 0, 0, 0, []), (29, 3, .getfield 53, 10, 30, []), (32, 1, .iload_n 3, 0, 0, []), (33, 1, .iaload, 0, 1, []), (34, 1, .iconst 1, 0, 0, []), (35, 3, .if_icmp .le 9, 44, 0, []), (38, 3, .iinc 3 1, 0, 0, []), (41, 3, .goto (-19), 22, 0, []), (44, 1, .iload_n 2, 0, 0, []), (45, 1, .iconst (-1), 0, 0, []), (46, 3, .if_icmp .ne 7, 53, 0, []), (49, 1, .iload_n 3, 0, 0, []), (50, 3, .goto 18, 68, 0, []), (53, 1, .iload_n 2, 0, 0, []), (54, 1, .iload_n 3, 0, 0, []), (55, 3, .if_icmp .ge 12, 67, 0, []), (58, 1, .aload_n 0, 0, 0, []), (59, 3, .getfield 53, 10, 30, []), (62, 1, .iload_n 2, 0, 0, []), (63, 1, .iaload, 0, 1, []), (64, 3, .goto 4, 68, 0, []), (67, 1, .iconst (-1), 0, 0, []), (68, 1, .ireturn, 0, 0, [])]
def kd_X10_norm : List RI := [(0, 1, .aload_n 0, 0, 0, []), (1, 1, .aload_n 0, 0, 0, []), (2, 3, .getfield 7, 10, 0, []), (5, 2, .bipush 10, 0, 0, []), (7, 1, .iconst 4, 0, 0, []), (8, 1, .iload_n 1, 0, 0, []), (9, 1, .imul, 0, 0, []), (10, 1, .iadd, 0, 0, []), (11, 1, .iaload, 0, 1, []), (12, 3, .invokevirtual 296, 241, 0, [1, 1, 0]), (15, 1, .istore_n 2, 0, 0, []), (16, 1, .iconst 1, 0, 0, []), (17, 1, .istore_n 3, 0, 0, []), (18, 1, .iconst 0, 0, 0, []), (19, 2, .istore 4, 0, 0, []), (21, 0, .nop, 0, 0, [0, 1, 2, 3, 4]), (21, 2, .iload 4, 0, 0, []), (23, 1, .aload_n 0, 0, 0, []), (24, 3, .getfield 120, 10, 3, []), (27, 1, .aload_n 0, 0, 0, []), (28, 1, .iload_n 2, 0, 0, []), (29, 3, .invokevirtual 67, 170, 0, [1, 1, 0]), (32, 1, .idiv, 0, 0, []), (33, 3, .if_icmp .ge 16, 49, 0, []), (36, 1, .aload_n 0, 0, 0, []), (37, 1, .iload_n 3, 0, 0, []), (38, 1, .iload_n 2, 0, 0, []), (39, 3, .invokevirtual 111, 175, 0, [2, 1, 0]), (42, 1, .istore_n 3, 0, 0, []), (43, 3, .iinc 4 1, 0, 0, []), (46, 3, .goto (-25), 21, 0, []), (49, 1, .iconst 1, 0, 0, []), (50, 2, .istore 4, 0, 0, []), (52, 1, .iconst 0, 0, 0, []), (53, 2, .istore 5, 0, 0, []), (55, 0, .nop, 0, 0, [0, 1, 3, 4, 5]), (55, 2, .iload 5, 0, 0, []), (57, 1, .aload_n 0, 0, 0, []), (58, 3, .getfield 120, 10, 3, []), (61, 3, .if_icmp .ge 36, 97, 0, []), (64, 1, .aload_n 0, 0, 0, []), (65, 2, .iload 4, 0, 0, []), (67, 1, .aload_n 0, 0, 0, []), (68, 1, .aload_n 0, 0, 0, []), (69, 3, .getfield 7, 10, 0, []), (72, 2, .bipush 10, 0, 0, []), (74, 1, .iconst 4, 0, 0, []), (75, 1, .iload_n 1, 0, 0, []), (76, 1, .imul, 0, 0, []), (77, 1, .iadd, 0, 0, []), (78, 1, .iconst 2, 0, 0, []), (79, 1, .iadd, 0, 0, []), (80, 1, .iaload, 0, 1, []), (81, 2, .iload 5, 0, 0, []), (83, 3, .invokevirtual 142, 190, 0, [2, 1, 0]), (86, 3, .invokevirtual 132, 188, 0, [2, 1, 0]), (89, 2, .istore 4, 0, 0, []), (91, 3, .iinc 5 1, 0, 0, []), (94, 3, .goto (-39), 55, 0, []), (97, 1, .aload_n 0, 0, 0, []), (98, 3, .getfield 120, 10, 3, []), (101, 1, .iconst 2, 0, 0, []), (102, 1, .irem, 0, 0, []), (103, 3, .ifCond .ne 12, 115, 0, []), (106, 1, .aload_n 0, 0, 0, []), (107, 2, .iload 4, 0, 0, []), (109, 3, .invokevirtual 87, 176, 0, [1, 1, 0]), (112, 3, .goto 23, 135, 0, []), (115, 1, .aload_n 0, 0, 0, []), (116, 3, .getfield 7, 10, 0, []), (119, 1, .iconst 0, 0, 0, []), (120, 1, .iaload, 0, 1, []), (121, 1, .aload_n 0, 0, 0, []), (122, 2, .iload 4, 0, 0, []), (124, 3, .invokevirtual 87, 176, 0, [1, 1, 0]), (127, 1, .isub, 0, 0, []), (128, 1, .aload_n 0, 0, 0, []), (129, 3, .getfield 7, 10, 0, []), (132, 1, .iconst 0, 0, 0, []), (133, 1, .iaload, 0, 1, []), (134, 1, .irem, 0, 0, []), (135, 2, .istore 5, 0, 0, []), (137, 1, .aload_n 0, 0, 0, []), (138, 1, .iconst 0, 0, 0, []), (139, 1, .iload_n 3, 0, 0, []), (140, 2, .iload 5, 0, 0, []), (142, 3, .invokevirtual 74, 173, 0, [3, 1, 0]), (145, 1, .ireturn, 0, 0, [])]
def kd_X10_trace : List RI := [(0, 1, .aload_n 0, 0, 0, []), (1, 1, .iload_n 1, 0, 0, []), (2, 1, .aload_n 0, 0, 0, []), (3, 1, .iload_n 1, 0, 0, []), (4, 3, .invokevirtual 317, 250, 0, [1, 1, 0]), (7, 1, .iconst 1, 0, 0, []), (8, 3, .invokevirtual 290, 237, 0, [3, 1, 0]), (11, 1, .istore_n 2, 0, 0, []), (12, 1, .aload_n 0, 0, 0, []), (13, 3, .getfield 28, 10, 8, []), (16, 2, .bipush 25, 0, 0, []), (18, 1, .iconst 2, 0, 0, []), (19, 1, .aload_n 0, 0, 0, []), (20, 3, .getfield 120, 10, 3, []), (23, 1, .imul, 0, 0, []), (24, 1, .iadd, 0, 0, []), (25, 1, .aload_n 0, 0, 0, []), (26, 1, .aload_n 0, 0, 0, []), (27, 3, .getfield 28, 10, 8, []), (30, 2, .bipush 25, 0, 0, []), (32, 1, .iconst 2, 0, 0, []), (33, 1, .aload_n 0, 0, 0, []), (34, 3, .getfield 120, 10, 3, []), (37, 1, .imul, 0, 0, []), (38, 1, .iadd, 0, 0, []), (39, 1, .iaload, 0, 1, []), (40, 1, .iconst 1, 0, 0, []), (41, 1, .iconst 1, 0, 0, []), (42, 3, .invokevirtual 74, 173, 0, [3, 1, 0]), (45, 1, .iastore, 0, 1, []), (46, 1, .aload_n 0, 0, 0, []), (47, 1, .iconst 4, 0, 0, []), (48, 3, .invokevirtual 135, 192, 0, [1, 0, 0]), (51, 1, .aload_n 0, 0, 0, []), (52, 3, .getfield 120, 10, 3, []), (55, 1, .istore_n 3, 0, 0, []), (56, 0, .nop, 0, 0, [0, 1, 3]), (56, 1, .iload_n 3, 0, 0, []), (57, 2, .bipush 25, 0, 0, []), (59, 3, .if_icmp .ge 32, 91, 0, []), (62, 1, .aload_n 0, 0, 0, []), (63, 3, .getfield 28, 10, 8, []), (66, 2, .bipush 100, 0, 0, []), (68, 1, .iload_n 3, 0, 0, []), (69, 1, .iadd, 0, 0, []), (70, 1, .aload_n 0, 0, 0, []), (71, 3, .getfield 120, 10, 3, []), (74, 1, .isub, 0, 0, []), (75, 1, .aload_n 0, 0, 0, []), (76, 3, .getfield 28, 10, 8, []), (79, 2, .bipush 25, 0, 0, []), (81, 1, .iload_n 3, 0, 0, []), (82, 1, .iadd, 0, 0, []), (83, 1, .iaload, 0, 1, []), (84, 1, .iastore, 0, 1, []), (85, 3, .iinc 3 1, 0, 0, []), (88, 3, .goto (-32), 56, 0, []), (91, 1, .iconst 0, 0, 0, []), (92, 1, .istore_n 3, 0, 0, []), (93, 0, .nop, 0, 0, [0, 1, 3]), (93, 1, .aload_n 0, 0, 0, []), (94, 1, .iconst 4, 0, 0, []), (95, 3, .invokevirtual 139, 194, 0, [1, 1, 0]), (98, 3, .ifCond .lt 92, 190, 0, []), (101, 1, .aload_n 0, 0, 0, []), (102, 1, .iconst 4, 0, 0, []), (103, 3, .invokevirtual 139, 194, 0, [1, 1, 0]), (106, 1, .iconst 2, 0, 0, []), (107, 1, .idiv, 0, 0, []), (108, 2, .istore 4, 0, 0, []), (110, 1, .aload_n 0, 0, 0, []), (111, 1, .iload_n 1, 0, 0, []), (112, 1, .aload_n 0, 0, 0, []), (113, 2, .iload 4, 0, 0, []), (115, 3, .invokevirtual 63, 169, 0, [1, 1, 0]), (118, 1, .iconst 5, 0, 0, []), (119, 3, .invokevirtual 290, 237, 0, [3, 1, 0]), (122, 1, .istore_n 2, 0, 0, []), (123, 1, .aload_n 0, 0, 0, []), (124, 1, .aload_n 0, 0, 0, []), (125, 3, .getfield 28, 10, 8, []), (128, 2, .bipush 100, 0, 0, []), (130, 1, .iconst 2, 0, 0, []), (131, 2, .iload 4, 0, 0, []), (133, 1, .imul, 0, 0, []), (134, 1, .iadd, 0, 0, []), (135, 1, .iaload, 0, 1, []), (136, 1, .aload_n 0, 0, 0, []), (137, 3, .getfield 22, 10, 6, []), (140, 1, .aload_n 0, 0, 0, []), (141, 3, .getfield 28, 10, 8, []), (144, 2, .bipush 125, 0, 0, []), (146, 1, .iconst 2, 0, 0, []), (147, 2, .iload 4, 0, 0, []), (149, 1, .imul, 0, 0, []), (150, 1, .iadd, 0, 0, []), (151, 1, .iaload, 0, 1, []), (152, 1, .iaload, 0, 1, []), (153, 3, .invokevirtual 132, 188, 0, [2, 1, 0]), (156, 2, .istore 5, 0, 0, []), (158, 1, .aload_n 0, 0, 0, []), (159, 1, .iload_n 3, 0, 0, []), (160, 1, .aload_n 0, 0, 0, []), (161, 2, .iload 4, 0, 0, []), (163, 3, .invokevirtual 63, 169, 0, [1, 1, 0]), (166, 2, .iload 5, 0, 0, []), (168, 3, .invokevirtual 74, 173, 0, [3, 1, 0]), (171, 1, .istore_n 3, 0, 0, []), (172, 1, .aload_n 0, 0, 0, []), (173, 1, .iconst 4, 0, 0, []), (174, 1, .iconst 5, 0, 0, []), (175, 1, .aload_n 0, 0, 0, []), (176, 3, .getfield 7, 10, 0, []), (179, 1, .iconst 0, 0, 0, []), (180, 1, .iaload, 0, 1, []), (181, 2, .iload 5, 0, 0, []), (183, 1, .isub, 0, 0, []), (184, 3, .invokevirtual 265, 196, 0, [3, 0, 0]), (187, 3, .goto (-94), 93, 0, []), (190, 1, .iload_n 3, 0, 0, []), (191, 1, .ireturn, 0, 0, [])]
def kd_X10_great : List RI := [(0, 1, .aload_n 0, 0, 0, []), (1, 1, .iload_n 1, 0, 0, []), (2, 3, .invokevirtual 275, 201, 0, [1, 1, 0]), (5, 3, .ifCond .eq 44, 49, 0, []), (8, 1, .iload_n 2, 0, 0, []), (9, 1, .iconst 0, 0, 0, []), (10, 1, .iconst 1, 0, 0, []), (11, 3, .invokestatic 107, 168, 0, [3, 1, 0]), (14, 3, .ifCond .eq 35, 49, 0, []), (17, 1, .aload_n 0, 0, 0, []), (18, 3, .getfield 7, 10, 0, []), (21, 2, .bipush 10, 0, 0, []), (23, 1, .iconst 4, 0, 0, []), (24, 1, .iload_n 1, 0, 0, []), (25, 1, .imul, 0, 0, []), (26, 1, .iadd, 0, 0, []), (27, 1, .iconst 2, 0, 0, []), (28, 1, .iadd, 0, 0, []), (29, 1, .iaload, 0, 1, []), (30, 3, .ifCond .eq 19, 49, 0, []), (33, 1, .aload_n 0, 0, 0, []), (34, 3, .getfield 7, 10, 0, []), (37, 2, .bipush 10, 0, 0, []), (39, 1, .iconst 4, 0, 0, []), (40, 1, .iload_n 1, 0, 0, []), (41, 1, .imul, 0, 0, []), (42, 1, .iadd, 0, 0, []), (43, 1, .iconst 3, 0, 0, []), (44, 1, .iadd, 0, 0, []), (45, 1, .iaload, 0, 1, []), (46, 3, .ifCond .le 5, 51, 0, []), (49, 1, .iconst (-1), 0, 0, []), (50, 1, .ireturn, 0, 0, []), (51, 1, .iload_n 2, 0, 0, []), (52, 1, .iconst 1, 0, 0, []), (53, 3, .if_icmp .ne 11, 64, 0, []), (56, 1, .aload_n 0, 0, 0, []), (57, 1, .iload_n 1, 0, 0, []), (58, 3, .invokevirtual 317, 250, 0, [1, 1, 0]), (61, 3, .goto 8, 69, 0, []), (64, 1, .aload_n 0, 0, 0, []), (65, 1, .iload_n 1, 0, 0, []), (66, 3, .invokevirtual 320, 251, 0, [1, 1, 0]), (69, 1, .ireturn, 0, 0, [])]
def kd_X10_leadsTo : List RI := [(0, 1, .aload_n 0, 0, 0, []), (1, 1, .iload_n 1, 0, 0, []), (2, 1, .iconst 2, 0, 0, []), (3, 3, .invokevirtual 278, 200, 0, [2, 0, 0]), (6, 1, .aload_n 0, 0, 0, []), (7, 1, .iload_n 2, 0, 0, []), (8, 1, .iconst 0, 0, 0, []), (9, 3, .invokevirtual 281, 199, 0, [2, 0, 0]), (12, 1, .aload_n 0, 0, 0, []), (13, 1, .iconst 2, 0, 0, []), (14, 1, .iconst 0, 0, 0, []), (15, 1, .iconst 3, 0, 0, []), (16, 3, .invokevirtual 252, 195, 0, [3, 1, 0]), (19, 1, .istore_n 3, 0, 0, []), (20, 1, .aload_n 0, 0, 0, []), (21, 1, .iconst 3, 0, 0, []), (22, 1, .iconst 2, 0, 0, []), (23, 1, .iconst 4, 0, 0, []), (24, 3, .invokevirtual 323, 197, 0, [3, 0, 0]), (27, 1, .aload_n 0, 0, 0, []), (28, 1, .iconst 3, 0, 0, []), (29, 3, .invokevirtual 139, 194, 0, [1, 1, 0]), (32, 3, .ifCond .ge 7, 39, 0, []), (35, 1, .iconst 1, 0, 0, []), (36, 3, .goto 4, 40, 0, []), (39, 1, .iconst 0, 0, 0, []), (40, 1, .ireturn, 0, 0, [])]
def kd_X10_leads : List RI := [(0, 1, .aload_n 0, 0, 0, []), (1, 1, .iload_n 1, 0, 0, []), (2, 3, .invokevirtual 272, 202, 0, [1, 1, 0]), (5, 3, .ifCond .eq 41, 46, 0, []), (8, 1, .aload_n 0, 0, 0, []), (9, 1, .iload_n 2, 0, 0, []), (10, 3, .invokevirtual 275, 201, 0, [1, 1, 0]), (13, 3, .ifCond .eq 33, 46, 0, []), (16, 1, .iload_n 3, 0, 0, []), (17, 1, .iconst 0, 0, 0, []), (18, 1, .iconst 3, 0, 0, []), (19, 3, .invokestatic 107, 168, 0, [3, 1, 0]), (22, 3, .ifCond .eq 24, 46, 0, []), (25, 1, .aload_n 0, 0, 0, []), (26, 1, .iload_n 1, 0, 0, []), (27, 1, .iload_n 2, 0, 0, []), (28, 3, .invokevirtual 326, 253, 0, [2, 1, 0]), (31, 3, .ifCond .eq 15, 46, 0, []), (34, 1, .aload_n 0, 0, 0, []), (35, 3, .getfield 28, 10, 8, []), (38, 2, .bipush 100, 0, 0, []), (40, 1, .iload_n 3, 0, 0, []), (41, 1, .iadd, 0, 0, []), (42, 1, .iaload, 0, 1, []), (43, 3, .goto 4, 47, 0, []), (46, 1, .iconst (-1), 0, 0, []), (47, 1, .ireturn, 0, 0, [])]
def kd_X10_dual : List RI := [(0, 1, .aload_n 0, 0, 0, []), (1, 1, .iload_n 1, 0, 0, []), (2, 3, .invokevirtual 272, 202, 0, [1, 1, 0]), (5, 3, .ifCond .eq 30, 35, 0, []), (8, 1, .aload_n 0, 0, 0, []), (9, 1, .iload_n 2, 0, 0, []), (10, 3, .invokevirtual 275, 201, 0, [1, 1, 0]), (13, 3, .ifCond .eq 22, 35, 0, []), (16, 1, .iload_n 3, 0, 0, []), (17, 1, .iconst (-1), 0, 0, []), (18, 2, .bipush 24, 0, 0, []), (20, 3, .invokestatic 107, 168, 0, [3, 1, 0]), (23, 3, .ifCond .eq 12, 35, 0, []), (26, 1, .aload_n 0, 0, 0, []), (27, 1, .iload_n 1, 0, 0, []), (28, 1, .iload_n 2, 0, 0, []), (29, 3, .invokevirtual 326, 253, 0, [2, 1, 0]), (32, 3, .ifCond .ne 5, 37, 0, []), (35, 1, .iconst (-1), 0, 0, []), (36, 1, .ireturn, 0, 0, []), (37, 1, .iconst 1, 0, 0, []), (38, 2, .istore 4, 0, 0, []), (40, 1, .iconst 0, 0, 0, []), (41, 2, .istore 5, 0, 0, []), (43, 0, .nop, 0, 0, [0, 1, 2, 3, 4, 5]), (43, 2, .iload 5, 0, 0, []), (45, 1, .iconst 5, 0, 0, []), (46, 3, .if_icmp .ge 93, 139, 0, []), (49, 2, .iload 4, 0, 0, []), (51, 2, .istore 6, 0, 0, []), (53, 0, .nop, 0, 0, [0, 1, 2, 3, 4, 5, 6]), (53, 2, .iload 6, 0, 0, []), (55, 1, .iconst 2, 0, 0, []), (56, 2, .iload 4, 0, 0, []), (58, 1, .imul, 0, 0, []), (59, 3, .if_icmp .ge 63, 122, 0, []), (62, 1, .aload_n 0, 0, 0, []), (63, 1, .iload_n 2, 0, 0, []), (64, 2, .iload 6, 0, 0, []), (66, 1, .iconst 1, 0, 0, []), (67, 3, .invokevirtual 290, 237, 0, [3, 1, 0]), (70, 3, .ifCond .ne 5, 75, 0, []), (73, 1, .iconst (-1), 0, 0, []), (74, 1, .ireturn, 0, 0, []), (75, 1, .aload_n 0, 0, 0, []), (76, 1, .iload_n 1, 0, 0, []), (77, 1, .iconst 2, 0, 0, []), (78, 3, .invokevirtual 278, 200, 0, [2, 0, 0]), (81, 1, .aload_n 0, 0, 0, []), (82, 1, .iconst 1, 0, 0, []), (83, 1, .iconst 2, 0, 0, []), (84, 1, .iconst 4, 0, 0, []), (85, 3, .invokevirtual 323, 197, 0, [3, 0, 0]), (88, 1, .aload_n 0, 0, 0, []), (89, 1, .iconst 1, 0, 0, []), (90, 3, .invokevirtual 139, 194, 0, [1, 1, 0]), (93, 3, .ifCond .ge 23, 116, 0, []), (96, 1, .iload_n 3, 0, 0, []), (97, 1, .iconst (-1), 0, 0, []), (98, 3, .if_icmp .ne 8, 106, 0, []), (101, 2, .iload 6, 0, 0, []), (103, 3, .goto 12, 115, 0, []), (106, 1, .aload_n 0, 0, 0, []), (107, 3, .getfield 28, 10, 8, []), (110, 2, .bipush 100, 0, 0, []), (112, 1, .iload_n 3, 0, 0, []), (113, 1, .iadd, 0, 0, []), (114, 1, .iaload, 0, 1, []), (115, 1, .ireturn, 0, 0, []), (116, 3, .iinc 6 1, 0, 0, []), (119, 3, .goto (-66), 53, 0, []), (122, 2, .iload 4, 0, 0, []), (124, 1, .aload_n 0, 0, 0, []), (125, 3, .getfield 7, 10, 0, []), (128, 1, .iconst 0, 0, 0, []), (129, 1, .iaload, 0, 1, []), (130, 1, .imul, 0, 0, []), (131, 2, .istore 4, 0, 0, []), (133, 3, .iinc 5 1, 0, 0, []), (136, 3, .goto (-93), 43, 0, []), (139, 1, .iconst (-1), 0, 0, []), (140, 1, .ireturn, 0, 0, [])]
def kd_X10_made : List RI := [(0, 1, .aload_n 0, 0, 0, []), (1, 1, .iload_n 1, 0, 0, []), (2, 3, .invokevirtual 275, 201, 0, [1, 1, 0]), (5, 3, .ifCond .eq 22, 27, 0, []), (8, 1, .aload_n 0, 0, 0, []), (9, 1, .iload_n 2, 0, 0, []), (10, 3, .invokevirtual 129, 187, 0, [1, 1, 0]), (13, 3, .ifCond .eq 14, 27, 0, []), (16, 1, .aload_n 0, 0, 0, []), (17, 3, .getfield 7, 10, 0, []), (20, 1, .iconst 3, 0, 0, []), (21, 1, .iaload, 0, 1, []), (22, 2, .bipush 10, 0, 0, []), (24, 3, .if_icmp .ne 5, 29, 0, []), (27, 1, .iconst (-1), 0, 0, []), (28, 1, .ireturn, 0, 0, []), (29, 1, .aload_n 0, 0, 0, []), (30, 1, .iconst 2, 0, 0, []), (31, 3, .invokevirtual 135, 192, 0, [1, 0, 0]), (34, 1, .aload_n 0, 0, 0, []), (35, 3, .getfield 28, 10, 8, []), (38, 2, .bipush 50, 0, 0, []), (40, 1, .iconst 1, 0, 0, []), (41, 1, .iastore, 0, 1, []), (42, 1, .iload_n 2, 0, 0, []), (43, 1, .istore_n 3, 0, 0, []), (44, 1, .aload_n 0, 0, 0, []), (45, 1, .iconst 2, 0, 0, []), (46, 1, .iload_n 3, 0, 0, []), (47, 3, .invokevirtual 293, 198, 0, [2, 1, 0]), (50, 2, .istore 4, 0, 0, []), (52, 0, .nop, 0, 0, [0, 1, 3, 4]), (52, 2, .iload 4, 0, 0, []), (54, 3, .ifCond .eq 95, 149, 0, []), (57, 1, .aload_n 0, 0, 0, []), (58, 1, .iconst 5, 0, 0, []), (59, 3, .invokevirtual 135, 192, 0, [1, 0, 0]), (62, 1, .iconst 1, 0, 0, []), (63, 2, .istore 5, 0, 0, []), (65, 1, .iconst 1, 0, 0, []), (66, 2, .istore 6, 0, 0, []), (68, 0, .nop, 0, 0, [0, 1, 3, 4, 5, 6]), (68, 2, .iload 6, 0, 0, []), (70, 1, .aload_n 0, 0, 0, []), (71, 3, .getfield 7, 10, 0, []), (74, 1, .iconst 0, 0, 0, []), (75, 1, .iaload, 0, 1, []), (76, 3, .if_icmp .ge 19, 95, 0, []), (79, 1, .aload_n 0, 0, 0, []), (80, 2, .iload 5, 0, 0, []), (82, 2, .iload 4, 0, 0, []), (84, 3, .invokevirtual 132, 188, 0, [2, 1, 0]), (87, 2, .istore 5, 0, 0, []), (89, 3, .iinc 6 1, 0, 0, []), (92, 3, .goto (-24), 68, 0, []), (95, 1, .aload_n 0, 0, 0, []), (96, 3, .getfield 28, 10, 8, []), (99, 2, .bipush 125, 0, 0, []), (101, 1, .aload_n 0, 0, 0, []), (102, 2, .iload 5, 0, 0, []), (104, 3, .invokevirtual 258, 189, 0, [1, 1, 0]), (107, 1, .iastore, 0, 1, []), (108, 1, .aload_n 0, 0, 0, []), (109, 3, .getfield 28, 10, 8, []), (112, 2, .bipush 126, 0, 0, []), (114, 1, .iconst 1, 0, 0, []), (115, 1, .iastore, 0, 1, []), (116, 1, .aload_n 0, 0, 0, []), (117, 1, .iconst 5, 0, 0, []), (118, 1, .iconst 2, 0, 0, []), (119, 1, .iconst 3, 0, 0, []), (120, 3, .invokevirtual 252, 195, 0, [3, 1, 0]), (123, 2, .istore 6, 0, 0, []), (125, 1, .aload_n 0, 0, 0, []), (126, 1, .iconst 3, 0, 0, []), (127, 1, .iconst 2, 0, 0, []), (128, 3, .invokevirtual 255, 193, 0, [2, 0, 0]), (131, 1, .aload_n 0, 0, 0, []), (132, 1, .iload_n 1, 0, 0, []), (133, 1, .iload_n 3, 0, 0, []), (134, 3, .invokevirtual 284, 234, 0, [2, 1, 0]), (137, 1, .istore_n 3, 0, 0, []), (138, 1, .aload_n 0, 0, 0, []), (139, 1, .iconst 2, 0, 0, []), (140, 1, .iload_n 3, 0, 0, []), (141, 3, .invokevirtual 293, 198, 0, [2, 1, 0]), (144, 2, .istore 4, 0, 0, []), (146, 3, .goto (-94), 52, 0, []), (149, 1, .aload_n 0, 0, 0, []), (150, 1, .iconst 2, 0, 0, []), (151, 3, .invokevirtual 151, 205, 0, [1, 1, 0]), (154, 1, .ireturn, 0, 0, [])]
def kd_X10_ends : List RI := [(0, 1, .aload_n 0, 0, 0, []), (1, 1, .iload_n 1, 0, 0, []), (2, 3, .invokevirtual 275, 201, 0, [1, 1, 0]), (5, 3, .ifCond .eq 12, 17, 0, []), (8, 1, .iload_n 2, 0, 0, []), (9, 1, .iconst 0, 0, 0, []), (10, 1, .iconst 2, 0, 0, []), (11, 3, .invokestatic 107, 168, 0, [3, 1, 0]), (14, 3, .ifCond .ne 5, 19, 0, []), (17, 1, .iconst (-1), 0, 0, []), (18, 1, .ireturn, 0, 0, []), (19, 1, .aload_n 0, 0, 0, []), (20, 1, .iload_n 1, 0, 0, []), (21, 1, .iconst 0, 0, 0, []), (22, 3, .invokevirtual 281, 199, 0, [2, 0, 0]), (25, 1, .iload_n 2, 0, 0, []), (26, 1, .iconst 1, 0, 0, []), (27, 1, .iadd, 0, 0, []), (28, 1, .aload_n 0, 0, 0, []), (29, 3, .getfield 120, 10, 3, []), (32, 1, .imul, 0, 0, []), (33, 1, .istore_n 3, 0, 0, []), (34, 1, .iload_n 2, 0, 0, []), (35, 1, .iconst 4, 0, 0, []), (36, 1, .iadd, 0, 0, []), (37, 1, .aload_n 0, 0, 0, []), (38, 3, .getfield 120, 10, 3, []), (41, 1, .imul, 0, 0, []), (42, 2, .istore 4, 0, 0, []), (44, 1, .iconst 0, 0, 0, []), (45, 2, .istore 5, 0, 0, []), (47, 0, .nop, 0, 0, [0, 3, 4, 5]), (47, 2, .iload 5, 0, 0, []), (49, 1, .iload_n 3, 0, 0, []), (50, 3, .if_icmp .ge 136, 186, 0, []), (53, 1, .aload_n 0, 0, 0, []), (54, 1, .iconst 2, 0, 0, []), (55, 3, .invokevirtual 135, 192, 0, [1, 0, 0]), (58, 1, .aload_n 0, 0, 0, []), (59, 3, .getfield 28, 10, 8, []), (62, 2, .bipush 50, 0, 0, []), (64, 2, .iload 5, 0, 0, []), (66, 1, .aload_n 0, 0, 0, []), (67, 3, .getfield 120, 10, 3, []), (70, 1, .idiv, 0, 0, []), (71, 1, .iadd, 0, 0, []), (72, 1, .aload_n 0, 0, 0, []), (73, 2, .iload 5, 0, 0, []), (75, 1, .aload_n 0, 0, 0, []), (76, 3, .getfield 120, 10, 3, []), (79, 1, .irem, 0, 0, []), (80, 3, .invokevirtual 63, 169, 0, [1, 1, 0]), (83, 1, .iastore, 0, 1, []), (84, 1, .aload_n 0, 0, 0, []), (85, 1, .iconst 2, 0, 0, []), (86, 1, .iconst 0, 0, 0, []), (87, 1, .iconst 3, 0, 0, []), (88, 3, .invokevirtual 252, 195, 0, [3, 1, 0]), (91, 3, .ifCond .eq 17, 108, 0, []), (94, 1, .aload_n 0, 0, 0, []), (95, 1, .iconst 0, 0, 0, []), (96, 1, .iconst 2, 0, 0, []), (97, 1, .iconst 5, 0, 0, []), (98, 3, .invokevirtual 252, 195, 0, [3, 1, 0]), (101, 3, .ifCond .eq 7, 108, 0, []), (104, 1, .iconst 1, 0, 0, []), (105, 3, .goto 4, 109, 0, []), (108, 1, .iconst 0, 0, 0, []), (109, 2, .istore 6, 0, 0, []), (111, 1, .aload_n 0, 0, 0, []), (112, 1, .iconst 3, 0, 0, []), (113, 1, .iconst 5, 0, 0, []), (114, 1, .aload_n 0, 0, 0, []), (115, 3, .getfield 7, 10, 0, []), (118, 1, .iconst 0, 0, 0, []), (119, 1, .iaload, 0, 1, []), (120, 1, .iconst 1, 0, 0, []), (121, 1, .isub, 0, 0, []), (122, 3, .invokevirtual 265, 196, 0, [3, 0, 0]), (125, 1, .iconst 0, 0, 0, []), (126, 2, .istore 7, 0, 0, []), (128, 0, .nop, 0, 0, [0, 3, 4, 5, 7]), (128, 2, .iload 7, 0, 0, []), (130, 2, .iload 4, 0, 0, []), (132, 3, .if_icmp .ge 48, 180, 0, []), (135, 1, .aload_n 0, 0, 0, []), (136, 3, .getfield 47, 10, 28, []), (139, 2, .bipush 24, 0, 0, []), (141, 2, .iload 7, 0, 0, []), (143, 1, .imul, 0, 0, []), (144, 2, .iload 5, 0, 0, []), (146, 1, .iadd, 0, 0, []), (147, 1, .aload_n 0, 0, 0, []), (148, 1, .aload_n 0, 0, 0, []), (149, 3, .getfield 28, 10, 8, []), (152, 2, .bipush 75, 0, 0, []), (154, 2, .iload 7, 0, 0, []), (156, 1, .aload_n 0, 0, 0, []), (157, 3, .getfield 120, 10, 3, []), (160, 1, .idiv, 0, 0, []), (161, 1, .iadd, 0, 0, []), (162, 1, .iaload, 0, 1, []), (163, 2, .iload 7, 0, 0, []), (165, 1, .aload_n 0, 0, 0, []), (166, 3, .getfield 120, 10, 3, []), (169, 1, .irem, 0, 0, []), (170, 3, .invokevirtual 84, 171, 0, [2, 1, 0]), (173, 1, .iastore, 0, 1, []), (174, 3, .iinc 7 1, 0, 0, []), (177, 3, .goto (-49), 128, 0, []), (180, 3, .iinc 5 1, 0, 0, []), (183, 3, .goto (-136), 47, 0, []), (186, 1, .aload_n 0, 0, 0, []), (187, 1, .iload_n 3, 0, 0, []), (188, 1, .aload_n 0, 0, 0, []), (189, 2, .iload 4, 0, 0, []), (191, 1, .iload_n 3, 0, 0, []), (192, 3, .invokevirtual 308, 246, 0, [2, 1, 0]), (195, 1, .isub, 0, 0, []), (196, 3, .invokevirtual 63, 169, 0, [1, 1, 0]), (199, 1, .ireturn, 0, 0, [])]
def kd_X10_alike : List RI := [(0, 1, .aload_n 0, 0, 0, []), (1, 1, .iload_n 1, 0, 0, []), (2, 3, .invokevirtual 275, 201, 0, [1, 1, 0]), (5, 3, .ifCond .eq 11, 16, 0, []), (8, 1, .aload_n 0, 0, 0, []), (9, 1, .iload_n 2, 0, 0, []), (10, 3, .invokevirtual 275, 201, 0, [1, 1, 0]), (13, 3, .ifCond .ne 5, 18, 0, []), (16, 1, .iconst (-1), 0, 0, []), (17, 1, .ireturn, 0, 0, []), (18, 1, .iconst 1, 0, 0, []), (19, 1, .istore_n 3, 0, 0, []), (20, 0, .nop, 0, 0, [0, 1, 2, 3]), (20, 1, .iload_n 3, 0, 0, []), (21, 1, .aload_n 0, 0, 0, []), (22, 3, .getfield 123, 10, 4, []), (25, 3, .if_icmp .ge 93, 118, 0, []), (28, 1, .iconst 1, 0, 0, []), (29, 2, .istore 4, 0, 0, []), (31, 1, .iconst 0, 0, 0, []), (32, 2, .istore 5, 0, 0, []), (34, 0, .nop, 0, 0, [0, 1, 2, 3, 4, 5]), (34, 2, .iload 5, 0, 0, []), (36, 1, .iconst 4, 0, 0, []), (37, 3, .if_icmp .ge 68, 105, 0, []), (40, 2, .iload 4, 0, 0, []), (42, 3, .ifCond .eq 54, 96, 0, []), (45, 1, .aload_n 0, 0, 0, []), (46, 1, .iload_n 3, 0, 0, []), (47, 1, .aload_n 0, 0, 0, []), (48, 3, .getfield 7, 10, 0, []), (51, 2, .bipush 10, 0, 0, []), (53, 1, .iconst 4, 0, 0, []), (54, 1, .iload_n 1, 0, 0, []), (55, 1, .imul, 0, 0, []), (56, 1, .iadd, 0, 0, []), (57, 2, .iload 5, 0, 0, []), (59, 1, .iadd, 0, 0, []), (60, 1, .iaload, 0, 1, []), (61, 3, .invokevirtual 132, 188, 0, [2, 1, 0]), (64, 1, .aload_n 0, 0, 0, []), (65, 1, .aload_n 0, 0, 0, []), (66, 3, .getfield 7, 10, 0, []), (69, 2, .bipush 10, 0, 0, []), (71, 1, .iconst 4, 0, 0, []), (72, 1, .iload_n 2, 0, 0, []), (73, 1, .imul, 0, 0, []), (74, 1, .iadd, 0, 0, []), (75, 2, .iload 5, 0, 0, []), (77, 1, .iadd, 0, 0, []), (78, 1, .iaload, 0, 1, []), (79, 1, .aload_n 0, 0, 0, []), (80, 1, .iload_n 3, 0, 0, []), (81, 2, .iload 5, 0, 0, []), (83, 3, .invokevirtual 142, 190, 0, [2, 1, 0]), (86, 3, .invokevirtual 132, 188, 0, [2, 1, 0]), (89, 3, .if_icmp .ne 7, 96, 0, []), (92, 1, .iconst 1, 0, 0, []), (93, 3, .goto 4, 97, 0, []), (96, 1, .iconst 0, 0, 0, []), (97, 2, .istore 4, 0, 0, []), (99, 3, .iinc 5 1, 0, 0, []), (102, 3, .goto (-68), 34, 0, []), (105, 2, .iload 4, 0, 0, []), (107, 3, .ifCond .eq 5, 112, 0, []), (110, 1, .iload_n 3, 0, 0, []), (111, 1, .ireturn, 0, 0, []), (112, 3, .iinc 3 1, 0, 0, []), (115, 3, .goto (-95), 20, 0, []), (118, 1, .iconst (-1), 0, 0, []), (119, 1, .ireturn, 0, 0, [])]
def kd_X10_classes : List RI := [(0, 1, .aload_n 0, 0, 0, []), (1, 1, .iload_n 1, 0, 0, []), (2, 3, .invokevirtual 129, 187, 0, [1, 1, 0]), (5, 3, .ifCond .eq 12, 17, 0, []), (8, 1, .iload_n 2, 0, 0, []), (9, 1, .iconst 1, 0, 0, []), (10, 1, .iconst 3, 0, 0, []), (11, 3, .invokestatic 107, 168, 0, [3, 1, 0]), (14, 3, .ifCond .ne 5, 19, 0, []), (17, 1, .iconst (-1), 0, 0, []), (18, 1, .ireturn, 0, 0, []), (19, 1, .iconst 0, 0, 0, []), (20, 1, .istore_n 3, 0, 0, []), (21, 1, .iconst 1, 0, 0, []), (22, 2, .istore 4, 0, 0, []), (24, 0, .nop, 0, 0, [0, 2, 3, 4]), (24, 2, .iload 4, 0, 0, []), (26, 1, .aload_n 0, 0, 0, []), (27, 3, .getfield 123, 10, 4, []), (30, 3, .if_icmp .ge 94, 124, 0, []), (33, 1, .iconst 1, 0, 0, []), (34, 2, .istore 5, 0, 0, []), (36, 1, .iconst 1, 0, 0, []), (37, 2, .istore 6, 0, 0, []), (39, 0, .nop, 0, 0, [0, 2, 3, 4, 5, 6]), (39, 2, .iload 6, 0, 0, []), (41, 1, .iload_n 2, 0, 0, []), (42, 3, .if_icmp .gt 71, 113, 0, []), (45, 1, .aload_n 0, 0, 0, []), (46, 2, .iload 4, 0, 0, []), (48, 2, .iload 6, 0, 0, []), (50, 3, .invokevirtual 142, 190, 0, [2, 1, 0]), (53, 2, .iload 4, 0, 0, []), (55, 3, .if_icmp .ne 7, 62, 0, []), (58, 1, .iconst 1, 0, 0, []), (59, 3, .goto 4, 63, 0, []), (62, 1, .iconst 0, 0, 0, []), (63, 2, .istore 7, 0, 0, []), (65, 2, .iload 5, 0, 0, []), (67, 2, .iload 6, 0, 0, []), (69, 1, .iload_n 2, 0, 0, []), (70, 3, .if_icmp .ne 21, 91, 0, []), (73, 2, .iload 7, 0, 0, []), (75, 3, .ifCond .eq 12, 87, 0, []), (78, 1, .aload_n 0, 0, 0, []), (79, 3, .getfield 123, 10, 4, []), (82, 1, .iconst 1, 0, 0, []), (83, 1, .isub, 0, 0, []), (84, 3, .goto 20, 104, 0, []), (87, 1, .iconst 0, 0, 0, []), (88, 3, .goto 16, 104, 0, []), (91, 2, .iload 7, 0, 0, []), (93, 3, .ifCond .eq 10, 103, 0, []), (96, 1, .aload_n 0, 0, 0, []), (97, 3, .getfield 123, 10, 4, []), (100, 3, .goto 4, 104, 0, []), (103, 1, .iconst 1, 0, 0, []), (104, 1, .imul, 0, 0, []), (105, 2, .istore 5, 0, 0, []), (107, 3, .iinc 6 1, 0, 0, []), (110, 3, .goto (-71), 39, 0, []), (113, 1, .iload_n 3, 0, 0, []), (114, 2, .iload 5, 0, 0, []), (116, 1, .iadd, 0, 0, []), (117, 1, .istore_n 3, 0, 0, []), (118, 3, .iinc 4 1, 0, 0, []), (121, 3, .goto (-97), 24, 0, []), (124, 1, .iload_n 3, 0, 0, []), (125, 1, .aload_n 0, 0, 0, []), (126, 3, .getfield 123, 10, 4, []), (129, 1, .iconst 1, 0, 0, []), (130, 1, .isub, 0, 0, []), (131, 1, .idiv, 0, 0, []), (132, 1, .ireturn, 0, 0, [])]
def kd_X10_stays : List RI := [(0, 1, .iconst 0, 0, 0, []), (1, 1, .istore_n 3, 0, 0, []), (2, 1, .iconst 1, 0, 0, []), (3, 2, .istore 4, 0, 0, []), (5, 0, .nop, 0, 0, [0, 1, 2, 3, 4]), (5, 2, .iload 4, 0, 0, []), (7, 1, .aload_n 0, 0, 0, []), (8, 3, .getfield 123, 10, 4, []), (11, 3, .if_icmp .ge 49, 60, 0, []), (14, 1, .iload_n 3, 0, 0, []), (15, 1, .iload_n 1, 0, 0, []), (16, 3, .ifCond .eq 15, 31, 0, []), (19, 1, .aload_n 0, 0, 0, []), (20, 2, .iload 4, 0, 0, []), (22, 1, .iconst 1, 0, 0, []), (23, 3, .invokevirtual 142, 190, 0, [2, 1, 0]), (26, 2, .iload 4, 0, 0, []), (28, 3, .if_icmp .ne 23, 51, 0, []), (31, 1, .iload_n 2, 0, 0, []), (32, 3, .ifCond .eq 15, 47, 0, []), (35, 1, .aload_n 0, 0, 0, []), (36, 2, .iload 4, 0, 0, []), (38, 1, .iconst 2, 0, 0, []), (39, 3, .invokevirtual 142, 190, 0, [2, 1, 0]), (42, 2, .iload 4, 0, 0, []), (44, 3, .if_icmp .ne 7, 51, 0, []), (47, 1, .iconst 1, 0, 0, []), (48, 3, .goto 4, 52, 0, []), (51, 1, .iconst 0, 0, 0, []), (52, 1, .iadd, 0, 0, []), (53, 1, .istore_n 3, 0, 0, []), (54, 3, .iinc 4 1, 0, 0, []), (57, 3, .goto (-52), 5, 0, []), (60, 1, .iload_n 3, 0, 0, []), (61, 1, .ireturn, 0, 0, [])]
def kd_X10_greatest : List RI := [(0, 1, .aload_n 0, 0, 0, []), (1, 1, .iload_n 1, 0, 0, []), (2, 3, .invokevirtual 129, 187, 0, [1, 1, 0]), (5, 3, .ifCond .ne 5, 10, 0, []), (8, 1, .iconst (-1), 0, 0, []), (9, 1, .ireturn, 0, 0, []), (10, 2, .bipush 46, 0, 0, []), (12, 1, .istore_n 2, 0, 0, []), (13, 1, .aload_n 0, 0, 0, []), (14, 3, .getfield 7, 10, 0, []), (17, 1, .iload_n 2, 0, 0, []), (18, 1, .iaload, 0, 1, []), (19, 1, .istore_n 3, 0, 0, []), (20, 1, .aload_n 0, 0, 0, []), (21, 3, .getfield 7, 10, 0, []), (24, 1, .iload_n 2, 0, 0, []), (25, 1, .iconst 1, 0, 0, []), (26, 1, .iadd, 0, 0, []), (27, 1, .iaload, 0, 1, []), (28, 2, .istore 4, 0, 0, []), (30, 1, .aload_n 0, 0, 0, []), (31, 3, .getfield 7, 10, 0, []), (34, 1, .iload_n 2, 0, 0, []), (35, 1, .iconst 2, 0, 0, []), (36, 1, .iadd, 0, 0, []), (37, 1, .iaload, 0, 1, []), (38, 2, .istore 5, 0, 0, []), (40, 1, .aload_n 0, 0, 0, []), (41, 3, .getfield 7, 10, 0, []), (44, 1, .iload_n 2, 0, 0, []), (45, 1, .iconst 3, 0, 0, []), (46, 1, .iadd, 0, 0, []), (47, 1, .iaload, 0, 1, []), (48, 2, .istore 6, 0, 0, []), (50, 1, .aload_n 0, 0, 0, []), (51, 3, .getfield 7, 10, 0, []), (54, 1, .iload_n 2, 0, 0, []), (55, 1, .iload_n 1, 0, 0, []), (56, 1, .iastore, 0, 1, []), (57, 1, .aload_n 0, 0, 0, []), (58, 3, .getfield 7, 10, 0, []), (61, 1, .iload_n 2, 0, 0, []), (62, 1, .iconst 3, 0, 0, []), (63, 1, .iadd, 0, 0, []), (64, 1, .iconst 0, 0, 0, []), (65, 1, .iastore, 0, 1, []), (66, 1, .iconst 0, 0, 0, []), (67, 2, .istore 7, 0, 0, []), (69, 1, .iconst 0, 0, 0, []), (70, 2, .istore 8, 0, 0, []), (72, 0, .nop, 0, 0, [0, 2, 3, 4, 5, 6, 7, 8]), (72, 2, .iload 8, 0, 0, []), (74, 1, .aload_n 0, 0, 0, []), (75, 3, .getfield 123, 10, 4, []), (78, 3, .if_icmp .ge 70, 148, 0, []), (81, 1, .iconst 1, 0, 0, []), (82, 2, .istore 9, 0, 0, []), (84, 0, .nop, 0, 0, [0, 2, 3, 4, 5, 6, 7, 8, 9]), (84, 2, .iload 9, 0, 0, []), (86, 1, .aload_n 0, 0, 0, []), (87, 3, .getfield 123, 10, 4, []), (90, 3, .if_icmp .ge 52, 142, 0, []), (93, 1, .aload_n 0, 0, 0, []), (94, 3, .getfield 7, 10, 0, []), (97, 1, .iload_n 2, 0, 0, []), (98, 1, .iconst 1, 0, 0, []), (99, 1, .iadd, 0, 0, []), (100, 2, .iload 8, 0, 0, []), (102, 1, .iastore, 0, 1, []), (103, 1, .aload_n 0, 0, 0, []), (104, 3, .getfield 7, 10, 0, []), (107, 1, .iload_n 2, 0, 0, []), (108, 1, .iconst 2, 0, 0, []), (109, 1, .iadd, 0, 0, []), (110, 2, .iload 9, 0, 0, []), (112, 1, .iastore, 0, 1, []), (113, 1, .aload_n 0, 0, 0, []), (114, 2, .bipush 9, 0, 0, []), (116, 3, .invokevirtual 302, 242, 0, [1, 1, 0]), (119, 1, .iconst 2, 0, 0, []), (120, 3, .if_icmp .ne 16, 136, 0, []), (123, 2, .iload 7, 0, 0, []), (125, 1, .aload_n 0, 0, 0, []), (126, 2, .iload 8, 0, 0, []), (128, 2, .iload 9, 0, 0, []), (130, 3, .invokevirtual 329, 260, 0, [2, 1, 0]), (133, 1, .iadd, 0, 0, []), (134, 2, .istore 7, 0, 0, []), (136, 3, .iinc 9 1, 0, 0, []), (139, 3, .goto (-55), 84, 0, []), (142, 3, .iinc 8 1, 0, 0, []), (145, 3, .goto (-73), 72, 0, []), (148, 1, .aload_n 0, 0, 0, []), (149, 3, .getfield 7, 10, 0, []), (152, 1, .iload_n 2, 0, 0, []), (153, 1, .iload_n 3, 0, 0, []), (154, 1, .iastore, 0, 1, []), (155, 1, .aload_n 0, 0, 0, []), (156, 3, .getfield 7, 10, 0, []), (159, 1, .iload_n 2, 0, 0, []), (160, 1, .iconst 1, 0, 0, []), (161, 1, .iadd, 0, 0, []), (162, 2, .iload 4, 0, 0, []), (164, 1, .iastore, 0, 1, []), (165, 1, .aload_n 0, 0, 0, []), (166, 3, .getfield 7, 10, 0, []), (169, 1, .iload_n 2, 0, 0, []), (170, 1, .iconst 2, 0, 0, []), (171, 1, .iadd, 0, 0, []), (172, 2, .iload 5, 0, 0, []), (174, 1, .iastore, 0, 1, []), (175, 1, .aload_n 0, 0, 0, []), (176, 3, .getfield 7, 10, 0, []), (179, 1, .iload_n 2, 0, 0, []), (180, 1, .iconst 3, 0, 0, []), (181, 1, .iadd, 0, 0, []), (182, 2, .iload 6, 0, 0, []), (184, 1, .iastore, 0, 1, []), (185, 2, .iload 7, 0, 0, []), (187, 1, .aload_n 0, 0, 0, []), (188, 3, .getfield 123, 10, 4, []), (191, 1, .iconst 1, 0, 0, []), (192, 1, .isub, 0, 0, []), (193, 1, .idiv, 0, 0, []), (194, 1, .ireturn, 0, 0, [])]
def kd_X10_sums : List RI := [(0, 1, .iload_n 1, 0, 0, []), (1, 1, .iconst 1, 0, 0, []), (2, 2, .bipush 12, 0, 0, []), (4, 3, .invokestatic 107, 168, 0, [3, 1, 0]), (7, 3, .ifCond .eq 20, 27, 0, []), (10, 1, .iload_n 2, 0, 0, []), (11, 1, .iconst 1, 0, 0, []), (12, 1, .iconst 4, 0, 0, []), (13, 3, .invokestatic 107, 168, 0, [3, 1, 0]), (16, 3, .ifCond .eq 11, 27, 0, []), (19, 1, .iload_n 1, 0, 0, []), (20, 1, .iload_n 2, 0, 0, []), (21, 1, .imul, 0, 0, []), (22, 2, .bipush 12, 0, 0, []), (24, 3, .if_icmp .le 5, 29, 0, []), (27, 1, .iconst (-1), 0, 0, []), (28, 1, .ireturn, 0, 0, []), (29, 1, .iconst 0, 0, 0, []), (30, 1, .istore_n 3, 0, 0, []), (31, 1, .aload_n 0, 0, 0, []), (32, 1, .iload_n 2, 0, 0, []), (33, 3, .invokevirtual 63, 169, 0, [1, 1, 0]), (36, 2, .istore 4, 0, 0, []), (38, 0, .nop, 0, 0, [0, 1, 2, 3, 4]), (38, 2, .iload 4, 0, 0, []), (40, 1, .iconst 2, 0, 0, []), (41, 1, .aload_n 0, 0, 0, []), (42, 1, .iload_n 2, 0, 0, []), (43, 3, .invokevirtual 63, 169, 0, [1, 1, 0]), (46, 1, .imul, 0, 0, []), (47, 3, .if_icmp .ge 46, 93, 0, []), (50, 1, .iconst 1, 0, 0, []), (51, 2, .istore 5, 0, 0, []), (53, 1, .iconst 0, 0, 0, []), (54, 2, .istore 6, 0, 0, []), (56, 0, .nop, 0, 0, [0, 1, 2, 3, 4, 5, 6]), (56, 2, .iload 6, 0, 0, []), (58, 1, .iload_n 1, 0, 0, []), (59, 3, .if_icmp .ge 19, 78, 0, []), (62, 1, .aload_n 0, 0, 0, []), (63, 2, .iload 5, 0, 0, []), (65, 2, .iload 4, 0, 0, []), (67, 3, .invokevirtual 111, 175, 0, [2, 1, 0]), (70, 2, .istore 5, 0, 0, []), (72, 3, .iinc 6 1, 0, 0, []), (75, 3, .goto (-19), 56, 0, []), (78, 1, .aload_n 0, 0, 0, []), (79, 1, .iload_n 3, 0, 0, []), (80, 2, .iload 5, 0, 0, []), (82, 1, .iconst 1, 0, 0, []), (83, 3, .invokevirtual 74, 173, 0, [3, 1, 0]), (86, 1, .istore_n 3, 0, 0, []), (87, 3, .iinc 4 1, 0, 0, []), (90, 3, .goto (-52), 38, 0, []), (93, 1, .iload_n 3, 0, 0, []), (94, 1, .ireturn, 0, 0, [])]
def kd_X10_symbolOf : List RI := [(0, 1, .aload_n 0, 0, 0, []), (1, 1, .iload_n 2, 0, 0, []), (2, 3, .invokevirtual 67, 170, 0, [1, 1, 0]), (5, 1, .istore_n 3, 0, 0, []), (6, 1, .aload_n 0, 0, 0, []), (7, 1, .iload_n 3, 0, 0, []), (8, 3, .invokevirtual 63, 169, 0, [1, 1, 0]), (11, 1, .iconst 1, 0, 0, []), (12, 1, .isub, 0, 0, []), (13, 1, .aload_n 0, 0, 0, []), (14, 3, .getfield 7, 10, 0, []), (17, 1, .iconst 0, 0, 0, []), (18, 1, .iaload, 0, 1, []), (19, 1, .iconst 1, 0, 0, []), (20, 1, .isub, 0, 0, []), (21, 1, .idiv, 0, 0, []), (22, 2, .istore 4, 0, 0, []), (24, 1, .aload_n 0, 0, 0, []), (25, 1, .iload_n 1, 0, 0, []), (26, 1, .iload_n 2, 0, 0, []), (27, 3, .invokevirtual 94, 178, 0, [2, 1, 0]), (30, 2, .istore 5, 0, 0, []), (32, 1, .iconst 1, 0, 0, []), (33, 2, .istore 6, 0, 0, []), (35, 0, .nop, 0, 0, [0, 2, 4, 5, 6]), (35, 2, .iload 4, 0, 0, []), (37, 3, .ifCond .le 50, 87, 0, []), (40, 2, .iload 4, 0, 0, []), (42, 1, .iconst 2, 0, 0, []), (43, 1, .irem, 0, 0, []), (44, 1, .iconst 1, 0, 0, []), (45, 3, .if_icmp .ne 18, 63, 0, []), (48, 1, .aload_n 0, 0, 0, []), (49, 1, .aload_n 0, 0, 0, []), (50, 2, .iload 6, 0, 0, []), (52, 2, .iload 5, 0, 0, []), (54, 3, .invokevirtual 111, 175, 0, [2, 1, 0]), (57, 1, .iload_n 2, 0, 0, []), (58, 3, .invokevirtual 94, 178, 0, [2, 1, 0]), (61, 2, .istore 6, 0, 0, []), (63, 1, .aload_n 0, 0, 0, []), (64, 1, .aload_n 0, 0, 0, []), (65, 2, .iload 5, 0, 0, []), (67, 2, .iload 5, 0, 0, []), (69, 3, .invokevirtual 111, 175, 0, [2, 1, 0]), (72, 1, .iload_n 2, 0, 0, []), (73, 3, .invokevirtual 94, 178, 0, [2, 1, 0]), (76, 2, .istore 5, 0, 0, []), (78, 2, .iload 4, 0, 0, []), (80, 1, .iconst 2, 0, 0, []), (81, 1, .idiv, 0, 0, []), (82, 2, .istore 4, 0, 0, []), (84, 3, .goto (-49), 35, 0, []), (87, 2, .iload 6, 0, 0, []), (89, 1, .ireturn, 0, 0, [])]
def kd_X10_symbol : List RI := [(0, 1, .aload_n 0, 0, 0, []), (1, 1, .iload_n 1, 0, 0, []), (2, 3, .invokevirtual 103, 172, 0, [1, 1, 0]), (5, 3, .ifCond .eq 39, 44, 0, []), (8, 1, .aload_n 0, 0, 0, []), (9, 1, .iload_n 2, 0, 0, []), (10, 3, .invokevirtual 103, 172, 0, [1, 1, 0]), (13, 3, .ifCond .eq 31, 44, 0, []), (16, 1, .aload_n 0, 0, 0, []), (17, 1, .iload_n 2, 0, 0, []), (18, 3, .invokevirtual 67, 170, 0, [1, 1, 0]), (21, 1, .iconst 1, 0, 0, []), (22, 2, .bipush 6, 0, 0, []), (24, 3, .invokestatic 107, 168, 0, [3, 1, 0]), (27, 3, .ifCond .eq 17, 44, 0, []), (30, 1, .aload_n 0, 0, 0, []), (31, 1, .iload_n 2, 0, 0, []), (32, 1, .aload_n 0, 0, 0, []), (33, 1, .iload_n 2, 0, 0, []), (34, 3, .invokevirtual 67, 170, 0, [1, 1, 0]), (37, 3, .invokevirtual 84, 171, 0, [2, 1, 0]), (40, 1, .iconst 1, 0, 0, []), (41, 3, .if_icmp .eq 5, 46, 0, []), (44, 1, .iconst (-1), 0, 0, []), (45, 1, .ireturn, 0, 0, []), (46, 1, .iconst 1, 0, 0, []), (47, 1, .istore_n 3, 0, 0, []), (48, 1, .iload_n 2, 0, 0, []), (49, 2, .istore 4, 0, 0, []), (51, 0, .nop, 0, 0, [0, 1, 3, 4]), (51, 1, .aload_n 0, 0, 0, []), (52, 2, .iload 4, 0, 0, []), (54, 3, .invokevirtual 67, 170, 0, [1, 1, 0]), (57, 3, .ifCond .le 41, 98, 0, []), (60, 1, .aload_n 0, 0, 0, []), (61, 2, .iload 4, 0, 0, []), (63, 3, .invokevirtual 100, 182, 0, [1, 1, 0]), (66, 2, .istore 5, 0, 0, []), (68, 1, .iload_n 3, 0, 0, []), (69, 1, .aload_n 0, 0, 0, []), (70, 1, .iload_n 1, 0, 0, []), (71, 2, .iload 5, 0, 0, []), (73, 3, .invokevirtual 332, 263, 0, [2, 1, 0]), (76, 1, .imul, 0, 0, []), (77, 1, .aload_n 0, 0, 0, []), (78, 3, .getfield 7, 10, 0, []), (81, 1, .iconst 0, 0, 0, []), (82, 1, .iaload, 0, 1, []), (83, 1, .irem, 0, 0, []), (84, 1, .istore_n 3, 0, 0, []), (85, 1, .aload_n 0, 0, 0, []), (86, 2, .iload 4, 0, 0, []), (88, 2, .iload 5, 0, 0, []), (90, 3, .invokevirtual 114, 179, 0, [2, 1, 0]), (93, 2, .istore 4, 0, 0, []), (95, 3, .goto (-44), 51, 0, []), (98, 1, .iload_n 3, 0, 0, []), (99, 1, .ireturn, 0, 0, [])]
def kd_X10_factors : List RI := [(0, 1, .aload_n 0, 0, 0, []), (1, 1, .iload_n 1, 0, 0, []), (2, 3, .invokevirtual 103, 172, 0, [1, 1, 0]), (5, 3, .ifCond .eq 12, 17, 0, []), (8, 1, .iload_n 1, 0, 0, []), (9, 3, .ifCond .eq 8, 17, 0, []), (12, 1, .iload_n 2, 0, 0, []), (13, 1, .iconst (-1), 0, 0, []), (14, 3, .if_icmp .ge 5, 19, 0, []), (17, 1, .iconst (-1), 0, 0, []), (18, 1, .ireturn, 0, 0, []), (19, 1, .aload_n 0, 0, 0, []), (20, 1, .iload_n 1, 0, 0, []), (21, 3, .invokevirtual 97, 180, 0, [1, 1, 0]), (24, 1, .istore_n 3, 0, 0, []), (25, 1, .iconst 0, 0, 0, []), (26, 2, .istore 4, 0, 0, []), (28, 0, .nop, 0, 0, [0, 2, 3, 4]), (28, 1, .aload_n 0, 0, 0, []), (29, 1, .iload_n 3, 0, 0, []), (30, 3, .invokevirtual 67, 170, 0, [1, 1, 0]), (33, 3, .ifCond .le 33, 66, 0, []), (36, 1, .aload_n 0, 0, 0, []), (37, 1, .iload_n 3, 0, 0, []), (38, 3, .invokevirtual 100, 182, 0, [1, 1, 0]), (41, 2, .istore 5, 0, 0, []), (43, 2, .iload 4, 0, 0, []), (45, 1, .iload_n 2, 0, 0, []), (46, 3, .if_icmp .ne 6, 52, 0, []), (49, 2, .iload 5, 0, 0, []), (51, 1, .ireturn, 0, 0, []), (52, 3, .iinc 4 1, 0, 0, []), (55, 1, .aload_n 0, 0, 0, []), (56, 1, .iload_n 3, 0, 0, []), (57, 2, .iload 5, 0, 0, []), (59, 3, .invokevirtual 114, 179, 0, [2, 1, 0]), (62, 1, .istore_n 3, 0, 0, []), (63, 3, .goto (-35), 28, 0, []), (66, 1, .iload_n 2, 0, 0, []), (67, 1, .iconst (-1), 0, 0, []), (68, 3, .if_icmp .ne 8, 76, 0, []), (71, 2, .iload 4, 0, 0, []), (73, 3, .goto 4, 77, 0, []), (76, 1, .iconst (-1), 0, 0, []), (77, 1, .ireturn, 0, 0, [])]
def kd_X10_undo : List RI := [(0, 1, .aload_n 0, 0, 0, []), (1, 3, .getfield 7, 10, 0, []), (4, 1, .iconst 5, 0, 0, []), (5, 1, .iaload, 0, 1, []), (6, 3, .ifCond .ne 5, 11, 0, []), (9, 1, .iconst (-1), 0, 0, []), (10, 1, .ireturn, 0, 0, []), (11, 1, .aload_n 0, 0, 0, []), (12, 3, .getfield 7, 10, 0, []), (15, 1, .iconst 5, 0, 0, []), (16, 1, .dup2, 0, 0, []), (17, 1, .iaload, 0, 1, []), (18, 1, .iconst 1, 0, 0, []), (19, 1, .isub, 0, 0, []), (20, 1, .iastore, 0, 1, []), (21, 1, .aload_n 0, 0, 0, []), (22, 3, .getfield 7, 10, 0, []), (25, 1, .aload_n 0, 0, 0, []), (26, 3, .getfield 7, 10, 0, []), (29, 3, .sipush 130, 0, 0, []), (32, 1, .aload_n 0, 0, 0, []), (33, 3, .getfield 7, 10, 0, []), (36, 1, .iconst 5, 0, 0, []), (37, 1, .iaload, 0, 1, []), (38, 1, .iadd, 0, 0, []), (39, 1, .iaload, 0, 1, []), (40, 3, .ifCond .ne 7, 47, 0, []), (43, 1, .iconst 2, 0, 0, []), (44, 3, .goto 4, 48, 0, []), (47, 1, .iconst 3, 0, 0, []), (48, 1, .dup2, 0, 0, []), (49, 1, .iaload, 0, 1, []), (50, 1, .iconst 1, 0, 0, []), (51, 1, .isub, 0, 0, []), (52, 1, .iastore, 0, 1, []), (53, 1, .aload_n 0, 0, 0, []), (54, 3, .getfield 7, 10, 0, []), (57, 1, .iconst 5, 0, 0, []), (58, 1, .iaload, 0, 1, []), (59, 1, .ireturn, 0, 0, [])]
def kd_X10_redo : List RI := [(0, 1, .aload_n 0, 0, 0, []), (1, 3, .getfield 7, 10, 0, []), (4, 1, .iconst 5, 0, 0, []), (5, 1, .iaload, 0, 1, []), (6, 1, .aload_n 0, 0, 0, []), (7, 3, .getfield 7, 10, 0, []), (10, 2, .bipush 6, 0, 0, []), (12, 1, .iaload, 0, 1, []), (13, 3, .if_icmp .ne 5, 18, 0, []), (16, 1, .iconst (-1), 0, 0, []), (17, 1, .ireturn, 0, 0, []), (18, 1, .aload_n 0, 0, 0, []), (19, 3, .getfield 7, 10, 0, []), (22, 1, .aload_n 0, 0, 0, []), (23, 3, .getfield 7, 10, 0, []), (26, 3, .sipush 130, 0, 0, []), (29, 1, .aload_n 0, 0, 0, []), (30, 3, .getfield 7, 10, 0, []), (33, 1, .iconst 5, 0, 0, []), (34, 1, .iaload, 0, 1, []), (35, 1, .iadd, 0, 0, []), (36, 1, .iaload, 0, 1, []), (37, 3, .ifCond .ne 7, 44, 0, []), (40, 1, .iconst 2, 0, 0, []), (41, 3, .goto 4, 45, 0, []), (44, 1, .iconst 3, 0, 0, []), (45, 1, .dup2, 0, 0, []), (46, 1, .iaload, 0, 1, []), (47, 1, .iconst 1, 0, 0, []), (48, 1, .iadd, 0, 0, []), (49, 1, .iastore, 0, 1, []), (50, 1, .aload_n 0, 0, 0, []), (51, 3, .getfield 7, 10, 0, []), (54, 1, .iconst 5, 0, 0, []), (55, 1, .dup2, 0, 0, []), (56, 1, .iaload, 0, 1, []), (57, 1, .iconst 1, 0, 0, []), (58, 1, .iadd, 0, 0, []), (59, 1, .iastore, 0, 1, []), (60, 1, .aload_n 0, 0, 0, []), (61, 3, .getfield 7, 10, 0, []), (64, 1, .iconst 5, 0, 0, []), (65, 1, .iaload, 0, 1, []), (66, 1, .ireturn, 0, 0, [])]
def kd_X10_image : List RI := [(0, 1, .aload_n 0, 0, 0, []), (1, 3, .getfield 7, 10, 0, []), (4, 1, .aload_n 0, 0, 0, []), (5, 3, .getfield 13, 10, 1, []), (8, 3, .invokestatic 59, 167, 0, [2, 0, 0]), (11, 1, .aload_n 0, 0, 0, []), (12, 3, .getfield 7, 10, 0, []), (15, 1, .iconst 5, 0, 0, []), (16, 1, .iaload, 0, 1, []), (17, 1, .ireturn, 0, 0, [])]
def kd_X10_back : List RI := [(0, 1, .aload_n 0, 0, 0, []), (1, 3, .getfield 13, 10, 1, []), (4, 1, .aload_n 0, 0, 0, []), (5, 3, .getfield 7, 10, 0, []), (8, 3, .invokestatic 59, 167, 0, [2, 0, 0]), (11, 1, .aload_n 0, 0, 0, []), (12, 3, .invokevirtual 56, 185, 0, [0, 0, 0]), (15, 1, .aload_n 0, 0, 0, []), (16, 3, .getfield 7, 10, 0, []), (19, 1, .iconst 5, 0, 0, []), (20, 1, .iaload, 0, 1, []), (21, 1, .ireturn, 0, 0, [])]
def kd_X10_count : List RI := [(0, 1, .iload_n 1, 0, 0, []), (1, 55, .tableswitch 127 0 9 #[55, 62, 69, 74, 79, 86, 93, 100, 107, 122], 128, 0, [0, 56, 1, 63, 2, 70, 3, 75, 4, 80, 5, 87, 6, 94, 7, 101, 8, 108, 9, 123]), (56, 1, .aload_n 0, 0, 0, []), (57, 3, .getfield 7, 10, 0, []), (60, 1, .iconst 0, 0, 0, []), (61, 1, .iaload, 0, 1, []), (62, 1, .ireturn, 0, 0, []), (63, 1, .aload_n 0, 0, 0, []), (64, 3, .getfield 7, 10, 0, []), (67, 1, .iconst 1, 0, 0, []), (68, 1, .iaload, 0, 1, []), (69, 1, .ireturn, 0, 0, []), (70, 1, .aload_n 0, 0, 0, []), (71, 3, .getfield 120, 10, 3, []), (74, 1, .ireturn, 0, 0, []), (75, 1, .aload_n 0, 0, 0, []), (76, 3, .getfield 123, 10, 4, []), (79, 1, .ireturn, 0, 0, []), (80, 1, .aload_n 0, 0, 0, []), (81, 3, .getfield 7, 10, 0, []), (84, 1, .iconst 2, 0, 0, []), (85, 1, .iaload, 0, 1, []), (86, 1, .ireturn, 0, 0, []), (87, 1, .aload_n 0, 0, 0, []), (88, 3, .getfield 7, 10, 0, []), (91, 1, .iconst 3, 0, 0, []), (92, 1, .iaload, 0, 1, []), (93, 1, .ireturn, 0, 0, []), (94, 1, .aload_n 0, 0, 0, []), (95, 3, .getfield 7, 10, 0, []), (98, 1, .iconst 4, 0, 0, []), (99, 1, .iaload, 0, 1, []), (100, 1, .ireturn, 0, 0, []), (101, 1, .aload_n 0, 0, 0, []), (102, 3, .getfield 7, 10, 0, []), (105, 1, .iconst 5, 0, 0, []), (106, 1, .iaload, 0, 1, []), (107, 1, .ireturn, 0, 0, []), (108, 1, .aload_n 0, 0, 0, []), (109, 3, .getfield 7, 10, 0, []), (112, 2, .bipush 6, 0, 0, []), (114, 1, .iaload, 0, 1, []), (115, 1, .aload_n 0, 0, 0, []), (116, 3, .getfield 7, 10, 0, []), (119, 1, .iconst 5, 0, 0, []), (120, 1, .iaload, 0, 1, []), (121, 1, .isub, 0, 0, []), (122, 1, .ireturn, 0, 0, []), (123, 1, .aload_n 0, 0, 0, []), (124, 3, .getfield 154, 10, 12, []), (127, 1, .ireturn, 0, 0, []), (128, 2, .bipush (-2), 0, 0, []), (130, 1, .ireturn, 0, 0, [])]
def kd_L_law : List RI := [(0, 3, .new 7, 9, 0, []), (3, 1, .dup, 0, 0, []), (4, 3, .invokespecial 9, 127, 0, [0, 9, 0]), (7, 1, .astore_n 1, 0, 0, []), (8, 3, .new 10, 10, 0, []), (11, 1, .dup, 0, 0, []), (12, 3, .invokespecial 12, 166, 0, [0, 9, 0]), (15, 1, .astore_n 2, 0, 0, []), (16, 1, .iconst 0, 0, 0, []), (17, 1, .istore_n 3, 0, 0, []), (18, 0, .nop, 0, 0, [0, 1, 2, 3]), (18, 1, .iload_n 3, 0, 0, []), (19, 1, .aload_n 0, 0, 0, []), (20, 1, .arraylength, 0, 2, []), (21, 2, .bipush 6, 0, 0, []), (23, 1, .isub, 0, 0, []), (24, 3, .if_icmp .gt 1257, 1281, 0, []), (27, 1, .aload_n 0, 0, 0, []), (28, 1, .iload_n 3, 0, 0, []), (29, 1, .iaload, 0, 2, []), (30, 2, .bipush 63, 0, 0, []), (32, 1, .iand, 0, 0, []), (33, 147, .tableswitch 1242 0 32 #[147, 180, 223, 266, 319, 362, 425, 448, 461, 484, 507, 566, 609, 652, 685, 728, 761, 794, 827, 870, 913, 946, 979, 1012, 1045, 1068, 1101, 1134, 1167, 1180, 1193, 1206, 1219], 1275, 0, [0, 180, 1, 213, 2, 256, 3, 299, 4, 352, 5, 395, 6, 458, 7, 481, 8, 494, 9, 517, 10, 540, 11, 599, 12, 642, 13, 685, 14, 718, 15, 761, 16, 794, 17, 827, 18, 860, 19, 903, 20, 946, 21, 979, 22, 1012, 23, 1045, 24, 1078, 25, 1101, 26, 1134, 27, 1167, 28, 1200, 29, 1213, 30, 1226, 31, 1239, 32, 1252]), (180, 1, .aload_n 1, 0, 0, []), (181, 1, .aload_n 0, 0, 0, []), (182, 1, .iload_n 3, 0, 0, []), (183, 1, .iconst 1, 0, 0, []), (184, 1, .iadd, 0, 0, []), (185, 1, .iaload, 0, 2, []), (186, 1, .aload_n 0, 0, 0, []), (187, 1, .iload_n 3, 0, 0, []), (188, 1, .iconst 2, 0, 0, []), (189, 1, .iadd, 0, 0, []), (190, 1, .iaload, 0, 2, []), (191, 3, .invokevirtual 13, 128, 0, [2, 1, 0]), (194, 1, .aload_n 2, 0, 0, []), (195, 1, .aload_n 0, 0, 0, []), (196, 1, .iload_n 3, 0, 0, []), (197, 1, .iconst 1, 0, 0, []), (198, 1, .iadd, 0, 0, []), (199, 1, .iaload, 0, 2, []), (200, 1, .aload_n 0, 0, 0, []), (201, 1, .iload_n 3, 0, 0, []), (202, 1, .iconst 2, 0, 0, []), (203, 1, .iadd, 0, 0, []), (204, 1, .iaload, 0, 2, []), (205, 3, .invokevirtual 17, 186, 0, [2, 1, 0]), (208, 3, .if_icmp .eq 1067, 1275, 0, []), (211, 1, .iconst 0, 0, 0, []), (212, 1, .ireturn, 0, 0, []), (213, 1, .aload_n 1, 0, 0, []), (214, 1, .aload_n 0, 0, 0, []), (215, 1, .iload_n 3, 0, 0, []), (216, 1, .iconst 1, 0, 0, []), (217, 1, .iadd, 0, 0, []), (218, 1, .iaload, 0, 2, []), (219, 1, .aload_n 0, 0, 0, []), (220, 1, .iload_n 3, 0, 0, []), (221, 1, .iconst 2, 0, 0, []), (222, 1, .iadd, 0, 0, []), (223, 1, .iaload, 0, 2, []), (224, 1, .aload_n 0, 0, 0, []), (225, 1, .iload_n 3, 0, 0, []), (226, 1, .iconst 3, 0, 0, []), (227, 1, .iadd, 0, 0, []), (228, 1, .iaload, 0, 2, []), (229, 3, .invokevirtual 18, 129, 0, [3, 1, 0]), (232, 1, .aload_n 2, 0, 0, []), (233, 1, .aload_n 0, 0, 0, []), (234, 1, .iload_n 3, 0, 0, []), (235, 1, .iconst 1, 0, 0, []), (236, 1, .iadd, 0, 0, []), (237, 1, .iaload, 0, 2, []), (238, 1, .aload_n 0, 0, 0, []), (239, 1, .iload_n 3, 0, 0, []), (240, 1, .iconst 2, 0, 0, []), (241, 1, .iadd, 0, 0, []), (242, 1, .iaload, 0, 2, []), (243, 1, .aload_n 0, 0, 0, []), (244, 1, .iload_n 3, 0, 0, []), (245, 1, .iconst 3, 0, 0, []), (246, 1, .iadd, 0, 0, []), (247, 1, .iaload, 0, 2, []), (248, 3, .invokevirtual 22, 191, 0, [3, 1, 0]), (251, 3, .if_icmp .eq 1024, 1275, 0, []), (254, 1, .iconst 0, 0, 0, []), (255, 1, .ireturn, 0, 0, []), (256, 1, .aload_n 1, 0, 0, []), (257, 1, .aload_n 0, 0, 0, []), (258, 1, .iload_n 3, 0, 0, []), (259, 1, .iconst 1, 0, 0, []), (260, 1, .iadd, 0, 0, []), (261, 1, .iaload, 0, 2, []), (262, 1, .aload_n 0, 0, 0, []), (263, 1, .iload_n 3, 0, 0, []), (264, 1, .iconst 2, 0, 0, []), (265, 1, .iadd, 0, 0, []), (266, 1, .iaload, 0, 2, []), (267, 1, .aload_n 0, 0, 0, []), (268, 1, .iload_n 3, 0, 0, []), (269, 1, .iconst 3, 0, 0, []), (270, 1, .iadd, 0, 0, []), (271, 1, .iaload, 0, 2, []), (272, 3, .invokevirtual 23, 130, 0, [3, 1, 0]), (275, 1, .aload_n 2, 0, 0, []), (276, 1, .aload_n 0, 0, 0, []), (277, 1, .iload_n 3, 0, 0, []), (278, 1, .iconst 1, 0, 0, []), (279, 1, .iadd, 0, 0, []), (280, 1, .iaload, 0, 2, []), (281, 1, .aload_n 0, 0, 0, []), (282, 1, .iload_n 3, 0, 0, []), (283, 1, .iconst 2, 0, 0, []), (284, 1, .iadd, 0, 0, []), (285, 1, .iaload, 0, 2, []), (286, 1, .aload_n 0, 0, 0, []), (287, 1, .iload_n 3, 0, 0, []), (288, 1, .iconst 3, 0, 0, []), (289, 1, .iadd, 0, 0, []), (290, 1, .iaload, 0, 2, []), (291, 3, .invokevirtual 26, 184, 0, [3, 1, 0]), (294, 3, .if_icmp .eq 981, 1275, 0, []), (297, 1, .iconst 0, 0, 0, []), (298, 1, .ireturn, 0, 0, []), (299, 1, .aload_n 1, 0, 0, []), (300, 1, .aload_n 0, 0, 0, []), (301, 1, .iload_n 3, 0, 0, []), (302, 1, .iconst 1, 0, 0, []), (303, 1, .iadd, 0, 0, []), (304, 1, .iaload, 0, 2, []), (305, 1, .aload_n 0, 0, 0, []), (306, 1, .iload_n 3, 0, 0, []), (307, 1, .iconst 2, 0, 0, []), (308, 1, .iadd, 0, 0, []), (309, 1, .iaload, 0, 2, []), (310, 1, .aload_n 0, 0, 0, []), (311, 1, .iload_n 3, 0, 0, []), (312, 1, .iconst 3, 0, 0, []), (313, 1, .iadd, 0, 0, []), (314, 1, .iaload, 0, 2, []), (315, 1, .aload_n 0, 0, 0, []), (316, 1, .iload_n 3, 0, 0, []), (317, 1, .iconst 4, 0, 0, []), (318, 1, .iadd, 0, 0, []), (319, 1, .iaload, 0, 2, []), (320, 3, .invokevirtual 27, 131, 0, [4, 1, 0]), (323, 1, .aload_n 2, 0, 0, []), (324, 1, .aload_n 0, 0, 0, []), (325, 1, .iload_n 3, 0, 0, []), (326, 1, .iconst 1, 0, 0, []), (327, 1, .iadd, 0, 0, []), (328, 1, .iaload, 0, 2, []), (329, 1, .aload_n 0, 0, 0, []), (330, 1, .iload_n 3, 0, 0, []), (331, 1, .iconst 2, 0, 0, []), (332, 1, .iadd, 0, 0, []), (333, 1, .iaload, 0, 2, []), (334, 1, .aload_n 0, 0, 0, []), (335, 1, .iload_n 3, 0, 0, []), (336, 1, .iconst 3, 0, 0, []), (337, 1, .iadd, 0, 0, []), (338, 1, .iaload, 0, 2, []), (339, 1, .aload_n 0, 0, 0, []), (340, 1, .iload_n 3, 0, 0, []), (341, 1, .iconst 4, 0, 0, []), (342, 1, .iadd, 0, 0, []), (343, 1, .iaload, 0, 2, []), (344, 3, .invokevirtual 31, 206, 0, [4, 1, 0]), (347, 3, .if_icmp .eq 928, 1275, 0, []), (350, 1, .iconst 0, 0, 0, []), (351, 1, .ireturn, 0, 0, []), (352, 1, .aload_n 1, 0, 0, []), (353, 1, .aload_n 0, 0, 0, []), (354, 1, .iload_n 3, 0, 0, []), (355, 1, .iconst 1, 0, 0, []), (356, 1, .iadd, 0, 0, []), (357, 1, .iaload, 0, 2, []), (358, 1, .aload_n 0, 0, 0, []), (359, 1, .iload_n 3, 0, 0, []), (360, 1, .iconst 2, 0, 0, []), (361, 1, .iadd, 0, 0, []), (362, 1, .iaload, 0, 2, []), (363, 1, .aload_n 0, 0, 0, []), (364, 1, .iload_n 3, 0, 0, []), (365, 1, .iconst 3, 0, 0, []), (366, 1, .iadd, 0, 0, []), (367, 1, .iaload, 0, 2, []), (368, 3, .invokevirtual 32, 132, 0, [3, 1, 0]), (371, 1, .aload_n 2, 0, 0, []), (372, 1, .aload_n 0, 0, 0, []), (373, 1, .iload_n 3, 0, 0, []), (374, 1, .iconst 1, 0, 0, []), (375, 1, .iadd, 0, 0, []), (376, 1, .iaload, 0, 2, []), (377, 1, .aload_n 0, 0, 0, []), (378, 1, .iload_n 3, 0, 0, []), (379, 1, .iconst 2, 0, 0, []), (380, 1, .iadd, 0, 0, []), (381, 1, .iaload, 0, 2, []), (382, 1, .aload_n 0, 0, 0, []), (383, 1, .iload_n 3, 0, 0, []), (384, 1, .iconst 3, 0, 0, []), (385, 1, .iadd, 0, 0, []), (386, 1, .iaload, 0, 2, []), (387, 3, .invokevirtual 35, 207, 0, [3, 1, 0]), (390, 3, .if_icmp .eq 885, 1275, 0, []), (393, 1, .iconst 0, 0, 0, []), (394, 1, .ireturn, 0, 0, []), (395, 1, .aload_n 1, 0, 0, []), (396, 1, .aload_n 0, 0, 0, []), (397, 1, .iload_n 3, 0, 0, []), (398, 1, .iconst 1, 0, 0, []), (399, 1, .iadd, 0, 0, []), (400, 1, .iaload, 0, 2, []), (401, 1, .aload_n 0, 0, 0, []), (402, 1, .iload_n 3, 0, 0, []), (403, 1, .iconst 2, 0, 0, []), (404, 1, .iadd, 0, 0, []), (405, 1, .iaload, 0, 2, []), (406, 1, .aload_n 0, 0, 0, []), (407, 1, .iload_n 3, 0, 0, []), (408, 1, .iconst 3, 0, 0, []), (409, 1, .iadd, 0, 0, []), (410, 1, .iaload, 0, 2, []), (411, 1, .aload_n 0, 0, 0, []), (412, 1, .iload_n 3, 0, 0, []), (413, 1, .iconst 4, 0, 0, []), (414, 1, .iadd, 0, 0, []), (415, 1, .iaload, 0, 2, []), (416, 1, .aload_n 0, 0, 0, []), (417, 1, .iload_n 3, 0, 0, []), (418, 1, .iconst 5, 0, 0, []), (419, 1, .iadd, 0, 0, []), (420, 1, .iaload, 0, 2, []), (421, 3, .invokevirtual 36, 133, 0, [5, 1, 0]), (424, 1, .aload_n 2, 0, 0, []), (425, 1, .aload_n 0, 0, 0, []), (426, 1, .iload_n 3, 0, 0, []), (427, 1, .iconst 1, 0, 0, []), (428, 1, .iadd, 0, 0, []), (429, 1, .iaload, 0, 2, []), (430, 1, .aload_n 0, 0, 0, []), (431, 1, .iload_n 3, 0, 0, []), (432, 1, .iconst 2, 0, 0, []), (433, 1, .iadd, 0, 0, []), (434, 1, .iaload, 0, 2, []), (435, 1, .aload_n 0, 0, 0, []), (436, 1, .iload_n 3, 0, 0, []), (437, 1, .iconst 3, 0, 0, []), (438, 1, .iadd, 0, 0, []), (439, 1, .iaload, 0, 2, []), (440, 1, .aload_n 0, 0, 0, []), (441, 1, .iload_n 3, 0, 0, []), (442, 1, .iconst 4, 0, 0, []), (443, 1, .iadd, 0, 0, []), (444, 1, .iaload, 0, 2, []), (445, 1, .aload_n 0, 0, 0, []), (446, 1, .iload_n 3, 0, 0, []), (447, 1, .iconst 5, 0, 0, []), (448, 1, .iadd, 0, 0, []), (449, 1, .iaload, 0, 2, []), (450, 3, .invokevirtual 40, 209, 0, [5, 1, 0]), (453, 3, .if_icmp .eq 822, 1275, 0, []), (456, 1, .iconst 0, 0, 0, []), (457, 1, .ireturn, 0, 0, []), (458, 1, .aload_n 1, 0, 0, []), (459, 1, .aload_n 0, 0, 0, []), (460, 1, .iload_n 3, 0, 0, []), (461, 1, .iconst 1, 0, 0, []), (462, 1, .iadd, 0, 0, []), (463, 1, .iaload, 0, 2, []), (464, 3, .invokevirtual 41, 134, 0, [1, 1, 0]), (467, 1, .aload_n 2, 0, 0, []), (468, 1, .aload_n 0, 0, 0, []), (469, 1, .iload_n 3, 0, 0, []), (470, 1, .iconst 1, 0, 0, []), (471, 1, .iadd, 0, 0, []), (472, 1, .iaload, 0, 2, []), (473, 3, .invokevirtual 45, 210, 0, [1, 1, 0]), (476, 3, .if_icmp .eq 799, 1275, 0, []), (479, 1, .iconst 0, 0, 0, []), (480, 1, .ireturn, 0, 0, []), (481, 1, .aload_n 1, 0, 0, []), (482, 3, .invokevirtual 46, 135, 0, [0, 1, 0]), (485, 1, .aload_n 2, 0, 0, []), (486, 3, .invokevirtual 50, 228, 0, [0, 1, 0]), (489, 3, .if_icmp .eq 786, 1275, 0, []), (492, 1, .iconst 0, 0, 0, []), (493, 1, .ireturn, 0, 0, []), (494, 1, .aload_n 1, 0, 0, []), (495, 1, .aload_n 0, 0, 0, []), (496, 1, .iload_n 3, 0, 0, []), (497, 1, .iconst 1, 0, 0, []), (498, 1, .iadd, 0, 0, []), (499, 1, .iaload, 0, 2, []), (500, 3, .invokevirtual 51, 136, 0, [1, 1, 0]), (503, 1, .aload_n 2, 0, 0, []), (504, 1, .aload_n 0, 0, 0, []), (505, 1, .iload_n 3, 0, 0, []), (506, 1, .iconst 1, 0, 0, []), (507, 1, .iadd, 0, 0, []), (508, 1, .iaload, 0, 2, []), (509, 3, .invokevirtual 54, 229, 0, [1, 1, 0]), (512, 3, .if_icmp .eq 763, 1275, 0, []), (515, 1, .iconst 0, 0, 0, []), (516, 1, .ireturn, 0, 0, []), (517, 1, .aload_n 1, 0, 0, []), (518, 1, .aload_n 0, 0, 0, []), (519, 1, .iload_n 3, 0, 0, []), (520, 1, .iconst 1, 0, 0, []), (521, 1, .iadd, 0, 0, []), (522, 1, .iaload, 0, 2, []), (523, 3, .invokevirtual 55, 137, 0, [1, 1, 0]), (526, 1, .aload_n 2, 0, 0, []), (527, 1, .aload_n 0, 0, 0, []), (528, 1, .iload_n 3, 0, 0, []), (529, 1, .iconst 1, 0, 0, []), (530, 1, .iadd, 0, 0, []), (531, 1, .iaload, 0, 2, []), (532, 3, .invokevirtual 58, 232, 0, [1, 1, 0]), (535, 3, .if_icmp .eq 740, 1275, 0, []), (538, 1, .iconst 0, 0, 0, []), (539, 1, .ireturn, 0, 0, []), (540, 1, .aload_n 1, 0, 0, []), (541, 1, .aload_n 0, 0, 0, []), (542, 1, .iload_n 3, 0, 0, []), (543, 1, .iconst 1, 0, 0, []), (544, 1, .iadd, 0, 0, []), (545, 1, .iaload, 0, 2, []), (546, 3, .ifCond .eq 7, 553, 0, []), (549, 1, .iconst 1, 0, 0, []), (550, 3, .goto 4, 554, 0, []), (553, 1, .iconst 0, 0, 0, []), (554, 1, .aload_n 0, 0, 0, []), (555, 1, .iload_n 3, 0, 0, []), (556, 1, .iconst 2, 0, 0, []), (557, 1, .iadd, 0, 0, []), (558, 1, .iaload, 0, 2, []), (559, 1, .aload_n 0, 0, 0, []), (560, 1, .iload_n 3, 0, 0, []), (561, 1, .iconst 3, 0, 0, []), (562, 1, .iadd, 0, 0, []), (563, 1, .iaload, 0, 2, []), (564, 3, .invokevirtual 59, 138, 0, [3, 1, 0]), (567, 1, .aload_n 2, 0, 0, []), (568, 1, .aload_n 0, 0, 0, []), (569, 1, .iload_n 3, 0, 0, []), (570, 1, .iconst 1, 0, 0, []), (571, 1, .iadd, 0, 0, []), (572, 1, .iaload, 0, 2, []), (573, 3, .ifCond .eq 7, 580, 0, []), (576, 1, .iconst 1, 0, 0, []), (577, 3, .goto 4, 581, 0, []), (580, 1, .iconst 0, 0, 0, []), (581, 1, .aload_n 0, 0, 0, []), (582, 1, .iload_n 3, 0, 0, []), (583, 1, .iconst 2, 0, 0, []), (584, 1, .iadd, 0, 0, []), (585, 1, .iaload, 0, 2, []), (586, 1, .aload_n 0, 0, 0, []), (587, 1, .iload_n 3, 0, 0, []), (588, 1, .iconst 3, 0, 0, []), (589, 1, .iadd, 0, 0, []), (590, 1, .iaload, 0, 2, []), (591, 3, .invokevirtual 63, 233, 0, [3, 1, 0]), (594, 3, .if_icmp .eq 681, 1275, 0, []), (597, 1, .iconst 0, 0, 0, []), (598, 1, .ireturn, 0, 0, []), (599, 1, .aload_n 1, 0, 0, []), (600, 1, .aload_n 0, 0, 0, []), (601, 1, .iload_n 3, 0, 0, []), (602, 1, .iconst 1, 0, 0, []), (603, 1, .iadd, 0, 0, []), (604, 1, .iaload, 0, 2, []), (605, 1, .aload_n 0, 0, 0, []), (606, 1, .iload_n 3, 0, 0, []), (607, 1, .iconst 2, 0, 0, []), (608, 1, .iadd, 0, 0, []), (609, 1, .iaload, 0, 2, []), (610, 1, .aload_n 0, 0, 0, []), (611, 1, .iload_n 3, 0, 0, []), (612, 1, .iconst 3, 0, 0, []), (613, 1, .iadd, 0, 0, []), (614, 1, .iaload, 0, 2, []), (615, 3, .invokevirtual 64, 139, 0, [3, 1, 0]), (618, 1, .aload_n 2, 0, 0, []), (619, 1, .aload_n 0, 0, 0, []), (620, 1, .iload_n 3, 0, 0, []), (621, 1, .iconst 1, 0, 0, []), (622, 1, .iadd, 0, 0, []), (623, 1, .iaload, 0, 2, []), (624, 1, .aload_n 0, 0, 0, []), (625, 1, .iload_n 3, 0, 0, []), (626, 1, .iconst 2, 0, 0, []), (627, 1, .iadd, 0, 0, []), (628, 1, .iaload, 0, 2, []), (629, 1, .aload_n 0, 0, 0, []), (630, 1, .iload_n 3, 0, 0, []), (631, 1, .iconst 3, 0, 0, []), (632, 1, .iadd, 0, 0, []), (633, 1, .iaload, 0, 2, []), (634, 3, .invokevirtual 67, 236, 0, [3, 1, 0]), (637, 3, .if_icmp .eq 638, 1275, 0, []), (640, 1, .iconst 0, 0, 0, []), (641, 1, .ireturn, 0, 0, []), (642, 1, .aload_n 1, 0, 0, []), (643, 1, .aload_n 0, 0, 0, []), (644, 1, .iload_n 3, 0, 0, []), (645, 1, .iconst 1, 0, 0, []), (646, 1, .iadd, 0, 0, []), (647, 1, .iaload, 0, 2, []), (648, 1, .aload_n 0, 0, 0, []), (649, 1, .iload_n 3, 0, 0, []), (650, 1, .iconst 2, 0, 0, []), (651, 1, .iadd, 0, 0, []), (652, 1, .iaload, 0, 2, []), (653, 1, .aload_n 0, 0, 0, []), (654, 1, .iload_n 3, 0, 0, []), (655, 1, .iconst 3, 0, 0, []), (656, 1, .iadd, 0, 0, []), (657, 1, .iaload, 0, 2, []), (658, 3, .invokevirtual 68, 140, 0, [3, 1, 0]), (661, 1, .aload_n 2, 0, 0, []), (662, 1, .aload_n 0, 0, 0, []), (663, 1, .iload_n 3, 0, 0, []), (664, 1, .iconst 1, 0, 0, []), (665, 1, .iadd, 0, 0, []), (666, 1, .iaload, 0, 2, []), (667, 1, .aload_n 0, 0, 0, []), (668, 1, .iload_n 3, 0, 0, []), (669, 1, .iconst 2, 0, 0, []), (670, 1, .iadd, 0, 0, []), (671, 1, .iaload, 0, 2, []), (672, 1, .aload_n 0, 0, 0, []), (673, 1, .iload_n 3, 0, 0, []), (674, 1, .iconst 3, 0, 0, []), (675, 1, .iadd, 0, 0, []), (676, 1, .iaload, 0, 2, []), (677, 3, .invokevirtual 71, 238, 0, [3, 1, 0]), (680, 3, .if_icmp .eq 595, 1275, 0, []), (683, 1, .iconst 0, 0, 0, []), (684, 1, .ireturn, 0, 0, []), (685, 1, .aload_n 1, 0, 0, []), (686, 1, .aload_n 0, 0, 0, []), (687, 1, .iload_n 3, 0, 0, []), (688, 1, .iconst 1, 0, 0, []), (689, 1, .iadd, 0, 0, []), (690, 1, .iaload, 0, 2, []), (691, 1, .aload_n 0, 0, 0, []), (692, 1, .iload_n 3, 0, 0, []), (693, 1, .iconst 2, 0, 0, []), (694, 1, .iadd, 0, 0, []), (695, 1, .iaload, 0, 2, []), (696, 3, .invokevirtual 72, 141, 0, [2, 1, 0]), (699, 1, .aload_n 2, 0, 0, []), (700, 1, .aload_n 0, 0, 0, []), (701, 1, .iload_n 3, 0, 0, []), (702, 1, .iconst 1, 0, 0, []), (703, 1, .iadd, 0, 0, []), (704, 1, .iaload, 0, 2, []), (705, 1, .aload_n 0, 0, 0, []), (706, 1, .iload_n 3, 0, 0, []), (707, 1, .iconst 2, 0, 0, []), (708, 1, .iadd, 0, 0, []), (709, 1, .iaload, 0, 2, []), (710, 3, .invokevirtual 75, 239, 0, [2, 1, 0]), (713, 3, .if_icmp .eq 562, 1275, 0, []), (716, 1, .iconst 0, 0, 0, []), (717, 1, .ireturn, 0, 0, []), (718, 1, .aload_n 1, 0, 0, []), (719, 1, .aload_n 0, 0, 0, []), (720, 1, .iload_n 3, 0, 0, []), (721, 1, .iconst 1, 0, 0, []), (722, 1, .iadd, 0, 0, []), (723, 1, .iaload, 0, 2, []), (724, 1, .aload_n 0, 0, 0, []), (725, 1, .iload_n 3, 0, 0, []), (726, 1, .iconst 2, 0, 0, []), (727, 1, .iadd, 0, 0, []), (728, 1, .iaload, 0, 2, []), (729, 1, .aload_n 0, 0, 0, []), (730, 1, .iload_n 3, 0, 0, []), (731, 1, .iconst 3, 0, 0, []), (732, 1, .iadd, 0, 0, []), (733, 1, .iaload, 0, 2, []), (734, 3, .invokevirtual 76, 142, 0, [3, 1, 0]), (737, 1, .aload_n 2, 0, 0, []), (738, 1, .aload_n 0, 0, 0, []), (739, 1, .iload_n 3, 0, 0, []), (740, 1, .iconst 1, 0, 0, []), (741, 1, .iadd, 0, 0, []), (742, 1, .iaload, 0, 2, []), (743, 1, .aload_n 0, 0, 0, []), (744, 1, .iload_n 3, 0, 0, []), (745, 1, .iconst 2, 0, 0, []), (746, 1, .iadd, 0, 0, []), (747, 1, .iaload, 0, 2, []), (748, 1, .aload_n 0, 0, 0, []), (749, 1, .iload_n 3, 0, 0, []), (750, 1, .iconst 3, 0, 0, []), (751, 1, .iadd, 0, 0, []), (752, 1, .iaload, 0, 2, []), (753, 3, .invokevirtual 79, 240, 0, [3, 1, 0]), (756, 3, .if_icmp .eq 519, 1275, 0, []), (759, 1, .iconst 0, 0, 0, []), (760, 1, .ireturn, 0, 0, []), (761, 1, .aload_n 1, 0, 0, []), (762, 1, .aload_n 0, 0, 0, []), (763, 1, .iload_n 3, 0, 0, []), (764, 1, .iconst 1, 0, 0, []), (765, 1, .iadd, 0, 0, []), (766, 1, .iaload, 0, 2, []), (767, 1, .aload_n 0, 0, 0, []), (768, 1, .iload_n 3, 0, 0, []), (769, 1, .iconst 2, 0, 0, []), (770, 1, .iadd, 0, 0, []), (771, 1, .iaload, 0, 2, []), (772, 3, .invokevirtual 80, 143, 0, [2, 1, 0]), (775, 1, .aload_n 2, 0, 0, []), (776, 1, .aload_n 0, 0, 0, []), (777, 1, .iload_n 3, 0, 0, []), (778, 1, .iconst 1, 0, 0, []), (779, 1, .iadd, 0, 0, []), (780, 1, .iaload, 0, 2, []), (781, 1, .aload_n 0, 0, 0, []), (782, 1, .iload_n 3, 0, 0, []), (783, 1, .iconst 2, 0, 0, []), (784, 1, .iadd, 0, 0, []), (785, 1, .iaload, 0, 2, []), (786, 3, .invokevirtual 83, 245, 0, [2, 1, 0]), (789, 3, .if_icmp .eq 486, 1275, 0, []), (792, 1, .iconst 0, 0, 0, []), (793, 1, .ireturn, 0, 0, []), (794, 1, .aload_n 1, 0, 0, []), (795, 1, .aload_n 0, 0, 0, []), (796, 1, .iload_n 3, 0, 0, []), (797, 1, .iconst 1, 0, 0, []), (798, 1, .iadd, 0, 0, []), (799, 1, .iaload, 0, 2, []), (800, 1, .aload_n 0, 0, 0, []), (801, 1, .iload_n 3, 0, 0, []), (802, 1, .iconst 2, 0, 0, []), (803, 1, .iadd, 0, 0, []), (804, 1, .iaload, 0, 2, []), (805, 3, .invokevirtual 84, 144, 0, [2, 1, 0]), (808, 1, .aload_n 2, 0, 0, []), (809, 1, .aload_n 0, 0, 0, []), (810, 1, .iload_n 3, 0, 0, []), (811, 1, .iconst 1, 0, 0, []), (812, 1, .iadd, 0, 0, []), (813, 1, .iaload, 0, 2, []), (814, 1, .aload_n 0, 0, 0, []), (815, 1, .iload_n 3, 0, 0, []), (816, 1, .iconst 2, 0, 0, []), (817, 1, .iadd, 0, 0, []), (818, 1, .iaload, 0, 2, []), (819, 3, .invokevirtual 87, 249, 0, [2, 1, 0]), (822, 3, .if_icmp .eq 453, 1275, 0, []), (825, 1, .iconst 0, 0, 0, []), (826, 1, .ireturn, 0, 0, []), (827, 1, .aload_n 1, 0, 0, []), (828, 1, .aload_n 0, 0, 0, []), (829, 1, .iload_n 3, 0, 0, []), (830, 1, .iconst 1, 0, 0, []), (831, 1, .iadd, 0, 0, []), (832, 1, .iaload, 0, 2, []), (833, 1, .aload_n 0, 0, 0, []), (834, 1, .iload_n 3, 0, 0, []), (835, 1, .iconst 2, 0, 0, []), (836, 1, .iadd, 0, 0, []), (837, 1, .iaload, 0, 2, []), (838, 3, .invokevirtual 88, 145, 0, [2, 1, 0]), (841, 1, .aload_n 2, 0, 0, []), (842, 1, .aload_n 0, 0, 0, []), (843, 1, .iload_n 3, 0, 0, []), (844, 1, .iconst 1, 0, 0, []), (845, 1, .iadd, 0, 0, []), (846, 1, .iaload, 0, 2, []), (847, 1, .aload_n 0, 0, 0, []), (848, 1, .iload_n 3, 0, 0, []), (849, 1, .iconst 2, 0, 0, []), (850, 1, .iadd, 0, 0, []), (851, 1, .iaload, 0, 2, []), (852, 3, .invokevirtual 91, 252, 0, [2, 1, 0]), (855, 3, .if_icmp .eq 420, 1275, 0, []), (858, 1, .iconst 0, 0, 0, []), (859, 1, .ireturn, 0, 0, []), (860, 1, .aload_n 1, 0, 0, []), (861, 1, .aload_n 0, 0, 0, []), (862, 1, .iload_n 3, 0, 0, []), (863, 1, .iconst 1, 0, 0, []), (864, 1, .iadd, 0, 0, []), (865, 1, .iaload, 0, 2, []), (866, 1, .aload_n 0, 0, 0, []), (867, 1, .iload_n 3, 0, 0, []), (868, 1, .iconst 2, 0, 0, []), (869, 1, .iadd, 0, 0, []), (870, 1, .iaload, 0, 2, []), (871, 1, .aload_n 0, 0, 0, []), (872, 1, .iload_n 3, 0, 0, []), (873, 1, .iconst 3, 0, 0, []), (874, 1, .iadd, 0, 0, []), (875, 1, .iaload, 0, 2, []), (876, 3, .invokevirtual 92, 146, 0, [3, 1, 0]), (879, 1, .aload_n 2, 0, 0, []), (880, 1, .aload_n 0, 0, 0, []), (881, 1, .iload_n 3, 0, 0, []), (882, 1, .iconst 1, 0, 0, []), (883, 1, .iadd, 0, 0, []), (884, 1, .iaload, 0, 2, []), (885, 1, .aload_n 0, 0, 0, []), (886, 1, .iload_n 3, 0, 0, []), (887, 1, .iconst 2, 0, 0, []), (888, 1, .iadd, 0, 0, []), (889, 1, .iaload, 0, 2, []), (890, 1, .aload_n 0, 0, 0, []), (891, 1, .iload_n 3, 0, 0, []), (892, 1, .iconst 3, 0, 0, []), (893, 1, .iadd, 0, 0, []), (894, 1, .iaload, 0, 2, []), (895, 3, .invokevirtual 95, 254, 0, [3, 1, 0]), (898, 3, .if_icmp .eq 377, 1275, 0, []), (901, 1, .iconst 0, 0, 0, []), (902, 1, .ireturn, 0, 0, []), (903, 1, .aload_n 1, 0, 0, []), (904, 1, .aload_n 0, 0, 0, []), (905, 1, .iload_n 3, 0, 0, []), (906, 1, .iconst 1, 0, 0, []), (907, 1, .iadd, 0, 0, []), (908, 1, .iaload, 0, 2, []), (909, 1, .aload_n 0, 0, 0, []), (910, 1, .iload_n 3, 0, 0, []), (911, 1, .iconst 2, 0, 0, []), (912, 1, .iadd, 0, 0, []), (913, 1, .iaload, 0, 2, []), (914, 1, .aload_n 0, 0, 0, []), (915, 1, .iload_n 3, 0, 0, []), (916, 1, .iconst 3, 0, 0, []), (917, 1, .iadd, 0, 0, []), (918, 1, .iaload, 0, 2, []), (919, 3, .invokevirtual 96, 147, 0, [3, 1, 0]), (922, 1, .aload_n 2, 0, 0, []), (923, 1, .aload_n 0, 0, 0, []), (924, 1, .iload_n 3, 0, 0, []), (925, 1, .iconst 1, 0, 0, []), (926, 1, .iadd, 0, 0, []), (927, 1, .iaload, 0, 2, []), (928, 1, .aload_n 0, 0, 0, []), (929, 1, .iload_n 3, 0, 0, []), (930, 1, .iconst 2, 0, 0, []), (931, 1, .iadd, 0, 0, []), (932, 1, .iaload, 0, 2, []), (933, 1, .aload_n 0, 0, 0, []), (934, 1, .iload_n 3, 0, 0, []), (935, 1, .iconst 3, 0, 0, []), (936, 1, .iadd, 0, 0, []), (937, 1, .iaload, 0, 2, []), (938, 3, .invokevirtual 99, 255, 0, [3, 1, 0]), (941, 3, .if_icmp .eq 334, 1275, 0, []), (944, 1, .iconst 0, 0, 0, []), (945, 1, .ireturn, 0, 0, []), (946, 1, .aload_n 1, 0, 0, []), (947, 1, .aload_n 0, 0, 0, []), (948, 1, .iload_n 3, 0, 0, []), (949, 1, .iconst 1, 0, 0, []), (950, 1, .iadd, 0, 0, []), (951, 1, .iaload, 0, 2, []), (952, 1, .aload_n 0, 0, 0, []), (953, 1, .iload_n 3, 0, 0, []), (954, 1, .iconst 2, 0, 0, []), (955, 1, .iadd, 0, 0, []), (956, 1, .iaload, 0, 2, []), (957, 3, .invokevirtual 100, 148, 0, [2, 1, 0]), (960, 1, .aload_n 2, 0, 0, []), (961, 1, .aload_n 0, 0, 0, []), (962, 1, .iload_n 3, 0, 0, []), (963, 1, .iconst 1, 0, 0, []), (964, 1, .iadd, 0, 0, []), (965, 1, .iaload, 0, 2, []), (966, 1, .aload_n 0, 0, 0, []), (967, 1, .iload_n 3, 0, 0, []), (968, 1, .iconst 2, 0, 0, []), (969, 1, .iadd, 0, 0, []), (970, 1, .iaload, 0, 2, []), (971, 3, .invokevirtual 103, 256, 0, [2, 1, 0]), (974, 3, .if_icmp .eq 301, 1275, 0, []), (977, 1, .iconst 0, 0, 0, []), (978, 1, .ireturn, 0, 0, []), (979, 1, .aload_n 1, 0, 0, []), (980, 1, .aload_n 0, 0, 0, []), (981, 1, .iload_n 3, 0, 0, []), (982, 1, .iconst 1, 0, 0, []), (983, 1, .iadd, 0, 0, []), (984, 1, .iaload, 0, 2, []), (985, 1, .aload_n 0, 0, 0, []), (986, 1, .iload_n 3, 0, 0, []), (987, 1, .iconst 2, 0, 0, []), (988, 1, .iadd, 0, 0, []), (989, 1, .iaload, 0, 2, []), (990, 3, .invokevirtual 104, 149, 0, [2, 1, 0]), (993, 1, .aload_n 2, 0, 0, []), (994, 1, .aload_n 0, 0, 0, []), (995, 1, .iload_n 3, 0, 0, []), (996, 1, .iconst 1, 0, 0, []), (997, 1, .iadd, 0, 0, []), (998, 1, .iaload, 0, 2, []), (999, 1, .aload_n 0, 0, 0, []), (1000, 1, .iload_n 3, 0, 0, []), (1001, 1, .iconst 2, 0, 0, []), (1002, 1, .iadd, 0, 0, []), (1003, 1, .iaload, 0, 2, []), (1004, 3, .invokevirtual 107, 257, 0, [2, 1, 0]), (1007, 3, .if_icmp .eq 268, 1275, 0, []), (1010, 1, .iconst 0, 0, 0, []), (1011, 1, .ireturn, 0, 0, []), (1012, 1, .aload_n 1, 0, 0, []), (1013, 1, .aload_n 0, 0, 0, []), (1014, 1, .iload_n 3, 0, 0, []), (1015, 1, .iconst 1, 0, 0, []), (1016, 1, .iadd, 0, 0, []), (1017, 1, .iaload, 0, 2, []), (1018, 1, .aload_n 0, 0, 0, []), (1019, 1, .iload_n 3, 0, 0, []), (1020, 1, .iconst 2, 0, 0, []), (1021, 1, .iadd, 0, 0, []), (1022, 1, .iaload, 0, 2, []), (1023, 3, .invokevirtual 108, 150, 0, [2, 1, 0]), (1026, 1, .aload_n 2, 0, 0, []), (1027, 1, .aload_n 0, 0, 0, []), (1028, 1, .iload_n 3, 0, 0, []), (1029, 1, .iconst 1, 0, 0, []), (1030, 1, .iadd, 0, 0, []), (1031, 1, .iaload, 0, 2, []), (1032, 1, .aload_n 0, 0, 0, []), (1033, 1, .iload_n 3, 0, 0, []), (1034, 1, .iconst 2, 0, 0, []), (1035, 1, .iadd, 0, 0, []), (1036, 1, .iaload, 0, 2, []), (1037, 3, .invokevirtual 111, 258, 0, [2, 1, 0]), (1040, 3, .if_icmp .eq 235, 1275, 0, []), (1043, 1, .iconst 0, 0, 0, []), (1044, 1, .ireturn, 0, 0, []), (1045, 1, .aload_n 1, 0, 0, []), (1046, 1, .aload_n 0, 0, 0, []), (1047, 1, .iload_n 3, 0, 0, []), (1048, 1, .iconst 1, 0, 0, []), (1049, 1, .iadd, 0, 0, []), (1050, 1, .iaload, 0, 2, []), (1051, 1, .aload_n 0, 0, 0, []), (1052, 1, .iload_n 3, 0, 0, []), (1053, 1, .iconst 2, 0, 0, []), (1054, 1, .iadd, 0, 0, []), (1055, 1, .iaload, 0, 2, []), (1056, 3, .invokevirtual 112, 151, 0, [2, 1, 0]), (1059, 1, .aload_n 2, 0, 0, []), (1060, 1, .aload_n 0, 0, 0, []), (1061, 1, .iload_n 3, 0, 0, []), (1062, 1, .iconst 1, 0, 0, []), (1063, 1, .iadd, 0, 0, []), (1064, 1, .iaload, 0, 2, []), (1065, 1, .aload_n 0, 0, 0, []), (1066, 1, .iload_n 3, 0, 0, []), (1067, 1, .iconst 2, 0, 0, []), (1068, 1, .iadd, 0, 0, []), (1069, 1, .iaload, 0, 2, []), (1070, 3, .invokevirtual 115, 259, 0, [2, 1, 0]), (1073, 3, .if_icmp .eq 202, 1275, 0, []), (1076, 1, .iconst 0, 0, 0, []), (1077, 1, .ireturn, 0, 0, []), (1078, 1, .aload_n 1, 0, 0, []), (1079, 1, .aload_n 0, 0, 0, []), (1080, 1, .iload_n 3, 0, 0, []), (1081, 1, .iconst 1, 0, 0, []), (1082, 1, .iadd, 0, 0, []), (1083, 1, .iaload, 0, 2, []), (1084, 3, .invokevirtual 116, 152, 0, [1, 1, 0]), (1087, 1, .aload_n 2, 0, 0, []), (1088, 1, .aload_n 0, 0, 0, []), (1089, 1, .iload_n 3, 0, 0, []), (1090, 1, .iconst 1, 0, 0, []), (1091, 1, .iadd, 0, 0, []), (1092, 1, .iaload, 0, 2, []), (1093, 3, .invokevirtual 119, 261, 0, [1, 1, 0]), (1096, 3, .if_icmp .eq 179, 1275, 0, []), (1099, 1, .iconst 0, 0, 0, []), (1100, 1, .ireturn, 0, 0, []), (1101, 1, .aload_n 1, 0, 0, []), (1102, 1, .aload_n 0, 0, 0, []), (1103, 1, .iload_n 3, 0, 0, []), (1104, 1, .iconst 1, 0, 0, []), (1105, 1, .iadd, 0, 0, []), (1106, 1, .iaload, 0, 2, []), (1107, 1, .aload_n 0, 0, 0, []), (1108, 1, .iload_n 3, 0, 0, []), (1109, 1, .iconst 2, 0, 0, []), (1110, 1, .iadd, 0, 0, []), (1111, 1, .iaload, 0, 2, []), (1112, 3, .invokevirtual 120, 153, 0, [2, 1, 0]), (1115, 1, .aload_n 2, 0, 0, []), (1116, 1, .aload_n 0, 0, 0, []), (1117, 1, .iload_n 3, 0, 0, []), (1118, 1, .iconst 1, 0, 0, []), (1119, 1, .iadd, 0, 0, []), (1120, 1, .iaload, 0, 2, []), (1121, 1, .aload_n 0, 0, 0, []), (1122, 1, .iload_n 3, 0, 0, []), (1123, 1, .iconst 2, 0, 0, []), (1124, 1, .iadd, 0, 0, []), (1125, 1, .iaload, 0, 2, []), (1126, 3, .invokevirtual 123, 262, 0, [2, 1, 0]), (1129, 3, .if_icmp .eq 146, 1275, 0, []), (1132, 1, .iconst 0, 0, 0, []), (1133, 1, .ireturn, 0, 0, []), (1134, 1, .aload_n 1, 0, 0, []), (1135, 1, .aload_n 0, 0, 0, []), (1136, 1, .iload_n 3, 0, 0, []), (1137, 1, .iconst 1, 0, 0, []), (1138, 1, .iadd, 0, 0, []), (1139, 1, .iaload, 0, 2, []), (1140, 1, .aload_n 0, 0, 0, []), (1141, 1, .iload_n 3, 0, 0, []), (1142, 1, .iconst 2, 0, 0, []), (1143, 1, .iadd, 0, 0, []), (1144, 1, .iaload, 0, 2, []), (1145, 3, .invokevirtual 124, 154, 0, [2, 1, 0]), (1148, 1, .aload_n 2, 0, 0, []), (1149, 1, .aload_n 0, 0, 0, []), (1150, 1, .iload_n 3, 0, 0, []), (1151, 1, .iconst 1, 0, 0, []), (1152, 1, .iadd, 0, 0, []), (1153, 1, .iaload, 0, 2, []), (1154, 1, .aload_n 0, 0, 0, []), (1155, 1, .iload_n 3, 0, 0, []), (1156, 1, .iconst 2, 0, 0, []), (1157, 1, .iadd, 0, 0, []), (1158, 1, .iaload, 0, 2, []), (1159, 3, .invokevirtual 127, 264, 0, [2, 1, 0]), (1162, 3, .if_icmp .eq 113, 1275, 0, []), (1165, 1, .iconst 0, 0, 0, []), (1166, 1, .ireturn, 0, 0, []), (1167, 1, .aload_n 1, 0, 0, []), (1168, 1, .aload_n 0, 0, 0, []), (1169, 1, .iload_n 3, 0, 0, []), (1170, 1, .iconst 1, 0, 0, []), (1171, 1, .iadd, 0, 0, []), (1172, 1, .iaload, 0, 2, []), (1173, 1, .aload_n 0, 0, 0, []), (1174, 1, .iload_n 3, 0, 0, []), (1175, 1, .iconst 2, 0, 0, []), (1176, 1, .iadd, 0, 0, []), (1177, 1, .iaload, 0, 2, []), (1178, 3, .invokevirtual 128, 155, 0, [2, 1, 0]), (1181, 1, .aload_n 2, 0, 0, []), (1182, 1, .aload_n 0, 0, 0, []), (1183, 1, .iload_n 3, 0, 0, []), (1184, 1, .iconst 1, 0, 0, []), (1185, 1, .iadd, 0, 0, []), (1186, 1, .iaload, 0, 2, []), (1187, 1, .aload_n 0, 0, 0, []), (1188, 1, .iload_n 3, 0, 0, []), (1189, 1, .iconst 2, 0, 0, []), (1190, 1, .iadd, 0, 0, []), (1191, 1, .iaload, 0, 2, []), (1192, 3, .invokevirtual 131, 265, 0, [2, 1, 0]), (1195, 3, .if_icmp .eq 80, 1275, 0, []), (1198, 1, .iconst 0, 0, 0, []), (1199, 1, .ireturn, 0, 0, []), (1200, 1, .aload_n 1, 0, 0, []), (1201, 3, .invokevirtual 132, 156, 0, [0, 1, 0]), (1204, 1, .aload_n 2, 0, 0, []), (1205, 3, .invokevirtual 135, 266, 0, [0, 1, 0]), (1208, 3, .if_icmp .eq 67, 1275, 0, []), (1211, 1, .iconst 0, 0, 0, []), (1212, 1, .ireturn, 0, 0, []), (1213, 1, .aload_n 1, 0, 0, []), (1214, 3, .invokevirtual 136, 157, 0, [0, 1, 0]), (1217, 1, .aload_n 2, 0, 0, []), (1218, 3, .invokevirtual 139, 267, 0, [0, 1, 0]), (1221, 3, .if_icmp .eq 54, 1275, 0, []), (1224, 1, .iconst 0, 0, 0, []), (1225, 1, .ireturn, 0, 0, []), (1226, 1, .aload_n 1, 0, 0, []), (1227, 3, .invokevirtual 140, 158, 0, [0, 1, 0]), (1230, 1, .aload_n 2, 0, 0, []), (1231, 3, .invokevirtual 143, 268, 0, [0, 1, 0]), (1234, 3, .if_icmp .eq 41, 1275, 0, []), (1237, 1, .iconst 0, 0, 0, []), (1238, 1, .ireturn, 0, 0, []), (1239, 1, .aload_n 1, 0, 0, []), (1240, 3, .invokevirtual 144, 159, 0, [0, 1, 0]), (1243, 1, .aload_n 2, 0, 0, []), (1244, 3, .invokevirtual 147, 269, 0, [0, 1, 0]), (1247, 3, .if_icmp .eq 28, 1275, 0, []), (1250, 1, .iconst 0, 0, 0, []), (1251, 1, .ireturn, 0, 0, []), (1252, 1, .aload_n 1, 0, 0, []), (1253, 1, .aload_n 0, 0, 0, []), (1254, 1, .iload_n 3, 0, 0, []), (1255, 1, .iconst 1, 0, 0, []), (1256, 1, .iadd, 0, 0, []), (1257, 1, .iaload, 0, 2, []), (1258, 3, .invokevirtual 148, 160, 0, [1, 1, 0]), (1261, 1, .aload_n 2, 0, 0, []), (1262, 1, .aload_n 0, 0, 0, []), (1263, 1, .iload_n 3, 0, 0, []), (1264, 1, .iconst 1, 0, 0, []), (1265, 1, .iadd, 0, 0, []), (1266, 1, .iaload, 0, 2, []), (1267, 3, .invokevirtual 151, 270, 0, [1, 1, 0]), (1270, 3, .if_icmp .eq 5, 1275, 0, []), (1273, 1, .iconst 0, 0, 0, []), (1274, 1, .ireturn, 0, 0, []), (1275, 0, .nop, 0, 0, [0, 1, 2, 3]), (1275, 3, .iinc 3 6, 0, 0, []), (1278, 3, .goto (-1260), 18, 0, []), (1281, 1, .iconst 1, 0, 0, []), (1282, 1, .ireturn, 0, 0, [])]
def cdL : List (List RI) := [kd_X0_init, kd_X0_sendBy, kd_X0_turn, kd_X0_characteristic, kd_X0_height, kd_X0_points, kd_X0_part, kd_X0_findParts, kd_X0_spread, kd_X0_noughtSpace, kd_X0_greatNorm, kd_X0_greatTrace, kd_X0_greatUnit, kd_X1_init, kd_X1_setBase, kd_X1_base, kd_X1_power, kd_X1_holds, kd_X1_degree, kd_X1_figure, kd_X1_first, kd_X1_isMonic, kd_X1_inverse, kd_X1_negative, kd_X1_mix, kd_X1_sum, kd_X1_difference, kd_X1_monic, kd_X1_fits, kd_X1_product, kd_X1_rest, kd_X1_quotient, kd_X1_common, kd_X1_productBy, kd_X1_turnedBy, kd_X1_sumOfPowers, kd_X1_symbolOver, kd_X2_init, kd_X2_lead, kd_X2_dualNumber, kd_X2_dualRow, kd_X2_make, kd_X2_countEnds, kd_X2_putDifference, kd_X2_leastAlike, kd_X2_countClasses, kd_X2_countGreatest, kd_X2_isGreatest, kd_X2_commonDivisor, kd_X3_init, kd_X3_many, kd_X3_get, kd_X3_find, kd_X3_takeOut, kd_X3_add, kd_X3_splitUp, kd_X3_trace, kd_X3_splitBy, kd_X3_sort, kd_X4_init, kd_X4_check, kd_X4_faultPlace, kd_X4_start, kd_X4_cannot, kd_X4_result, kd_X4_readClause, kd_X4_clauseKind, kd_X4_readSum, kd_X4_readProduct, kd_X4_readPower, kd_X4_readOne, kd_X4_readNumber, kd_X4_expect, kd_X4_fail, kd_X4_isWorking, kd_X4_put, kd_X4_addUp, kd_X4_multiplyUp, kd_X4_turnOver, kd_X4_raise, kd_X4_isWord, kd_X4_byteAt, kd_X4_step, kd_X4_stepNumber, kd_X4_isDigit, kd_X4_isLetter, kd_X4_isSign, kd_X5_init, kd_X5_setModulus, kd_X5_listPowers, kd_X5_modulus, kd_X5_degree, kd_X5_size, kd_X5_holds, kd_X5_makerPower, kd_X5_product, kd_X5_quotient, kd_X5_turnedUp, kd_X6_init, kd_X6_start, kd_X6_copyOf, kd_X6_base, kd_X6_modulus, kd_X6_texts, kd_X6_addText, kd_X6_steps, kd_X6_undone, kd_X6_many, kd_X6_has, kd_X6_get, kd_X6_tell, kd_X6_undoLatest, kd_X6_redoLatest, kd_X7_init, kd_X7_clear, kd_X7_dropTags, kd_X7_addRest, kd_X7_add, kd_X7_keep, kd_X8_init, kd_X8_degreeOf, kd_X8_clear, kd_X8_copy, kd_X8_mix, kd_X8_multiply, kd_X8_divide, kd_X8_valueAt, kd_X9_init, kd_X9_world, kd_X9_work, kd_X9_poly, kd_X9_module, kd_X9_map, kd_X9_feed, kd_X9_end, kd_X9_text, kd_X9_fault, kd_X9_told, kd_X9_of, kd_X9_act, kd_X9_acts, kd_X9_send, kd_X9_noughts, kd_X9_about, kd_X9_parts, kd_X9_great, kd_X9_leads, kd_X9_dual, kd_X9_made, kd_X9_ends, kd_X9_alike, kd_X9_classes, kd_X9_greatest, kd_X9_sums, kd_X9_symbol, kd_X9_factors, kd_X9_undo, kd_X9_redo, kd_X9_image, kd_X9_back, kd_X9_count, kd_X9_isModulus, kd_X9_isActing, kd_X9_areMapAndModule, kd_X9_putRow, kd_X9_feedFour, kd_X10_init, kd_X10_copy, kd_X10_isIn, kd_X10_power, kd_X10_degree, kd_X10_figure, kd_X10_isPoly, kd_X10_sumOf, kd_X10_shifted, kd_X10_times, kd_X10_unit, kd_X10_divide, kd_X10_rest, kd_X10_by, kd_X10_monic, kd_X10_common, kd_X10_leastFactor, kd_X10_isPrime, kd_X10_poly, kd_X10_makeWorld, kd_X10_world, kd_X10_isRest, kd_X10_mul, kd_X10_minus, kd_X10_raise, kd_X10_work, kd_X10_clear, kd_X10_lay, kd_X10_degreeAt, kd_X10_multiply, kd_X10_add, kd_X10_divideBy, kd_X10_sent, kd_X10_layModule, kd_X10_layMap, kd_X10_isModule, kd_X10_isMap, kd_X10_step, kd_X10_tellModule, kd_X10_tellMap, kd_X10_module, kd_X10_map, kd_X10_four, kd_X10_feed, kd_X10_end, kd_X10_byteAt, kd_X10_isLetter, kd_X10_isDigit, kd_X10_nextToken, kd_X10_w3, kd_X10_emit, kd_X10_push, kd_X10_rank, kd_X10_settle, kd_X10_opensBy, kd_X10_whole, kd_X10_beginOne, kd_X10_raises, kd_X10_behindOne, kd_X10_summed, kd_X10_clause, kd_X10_readText, kd_X10_text, kd_X10_fault, kd_X10_raiseBy, kd_X10_works, kd_X10_told, kd_X10_of, kd_X10_stepped, kd_X10_acted, kd_X10_act, kd_X10_layActs, kd_X10_acts, kd_X10_send, kd_X10_noughts, kd_X10_characteristic, kd_X10_height, kd_X10_toSteps, kd_X10_points, kd_X10_about, kd_X10_rankOf, kd_X10_nought, kd_X10_findParts, kd_X10_parts, kd_X10_norm, kd_X10_trace, kd_X10_great, kd_X10_leadsTo, kd_X10_leads, kd_X10_dual, kd_X10_made, kd_X10_ends, kd_X10_alike, kd_X10_classes, kd_X10_stays, kd_X10_greatest, kd_X10_sums, kd_X10_symbolOf, kd_X10_symbol, kd_X10_factors, kd_X10_undo, kd_X10_redo, kd_X10_image, kd_X10_back, kd_X10_count, kd_L_law]
def bCL : List ByteArray := [cX0_init, cX0_sendBy, cX0_turn, cX0_characteristic, cX0_height, cX0_points, cX0_part, cX0_findParts, cX0_spread, cX0_noughtSpace, cX0_greatNorm, cX0_greatTrace, cX0_greatUnit, cX1_init, cX1_setBase, cX1_base, cX1_power, cX1_holds, cX1_degree, cX1_figure, cX1_first, cX1_isMonic, cX1_inverse, cX1_negative, cX1_mix, cX1_sum, cX1_difference, cX1_monic, cX1_fits, cX1_product, cX1_rest, cX1_quotient, cX1_common, cX1_productBy, cX1_turnedBy, cX1_sumOfPowers, cX1_symbolOver, cX2_init, cX2_lead, cX2_dualNumber, cX2_dualRow, cX2_make, cX2_countEnds, cX2_putDifference, cX2_leastAlike, cX2_countClasses, cX2_countGreatest, cX2_isGreatest, cX2_commonDivisor, cX3_init, cX3_many, cX3_get, cX3_find, cX3_takeOut, cX3_add, cX3_splitUp, cX3_trace, cX3_splitBy, cX3_sort, cX4_init, cX4_check, cX4_faultPlace, cX4_start, cX4_cannot, cX4_result, cX4_readClause, cX4_clauseKind, cX4_readSum, cX4_readProduct, cX4_readPower, cX4_readOne, cX4_readNumber, cX4_expect, cX4_fail, cX4_isWorking, cX4_put, cX4_addUp, cX4_multiplyUp, cX4_turnOver, cX4_raise, cX4_isWord, cX4_byteAt, cX4_step, cX4_stepNumber, cX4_isDigit, cX4_isLetter, cX4_isSign, cX5_init, cX5_setModulus, cX5_listPowers, cX5_modulus, cX5_degree, cX5_size, cX5_holds, cX5_makerPower, cX5_product, cX5_quotient, cX5_turnedUp, cX6_init, cX6_start, cX6_copyOf, cX6_base, cX6_modulus, cX6_texts, cX6_addText, cX6_steps, cX6_undone, cX6_many, cX6_has, cX6_get, cX6_tell, cX6_undoLatest, cX6_redoLatest, cX7_init, cX7_clear, cX7_dropTags, cX7_addRest, cX7_add, cX7_keep, cX8_init, cX8_degreeOf, cX8_clear, cX8_copy, cX8_mix, cX8_multiply, cX8_divide, cX8_valueAt, cX9_init, cX9_world, cX9_work, cX9_poly, cX9_module, cX9_map, cX9_feed, cX9_end, cX9_text, cX9_fault, cX9_told, cX9_of, cX9_act, cX9_acts, cX9_send, cX9_noughts, cX9_about, cX9_parts, cX9_great, cX9_leads, cX9_dual, cX9_made, cX9_ends, cX9_alike, cX9_classes, cX9_greatest, cX9_sums, cX9_symbol, cX9_factors, cX9_undo, cX9_redo, cX9_image, cX9_back, cX9_count, cX9_isModulus, cX9_isActing, cX9_areMapAndModule, cX9_putRow, cX9_feedFour, cX10_init, cX10_copy, cX10_isIn, cX10_power, cX10_degree, cX10_figure, cX10_isPoly, cX10_sumOf, cX10_shifted, cX10_times, cX10_unit, cX10_divide, cX10_rest, cX10_by, cX10_monic, cX10_common, cX10_leastFactor, cX10_isPrime, cX10_poly, cX10_makeWorld, cX10_world, cX10_isRest, cX10_mul, cX10_minus, cX10_raise, cX10_work, cX10_clear, cX10_lay, cX10_degreeAt, cX10_multiply, cX10_add, cX10_divideBy, cX10_sent, cX10_layModule, cX10_layMap, cX10_isModule, cX10_isMap, cX10_step, cX10_tellModule, cX10_tellMap, cX10_module, cX10_map, cX10_four, cX10_feed, cX10_end, cX10_byteAt, cX10_isLetter, cX10_isDigit, cX10_nextToken, cX10_w3, cX10_emit, cX10_push, cX10_rank, cX10_settle, cX10_opensBy, cX10_whole, cX10_beginOne, cX10_raises, cX10_behindOne, cX10_summed, cX10_clause, cX10_readText, cX10_text, cX10_fault, cX10_raiseBy, cX10_works, cX10_told, cX10_of, cX10_stepped, cX10_acted, cX10_act, cX10_layActs, cX10_acts, cX10_send, cX10_noughts, cX10_characteristic, cX10_height, cX10_toSteps, cX10_points, cX10_about, cX10_rankOf, cX10_nought, cX10_findParts, cX10_parts, cX10_norm, cX10_trace, cX10_great, cX10_leadsTo, cX10_leads, cX10_dual, cX10_made, cX10_ends, cX10_alike, cX10_classes, cX10_stays, cX10_greatest, cX10_sums, cX10_symbolOf, cX10_symbol, cX10_factors, cX10_undo, cX10_redo, cX10_image, cX10_back, cX10_count, code]
def yML : List MethodName := [yX0_init, yX0_sendBy, yX0_turn, yX0_characteristic, yX0_height, yX0_points, yX0_part, yX0_findParts, yX0_spread, yX0_noughtSpace, yX0_greatNorm, yX0_greatTrace, yX0_greatUnit, yX1_init, yX1_setBase, yX1_base, yX1_power, yX1_holds, yX1_degree, yX1_figure, yX1_first, yX1_isMonic, yX1_inverse, yX1_negative, yX1_mix, yX1_sum, yX1_difference, yX1_monic, yX1_fits, yX1_product, yX1_rest, yX1_quotient, yX1_common, yX1_productBy, yX1_turnedBy, yX1_sumOfPowers, yX1_symbolOver, yX2_init, yX2_lead, yX2_dualNumber, yX2_dualRow, yX2_make, yX2_countEnds, yX2_putDifference, yX2_leastAlike, yX2_countClasses, yX2_countGreatest, yX2_isGreatest, yX2_commonDivisor, yX3_init, yX3_many, yX3_get, yX3_find, yX3_takeOut, yX3_add, yX3_splitUp, yX3_trace, yX3_splitBy, yX3_sort, yX4_init, yX4_check, yX4_faultPlace, yX4_start, yX4_cannot, yX4_result, yX4_readClause, yX4_clauseKind, yX4_readSum, yX4_readProduct, yX4_readPower, yX4_readOne, yX4_readNumber, yX4_expect, yX4_fail, yX4_isWorking, yX4_put, yX4_addUp, yX4_multiplyUp, yX4_turnOver, yX4_raise, yX4_isWord, yX4_byteAt, yX4_step, yX4_stepNumber, yX4_isDigit, yX4_isLetter, yX4_isSign, yX5_init, yX5_setModulus, yX5_listPowers, yX5_modulus, yX5_degree, yX5_size, yX5_holds, yX5_makerPower, yX5_product, yX5_quotient, yX5_turnedUp, yX6_init, yX6_start, yX6_copyOf, yX6_base, yX6_modulus, yX6_texts, yX6_addText, yX6_steps, yX6_undone, yX6_many, yX6_has, yX6_get, yX6_tell, yX6_undoLatest, yX6_redoLatest, yX7_init, yX7_clear, yX7_dropTags, yX7_addRest, yX7_add, yX7_keep, yX8_init, yX8_degreeOf, yX8_clear, yX8_copy, yX8_mix, yX8_multiply, yX8_divide, yX8_valueAt, yX9_init, yX9_world, yX9_work, yX9_poly, yX9_module, yX9_map, yX9_feed, yX9_end, yX9_text, yX9_fault, yX9_told, yX9_of, yX9_act, yX9_acts, yX9_send, yX9_noughts, yX9_about, yX9_parts, yX9_great, yX9_leads, yX9_dual, yX9_made, yX9_ends, yX9_alike, yX9_classes, yX9_greatest, yX9_sums, yX9_symbol, yX9_factors, yX9_undo, yX9_redo, yX9_image, yX9_back, yX9_count, yX9_isModulus, yX9_isActing, yX9_areMapAndModule, yX9_putRow, yX9_feedFour, yX10_init, yX10_copy, yX10_isIn, yX10_power, yX10_degree, yX10_figure, yX10_isPoly, yX10_sumOf, yX10_shifted, yX10_times, yX10_unit, yX10_divide, yX10_rest, yX10_by, yX10_monic, yX10_common, yX10_leastFactor, yX10_isPrime, yX10_poly, yX10_makeWorld, yX10_world, yX10_isRest, yX10_mul, yX10_minus, yX10_raise, yX10_work, yX10_clear, yX10_lay, yX10_degreeAt, yX10_multiply, yX10_add, yX10_divideBy, yX10_sent, yX10_layModule, yX10_layMap, yX10_isModule, yX10_isMap, yX10_step, yX10_tellModule, yX10_tellMap, yX10_module, yX10_map, yX10_four, yX10_feed, yX10_end, yX10_byteAt, yX10_isLetter, yX10_isDigit, yX10_nextToken, yX10_w3, yX10_emit, yX10_push, yX10_rank, yX10_settle, yX10_opensBy, yX10_whole, yX10_beginOne, yX10_raises, yX10_behindOne, yX10_summed, yX10_clause, yX10_readText, yX10_text, yX10_fault, yX10_raiseBy, yX10_works, yX10_told, yX10_of, yX10_stepped, yX10_acted, yX10_act, yX10_layActs, yX10_acts, yX10_send, yX10_noughts, yX10_characteristic, yX10_height, yX10_toSteps, yX10_points, yX10_about, yX10_rankOf, yX10_nought, yX10_findParts, yX10_parts, yX10_norm, yX10_trace, yX10_great, yX10_leadsTo, yX10_leads, yX10_dual, yX10_made, yX10_ends, yX10_alike, yX10_classes, yX10_stays, yX10_greatest, yX10_sums, yX10_symbolOf, yX10_symbol, yX10_factors, yX10_undo, yX10_redo, yX10_image, yX10_back, yX10_count, x]
def nLL : List Nat := [3, 6, 5, 5, 5, 7, 2, 3, 9, 5, 6, 3, 4, 1, 4, 1, 2, 2, 3, 3, 2, 2, 3, 2, 6, 3, 3, 2, 3, 5, 7, 8, 5, 7, 5, 8, 8, 2, 4, 5, 5, 10, 6, 7, 5, 11, 9, 5, 4, 2, 1, 2, 8, 4, 2, 8, 7, 6, 4, 2, 4, 1, 4, 1, 1, 2, 1, 5, 4, 3, 4, 2, 2, 2, 2, 4, 3, 2, 2, 4, 3, 2, 2, 1, 1, 1, 1, 2, 7, 4, 1, 1, 1, 2, 2, 3, 3, 3, 1, 3, 3, 1, 1, 1, 1, 1, 1, 2, 3, 4, 6, 1, 1, 2, 2, 2, 3, 9, 6, 2, 2, 2, 3, 5, 9, 9, 5, 1, 4, 4, 4, 5, 4, 6, 2, 2, 2, 5, 6, 4, 4, 3, 7, 4, 4, 4, 4, 7, 3, 3, 3, 3, 2, 3, 4, 3, 1, 1, 1, 1, 2, 3, 3, 3, 5, 3, 1, 3, 3, 4, 4, 5, 4, 9, 3, 6, 3, 7, 3, 3, 2, 6, 6, 3, 4, 7, 5, 2, 3, 2, 5, 4, 3, 4, 3, 6, 5, 9, 5, 4, 4, 2, 2, 2, 3, 3, 5, 4, 3, 6, 2, 2, 1, 1, 3, 3, 3, 2, 1, 2, 2, 1, 1, 1, 2, 3, 5, 2, 1, 2, 4, 8, 4, 4, 5, 7, 4, 6, 4, 3, 6, 7, 5, 8, 6, 3, 10, 6, 9, 4, 6, 6, 3, 4, 4, 7, 7, 8, 6, 8, 5, 10, 7, 7, 6, 6, 1, 1, 1, 1, 2, 4]
def rTL : List (Option FieldType) := [none, (some .int), (some .boolean), (some .int), (some .int), (some .int), (some .int), (some .int), none, (some .int), (some .int), (some .int), (some .int), none, none, (some .int), (some .int), (some .boolean), (some .int), (some .int), (some .int), (some .boolean), (some .int), (some .int), (some .int), (some .int), (some .int), (some .int), (some .boolean), (some .int), (some .int), (some .int), (some .int), (some .int), (some .int), (some .int), (some .int), none, (some .boolean), (some .int), (some .boolean), none, (some .int), none, (some .int), (some .int), (some .int), (some .boolean), (some .int), none, (some .int), (some .int), none, (some .int), none, none, (some .int), none, none, none, (some .int), (some .int), none, (some .boolean), (some (.array .int)), (some .int), (some .int), (some .boolean), (some .boolean), (some .boolean), (some .boolean), (some .boolean), (some .boolean), (some .boolean), (some .boolean), none, none, none, none, none, (some .boolean), (some .int), none, none, (some .boolean), (some .boolean), (some .boolean), none, none, (some .int), (some .int), (some .int), (some .int), (some .boolean), (some .int), (some .int), (some .int), (some .int), none, none, none, (some .int), (some .int), (some .int), none, (some .int), (some .int), (some .int), (some .boolean), (some (.array .int)), (some .int), (some .int), (some .int), none, none, none, (some .int), (some .int), none, none, (some .int), none, none, none, (some .boolean), none, (some .int), none, (some .int), (some .int), (some .int), (some .int), (some .int), (some .int), (some .int), (some .int), (some .int), (some .int), (some .int), (some .int), (some .int), (some .int), (some .int), (some .int), (some .int), (some .int), (some .int), (some .int), (some .int), (some .int), (some .int), (some .int), (some .int), (some .int), (some .int), (some .int), (some .int), (some .int), (some .int), (some .int), (some .int), (some .boolean), (some .boolean), (some .boolean), none, none, none, none, (some .boolean), (some .int), (some .int), (some .int), (some .boolean), (some .int), (some .int), (some .int), (some .int), none, (some .int), (some .int), (some .int), (some .int), (some .int), (some .boolean), (some .int), none, (some .int), (some .boolean), (some .int), (some .int), (some .int), (some .int), none, none, (some .int), (some .boolean), none, none, (some .int), none, none, (some .boolean), (some .boolean), none, (some .int), (some .int), (some .int), (some .int), none, (some .int), (some .int), (some .int), (some .boolean), (some .boolean), none, (some .long), none, none, (some .int), none, (some .int), none, (some .int), (some .int), (some .boolean), (some .int), (some .int), (some .int), (some .int), (some .int), (some .boolean), (some .boolean), (some .int), (some .int), (some .int), (some .int), (some .int), (some .boolean), (some .int), (some .int), (some .int), (some .int), (some .int), none, (some .int), (some .int), (some .int), (some .int), none, (some .int), (some .int), (some .int), (some .int), (some .boolean), (some .int), (some .int), (some .int), (some .int), (some .int), (some .int), (some .int), (some .int), (some .int), (some .int), (some .int), (some .int), (some .int), (some .int), (some .int), (some .int), (some .int), (some .boolean)]
def oCL : List Nat := [0, 0, 0, 0, 0, 0, 0, 0, 0, 0, 0, 0, 0, 1, 1, 1, 1, 1, 1, 1, 1, 1, 1, 1, 1, 1, 1, 1, 1, 1, 1, 1, 1, 1, 1, 1, 1, 2, 2, 2, 2, 2, 2, 2, 2, 2, 2, 2, 2, 3, 3, 3, 3, 3, 3, 3, 3, 3, 3, 4, 4, 4, 4, 4, 4, 4, 4, 4, 4, 4, 4, 4, 4, 4, 4, 4, 4, 4, 4, 4, 4, 4, 4, 4, 4, 4, 4, 5, 5, 5, 5, 5, 5, 5, 5, 5, 5, 5, 6, 6, 6, 6, 6, 6, 6, 6, 6, 6, 6, 6, 6, 6, 6, 7, 7, 7, 7, 7, 7, 8, 8, 8, 8, 8, 8, 8, 8, 9, 9, 9, 9, 9, 9, 9, 9, 9, 9, 9, 9, 9, 9, 9, 9, 9, 9, 9, 9, 9, 9, 9, 9, 9, 9, 9, 9, 9, 9, 9, 9, 9, 9, 9, 9, 9, 9, 9, 10, 10, 10, 10, 10, 10, 10, 10, 10, 10, 10, 10, 10, 10, 10, 10, 10, 10, 10, 10, 10, 10, 10, 10, 10, 10, 10, 10, 10, 10, 10, 10, 10, 10, 10, 10, 10, 10, 10, 10, 10, 10, 10, 10, 10, 10, 10, 10, 10, 10, 10, 10, 10, 10, 10, 10, 10, 10, 10, 10, 10, 10, 10, 10, 10, 10, 10, 10, 10, 10, 10, 10, 10, 10, 10, 10, 10, 10, 10, 10, 10, 10, 10, 10, 10, 10, 10, 10, 10, 10, 10, 10, 10, 10, 10, 10, 10, 10, 10, 10, 10, 10, 10, 10, 10, 11]
def depL : List Nat := [3, 3, 3, 5, 4, 5, 1, 7, 6, 5, 6, 7, 2, 2, 1, 1, 1, 1, 1, 1, 2, 3, 1, 1, 1, 2, 2, 2, 2, 2, 2, 2, 3, 2, 3, 3, 3, 2, 4, 4, 4, 3, 4, 3, 2, 2, 6, 5, 1, 2, 1, 1, 6, 3, 1, 5, 4, 4, 1, 2, 12, 1, 4, 1, 1, 11, 7, 10, 9, 8, 7, 4, 4, 1, 1, 2, 3, 3, 3, 3, 6, 1, 3, 2, 1, 1, 1, 2, 4, 3, 1, 1, 1, 1, 1, 1, 1, 1, 2, 1, 2, 1, 1, 1, 1, 1, 1, 1, 2, 1, 2, 1, 1, 2, 1, 1, 4, 3, 2, 2, 1, 1, 1, 2, 2, 3, 2, 5, 8, 3, 4, 3, 3, 2, 1, 13, 1, 12, 3, 4, 4, 3, 4, 6, 8, 8, 5, 5, 4, 5, 3, 3, 7, 4, 4, 7, 2, 2, 3, 5, 2, 7, 3, 3, 2, 1, 6, 1, 1, 1, 1, 1, 1, 1, 2, 3, 1, 3, 4, 4, 2, 5, 5, 6, 6, 5, 7, 2, 1, 2, 1, 3, 1, 1, 1, 2, 2, 2, 2, 2, 2, 2, 2, 1, 2, 2, 3, 3, 1, 2, 2, 1, 2, 2, 3, 1, 1, 1, 1, 2, 4, 3, 5, 4, 4, 6, 7, 8, 9, 1, 3, 4, 5, 3, 2, 3, 4, 3, 4, 3, 4, 3, 4, 2, 3, 5, 2, 4, 6, 7, 4, 5, 6, 3, 4, 4, 3, 3, 3, 3, 2, 5, 4, 5, 6, 6, 1, 1, 2, 6, 1, 14]
def alcL : List (Nat × Nat) := [(56, 534), (0, 0), (0, 0), (0, 0), (0, 0), (0, 0), (0, 0), (0, 0), (0, 0), (0, 0), (0, 0), (0, 0), (0, 0), (1, 14), (0, 0), (0, 0), (0, 0), (0, 0), (0, 0), (0, 0), (0, 0), (0, 0), (0, 0), (0, 0), (0, 0), (0, 0), (0, 0), (0, 0), (0, 0), (0, 0), (0, 0), (0, 0), (0, 0), (0, 0), (0, 0), (0, 0), (0, 0), (4, 79), (0, 0), (0, 0), (0, 0), (0, 0), (0, 0), (0, 0), (0, 0), (0, 0), (0, 0), (0, 0), (0, 0), (2, 26), (0, 0), (0, 0), (0, 0), (0, 0), (0, 0), (0, 0), (0, 0), (0, 0), (0, 0), (22, 520), (0, 0), (0, 0), (0, 0), (0, 0), (0, 0), (0, 0), (0, 0), (0, 0), (0, 0), (0, 0), (0, 0), (0, 0), (0, 0), (0, 0), (0, 0), (0, 0), (0, 0), (0, 0), (0, 0), (0, 0), (0, 0), (0, 0), (0, 0), (0, 0), (0, 0), (0, 0), (0, 0), (3, 269), (0, 0), (0, 0), (0, 0), (0, 0), (0, 0), (0, 0), (0, 0), (0, 0), (0, 0), (0, 0), (24, 162), (0, 0), (0, 0), (0, 0), (0, 0), (0, 0), (0, 0), (0, 0), (0, 0), (0, 0), (0, 0), (0, 0), (0, 0), (0, 0), (0, 0), (53, 497), (0, 0), (0, 0), (0, 0), (0, 0), (0, 0), (0, 0), (0, 0), (0, 0), (0, 0), (0, 0), (0, 0), (0, 0), (0, 0), (153, 3363), (0, 0), (0, 0), (0, 0), (0, 0), (0, 0), (0, 0), (0, 0), (0, 0), (0, 0), (0, 0), (0, 0), (0, 0), (0, 0), (0, 0), (0, 0), (0, 0), (0, 0), (0, 0), (0, 0), (0, 0), (0, 0), (0, 0), (0, 0), (0, 0), (0, 0), (0, 0), (0, 0), (0, 0), (0, 0), (0, 0), (0, 0), (0, 0), (0, 0), (0, 0), (0, 0), (0, 0), (0, 0), (0, 0), (13, 22380), (0, 0), (0, 0), (0, 0), (0, 0), (0, 0), (0, 0), (0, 0), (0, 0), (0, 0), (0, 0), (0, 0), (0, 0), (0, 0), (0, 0), (0, 0), (0, 0), (0, 0), (0, 0), (0, 0), (0, 0), (0, 0), (0, 0), (0, 0), (0, 0), (0, 0), (0, 0), (0, 0), (0, 0), (0, 0), (0, 0), (0, 0), (0, 0), (0, 0), (0, 0), (0, 0), (0, 0), (0, 0), (0, 0), (0, 0), (0, 0), (0, 0), (0, 0), (0, 0), (0, 0), (0, 0), (0, 0), (0, 0), (0, 0), (0, 0), (0, 0), (0, 0), (0, 0), (0, 0), (0, 0), (0, 0), (0, 0), (0, 0), (0, 0), (0, 0), (0, 0), (0, 0), (0, 0), (0, 0), (0, 0), (0, 0), (0, 0), (0, 0), (0, 0), (0, 0), (0, 0), (0, 0), (0, 0), (0, 0), (0, 0), (0, 0), (0, 0), (0, 0), (0, 0), (0, 0), (0, 0), (0, 0), (0, 0), (0, 0), (0, 0), (0, 0), (0, 0), (0, 0), (0, 0), (0, 0), (0, 0), (0, 0), (0, 0), (0, 0), (0, 0), (0, 0), (0, 0), (0, 0), (0, 0), (0, 0), (0, 0), (0, 0), (0, 0), (0, 0), (0, 0), (168, 25790)]
def rzL : List Bool := [false, false, true, false, false, false, false, false, false, false, false, false, false, false, false, false, false, true, false, false, false, true, false, false, false, false, false, false, true, false, false, false, false, false, false, false, false, false, true, false, true, false, false, false, false, false, false, true, false, false, false, false, false, false, false, false, false, false, false, false, false, false, false, true, false, false, false, true, true, true, true, true, true, true, true, false, false, false, false, false, true, false, false, false, true, true, true, false, false, false, false, false, false, true, false, false, false, false, false, false, false, false, false, false, false, false, false, false, true, false, false, false, false, false, false, false, false, false, false, false, false, false, false, false, true, false, false, false, false, false, false, false, false, false, false, false, false, false, false, false, false, false, false, false, false, false, false, false, false, false, false, false, false, false, false, false, false, false, false, false, false, true, true, true, false, false, false, false, true, false, false, false, true, false, false, false, false, false, false, false, false, false, false, true, false, false, false, true, false, false, false, false, false, false, false, true, false, false, false, false, false, true, true, false, false, false, false, false, false, false, false, false, true, true, false, false, false, false, false, false, false, false, false, false, true, false, false, false, false, false, true, true, false, false, false, false, false, true, false, false, false, false, false, false, false, false, false, false, false, false, false, false, false, true, false, false, false, false, false, false, false, false, false, false, false, false, false, false, false, false, false, true]
def mxL : List Bool := [true, false, false, false, false, false, false, false, false, false, false, false, false, true, false, false, false, false, false, false, false, false, false, false, false, false, false, false, false, false, false, false, false, false, false, false, false, true, false, false, false, false, false, false, false, false, false, false, false, true, false, false, false, false, false, false, false, false, false, true, false, false, false, false, false, false, false, false, false, false, false, false, false, false, false, false, false, false, false, false, false, false, false, false, false, false, false, true, false, false, false, false, false, false, false, false, false, false, true, false, false, false, false, false, false, false, false, false, false, false, false, false, false, true, false, false, false, false, false, true, false, false, false, false, false, false, false, true, false, false, false, false, false, false, false, false, false, false, false, false, false, false, false, false, false, false, false, false, false, false, false, false, false, false, false, false, false, false, false, false, false, false, false, false, false, false, true, false, false, false, false, false, false, false, false, false, false, false, false, false, false, false, false, false, false, false, false, false, false, false, false, false, false, false, false, false, false, false, false, false, false, false, false, false, false, false, false, false, false, false, false, false, false, false, false, false, false, false, false, false, false, false, false, false, false, false, false, false, false, false, false, false, false, false, false, false, false, false, false, false, false, false, false, false, false, false, false, false, false, false, false, false, false, false, false, false, false, false, false, false, false, false, false, false, false, false, false, false, false, false, false, true]
def rbL : List (Nat × Nat) := [(15, 16), (74, 75), (97, 98), (108, 109), (122, 123), (133, 134), (146, 147)]
def SH : List (Nat × Nat) := [(9, 16), (1, 2), (11, 14), (5, 7), (11, 128), (11, 128), (11, 13), (3, 5), (11, 13), (11, 13), (8, 2), (0, 7), (11, 25), (11, 7), (7, 5), (13, 49), (11, 7), (11, 7), (11, 7), (11, 7), (11, 7), (11, 7), (11, 7), (11, 7), (11, 7), (11, 7), (11, 7), (11, 7), (11, 7), (11, 7), (11, 7), (11, 7), (11, 7), (11, 7), (11, 7), (11, 7), (11, 7), (11, 7), (11, 7), (11, 7), (11, 7), (11, 7), (11, 7), (11, 7), (11, 7), (11, 7), (11, 7), (11, 7), (11, 7), (11, 7), (11, 7), (11, 7), (11, 7), (11, 7), (11, 7), (11, 7), (11, 7), (11, 7), (11, 7), (11, 7), (11, 7), (11, 7), (11, 7), (11, 7), (11, 7), (11, 49), (12, 49), (11, 7), (2, 9), (11, 25), (11, 25), (11, 25), (11, 4), (4, 14), (13, 20), (11, 25), (11, 25), (11, 25), (11, 25), (11, 25), (11, 25), (11, 25), (11, 25), (11, 25), (11, 25), (11, 25), (11, 25), (11, 25), (11, 25), (11, 25), (11, 25), (11, 25), (11, 25), (11, 25), (11, 25), (11, 0), (6, 9), (13, 10), (11, 4), (11, 4), (11, 4), (11, 4), (11, 4), (11, 4), (11, 4), (11, 4), (11, 4), (11, 4), (13, 10), (11, 8), (11, 8), (11, 8), (11, 8), (11, 8), (11, 8), (11, 8), (11, 8), (11, 8), (11, 8), (11, 2), (11, 20), (6, 9), (13, 10), (11, 4), (11, 4), (11, 4), (11, 4), (11, 4), (11, 4), (11, 4), (11, 4), (11, 4), (11, 4), (13, 10), (11, 8), (11, 8), (11, 8), (11, 8), (11, 8), (11, 8), (11, 8), (11, 8), (11, 8), (11, 8), (11, 2), (11, 20), (13, 4), (11, 300), (11, 300), (11, 300), (11, 300), (11, 4), (11, 300), (11, 25), (10, 31), (11, 150), (11, 150), (11, 2680), (11, 16384), (11, 128), (11, 128), (11, 1250), (11, 300), (11, 160), (11, 9), (11, 1024), (11, 9), (11, 8)]
def RN : List String := [RX0, RX1, RX2, RX3, RX4, RX5, RX6, RX7, RX8, RX9, RX10, "PowersForTimesLaw"]
def ftL : List (List Nat) := [[2, 2, 2, 2, 2, 2, 2], [0, 2], [2, 2, 2, 2, 2, 2, 2, 2, 2], [2, 2, 2, 0, 0], [2, 2, 2, 4, 0, 3, 3, 0, 0, 0, 0, 0, 0, 0], [2, 0, 0, 0, 2, 2, 2], [0, 0, 0, 0, 0, 2, 2, 2, 2], [2, 2, 2, 2, 2], [2, 2], [2, 2, 2, 2, 2, 2, 2, 2, 2, 2, 2, 2, 2, 0, 0, 0], [2, 2, 2, 0, 0, 2, 2, 2, 2, 0, 0, 2, 0, 0, 0, 0, 0, 0, 0, 1, 0, 0, 0, 0, 2, 3, 3, 2, 2, 2, 2]]
def ffL : List (List Bool) := [[true, true, true, true, true, true, true], [false, true], [true, true, true, true, true, true, true, true, true], [true, true, true, false, false], [true, true, true, false, false, false, false, false, false, false, false, false, false, false], [true, false, false, false, true, true, true], [false, false, false, false, false, true, true, true, true], [true, true, true, true, true], [true, true], [true, true, true, true, true, true, true, true, true, true, true, true, true, false, false, false], [true, true, true, false, false, true, true, true, true, false, false, true, false, false, false, false, false, false, false, false, false, false, false, false, true, false, false, true, true, true, true]]
def cd (i : Nat) : List RI := cdL.getD i []
def bC (i : Nat) : ByteArray := bCL.getD i ⟨#[]⟩
def yM (i : Nat) : MethodName := yML.getD i x
def nL (i : Nat) : Nat := nLL.getD i 0
def rT (i : Nat) : Option FieldType := rTL.getD i none
def oC (i : Nat) : Nat := oCL.getD i 0
def ow (i : Nat) : String := RN.getD (oC i) ""
def dep (i : Nat) : Nat := depL.getD i 0
def alc (i : Nat) : Nat × Nat := alcL.getD i (0, 0)
def rz (i : Nat) : Bool := rzL.getD i false
def mx (i : Nat) : Bool := mxL.getD i false
def ak (o : Nat) : Nat := ((SH[o]?).getD (99, 0)).1
def an (o : Nat) : Nat := ((SH[o]?).getD (99, 0)).2
def rb (o : Nat) : Nat := ((rbL.find? (fun q => q.1 == o)).getD (0, 0)).2
def fty (c k : Nat) : Nat := (ftL.getD c []).getD k 9
def ffi (c k : Nat) : Bool := (ffL.getD c []).getD k false
abbrev m_X0_init : Nat := 0
abbrev m_X0_sendBy : Nat := 1
abbrev m_X0_turn : Nat := 2
abbrev m_X0_characteristic : Nat := 3
abbrev m_X0_height : Nat := 4
abbrev m_X0_points : Nat := 5
abbrev m_X0_part : Nat := 6
abbrev m_X0_findParts : Nat := 7
abbrev m_X0_spread : Nat := 8
abbrev m_X0_noughtSpace : Nat := 9
abbrev m_X0_greatNorm : Nat := 10
abbrev m_X0_greatTrace : Nat := 11
abbrev m_X0_greatUnit : Nat := 12
abbrev m_X1_init : Nat := 13
abbrev m_X1_setBase : Nat := 14
abbrev m_X1_base : Nat := 15
abbrev m_X1_power : Nat := 16
abbrev m_X1_holds : Nat := 17
abbrev m_X1_degree : Nat := 18
abbrev m_X1_figure : Nat := 19
abbrev m_X1_first : Nat := 20
abbrev m_X1_isMonic : Nat := 21
abbrev m_X1_inverse : Nat := 22
abbrev m_X1_negative : Nat := 23
abbrev m_X1_mix : Nat := 24
abbrev m_X1_sum : Nat := 25
abbrev m_X1_difference : Nat := 26
abbrev m_X1_monic : Nat := 27
abbrev m_X1_fits : Nat := 28
abbrev m_X1_product : Nat := 29
abbrev m_X1_rest : Nat := 30
abbrev m_X1_quotient : Nat := 31
abbrev m_X1_common : Nat := 32
abbrev m_X1_productBy : Nat := 33
abbrev m_X1_turnedBy : Nat := 34
abbrev m_X1_sumOfPowers : Nat := 35
abbrev m_X1_symbolOver : Nat := 36
abbrev m_X2_init : Nat := 37
abbrev m_X2_lead : Nat := 38
abbrev m_X2_dualNumber : Nat := 39
abbrev m_X2_dualRow : Nat := 40
abbrev m_X2_make : Nat := 41
abbrev m_X2_countEnds : Nat := 42
abbrev m_X2_putDifference : Nat := 43
abbrev m_X2_leastAlike : Nat := 44
abbrev m_X2_countClasses : Nat := 45
abbrev m_X2_countGreatest : Nat := 46
abbrev m_X2_isGreatest : Nat := 47
abbrev m_X2_commonDivisor : Nat := 48
abbrev m_X3_init : Nat := 49
abbrev m_X3_many : Nat := 50
abbrev m_X3_get : Nat := 51
abbrev m_X3_find : Nat := 52
abbrev m_X3_takeOut : Nat := 53
abbrev m_X3_add : Nat := 54
abbrev m_X3_splitUp : Nat := 55
abbrev m_X3_trace : Nat := 56
abbrev m_X3_splitBy : Nat := 57
abbrev m_X3_sort : Nat := 58
abbrev m_X4_init : Nat := 59
abbrev m_X4_check : Nat := 60
abbrev m_X4_faultPlace : Nat := 61
abbrev m_X4_start : Nat := 62
abbrev m_X4_cannot : Nat := 63
abbrev m_X4_result : Nat := 64
abbrev m_X4_readClause : Nat := 65
abbrev m_X4_clauseKind : Nat := 66
abbrev m_X4_readSum : Nat := 67
abbrev m_X4_readProduct : Nat := 68
abbrev m_X4_readPower : Nat := 69
abbrev m_X4_readOne : Nat := 70
abbrev m_X4_readNumber : Nat := 71
abbrev m_X4_expect : Nat := 72
abbrev m_X4_fail : Nat := 73
abbrev m_X4_isWorking : Nat := 74
abbrev m_X4_put : Nat := 75
abbrev m_X4_addUp : Nat := 76
abbrev m_X4_multiplyUp : Nat := 77
abbrev m_X4_turnOver : Nat := 78
abbrev m_X4_raise : Nat := 79
abbrev m_X4_isWord : Nat := 80
abbrev m_X4_byteAt : Nat := 81
abbrev m_X4_step : Nat := 82
abbrev m_X4_stepNumber : Nat := 83
abbrev m_X4_isDigit : Nat := 84
abbrev m_X4_isLetter : Nat := 85
abbrev m_X4_isSign : Nat := 86
abbrev m_X5_init : Nat := 87
abbrev m_X5_setModulus : Nat := 88
abbrev m_X5_listPowers : Nat := 89
abbrev m_X5_modulus : Nat := 90
abbrev m_X5_degree : Nat := 91
abbrev m_X5_size : Nat := 92
abbrev m_X5_holds : Nat := 93
abbrev m_X5_makerPower : Nat := 94
abbrev m_X5_product : Nat := 95
abbrev m_X5_quotient : Nat := 96
abbrev m_X5_turnedUp : Nat := 97
abbrev m_X6_init : Nat := 98
abbrev m_X6_start : Nat := 99
abbrev m_X6_copyOf : Nat := 100
abbrev m_X6_base : Nat := 101
abbrev m_X6_modulus : Nat := 102
abbrev m_X6_texts : Nat := 103
abbrev m_X6_addText : Nat := 104
abbrev m_X6_steps : Nat := 105
abbrev m_X6_undone : Nat := 106
abbrev m_X6_many : Nat := 107
abbrev m_X6_has : Nat := 108
abbrev m_X6_get : Nat := 109
abbrev m_X6_tell : Nat := 110
abbrev m_X6_undoLatest : Nat := 111
abbrev m_X6_redoLatest : Nat := 112
abbrev m_X7_init : Nat := 113
abbrev m_X7_clear : Nat := 114
abbrev m_X7_dropTags : Nat := 115
abbrev m_X7_addRest : Nat := 116
abbrev m_X7_add : Nat := 117
abbrev m_X7_keep : Nat := 118
abbrev m_X8_init : Nat := 119
abbrev m_X8_degreeOf : Nat := 120
abbrev m_X8_clear : Nat := 121
abbrev m_X8_copy : Nat := 122
abbrev m_X8_mix : Nat := 123
abbrev m_X8_multiply : Nat := 124
abbrev m_X8_divide : Nat := 125
abbrev m_X8_valueAt : Nat := 126
abbrev m_X9_init : Nat := 127
abbrev m_X9_world : Nat := 128
abbrev m_X9_work : Nat := 129
abbrev m_X9_poly : Nat := 130
abbrev m_X9_module : Nat := 131
abbrev m_X9_map : Nat := 132
abbrev m_X9_feed : Nat := 133
abbrev m_X9_end : Nat := 134
abbrev m_X9_text : Nat := 135
abbrev m_X9_fault : Nat := 136
abbrev m_X9_told : Nat := 137
abbrev m_X9_of : Nat := 138
abbrev m_X9_act : Nat := 139
abbrev m_X9_acts : Nat := 140
abbrev m_X9_send : Nat := 141
abbrev m_X9_noughts : Nat := 142
abbrev m_X9_about : Nat := 143
abbrev m_X9_parts : Nat := 144
abbrev m_X9_great : Nat := 145
abbrev m_X9_leads : Nat := 146
abbrev m_X9_dual : Nat := 147
abbrev m_X9_made : Nat := 148
abbrev m_X9_ends : Nat := 149
abbrev m_X9_alike : Nat := 150
abbrev m_X9_classes : Nat := 151
abbrev m_X9_greatest : Nat := 152
abbrev m_X9_sums : Nat := 153
abbrev m_X9_symbol : Nat := 154
abbrev m_X9_factors : Nat := 155
abbrev m_X9_undo : Nat := 156
abbrev m_X9_redo : Nat := 157
abbrev m_X9_image : Nat := 158
abbrev m_X9_back : Nat := 159
abbrev m_X9_count : Nat := 160
abbrev m_X9_isModulus : Nat := 161
abbrev m_X9_isActing : Nat := 162
abbrev m_X9_areMapAndModule : Nat := 163
abbrev m_X9_putRow : Nat := 164
abbrev m_X9_feedFour : Nat := 165
abbrev m_X10_init : Nat := 166
abbrev m_X10_copy : Nat := 167
abbrev m_X10_isIn : Nat := 168
abbrev m_X10_power : Nat := 169
abbrev m_X10_degree : Nat := 170
abbrev m_X10_figure : Nat := 171
abbrev m_X10_isPoly : Nat := 172
abbrev m_X10_sumOf : Nat := 173
abbrev m_X10_shifted : Nat := 174
abbrev m_X10_times : Nat := 175
abbrev m_X10_unit : Nat := 176
abbrev m_X10_divide : Nat := 177
abbrev m_X10_rest : Nat := 178
abbrev m_X10_by : Nat := 179
abbrev m_X10_monic : Nat := 180
abbrev m_X10_common : Nat := 181
abbrev m_X10_leastFactor : Nat := 182
abbrev m_X10_isPrime : Nat := 183
abbrev m_X10_poly : Nat := 184
abbrev m_X10_makeWorld : Nat := 185
abbrev m_X10_world : Nat := 186
abbrev m_X10_isRest : Nat := 187
abbrev m_X10_mul : Nat := 188
abbrev m_X10_minus : Nat := 189
abbrev m_X10_raise : Nat := 190
abbrev m_X10_work : Nat := 191
abbrev m_X10_clear : Nat := 192
abbrev m_X10_lay : Nat := 193
abbrev m_X10_degreeAt : Nat := 194
abbrev m_X10_multiply : Nat := 195
abbrev m_X10_add : Nat := 196
abbrev m_X10_divideBy : Nat := 197
abbrev m_X10_sent : Nat := 198
abbrev m_X10_layModule : Nat := 199
abbrev m_X10_layMap : Nat := 200
abbrev m_X10_isModule : Nat := 201
abbrev m_X10_isMap : Nat := 202
abbrev m_X10_step : Nat := 203
abbrev m_X10_tellModule : Nat := 204
abbrev m_X10_tellMap : Nat := 205
abbrev m_X10_module : Nat := 206
abbrev m_X10_map : Nat := 207
abbrev m_X10_four : Nat := 208
abbrev m_X10_feed : Nat := 209
abbrev m_X10_end : Nat := 210
abbrev m_X10_byteAt : Nat := 211
abbrev m_X10_isLetter : Nat := 212
abbrev m_X10_isDigit : Nat := 213
abbrev m_X10_nextToken : Nat := 214
abbrev m_X10_w3 : Nat := 215
abbrev m_X10_emit : Nat := 216
abbrev m_X10_push : Nat := 217
abbrev m_X10_rank : Nat := 218
abbrev m_X10_settle : Nat := 219
abbrev m_X10_opensBy : Nat := 220
abbrev m_X10_whole : Nat := 221
abbrev m_X10_beginOne : Nat := 222
abbrev m_X10_raises : Nat := 223
abbrev m_X10_behindOne : Nat := 224
abbrev m_X10_summed : Nat := 225
abbrev m_X10_clause : Nat := 226
abbrev m_X10_readText : Nat := 227
abbrev m_X10_text : Nat := 228
abbrev m_X10_fault : Nat := 229
abbrev m_X10_raiseBy : Nat := 230
abbrev m_X10_works : Nat := 231
abbrev m_X10_told : Nat := 232
abbrev m_X10_of : Nat := 233
abbrev m_X10_stepped : Nat := 234
abbrev m_X10_acted : Nat := 235
abbrev m_X10_act : Nat := 236
abbrev m_X10_layActs : Nat := 237
abbrev m_X10_acts : Nat := 238
abbrev m_X10_send : Nat := 239
abbrev m_X10_noughts : Nat := 240
abbrev m_X10_characteristic : Nat := 241
abbrev m_X10_height : Nat := 242
abbrev m_X10_toSteps : Nat := 243
abbrev m_X10_points : Nat := 244
abbrev m_X10_about : Nat := 245
abbrev m_X10_rankOf : Nat := 246
abbrev m_X10_nought : Nat := 247
abbrev m_X10_findParts : Nat := 248
abbrev m_X10_parts : Nat := 249
abbrev m_X10_norm : Nat := 250
abbrev m_X10_trace : Nat := 251
abbrev m_X10_great : Nat := 252
abbrev m_X10_leadsTo : Nat := 253
abbrev m_X10_leads : Nat := 254
abbrev m_X10_dual : Nat := 255
abbrev m_X10_made : Nat := 256
abbrev m_X10_ends : Nat := 257
abbrev m_X10_alike : Nat := 258
abbrev m_X10_classes : Nat := 259
abbrev m_X10_stays : Nat := 260
abbrev m_X10_greatest : Nat := 261
abbrev m_X10_sums : Nat := 262
abbrev m_X10_symbolOf : Nat := 263
abbrev m_X10_symbol : Nat := 264
abbrev m_X10_factors : Nat := 265
abbrev m_X10_undo : Nat := 266
abbrev m_X10_redo : Nat := 267
abbrev m_X10_image : Nat := 268
abbrev m_X10_back : Nat := 269
abbrev m_X10_count : Nat := 270
abbrev m_L_law : Nat := 271
def oT : List (Nat × Nat × Nat) := [(0, 3, 218), (1, 1, 132), (10, 1, 1195), (2, 3, 275), (3, 1, 179), (4, 3, 309), (5, 1, 150), (6, 3, 359), (7, 3, 224), (8, 1, 201), (9, 1, 124)]
def xT : List (Nat × Nat × Nat) := [(4, 13, 310), (6, 27, 360), (7, 11, 225), (9, 78, 389)]
def fT : List (Nat × Nat × Nat × Nat × Nat) := [(0, 11, 0, 5, 253), (0, 19, 0, 6, 254), (0, 22, 0, 0, 244), (0, 26, 8, 0, 203), (0, 30, 0, 1, 246), (0, 31, 8, 1, 206), (0, 35, 0, 2, 248), (0, 39, 0, 3, 250), (0, 43, 0, 4, 252), (1, 7, 1, 0, 137), (1, 13, 1, 1, 138), (10, 7, 10, 0, 1235), (10, 13, 10, 1, 1236), (10, 16, 10, 2, 1237), (10, 19, 10, 5, 1240), (10, 22, 10, 6, 1241), (10, 25, 10, 7, 1242), (10, 28, 10, 8, 1243), (10, 31, 10, 11, 1246), (10, 34, 10, 13, 1248), (10, 38, 10, 14, 1249), (10, 41, 10, 24, 1259), (10, 44, 10, 27, 1262), (10, 47, 10, 28, 1263), (10, 50, 10, 29, 1264), (10, 53, 10, 30, 1265), (10, 78, 10, 9, 1244), (10, 81, 10, 10, 1245), (10, 120, 10, 3, 1238), (10, 123, 10, 4, 1239), (10, 154, 10, 12, 1247), (10, 160, 10, 15, 1250), (10, 166, 10, 16, 1251), (10, 169, 10, 17, 1252), (10, 175, 10, 18, 1253), (10, 182, 10, 19, 1254), (10, 186, 10, 20, 1255), (10, 189, 10, 21, 1256), (10, 192, 10, 22, 1257), (10, 201, 10, 23, 1258), (10, 210, 10, 25, 1260), (10, 214, 10, 26, 1261), (2, 11, 2, 5, 281), (2, 17, 2, 6, 282), (2, 20, 2, 7, 283), (2, 23, 2, 8, 284), (2, 26, 2, 0, 276), (2, 30, 0, 0, 245), (2, 36, 2, 1, 277), (2, 37, 0, 1, 247), (2, 41, 2, 2, 278), (2, 42, 0, 2, 249), (2, 46, 2, 3, 279), (2, 47, 0, 3, 251), (2, 51, 2, 4, 280), (3, 9, 3, 1, 181), (3, 15, 3, 2, 182), (3, 18, 3, 3, 183), (3, 22, 3, 4, 184), (3, 25, 3, 0, 180), (4, 15, 4, 2, 313), (4, 18, 4, 3, 314), (4, 22, 4, 4, 315), (4, 26, 4, 5, 316), (4, 30, 4, 6, 317), (4, 33, 4, 7, 318), (4, 36, 4, 8, 319), (4, 39, 4, 9, 320), (4, 42, 4, 10, 321), (4, 45, 4, 11, 322), (4, 48, 4, 12, 323), (4, 51, 4, 13, 324), (4, 54, 4, 0, 311), (4, 58, 8, 0, 204), (4, 62, 4, 1, 312), (4, 147, 8, 1, 207), (5, 7, 5, 1, 153), (5, 13, 5, 2, 154), (5, 16, 5, 3, 155), (5, 19, 5, 4, 156), (5, 23, 5, 5, 157), (5, 28, 5, 6, 158), (5, 31, 5, 0, 152), (6, 9, 6, 0, 361), (6, 15, 6, 1, 362), (6, 18, 6, 2, 363), (6, 21, 6, 3, 364), (6, 24, 6, 4, 365), (6, 29, 6, 5, 366), (6, 32, 6, 6, 367), (6, 35, 6, 7, 368), (6, 39, 6, 8, 369), (7, 13, 7, 1, 228), (7, 16, 7, 2, 229), (7, 20, 7, 3, 230), (7, 24, 7, 4, 231), (7, 27, 7, 0, 227), (8, 7, 8, 0, 202), (8, 13, 5, 0, 151), (8, 19, 8, 1, 205), (9, 10, 9, 0, 438), (9, 21, 9, 1, 439), (9, 28, 9, 2, 440), (9, 37, 9, 3, 441), (9, 46, 9, 4, 442), (9, 55, 9, 5, 443), (9, 64, 9, 6, 444), (9, 71, 9, 7, 445), (9, 75, 9, 8, 446), (9, 80, 9, 9, 447), (9, 83, 9, 10, 448), (9, 87, 9, 11, 449), (9, 90, 9, 12, 450), (9, 93, 9, 13, 451), (9, 97, 9, 14, 452), (9, 100, 9, 15, 453)]
def mT : List (Nat × Nat × Nat × Nat × Nat) := [(11, 9, 127, 121, 0), (11, 12, 166, 1192, 0), (11, 13, 128, 487, 0), (11, 17, 186, 1356, 0), (11, 18, 129, 585, 0), (11, 22, 191, 1368, 0), (11, 23, 130, 603, 0), (11, 26, 184, 1329, 0), (11, 27, 131, 618, 0), (11, 31, 206, 1380, 0), (11, 32, 132, 648, 0), (11, 35, 207, 1400, 0), (11, 36, 133, 652, 0), (11, 40, 209, 1408, 0), (11, 41, 134, 660, 0), (11, 45, 210, 1416, 0), (11, 46, 135, 664, 0), (11, 50, 228, 1420, 0), (11, 51, 136, 850, 0), (11, 54, 229, 1490, 0), (11, 55, 137, 854, 0), (11, 58, 232, 1494, 0), (11, 59, 138, 868, 0), (11, 63, 233, 1526, 0), (11, 64, 139, 878, 0), (11, 67, 236, 1546, 0), (11, 68, 140, 897, 0), (11, 71, 238, 1558, 0), (11, 72, 141, 908, 0), (11, 75, 239, 1566, 0), (11, 76, 142, 913, 0), (11, 79, 240, 1574, 0), (11, 80, 143, 917, 0), (11, 83, 245, 1578, 0), (11, 84, 144, 967, 0), (11, 87, 249, 1598, 0), (11, 88, 145, 995, 0), (11, 91, 252, 1614, 0), (11, 92, 146, 1016, 0), (11, 95, 254, 1626, 0), (11, 96, 147, 1038, 0), (11, 99, 255, 1638, 0), (11, 100, 148, 1055, 0), (11, 103, 256, 1642, 0), (11, 104, 149, 1069, 0), (11, 107, 257, 1646, 0), (11, 108, 150, 1082, 0), (11, 111, 258, 1650, 0), (11, 112, 151, 1091, 0), (11, 115, 259, 1654, 0), (11, 116, 152, 1099, 0), (11, 119, 261, 1658, 0), (11, 120, 153, 1120, 0), (11, 123, 262, 1666, 0), (11, 124, 154, 1130, 0), (11, 127, 264, 1670, 0), (11, 128, 155, 1138, 0), (11, 131, 265, 1678, 0), (11, 132, 156, 1143, 0), (11, 135, 266, 1682, 0), (11, 136, 157, 1151, 0), (11, 139, 267, 1686, 0), (11, 140, 158, 1156, 0), (11, 143, 268, 1690, 0), (11, 144, 159, 1164, 0), (11, 147, 269, 1694, 0), (11, 148, 160, 1176, 0), (11, 151, 270, 1698, 0), (0, 36, 113, 221, 0), (0, 47, 18, 890, 0), (0, 53, 126, 891, 0), (0, 57, 19, 895, 0), (0, 61, 24, 896, 0), (0, 65, 121, 905, 0), (0, 69, 124, 906, 0), (0, 73, 25, 907, 0), (0, 76, 114, 925, 0), (0, 78, 91, 929, 0), (0, 83, 16, 933, 0), (0, 86, 116, 934, 0), (0, 89, 95, 952, 0), (0, 92, 2, 957, 0), (0, 96, 115, 962, 0), (0, 99, 29, 966, 0), (0, 100, 5, 975, 0), (0, 104, 52, 976, 0), (0, 110, 50, 977, 0), (0, 113, 51, 978, 0), (0, 116, 8, 982, 0), (0, 120, 9, 986, 0), (0, 123, 1, 990, 0), (0, 127, 3, 1014, 0), (0, 130, 12, 1003, 0), (0, 133, 23, 1009, 0), (0, 136, 10, 1010, 0), (0, 139, 97, 1007, 0), (0, 142, 96, 1008, 0), (1, 17, 14, 133, 0), (1, 21, 18, 421, 0), (1, 25, 19, 422, 0), (1, 29, 20, 507, 0), (1, 32, 24, 430, 0), (1, 36, 22, 519, 0), (1, 39, 16, 529, 0), (1, 42, 23, 426, 0), (1, 45, 30, 543, 0), (1, 48, 27, 544, 0), (1, 51, 33, 534, 0), (1, 54, 29, 1128, 0), (1, 57, 25, 1129, 0), (10, 56, 185, 1196, 0), (10, 59, 167, 1232, 0), (10, 63, 169, 1204, 0), (10, 67, 170, 1200, 0), (10, 70, 174, 1212, 0), (10, 74, 173, 1208, 0), (10, 84, 171, 1224, 0), (10, 87, 176, 1228, 0), (10, 90, 177, 1220, 0), (10, 94, 178, 1216, 0), (10, 97, 180, 1352, 0), (10, 100, 182, 1364, 0), (10, 103, 172, 1333, 0), (10, 107, 168, 1337, 0), (10, 111, 175, 1340, 0), (10, 114, 179, 1344, 0), (10, 117, 181, 1348, 0), (10, 126, 183, 1360, 0), (10, 129, 187, 1372, 0), (10, 132, 188, 1376, 0), (10, 135, 192, 1384, 0), (10, 139, 194, 1392, 0), (10, 142, 190, 1514, 0), (10, 145, 203, 1396, 0), (10, 148, 204, 1388, 0), (10, 151, 205, 1404, 0), (10, 157, 208, 1412, 0), (10, 163, 211, 1432, 0), (10, 172, 213, 1436, 0), (10, 179, 212, 1440, 0), (10, 195, 218, 1471, 0), (10, 198, 216, 1459, 0), (10, 204, 217, 1478, 0), (10, 207, 214, 1428, 0), (10, 217, 219, 1467, 0), (10, 222, 221, 1463, 0), (10, 225, 220, 1474, 0), (10, 228, 222, 1454, 0), (10, 232, 223, 1482, 0), (10, 235, 224, 1486, 0), (10, 239, 215, 1447, 0), (10, 243, 225, 1450, 0), (10, 246, 226, 1443, 0), (10, 249, 227, 1424, 0), (10, 252, 195, 1510, 0), (10, 255, 193, 1518, 0), (10, 258, 189, 1502, 0), (10, 261, 230, 1506, 0), (10, 265, 196, 1522, 0), (10, 269, 231, 1498, 0), (10, 272, 202, 1530, 0), (10, 275, 201, 1534, 0), (10, 278, 200, 1538, 0), (10, 281, 199, 1542, 0), (10, 284, 234, 1554, 0), (10, 287, 235, 1550, 0), (10, 290, 237, 1562, 0), (10, 293, 198, 1570, 0), (10, 296, 241, 1582, 0), (10, 299, 243, 1594, 0), (10, 302, 242, 1586, 0), (10, 305, 244, 1590, 0), (10, 308, 246, 1610, 0), (10, 311, 247, 1606, 0), (10, 314, 248, 1602, 0), (10, 317, 250, 1618, 0), (10, 320, 251, 1622, 0), (10, 323, 197, 1634, 0), (10, 326, 253, 1630, 0), (10, 329, 260, 1662, 0), (10, 332, 263, 1674, 0), (2, 52, 122, 1028, 0), (2, 56, 124, 1029, 0), (2, 60, 125, 1030, 0), (2, 64, 120, 1037, 0), (2, 68, 114, 1046, 0), (2, 73, 121, 1047, 0), (2, 76, 16, 1048, 0), (2, 81, 117, 1049, 0), (2, 85, 2, 1054, 0), (2, 89, 91, 1063, 0), (2, 95, 126, 1064, 0), (2, 98, 97, 1065, 0), (2, 102, 96, 1066, 0), (2, 105, 95, 1067, 0), (2, 108, 26, 1068, 0), (2, 111, 43, 1077, 0), (2, 115, 15, 1081, 0), (2, 118, 92, 1090, 0), (2, 121, 3, 1107, 0), (2, 124, 48, 1108, 0), (2, 127, 94, 1111, 0), (2, 130, 47, 1115, 0), (2, 134, 4, 1119, 0), (3, 29, 27, 515, 0), (3, 33, 15, 523, 0), (3, 37, 18, 524, 0), (3, 40, 30, 525, 0), (3, 44, 34, 530, 0), (3, 47, 26, 535, 0), (3, 50, 32, 539, 0), (3, 53, 55, 545, 0), (3, 57, 53, 565, 0), (3, 60, 54, 569, 0), (3, 64, 58, 573, 0), (3, 67, 31, 561, 0), (3, 70, 56, 549, 0), (3, 74, 57, 557, 0), (3, 77, 25, 553, 0), (4, 63, 62, 676, 0), (4, 67, 65, 704, 0), (4, 77, 82, 683, 0), (4, 80, 66, 708, 0), (4, 83, 73, 766, 0), (4, 87, 67, 770, 0), (4, 91, 72, 801, 0), (4, 96, 80, 713, 0), (4, 102, 68, 774, 0), (4, 105, 76, 834, 0), (4, 109, 69, 778, 0), (4, 112, 77, 830, 0), (4, 116, 70, 782, 0), (4, 119, 79, 816, 0), (4, 123, 71, 786, 0), (4, 128, 75, 791, 0), (4, 132, 78, 805, 0), (4, 135, 93, 790, 0), (4, 140, 74, 795, 0), (4, 143, 121, 799, 0), (4, 151, 23, 810, 0), (4, 157, 123, 811, 0), (4, 161, 124, 820, 0), (4, 165, 122, 809, 0), (4, 173, 81, 687, 0), (4, 180, 84, 691, 0), (4, 183, 83, 694, 0), (4, 186, 85, 698, 0), (4, 189, 86, 701, 0), (5, 35, 18, 405, 0), (5, 38, 16, 409, 0), (5, 41, 89, 413, 0), (5, 44, 15, 434, 0), (5, 48, 33, 417, 0), (6, 42, 122, 398, 0), (6, 48, 107, 636, 0), (6, 51, 120, 633, 0), (6, 55, 109, 640, 0), (6, 59, 112, 644, 0), (7, 31, 121, 938, 0), (7, 37, 117, 939, 0), (7, 47, 19, 944, 0), (7, 52, 22, 945, 0), (7, 56, 118, 946, 0), (7, 60, 23, 951, 0), (7, 63, 24, 950, 0), (8, 20, 24, 815, 0), (8, 26, 120, 824, 0), (8, 30, 97, 825, 0), (8, 34, 95, 829, 0), (8, 37, 121, 1034, 0), (8, 41, 96, 1035, 0), (8, 44, 26, 1036, 0), (9, 9, 13, 129, 0), (9, 18, 87, 147, 0), (9, 27, 49, 176, 0), (9, 34, 119, 198, 0), (9, 43, 0, 215, 0), (9, 52, 37, 272, 0), (9, 61, 59, 306, 0), (9, 70, 98, 356, 1), (9, 103, 99, 390, 0), (9, 107, 100, 394, 0), (9, 111, 88, 401, 0), (9, 115, 15, 491, 0), (9, 119, 14, 492, 0), (9, 122, 161, 493, 0), (9, 126, 92, 581, 0), (9, 129, 93, 589, 0), (9, 132, 25, 593, 0), (9, 136, 26, 594, 0), (9, 139, 95, 595, 0), (9, 142, 96, 599, 0), (9, 145, 17, 497, 0), (9, 146, 28, 607, 0), (9, 150, 29, 611, 0), (9, 151, 30, 615, 0), (9, 154, 31, 616, 0), (9, 155, 32, 617, 0), (9, 158, 164, 622, 0), (9, 162, 110, 629, 0), (9, 166, 165, 656, 0), (9, 169, 103, 668, 0), (9, 171, 60, 672, 0), (9, 175, 61, 838, 0), (9, 184, 104, 845, 0), (9, 187, 62, 858, 0), (9, 190, 65, 859, 0), (9, 193, 63, 860, 0), (9, 197, 64, 864, 0), (9, 201, 108, 872, 0), (9, 204, 109, 876, 0), (9, 208, 120, 877, 0), (9, 212, 162, 882, 0), (9, 215, 1, 886, 0), (9, 219, 2, 901, 0), (9, 223, 126, 912, 0), (9, 226, 3, 921, 0), (9, 230, 4, 953, 0), (9, 233, 5, 958, 0), (9, 236, 7, 971, 0), (9, 239, 6, 991, 0), (9, 242, 11, 999, 0), (9, 245, 10, 1015, 0), (9, 248, 163, 1020, 0), (9, 251, 38, 1024, 0), (9, 255, 39, 1042, 0), (9, 259, 40, 1050, 0), (9, 263, 41, 1059, 0), (9, 267, 42, 1073, 0), (9, 270, 44, 1086, 0), (9, 273, 45, 1095, 0), (9, 276, 46, 1103, 0), (9, 279, 35, 1124, 0), (9, 282, 21, 503, 0), (9, 285, 18, 501, 0), (9, 288, 36, 1134, 0), (9, 291, 52, 511, 0), (9, 294, 50, 577, 0), (9, 297, 51, 1142, 0), (9, 299, 111, 1147, 0), (9, 302, 112, 1155, 0), (9, 305, 105, 1160, 0), (9, 308, 101, 1168, 0), (9, 309, 102, 1172, 0), (9, 312, 90, 1180, 0), (9, 313, 91, 1184, 0), (9, 315, 107, 1185, 0), (9, 317, 106, 1186, 0), (9, 320, 16, 502, 0), (9, 323, 121, 626, 0)]
def nT : List (Nat × Nat × Nat × Nat) := [(11, 7, 9, 119), (11, 10, 10, 1190), (0, 17, 7, 219), (9, 7, 1, 127), (9, 16, 5, 145), (9, 25, 3, 174), (9, 32, 8, 196), (9, 41, 0, 213), (9, 50, 2, 270), (9, 59, 4, 304), (9, 68, 6, 354)]
def cT : List (Nat × Nat) := [(214, 107), (128, 103), (271, 109), (175, 105), (305, 110), (146, 104), (355, 111), (220, 108), (197, 106), (120, 102), (1191, 112)]
def jT : List (Nat × Nat × Nat × Nat) := [(217, 107, 216, 0), (889, 107, 887, 888), (904, 107, 902, 903), (924, 107, 922, 923), (956, 107, 954, 955), (961, 107, 959, 960), (994, 107, 992, 993), (974, 107, 972, 973), (985, 107, 984, 30), (989, 107, 988, 31), (1013, 107, 1011, 1012), (1002, 107, 1000, 1001), (1006, 107, 1005, 32), (131, 103, 130, 0), (136, 103, 134, 135), (437, 103, 435, 436), (412, 103, 410, 411), (500, 103, 498, 499), (408, 103, 406, 407), (425, 103, 423, 424), (510, 103, 508, 509), (506, 103, 504, 505), (522, 103, 520, 521), (429, 103, 427, 428), (433, 103, 431, 432), (556, 103, 554, 555), (538, 103, 536, 537), (518, 103, 516, 517), (610, 103, 608, 609), (614, 103, 612, 613), (528, 103, 526, 527), (564, 103, 562, 563), (542, 103, 540, 541), (420, 103, 418, 419), (533, 103, 531, 532), (1127, 103, 1125, 1126), (1137, 103, 1135, 1136), (274, 109, 273, 0), (1027, 109, 1025, 1026), (1045, 109, 1043, 1044), (1053, 109, 1051, 1052), (1062, 109, 1060, 1061), (1076, 109, 1074, 1075), (1080, 109, 1079, 34), (1089, 109, 1087, 1088), (1098, 109, 1096, 1097), (1106, 109, 1104, 1105), (1118, 109, 1117, 35), (1110, 109, 1109, 0), (178, 105, 177, 0), (580, 105, 578, 579), (981, 105, 979, 980), (514, 105, 512, 513), (568, 105, 567, 5), (572, 105, 571, 6), (548, 105, 547, 2), (552, 105, 551, 3), (560, 105, 559, 4), (576, 105, 575, 7), (308, 110, 307, 0), (675, 110, 673, 674), (841, 110, 839, 840), (679, 110, 677, 678), (863, 110, 861, 862), (867, 110, 865, 866), (707, 110, 705, 706), (711, 110, 710, 13), (773, 110, 772, 16), (777, 110, 776, 17), (781, 110, 780, 18), (785, 110, 784, 19), (789, 110, 788, 20), (804, 110, 803, 23), (769, 110, 768, 15), (798, 110, 797, 22), (794, 110, 793, 21), (837, 110, 836, 27), (833, 110, 832, 26), (808, 110, 807, 24), (819, 110, 818, 25), (716, 110, 715, 14), (690, 110, 689, 11), (686, 110, 685, 10), (697, 110, 696, 12), (693, 110, 692, 0), (700, 110, 699, 0), (703, 110, 702, 0), (149, 104, 148, 0), (404, 104, 402, 403), (416, 104, 415, 0), (1183, 104, 1181, 1182), (932, 104, 930, 931), (584, 104, 582, 583), (592, 104, 590, 591), (1114, 104, 1112, 1113), (598, 104, 596, 597), (602, 104, 600, 601), (828, 104, 826, 827), (358, 111, 357, 0), (393, 111, 391, 392), (397, 111, 395, 396), (1171, 111, 1169, 1170), (1175, 111, 1173, 1174), (671, 111, 669, 670), (848, 111, 846, 847), (1163, 111, 1161, 1162), (1189, 111, 1187, 1188), (639, 111, 637, 638), (875, 111, 873, 874), (643, 111, 641, 642), (632, 111, 630, 631), (1150, 111, 1148, 1149), (647, 111, 645, 646), (223, 108, 222, 0), (928, 108, 926, 927), (965, 108, 963, 964), (937, 108, 935, 936), (942, 108, 940, 941), (949, 108, 948, 29), (200, 106, 199, 0), (635, 106, 634, 0), (628, 106, 627, 0), (400, 106, 399, 0), (814, 106, 812, 813), (823, 106, 821, 822), (1033, 106, 1031, 1032), (894, 106, 892, 893), (123, 102, 122, 0), (490, 102, 488, 489), (588, 102, 586, 587), (606, 102, 604, 605), (621, 102, 619, 620), (651, 102, 649, 650), (655, 102, 653, 654), (663, 102, 661, 662), (667, 102, 665, 666), (853, 102, 851, 852), (857, 102, 855, 856), (871, 102, 869, 870), (881, 102, 879, 880), (900, 102, 898, 899), (911, 102, 909, 910), (916, 102, 914, 915), (920, 102, 918, 919), (970, 102, 968, 969), (998, 102, 996, 997), (1019, 102, 1017, 1018), (1041, 102, 1039, 1040), (1058, 102, 1056, 1057), (1072, 102, 1070, 1071), (1085, 102, 1083, 1084), (1094, 102, 1092, 1093), (1102, 102, 1100, 1101), (1123, 102, 1121, 1122), (1133, 102, 1131, 1132), (1141, 102, 1139, 1140), (1146, 102, 1144, 1145), (1154, 102, 1152, 1153), (1159, 102, 1157, 1158), (1167, 102, 1165, 1166), (1179, 102, 1177, 1178), (496, 102, 495, 1), (885, 102, 884, 28), (1023, 102, 1022, 33), (625, 102, 624, 8), (659, 102, 658, 9), (1194, 112, 1193, 0), (1234, 112, 1233, 0), (1339, 112, 1338, 0), (1207, 112, 1206, 38), (1203, 112, 1202, 37), (1227, 112, 1226, 43), (1336, 112, 1335, 45), (1211, 112, 1210, 39), (1215, 112, 1214, 40), (1343, 112, 1342, 46), (1231, 112, 1230, 44), (1223, 112, 1222, 42), (1219, 112, 1218, 41), (1347, 112, 1346, 47), (1355, 112, 1354, 49), (1351, 112, 1350, 48), (1367, 112, 1366, 51), (1363, 112, 1362, 50), (1332, 112, 1330, 1331), (1199, 112, 1198, 36), (1359, 112, 1357, 1358), (1375, 112, 1374, 52), (1379, 112, 1378, 53), (1505, 112, 1504, 74), (1517, 112, 1516, 77), (1371, 112, 1369, 1370), (1387, 112, 1386, 54), (1521, 112, 1520, 78), (1395, 112, 1394, 56), (1513, 112, 1512, 76), (1525, 112, 1524, 79), (1637, 112, 1636, 98), (1573, 112, 1572, 87), (1545, 112, 1544, 83), (1541, 112, 1540, 82), (1537, 112, 1536, 81), (1533, 112, 1532, 80), (1399, 112, 1398, 57), (1391, 112, 1390, 55), (1407, 112, 1406, 58), (1383, 112, 1381, 1382), (1403, 112, 1401, 1402), (1415, 112, 1414, 59), (1411, 112, 1409, 1410), (1419, 112, 1417, 1418), (1435, 112, 1434, 62), (1442, 112, 1441, 0), (1438, 112, 1437, 0), (1431, 112, 1430, 61), (1449, 112, 1448, 0), (1462, 112, 1461, 66), (1481, 112, 1480, 70), (1473, 112, 1472, 0), (1470, 112, 1469, 68), (1477, 112, 1476, 69), (1466, 112, 1465, 67), (1457, 112, 1456, 65), (1485, 112, 1484, 71), (1489, 112, 1488, 72), (1453, 112, 1452, 64), (1446, 112, 1445, 63), (1427, 112, 1426, 60), (1423, 112, 1421, 1422), (1493, 112, 1491, 1492), (1509, 112, 1508, 75), (1501, 112, 1500, 73), (1497, 112, 1495, 1496), (1529, 112, 1527, 1528), (1557, 112, 1556, 85), (1553, 112, 1552, 84), (1549, 112, 1547, 1548), (1565, 112, 1564, 86), (1561, 112, 1559, 1560), (1569, 112, 1567, 1568), (1577, 112, 1575, 1576), (1585, 112, 1584, 88), (1589, 112, 1588, 89), (1597, 112, 1596, 91), (1593, 112, 1592, 90), (1581, 112, 1579, 1580), (1613, 112, 1612, 94), (1609, 112, 1608, 93), (1605, 112, 1604, 92), (1601, 112, 1599, 1600), (1621, 112, 1620, 95), (1625, 112, 1624, 96), (1617, 112, 1615, 1616), (1633, 112, 1632, 97), (1629, 112, 1627, 1628), (1641, 112, 1639, 1640), (1645, 112, 1643, 1644), (1649, 112, 1647, 1648), (1653, 112, 1651, 1652), (1657, 112, 1655, 1656), (1665, 112, 1664, 99), (1661, 112, 1659, 1660), (1669, 112, 1667, 1668), (1677, 112, 1676, 100), (1673, 112, 1671, 1672), (1681, 112, 1679, 1680), (1685, 112, 1683, 1684), (1689, 112, 1687, 1688), (1693, 112, 1691, 1692), (1697, 112, 1695, 1696), (1701, 112, 1699, 1700), (0, 0, 0, 0)]
def stL : List Bool := [false, false, false, false, false, false, false, false, false, false, false, false, false, false, false, false, false, false, false, false, false, false, false, false, false, false, false, false, false, false, false, false, false, false, false, false, false, false, false, false, false, false, false, false, false, false, false, false, true, false, false, false, false, false, false, false, false, false, false, false, false, false, false, false, false, false, false, false, false, false, false, false, false, false, false, false, false, false, false, false, false, false, false, false, true, true, true, false, false, false, false, false, false, false, false, false, false, false, false, false, false, false, false, false, false, false, false, false, false, false, false, false, false, false, false, false, false, false, false, false, true, true, true, false, false, false, false, false, false, false, false, false, false, false, false, false, false, false, false, false, false, false, false, false, false, false, false, false, false, false, false, false, false, false, false, false, false, false, false, false, false, false, false, false, false, false, false, true, true, false, false, false, false, false, false, false, false, false, false, false, false, false, false, false, false, false, false, false, false, false, false, false, false, false, false, false, false, false, false, false, false, false, false, false, false, false, false, false, false, false, false, false, true, true, false, true, false, false, true, false, false, false, false, false, false, false, false, false, false, false, false, false, false, false, false, false, false, false, false, false, false, false, false, false, false, false, false, false, false, false, false, false, false, false, false, false, false, false, false, false, false, false, false, false, false, false, false, false, false, false, false, false]
def naL : List Nat := [2, 3, 3, 1, 2, 1, 1, 1, 2, 2, 1, 1, 1, 0, 1, 0, 1, 1, 1, 2, 1, 1, 1, 1, 3, 2, 2, 1, 2, 2, 2, 2, 2, 3, 2, 2, 2, 1, 3, 2, 4, 3, 2, 3, 2, 1, 1, 4, 2, 1, 0, 1, 1, 2, 1, 2, 3, 1, 0, 1, 2, 0, 3, 0, 0, 0, 0, 2, 2, 2, 2, 1, 1, 1, 1, 3, 2, 1, 1, 2, 1, 1, 0, 0, 1, 1, 1, 1, 1, 1, 0, 0, 0, 1, 1, 2, 2, 2, 0, 2, 1, 0, 0, 0, 0, 0, 0, 1, 2, 2, 2, 0, 0, 1, 0, 0, 2, 2, 4, 1, 1, 1, 2, 3, 2, 3, 2, 0, 2, 3, 3, 4, 3, 5, 1, 0, 1, 1, 3, 3, 3, 2, 3, 2, 2, 2, 3, 3, 2, 2, 2, 2, 1, 2, 2, 2, 0, 0, 0, 0, 1, 1, 2, 2, 4, 1, 0, 2, 3, 1, 1, 2, 1, 3, 2, 2, 1, 2, 2, 2, 1, 2, 1, 1, 3, 0, 2, 1, 2, 1, 2, 3, 1, 2, 1, 3, 3, 3, 2, 2, 2, 1, 1, 1, 1, 1, 4, 3, 1, 5, 1, 1, 1, 1, 0, 3, 2, 1, 1, 1, 1, 0, 0, 0, 0, 0, 0, 0, 0, 1, 2, 2, 1, 3, 2, 3, 3, 3, 3, 2, 3, 1, 1, 1, 1, 2, 2, 2, 1, 2, 1, 1, 2, 2, 3, 3, 2, 2, 2, 2, 2, 1, 2, 2, 2, 2, 0, 0, 0, 0, 1, 1]
def stt (i : Nat) : Bool := stL.getD i false
def na (i : Nat) : Nat := naL.getD i 0
def rxl : List (Nat × List (Option Nat)) := [(0, [some 1, some 3, some 7, some 10, some 11, some 68, some 73, some 96, some 121, some 146, some 151, some 152, some 153, none, none, none]), (1, [none, some 2]), (3, [some 1, none, none, none, some 4, some 5, some 6]), (7, [some 1, some 8, some 9, none, none]), (10, [some 3, some 1]), (11, [some 10, some 3, some 1, some 14, some 7, some 12, some 13]), (14, [some 1, some 15, some 65, some 66, some 67]), (68, [some 11, some 10, some 3, some 1, some 14, some 69, some 70, some 71, some 72]), (73, [some 10, some 3, some 74, none, none, none, none, none, none, none, none, none, none, none]), (96, [none, none, none, none, none, some 97, some 108, some 119, some 120]), (121, [none, none, none, none, none, some 122, some 133, some 144, some 145])]
def rml : List (Nat × List (Option Nat)) := [(154, [some 155, some 156, some 157, none, none, some 158, some 159, some 160, some 161, none, none, some 162, none, none, none, none, none, none, none, none, none, none, none, none, some 163, none, none, some 164, some 165, some 166, some 167])]
def rlk (o k : Nat) : List (Nat × List (Option Nat)) → Option Nat
  | [] => none
  | q :: r => match Nat.beq q.1 o with
    | true => q.2.getD k none
    | false => rlk o k r
def RX (y : Nat → Nat → Option Nat) (o k : Nat) : Option Nat := match Nat.ble (o + 1) 154 with
  | true => rlk o k rxl
  | false => y o k
def RM (o k : Nat) : Option Nat := rlk o k rml
abbrev tX : Nat × Nat × Nat := (154, 0, 0)
abbrev tM : Nat × Nat × Nat := (168, 0, 0)
end
section
/-! THE READER OF THE BYTECODE: 'vi', 'vc' turn a stretch of code into what must hold for it (a Prop), 'wp' is what they stand for on the machine. -/
abbrev GC := va_G × (Nat → ClassId) × Nat × Heap × (Nat → Nat) × Nat × (Nat → Int32)
abbrev Mem := (Nat → Nat → Int32) × (Nat → Nat → Int64) × (Nat → Nat → Option Nat)
abbrev LV := List (Nat × Value)
abbrev T3 := Nat × Nat × Nat
abbrev gD (G : GC) : va_G := G.1
abbrev gcy (G : GC) : Nat → ClassId := G.2.1
abbrev gb (G : GC) : Nat := G.2.2.1
abbrev gH (G : GC) : Heap := G.2.2.2.1
abbrev gsp (G : GC) : Nat → Nat := G.2.2.2.2.1
abbrev gLn (G : GC) : Nat := G.2.2.2.2.2.1
abbrev gxs (G : GC) : Nat → Int32 := G.2.2.2.2.2.2
/-- the first address that is none of ours: the script, then the String constants -/
abbrev SP : Nat := 1000000000
def adr (G : GC) (k : Nat) : Nat := if k < SP then gb G + k else gsp G (k - SP)
def lf (G : GC) : Value → Value
  | .ref k => .ref (adr G k)
  | v => v
def lst (G : GC) (st : List Value) : List Value := st.map (lf G)
def lfl (G : GC) (l : LV) : LV := l.map (fun q => (q.1, lf G q.2))
theorem lf_cat (G : GC) (v : Value) : (lf G v).category = v.category := by cases v <;> rfl
abbrev ix (x : Int32) : Nat := x.toNatClampNeg
def isB (x : Int32) : Prop := x = 0 ∨ x = 1
def fv (G : GC) (M : Mem) (c j k : Nat) : Value := match fty c k with
  | 0 => .int (M.1 j k)
  | 1 => .long (M.2.1 j k)
  | 2 => va_rf ((M.2.2 j k).map (adr G))
  | 3 => .int (M.1 j k)
  | _ => if M.1 j k = 0 then .null else .ref (gb G + ix (M.1 j k))
def cellOf (G : GC) (M : Mem) (j : Nat) : va_E :=
  if ak j = 11 then .inl (gcy G 0, an j, .inl (M.1 j))
  else if ak j = 12 then .inl (gcy G 1, an j, .inl (M.1 j))
  else if ak j = 13 then .inl (gcy G 2, an j, .inr (.inr (.inr (.inr (fun i => some (gb G + rb j + i))))))
  else .inr (ak j, (List.range (an j)).map (fun k => fv G M (ak j) j k))
/-- the heap holds the first cur of our cells as M has them; what was there before is as it was -/
def Rel (G : GC) (cur : Nat) (M : Mem) (H : Heap) : Prop :=
  H.size = gb G + cur ∧ (∀ q, q < gb G → H[q]? = (gH G)[q]?) ∧ (∀ j, j < cur → va_at (gD G) vwCl (gb G + j, cellOf G M j) H) ∧
  ∀ j, cur ≤ j → (∀ k, M.1 j k = 0) ∧ (∀ k, M.2.1 j k = 0) ∧ ∀ k, M.2.2 j k = none
def strB : List (List Int32) := [[109, 111, 100, 117, 108, 101], [109, 97, 112], [116]]
def STR (G : GC) (s : State) : Prop :=
  vk_R "PowersForTimes$Reader" 94 "module" (gsp G 1) s ∧ vk_R "PowersForTimes$Reader" 100 "map" (gsp G 2) s ∧ vk_R "PowersForTimes$Reader" 126 "t" (gsp G 3) s ∧
  (∃ adV : Nat → Nat, vk_S 3 [6, 3, 1] strB (fun i => gsp G (i + 1)) adV (fun q => gb G ≤ q) s (gH G)) ∧
  va_Z "java/lang/String" "COMPACT_STRINGS" "Z" (.int 1) (fun q => gb G ≤ q) s (gH G) ∧ va_Zq "jdk/internal/util/Preconditions" "SIOOBE_FORMATTER" "Ljava/util/function/BiFunction;" (fun q => gb G ≤ q) s (gH G)
/-- the class of int[][] is there, over that of int[] -/
def AOA (U : State) : Prop := ∃ (comp c : ClassId) (k : Class) (comp2 : ClassId), U.vm.findClass (FieldType.array .int).toString = some comp ∧ (U.vm.classes.findIdx? fun (x : Class) => match x.kind with | .array component _ => component == comp | _ => false) = some c ∧
  U.vm.classes[c]? = some k ∧ k.kind = .array comp2 (.array .int) ∧ U.vm.findClass ("[" ++ (FieldType.array .int).toString) = some c
theorem AOA.of {A : Array Value} {U : State} (h : (Jvm.Cond.arrayOver (.array .int)).before A U = true) : AOA U := by
  simp only [Cond.before, Cond.holds, Cond.value, beq_iff_eq] at h
  cases hc : U.vm.findClass (FieldType.array .int).toString with
  | none => simp [hc] at h
  | some comp =>
    simp only [hc, Option.bind_some, Option.bind_eq_some_iff, Option.map_eq_some_iff] at h
    obtain ⟨c, hi, k, hk, hb⟩ := h
    cases hkind : k.kind with
    | array component ty =>
      rw [hkind] at hb
      simp at hb
      exact ⟨comp, c, k, component, hc, hi, hk, by rw [hkind, hb.1], hb.2⟩
    | _ => rw [hkind] at hb; simp at hb
theorem AOA.use {A : Array Value} {U : State} (h : AOA U) : (Jvm.Cond.arrayOver (.array .int)).before A U = true := by
  obtain ⟨comp, c, k, comp2, h1, h2, h3, h4, h5⟩ := h
  simp only [Cond.before, Cond.holds, Cond.value, beq_iff_eq]
  simp only [h1, Option.bind_some]
  refine Option.bind_eq_some_iff.mpr ⟨c, h2, ?_⟩
  simp [h3, h4, h5]
theorem AOA.moved {u U : State} (hvm : u.vm.Alike U.vm) (h : AOA u) : AOA U := by
  obtain ⟨comp, c, k, comp2, h1, h2, h3, h4, h5⟩ := h
  obtain ⟨k', hk', he⟩ := hvm.2.2 _ _ h3
  refine ⟨comp, c, k', comp2, by rw [hvm.findClass]; exact h1, ?_, hk', by rw [he]; exact h4, by rw [hvm.findClass]; exact h5⟩
  refine Eq.trans (va_idx_bare U.vm comp).symm ?_
  have hb : U.vm.bare = u.vm.bare := by first | exact hvm.bare_eq | exact hvm.bare_eq.symm
  rw [hb]
  exact (va_idx_bare u.vm comp).trans h2
def EF (G : GC) (s : State) : Prop :=
  va_K (gD G) vwCl [(gcy G 0, .int), (gcy G 1, .boolean), (gcy G 2, .array .int)] s ∧ va_X (gsp G 0) (gLn G) (gxs G) s (gH G) ∧ gsp G 0 < gb G ∧ (gH G).size = gb G ∧ STR G s ∧ AOA s ∧ va_Nw (.methodLinkNest RX9 70 yX6_init "PowersForTimes") s
/-- the tables' words that stay good in a call -/
def gdt : List Jvm.Cond := lw_tbl.filter goodWord
def Ctx (G : GC) (e i : Nat) (p : Program) (R : Room) (s : State) (m : MethodId) (args : Array Value) (meth : Method) (c : Code) : Prop :=
  p.tables.exec = Jvm.exec ∧ c.code = bC i ∧ c.maxLocals = nL i ∧ s.vm.findClass (ow i) = some m.cls ∧ (∀ w ∈ gdt, w.before args s = true) ∧ meth.sig.returnType = rT i ∧ meth.locks = false ∧ (mx i = true → oC i < 11 → meth.name = "<init>") ∧ EF G s ∧ dep i + e ≤ R.frames ∧ 60 * (dep i + e) ≤ R.locals
/-- the return instruction at pc, and a value that fits it -/
def RetAt (i pc : Nat) (v : Option Value) : Prop := match v with
  | none => decode (bC i) pc = .ok (.return_, 1) ∧ rT i = none
  | some (.int x) => decode (bC i) pc = .ok (.ireturn, 1) ∧ ((rT i = some .int) ∨ (rT i = some .boolean ∧ isB x))
  | some (.long _) => decode (bC i) pc = .ok (.lreturn, 1) ∧ rT i = some .long
  | some (.ref _) => decode (bC i) pc = .ok (.areturn, 1) ∧ rT i = some (.array .int)
  | _ => False
def curOk (i lb cur : Nat) : Prop := (mx i = true → cur = lb) ∧ lb ≤ cur
def Fnl (G : GC) (i : Nat) (Q : Option Value → Mem → Prop) (p : Program) (lch : Launch) (e0 : Env) (R : Room) (s : State) (m : MethodId) (args : Array Value) (below : List Frame) (meth : Method) (c : Code) (Z : State → Prop) (mc ms cur : Nat) (mr : Nat → Nat → Option Nat) : Prop :=
  ∀ (v : Option Value) (M : Mem) (H : Heap) (locs : List Loc) (cells slots pc : Nat) (ls : Array Slot), Q v M → (mx i = false → M.2.2 = mr) → Rel G cur M H → (∀ z ∈ locs, gb G ≤ z.base) → cells ≤ mc → slots ≤ ms → RetAt i pc v →
    W p lch e0 R s m args below meth c H locs cells slots Z (F0 m pc ls (lst G v.toList))
/-- from pc, with the locals l and the stack st over the memory M, the method i comes to its end with Q; t: how many cells there are, how many cells and slots it may yet make -/
def wp (G : GC) (e : Nat) (t : T3) (i pc : Nat) (l : LV) (st : List Value) (M : Mem) (Q : Option Value → Mem → Prop) : Prop :=
  ∀ (p : Program) (lch : Launch) (e0 : Env) (R : Room) (s : State) (m : MethodId) (args : Array Value) (below : List Frame) (meth : Method) (c : Code) (H : Heap) (locs : List Loc) (cells slots : Nat) (Z : State → Prop) (ls : Array Slot) (mc ms cur : Nat),
    Ctx G e i p R s m args meth c → curOk i t.1 cur → Rel G cur M H → (∀ z ∈ locs, gb G ≤ z.base) → lv_has ls (nL i) (lfl G l) → cells + t.2.1 ≤ mc → slots + t.2.2 ≤ ms → mc ≤ R.cells → ms ≤ R.slots →
    Fnl G i Q p lch e0 R s m args below meth c Z mc ms (cur + t.2.1) M.2.2 → W p lch e0 R s m args below meth c H locs cells slots Z (F0 m pc ls (lst G st))
def wsM (j : Nat) : List Jvm.Cond := .code (yM j) (bC j) (nL j) (rT j) :: gdt
def rmM (e j : Nat) : Room := { frames := dep j + e, cells := (alc j).1, slots := (alc j).2, locals := 60 * (dep j + e) }
/-- the method j, called with As over M, comes back with K -/
def wpc (G : GC) (e lb j : Nat) (As : List Value) (M : Mem) (K : Option Value → Mem → Prop) : Prop :=
  ∀ (lch : Launch) (cur : Nat), curOk j lb cur → Met lch (yM j) (wsM j) (rmM e j) (va_Pc (lst G As) (fun U => Rel G cur M U.heap ∧ EF G U))
    (fun _ _ o u => ∃ (v : Option Value) (M1 : Mem), o = .returned (v.map (lf G)) ∧ K v M1 ∧ (mx j = false → M1.2.2 = M.2.2) ∧ Rel G (cur + (alc j).1) M1 u.heap) (alc j).1 (alc j).2 (fun q => gb G ≤ q)
def QI (K : Int32 → (Nat → Nat → Int32) → (Nat → Nat → Int64) → Prop) (v : Option Value) (M : Mem) : Prop := match v with
  | some (.int x) => K x M.1 M.2.1
  | _ => False
def QL (K : Int64 → (Nat → Nat → Int32) → (Nat → Nat → Int64) → Prop) (v : Option Value) (M : Mem) : Prop := match v with
  | some (.long x) => K x M.1 M.2.1
  | _ => False
def QR (K : Nat → (Nat → Nat → Int32) → (Nat → Nat → Int64) → Prop) (v : Option Value) (M : Mem) : Prop := match v with
  | some (.ref x) => K x M.1 M.2.1
  | _ => False
def QV (K : (Nat → Nat → Int32) → (Nat → Nat → Int64) → Prop) (v : Option Value) (M : Mem) : Prop := match v with
  | none => K M.1 M.2.1
  | _ => False
def wpI (G : GC) (e lb j : Nat) (As : List Value) (M : Mem) (K : Int32 → (Nat → Nat → Int32) → (Nat → Nat → Int64) → Prop) : Prop := wpc G e lb j As M (QI K)
def wpL (G : GC) (e lb j : Nat) (As : List Value) (M : Mem) (K : Int64 → (Nat → Nat → Int32) → (Nat → Nat → Int64) → Prop) : Prop := wpc G e lb j As M (QL K)
def wpR (G : GC) (e lb j : Nat) (As : List Value) (M : Mem) (K : Nat → (Nat → Nat → Int32) → (Nat → Nat → Int64) → Prop) : Prop := wpc G e lb j As M (QR K)
def wpV (G : GC) (e lb j : Nat) (As : List Value) (M : Mem) (K : (Nat → Nat → Int32) → (Nat → Nat → Int64) → Prop) : Prop := wpc G e lb j As M (QV K)
def ivk (dec e : Nat) (K : Nat → Prop) : Prop := match dec with
  | 0 => K e
  | d + 1 => d + 1 ≤ e ∧ K (e - (d + 1))
def rm (x y : Int32) : Int32 := x - x / y * y
def us (x y : Int32) : Int32 := (x.toUInt32 >>> (y.toUInt32 &&& Int32.toUInt32 31)).toInt32
def sh (x y : Int32) : Int32 := x >>> (y &&& 31)
def lsh (x : Int64) (y : Int32) : Int64 := x <<< (y.toInt64 &&& 63)
-- the words of vi
def lget (l : LV) (i : Nat) : Option Value := (l.find? (fun q => q.1 == i)).map (fun q => q.2)
def lput (l : LV) (i : Nat) (v : Value) : LV := (i, v) :: l.filter (fun q => !(q.1 == i) && !(q.1 + 1 == i && q.2.category == 2))
def lput2 (l : LV) (i : Nat) (v : Value) : LV := (i, v) :: l.filter (fun q => !(q.1 == i) && (!(q.1 == i + 1) && !(q.1 + 1 == i && q.2.category == 2)))
def pick (l : LV) : List Nat → LV
  | [] => []
  | j :: js => match lget l j with
    | some v => (j, v) :: pick l js
    | none => pick l js
def u2 {α : Type} (f : Nat → Nat → α) (o k : Nat) (v : α) : Nat → Nat → α := fun o' k' => if o' = o ∧ k' = k then v else f o' k'
def ur {α : Type} (f : Nat → Nat → α) (o : Nat) (g : Nat → α) : Nat → Nat → α := fun o' => if o' = o then g else f o'
def ic : Int → Int32
  | .ofNat n => nI n
  | .negSucc n => -(nI (n + 1))
def icP (c : Jvm.ClassFile.Cond) (x y : Int32) : Prop := match c with
  | .eq => x = y
  | .ne => ¬ x = y
  | .lt => x < y
  | .ge => y ≤ x
  | .gt => y < x
  | .le => x ≤ y
def icN (c : Jvm.ClassFile.Cond) (x y : Int32) : Prop := match c with
  | .ne => x = y
  | .eq => ¬ x = y
  | .lt => ¬ x < y
  | .ge => ¬ y ≤ x
  | .gt => ¬ y < x
  | .le => ¬ x ≤ y
def sw (x : Int32) (kk : Nat → Prop) (d : Nat) : List Nat → Prop
  | k :: tg :: r => (x = nI k → kk tg) ∧ (¬ x = nI k → sw x kk d r)
  | _ => kk d
def cats (st : List Value) : Nat := (st.map (fun v => v.category)).sum
/-- what a place of an array wants: known by the code's text (b 1), or to be shown (b 0) -/
def arP (b c lb n0 : Nat) (P : Prop) : Prop := match b with
  | 0 => (ak c = n0 ∧ c < lb) ∧ P
  | _ => match Nat.beq (ak c) n0 && Nat.ble (c + 1) lb with
    | true => P
    | false => False
def slen (c : Nat) : Nat := (strB.getD (c - SP - 1) []).length
def schr (c : Nat) (j : Nat) : Int32 := (strB.getD (c - SP - 1) []).getD j 0
def vi (G : GC) (e i : Nat) (Q : Option Value → Mem → Prop) (pc : Nat) (kn : T3 → LV → List Value → Mem → Prop) (kj : Nat → T3 → LV → List Value → Mem → Prop) (I : Instr) (a b : Nat) (tb : List Nat) (t : T3) (l : LV) (st : List Value) (M : Mem) : Prop :=
  match I with
  | .nop => wp G e t i pc (pick l tb) st M Q
  | .aload k => match lget l k with
    | some (.ref x) => kn t l (.ref x :: st) M
    | _ => False
  | .aload_n k => match lget l k.val with
    | some (.ref x) => kn t l (.ref x :: st) M
    | _ => False
  | .iload k => match lget l k with
    | some (.int x) => kn t l (.int x :: st) M
    | _ => False
  | .iload_n k => match lget l k.val with
    | some (.int x) => kn t l (.int x :: st) M
    | _ => False
  | .lload k => match lget l k with
    | some (.long x) => kn t l (.long x :: st) M
    | _ => False
  | .lload_n k => match lget l k.val with
    | some (.long x) => kn t l (.long x :: st) M
    | _ => False
  | .astore k => match st with
    | .ref x :: r => kn t (lput l k (.ref x)) r M
    | _ => False
  | .astore_n k => match st with
    | .ref x :: r => kn t (lput l k.val (.ref x)) r M
    | _ => False
  | .istore k => match st with
    | .int x :: r => kn t (lput l k (.int x)) r M
    | _ => False
  | .istore_n k => match st with
    | .int x :: r => kn t (lput l k.val (.int x)) r M
    | _ => False
  | .lstore k => match st with
    | .long x :: r => kn t (lput2 l k (.long x)) r M
    | _ => False
  | .lstore_n k => match st with
    | .long x :: r => kn t (lput2 l k.val (.long x)) r M
    | _ => False
  | .iconst n => kn t l (.int (ic n) :: st) M
  | .bipush n => kn t l (.int (ic n) :: st) M
  | .sipush n => kn t l (.int (ic n) :: st) M
  | .lconst n => kn t l (.long (lN n.val) :: st) M
  | .ldc2_w _ => kn t l (.long (lN a) :: st) M
  | .ldc _ => match b with
    | 0 => kn t l (.ref (SP + a) :: st) M
    | _ => kn t l (.int (nI a) :: st) M
  | .iadd => match st with
    | .int y :: .int x :: r => kn t l (.int (x + y) :: r) M
    | _ => False
  | .isub => match st with
    | .int y :: .int x :: r => kn t l (.int (x - y) :: r) M
    | _ => False
  | .imul => match st with
    | .int y :: .int x :: r => kn t l (.int (x * y) :: r) M
    | _ => False
  | .idiv => match st with
    | .int y :: .int x :: r => ¬ y = 0 ∧ kn t l (.int (x / y) :: r) M
    | _ => False
  | .irem => match st with
    | .int y :: .int x :: r => ¬ y = 0 ∧ kn t l (.int (rm x y) :: r) M
    | _ => False
  | .iand => match st with
    | .int y :: .int x :: r => kn t l (.int (x &&& y) :: r) M
    | _ => False
  | .ixor => match st with
    | .int y :: .int x :: r => kn t l (.int (x ^^^ y) :: r) M
    | _ => False
  | .iushr => match st with
    | .int y :: .int x :: r => kn t l (.int (us x y) :: r) M
    | _ => False
  | .ishr => match st with
    | .int y :: .int x :: r => kn t l (.int (sh x y) :: r) M
    | _ => False
  | .ladd => match st with
    | .long y :: .long x :: r => kn t l (.long (x + y) :: r) M
    | _ => False
  | .lmul => match st with
    | .long y :: .long x :: r => kn t l (.long (x * y) :: r) M
    | _ => False
  | .ldiv => match st with
    | .long y :: .long x :: r => ¬ y = 0 ∧ kn t l (.long (x / y) :: r) M
    | _ => False
  | .lshl => match st with
    | .int y :: .long x :: r => kn t l (.long (lsh x y) :: r) M
    | _ => False
  | .lor => match st with
    | .long y :: .long x :: r => kn t l (.long (x ||| y) :: r) M
    | _ => False
  | .lcmp => match st with
    | .long y :: .long x :: r => kn t l (.int (lg_cmp x y) :: r) M
    | _ => False
  | .i2l => match st with
    | .int x :: r => kn t l (.long x.toInt64 :: r) M
    | _ => False
  | .l2i => match st with
    | .long x :: r => kn t l (.int x.toInt32 :: r) M
    | _ => False
  | .goto _ => kj a t l st M
  | .if_icmp c _ => match st with
    | .int y :: .int x :: r => (icP c x y → kj a t l r M) ∧ (icN c x y → kn t l r M)
    | _ => False
  | .ifCond c _ => match st with
    | .int x :: r => (icP c x (nI 0) → kj a t l r M) ∧ (icN c x (nI 0) → kn t l r M)
    | _ => False
  | .tableswitch _ _ _ _ => match st with
    | .int x :: r => sw x (fun tg => kj tg t l r M) a tb
    | _ => False
  | .lookupswitch _ _ => match st with
    | .int x :: r => sw x (fun tg => kj tg t l r M) a tb
    | _ => False
  | .iinc k n => match lget l k with
    | some (.int x) => kn t (lput l k (.int (x + ic n))) st M
    | _ => False
  | .getfield _ => match st with
    | .ref o :: r => match Nat.beq (ak o) a && Nat.ble (o + 1) t.1 && Nat.ble (b + 1) (an o) with
      | true => match fty a b with
        | 0 => kn t l (.int (M.1 o b) :: r) M
        | 1 => kn t l (.long (M.2.1 o b) :: r) M
        | 2 => match M.2.2 o b with
          | some q => kn t l (.ref q :: r) M
          | none => False
        | 3 => kn t l (.int (M.1 o b) :: r) M
        | _ => (¬ M.1 o b = 0 ∧ ix (M.1 o b) < SP) ∧ kn t l (.ref (ix (M.1 o b)) :: r) M
      | false => False
    | _ => False
  | .putfield _ => match st with
    | v :: .ref o :: r => match Nat.beq (ak o) a && Nat.ble (o + 1) t.1 && Nat.ble (b + 1) (an o) && (mx i || !ffi a b) with
      | true => match fty a b, v with
        | 0, .int x => kn t l r (u2 M.1 o b x, M.2)
        | 1, .long x => kn t l r (M.1, u2 M.2.1 o b x, M.2.2)
        | 2, .ref q => kn t l r (M.1, M.2.1, u2 M.2.2 o b (some q))
        | 3, .int x => isB x ∧ kn t l r (u2 M.1 o b x, M.2)
        | 4, .ref q => (0 < q ∧ q < SP) ∧ kn t l r (u2 M.1 o b (nI q), M.2)
        | _, _ => False
      | false => False
    | _ => False
  | .iaload => match b, st with
    | 2, .int j :: .ref c :: r => match Nat.beq c SP with
      | true => vp_in j (gLn G) ∧ kn t l (.int (gxs G (ix j)) :: r) M
      | false => False
    | _, .int j :: .ref c :: r => arP b c t.1 11 (vp_in j (an c) ∧ kn t l (.int (M.1 c (ix j)) :: r) M)
    | _, _ => False
  | .baload => match st with
    | .int j :: .ref c :: r => arP b c t.1 12 (vp_in j (an c) ∧ kn t l (.int (M.1 c (ix j)) :: r) M)
    | _ => False
  | .aaload => match st with
    | .int j :: .ref c :: r => arP b c t.1 13 (vp_in j (an c) ∧ kn t l (.ref (rb c + ix j) :: r) M)
    | _ => False
  | .iastore => match st with
    | .int x :: .int j :: .ref c :: r => arP b c t.1 11 (vp_in j (an c) ∧ kn t l r (u2 M.1 c (ix j) x, M.2))
    | _ => False
  | .bastore => match st with
    | .int x :: .int j :: .ref c :: r => arP b c t.1 12 (vp_in j (an c) ∧ isB x ∧ kn t l r (u2 M.1 c (ix j) x, M.2))
    | _ => False
  | .arraylength => match b, st with
    | 2, .ref c :: r => match Nat.beq c SP with
      | true => kn t l (.int (nI (gLn G)) :: r) M
      | false => False
    | 1, .ref c :: r => match (Nat.beq (ak c) 11 || Nat.beq (ak c) 12) && Nat.ble (c + 1) t.1 with
      | true => kn t l (.int (nI (an c)) :: r) M
      | false => False
    | _, .ref c :: r => (ak c = 11 ∧ c < t.1) ∧ kn t l (.int (nI (an c)) :: r) M
    | _, _ => False
  | .dup => match st with
    | v :: r => match Nat.beq v.category 1 with
      | true => kn t l (v :: v :: r) M
      | false => False
    | _ => False
  | .dup2 => match st with
    | v :: w :: r => match Nat.beq v.category 1 && Nat.beq w.category 1 with
      | true => kn t l (v :: w :: v :: w :: r) M
      | false => False
    | _ => False
  | .pop => match st with
    | v :: r => match Nat.beq v.category 1 with
      | true => kn t l r M
      | false => False
    | _ => False
  | .ireturn => match t.2.1, st with
    | 0, [.int x] => match rz i with
      | true => isB x ∧ Q (some (.int x)) M
      | false => Q (some (.int x)) M
    | _, _ => False
  | .lreturn => match t.2.1, st with
    | 0, [.long x] => Q (some (.long x)) M
    | _, _ => False
  | .areturn => match t.2.1, st with
    | 0, [.ref x] => Q (some (.ref x)) M
    | _, _ => False
  | .return_ => match t.2.1, st with
    | 0, [] => Q none M
    | _, _ => False
  | .invokevirtual _ => match tb with
    | [n, rt, dec] => match st.drop n with
      | .ref o :: r => match Nat.beq (ak o) (oC a) && Nat.ble (o + 1) t.1 && Nat.ble (cats r) 8 && Nat.ble n st.length with
        | true => match rt with
          | 0 => ivk dec e (fun e1 => wpV G e1 t.1 a (.ref o :: (st.take n).reverse) M (fun mi ml => kn t l r (mi, ml, M.2.2)))
          | 1 => ivk dec e (fun e1 => wpI G e1 t.1 a (.ref o :: (st.take n).reverse) M (fun x mi ml => kn t l (.int x :: r) (mi, ml, M.2.2)))
          | 2 => ivk dec e (fun e1 => wpR G e1 t.1 a (.ref o :: (st.take n).reverse) M (fun x mi ml => kn t l (.ref x :: r) (mi, ml, M.2.2)))
          | 3 => ivk dec e (fun e1 => wpL G e1 t.1 a (.ref o :: (st.take n).reverse) M (fun x mi ml => kn t l (.long x :: r) (mi, ml, M.2.2)))
          | _ => False
        | false => False
      | _ => False
    | [3] => match st with
      | .ref c :: r => (SP < c ∧ c < SP + 4) ∧ kn t l (.int (nI (slen c)) :: r) M
      | _ => False
    | [4] => match st with
      | .int j :: .ref c :: r => (SP < c ∧ c < SP + 4) ∧ vp_in j (slen c) ∧ kn t l (.int (schr c (ix j)) :: r) M
      | _ => False
    | _ => False
  | .invokestatic _ => match tb with
    | [n, rt, _] => match Nat.ble (cats (st.drop n)) 8 && Nat.ble n st.length with
      | true => match rt with
        | 0 => wpV G e t.1 a (st.take n).reverse M (fun mi ml => kn t l (st.drop n) (mi, ml, M.2.2))
        | 1 => wpI G e t.1 a (st.take n).reverse M (fun x mi ml => kn t l (.int x :: st.drop n) (mi, ml, M.2.2))
        | 3 => wpL G e t.1 a (st.take n).reverse M (fun x mi ml => kn t l (.long x :: st.drop n) (mi, ml, M.2.2))
        | _ => False
      | false => False
    | [1] => match st with
      | .int y :: .int x :: r => match Nat.ble (cats r) 8 with
        | true => kn t l (.int (if y < x then y else x) :: r) M
        | false => False
      | _ => False
    | [2] => match st with
      | .int n :: .int dp :: .ref c1 :: .int sp :: .ref c0 :: r => match Nat.ble (cats r) 8 with
        | true => ((ak c0 = 11 ∧ c0 < t.1) ∧ (ak c1 = 11 ∧ c1 < t.1)) ∧ (¬ sp < 0 ∧ ¬ dp < 0 ∧ ¬ n < 0 ∧ ix sp + ix n ≤ an c0 ∧ ix dp + ix n ≤ an c1) ∧ kn t l r (ur M.1 c1 (va_cpy (M.1 c0) (M.1 c1) (ix sp) (ix dp) (ix n)), M.2)
        | false => False
      | _ => False
    | _ => False
  | .invokespecial _ => match tb with
    | [n, _, _] => match st.drop n with
      | .ref o :: r => match Nat.ble (cats r) 8 with
        | true => ((alc a).1 ≤ t.2.1 ∧ (alc a).2 ≤ t.2.2) ∧ wpc G e t.1 a (.ref o :: (st.take n).reverse) M (fun v M1 => v = none ∧ wp G e (t.1 + (alc a).1, t.2.1 - (alc a).1, t.2.2 - (alc a).2) i (pc + 3) l r M1 Q)
        | false => False
      | _ => False
    | [] => match st with
      | .ref _ :: r => match Nat.ble (cats r) 8 with
        | true => kn t l r M
        | false => False
      | _ => False
    | _ => False
  | .new _ => match mx i && Nat.beq (ak t.1) a && Nat.ble 1 t.2.1 && Nat.ble (an t.1) t.2.2 with
    | true => kn (t.1 + 1, t.2.1 - 1, t.2.2 - an t.1) l (.ref t.1 :: st) M
    | false => False
  | .newarray ty => match st with
    | .int n :: r => match mx i && (match ty with | .int => Nat.beq (ak t.1) 11 | .boolean => Nat.beq (ak t.1) 12 | _ => false) && Nat.ble 1 t.2.1 && Nat.ble (an t.1) t.2.2 with
      | true => n = nI (an t.1) ∧ kn (t.1 + 1, t.2.1 - 1, t.2.2 - an t.1) l (.ref t.1 :: r) M
      | false => False
    | _ => False
  | .multianewarray _ _ => match st with
    | .int k :: .int n :: r => match mx i && Nat.beq (ak t.1) 13 && Nat.beq (rb t.1) (t.1 + 1) && Nat.ble (1 + an t.1) t.2.1 && Nat.ble (an t.1 + an t.1 * an (t.1 + 1)) t.2.2 && (List.range (an t.1)).all (fun j => Nat.beq (ak (t.1 + 1 + j)) 11 && Nat.beq (an (t.1 + 1 + j)) (an (t.1 + 1))) with
      | true => (n = nI (an t.1) ∧ k = nI (an (t.1 + 1))) ∧ kn (t.1 + 1 + an t.1, t.2.1 - (1 + an t.1), t.2.2 - (an t.1 + an t.1 * an (t.1 + 1))) l (.ref t.1 :: r) M
      | false => False
    | _ => False
  | _ => False
def sfx (i tg : Nat) : List RI := (cd i).dropWhile (fun x => x.1 != tg)
def vc (G : GC) (e i : Nat) (Q : Option Value → Mem → Prop) : Nat → List RI → T3 → LV → List Value → Mem → Prop
  | 0, _, _, _, _, _ => False
  | _ + 1, [], _, _, _, _ => False
  | f + 1, x :: rs, t, l, st, M => vi G e i Q x.1 (vc G e i Q f rs) (fun tg => vc G e i Q f (sfx i tg)) x.2.2.1 x.2.2.2.1 x.2.2.2.2.1 x.2.2.2.2.2 t l st M
end
section
/-! rules of 'wp', an instruction each: what needs no memory -/
theorem lget_mem {l : LV} {i : Nat} {v : Value} (h : lget l i = some v) : (i, v) ∈ l := by
  unfold lget at h
  cases hf : l.find? (fun q => q.1 == i) with
  | none => rw [hf] at h; cases h
  | some q =>
    rw [hf] at h
    have h1 := List.find?_some hf
    have h2 := List.mem_of_find?_eq_some hf
    simp at h h1
    rw [← h, ← h1]
    exact h2
theorem lfl_mem {G : GC} {l : LV} {i : Nat} {v : Value} (h : (i, v) ∈ l) : (i, lf G v) ∈ lfl G l := List.mem_map.mpr ⟨(i, v), h, rfl⟩
theorem lv_lget {G : GC} {l : LV} {ls : Array Slot} {n i : Nat} {v : Value} (hl : lv_has ls n (lfl G l)) (h : lget l i = some v) : ls[i]? = some (.val (lf G v)) := hl.2.2 (i, lf G v) (lfl_mem (lget_mem h))
theorem lfl_put {G : GC} {l : LV} {i : Nat} {v : Value} : (i, lf G v) :: (lfl G l).filter (fun q => !(q.1 == i) && !(q.1 + 1 == i && q.2.category == 2)) = lfl G (lput l i v) := by
  unfold lfl lput
  rw [List.map_cons, List.filter_map]
  congr 3
  funext q
  simp [lf_cat]
theorem lfl_put2 {G : GC} {l : LV} {i : Nat} {v : Value} : (i, lf G v) :: (lfl G l).filter (fun q => !(q.1 == i) && (!(q.1 == i + 1) && !(q.1 + 1 == i && q.2.category == 2))) = lfl G (lput2 l i v) := by
  unfold lfl lput2
  rw [List.map_cons, List.filter_map]
  congr 3
  funext q
  simp [lf_cat]
theorem pick_mem {l : LV} : ∀ {js : List Nat} {q : Nat × Value}, q ∈ pick l js → q ∈ l
  | [], q, h => by cases h
  | j :: js, q, h => by
    unfold pick at h
    split at h
    next v hv =>
      rcases List.mem_cons.mp h with rfl | h
      · exact lget_mem hv
      · exact pick_mem h
    next => exact pick_mem h
theorem ic_of (n : Int) : Int32.ofInt n = ic n := by
  cases n with
  | ofNat n => rfl
  | negSucc n =>
    show Int32.ofInt (Int.negSucc n) = -(nI (n + 1))
    unfold nI
    rw [Int.negSucc_eq, Int32.ofInt_neg]
    congr 1
theorem wp_of {G : GC} {e i pc pc2 : Nat} {t : T3} {l : LV} {st st2 : List Value} {M : Mem} {Q : Option Value → Mem → Prop}
    (h : ∀ (p : Program) (lch : Launch) (e0 : Env) (R : Room) (s : State) (m : MethodId) (args : Array Value) (below : List Frame) (meth : Method) (c : Code) (H : Heap) (locs : List Loc) (cells slots : Nat) (Z : State → Prop) (ls : Array Slot),
      Ctx G e i p R s m args meth c → lv_has ls (nL i) (lfl G l) → W p lch e0 R s m args below meth c H locs cells slots Z (F0 m pc2 ls (lst G st2)) → W p lch e0 R s m args below meth c H locs cells slots Z (F0 m pc ls (lst G st)))
    (k : wp G e t i pc2 l st2 M Q) : wp G e t i pc l st M Q :=
  fun p lch e0 R s m args below meth c H locs cells slots Z ls mc ms cur C hc hR hlo hl h1 h2 h3 h4 hF => h p lch e0 R s m args below meth c H locs cells slots Z ls C hl (k p lch e0 R s m args below meth c H locs cells slots Z ls mc ms cur C hc hR hlo hl h1 h2 h3 h4 hF)
theorem wp_br {G : GC} {e i pc pc2 pc3 : Nat} {t : T3} {l : LV} {st st2 st3 : List Value} {M : Mem} {Q : Option Value → Mem → Prop} {A B : Prop}
    (h : ∀ (p : Program) (lch : Launch) (e0 : Env) (R : Room) (s : State) (m : MethodId) (args : Array Value) (below : List Frame) (meth : Method) (c : Code) (H : Heap) (locs : List Loc) (cells slots : Nat) (Z : State → Prop) (ls : Array Slot),
      Ctx G e i p R s m args meth c → (A → W p lch e0 R s m args below meth c H locs cells slots Z (F0 m pc2 ls (lst G st2))) → (B → W p lch e0 R s m args below meth c H locs cells slots Z (F0 m pc3 ls (lst G st3))) → W p lch e0 R s m args below meth c H locs cells slots Z (F0 m pc ls (lst G st)))
    (k : A → wp G e t i pc2 l st2 M Q) (k2 : B → wp G e t i pc3 l st3 M Q) : wp G e t i pc l st M Q :=
  fun p lch e0 R s m args below meth c H locs cells slots Z ls mc ms cur C hc hR hlo hl h1 h2 h3 h4 hF => h p lch e0 R s m args below meth c H locs cells slots Z ls C (fun a => k a p lch e0 R s m args below meth c H locs cells slots Z ls mc ms cur C hc hR hlo hl h1 h2 h3 h4 hF) (fun a => k2 a p lch e0 R s m args below meth c H locs cells slots Z ls mc ms cur C hc hR hlo hl h1 h2 h3 h4 hF)
theorem wp_st {G : GC} {e i pc pc2 : Nat} {t : T3} {l l2 : LV} {st st2 : List Value} {M : Mem} {Q : Option Value → Mem → Prop}
    (h : ∀ (p : Program) (lch : Launch) (e0 : Env) (R : Room) (s : State) (m : MethodId) (args : Array Value) (below : List Frame) (meth : Method) (c : Code) (H : Heap) (locs : List Loc) (cells slots : Nat) (Z : State → Prop) (ls : Array Slot),
      Ctx G e i p R s m args meth c → lv_has ls (nL i) (lfl G l) → (∀ ls2 : Array Slot, lv_has ls2 (nL i) (lfl G l2) → W p lch e0 R s m args below meth c H locs cells slots Z (F0 m pc2 ls2 (lst G st2))) → W p lch e0 R s m args below meth c H locs cells slots Z (F0 m pc ls (lst G st)))
    (k : wp G e t i pc2 l2 st2 M Q) : wp G e t i pc l st M Q :=
  fun p lch e0 R s m args below meth c H locs cells slots Z ls mc ms cur C hc hR hlo hl h1 h2 h3 h4 hF => h p lch e0 R s m args below meth c H locs cells slots Z ls C hl (fun ls2 hl2 => k p lch e0 R s m args below meth c H locs cells slots Z ls2 mc ms cur C hc hR hlo hl2 h1 h2 h3 h4 hF)
theorem wp_sub {G : GC} {e i pc : Nat} {t : T3} {l l2 : LV} {st : List Value} {M : Mem} {Q : Option Value → Mem → Prop} (h : ∀ q ∈ l2, q ∈ l) (k : wp G e t i pc l2 st M Q) : wp G e t i pc l st M Q :=
  fun p lch e0 R s m args below meth c H locs cells slots Z ls mc ms cur C hc hR hlo hl h1 h2 h3 h4 hF => k p lch e0 R s m args below meth c H locs cells slots Z ls mc ms cur C hc hR hlo ⟨hl.1, hl.2.1, fun q hq => by
    obtain ⟨q0, hq0, rfl⟩ := List.mem_map.mp hq
    exact hl.2.2 _ (List.mem_map.mpr ⟨q0, h q0 hq0, rfl⟩)⟩ h1 h2 h3 h4 hF
section RU
variable {G : GC} {e i pc a : Nat} {t : T3} {l : LV} {r : List Value} {M : Mem} {Q : Option Value → Mem → Prop} {x y : Int32} {w z : Int64} {v v2 : Value} {off : Int} {A : Nat}
theorem r_aload {k : Nat} (hd : decode (bC i) pc = .ok (.aload k, 2)) (hg : lget l k = some (.ref A)) (k1 : wp G e t i (pc + 2) l (.ref A :: r) M Q) : wp G e t i pc l r M Q :=
  wp_of (fun _ _ _ _ _ _ _ _ _ _ _ _ _ _ _ _ C hl w => lv_aload (x := adr G A) C.1 C.2.1 hd (lv_lget hl hg) w) k1
theorem r_aload_n {k : Fin 4} (hd : decode (bC i) pc = .ok (.aload_n k, 1)) (hg : lget l k.val = some (.ref A)) (k1 : wp G e t i (pc + 1) l (.ref A :: r) M Q) : wp G e t i pc l r M Q :=
  wp_of (fun _ _ _ _ _ _ _ _ _ _ _ _ _ _ _ _ C hl w => lv_aload_n (x := adr G A) C.1 C.2.1 hd rfl (lv_lget hl hg) w) k1
theorem r_iload {k : Nat} (hd : decode (bC i) pc = .ok (.iload k, 2)) (hg : lget l k = some (.int x)) (k1 : wp G e t i (pc + 2) l (.int x :: r) M Q) : wp G e t i pc l r M Q :=
  wp_of (fun _ _ _ _ _ _ _ _ _ _ _ _ _ _ _ _ C hl w => lv_iload C.1 C.2.1 hd (lv_lget hl hg) w) k1
theorem r_iload_n {k : Fin 4} (hd : decode (bC i) pc = .ok (.iload_n k, 1)) (hg : lget l k.val = some (.int x)) (k1 : wp G e t i (pc + 1) l (.int x :: r) M Q) : wp G e t i pc l r M Q :=
  wp_of (fun _ _ _ _ _ _ _ _ _ _ _ _ _ _ _ _ C hl w => lv_iload_n C.1 C.2.1 hd rfl (lv_lget hl hg) w) k1
theorem r_lload {k : Nat} (hd : decode (bC i) pc = .ok (.lload k, 2)) (hg : lget l k = some (.long z)) (k1 : wp G e t i (pc + 2) l (.long z :: r) M Q) : wp G e t i pc l r M Q :=
  wp_of (fun _ _ _ _ _ _ _ _ _ _ _ _ _ _ _ _ C hl w => lv_lload C.1 C.2.1 hd (lv_lget hl hg) w) k1
theorem r_lload_n {k : Fin 4} (hd : decode (bC i) pc = .ok (.lload_n k, 1)) (hg : lget l k.val = some (.long z)) (k1 : wp G e t i (pc + 1) l (.long z :: r) M Q) : wp G e t i pc l r M Q :=
  wp_of (fun _ _ _ _ _ _ _ _ _ _ _ _ _ _ _ _ C hl w => lv_lload_n C.1 C.2.1 hd rfl (lv_lget hl hg) w) k1
theorem r_astore {k : Nat} (hd : decode (bC i) pc = .ok (.astore k, 2)) (hn : k < nL i) (k1 : wp G e t i (pc + 2) (lput l k (.ref A)) r M Q) : wp G e t i pc l (.ref A :: r) M Q :=
  wp_st (fun _ _ _ _ _ _ _ _ _ _ _ _ _ _ _ _ C hl w => lv_astore (x := adr G A) C.1 C.2.1 hd hl hn (lfl_put (v := .ref A)) w) k1
theorem r_astore_n {k : Fin 4} (hd : decode (bC i) pc = .ok (.astore_n k, 1)) (hn : k.val < nL i) (k1 : wp G e t i (pc + 1) (lput l k.val (.ref A)) r M Q) : wp G e t i pc l (.ref A :: r) M Q :=
  wp_st (fun _ _ _ _ _ _ _ _ _ _ _ _ _ _ _ _ C hl w => lv_astore_n (x := adr G A) C.1 C.2.1 hd rfl hl hn (lfl_put (v := .ref A)) w) k1
theorem r_istore {k : Nat} (hd : decode (bC i) pc = .ok (.istore k, 2)) (hn : k < nL i) (k1 : wp G e t i (pc + 2) (lput l k (.int x)) r M Q) : wp G e t i pc l (.int x :: r) M Q :=
  wp_st (fun _ _ _ _ _ _ _ _ _ _ _ _ _ _ _ _ C hl w => lv_istore C.1 C.2.1 hd hl hn (lfl_put (v := .int x)) w) k1
theorem r_istore_n {k : Fin 4} (hd : decode (bC i) pc = .ok (.istore_n k, 1)) (hn : k.val < nL i) (k1 : wp G e t i (pc + 1) (lput l k.val (.int x)) r M Q) : wp G e t i pc l (.int x :: r) M Q :=
  wp_st (fun _ _ _ _ _ _ _ _ _ _ _ _ _ _ _ _ C hl w => lv_istore_n C.1 C.2.1 hd rfl hl hn (lfl_put (v := .int x)) w) k1
theorem r_lstore {k : Nat} (hd : decode (bC i) pc = .ok (.lstore k, 2)) (hn : k + 1 < nL i) (k1 : wp G e t i (pc + 2) (lput2 l k (.long z)) r M Q) : wp G e t i pc l (.long z :: r) M Q :=
  wp_st (fun _ _ _ _ _ _ _ _ _ _ _ _ _ _ _ _ C hl w => lv_lstore C.1 C.2.1 hd hl hn (lfl_put2 (v := .long z)) w) k1
theorem r_lstore_n {k : Fin 4} (hd : decode (bC i) pc = .ok (.lstore_n k, 1)) (hn : k.val + 1 < nL i) (k1 : wp G e t i (pc + 1) (lput2 l k.val (.long z)) r M Q) : wp G e t i pc l (.long z :: r) M Q :=
  wp_st (fun _ _ _ _ _ _ _ _ _ _ _ _ _ _ _ _ C hl w => lv_lstore_n C.1 C.2.1 hd rfl hl hn (lfl_put2 (v := .long z)) w) k1
theorem r_iconst {n : Int} (hd : decode (bC i) pc = .ok (.iconst n, 1)) (k1 : wp G e t i (pc + 1) l (.int (ic n) :: r) M Q) : wp G e t i pc l r M Q :=
  wp_of (fun _ _ _ _ _ _ _ _ _ _ _ _ _ _ _ _ C hl w => lv_iconst C.1 C.2.1 hd (ic_of n) w) k1
theorem r_bipush {n : Int} (hd : decode (bC i) pc = .ok (.bipush n, 2)) (hn : (Int8.ofInt n).toInt32 = ic n) (k1 : wp G e t i (pc + 2) l (.int (ic n) :: r) M Q) : wp G e t i pc l r M Q :=
  wp_of (fun _ _ _ _ _ _ _ _ _ _ _ _ _ _ _ _ C hl w => lv_bipush C.1 C.2.1 hd hn w) k1
theorem r_sipush {n : Int} (hd : decode (bC i) pc = .ok (.sipush n, 3)) (hn : (Int16.ofInt n).toInt32 = ic n) (k1 : wp G e t i (pc + 3) l (.int (ic n) :: r) M Q) : wp G e t i pc l r M Q :=
  wp_of (fun _ _ _ _ _ _ _ _ _ _ _ _ _ _ _ _ C hl w => lv_sipush C.1 C.2.1 hd hn w) k1
theorem r_lconst {n : Fin 2} (hd : decode (bC i) pc = .ok (.lconst n, 1)) (k1 : wp G e t i (pc + 1) l (.long (lN n.val) :: r) M Q) : wp G e t i pc l r M Q :=
  wp_of (fun _ _ _ _ _ _ _ _ _ _ _ _ _ _ _ _ C hl w => lv_lconst C.1 C.2.1 hd rfl w) k1
theorem r_iadd (hd : decode (bC i) pc = .ok (.iadd, 1)) (k1 : wp G e t i (pc + 1) l (.int (x + y) :: r) M Q) : wp G e t i pc l (.int y :: .int x :: r) M Q :=
  wp_of (fun _ _ _ _ _ _ _ _ _ _ _ _ _ _ _ _ C hl w => lv_iadd C.1 C.2.1 hd w) k1
theorem r_isub (hd : decode (bC i) pc = .ok (.isub, 1)) (k1 : wp G e t i (pc + 1) l (.int (x - y) :: r) M Q) : wp G e t i pc l (.int y :: .int x :: r) M Q :=
  wp_of (fun _ _ _ _ _ _ _ _ _ _ _ _ _ _ _ _ C hl w => lv_isub C.1 C.2.1 hd w) k1
theorem r_imul (hd : decode (bC i) pc = .ok (.imul, 1)) (k1 : wp G e t i (pc + 1) l (.int (x * y) :: r) M Q) : wp G e t i pc l (.int y :: .int x :: r) M Q :=
  wp_of (fun _ _ _ _ _ _ _ _ _ _ _ _ _ _ _ _ C hl w => lv_imul C.1 C.2.1 hd w) k1
theorem r_idiv (hd : decode (bC i) pc = .ok (.idiv, 1)) (h0 : ¬ y = 0) (k1 : wp G e t i (pc + 1) l (.int (x / y) :: r) M Q) : wp G e t i pc l (.int y :: .int x :: r) M Q :=
  wp_of (fun _ _ _ _ _ _ _ _ _ _ _ _ _ _ _ _ C hl w => lv_idiv C.1 C.2.1 hd h0 w) k1
theorem r_irem (hd : decode (bC i) pc = .ok (.irem, 1)) (h0 : ¬ y = 0) (k1 : wp G e t i (pc + 1) l (.int (rm x y) :: r) M Q) : wp G e t i pc l (.int y :: .int x :: r) M Q :=
  wp_of (fun _ _ _ _ _ _ _ _ _ _ _ _ _ _ _ _ C hl w => lv_irem C.1 C.2.1 hd h0 w) k1
theorem r_iand (hd : decode (bC i) pc = .ok (.iand, 1)) (k1 : wp G e t i (pc + 1) l (.int (x &&& y) :: r) M Q) : wp G e t i pc l (.int y :: .int x :: r) M Q :=
  wp_of (fun _ _ _ _ _ _ _ _ _ _ _ _ _ _ _ _ C hl w => lv_iand C.1 C.2.1 hd w) k1
theorem r_ixor (hd : decode (bC i) pc = .ok (.ixor, 1)) (k1 : wp G e t i (pc + 1) l (.int (x ^^^ y) :: r) M Q) : wp G e t i pc l (.int y :: .int x :: r) M Q :=
  wp_of (fun _ _ _ _ _ _ _ _ _ _ _ _ _ _ _ _ C hl w => lv_ixor C.1 C.2.1 hd w) k1
theorem r_iushr (hd : decode (bC i) pc = .ok (.iushr, 1)) (k1 : wp G e t i (pc + 1) l (.int (us x y) :: r) M Q) : wp G e t i pc l (.int y :: .int x :: r) M Q :=
  wp_of (fun _ _ _ _ _ _ _ _ _ _ _ _ _ _ _ _ C hl w => lv_iushr C.1 C.2.1 hd rfl w) k1
theorem r_ishr (hd : decode (bC i) pc = .ok (.ishr, 1)) (k1 : wp G e t i (pc + 1) l (.int (sh x y) :: r) M Q) : wp G e t i pc l (.int y :: .int x :: r) M Q :=
  wp_of (fun _ _ _ _ _ _ _ _ _ _ _ _ _ _ _ _ C hl w => lv_ishr C.1 C.2.1 hd w) k1
theorem r_ladd (hd : decode (bC i) pc = .ok (.ladd, 1)) (k1 : wp G e t i (pc + 1) l (.long (w + z) :: r) M Q) : wp G e t i pc l (.long z :: .long w :: r) M Q :=
  wp_of (fun _ _ _ _ _ _ _ _ _ _ _ _ _ _ _ _ C hl w => lv_ladd C.1 C.2.1 hd w) k1
theorem r_lmul (hd : decode (bC i) pc = .ok (.lmul, 1)) (k1 : wp G e t i (pc + 1) l (.long (w * z) :: r) M Q) : wp G e t i pc l (.long z :: .long w :: r) M Q :=
  wp_of (fun _ _ _ _ _ _ _ _ _ _ _ _ _ _ _ _ C hl w => lv_lmul C.1 C.2.1 hd w) k1
theorem r_ldiv (hd : decode (bC i) pc = .ok (.ldiv, 1)) (h0 : ¬ z = 0) (k1 : wp G e t i (pc + 1) l (.long (w / z) :: r) M Q) : wp G e t i pc l (.long z :: .long w :: r) M Q :=
  wp_of (fun _ _ _ _ _ _ _ _ _ _ _ _ _ _ _ _ C hl w => lv_ldiv C.1 C.2.1 hd h0 w) k1
theorem r_lshl (hd : decode (bC i) pc = .ok (.lshl, 1)) (k1 : wp G e t i (pc + 1) l (.long (lsh w y) :: r) M Q) : wp G e t i pc l (.int y :: .long w :: r) M Q :=
  wp_of (fun _ _ _ _ _ _ _ _ _ _ _ _ _ _ _ _ C hl w => lv_lshl C.1 C.2.1 hd rfl w) k1
theorem r_lor (hd : decode (bC i) pc = .ok (.lor, 1)) (k1 : wp G e t i (pc + 1) l (.long (w ||| z) :: r) M Q) : wp G e t i pc l (.long z :: .long w :: r) M Q :=
  wp_of (fun _ _ _ _ _ _ _ _ _ _ _ _ _ _ _ _ C hl w => lv_lor C.1 C.2.1 hd w) k1
theorem r_lcmp (hd : decode (bC i) pc = .ok (.lcmp, 1)) (k1 : wp G e t i (pc + 1) l (.int (lg_cmp w z) :: r) M Q) : wp G e t i pc l (.long z :: .long w :: r) M Q :=
  wp_of (fun _ _ _ _ _ _ _ _ _ _ _ _ _ _ _ _ C hl w => W.lcmp C.1 C.2.1 hd w) k1
theorem r_i2l (hd : decode (bC i) pc = .ok (.i2l, 1)) (k1 : wp G e t i (pc + 1) l (.long x.toInt64 :: r) M Q) : wp G e t i pc l (.int x :: r) M Q :=
  wp_of (fun _ _ _ _ _ _ _ _ _ _ _ _ _ _ _ _ C hl w => lv_i2l C.1 C.2.1 hd rfl w) k1
theorem r_l2i (hd : decode (bC i) pc = .ok (.l2i, 1)) (k1 : wp G e t i (pc + 1) l (.int z.toInt32 :: r) M Q) : wp G e t i pc l (.long z :: r) M Q :=
  wp_of (fun _ _ _ _ _ _ _ _ _ _ _ _ _ _ _ _ C hl w => lv_l2i C.1 C.2.1 hd rfl w) k1
theorem r_goto (hd : decode (bC i) pc = .ok (.goto off, 3)) (ht : (pc : Int) + off = (a : Int)) (k1 : wp G e t i a l r M Q) : wp G e t i pc l r M Q :=
  wp_of (fun _ _ _ _ _ _ _ _ _ _ _ _ _ _ _ _ C hl w => lv_goto C.1 C.2.1 hd ht w) k1
theorem r_if_icmp {cd : Jvm.ClassFile.Cond} (hd : decode (bC i) pc = .ok (.if_icmp cd off, 3)) (ht : (pc : Int) + off = (a : Int)) (k1 : icP cd x y → wp G e t i a l r M Q) (k2 : icN cd x y → wp G e t i (pc + 3) l r M Q) : wp G e t i pc l (.int y :: .int x :: r) M Q := by
  cases cd
  · exact wp_br (fun _ _ _ _ _ _ _ _ _ _ _ _ _ _ _ _ C w1 w2 => lv_icmp_eq C.1 C.2.1 hd ht w1 w2) k1 k2
  · exact wp_br (fun _ _ _ _ _ _ _ _ _ _ _ _ _ _ _ _ C w1 w2 => lv_icmp_ne C.1 C.2.1 hd ht w1 w2) k1 k2
  · exact wp_br (fun _ _ _ _ _ _ _ _ _ _ _ _ _ _ _ _ C w1 w2 => lv_icmp_lt C.1 C.2.1 hd ht w1 w2) k1 k2
  · exact wp_br (fun _ _ _ _ _ _ _ _ _ _ _ _ _ _ _ _ C w1 w2 => lv_icmp_ge C.1 C.2.1 hd ht w1 w2) k1 k2
  · exact wp_br (fun _ _ _ _ _ _ _ _ _ _ _ _ _ _ _ _ C w1 w2 => lv_icmp_gt C.1 C.2.1 hd ht w1 w2) k1 k2
  · exact wp_br (fun _ _ _ _ _ _ _ _ _ _ _ _ _ _ _ _ C w1 w2 => lv_icmp_le C.1 C.2.1 hd ht w1 w2) k1 k2
theorem r_ifCond {cd : Jvm.ClassFile.Cond} (hd : decode (bC i) pc = .ok (.ifCond cd off, 3)) (ht : (pc : Int) + off = (a : Int)) (k1 : icP cd x (nI 0) → wp G e t i a l r M Q) (k2 : icN cd x (nI 0) → wp G e t i (pc + 3) l r M Q) : wp G e t i pc l (.int x :: r) M Q := by
  rw [nI_0] at k1 k2
  cases cd
  · exact wp_br (fun _ _ _ _ _ _ _ _ _ _ _ _ _ _ _ _ C w1 w2 => lv_if_eq C.1 C.2.1 hd ht w1 w2) k1 k2
  · exact wp_br (fun _ _ _ _ _ _ _ _ _ _ _ _ _ _ _ _ C w1 w2 => lv_if_ne C.1 C.2.1 hd ht w1 w2) k1 k2
  · exact wp_br (fun _ _ _ _ _ _ _ _ _ _ _ _ _ _ _ _ C w1 w2 => lv_if_lt C.1 C.2.1 hd ht w1 w2) k1 k2
  · exact wp_br (fun _ _ _ _ _ _ _ _ _ _ _ _ _ _ _ _ C w1 w2 => lv_if_ge C.1 C.2.1 hd ht w1 w2) k1 k2
  · exact wp_br (fun _ _ _ _ _ _ _ _ _ _ _ _ _ _ _ _ C w1 w2 => lv_if_gt C.1 C.2.1 hd ht w1 w2) k1 k2
  · exact wp_br (fun _ _ _ _ _ _ _ _ _ _ _ _ _ _ _ _ C w1 w2 => lv_if_le C.1 C.2.1 hd ht w1 w2) k1 k2
theorem r_iinc {k : Nat} {n : Int} (hd : decode (bC i) pc = .ok (.iinc k n, 3)) (hn : k < nL i) (hg : lget l k = some (.int x)) (k1 : wp G e t i (pc + 3) (lput l k (.int (x + ic n))) r M Q) : wp G e t i pc l r M Q := by
  refine wp_st (fun _ _ _ _ _ _ _ _ _ _ _ _ _ _ _ _ C hl w => ?_) k1
  obtain ⟨q, hq⟩ := List.getElem?_of_mem (lfl_mem (G := G) (lget_mem hg))
  exact lv_iinc C.1 C.2.1 hd hl hq (by rw [ic_of]) hn (lfl_put (v := .int (x + ic n))) w
theorem r_dup (hd : decode (bC i) pc = .ok (.dup, 1)) (hc : v.category = 1) (k1 : wp G e t i (pc + 1) l (v :: v :: r) M Q) : wp G e t i pc l (v :: r) M Q :=
  wp_of (fun _ _ _ _ _ _ _ _ _ _ _ _ _ _ _ _ C hl w => lv_dup C.1 C.2.1 hd (by rw [lf_cat]; exact hc) w) k1
theorem r_dup2 (hd : decode (bC i) pc = .ok (.dup2, 1)) (hc : v.category = 1) (hc2 : v2.category = 1) (k1 : wp G e t i (pc + 1) l (v :: v2 :: v :: v2 :: r) M Q) : wp G e t i pc l (v :: v2 :: r) M Q :=
  wp_of (fun _ _ _ _ _ _ _ _ _ _ _ _ _ _ _ _ C hl w => lv_dup2_11 C.1 C.2.1 hd (by rw [lf_cat]; assumption) (by rw [lf_cat]; assumption) w) k1
theorem r_pop (hd : decode (bC i) pc = .ok (.pop, 1)) (hc : v.category = 1) (k1 : wp G e t i (pc + 1) l r M Q) : wp G e t i pc l (v :: r) M Q :=
  wp_of (fun _ _ _ _ _ _ _ _ _ _ _ _ _ _ _ _ C hl w => lv_pop C.1 C.2.1 hd (by rw [lf_cat]; exact hc) w) k1
end RU
end
section
/-! rules of 'wp' over memory: fields and arrays -/
def vwd (c : Nat) : vw_C := vwCl.getD c (RX0, TX0, 0)
def tyc (c : Nat) : Nat → FieldType := [tyX0, tyX1, tyX2, tyX3, tyX4, tyX5, tyX6, tyX7, tyX8, tyX9, tyX10].getD c tyX0
theorem vwd_at {c : Nat} (h : c < 11) : vwCl[c]? = some (vwd c) := by
  unfold vwd
  rw [List.getD_eq_getElem?_getD]
  have h1 : c < vwCl.length := h
  rw [List.getElem?_eq_getElem h1]
  rfl
theorem c11 {P : Nat → Prop} (h0 : P 0) (h1 : P 1) (h2 : P 2) (h3 : P 3) (h4 : P 4) (h5 : P 5) (h6 : P 6) (h7 : P 7) (h8 : P 8) (h9 : P 9) (h10 : P 10) {c : Nat} (h : c < 11) : P c := by
  rcases (show c = 0 ∨ c = 1 ∨ c = 2 ∨ c = 3 ∨ c = 4 ∨ c = 5 ∨ c = 6 ∨ c = 7 ∨ c = 8 ∨ c = 9 ∨ c = 10 by omega) with rfl | rfl | rfl | rfl | rfl | rfl | rfl | rfl | rfl | rfl | rfl <;> assumption
theorem in_gdt {ws : List Jvm.Cond} (h : ∀ w ∈ ws, w ∈ lw_tbl) (hg : ws.all goodWord = true) : ∀ w ∈ ws, w ∈ gdt := fun w hw => List.mem_filter.mpr ⟨h w hw, List.all_eq_true.mp hg w hw⟩
theorem vwd_in {c : Nat} (h : c < 11) : ∀ w ∈ u_ws (vwd c).1 (vwd c).2.1 (vwd c).2.2, w ∈ gdt :=
  c11 (P := fun c => ∀ w ∈ u_ws (vwd c).1 (vwd c).2.1 (vwd c).2.2, w ∈ gdt) (in_gdt inX0 (by decide +kernel)) (in_gdt inX1 (by decide +kernel)) (in_gdt inX2 (by decide +kernel)) (in_gdt inX3 (by decide +kernel)) (in_gdt inX4 (by decide +kernel)) (in_gdt inX5 (by decide +kernel)) (in_gdt inX6 (by decide +kernel)) (in_gdt inX7 (by decide +kernel)) (in_gdt inX8 (by decide +kernel)) (in_gdt inX9 (by decide +kernel)) (in_gdt inX10 (by decide +kernel)) h
theorem vwd_ty {c : Nat} (h : c < 11) : ∀ k, k < (vwd c).2.2 → parseFieldDescriptor ((vwd c).2.1 k).2.2.1 = some (tyc c k) :=
  c11 (P := fun c => ∀ k, k < (vwd c).2.2 → parseFieldDescriptor ((vwd c).2.1 k).2.2.1 = some (tyc c k)) tyX0_ok tyX1_ok tyX2_ok tyX3_ok tyX4_ok tyX5_ok tyX6_ok tyX7_ok tyX8_ok tyX9_ok tyX10_ok h
theorem vwd_nm {c : Nat} (h : c < 11) : ∀ a, a < (vwd c).2.2 → ∀ b, b < (vwd c).2.2 → a ≠ b → ((vwd c).2.1 a).2.1 ≠ ((vwd c).2.1 b).2.1 :=
  c11 (P := fun c => ∀ a, a < (vwd c).2.2 → ∀ b, b < (vwd c).2.2 → a ≠ b → ((vwd c).2.1 a).2.1 ≠ ((vwd c).2.1 b).2.1) nmX0 nmX1 nmX2 nmX3 nmX4 nmX5 nmX6 nmX7 nmX8 nmX9 nmX10 h
theorem RN_eq {c : Nat} (h : c < 11) : RN.getD c "" = (vwd c).1 :=
  c11 (P := fun c => RN.getD c "" = (vwd c).1) rfl rfl rfl rfl rfl rfl rfl rfl rfl rfl rfl h
/-- what kind of field it is: 0 int, 1 long, 2 a reference, 3 boolean, 4 a reference that changes -/
def tyk (ty : FieldType) (n : Nat) : Bool := match ty with
  | .int => n == 0
  | .long => n == 1
  | .boolean => n == 3
  | .object _ => n == 2
  | .array _ => n == 2 || n == 4
  | _ => false
def vwd_chk (c : Nat) : Bool := (List.range (vwd c).2.2).all (fun k => tyk (tyc c k) (fty c k) && (((vwd c).2.1 k).2.2.2 == ffi c k) && (((vwd c).2.1 k).1 == (vwd c).1))
theorem vwd_chk_ok : (List.range 11).all vwd_chk = true := by decide +kernel
theorem vwd_k {c k : Nat} (h : c < 11) (hk : k < (vwd c).2.2) : tyk (tyc c k) (fty c k) = true ∧ ((vwd c).2.1 k).2.2.2 = ffi c k ∧ ((vwd c).2.1 k).1 = (vwd c).1 := by
  have h1 := List.all_eq_true.mp vwd_chk_ok c (List.mem_range.mpr h)
  have h2 := List.all_eq_true.mp h1 k (List.mem_range.mpr hk)
  simp only [Bool.and_eq_true, beq_iff_eq] at h2
  exact ⟨h2.1.1, h2.1.2, h2.2⟩
def fOk (i idx ci k : Nat) : Prop := ci < 11 ∧ k < (vwd ci).2.2 ∧ Jvm.Cond.fieldLink (ow i) idx (vwd ci).1 ((vwd ci).2.1 k).2.1 ((vwd ci).2.1 k).2.2.1 ∈ gdt
theorem ak_lt {o n : Nat} (h : ak o = n) (hn : n < 99) : o < 168 := by
  rcases Nat.lt_or_ge o 168 with q | q
  · exact q
  · unfold ak at h
    rw [List.getElem?_eq_none (by show SH.length ≤ o; exact q)] at h
    simp at h
    omega
theorem adr_lt {G : GC} {o : Nat} (h : o < 168) : adr G o = gb G + o := if_pos (Nat.lt_of_lt_of_le h (Nat.le_of_ble_eq_true rfl))
theorem cell_obj {G : GC} {M : Mem} {o ci : Nat} (hk : ak o = ci) (hc : ci < 11) : cellOf G M o = .inr (ci, (List.range (an o)).map (fun k => fv G M ci o k)) := by
  unfold cellOf
  rw [hk, if_neg (by omega), if_neg (by omega), if_neg (by omega)]
theorem cell_int {G : GC} {M : Mem} {o : Nat} (hk : ak o = 11) : cellOf G M o = .inl (gcy G 0, an o, .inl (M.1 o)) := by
  unfold cellOf
  rw [if_pos hk]
theorem cell_bool {G : GC} {M : Mem} {o : Nat} (hk : ak o = 12) : cellOf G M o = .inl (gcy G 1, an o, .inl (M.1 o)) := by
  unfold cellOf
  rw [hk, if_neg (by decide), if_pos rfl]
theorem cell_rows {G : GC} {M : Mem} {o : Nat} (hk : ak o = 13) : cellOf G M o = .inl (gcy G 2, an o, .inr (.inr (.inr (.inr (fun i => some (gb G + rb o + i)))))) := by
  unfold cellOf
  rw [hk, if_neg (by decide), if_neg (by decide), if_pos rfl]
theorem P_one {D : va_G} {q : Nat × va_E} {H : Heap} (h : va_at D vwCl q H) : va_P D vwCl [q] H := by
  intro k x hx
  have h0 : k < 1 := (List.getElem?_eq_some_iff.mp hx).1
  rw [show k = 0 by omega] at hx
  cases hx
  exact h
theorem Rel.at {G : GC} {cur o : Nat} {M : Mem} {H : Heap} (h : Rel G cur M H) (ho : o < cur) : va_at (gD G) vwCl (gb G + o, cellOf G M o) H := h.2.2.1 o ho
theorem cell_same {G : GC} {M M1 : Mem} {j : Nat} (h1 : M1.1 j = M.1 j) (h2 : M1.2.1 j = M.2.1 j) (h3 : M1.2.2 j = M.2.2 j) : cellOf G M1 j = cellOf G M j := by
  unfold cellOf fv
  rw [h1, h2, h3]
/-- one cell of ours is written -/
theorem Rel.put {G : GC} {cur o : Nat} {M M1 : Mem} {H H1 : Heap} (h : Rel G cur M H) (ho : o < cur) (hz : H1.size = H.size) (hq : ∀ q, q ≠ gb G + o → H1[q]? = H[q]?) (ha : va_at (gD G) vwCl (gb G + o, cellOf G M1 o) H1)
    (hM : ∀ j, j ≠ o → M1.1 j = M.1 j ∧ M1.2.1 j = M.2.1 j ∧ M1.2.2 j = M.2.2 j) : Rel G cur M1 H1 := by
  refine ⟨by rw [hz]; exact h.1, fun q h0 => ?_, fun j hj => ?_, fun j hj => ?_⟩
  · rw [hq q (by omega)]
    exact h.2.1 q h0
  · by_cases e : j = o
    · subst e
      exact ha
    · obtain ⟨m1, m2, m3⟩ := hM j e
      rw [cell_same m1 m2 m3]
      exact (h.2.2.1 j hj).kept (hq _ (by omega))
  · obtain ⟨m1, m2, m3⟩ := hM j (by omega)
    rw [m1, m2, m3]
    exact h.2.2.2 j hj
theorem u2_off {α : Type} {f : Nat → Nat → α} {o k j : Nat} {v : α} (h : j ≠ o) : u2 f o k v j = f j := by
  funext k'
  simp [u2, h]
theorem u2_on {α : Type} {f : Nat → Nat → α} {o k : Nat} {v : α} : u2 f o k v o = fun k' => if k' = k then v else f o k' := by
  funext k'
  simp [u2]
theorem lst_ref {G : GC} {o : Nat} {r : List Value} (h : o < 168) : lst G (.ref o :: r) = .ref (gb G + o) :: lst G r := by
  show Value.ref (adr G o) :: _ = _
  rw [adr_lt h]
  rfl
theorem lst_ref2 {G : GC} {o : Nat} {v : Value} {r : List Value} (h : o < 168) : lst G (v :: .ref o :: r) = lf G v :: .ref (gb G + o) :: lst G r := by
  show lf G v :: Value.ref (adr G o) :: _ = _
  rw [adr_lt h]
  rfl
theorem lst_ref3 {G : GC} {o : Nat} {v w : Value} {r : List Value} (h : o < 168) : lst G (w :: v :: .ref o :: r) = lf G w :: lf G v :: .ref (gb G + o) :: lst G r := by
  show lf G w :: lf G v :: Value.ref (adr G o) :: _ = _
  rw [adr_lt h]
  rfl
theorem r_getfield {G : GC} {e i pc idx o ci k : Nat} {t : T3} {l : LV} {r : List Value} {M : Mem} {Q : Option Value → Mem → Prop} {v : Value} (hd : decode (bC i) pc = .ok (.getfield idx, 3)) (hf : fOk i idx ci k) (ho : ak o = ci) (hlb : o < t.1) (hn : k < an o)
    (hv : lf G v = fv G M ci o k) (k1 : wp G e t i (pc + 3) l (v :: r) M Q) : wp G e t i pc l (.ref o :: r) M Q := by
  intro p lch e0 R s m args below meth c H locs cells slots Z ls mc ms cur C hc hR hlo hl h1 h2 h3 h4 hF
  obtain ⟨hci, hk, hlink⟩ := hf
  have hcur : o < cur := Nat.lt_of_lt_of_le hlb hc.2
  have ha := hR.at hcur
  rw [cell_obj ho hci] at ha
  have hw := k1 p lch e0 R s m args below meth c H locs cells slots Z ls mc ms cur C hc hR hlo hl h1 h2 h3 h4 hF
  have hst : lst G (.ref o :: r) = .ref (gb G + o) :: lst G r := by
    show Value.ref (adr G o) :: _ = _
    rw [adr_lt (ak_lt ho (by omega))]
    rfl
  rw [hst]
  obtain ⟨hx, hb, hml, hown, hts, hret, hlocks, hin, hE, hfr, hlo2⟩ := C
  refine va_get (D := gD G) (cl := vwCl) (ws := [(gb G + o, .inr (ci, (List.range (an o)).map (fun k => fv G M ci o k)))]) (C := (vwd ci).1) (T := (vwd ci).2.1) (N := (vwd ci).2.2) hx hb hts (vwd_in hci) hown hE.1 (P_one ha) 0 rfl (vwd_at hci) k hk (hts _ hlink) (fun x h9 => by rw [(vwd_k hci hk).2.2] at h9; exact h9) (v := lf G v) ?_ hd ?_
  · rw [hv]
    simp [List.getElem?_range hn]
  · exact hw

theorem vp_V_range {n k : Nat} {g : Nat → Value} (h : k < n) : vp_V ((List.range n).map g) k = g k := by
  unfold vp_V
  rw [List.getD_eq_getElem?_getD, List.getElem?_map, List.getElem?_range h]
  rfl
theorem r_putfield {G : GC} {e i pc idx o ci k : Nat} {t : T3} {l : LV} {r : List Value} {M M1 : Mem} {Q : Option Value → Mem → Prop} {v : Value} (hd : decode (bC i) pc = .ok (.putfield idx, 3)) (hf : fOk i idx ci k) (ho : ak o = ci) (hlb : o < t.1) (hn : (vwd ci).2.2 = an o)
    (hfin : ffi ci k = true → mx i = true ∧ oC i = ci) (hna : narrow (tyc ci k) (lf G v) = lf G v) (hfit : fits (tyc ci k) (lf G v) = true)
    (hv : fv G M1 ci o k = lf G v) (hM : ∀ j, j ≠ o → M1.1 j = M.1 j ∧ M1.2.1 j = M.2.1 j ∧ M1.2.2 j = M.2.2 j) (hMk : ∀ j, j ≠ k → fv G M1 ci o j = fv G M ci o j) (hmr : mx i = false → M1.2.2 = M.2.2) (k1 : wp G e t i (pc + 3) l r M1 Q) : wp G e t i pc l (v :: .ref o :: r) M Q := by
  intro p lch e0 R s m args below meth c H locs cells slots Z ls mc ms cur C hc hR hlo hl h1 h2 h3 h4 hF
  obtain ⟨hci, hk, hlink⟩ := hf
  have hcur : o < cur := Nat.lt_of_lt_of_le hlb hc.2
  have ha := hR.at hcur
  rw [cell_obj ho hci] at ha
  have hw := fun (H1 : Heap) (locs1 : List Loc) (hR1 : Rel G cur M1 H1) (hlo1 : ∀ z ∈ locs1, gb G ≤ z.base) => k1 p lch e0 R s m args below meth c H1 locs1 cells slots Z ls mc ms cur C hc hR1 hlo1 hl h1 h2 h3 h4 (fun v M H locs cells slots pc ls a1 a2 => hF v M H locs cells slots pc ls a1 (fun h9 => (a2 h9).trans (hmr h9)))
  rw [lst_ref2 (ak_lt ho (by omega))]
  obtain ⟨hx, hb, hml, hown, hts, hret, hlocks, hin, hE, hfr, hlo2⟩ := C
  obtain ⟨hty, hff, hdecl⟩ := vwd_k hci hk
  have hK := hE.1
  have hap := va_apart (own := ow i) hts (vwd_in hci) (tyc ci) (vwd_ty hci) (vwd_nm hci) hK (vwd_at hci)
  obtain ⟨rr, g1, cell, q1, q2, q3, q4⟩ := ha
  cases g1.symm.trans (vwd_at hci)
  obtain ⟨hS, hfc, kC, hkC, hkind⟩ := hK.1 ci _ (vwd_at hci)
  obtain ⟨cf, kf, fi, f, hi, hsl⟩ := hS k hk
  have hst := (u_facts hfc hkC (u_lays hts (vwd_in hci) hk) hi).1
  have hsame : s.fieldFound? (vwd ci).1 ((vwd ci).2.1 k).2.1 ((vwd ci).2.1 k).2.2.1 = some (cf, kf, fi, f) := by rw [← hi, hdecl]
  have hlay := hts _ (vwd_in hci _ (u_in_lay hk))
  unfold u_lay at hlay
  have hslot : cell.slots[f.slot]? = some (vp_V ((List.range (an o)).map (fun k => fv G M ci o k)) k) := by rw [hsl]; exact q4 k hk
  have hend : ∀ H1 : Heap, H1[gb G + o]? = some (cell.setSlot f.slot (lf G v)) → H1.size = H.size → (∀ q, q ≠ gb G + o → H1[q]? = H[q]?) → Rel G cur M1 H1 := by
    intro H1 e1 e2 e3
    rw [hsl] at e1
    refine hR.put hcur e2 e3 ?_ hM
    rw [cell_obj ho hci]
    refine ⟨_, vwd_at hci, t_OB.to (V := updV (vp_V ((List.range (an o)).map (fun k => fv G M ci o k))) k (lf G v)) ⟨_, e1, q2, q3, t_set q4 hap hk (lf G v)⟩ (fun j hj => ?_)⟩
    have hj2 : j < an o := by rw [← hn]; exact hj
    rw [vp_V_range hj2]
    by_cases hjk : j = k
    · subst hjk
      simp [updV, hv]
    · simp [updV, hjk, vp_V_range hj2, hMk j hjk]
  have hlo9 : ∀ z ∈ locs ++ [(⟨gb G + o, f.slot⟩ : Loc)], gb G ≤ z.base := by
    intro z hz
    rcases List.mem_append.mp hz with h | h
    · exact hlo z h
    · rw [List.mem_singleton.mp h]
      exact Nat.le_add_right _ _
  by_cases hfl : ((vwd ci).2.1 k).2.2.2 = true
  · rw [if_pos hfl] at hlay
    obtain ⟨hmx, hoc⟩ := hfin (by rw [← hff]; exact hfl)
    have howC : (vwd ci).1 = ow i := by unfold ow; rw [hoc, RN_eq hci]
    have hcf : m.cls = cf := by
      obtain ⟨_, _, c', _, _, _, -, -, hf', -, -, -, hown2, -⟩ := Cond.laysFinal_spec hlay
      have e1 : c' = cf := by have := hi.symm.trans hf'; simp at this; exact this.1.symm
      rw [hdecl, howC] at hown2
      rw [← e1]
      exact Option.some.inj (hown.symm.trans hown2)
    have h6 := u_fits hfc hkC hkind (Or.inr hlay) hi (vwd_ty hci k hk) hna hfit
    exact W.putFinK hx hb hown (hts _ hlink) hsame hst hcf (hin hmx (by omega)) (by rw [q2]; exact h6) q1 q3 (k2_hasslot hslot) rfl rfl hd fun H1 e1 e2 e3 => hw H1 _ (hend H1 e1 e2 e3) hlo9
  · rw [if_neg hfl] at hlay
    have h6 := u_store hfc hkC hkind hlay hi (vwd_ty hci k hk) hna hfit
    exact W.putK hx hb (f := f) ⟨hown, hts _ hlink, ⟨_, _, _, hsame⟩, hst⟩ (by rw [q2]; exact h6) q1 q3 (k2_hasslot hslot) rfl rfl hd fun H1 e1 e2 e3 => hw H1 _ (hend H1 e1 e2 e3) hlo9
theorem isB_zero {x : Int32} (h : isB x) : narrow .boolean (.int x) = .int x := by rcases h with rfl | rfl <;> rfl
section ARR
variable {G : GC} {e i pc c : Nat} {t : T3} {l : LV} {r : List Value} {M : Mem} {Q : Option Value → Mem → Prop} {j x : Int32}
theorem r_iaload (hd : decode (bC i) pc = .ok (.iaload, 1)) (ho : ak c = 11) (hlb : c < t.1) (hj : vp_in j (an c)) (k1 : wp G e t i (pc + 1) l (.int (M.1 c (ix j)) :: r) M Q) : wp G e t i pc l (.int j :: .ref c :: r) M Q := by
  intro p lch e0 R s m args below meth cc H locs cells slots Z ls mc ms cur C hc hR hlo hl h1 h2 h3 h4 hF
  have ha := hR.at (Nat.lt_of_lt_of_le hlb hc.2)
  rw [cell_int ho] at ha
  rw [lst_ref2 (ak_lt ho (by omega))]
  exact va_iald (D := gD G) (cl := vwCl) (ws := [_]) C.1 C.2.1 C.2.2.2.2.2.2.2.2.1.1 (P_one ha) 0 0 rfl rfl hj hd (k1 p lch e0 R s m args below meth cc H locs cells slots Z ls mc ms cur C hc hR hlo hl h1 h2 h3 h4 hF)
theorem r_baload (hd : decode (bC i) pc = .ok (.baload, 1)) (ho : ak c = 12) (hlb : c < t.1) (hj : vp_in j (an c)) (k1 : wp G e t i (pc + 1) l (.int (M.1 c (ix j)) :: r) M Q) : wp G e t i pc l (.int j :: .ref c :: r) M Q := by
  intro p lch e0 R s m args below meth cc H locs cells slots Z ls mc ms cur C hc hR hlo hl h1 h2 h3 h4 hF
  have ha := hR.at (Nat.lt_of_lt_of_le hlb hc.2)
  rw [cell_bool ho] at ha
  rw [lst_ref2 (ak_lt ho (by omega))]
  exact va_zald (D := gD G) (cl := vwCl) (ws := [_]) C.1 C.2.1 C.2.2.2.2.2.2.2.2.1.1 (P_one ha) 0 1 rfl rfl hj hd (k1 p lch e0 R s m args below meth cc H locs cells slots Z ls mc ms cur C hc hR hlo hl h1 h2 h3 h4 hF)
theorem rows_ok : (List.range 168).all (fun c => decide (ak c = 13 → rb c + an c ≤ 168)) = true := by decide +kernel
theorem r_aaload (hd : decode (bC i) pc = .ok (.aaload, 1)) (ho : ak c = 13) (hlb : c < t.1) (hj : vp_in j (an c)) (k1 : wp G e t i (pc + 1) l (.ref (rb c + ix j) :: r) M Q) : wp G e t i pc l (.int j :: .ref c :: r) M Q := by
  intro p lch e0 R s m args below meth cc H locs cells slots Z ls mc ms cur C hc hR hlo hl h1 h2 h3 h4 hF
  have ha := hR.at (Nat.lt_of_lt_of_le hlb hc.2)
  have hc2 : c < 168 := ak_lt ho (by omega)
  have hr : rb c + an c ≤ 168 := by
    have := List.all_eq_true.mp rows_ok c (List.mem_range.mpr hc2)
    simp only [decide_eq_true_eq] at this
    exact this ho
  have hjl : ix j < an c := Nat.not_le.mp fun q => hj (Or.inr q)
  rw [cell_rows ho] at ha
  rw [lst_ref2 hc2]
  have hw := k1 p lch e0 R s m args below meth cc H locs cells slots Z ls mc ms cur C hc hR hlo hl h1 h2 h3 h4 hF
  rw [lst_ref (by omega), ← Nat.add_assoc] at hw
  obtain ⟨hA, hA2⟩ := C.2.2.2.2.2.2.2.2.1.1.2 2 _ rfl
  refine W.aald (v := .ref (gb G + rb c + ix j)) (ty := .array .int) C.1 C.2.1 ha (hA (an c) (fun i => va_rf (some (gb G + rb c + i)))) rfl (fun q => by cases q) (by show ¬ (j < 0 ∨ (arrV _ _ _).slots.size ≤ _); rw [arrV_size]; exact hj) (by show (arrV _ _ _).slots[_]? = _; rw [arrV_read _ _ hjl]; rfl) rfl rfl hd hw
theorem Rel.arr {cur : Nat} {H H1 : Heap} {f : Nat → Int32} {cA : ClassId} {n : Nat} (hR : Rel G cur M H) (hcur : c < cur) (hcell : ∀ M1 : Mem, cellOf G M1 c = .inl (cA, n, .inl (M1.1 c))) (e : H1[gb G + c]? = some ((arrV cA n (fun q => .int (M.1 c q))).setSlot (ix j) (.int x))) (z : H1.size = H.size) (oq : ∀ q, q ≠ gb G + c → H1[q]? = H[q]?) : Rel G cur (u2 M.1 c (ix j) x, M.2) H1 := by
  refine hR.put hcur z oq ?_ (fun q hq => ⟨u2_off hq, rfl, rfl⟩)
  rw [hcell]
  show H1[_]? = some (vp_cell _ _)
  rw [e, vp_cell_i, arrV_store]
  congr 2
  funext q
  by_cases h : q = ix j
  · subst h
    simp [updV, u2]
  · simp [updV, u2, h]
theorem r_iastore (hd : decode (bC i) pc = .ok (.iastore, 1)) (ho : ak c = 11) (hlb : c < t.1) (hj : vp_in j (an c)) (k1 : wp G e t i (pc + 1) l r (u2 M.1 c (ix j) x, M.2) Q) : wp G e t i pc l (.int x :: .int j :: .ref c :: r) M Q := by
  intro p lch e0 R s m args below meth cc H locs cells slots Z ls mc ms cur C hc hR hlo hl h1 h2 h3 h4 hF
  have hcur : c < cur := Nat.lt_of_lt_of_le hlb hc.2
  have ha := hR.at hcur
  rw [cell_int ho] at ha
  rw [lst_ref3 (ak_lt ho (by omega))]
  obtain ⟨hA, hA2⟩ := C.2.2.2.2.2.2.2.2.1.1.2 0 _ rfl
  refine W.iast C.1 C.2.1 ha (hA (an c) (fun q => .int (M.1 c q))) (fun q => by cases q) (by show ¬ (j < 0 ∨ (arrV _ _ _).slots.size ≤ _); rw [arrV_size]; exact hj) rfl rfl hd fun H1 e z oq => ?_
  refine k1 p lch e0 R s m args below meth cc H1 _ cells slots Z ls mc ms cur C hc (hR.arr (f := fun _ => 0) hcur (fun M1 => cell_int ho) e z oq) ?_ hl h1 h2 h3 h4 hF
  intro q hq
  rcases List.mem_append.mp hq with h | h
  · exact hlo q h
  · rw [List.mem_singleton.mp h]
    exact Nat.le_add_right _ _
theorem r_bastore (hd : decode (bC i) pc = .ok (.bastore, 1)) (ho : ak c = 12) (hlb : c < t.1) (hj : vp_in j (an c)) (hx : isB x) (k1 : wp G e t i (pc + 1) l r (u2 M.1 c (ix j) x, M.2) Q) : wp G e t i pc l (.int x :: .int j :: .ref c :: r) M Q := by
  intro p lch e0 R s m args below meth cc H locs cells slots Z ls mc ms cur C hc hR hlo hl h1 h2 h3 h4 hF
  have hcur : c < cur := Nat.lt_of_lt_of_le hlb hc.2
  have ha := hR.at hcur
  rw [cell_bool ho] at ha
  rw [lst_ref3 (ak_lt ho (by omega))]
  obtain ⟨hA, hA2⟩ := C.2.2.2.2.2.2.2.2.1.1.2 1 _ rfl
  refine W.zast C.1 C.2.1 ha (hA (an c) (fun q => .int (M.1 c q))) (fun q => by cases q) (by show ¬ (j < 0 ∨ (arrV _ _ _).slots.size ≤ _); rw [arrV_size]; exact hj) rfl rfl hd fun H1 e z oq => ?_
  rw [isB_zero hx] at e
  refine k1 p lch e0 R s m args below meth cc H1 _ cells slots Z ls mc ms cur C hc (hR.arr (f := fun _ => 0) hcur (fun M1 => cell_bool ho) e z oq) ?_ hl h1 h2 h3 h4 hF
  intro q hq
  rcases List.mem_append.mp hq with h | h
  · exact hlo q h
  · rw [List.mem_singleton.mp h]
    exact Nat.le_add_right _ _
theorem r_alen (hd : decode (bC i) pc = .ok (.arraylength, 1)) (ho : ak c = 11 ∨ ak c = 12) (hlb : c < t.1) (k1 : wp G e t i (pc + 1) l (.int (nI (an c)) :: r) M Q) : wp G e t i pc l (.ref c :: r) M Q := by
  intro p lch e0 R s m args below meth cc H locs cells slots Z ls mc ms cur C hc hR hlo hl h1 h2 h3 h4 hF
  have ha := hR.at (Nat.lt_of_lt_of_le hlb hc.2)
  have hw := k1 p lch e0 R s m args below meth cc H locs cells slots Z ls mc ms cur C hc hR hlo hl h1 h2 h3 h4 hF
  rw [lst_ref (by rcases ho with h | h <;> exact ak_lt h (by omega))]
  rcases ho with ho | ho
  · rw [cell_int ho] at ha
    exact va_alen (D := gD G) (cl := vwCl) (ws := [_]) C.1 C.2.1 C.2.2.2.2.2.2.2.2.1.1 (P_one ha) 0 0 rfl rfl rfl hd hw
  · rw [cell_bool ho] at ha
    exact va_alen (D := gD G) (cl := vwCl) (ws := [_]) C.1 C.2.1 C.2.2.2.2.2.2.2.2.1.1 (P_one ha) 0 1 rfl rfl rfl hd hw
theorem adr_sp {k : Nat} : adr G (SP + k) = gsp G k := by
  unfold adr
  rw [if_neg (by omega), Nat.add_sub_cancel_left]
theorem Rel.scr {cur : Nat} {H : Heap} (hR : Rel G cur M H) : va_S (fun q => gb G ≤ q) (gH G) H [] → True := fun _ => trivial
theorem r_sload (hd : decode (bC i) pc = .ok (.iaload, 1)) (hj : vp_in j (gLn G)) (k1 : wp G e t i (pc + 1) l (.int (gxs G (ix j)) :: r) M Q) : wp G e t i pc l (.int j :: .ref SP :: r) M Q := by
  intro p lch e0 R s m args below meth cc H locs cells slots Z ls mc ms cur C hc hR hlo hl h1 h2 h3 h4 hF
  have hw := k1 p lch e0 R s m args below meth cc H locs cells slots Z ls mc ms cur C hc hR hlo hl h1 h2 h3 h4 hF
  have hst : lst G (.int j :: .ref SP :: r) = .int j :: .ref (gsp G 0) :: lst G r := by
    show Value.int j :: Value.ref (adr G (SP + 0)) :: _ = _
    rw [adr_sp]
    rfl
  rw [hst]
  obtain ⟨-, hX, hb0, hz0, -⟩ := C.2.2.2.2.2.2.2.2.1
  exact va_sld (A := fun q => gb G ≤ q) (H0 := gH G) (locs := locs) C.1 C.2.1 hX (by rw [hz0]; exact hb0) (by omega) ⟨by rw [hz0, hR.1]; omega, fun q h1 h2 => hR.2.1 q (by omega), hlo⟩ hj hd hw
theorem r_slen (hd : decode (bC i) pc = .ok (.arraylength, 1)) (k1 : wp G e t i (pc + 1) l (.int (nI (gLn G)) :: r) M Q) : wp G e t i pc l (.ref SP :: r) M Q := by
  intro p lch e0 R s m args below meth cc H locs cells slots Z ls mc ms cur C hc hR hlo hl h1 h2 h3 h4 hF
  have hw := k1 p lch e0 R s m args below meth cc H locs cells slots Z ls mc ms cur C hc hR hlo hl h1 h2 h3 h4 hF
  have hst : lst G (.ref SP :: r) = .ref (gsp G 0) :: lst G r := by
    show Value.ref (adr G (SP + 0)) :: _ = _
    rw [adr_sp]
    rfl
  rw [hst]
  obtain ⟨-, hX, hb0, hz0, -⟩ := C.2.2.2.2.2.2.2.2.1
  exact va_slen (A := fun q => gb G ≤ q) (H0 := gH G) (locs := locs) C.1 C.2.1 hX (by rw [hz0]; exact hb0) (by omega) ⟨by rw [hz0, hR.1]; omega, fun q h1 h2 => hR.2.1 q (by omega), hlo⟩ hd hw
end ARR
end
section
/-! calls, and what is made -/
theorem good_wsM {j : Nat} (h : Jvm.Cond.code (yM j) (bC j) (nL j) (rT j) ∈ gdt) : GoodIn gdt (wsM j) := by
  intro w hw
  have hm : w ∈ gdt := by
    rcases List.mem_cons.mp hw with rfl | q
    · exact h
    · exact q
  exact ⟨hm, good_of_word (List.mem_filter.mp hm).2⟩
theorem EF.to {G : GC} {s U : State} (h : EF G s) (hA : s.vm.Alike U.vm) (hk : ∀ (own : String) (k : Nat) (tx : String) (a : Nat), vk_R own k tx a s → vk_R own k tx a U) (hk2 : ∀ (a : String) (i : Nat) (x : MethodName) (h : String), va_Nw (.methodLinkNest a i x h) s → va_Nw (.methodLinkNest a i x h) U) : EF G U := by
  obtain ⟨h1, h2, h3, h4, ⟨g1, g2, g3, ⟨adV, g4⟩, g5, g6⟩, g7, g8⟩ := h
  exact ⟨h1.moved hA, h2.moved hA, h3, h4, ⟨hk _ _ _ _ g1, hk _ _ _ _ g2, hk _ _ _ _ g3, ⟨adV, g4.moved hA⟩, g5.moved hA, g6.moved hA⟩, g7.moved hA, hk2 _ _ _ _ g8⟩
theorem EF.warm {G : GC} {s U : State} (h : EF G s) (hW : s.WarmedH U.vm) : EF G U := h.to hW.alike (fun _ _ _ _ q => q.warm hW) (fun _ _ _ _ q => q.warmM hW)
theorem EF.same {G : GC} {s U : State} (h : EF G s) (hv : U.vm = s.vm) : EF G U := h.to (by rw [hv]; exact Vm.Alike.refl _) (fun _ _ _ _ q => q.same hv) (fun _ _ _ _ q => q.same rfl hv.symm)
/-- what the tables say of the method j -/
def jOk (j : Nat) : Prop := Jvm.Cond.code (yM j) (bC j) (nL j) (rT j) ∈ gdt ∧ Jvm.Cond.initialized (yM j).cls ∈ gdt ∧ ((yM j).cls ≠ "java/lang/invoke/MethodHandle" ∧ (yM j).cls ≠ "java/lang/invoke/VarHandle" ∧ (parseMethodDescriptor (yM j).desc).map (fun d => d.parameters.length) = some (na j)) ∧ nL j ≤ 30
theorem cats_lst {G : GC} {r : List Value} : ((lst G r).map fun v => v.category).sum = cats r := by
  unfold lst cats
  rw [List.map_map]
  congr 2
  funext v
  exact lf_cat G v
theorem blindM {G : GC} {cur : Nat} {M : Mem} {av : List Value} : FrameBlind (va_Pc av (fun U => Rel G cur M U.heap ∧ EF G U)) := fun a U g mk q => by
  obtain ⟨q0, q1, q2⟩ := q
  exact ⟨q0, q1, q2.same rfl⟩
section CB
variable {G : GC} {e e1 i j pc idx : Nat} {t : T3} {l : LV} {r As : List Value} {M : Mem} {Q : Option Value → Mem → Prop}
/-- behind a call: its answer on the stack, its memory -/
theorem wp_back {p : Program} {lch : Launch} {e0 : Env} {R : Room} {s : State} {m : MethodId} {args : Array Value} {below : List Frame} {meth : Method} {c : Code} {H : Heap} {locs : List Loc} {cells slots : Nat} {Z : State → Prop} {ls : Array Slot} {cur : Nat} {st0 : List Value} {K : Option Value → Mem → Prop}
    (hr : va_Run p lch e0 R s m args below meth c H locs cells slots (alc j).1 (alc j).2 (F0 m pc ls st0) (lst G r) (fun _ o u => ∃ (v : Option Value) (M1 : Mem), o = .returned (v.map (lf G)) ∧ K v M1 ∧ (mx j = false → M1.2.2 = M.2.2) ∧ Rel G (cur + (alc j).1) M1 u.heap) (fun q => gb G ≤ q))
    (hlo : ∀ z ∈ locs, gb G ≤ z.base)
    (kk : ∀ (v : Option Value) (M1 : Mem) (H1 : Heap) (locs1 : List Loc), K v M1 → (mx j = false → M1.2.2 = M.2.2) → Rel G (cur + (alc j).1) M1 H1 → (∀ z ∈ locs1, gb G ≤ z.base) → W p lch e0 R s m args below meth c H1 locs1 (cells + (alc j).1) (slots + (alc j).2) Z (F0 m (pc + 3) ls (lst G (v.toList ++ r)))) :
    W p lch e0 R s m args below meth c H locs cells slots Z (F0 m pc ls st0) := by
  intro T hT X
  obtain ⟨v, st₀, u, T', L, h0, X', hL, e1, e2, ⟨v1, M1, hv, hK, hmr, hR1⟩, st⟩ := hr T hT X
  cases hv
  obtain ⟨t2, a1, b1⟩ := kk v1 M1 T'.heap (locs ++ L) hK hmr (by rw [e1]; exact hR1) (fun z hz => by
    rcases List.mem_append.mp hz with h | h
    · exact hlo z h
    · exact hL z h) T' rfl X'
  refine ⟨t2, st t2 ?_, b1⟩
  have e3 : (v1.map (lf G)).toList ++ lst G r = lst G (v1.toList ++ r) := by
    cases v1 with
    | none => rfl
    | some w => rfl
  rw [e3]
  exact a1
theorem mem_words {args : Array Value} {s : State} {w : Jvm.Cond} (hts : ∀ w ∈ gdt, w.before args s = true) (h : w ∈ gdt) : w.before args s = true := hts w h
/-- the words and the room of a call from i with e to j with e1 -/
theorem callB_M {R : Room} {s : State} {args : Array Value} (hts : ∀ w ∈ gdt, w.before args s = true) (hj : jOk j) (hl : Jvm.Cond.methodLink (ow i) idx (yM j) ∈ gdt) (hd : dep j + e1 + 1 ≤ dep i + e) (hfr : dep i + e ≤ R.frames) (hlo : 60 * (dep i + e) ≤ R.locals) :
    CallB R s args (ow i) idx (yM j) (bC j) (nL j) (rT j) (wsM j) (rmM e1 j) (alc j).1 (alc j).2 (na j) := by
  obtain ⟨h1, h2, h3, h4⟩ := hj
  exact callB_of (na j) hts (good_wsM h1) (ws' := gdt) rfl rfl rfl (hts _ h2) (hts _ hl) h3 ⟨by show dep j + e1 + 1 ≤ _; omega, by show 8 + (nL j + 11) + 60 * (dep j + e1) ≤ _; omega⟩
theorem curOk.call {cur : Nat} (h : curOk i t.1 cur) (hx : mx j = true → mx i = true) : curOk j t.1 cur := ⟨fun q => h.1 (hx q), h.2⟩
theorem curOk.past {cur : Nat} (h : curOk i t.1 cur) (hx : (alc j).1 = 0 ∨ mx i = true) : curOk i (t.1 + (alc j).1) (cur + (alc j).1) := ⟨fun q => by rw [h.1 q], by have := h.2; omega⟩
theorem r_invV {o : Nat} (hd : decode (bC i) pc = .ok (.invokevirtual idx, 3)) (hj : jOk j) (hl : Jvm.Cond.methodLink (ow i) idx (yM j) ∈ gdt) (hin : Jvm.Cond.instanceMethod (yM j) ∈ gdt) (hsel : Jvm.Cond.selects (ow j) (yM j) (yM j) ∈ gdt) (hoc : oC j < 11) (ho : ak o = oC j) (hlb : o < t.1) (hx : mx j = false) (ha : alc j = (0, 0))
    (hdp : dep j + e1 + 1 ≤ dep i + e) (hn : As.length = na j) (hcr : cats r ≤ 8) (k1 : wpc G e1 t.1 j (.ref o :: As) M (fun v M1 => M1.2.2 = M.2.2 → wp G e t i (pc + 3) l (v.toList ++ r) M1 Q)) : wp G e t i pc l (As.reverse ++ .ref o :: r) M Q := by
  intro p lch e0 R s m args below meth c H locs cells slots Z ls mc ms cur C hc hR hlo hl2 h1 h2 h3 h4 hF
  obtain ⟨hx0, hb, hml, hown, hts, hret, hlocks, hini, hE, hfr, hlo2⟩ := id C
  have hcell := hR.at (Nat.lt_of_lt_of_le hlb hc.2)
  rw [cell_obj ho hoc] at hcell
  have hst : lst G (As.reverse ++ .ref o :: r) = (lst G As).reverse ++ .ref (gb G + o) :: lst G r := by
    rw [← lst_ref (r := r) (ak_lt ho (by omega))]
    unfold lst
    rw [List.map_append, List.map_reverse]
  rw [hst]
  have hM := k1 lch cur (hc.call (fun q => by rw [hx] at q; cases q))
  have hrun := va_runV (As := lst G As) (rest := lst G r) (g := F0 m pc ls ((lst G As).reverse ++ .ref (gb G + o) :: lst G r)) (b := gb G + o) (l := lch) (R := R) (e := e0) (below := below) (meth := meth) (H := H) (locs := locs) (cells := cells) (slots := slots) (C := ow j) ⟨hx0, hb, hml, hown, hts⟩ hM ⟨callB_M (i := i) (e := e) (e1 := e1) (idx := idx) hts hj hl hdp hfr hlo2, hts _ hin, hts _ hsel⟩
    ⟨blindM, by
      have := va_recv hE.1 (P_one hcell) (vwd_at hoc) (q0 := 0) rfl
      unfold ow
      rw [RN_eq hoc]
      exact this, fun U hU hW => ⟨by rw [lst_ref (ak_lt ho (by omega))], by rw [hU]; exact hR, hE.warm hW⟩⟩ rfl (by unfold lst; rw [List.length_map]; exact hn) hl2.1 rfl (lv_room (by rw [cats_lst]; exact hcr)) hd ⟨by rw [ha]; show cells + 0 ≤ _; omega, by rw [ha]; show slots + 0 ≤ _; omega⟩
  refine wp_back (K := fun v M1 => M1.2.2 = M.2.2 → wp G e t i (pc + 3) l (v.toList ++ r) M1 Q) hrun hlo ?_
  intro v M1 H1 locs1 hK hmr hR1 hlo1
  have hmr2 := hmr hx
  rw [ha] at hR1 ⊢
  exact hK hmr2 p lch e0 R s m args below meth c H1 locs1 _ _ Z ls mc ms cur C hc hR1 hlo1 hl2 (by show cells + 0 + _ ≤ _; omega) (by show slots + 0 + _ ≤ _; omega) h3 h4 (by rw [hmr2]; exact hF)
theorem r_invS (hd : decode (bC i) pc = .ok (.invokestatic idx, 3)) (hj : jOk j) (hl : Jvm.Cond.methodLink (ow i) idx (yM j) ∈ gdt) (hin : Jvm.Cond.static (yM j) ∈ gdt) (hx : mx j = false) (ha : alc j = (0, 0))
    (hdp : dep j + e1 + 1 ≤ dep i + e) (hn : As.length = na j) (hcr : cats r ≤ 8) (k1 : wpc G e1 t.1 j As M (fun v M1 => M1.2.2 = M.2.2 → wp G e t i (pc + 3) l (v.toList ++ r) M1 Q)) : wp G e t i pc l (As.reverse ++ r) M Q := by
  intro p lch e0 R s m args below meth c H locs cells slots Z ls mc ms cur C hc hR hlo hl2 h1 h2 h3 h4 hF
  obtain ⟨hx0, hb, hml, hown, hts, hret, hlocks, hini, hE, hfr, hlo2⟩ := id C
  have hst : lst G (As.reverse ++ r) = (lst G As).reverse ++ lst G r := by
    unfold lst
    rw [List.map_append, List.map_reverse]
  rw [hst]
  have hM := k1 lch cur (hc.call (fun q => by rw [hx] at q; cases q))
  have hrun := va_runS (As := lst G As) (rest := lst G r) (g := F0 m pc ls ((lst G As).reverse ++ lst G r)) (l := lch) (R := R) (e := e0) (below := below) (meth := meth) (H := H) (locs := locs) (cells := cells) (slots := slots) ⟨hx0, hb, hml, hown, hts⟩ hM ⟨callB_M (i := i) (e := e) (e1 := e1) (idx := idx) hts hj hl hdp hfr hlo2, hts _ hin⟩
    ⟨blindM, fun U hU hW => ⟨rfl, by rw [hU]; exact hR, hE.warm hW⟩⟩ rfl (by unfold lst; rw [List.length_map]; exact hn) hl2.1 rfl (lv_room (by rw [cats_lst]; exact hcr)) hd ⟨by rw [ha]; show cells + 0 ≤ _; omega, by rw [ha]; show slots + 0 ≤ _; omega⟩
  refine wp_back (K := fun v M1 => M1.2.2 = M.2.2 → wp G e t i (pc + 3) l (v.toList ++ r) M1 Q) hrun hlo ?_
  intro v M1 H1 locs1 hK hmr hR1 hlo1
  have hmr2 := hmr hx
  rw [ha] at hR1 ⊢
  exact hK hmr2 p lch e0 R s m args below meth c H1 locs1 _ _ Z ls mc ms cur C hc hR1 hlo1 hl2 (by show cells + 0 + _ ≤ _; omega) (by show slots + 0 + _ ≤ _; omega) h3 h4 (by rw [hmr2]; exact hF)
end CB
end
section
/-! the other rules: constructors, what is made, the JDK's own, switches, ends -/
section RR
variable {G : GC} {e e1 i j pc idx : Nat} {t : T3} {l : LV} {r As : List Value} {M : Mem} {Q : Option Value → Mem → Prop}
theorem r_invI {o : Nat} (hd : decode (bC i) pc = .ok (.invokespecial idx, 3)) (hj : jOk j) (hl : Jvm.Cond.methodLink (ow i) idx (yM j) ∈ gdt) (hin : Jvm.Cond.instanceMethod (yM j) ∈ gdt) (hnm : (yM j).name = "<init>") (hrt : rT j = none) (hxi : mx i = true) (ha1 : (alc j).1 ≤ t.2.1) (ha2 : (alc j).2 ≤ t.2.2)
    (hdp : dep j + e + 1 ≤ dep i + e) (hn : As.length = na j) (hcr : cats r ≤ 8) (k1 : wpc G e t.1 j (.ref o :: As) M (fun v M1 => v = none ∧ wp G e (t.1 + (alc j).1, t.2.1 - (alc j).1, t.2.2 - (alc j).2) i (pc + 3) l r M1 Q)) : wp G e t i pc l (As.reverse ++ .ref o :: r) M Q := by
  intro p lch e0 R s m args below meth c H locs cells slots Z ls mc ms cur C hc hR hlo hl2 h1 h2 h3 h4 hF
  obtain ⟨hx0, hb, hml, hown, hts, hret, hlocks, hini, hE, hfr, hlo2⟩ := id C
  have hst : lst G (As.reverse ++ .ref o :: r) = (lst G As).reverse ++ .ref (adr G o) :: lst G r := by
    unfold lst
    rw [List.map_append, List.map_reverse]
    rfl
  rw [hst]
  have hM := k1 lch cur (hc.call (fun _ => hxi))
  have hcb := callB_M (i := i) (j := j) (e := e) (e1 := e) (idx := idx) (R := R) hts hj hl hdp hfr hlo2
  rw [hrt] at hcb
  have hrun := va_runI (As := lst G As) (rest := lst G r) (g := F0 m pc ls ((lst G As).reverse ++ .ref (adr G o) :: lst G r)) (b := adr G o) (l := lch) (R := R) (e := e0) (below := below) (meth := meth) (H := H) (locs := locs) (cells := cells) (slots := slots) ⟨hx0, hb, hml, hown, hts⟩ hM ⟨hcb, hnm, hts _ hin⟩
    ⟨blindM, fun U hU hW => ⟨rfl, by rw [hU]; exact hR, hE.warm hW⟩⟩ rfl (by unfold lst; rw [List.length_map]; exact hn) hl2.1 rfl (lv_room (by rw [cats_lst]; exact hcr)) hd ⟨by omega, by omega⟩
  refine wp_back (M := M) (K := fun v M1 => v = none ∧ wp G e (t.1 + (alc j).1, t.2.1 - (alc j).1, t.2.2 - (alc j).2) i (pc + 3) l r M1 Q) hrun hlo ?_
  intro v M1 H1 locs1 hK hmr hR1 hlo1
  obtain ⟨rfl, hK⟩ := hK
  exact hK p lch e0 R s m args below meth c H1 locs1 _ _ Z ls mc ms _ C (hc.past (Or.inr hxi)) hR1 hlo1 hl2 (by show cells + (alc j).1 + (t.2.1 - (alc j).1) ≤ _; omega) (by show slots + (alc j).2 + (t.2.2 - (alc j).2) ≤ _; omega) h3 h4
    (fun v M H locs cells slots pc ls a1 a2 a3 => hF v M H locs cells slots pc ls a1 (fun q => by rw [hxi] at q; cases q) (by rw [show cur + (alc j).1 + (t.2.1 - (alc j).1) = cur + t.2.1 by omega] at a3; exact a3))
theorem r_invIN {o : Nat} (hd : decode (bC i) pc = .ok (.invokespecial 70, 3)) (hoi : ow i = RX9) (hyj : yM j = yX6_init) (hj : jOk j) (hin : Jvm.Cond.instanceMethod (yM j) ∈ gdt) (hnm : (yM j).name = "<init>") (hrt : rT j = none) (hxi : mx i = true) (ha1 : (alc j).1 ≤ t.2.1) (ha2 : (alc j).2 ≤ t.2.2)
    (hdp : dep j + e + 1 ≤ dep i + e) (hn : As.length = na j) (hcr : cats r ≤ 8) (k1 : wpc G e t.1 j (.ref o :: As) M (fun v M1 => v = none ∧ wp G e (t.1 + (alc j).1, t.2.1 - (alc j).1, t.2.2 - (alc j).2) i (pc + 3) l r M1 Q)) : wp G e t i pc l (As.reverse ++ .ref o :: r) M Q := by
  intro p lch e0 R s m args below meth c H locs cells slots Z ls mc ms cur C hc hR hlo hl2 h1 h2 h3 h4 hF
  obtain ⟨hx0, hb, hml, hown, hts, hret, hlocks, hini, hE, hfr, hlo2⟩ := id C
  have hst : lst G (As.reverse ++ .ref o :: r) = (lst G As).reverse ++ .ref (adr G o) :: lst G r := by
    unfold lst
    rw [List.map_append, List.map_reverse]
    rfl
  rw [hst]
  have hM := k1 lch cur (hc.call (fun _ => hxi))
  have hNw := hE.2.2.2.2.2.2
  obtain ⟨j1, j2, j3, j4⟩ := id hj
  have hcb := va_cnB (R := R) (index := 70) (own := ow i) (host := "PowersForTimes") (na j) hts (good_wsM j1) (ws' := gdt) rfl (rm := rmM e j) rfl rfl (by rw [hoi, hyj]; exact hNw) (hts _ j2) j3 ⟨by show dep j + e + 1 ≤ _; omega, by show 8 + (nL j + 11) + 60 * (dep j + e) ≤ _; omega⟩
  rw [hrt] at hcb
  have hrun := va_runIN (As := lst G As) (rest := lst G r) (g := F0 m pc ls ((lst G As).reverse ++ .ref (adr G o) :: lst G r)) (b := adr G o) (l := lch) (R := R) (e := e0) (below := below) (meth := meth) (H := H) (locs := locs) (cells := cells) (slots := slots) ⟨hx0, hb, hml, hown, hts⟩ hM ⟨hcb, hnm, hts _ hin⟩
    ⟨blindM, fun U hU hW => ⟨rfl, by rw [hU]; exact hR, hE.warm hW⟩⟩ rfl (by unfold lst; rw [List.length_map]; exact hn) hl2.1 rfl (lv_room (by rw [cats_lst]; exact hcr)) hd ⟨by omega, by omega⟩
  refine wp_back (M := M) (K := fun v M1 => v = none ∧ wp G e (t.1 + (alc j).1, t.2.1 - (alc j).1, t.2.2 - (alc j).2) i (pc + 3) l r M1 Q) hrun hlo ?_
  intro v M1 H1 locs1 hK hmr hR1 hlo1
  obtain ⟨rfl, hK⟩ := hK
  exact hK p lch e0 R s m args below meth c H1 locs1 _ _ Z ls mc ms _ C (hc.past (Or.inr hxi)) hR1 hlo1 hl2 (by show cells + (alc j).1 + (t.2.1 - (alc j).1) ≤ _; omega) (by show slots + (alc j).2 + (t.2.2 - (alc j).2) ≤ _; omega) h3 h4
    (fun v M H locs cells slots pc ls a1 a2 a3 => hF v M H locs cells slots pc ls a1 (fun q => by rw [hxi] at q; cases q) (by rw [show cur + (alc j).1 + (t.2.1 - (alc j).1) = cur + t.2.1 by omega] at a3; exact a3))
theorem obj_words : Jvm.Cond.instanceMethod objectInit ∈ gdt ∧ Jvm.Cond.code objectInit ⟨#[0xb1]⟩ 1 none ∈ gdt := by decide +kernel
theorem r_objInit {o : Nat} (hd : decode (bC i) pc = .ok (.invokespecial idx, 3)) (hl : Jvm.Cond.methodLink (ow i) idx objectInit ∈ gdt) (hdp : 1 ≤ dep i) (hcr : cats r ≤ 8) (k1 : wp G e t i (pc + 3) l r M Q) : wp G e t i pc l (.ref o :: r) M Q := by
  intro p lch e0 R s m args below meth c H locs cells slots Z ls mc ms cur C hc hR hlo hl2 h1 h2 h3 h4 hF
  have hw := k1 p lch e0 R s m args below meth c H locs cells slots Z ls mc ms cur C hc hR hlo hl2 h1 h2 h3 h4 hF
  obtain ⟨hx0, hb, hml, hown, hts, hret, hlocks, hini, hE, hfr, hlo2⟩ := id C
  exact W.objInit hx0 hb hown (hts _ hl) (hts _ obj_words.1) (hts _ obj_words.2) rfl (by rw [hml]; exact hl2.1) (a := adr G o) (rest := lst G r) rfl hd (by omega) (by show 2 * 0 + _ + 12 ≤ _; rw [cats_lst]; omega) hw
theorem min_words : Jvm.Cond.static Lib.Math.min.name ∈ gdt ∧ Jvm.Cond.initialized "java/lang/Math" ∈ gdt ∧ Jvm.Cond.code Lib.Math.min.name Lib.Math.min.code 2 (some .int) ∈ gdt ∧ Jvm.Cond.methodLink RX4 71 Lib.Math.min.name ∈ gdt ∧ Jvm.Cond.methodLink RX7 41 Lib.Math.min.name ∈ gdt := by decide +kernel
theorem r_min {x y : Int32} (hd : decode (bC i) pc = .ok (.invokestatic idx, 3)) (hl : (ow i = RX4 ∧ idx = 71) ∨ (ow i = RX7 ∧ idx = 41)) (hdp : 1 ≤ dep i) (hcr : cats r ≤ 8) (k1 : wp G e t i (pc + 3) l (.int (if y < x then y else x) :: r) M Q) : wp G e t i pc l (.int y :: .int x :: r) M Q := by
  intro p lch e0 R s m args below meth c H locs cells slots Z ls mc ms cur C hc hR hlo hl2 h1 h2 h3 h4 hF
  have hw := k1 p lch e0 R s m args below meth c H locs cells slots Z ls mc ms cur C hc hR hlo hl2 h1 h2 h3 h4 hF
  obtain ⟨hx0, hb, hml, hown, hts, hret, hlocks, hini, hE, hfr, hlo2⟩ := id C
  obtain ⟨w1, w2, w3, w4, w5⟩ := min_words
  have hl' : Jvm.Cond.methodLink (ow i) idx Lib.Math.min.name ∈ gdt := by
    rcases hl with ⟨a, b⟩ | ⟨a, b⟩
    · rw [a, b]; exact w4
    · rw [a, b]; exact w5
  exact va_mmin hx0 hb (by rw [hml]; exact hl2.1.symm) hown (hts _ hl') (hts _ w1) (hts _ w2) (hts _ w3) (by omega) (by show ((lst G r).map fun v => v.category).sum + 13 ≤ _; rw [cats_lst]; omega) (by omega) (by omega) hd hw
theorem r_ldc2 {a : Nat} (hd : decode (bC i) pc = .ok (.ldc2_w idx, 3)) (hl : Jvm.Cond.constantLong (ow i) idx (lN a) ∈ gdt) (k1 : wp G e t i (pc + 3) l (.long (lN a) :: r) M Q) : wp G e t i pc l r M Q :=
  wp_of (fun _ _ _ _ _ _ _ _ _ _ _ _ _ _ _ _ C hl2 w => lv_ldc2 C.1 C.2.1 C.2.2.2.1 (C.2.2.2.2.1 _ hl) hd w) k1
theorem r_ldcI {a : Nat} (hd : decode (bC i) pc = .ok (.ldc idx, 2)) (hl : Jvm.Cond.constant (ow i) idx (nI a) ∈ gdt) (k1 : wp G e t i (pc + 2) l (.int (nI a) :: r) M Q) : wp G e t i pc l r M Q :=
  wp_of (fun _ _ _ _ _ _ _ _ _ _ _ _ _ _ _ _ C hl2 w => lv_ldc C.1 C.2.1 C.2.2.2.1 (C.2.2.2.2.1 _ hl) hd w) k1
theorem r_ldcS {a : Nat} (hd : decode (bC i) pc = .ok (.ldc idx, 2)) (ho : ow i = "PowersForTimes$Reader") (h : (idx = 94 ∧ a = 1) ∨ (idx = 100 ∧ a = 2) ∨ (idx = 126 ∧ a = 3)) (k1 : wp G e t i (pc + 2) l (.ref (SP + a) :: r) M Q) : wp G e t i pc l r M Q := by
  refine wp_of (fun p lch e0 R s m args below meth c H locs cells slots Z ls C hl2 w => ?_) k1
  have hw : lst G (.ref (SP + a) :: r) = .ref (gsp G a) :: lst G r := by
    show Value.ref (adr G (SP + a)) :: _ = _
    rw [adr_sp]
    rfl
  rw [hw] at w
  obtain ⟨g1, g2, g3, -⟩ := C.2.2.2.2.2.2.2.2.1.2.2.2.2.1
  have hown := C.2.2.2.1
  rw [ho] at hown
  rcases h with ⟨rfl, rfl⟩ | ⟨rfl, rfl⟩ | ⟨rfl, rfl⟩
  · exact va_ldcS C.1 C.2.1 hown g1 hd w
  · exact va_ldcS C.1 C.2.1 hown g2 hd w
  · exact va_ldcS C.1 C.2.1 hown g3 hd w
-- switches
def lk (n d : Nat) : List Nat → Nat
  | k :: tg :: r => if n = k then tg else lk n d r
  | _ => d
def kys : List Nat → List Nat
  | k :: _ :: r => k :: kys r
  | _ => []
theorem sw_in {kk : Nat → Prop} {n d : Nat} (hn : n < 2 ^ 31) : ∀ {tb : List Nat}, (∀ k ∈ kys tb, k < 2 ^ 31) → sw (nI n) kk d tb → kk (lk n d tb)
  | [], _, h => h
  | [_], _, h => h
  | k :: tg :: r, hk, h => by
    have hk0 : k < 2 ^ 31 := hk k List.mem_cons_self
    unfold lk
    by_cases e : n = k
    · rw [if_pos e]
      exact h.1 (by rw [e])
    · rw [if_neg e]
      exact sw_in hn (fun k' h' => hk k' (List.mem_cons_of_mem _ h')) (h.2 (fun q => e ((nI_eq hn hk0).mp q)))
theorem sw_out {kk : Nat → Prop} {x : Int32} {d : Nat} : ∀ {tb : List Nat}, (∀ k ∈ kys tb, ¬ x = nI k) → sw x kk d tb → kk d
  | [], _, h => h
  | [_], _, h => h
  | k :: tg :: r, hk, h => sw_out (fun k' h' => hk k' (List.mem_cons_of_mem _ h')) (h.2 (hk k List.mem_cons_self))
def tswOk (pc a : Nat) (tb : List Nat) (dflt lo hi : Int) (offs : Array Int) : Bool :=
  decide ((pc : Int) + dflt = a) && decide (lo = 0) && decide (hi + 1 = (offs.size : Int)) && decide (offs.size < 1000) && (kys tb).all (fun k => decide (k < offs.size)) &&
  (List.range offs.size).all (fun n => match offs[n]? with | some o => decide ((pc : Int) + o = (lk n a tb : Int)) | none => false)
theorem r_tsw {a len : Nat} {tb : List Nat} {x : Int32} {dflt lo hi : Int} {offs : Array Int} (hd : decode (bC i) pc = .ok (.tableswitch dflt lo hi offs, len)) (hk : tswOk pc a tb dflt lo hi offs = true) (h : sw x (fun tg => wp G e t i tg l r M Q) a tb) : wp G e t i pc l (.int x :: r) M Q := by
  unfold tswOk at hk
  simp only [Bool.and_eq_true, decide_eq_true_eq] at hk
  obtain ⟨⟨⟨⟨⟨h1, rfl⟩, h3⟩, h4⟩, h5⟩, h6⟩ := hk
  have hkeys : ∀ k ∈ kys tb, k < offs.size := fun k hk => by simpa using List.all_eq_true.mp h5 k hk
  by_cases hx : x.toInt < 0 ∨ hi < x.toInt
  · have hw := sw_out (x := x) (fun k hk q => by
      have h8 := hkeys k hk
      rw [q, nI_toInt (by omega)] at hx
      omega) h
    exact wp_of (fun _ _ _ _ _ _ _ _ _ _ _ _ _ _ _ _ C hl2 w => lv_tableOut C.1 C.2.1 hd hx h1 w) hw
  · have hx1 : ¬ x.toInt < 0 := fun q => hx (Or.inl q)
    have hx2 : ¬ hi < x.toInt := fun q => hx (Or.inr q)
    have hn : x.toInt.toNat < offs.size := by omega
    have hxe : x = nI x.toInt.toNat := Int32.toInt_inj.mp (by rw [nI_toInt (by omega)]; omega)
    have h7 := List.all_eq_true.mp h6 x.toInt.toNat (List.mem_range.mpr hn)
    cases ho : offs[x.toInt.toNat]? with
    | none => rw [ho] at h7; cases h7
    | some off =>
      rw [ho] at h7
      simp only [decide_eq_true_eq] at h7
      rw [hxe] at h
      have hw := sw_in (by omega) (fun k hk => by have := hkeys k hk; omega) h
      exact wp_of (fun _ _ _ _ _ _ _ _ _ _ _ _ _ _ _ _ C hl2 w => lv_tableIn C.1 C.2.1 hd hx1 hx2 (by rw [show (x.toInt - 0).toNat = x.toInt.toNat by omega]; exact ho) h7 w) hw
def prs : List Nat → List (Nat × Nat)
  | k :: tg :: r => (k, tg) :: prs r
  | _ => []
def lswOk (pc a : Nat) (tb : List Nat) (dflt : Int) (ps : Array (Int × Int)) : Bool :=
  decide ((pc : Int) + dflt = a) && (ps.toList.zip (ps.toList.drop 1)).all (fun (a, next) => decide (a.1 < next.1)) && decide (ps.toList = (prs tb).map (fun q => ((q.1 : Int), (q.2 : Int) - pc))) && (kys tb).all (fun k => decide (k < 2 ^ 31)) && decide (2 * (prs tb).length = tb.length)
theorem r_lsw_aux {x : Int32} {a : Nat} {dflt : Int} (hd : (pc : Int) + dflt = a) : ∀ {tb : List Nat}, (∀ k ∈ kys tb, k < 2 ^ 31) → 2 * (prs tb).length = tb.length → sw x (fun tg => wp G e t i tg l r M Q) a tb → ∃ (off : Int) (tg : Nat), Op.lookupswitch.offset ((prs tb).map (fun q => ((q.1 : Int), (q.2 : Int) - pc))) dflt x.toInt = off ∧ (pc : Int) + off = tg ∧ wp G e t i tg l r M Q
  | [], _, _, h => ⟨dflt, a, by simp [prs, Op.lookupswitch.offset], hd, h⟩
  | [_], _, hl, _ => by simp [prs] at hl
  | k :: tg :: tb, hk, hl, h => by
    have hk0 : k < 2 ^ 31 := hk k List.mem_cons_self
    by_cases e : x = nI k
    · refine ⟨(tg : Int) - pc, tg, ?_, by omega, h.1 e⟩
      show Op.lookupswitch.offset (((k : Int), (tg : Int) - pc) :: _) dflt x.toInt = _
      rw [Op.lookupswitch.offset_cons, if_pos (by rw [e, nI_toInt hk0])]
    · obtain ⟨off, tg2, h1, h2, h3⟩ := r_lsw_aux hd (tb := tb) (fun k' h' => hk k' (List.mem_cons_of_mem _ h')) (by simp [prs] at hl; omega) (h.2 e)
      refine ⟨off, tg2, ?_, h2, h3⟩
      show Op.lookupswitch.offset (((k : Int), (tg : Int) - pc) :: _) dflt x.toInt = _
      rw [lv_osw e (nI_toInt hk0)]
      exact h1
theorem r_lsw {a len : Nat} {tb : List Nat} {x : Int32} {dflt : Int} {ps : Array (Int × Int)} (hd : decode (bC i) pc = .ok (.lookupswitch dflt ps, len)) (hk : lswOk pc a tb dflt ps = true) (h : sw x (fun tg => wp G e t i tg l r M Q) a tb) : wp G e t i pc l (.int x :: r) M Q := by
  unfold lswOk at hk
  simp only [Bool.and_eq_true, decide_eq_true_eq] at hk
  obtain ⟨⟨⟨⟨h1, h2⟩, h3⟩, h4⟩, h5⟩ := hk
  obtain ⟨off, tg, g1, g2, g3⟩ := r_lsw_aux (pc := pc) h1 (fun k hk => by simpa using List.all_eq_true.mp h4 k hk) h5 h
  rw [← h3] at g1
  exact wp_of (fun _ _ _ _ _ _ _ _ _ _ _ _ _ _ _ _ C hl2 w => lv_lookup C.1 C.2.1 hd h2 g1 g2 w) g3
theorem r_ret {v : Option Value} (hr : RetAt i pc v) (hk : t.2.1 = 0) (h : Q v M) : wp G e t i pc l v.toList M Q := by
  intro p lch e0 R s m args below meth c H locs cells slots Z ls mc ms cur C hc hR hlo hl2 h1 h2 h3 h4 hF
  exact hF v M H locs cells slots pc ls h (fun _ => rfl) (by rw [hk]; exact hR) hlo (by omega) (by omega) hr
end RR
end
section
/-! what is made, copied; a method from its entry -/
section MK
variable {G : GC} {e i j pc idx : Nat} {t : T3} {l : LV} {r As : List Value} {M : Mem} {Q : Option Value → Mem → Prop}
theorem copy_words : Jvm.Cond.methodLink RX9 178 arraycopyName ∈ lw_tbl ∧ Jvm.Cond.static arraycopyName ∈ gdt ∧ Jvm.Cond.initialized "java/lang/System" ∈ gdt ∧ Jvm.Cond.native arraycopyName ∈ gdt ∧ Jvm.Cond.methodLink RX9 178 arraycopyName ∈ gdt := by decide +kernel
theorem ur_off {α : Type} {f : Nat → Nat → α} {o j : Nat} {g : Nat → α} (h : j ≠ o) : ur f o g j = f j := if_neg h
theorem ur_on {α : Type} {f : Nat → Nat → α} {o : Nat} {g : Nat → α} : ur f o g o = g := if_pos rfl
theorem r_copy {c0 c1 : Nat} {n dp sp : Int32} (hd : decode (bC i) pc = .ok (.invokestatic 178, 3)) (how : ow i = RX9) (ho0 : ak c0 = 11) (hl0 : c0 < t.1) (ho1 : ak c1 = 11) (hl1 : c1 < t.1) (h1 : ¬ sp < 0) (h2 : ¬ dp < 0) (h3 : ¬ n < 0) (h4 : ix sp + ix n ≤ an c0) (h5 : ix dp + ix n ≤ an c1) (hdp : 1 ≤ dep i) (hcr : cats r ≤ 8)
    (k1 : wp G e t i (pc + 3) l r (ur M.1 c1 (va_cpy (M.1 c0) (M.1 c1) (ix sp) (ix dp) (ix n)), M.2) Q) : wp G e t i pc l (.int n :: .int dp :: .ref c1 :: .int sp :: .ref c0 :: r) M Q := by
  intro p lch e0 R s m args below meth c H locs cells slots Z ls mc ms cur C hc hR hlo hl2 g1 g2 g3 g4 hF
  obtain ⟨hx0, hb, hml, hown, hts, hret, hlocks, hini, hE, hfr, hlo2⟩ := id C
  obtain ⟨-, w2, w3, w4, w1⟩ := copy_words
  have hcur0 : c0 < cur := Nat.lt_of_lt_of_le hl0 hc.2
  have hcur1 : c1 < cur := Nat.lt_of_lt_of_le hl1 hc.2
  have hc0 := hR.at hcur0
  have hc1 := hR.at hcur1
  rw [cell_int ho0] at hc0
  rw [cell_int ho1] at hc1
  have hc0' : H[gb G + c0]? = some (vp_cell (gcy G 0) (an c0, .inl (M.1 c0))) := hc0
  have hc1' : H[gb G + c1]? = some (vp_cell (gcy G 0) (an c1, .inl (M.1 c1))) := hc1
  have hst : lst G (.int n :: .int dp :: .ref c1 :: .int sp :: .ref c0 :: r) = .int n :: .int dp :: .ref (gb G + c1) :: .int sp :: .ref (gb G + c0) :: lst G r := by
    show Value.int n :: Value.int dp :: Value.ref (adr G c1) :: Value.int sp :: Value.ref (adr G c0) :: _ = _
    rw [adr_lt (ak_lt ho0 (by omega)), adr_lt (ak_lt ho1 (by omega))]
    rfl
  rw [hst]
  have nn : ∀ z : Int32, ¬ z < 0 → z.toInt = (z.toNatClampNeg : Int) := by
    intro z hz
    have hz0 : (0 : Int) ≤ z.toInt := by
      have := Int32.not_lt.mp hz
      simpa using Int32.le_iff_toInt_le.mp this
    show z.toInt = ((z.toInt.toNat : Nat) : Int)
    omega
  intro T hT X
  obtain ⟨-, k0, hk0, cm0, hkk0⟩ := (hE.1.2 0 _ rfl).1 (an c0) (fun j => .int (M.1 c0 j))
  obtain ⟨-, k9, hk9, cm9, hkk9⟩ := (hE.1.2 0 _ rfl).1 (an c1) (fun j => .int (M.1 c1 j))
  rw [how] at hown
  obtain ⟨vm', X', step⟩ := X.arraycopy hx0 hown (hts _ w1) (hts _ w4) (hts _ w2) (hts _ w3) (src := gb G + c0) (dst := gb G + c1) (cs := vp_cell (gcy G 0) (an c0, .inl (M.1 c0))) (cd := vp_cell (gcy G 0) (an c1, .inl (M.1 c1))) (srcPos := sp) (destPos := dp) (n := n) (by rw [hT]; exact hc0') (by rw [hT]; exact hc1')
    (fun _ h => by cases h) (fun _ h => by cases h) (fun h => by cases h) (fun h => by cases h) hk0 hk9 hkk0 hkk9 rfl h1 h2 h3
    (by rw [nn sp h1, nn n h3]; show ¬ _ > ((arrV (gcy G 0) (an c0) (fun j => .int (M.1 c0 j))).slots.size : Int); rw [arrV_size]; unfold ix at h4; omega)
    (by rw [nn dp h2, nn n h3]; show ¬ _ > ((arrV (gcy G 0) (an c1) (fun j => .int (M.1 c1 j))).slots.size : Int); rw [arrV_size]; unfold ix at h5; omega)
    (fun vm₁ _ i hi => by
      have e : (vp_cell (gcy G 0) (an c0, .inl (M.1 c0))).slots.getD (sp.toNatClampNeg + i) .null = .int (M.1 c0 (sp.toNatClampNeg + i)) := by
        show (arrV (gcy G 0) (an c0) (fun j => .int (M.1 c0 j))).slots.getD _ _ = _
        rw [Array.getD_eq_getD_getElem?, arrV_read _ _ (by unfold ix at h4; omega)]
        rfl
      refine ⟨?_, ?_⟩
      · rw [e]
        rfl
      · rw [e]
        exact trivial)
    (g := F0 m pc ls (.int n :: .int dp :: .ref (gb G + c1) :: .int sp :: .ref (gb G + c0) :: lst G r)) rfl (by rw [hml]; exact hl2.1) (rest := lst G r) rfl (by rw [hb]; exact hd) (by omega) (by
      have hcl := cats_lst (G := G) (r := r)
      have hnw : nativeFrameWords "java/lang/System" "arraycopy" 5 ≤ 30 := by decide +kernel
      show 2 * 0 + _ + _ ≤ _
      rw [hcl]
      omega)
  have e1 : copied (vp_cell (gcy G 0) (an c0, .inl (M.1 c0))) (vp_cell (gcy G 0) (an c1, .inl (M.1 c1))) sp dp n = vp_cell (gcy G 0) (an c1, .inl (va_cpy (M.1 c0) (M.1 c1) (ix sp) (ix dp) (ix n))) := va_copied (fun z => .int z) (gcy G 0) (gcy G 0) (M.1 c0) (M.1 c1) h4
  rw [e1] at X' step
  have hl : gb G + c1 < H.size := (Array.getElem?_eq_some_iff.mp hc1').1
  have hheap : ((T.setVm vm').setCell (gb G + c1) (vp_cell (gcy G 0) (an c1, .inl (va_cpy (M.1 c0) (M.1 c1) (ix sp) (ix dp) (ix n))))).heap = H.setIfInBounds (gb G + c1) (vp_cell (gcy G 0) (an c1, .inl (va_cpy (M.1 c0) (M.1 c1) (ix sp) (ix dp) (ix n)))) := by rw [← hT]; rfl
  have hR1 : Rel G cur (ur M.1 c1 (va_cpy (M.1 c0) (M.1 c1) (ix sp) (ix dp) (ix n)), M.2) (H.setIfInBounds (gb G + c1) (vp_cell (gcy G 0) (an c1, .inl (va_cpy (M.1 c0) (M.1 c1) (ix sp) (ix dp) (ix n))))) := by
    refine hR.put hcur1 (by simp) (fun q hq => by simp [Array.getElem?_setIfInBounds, Ne.symm hq]) ?_ (fun q hq => ⟨ur_off hq, rfl, rfl⟩)
    rw [cell_int ho1]
    show (H.setIfInBounds (gb G + c1) _)[gb G + c1]? = some (vp_cell _ _)
    rw [Array.getElem?_setIfInBounds_self_of_lt hl]
    dsimp only
    rw [ur_on]
  obtain ⟨t2, a1, b1⟩ := k1 p lch e0 R s m args below meth c _ _ cells slots Z ls mc ms cur C hc hR1 (by
    intro q hq
    rcases List.mem_append.mp hq with h | h
    · exact hlo q h
    · obtain ⟨z, -, hz⟩ := List.mem_map.mp h
      rw [← hz]
      exact Nat.le_add_right _ _) hl2 g1 g2 g3 g4 hF _ hheap X'
  exact ⟨t2, step t2 a1, b1⟩
theorem vwd_n {c : Nat} (h : c < 11) : ∀ o, o < 168 → ak o = c → an o = (vwd c).2.2 := by
  have hall : (List.range 168).all (fun o => decide (ak o < 11 → an o = (vwd (ak o)).2.2)) = true := by decide +kernel
  intro o ho hk
  have := List.all_eq_true.mp hall o (List.mem_range.mpr ho)
  simp only [decide_eq_true_eq] at this
  rw [← hk]
  exact this (by omega)
theorem Rel.push {cur n : Nat} {H H1 : Heap} (hR : Rel G cur M H) (hz : H1.size = H.size + n) (hq : ∀ q, q < H.size → H1[q]? = H[q]?) (ha : ∀ j, j < n → va_at (gD G) vwCl (gb G + (cur + j), cellOf G M (cur + j)) H1) : Rel G (cur + n) M H1 := by
  refine ⟨by rw [hz, hR.1]; omega, fun q h0 => ?_, fun j hj => ?_, fun j hj => hR.2.2.2 j (by omega)⟩
  · rw [hq q (by rw [hR.1]; omega)]
    exact hR.2.1 q h0
  · rcases Nat.lt_or_ge j cur with h | h
    · exact (hR.at h).kept (hq _ (by rw [hR.1]; show gb G + j < _; omega))
    · have := ha (j - cur) (by omega)
      rw [show cur + (j - cur) = j by omega] at this
      exact this
theorem fv_born {ci k o : Nat} (hci : ci < 11) (hk : k < (vwd ci).2.2) (h1 : M.1 o k = 0) (h2 : M.2.1 o k = 0) (h3 : M.2.2 o k = none) : defaultValue (tyc ci k) = fv G M ci o k := by
  obtain ⟨hty, -, -⟩ := vwd_k hci hk
  unfold fv
  cases htc : tyc ci k with
  | int => rw [htc] at hty; simp [tyk] at hty; rw [hty]; simp [h1, defaultValue]
  | long => rw [htc] at hty; simp [tyk] at hty; rw [hty]; simp [h2, defaultValue]
  | boolean => rw [htc] at hty; simp [tyk] at hty; rw [hty]; simp [h1, defaultValue]
  | object n => rw [htc] at hty; simp [tyk] at hty; rw [hty]; simp [h3, defaultValue, va_rf]
  | array n =>
    rw [htc] at hty
    simp [tyk] at hty
    rcases hty with q | q
    · rw [q]; simp [h3, defaultValue, va_rf]
    · rw [q]; simp [h1, defaultValue]
  | _ => rw [htc] at hty; simp [tyk] at hty
theorem r_new {ci : Nat} (hd : decode (bC i) pc = .ok (.new idx, 3)) (hci : ci < 11) (hk : ak t.1 = ci) (hcl : Jvm.Cond.classLink (ow i) idx (vwd ci).1 ∈ gdt) (hin : Jvm.Cond.instantiable (vwd ci).1 (vwd ci).2.2 ∈ gdt) (hit : Jvm.Cond.initialized (vwd ci).1 ∈ gdt) (hxi : mx i = true) (h1 : 1 ≤ t.2.1) (h2 : an t.1 ≤ t.2.2)
    (k1 : wp G e (t.1 + 1, t.2.1 - 1, t.2.2 - an t.1) i (pc + 3) l (.ref t.1 :: r) M Q) : wp G e t i pc l r M Q := by
  intro p lch e0 R s m args below meth c H locs cells slots Z ls mc ms cur C hc hR hlo hl2 g1 g2 g3 g4 hF
  obtain ⟨hx0, hb, hml, hown, hts, hret, hlocks, hini, hE, hfr, hlo2⟩ := id C
  have hct := hc.1 hxi
  have h168 : t.1 < 168 := ak_lt hk (by omega)
  have hn := vwd_n hci t.1 h168 hk
  have hKn := hE.1.1 ci _ (vwd_at hci)
  refine W.newcK hx0 hb hown (hts _ hcl) (hts _ hin) (hts _ hit) rfl hd (by omega) (by rw [← hn]; omega) hKn.2.1 rfl fun H1 kC hkC e1 z1 o1 => ?_
  have hR1 : Rel G (cur + 1) M H1 := by
    refine hR.push z1 o1 (fun j hj => ?_)
    rw [show cur + j = t.1 by omega, cell_obj hk hci]
    rw [hR.1, hct] at e1
    obtain ⟨b1, b2, b3⟩ := hR.2.2.2 t.1 (by omega)
    refine ⟨_, vwd_at hci, (u_born (tyc ci) hts (vwd_in hci) hKn hkC e1 (vwd_ty hci)).to (fun k hk9 => ?_)⟩
    rw [vp_V_range (by rw [hn]; exact hk9)]
    exact fv_born hci hk9 (b1 k) (b2 k) (b3 k)
  have hw := k1 p lch e0 R s m args below meth c H1 locs (cells + 1) (slots + an t.1) Z ls mc ms (cur + 1) C ⟨fun q => by rw [hct], by show t.1 + 1 ≤ _; omega⟩ hR1 hlo hl2 (by show cells + 1 + (t.2.1 - 1) ≤ _; omega) (by show slots + an t.1 + (t.2.2 - an t.1) ≤ _; omega) g3 g4
    (fun v M H locs cells slots pc ls a1 a2 a3 => hF v M H locs cells slots pc ls a1 a2 (by rw [show cur + 1 + (t.2.1 - 1) = cur + t.2.1 by omega] at a3; exact a3))
  rw [lst_ref h168] at hw
  rw [← hn, hR.1, hct]
  exact hw
theorem arr_words : Jvm.Cond.arrayClass .int ∈ gdt ∧ Jvm.Cond.arrayClass .boolean ∈ gdt := by decide +kernel
theorem an_lt {o : Nat} (h : o < 168) : an o < 20000 := by
  have hall : (List.range 168).all (fun o => decide (an o < 20000)) = true := by decide +kernel
  simpa using List.all_eq_true.mp hall o (List.mem_range.mpr h)
theorem arr_cls {cA cB : ClassId} {s : State} {nm : String} (h1 : s.vm.findClass nm = some cA) (h2 : s.vm.findClass nm = some cB) : cA = cB := Option.some.inj (h1.symm.trans h2)
theorem r_newarrayI (hd : decode (bC i) pc = .ok (.newarray .int, 2)) (hk : ak t.1 = 11) (hxi : mx i = true) (h1 : 1 ≤ t.2.1) (h2 : an t.1 ≤ t.2.2)
    (k1 : wp G e (t.1 + 1, t.2.1 - 1, t.2.2 - an t.1) i (pc + 2) l (.ref t.1 :: r) M Q) : wp G e t i pc l (.int (nI (an t.1)) :: r) M Q := by
  intro p lch e0 R s m args below meth c H locs cells slots Z ls mc ms cur C hc hR hlo hl2 g1 g2 g3 g4 hF
  obtain ⟨hx0, hb, hml, hown, hts, hret, hlocks, hini, hE, hfr, hlo2⟩ := id C
  have hct := hc.1 hxi
  have h168 : t.1 < 168 := ak_lt hk (by omega)
  have hb9 := an_lt h168
  refine va_newaK (atype := .int) hx0 hb (hts _ arr_words.1) (g := F0 m pc ls (lst G (.int (nI (an t.1)) :: r))) rfl hd rfl (nI_pos (by omega)) (nI_clamp (by omega)) (by show an t.1 * 4 ≤ _; omega) (by omega) (by omega) rfl fun H1 cA e1 z1 o1 hAr hNm => ?_
  have hcA : cA = gcy G 0 := by
    have := (hE.1.2 0 _ rfl).2
    exact arr_cls hNm this
  subst hcA
  have hR1 : Rel G (cur + 1) M H1 := by
    refine hR.push z1 o1 (fun j hj => ?_)
    rw [show cur + j = t.1 by omega, cell_int hk]
    rw [hR.1, hct] at e1
    show H1[gb G + t.1]? = some (vp_cell _ _)
    rw [e1, vp_cell_i]
    congr 2
    funext k
    rw [(hR.2.2.2 t.1 (by omega)).1 k]
    rfl
  have hw := k1 p lch e0 R s m args below meth c H1 locs (cells + 1) (slots + an t.1) Z ls mc ms (cur + 1) C ⟨fun q => by rw [hct], by show t.1 + 1 ≤ _; omega⟩ hR1 hlo hl2 (by show cells + 1 + (t.2.1 - 1) ≤ _; omega) (by show slots + an t.1 + (t.2.2 - an t.1) ≤ _; omega) g3 g4
    (fun v M H locs cells slots pc ls a1 a2 a3 => hF v M H locs cells slots pc ls a1 a2 (by rw [show cur + 1 + (t.2.1 - 1) = cur + t.2.1 by omega] at a3; exact a3))
  rw [lst_ref h168] at hw
  rw [hR.1, hct]
  exact hw
theorem r_newarrayZ (hd : decode (bC i) pc = .ok (.newarray .boolean, 2)) (hk : ak t.1 = 12) (hxi : mx i = true) (h1 : 1 ≤ t.2.1) (h2 : an t.1 ≤ t.2.2)
    (k1 : wp G e (t.1 + 1, t.2.1 - 1, t.2.2 - an t.1) i (pc + 2) l (.ref t.1 :: r) M Q) : wp G e t i pc l (.int (nI (an t.1)) :: r) M Q := by
  intro p lch e0 R s m args below meth c H locs cells slots Z ls mc ms cur C hc hR hlo hl2 g1 g2 g3 g4 hF
  obtain ⟨hx0, hb, hml, hown, hts, hret, hlocks, hini, hE, hfr, hlo2⟩ := id C
  have hct := hc.1 hxi
  have h168 : t.1 < 168 := ak_lt hk (by omega)
  have hb9 := an_lt h168
  refine va_newaK (atype := .boolean) hx0 hb (hts _ arr_words.2) (g := F0 m pc ls (lst G (.int (nI (an t.1)) :: r))) rfl hd rfl (nI_pos (by omega)) (nI_clamp (by omega)) (by show an t.1 * 1 ≤ _; omega) (by omega) (by omega) rfl fun H1 cA e1 z1 o1 hAr hNm => ?_
  have hcA : cA = gcy G 1 := by
    have := (hE.1.2 1 _ rfl).2
    exact arr_cls hNm this
  subst hcA
  have hR1 : Rel G (cur + 1) M H1 := by
    refine hR.push z1 o1 (fun j hj => ?_)
    rw [show cur + j = t.1 by omega, cell_bool hk]
    rw [hR.1, hct] at e1
    show H1[gb G + t.1]? = some (vp_cell _ _)
    rw [e1, vp_cell_i]
    congr 2
    funext k
    rw [(hR.2.2.2 t.1 (by omega)).1 k]
    rfl
  have hw := k1 p lch e0 R s m args below meth c H1 locs (cells + 1) (slots + an t.1) Z ls mc ms (cur + 1) C ⟨fun q => by rw [hct], by show t.1 + 1 ≤ _; omega⟩ hR1 hlo hl2 (by show cells + 1 + (t.2.1 - 1) ≤ _; omega) (by show slots + an t.1 + (t.2.2 - an t.1) ≤ _; omega) g3 g4
    (fun v M H locs cells slots pc ls a1 a2 a3 => hF v M H locs cells slots pc ls a1 a2 (by rw [show cur + 1 + (t.2.1 - 1) = cur + t.2.1 by omega] at a3; exact a3))
  rw [lst_ref h168] at hw
  rw [hR.1, hct]
  exact hw
theorem outerC_rows (c : ClassId) (N h0 : Nat) : ∀ i : Nat, Jvm.Free.Multi.outerC c N h0 i = arrV c N (fun j => va_rf (if j < i then some (h0 + 1 + j) else none))
  | 0 => by
    show ({ cls := c, slots := Array.replicate N .null, vm := .none } : Cell) = _
    rw [arrV_new]
    refine congrArg (arrV c N) (funext fun j => ?_)
    simp [va_rf]
  | i + 1 => by
    show (Jvm.Free.Multi.outerC c N h0 i).setSlot i (.ref (h0 + 1 + i)) = _
    rw [outerC_rows c N h0 i, arrV_store]
    refine congrArg (arrV c N) (funext fun j => ?_)
    by_cases e : j = i
    · subst e
      simp [updV, va_rf]
    · by_cases h : j < i
      · simp [updV, e, h, Nat.lt_succ_of_lt h]
      · simp [updV, e, h, show ¬ j < i + 1 by omega]
theorem arrV_cong {c : ClassId} {N : Nat} {f g : Nat → Value} (h : ∀ j, j < N → f j = g j) : arrV c N f = arrV c N g := by
  unfold arrV
  congr 1
  exact congrArg _ (funext fun j => h j.val j.isLt)
theorem r_mna (hd : decode (bC i) pc = .ok (.multianewarray idx 2, 4)) (hcl : Jvm.Cond.classLink (ow i) idx ("[" ++ (FieldType.array .int).toString) ∈ gdt) (hk : ak t.1 = 13) (hrb : rb t.1 = t.1 + 1) (hrow : ∀ j, j < an t.1 → ak (t.1 + 1 + j) = 11 ∧ an (t.1 + 1 + j) = an (t.1 + 1)) (hxi : mx i = true) (h1 : 1 + an t.1 ≤ t.2.1) (h2 : an t.1 + an t.1 * an (t.1 + 1) ≤ t.2.2) (h168 : t.1 + 1 < 168)
    (k1 : wp G e (t.1 + 1 + an t.1, t.2.1 - (1 + an t.1), t.2.2 - (an t.1 + an t.1 * an (t.1 + 1))) i (pc + 4) l (.ref t.1 :: r) M Q) : wp G e t i pc l (.int (nI (an (t.1 + 1))) :: .int (nI (an t.1)) :: r) M Q := by
  intro p lch e0 R s m args below meth c H locs cells slots Z ls mc ms cur C hc hR hlo hl2 g1 g2 g3 g4 hF
  obtain ⟨hx0, hb, hml, hown, hts, hret, hlocks, hini, hE, hfr, hlo2⟩ := id C
  have hct := hc.1 hxi
  have a1 := an_lt (show t.1 < 168 by omega)
  have a2 := an_lt h168
  have n1 : (nI (an t.1)).toNatClampNeg = an t.1 := nI_clamp (by omega)
  have n2 : (nI (an (t.1 + 1))).toNatClampNeg = an (t.1 + 1) := nI_clamp (by omega)
  intro T hT Xs
  obtain ⟨vm₁, cA, comp, -, fA, fC, hO, -, X', step⟩ := Xs.multianewarray2F hx0 hown (hts _ hcl) (hE.2.2.2.2.2.1.use) (hts _ arr_words.1) (g := F0 m pc ls (lst G (.int (nI (an (t.1 + 1))) :: .int (nI (an t.1)) :: r))) rfl (by rw [hb]; exact hd) (n := nI (an t.1)) (k := nI (an (t.1 + 1))) rfl (nI_pos (by omega)) (nI_pos (by omega)) (by rw [n1]; omega) (by rw [n2]; show _ * 4 ≤ _; omega) (by rw [n2]; omega) rfl rfl (by rw [n1]; omega) (by rw [n1, n2]; omega)
  rw [n1, n2] at X' step
  have hcA : cA = gcy G 2 := arr_cls fA (hE.1.2 2 _ rfl).2
  have hcB : comp = gcy G 0 := arr_cls fC (hE.1.2 0 _ rfl).2
  subst hcA
  subst hcB
  generalize hFF : Jvm.Free.Multi.fill (T.setVm vm₁) (gcy G 2) (gcy G 0) (an t.1) (an (t.1 + 1)) (defaultValue .int) (an t.1) = F at X' step
  have hTh : (T.setVm vm₁).heap = H := hT
  obtain ⟨f1, f2, -, -⟩ := Jvm.Free.Multi.fill_facts (T.setVm vm₁) (gcy G 2) (gcy G 0) (an t.1) (an (t.1 + 1)) (defaultValue .int) (an t.1)
  rw [hFF, hTh] at f1 f2
  have hold : ∀ x : Nat, x < H.size → F.heap[x]? = H[x]? := fun x hx => by
    have := Jvm.Free.Multi.fill_old (T.setVm vm₁) (gcy G 2) (gcy G 0) (an t.1) (an (t.1 + 1)) (defaultValue .int) (a := x) (by rw [hTh]; exact hx) (an t.1)
    rw [hFF, hTh] at this
    exact this
  have hrow2 : ∀ j : Nat, j < an t.1 → F.heap[H.size + 1 + j]? = some (Jvm.Free.Multi.innerC (gcy G 0) (an (t.1 + 1)) (defaultValue .int)) := fun j hj => by
    have := Jvm.Free.Multi.fill_inner (T.setVm vm₁) (gcy G 2) (gcy G 0) (an t.1) (an (t.1 + 1)) (defaultValue .int) (an t.1) j hj
    rw [hFF, hTh] at this
    exact this
  have hHs : H.size = gb G + t.1 := by rw [hR.1, hct]
  have hR1 : Rel G (cur + (1 + an t.1)) M F.heap := by
    refine hR.push (by rw [f1]; omega) hold (fun j hj => ?_)
    rcases Nat.eq_zero_or_pos j with rfl | hj0
    · rw [show cur + 0 = t.1 by omega, cell_rows hk]
      show F.heap[gb G + t.1]? = some (vp_cell _ _)
      rw [← hHs, f2, outerC_rows, vp_cell_q]
      refine congrArg some (arrV_cong (fun j hj => ?_))
      rw [if_pos hj, hHs, hrb]
      show Value.ref _ = Value.ref _
      congr 1
      try omega
    · obtain ⟨r1, r2⟩ := hrow (j - 1) (by omega)
      have ej : cur + j = t.1 + 1 + (j - 1) := by omega
      rw [ej, cell_int r1]
      have := hrow2 (j - 1) (by omega)
      rw [hHs, show gb G + t.1 + 1 + (j - 1) = gb G + (t.1 + 1 + (j - 1)) by omega] at this
      show F.heap[gb G + (t.1 + 1 + (j - 1))]? = some (vp_cell _ _)
      rw [this, vp_cell_i, r2]
      show some ({ cls := gcy G 0, slots := Array.replicate (an (t.1 + 1)) (.int 0), vm := .none } : Cell) = _
      rw [arrV_new]
      refine congrArg some (arrV_cong (fun k hk => ?_))
      rw [(hR.2.2.2 (t.1 + 1 + (j - 1)) (by omega)).1 k]
  have hw := k1 p lch e0 R s m args below meth c F.heap locs (cells + 1 + an t.1) (slots + an t.1 + an t.1 * an (t.1 + 1)) Z ls mc ms (cur + (1 + an t.1)) C ⟨fun q => by show _ = t.1 + 1 + an t.1; omega, by show t.1 + 1 + an t.1 ≤ _; omega⟩ hR1 hlo hl2 (by show cells + 1 + an t.1 + (t.2.1 - (1 + an t.1)) ≤ _; omega) (by show slots + an t.1 + an t.1 * an (t.1 + 1) + (t.2.2 - (an t.1 + an t.1 * an (t.1 + 1))) ≤ _; omega) g3 g4
    (fun v M H locs cells slots pc ls a1 a2 a3 => hF v M H locs cells slots pc ls a1 a2 (by rw [show cur + (1 + an t.1) + (t.2.1 - (1 + an t.1)) = cur + t.2.1 by omega] at a3; exact a3))
  rw [lst_ref (by omega)] at hw
  obtain ⟨t2, q1, q2⟩ := hw F rfl X'
  refine ⟨t2, step t2 ?_, q2⟩
  rw [hT, hHs]
  exact q1
/-- a method from its entry -/
theorem lv_args_lfl : ∀ (As : List Value) (n : Nat), lv_args n (lst G As) = lfl G (lv_args n As)
  | [], _ => rfl
  | v :: vs, n => by
    show (n, lf G v) :: lv_args (if (lf G v).category = 2 then n + 2 else n + 1) (lst G vs) = (n, lf G v) :: lfl G (lv_args (if v.category = 2 then n + 2 else n + 1) vs)
    rw [lf_cat, lv_args_lfl vs]
theorem sl_len : ∀ (As : List Value), (lg_sl (lst G As)).length = cats As
  | [] => rfl
  | v :: vs => by
    have ih := sl_len vs
    unfold cats lst at *
    rw [List.map_cons, List.map_cons, List.sum_cons, ← ih]
    cases v <;> simp [lg_sl, lf, Value.category] <;> omega
theorem wpc_of {lb : Nat} {As : List Value} {K : Option Value → Mem → Prop} (hp : plainName (yM j).cls = true) (hs : cats As ≤ nL j) (ho : (Jvm.Cond.code (yM j) (bC j) (nL j) (rT j)) = (Jvm.Cond.code (yM j) (bC j) (nL j) (rT j))) (hcl : (yM j).cls = ow j) (hnm : mx j = true → (yM j).name = "<init>") (k : wp G e (lb, (alc j).1, (alc j).2) j 0 (lv_args 0 As) [] M K) : wpc G e lb j As M K := by
  intro lch cur hcur
  refine Met.ofW (cc := bC j) (maxL := nL j) (ret := rT j) hp rfl ?_
  intro p e0 s m args below meth c s₁ B hml hv
  obtain ⟨rfl, hR, hE⟩ := hv
  have hts := atoms_spec (ws := wsM j) B.pre
  have hown : s.vm.findClass (yM j).cls = some m.cls := findClass_of_methodNamed B.named
  rw [hcl] at hown
  have hl := lv_entry (lst G As) (n := nL j) (by rw [sl_len]; exact hs)
  rw [lg_entry_eq]
  generalize (lg_sl (lst G As) ++ List.replicate (nL j - (lg_sl (lst G As)).length) Slot.unset).toArray = ls at hl ⊢
  rw [lv_args_lfl] at hl
  have hlocks := B.notSynchronized
  refine k p lch e0 (headSpec (wsM j) (rmM e j)).room s m _ below meth c s.heap [] 0 0 (MQ below _ _ s (alc j).1 (alc j).2 _) ls (alc j).1 (alc j).2 cur ⟨B.exec, B.bytes, hml, hown, fun w hw => hts w (List.mem_cons_of_mem _ hw), B.returns, hlocks, fun hmx _ => by rw [(name_of_methodNamed B.named B.method).1]; exact hnm hmx, hE, Nat.le_refl _, Nat.le_refl _⟩ hcur hR (fun z hz => by cases hz) hl (by show 0 + (alc j).1 ≤ _; omega) (by show 0 + (alc j).2 ≤ _; omega) (Nat.le_refl _) (Nat.le_refl _) ?_
  intro v M1 H1 locs1 cells slots pc1 ls1 hK hmr hR1 hlo1 hc1 hs1 hret
  refine W.widen (k := (alc j).1) (n := (alc j).2) hc1 hs1 ?_
  have hq : ∀ (t : State), t.heap = H1 → ∃ (v' : Option Value) (M1 : Mem), Outcome.returned (v.map (lf G)) = Outcome.returned (v'.map (lf G)) ∧ K v' M1 ∧ (mx j = false → M1.2.2 = M.2.2) ∧ Rel G (cur + (alc j).1) M1 t.heap := fun t ht => ⟨v, M1, rfl, hK, hmr, by rw [ht]; exact hR1⟩
  match v, hret, hq with
  | none, hret, hq => exact W.vret B.exec B.bytes (by rw [B.returns]; exact hret.2) (fun t ht hW => hq t ht) hlo1 hret.1
  | some (.int x), hret, hq =>
    rcases hret.2 with h | ⟨h, hx⟩
    · exact W.iret B.exec B.bytes (by rw [B.returns]; exact h) (fun t ht hW => hq t ht) hlo1 hret.1
    · exact W.zret B.exec B.bytes (by rw [B.returns]; exact h) (isB_zero hx) (fun t ht hW => hq t ht) hlo1 hret.1
  | some (.long x), hret, hq => exact W.lret B.exec B.bytes (by rw [B.returns]; exact hret.2) (fun t ht hW => hq t ht) hlo1 hret.1
  | some (.ref x), hret, hq => exact W.aret B.exec B.bytes (by rw [B.returns]; exact hret.2) (Or.inr ⟨_, rfl⟩) (Or.inr ⟨_, rfl⟩) (fun t ht hW => hq t ht) hlo1 hret.1
end MK
end
section
/-! what the text of a method must pass, and: 'vc' says enough -/
theorem nbq {a b : Nat} : Nat.beq a b = true ↔ a = b := ⟨Nat.eq_of_beq_eq_true, fun h => by rw [h]; exact Nat.beq_refl b⟩
theorem nbl {a b : Nat} : Nat.ble a b = true ↔ a ≤ b := ⟨Nat.le_of_ble_eq_true, Nat.ble_eq_true_of_le⟩
def inT5 (T : List (Nat × Nat × Nat × Nat × Nat)) (o idx a b : Nat) : Bool := T.any (fun x => Nat.beq x.1 o && Nat.beq x.2.1 idx && Nat.beq x.2.2.1 a && Nat.beq x.2.2.2.1 b)
def gW (pos : Nat) (w : Jvm.Cond) : Bool := decide (lw_tbl[pos]? = some w) && goodWord w
theorem gW_mem {pos : Nat} {w : Jvm.Cond} (h : gW pos w = true) : w ∈ gdt := by
  unfold gW at h
  simp only [Bool.and_eq_true, decide_eq_true_eq] at h
  exact List.mem_filter.mpr ⟨List.mem_of_getElem? h.1, h.2⟩
theorem fT_ok : fT.all (fun x => gW x.2.2.2.2 (.fieldLink (RN.getD x.1 "") x.2.1 (vwd x.2.2.1).1 ((vwd x.2.2.1).2.1 x.2.2.2.1).2.1 ((vwd x.2.2.1).2.1 x.2.2.2.1).2.2.1) && Nat.ble (x.2.2.1 + 1) 11 && Nat.ble (x.2.2.2.1 + 1) (vwd x.2.2.1).2.2) = true := by decide +kernel
theorem mT_ok : mT.all (fun x => Nat.beq x.2.2.2.2 1 || gW x.2.2.2.1 (.methodLink (RN.getD x.1 "") x.2.1 (yM x.2.2.1))) = true := by decide +kernel
theorem oT_ok : oT.all (fun x => gW x.2.2 (.methodLink (RN.getD x.1 "") x.2.1 objectInit)) = true := by decide +kernel
theorem xT_ok : xT.all (fun x => gW x.2.2 (.classLink (RN.getD x.1 "") x.2.1 ("[" ++ (FieldType.array .int).toString))) = true := by decide +kernel
theorem nT_ok : nT.all (fun x => gW x.2.2.2 (.classLink (RN.getD x.1 "") x.2.1 (vwd x.2.2.1).1) && Nat.ble (x.2.2.1 + 1) 11) = true := by decide +kernel
theorem cT_ok : (List.range 11).all (fun c => gW (cT.getD c (0, 0)).1 (.instantiable (vwd c).1 (vwd c).2.2) && gW (cT.getD c (0, 0)).2 (.initialized (vwd c).1)) = true := by decide +kernel
def jchk (j : Nat) : Bool :=
  let q := jT.getD j (0, 0, 0, 0)
  gW q.2.1 (.initialized (yM j).cls) && decide ((yM j).cls ≠ "java/lang/invoke/MethodHandle" ∧ (yM j).cls ≠ "java/lang/invoke/VarHandle" ∧ (parseMethodDescriptor (yM j).desc).map (fun d => d.parameters.length) = some (na j)) && Nat.ble (nL j) 30 &&
  (if stt j then gW q.2.2.1 (.static (yM j)) else gW q.2.2.1 (.instanceMethod (yM j))) && (stt j || mx j || gW q.2.2.2 (.selects (ow j) (yM j) (yM j))) && (!(mx j) || decide ((yM j).name = "<init>" ∧ rT j = none)) && decide ((yM j).cls = ow j) && plainName (yM j).cls && Nat.ble (oC j + 1) 11 && (mx j || decide (alc j = (0, 0)))
def cwP (j : Nat) : Prop := lw_tbl[(jT.getD j (0, 0, 0, 0)).1]? = some (Jvm.Cond.code (yM j) (bC j) (nL j) (rT j))
theorem oOk {i idx : Nat} (h : oT.any (fun x => Nat.beq x.1 (oC i) && Nat.beq x.2.1 idx) = true) : Jvm.Cond.methodLink (ow i) idx objectInit ∈ gdt := by
  obtain ⟨x, hx, h⟩ := List.any_eq_true.mp h
  simp only [Bool.and_eq_true, nbq] at h
  have := gW_mem (List.all_eq_true.mp oT_ok x hx)
  rw [h.1, h.2] at this
  exact this
theorem fOk_of {i idx a b : Nat} (h : inT5 fT (oC i) idx a b = true) : fOk i idx a b := by
  obtain ⟨x, hx, h⟩ := List.any_eq_true.mp h
  simp only [Bool.and_eq_true, nbq] at h
  obtain ⟨⟨⟨e1, e2⟩, e3⟩, e4⟩ := h
  have := List.all_eq_true.mp fT_ok x hx
  simp only [Bool.and_eq_true] at this
  obtain ⟨⟨h1, h2⟩, h3⟩ := this
  rw [e3, e4] at h3
  rw [e3] at h2
  have h4 := gW_mem h1
  rw [e1, e2, e3, e4] at h4
  exact ⟨Nat.le_of_ble_eq_true h2, Nat.le_of_ble_eq_true h3, h4⟩
theorem mOk_of {i idx a : Nat} (h2 : mT.any (fun x => Nat.beq x.1 (oC i) && Nat.beq x.2.1 idx && Nat.beq x.2.2.1 a && Nat.beq x.2.2.2.2 0) = true) : Jvm.Cond.methodLink (ow i) idx (yM a) ∈ gdt := by
  obtain ⟨x, hx, h⟩ := List.any_eq_true.mp h2
  simp only [Bool.and_eq_true, nbq] at h
  obtain ⟨⟨⟨e1, e2⟩, e3⟩, e4⟩ := h
  have := List.all_eq_true.mp mT_ok x hx
  rw [Bool.or_eq_true] at this
  rcases this with q | q
  · rw [e4] at q; cases q
  · have h4 := gW_mem q
    rw [e1, e2, e3] at h4
    exact h4
def mIn (i idx a : Nat) : Bool := mT.any (fun x => Nat.beq x.1 (oC i) && Nat.beq x.2.1 idx && Nat.beq x.2.2.1 a && Nat.beq x.2.2.2.2 0)
/-- what is asked of an instruction's text -/
def sdk (i pc len : Nat) (I : Instr) (a b : Nat) (tb : List Nat) : Bool := match I with
  | .nop => Nat.beq len 0
  | .aload _ | .iload _ | .lload _ => Nat.beq len 2
  | .aload_n _ | .iload_n _ | .lload_n _ => Nat.beq len 1
  | .astore k | .istore k => Nat.beq len 2 && Nat.ble (k + 1) (nL i)
  | .astore_n k | .istore_n k => Nat.beq len 1 && Nat.ble (k.val + 1) (nL i)
  | .lstore k => Nat.beq len 2 && Nat.ble (k + 2) (nL i)
  | .lstore_n k => Nat.beq len 1 && Nat.ble (k.val + 2) (nL i)
  | .iconst _ | .lconst _ => Nat.beq len 1
  | .bipush n => Nat.beq len 2 && decide ((Int8.ofInt n).toInt32 = ic n)
  | .sipush n => Nat.beq len 3 && decide ((Int16.ofInt n).toInt32 = ic n)
  | .ldc2_w idx => Nat.beq len 3 && decide (Jvm.Cond.constantLong (ow i) idx (lN a) ∈ gdt)
  | .ldc idx => Nat.beq len 2 && (match b with
    | 0 => decide (ow i = "PowersForTimes$Reader" ∧ ((idx = 94 ∧ a = 1) ∨ (idx = 100 ∧ a = 2) ∨ (idx = 126 ∧ a = 3)))
    | _ => decide (Jvm.Cond.constant (ow i) idx (nI a) ∈ gdt))
  | .iadd | .isub | .imul | .idiv | .irem | .iand | .ixor | .iushr | .ishr | .ladd | .lmul | .ldiv | .lshl | .lor | .lcmp | .i2l | .l2i | .dup | .dup2 | .pop | .iaload | .baload | .aaload | .iastore | .bastore | .arraylength => Nat.beq len 1
  | .goto off => Nat.beq len 3 && decide ((pc : Int) + off = (a : Int))
  | .if_icmp _ off => Nat.beq len 3 && decide ((pc : Int) + off = (a : Int))
  | .ifCond _ off => Nat.beq len 3 && decide ((pc : Int) + off = (a : Int))
  | .tableswitch d lo hi offs => tswOk pc a tb d lo hi offs
  | .lookupswitch d ps => lswOk pc a tb d ps
  | .iinc k _ => Nat.beq len 3 && Nat.ble (k + 1) (nL i)
  | .getfield idx => Nat.beq len 3 && inT5 fT (oC i) idx a b
  | .putfield idx => Nat.beq len 3 && inT5 fT (oC i) idx a b && (!ffi a b || Nat.beq (oC i) a) && (!Nat.beq (fty a b) 2 || mx i)
  | .ireturn => Nat.beq len 1 && decide ((rz i = true ∧ rT i = some .boolean) ∨ (rz i = false ∧ rT i = some .int))
  | .lreturn => Nat.beq len 1 && decide (rT i = some .long)
  | .areturn => Nat.beq len 1 && decide (rT i = some (.array .int))
  | .return_ => Nat.beq len 1 && decide (rT i = none)
  | .invokevirtual idx => Nat.beq len 3 && (match tb with
    | [n, _, dec] => mIn i idx a && Nat.beq n (na a) && !stt a && !mx a && Nat.ble (dep a + 1) (dep i + dec) && Nat.ble (a + 1) 271
    | [3] => Nat.beq idx 169 && decide (ow i = "PowersForTimes$Reader") && Nat.ble 5 (dep i)
    | [4] => Nat.beq idx 176 && decide (ow i = "PowersForTimes$Reader") && Nat.ble 5 (dep i)
    | _ => false)
  | .invokestatic idx => Nat.beq len 3 && (match tb with
    | [n, _, _] => mIn i idx a && Nat.beq n (na a) && stt a && !mx a && Nat.ble (dep a + 1) (dep i) && Nat.ble (a + 1) 271
    | [1] => decide ((ow i = RX4 ∧ idx = 71) ∨ (ow i = RX7 ∧ idx = 41)) && Nat.ble 1 (dep i)
    | [2] => Nat.beq idx 178 && decide (ow i = RX9) && Nat.ble 1 (dep i)
    | _ => false)
  | .invokespecial idx => Nat.beq len 3 && (match tb with
    | [n, _, _] => (mIn i idx a || (Nat.beq idx 70 && decide (ow i = RX9) && decide (yM a = yX6_init))) && Nat.beq n (na a) && !stt a && mx a && mx i && Nat.ble (dep a + 1) (dep i) && Nat.ble (a + 1) 271
    | [] => oT.any (fun x => Nat.beq x.1 (oC i) && Nat.beq x.2.1 idx) && Nat.ble 1 (dep i)
    | _ => false)
  | .new idx => Nat.beq len 3 && nT.any (fun x => Nat.beq x.1 (oC i) && Nat.beq x.2.1 idx && Nat.beq x.2.2.1 a)
  | .newarray _ => Nat.beq len 2
  | .multianewarray idx d => Nat.beq len 4 && Nat.beq d 2 && xT.any (fun x => Nat.beq x.1 (oC i) && Nat.beq x.2.1 idx)
  | _ => false
/-- does it go on to the next one -/
def falls (I : Instr) : Bool := match I with
  | .goto _ | .ireturn | .lreturn | .areturn | .return_ | .tableswitch _ _ _ _ | .lookupswitch _ _ => false
  | _ => true
def isNop (I : Instr) : Bool := match I with
  | .nop => true
  | _ => false
def chk1 (i : Nat) (x : RI) : Bool := (isNop x.2.2.1 || decide (decode (bC i) x.1 = .ok (x.2.2.1, x.2.1))) && sdk i x.1 x.2.1 x.2.2.1 x.2.2.2.1 x.2.2.2.2.1 x.2.2.2.2.2
def nxt (x : RI) (rs : List RI) : Bool := !falls x.2.2.1 || (match rs with
  | [] => false
  | y :: _ => Nat.beq y.1 (x.1 + x.2.1))
def chN : List RI → Bool
  | [] => true
  | x :: rs => nxt x rs && chN rs
def chkL (i : Nat) : List RI → Bool
  | [] => true
  | x :: rs => chk1 i x && nxt x rs && chkL i rs
theorem chkL_tail {i : Nat} {x : RI} {rs : List RI} (h : chkL i (x :: rs) = true) : chkL i rs = true := by
  unfold chkL at h
  simp only [Bool.and_eq_true] at h
  exact h.2
theorem chkL_drop {i : Nat} (p : RI → Bool) : ∀ {is : List RI}, chkL i is = true → chkL i (is.dropWhile p) = true
  | [], h => h
  | x :: rs, h => by
    rw [List.dropWhile_cons]
    split
    · exact chkL_drop p (chkL_tail h)
    · exact h
end
section
set_option maxRecDepth 100000 in
theorem cw_0 : cwP 0 := rfl
set_option maxRecDepth 100000 in
theorem cw_1 : cwP 1 := rfl
set_option maxRecDepth 100000 in
theorem cw_2 : cwP 2 := rfl
set_option maxRecDepth 100000 in
theorem cw_3 : cwP 3 := rfl
set_option maxRecDepth 100000 in
theorem cw_4 : cwP 4 := rfl
set_option maxRecDepth 100000 in
theorem cw_5 : cwP 5 := rfl
set_option maxRecDepth 100000 in
theorem cw_6 : cwP 6 := rfl
set_option maxRecDepth 100000 in
theorem cw_7 : cwP 7 := rfl
set_option maxRecDepth 100000 in
theorem cw_8 : cwP 8 := rfl
set_option maxRecDepth 100000 in
theorem cw_9 : cwP 9 := rfl
set_option maxRecDepth 100000 in
theorem cw_10 : cwP 10 := rfl
set_option maxRecDepth 100000 in
theorem cw_11 : cwP 11 := rfl
set_option maxRecDepth 100000 in
theorem cw_12 : cwP 12 := rfl
set_option maxRecDepth 100000 in
theorem cw_13 : cwP 13 := rfl
set_option maxRecDepth 100000 in
theorem cw_14 : cwP 14 := rfl
set_option maxRecDepth 100000 in
theorem cw_15 : cwP 15 := rfl
set_option maxRecDepth 100000 in
theorem cw_16 : cwP 16 := rfl
set_option maxRecDepth 100000 in
theorem cw_17 : cwP 17 := rfl
set_option maxRecDepth 100000 in
theorem cw_18 : cwP 18 := rfl
set_option maxRecDepth 100000 in
theorem cw_19 : cwP 19 := rfl
set_option maxRecDepth 100000 in
theorem cw_20 : cwP 20 := rfl
set_option maxRecDepth 100000 in
theorem cw_21 : cwP 21 := rfl
set_option maxRecDepth 100000 in
theorem cw_22 : cwP 22 := rfl
set_option maxRecDepth 100000 in
theorem cw_23 : cwP 23 := rfl
set_option maxRecDepth 100000 in
theorem cw_24 : cwP 24 := rfl
set_option maxRecDepth 100000 in
theorem cw_25 : cwP 25 := rfl
set_option maxRecDepth 100000 in
theorem cw_26 : cwP 26 := rfl
set_option maxRecDepth 100000 in
theorem cw_27 : cwP 27 := rfl
set_option maxRecDepth 100000 in
theorem cw_28 : cwP 28 := rfl
set_option maxRecDepth 100000 in
theorem cw_29 : cwP 29 := rfl
set_option maxRecDepth 100000 in
theorem cw_30 : cwP 30 := rfl
set_option maxRecDepth 100000 in
theorem cw_31 : cwP 31 := rfl
set_option maxRecDepth 100000 in
theorem cw_32 : cwP 32 := rfl
set_option maxRecDepth 100000 in
theorem cw_33 : cwP 33 := rfl
set_option maxRecDepth 100000 in
theorem cw_34 : cwP 34 := rfl
set_option maxRecDepth 100000 in
theorem cw_35 : cwP 35 := rfl
set_option maxRecDepth 100000 in
theorem cw_36 : cwP 36 := rfl
set_option maxRecDepth 100000 in
theorem cw_37 : cwP 37 := rfl
set_option maxRecDepth 100000 in
theorem cw_38 : cwP 38 := rfl
set_option maxRecDepth 100000 in
theorem cw_39 : cwP 39 := rfl
set_option maxRecDepth 100000 in
theorem cw_40 : cwP 40 := rfl
set_option maxRecDepth 100000 in
theorem cw_41 : cwP 41 := rfl
set_option maxRecDepth 100000 in
theorem cw_42 : cwP 42 := rfl
set_option maxRecDepth 100000 in
theorem cw_43 : cwP 43 := rfl
set_option maxRecDepth 100000 in
theorem cw_44 : cwP 44 := rfl
set_option maxRecDepth 100000 in
theorem cw_45 : cwP 45 := rfl
set_option maxRecDepth 100000 in
theorem cw_46 : cwP 46 := rfl
set_option maxRecDepth 100000 in
theorem cw_47 : cwP 47 := rfl
set_option maxRecDepth 100000 in
theorem cw_48 : cwP 48 := rfl
set_option maxRecDepth 100000 in
theorem cw_49 : cwP 49 := rfl
set_option maxRecDepth 100000 in
theorem cw_50 : cwP 50 := rfl
set_option maxRecDepth 100000 in
theorem cw_51 : cwP 51 := rfl
set_option maxRecDepth 100000 in
theorem cw_52 : cwP 52 := rfl
set_option maxRecDepth 100000 in
theorem cw_53 : cwP 53 := rfl
set_option maxRecDepth 100000 in
theorem cw_54 : cwP 54 := rfl
set_option maxRecDepth 100000 in
theorem cw_55 : cwP 55 := rfl
set_option maxRecDepth 100000 in
theorem cw_56 : cwP 56 := rfl
set_option maxRecDepth 100000 in
theorem cw_57 : cwP 57 := rfl
set_option maxRecDepth 100000 in
theorem cw_58 : cwP 58 := rfl
set_option maxRecDepth 100000 in
theorem cw_59 : cwP 59 := rfl
set_option maxRecDepth 100000 in
theorem cw_60 : cwP 60 := rfl
set_option maxRecDepth 100000 in
theorem cw_61 : cwP 61 := rfl
set_option maxRecDepth 100000 in
theorem cw_62 : cwP 62 := rfl
set_option maxRecDepth 100000 in
theorem cw_63 : cwP 63 := rfl
set_option maxRecDepth 100000 in
theorem cw_64 : cwP 64 := rfl
set_option maxRecDepth 100000 in
theorem cw_65 : cwP 65 := rfl
set_option maxRecDepth 100000 in
theorem cw_66 : cwP 66 := rfl
set_option maxRecDepth 100000 in
theorem cw_67 : cwP 67 := rfl
set_option maxRecDepth 100000 in
theorem cw_68 : cwP 68 := rfl
set_option maxRecDepth 100000 in
theorem cw_69 : cwP 69 := rfl
set_option maxRecDepth 100000 in
theorem cw_70 : cwP 70 := rfl
set_option maxRecDepth 100000 in
theorem cw_71 : cwP 71 := rfl
set_option maxRecDepth 100000 in
theorem cw_72 : cwP 72 := rfl
set_option maxRecDepth 100000 in
theorem cw_73 : cwP 73 := rfl
set_option maxRecDepth 100000 in
theorem cw_74 : cwP 74 := rfl
set_option maxRecDepth 100000 in
theorem cw_75 : cwP 75 := rfl
set_option maxRecDepth 100000 in
theorem cw_76 : cwP 76 := rfl
set_option maxRecDepth 100000 in
theorem cw_77 : cwP 77 := rfl
set_option maxRecDepth 100000 in
theorem cw_78 : cwP 78 := rfl
set_option maxRecDepth 100000 in
theorem cw_79 : cwP 79 := rfl
set_option maxRecDepth 100000 in
theorem cw_80 : cwP 80 := rfl
set_option maxRecDepth 100000 in
theorem cw_81 : cwP 81 := rfl
set_option maxRecDepth 100000 in
theorem cw_82 : cwP 82 := rfl
set_option maxRecDepth 100000 in
theorem cw_83 : cwP 83 := rfl
set_option maxRecDepth 100000 in
theorem cw_84 : cwP 84 := rfl
set_option maxRecDepth 100000 in
theorem cw_85 : cwP 85 := rfl
set_option maxRecDepth 100000 in
theorem cw_86 : cwP 86 := rfl
set_option maxRecDepth 100000 in
theorem cw_87 : cwP 87 := rfl
set_option maxRecDepth 100000 in
theorem cw_88 : cwP 88 := rfl
set_option maxRecDepth 100000 in
theorem cw_89 : cwP 89 := rfl
set_option maxRecDepth 100000 in
theorem cw_90 : cwP 90 := rfl
set_option maxRecDepth 100000 in
theorem cw_91 : cwP 91 := rfl
set_option maxRecDepth 100000 in
theorem cw_92 : cwP 92 := rfl
set_option maxRecDepth 100000 in
theorem cw_93 : cwP 93 := rfl
set_option maxRecDepth 100000 in
theorem cw_94 : cwP 94 := rfl
set_option maxRecDepth 100000 in
theorem cw_95 : cwP 95 := rfl
set_option maxRecDepth 100000 in
theorem cw_96 : cwP 96 := rfl
set_option maxRecDepth 100000 in
theorem cw_97 : cwP 97 := rfl
set_option maxRecDepth 100000 in
theorem cw_98 : cwP 98 := rfl
set_option maxRecDepth 100000 in
theorem cw_99 : cwP 99 := rfl
set_option maxRecDepth 100000 in
theorem cw_100 : cwP 100 := rfl
set_option maxRecDepth 100000 in
theorem cw_101 : cwP 101 := rfl
set_option maxRecDepth 100000 in
theorem cw_102 : cwP 102 := rfl
set_option maxRecDepth 100000 in
theorem cw_103 : cwP 103 := rfl
set_option maxRecDepth 100000 in
theorem cw_104 : cwP 104 := rfl
set_option maxRecDepth 100000 in
theorem cw_105 : cwP 105 := rfl
set_option maxRecDepth 100000 in
theorem cw_106 : cwP 106 := rfl
set_option maxRecDepth 100000 in
theorem cw_107 : cwP 107 := rfl
set_option maxRecDepth 100000 in
theorem cw_108 : cwP 108 := rfl
set_option maxRecDepth 100000 in
theorem cw_109 : cwP 109 := rfl
set_option maxRecDepth 100000 in
theorem cw_110 : cwP 110 := rfl
set_option maxRecDepth 100000 in
theorem cw_111 : cwP 111 := rfl
set_option maxRecDepth 100000 in
theorem cw_112 : cwP 112 := rfl
set_option maxRecDepth 100000 in
theorem cw_113 : cwP 113 := rfl
set_option maxRecDepth 100000 in
theorem cw_114 : cwP 114 := rfl
set_option maxRecDepth 100000 in
theorem cw_115 : cwP 115 := rfl
set_option maxRecDepth 100000 in
theorem cw_116 : cwP 116 := rfl
set_option maxRecDepth 100000 in
theorem cw_117 : cwP 117 := rfl
set_option maxRecDepth 100000 in
theorem cw_118 : cwP 118 := rfl
set_option maxRecDepth 100000 in
theorem cw_119 : cwP 119 := rfl
set_option maxRecDepth 100000 in
theorem cw_120 : cwP 120 := rfl
set_option maxRecDepth 100000 in
theorem cw_121 : cwP 121 := rfl
set_option maxRecDepth 100000 in
theorem cw_122 : cwP 122 := rfl
set_option maxRecDepth 100000 in
theorem cw_123 : cwP 123 := rfl
set_option maxRecDepth 100000 in
theorem cw_124 : cwP 124 := rfl
set_option maxRecDepth 100000 in
theorem cw_125 : cwP 125 := rfl
set_option maxRecDepth 100000 in
theorem cw_126 : cwP 126 := rfl
set_option maxRecDepth 100000 in
theorem cw_127 : cwP 127 := rfl
set_option maxRecDepth 100000 in
theorem cw_128 : cwP 128 := rfl
set_option maxRecDepth 100000 in
theorem cw_129 : cwP 129 := rfl
set_option maxRecDepth 100000 in
theorem cw_130 : cwP 130 := rfl
set_option maxRecDepth 100000 in
theorem cw_131 : cwP 131 := rfl
set_option maxRecDepth 100000 in
theorem cw_132 : cwP 132 := rfl
set_option maxRecDepth 100000 in
theorem cw_133 : cwP 133 := rfl
set_option maxRecDepth 100000 in
theorem cw_134 : cwP 134 := rfl
set_option maxRecDepth 100000 in
theorem cw_135 : cwP 135 := rfl
set_option maxRecDepth 100000 in
theorem cw_136 : cwP 136 := rfl
set_option maxRecDepth 100000 in
theorem cw_137 : cwP 137 := rfl
set_option maxRecDepth 100000 in
theorem cw_138 : cwP 138 := rfl
set_option maxRecDepth 100000 in
theorem cw_139 : cwP 139 := rfl
set_option maxRecDepth 100000 in
theorem cw_140 : cwP 140 := rfl
set_option maxRecDepth 100000 in
theorem cw_141 : cwP 141 := rfl
set_option maxRecDepth 100000 in
theorem cw_142 : cwP 142 := rfl
set_option maxRecDepth 100000 in
theorem cw_143 : cwP 143 := rfl
set_option maxRecDepth 100000 in
theorem cw_144 : cwP 144 := rfl
set_option maxRecDepth 100000 in
theorem cw_145 : cwP 145 := rfl
set_option maxRecDepth 100000 in
theorem cw_146 : cwP 146 := rfl
set_option maxRecDepth 100000 in
theorem cw_147 : cwP 147 := rfl
set_option maxRecDepth 100000 in
theorem cw_148 : cwP 148 := rfl
set_option maxRecDepth 100000 in
theorem cw_149 : cwP 149 := rfl
set_option maxRecDepth 100000 in
theorem cw_150 : cwP 150 := rfl
set_option maxRecDepth 100000 in
theorem cw_151 : cwP 151 := rfl
set_option maxRecDepth 100000 in
theorem cw_152 : cwP 152 := rfl
set_option maxRecDepth 100000 in
theorem cw_153 : cwP 153 := rfl
set_option maxRecDepth 100000 in
theorem cw_154 : cwP 154 := rfl
set_option maxRecDepth 100000 in
theorem cw_155 : cwP 155 := rfl
set_option maxRecDepth 100000 in
theorem cw_156 : cwP 156 := rfl
set_option maxRecDepth 100000 in
theorem cw_157 : cwP 157 := rfl
set_option maxRecDepth 100000 in
theorem cw_158 : cwP 158 := rfl
set_option maxRecDepth 100000 in
theorem cw_159 : cwP 159 := rfl
set_option maxRecDepth 100000 in
theorem cw_160 : cwP 160 := rfl
set_option maxRecDepth 100000 in
theorem cw_161 : cwP 161 := rfl
set_option maxRecDepth 100000 in
theorem cw_162 : cwP 162 := rfl
set_option maxRecDepth 100000 in
theorem cw_163 : cwP 163 := rfl
set_option maxRecDepth 100000 in
theorem cw_164 : cwP 164 := rfl
set_option maxRecDepth 100000 in
theorem cw_165 : cwP 165 := rfl
set_option maxRecDepth 100000 in
theorem cw_166 : cwP 166 := rfl
set_option maxRecDepth 100000 in
theorem cw_167 : cwP 167 := rfl
set_option maxRecDepth 100000 in
theorem cw_168 : cwP 168 := rfl
set_option maxRecDepth 100000 in
theorem cw_169 : cwP 169 := rfl
set_option maxRecDepth 100000 in
theorem cw_170 : cwP 170 := rfl
set_option maxRecDepth 100000 in
theorem cw_171 : cwP 171 := rfl
set_option maxRecDepth 100000 in
theorem cw_172 : cwP 172 := rfl
set_option maxRecDepth 100000 in
theorem cw_173 : cwP 173 := rfl
set_option maxRecDepth 100000 in
theorem cw_174 : cwP 174 := rfl
set_option maxRecDepth 100000 in
theorem cw_175 : cwP 175 := rfl
set_option maxRecDepth 100000 in
theorem cw_176 : cwP 176 := rfl
set_option maxRecDepth 100000 in
theorem cw_177 : cwP 177 := rfl
set_option maxRecDepth 100000 in
theorem cw_178 : cwP 178 := rfl
set_option maxRecDepth 100000 in
theorem cw_179 : cwP 179 := rfl
set_option maxRecDepth 100000 in
theorem cw_180 : cwP 180 := rfl
set_option maxRecDepth 100000 in
theorem cw_181 : cwP 181 := rfl
set_option maxRecDepth 100000 in
theorem cw_182 : cwP 182 := rfl
set_option maxRecDepth 100000 in
theorem cw_183 : cwP 183 := rfl
set_option maxRecDepth 100000 in
theorem cw_184 : cwP 184 := rfl
set_option maxRecDepth 100000 in
theorem cw_185 : cwP 185 := rfl
set_option maxRecDepth 100000 in
theorem cw_186 : cwP 186 := rfl
set_option maxRecDepth 100000 in
theorem cw_187 : cwP 187 := rfl
set_option maxRecDepth 100000 in
theorem cw_188 : cwP 188 := rfl
set_option maxRecDepth 100000 in
theorem cw_189 : cwP 189 := rfl
set_option maxRecDepth 100000 in
theorem cw_190 : cwP 190 := rfl
set_option maxRecDepth 100000 in
theorem cw_191 : cwP 191 := rfl
set_option maxRecDepth 100000 in
theorem cw_192 : cwP 192 := rfl
set_option maxRecDepth 100000 in
theorem cw_193 : cwP 193 := rfl
set_option maxRecDepth 100000 in
theorem cw_194 : cwP 194 := rfl
set_option maxRecDepth 100000 in
theorem cw_195 : cwP 195 := rfl
set_option maxRecDepth 100000 in
theorem cw_196 : cwP 196 := rfl
set_option maxRecDepth 100000 in
theorem cw_197 : cwP 197 := rfl
set_option maxRecDepth 100000 in
theorem cw_198 : cwP 198 := rfl
set_option maxRecDepth 100000 in
theorem cw_199 : cwP 199 := rfl
set_option maxRecDepth 100000 in
theorem cw_200 : cwP 200 := rfl
set_option maxRecDepth 100000 in
theorem cw_201 : cwP 201 := rfl
set_option maxRecDepth 100000 in
theorem cw_202 : cwP 202 := rfl
set_option maxRecDepth 100000 in
theorem cw_203 : cwP 203 := rfl
set_option maxRecDepth 100000 in
theorem cw_204 : cwP 204 := rfl
set_option maxRecDepth 100000 in
theorem cw_205 : cwP 205 := rfl
set_option maxRecDepth 100000 in
theorem cw_206 : cwP 206 := rfl
set_option maxRecDepth 100000 in
theorem cw_207 : cwP 207 := rfl
set_option maxRecDepth 100000 in
theorem cw_208 : cwP 208 := rfl
set_option maxRecDepth 100000 in
theorem cw_209 : cwP 209 := rfl
set_option maxRecDepth 100000 in
theorem cw_210 : cwP 210 := rfl
set_option maxRecDepth 100000 in
theorem cw_211 : cwP 211 := rfl
set_option maxRecDepth 100000 in
theorem cw_212 : cwP 212 := rfl
set_option maxRecDepth 100000 in
theorem cw_213 : cwP 213 := rfl
set_option maxRecDepth 100000 in
theorem cw_214 : cwP 214 := rfl
set_option maxRecDepth 100000 in
theorem cw_215 : cwP 215 := rfl
set_option maxRecDepth 100000 in
theorem cw_216 : cwP 216 := rfl
set_option maxRecDepth 100000 in
theorem cw_217 : cwP 217 := rfl
set_option maxRecDepth 100000 in
theorem cw_218 : cwP 218 := rfl
set_option maxRecDepth 100000 in
theorem cw_219 : cwP 219 := rfl
set_option maxRecDepth 100000 in
theorem cw_220 : cwP 220 := rfl
set_option maxRecDepth 100000 in
theorem cw_221 : cwP 221 := rfl
set_option maxRecDepth 100000 in
theorem cw_222 : cwP 222 := rfl
set_option maxRecDepth 100000 in
theorem cw_223 : cwP 223 := rfl
set_option maxRecDepth 100000 in
theorem cw_224 : cwP 224 := rfl
set_option maxRecDepth 100000 in
theorem cw_225 : cwP 225 := rfl
set_option maxRecDepth 100000 in
theorem cw_226 : cwP 226 := rfl
set_option maxRecDepth 100000 in
theorem cw_227 : cwP 227 := rfl
set_option maxRecDepth 100000 in
theorem cw_228 : cwP 228 := rfl
set_option maxRecDepth 100000 in
theorem cw_229 : cwP 229 := rfl
set_option maxRecDepth 100000 in
theorem cw_230 : cwP 230 := rfl
set_option maxRecDepth 100000 in
theorem cw_231 : cwP 231 := rfl
set_option maxRecDepth 100000 in
theorem cw_232 : cwP 232 := rfl
set_option maxRecDepth 100000 in
theorem cw_233 : cwP 233 := rfl
set_option maxRecDepth 100000 in
theorem cw_234 : cwP 234 := rfl
set_option maxRecDepth 100000 in
theorem cw_235 : cwP 235 := rfl
set_option maxRecDepth 100000 in
theorem cw_236 : cwP 236 := rfl
set_option maxRecDepth 100000 in
theorem cw_237 : cwP 237 := rfl
set_option maxRecDepth 100000 in
theorem cw_238 : cwP 238 := rfl
set_option maxRecDepth 100000 in
theorem cw_239 : cwP 239 := rfl
set_option maxRecDepth 100000 in
theorem cw_240 : cwP 240 := rfl
set_option maxRecDepth 100000 in
theorem cw_241 : cwP 241 := rfl
set_option maxRecDepth 100000 in
theorem cw_242 : cwP 242 := rfl
set_option maxRecDepth 100000 in
theorem cw_243 : cwP 243 := rfl
set_option maxRecDepth 100000 in
theorem cw_244 : cwP 244 := rfl
set_option maxRecDepth 100000 in
theorem cw_245 : cwP 245 := rfl
set_option maxRecDepth 100000 in
theorem cw_246 : cwP 246 := rfl
set_option maxRecDepth 100000 in
theorem cw_247 : cwP 247 := rfl
set_option maxRecDepth 100000 in
theorem cw_248 : cwP 248 := rfl
set_option maxRecDepth 100000 in
theorem cw_249 : cwP 249 := rfl
set_option maxRecDepth 100000 in
theorem cw_250 : cwP 250 := rfl
set_option maxRecDepth 100000 in
theorem cw_251 : cwP 251 := rfl
set_option maxRecDepth 100000 in
theorem cw_252 : cwP 252 := rfl
set_option maxRecDepth 100000 in
theorem cw_253 : cwP 253 := rfl
set_option maxRecDepth 100000 in
theorem cw_254 : cwP 254 := rfl
set_option maxRecDepth 100000 in
theorem cw_255 : cwP 255 := rfl
set_option maxRecDepth 100000 in
theorem cw_256 : cwP 256 := rfl
set_option maxRecDepth 100000 in
theorem cw_257 : cwP 257 := rfl
set_option maxRecDepth 100000 in
theorem cw_258 : cwP 258 := rfl
set_option maxRecDepth 100000 in
theorem cw_259 : cwP 259 := rfl
set_option maxRecDepth 100000 in
theorem cw_260 : cwP 260 := rfl
set_option maxRecDepth 100000 in
theorem cw_261 : cwP 261 := rfl
set_option maxRecDepth 100000 in
theorem cw_262 : cwP 262 := rfl
set_option maxRecDepth 100000 in
theorem cw_263 : cwP 263 := rfl
set_option maxRecDepth 100000 in
theorem cw_264 : cwP 264 := rfl
set_option maxRecDepth 100000 in
theorem cw_265 : cwP 265 := rfl
set_option maxRecDepth 100000 in
theorem cw_266 : cwP 266 := rfl
set_option maxRecDepth 100000 in
theorem cw_267 : cwP 267 := rfl
set_option maxRecDepth 100000 in
theorem cw_268 : cwP 268 := rfl
set_option maxRecDepth 100000 in
theorem cw_269 : cwP 269 := rfl
set_option maxRecDepth 100000 in
theorem cw_270 : cwP 270 := rfl
theorem cw_all_g0 : ∀ j ∈ [0, 1, 2, 3, 4, 5, 6, 7, 8, 9, 10, 11, 12, 13, 14, 15, 16, 17, 18, 19, 20, 21, 22, 23], cwP j := List.forall_mem_cons.mpr ⟨cw_0, List.forall_mem_cons.mpr ⟨cw_1, List.forall_mem_cons.mpr ⟨cw_2, List.forall_mem_cons.mpr ⟨cw_3, List.forall_mem_cons.mpr ⟨cw_4, List.forall_mem_cons.mpr ⟨cw_5, List.forall_mem_cons.mpr ⟨cw_6, List.forall_mem_cons.mpr ⟨cw_7, List.forall_mem_cons.mpr ⟨cw_8, List.forall_mem_cons.mpr ⟨cw_9, List.forall_mem_cons.mpr ⟨cw_10, List.forall_mem_cons.mpr ⟨cw_11, List.forall_mem_cons.mpr ⟨cw_12, List.forall_mem_cons.mpr ⟨cw_13, List.forall_mem_cons.mpr ⟨cw_14, List.forall_mem_cons.mpr ⟨cw_15, List.forall_mem_cons.mpr ⟨cw_16, List.forall_mem_cons.mpr ⟨cw_17, List.forall_mem_cons.mpr ⟨cw_18, List.forall_mem_cons.mpr ⟨cw_19, List.forall_mem_cons.mpr ⟨cw_20, List.forall_mem_cons.mpr ⟨cw_21, List.forall_mem_cons.mpr ⟨cw_22, List.forall_mem_cons.mpr ⟨cw_23, fun _ h => absurd h List.not_mem_nil⟩⟩⟩⟩⟩⟩⟩⟩⟩⟩⟩⟩⟩⟩⟩⟩⟩⟩⟩⟩⟩⟩⟩⟩
theorem cw_all_g24 : ∀ j ∈ [24, 25, 26, 27, 28, 29, 30, 31, 32, 33, 34, 35, 36, 37, 38, 39, 40, 41, 42, 43, 44, 45, 46, 47], cwP j := List.forall_mem_cons.mpr ⟨cw_24, List.forall_mem_cons.mpr ⟨cw_25, List.forall_mem_cons.mpr ⟨cw_26, List.forall_mem_cons.mpr ⟨cw_27, List.forall_mem_cons.mpr ⟨cw_28, List.forall_mem_cons.mpr ⟨cw_29, List.forall_mem_cons.mpr ⟨cw_30, List.forall_mem_cons.mpr ⟨cw_31, List.forall_mem_cons.mpr ⟨cw_32, List.forall_mem_cons.mpr ⟨cw_33, List.forall_mem_cons.mpr ⟨cw_34, List.forall_mem_cons.mpr ⟨cw_35, List.forall_mem_cons.mpr ⟨cw_36, List.forall_mem_cons.mpr ⟨cw_37, List.forall_mem_cons.mpr ⟨cw_38, List.forall_mem_cons.mpr ⟨cw_39, List.forall_mem_cons.mpr ⟨cw_40, List.forall_mem_cons.mpr ⟨cw_41, List.forall_mem_cons.mpr ⟨cw_42, List.forall_mem_cons.mpr ⟨cw_43, List.forall_mem_cons.mpr ⟨cw_44, List.forall_mem_cons.mpr ⟨cw_45, List.forall_mem_cons.mpr ⟨cw_46, List.forall_mem_cons.mpr ⟨cw_47, fun _ h => absurd h List.not_mem_nil⟩⟩⟩⟩⟩⟩⟩⟩⟩⟩⟩⟩⟩⟩⟩⟩⟩⟩⟩⟩⟩⟩⟩⟩
theorem cw_all_g48 : ∀ j ∈ [48, 49, 50, 51, 52, 53, 54, 55, 56, 57, 58, 59, 60, 61, 62, 63, 64, 65, 66, 67, 68, 69, 70, 71], cwP j := List.forall_mem_cons.mpr ⟨cw_48, List.forall_mem_cons.mpr ⟨cw_49, List.forall_mem_cons.mpr ⟨cw_50, List.forall_mem_cons.mpr ⟨cw_51, List.forall_mem_cons.mpr ⟨cw_52, List.forall_mem_cons.mpr ⟨cw_53, List.forall_mem_cons.mpr ⟨cw_54, List.forall_mem_cons.mpr ⟨cw_55, List.forall_mem_cons.mpr ⟨cw_56, List.forall_mem_cons.mpr ⟨cw_57, List.forall_mem_cons.mpr ⟨cw_58, List.forall_mem_cons.mpr ⟨cw_59, List.forall_mem_cons.mpr ⟨cw_60, List.forall_mem_cons.mpr ⟨cw_61, List.forall_mem_cons.mpr ⟨cw_62, List.forall_mem_cons.mpr ⟨cw_63, List.forall_mem_cons.mpr ⟨cw_64, List.forall_mem_cons.mpr ⟨cw_65, List.forall_mem_cons.mpr ⟨cw_66, List.forall_mem_cons.mpr ⟨cw_67, List.forall_mem_cons.mpr ⟨cw_68, List.forall_mem_cons.mpr ⟨cw_69, List.forall_mem_cons.mpr ⟨cw_70, List.forall_mem_cons.mpr ⟨cw_71, fun _ h => absurd h List.not_mem_nil⟩⟩⟩⟩⟩⟩⟩⟩⟩⟩⟩⟩⟩⟩⟩⟩⟩⟩⟩⟩⟩⟩⟩⟩
theorem cw_all_g72 : ∀ j ∈ [72, 73, 74, 75, 76, 77, 78, 79, 80, 81, 82, 83, 84, 85, 86, 87, 88, 89, 90, 91, 92, 93, 94, 95], cwP j := List.forall_mem_cons.mpr ⟨cw_72, List.forall_mem_cons.mpr ⟨cw_73, List.forall_mem_cons.mpr ⟨cw_74, List.forall_mem_cons.mpr ⟨cw_75, List.forall_mem_cons.mpr ⟨cw_76, List.forall_mem_cons.mpr ⟨cw_77, List.forall_mem_cons.mpr ⟨cw_78, List.forall_mem_cons.mpr ⟨cw_79, List.forall_mem_cons.mpr ⟨cw_80, List.forall_mem_cons.mpr ⟨cw_81, List.forall_mem_cons.mpr ⟨cw_82, List.forall_mem_cons.mpr ⟨cw_83, List.forall_mem_cons.mpr ⟨cw_84, List.forall_mem_cons.mpr ⟨cw_85, List.forall_mem_cons.mpr ⟨cw_86, List.forall_mem_cons.mpr ⟨cw_87, List.forall_mem_cons.mpr ⟨cw_88, List.forall_mem_cons.mpr ⟨cw_89, List.forall_mem_cons.mpr ⟨cw_90, List.forall_mem_cons.mpr ⟨cw_91, List.forall_mem_cons.mpr ⟨cw_92, List.forall_mem_cons.mpr ⟨cw_93, List.forall_mem_cons.mpr ⟨cw_94, List.forall_mem_cons.mpr ⟨cw_95, fun _ h => absurd h List.not_mem_nil⟩⟩⟩⟩⟩⟩⟩⟩⟩⟩⟩⟩⟩⟩⟩⟩⟩⟩⟩⟩⟩⟩⟩⟩
theorem cw_all_g96 : ∀ j ∈ [96, 97, 98, 99, 100, 101, 102, 103, 104, 105, 106, 107, 108, 109, 110, 111, 112, 113, 114, 115, 116, 117, 118, 119], cwP j := List.forall_mem_cons.mpr ⟨cw_96, List.forall_mem_cons.mpr ⟨cw_97, List.forall_mem_cons.mpr ⟨cw_98, List.forall_mem_cons.mpr ⟨cw_99, List.forall_mem_cons.mpr ⟨cw_100, List.forall_mem_cons.mpr ⟨cw_101, List.forall_mem_cons.mpr ⟨cw_102, List.forall_mem_cons.mpr ⟨cw_103, List.forall_mem_cons.mpr ⟨cw_104, List.forall_mem_cons.mpr ⟨cw_105, List.forall_mem_cons.mpr ⟨cw_106, List.forall_mem_cons.mpr ⟨cw_107, List.forall_mem_cons.mpr ⟨cw_108, List.forall_mem_cons.mpr ⟨cw_109, List.forall_mem_cons.mpr ⟨cw_110, List.forall_mem_cons.mpr ⟨cw_111, List.forall_mem_cons.mpr ⟨cw_112, List.forall_mem_cons.mpr ⟨cw_113, List.forall_mem_cons.mpr ⟨cw_114, List.forall_mem_cons.mpr ⟨cw_115, List.forall_mem_cons.mpr ⟨cw_116, List.forall_mem_cons.mpr ⟨cw_117, List.forall_mem_cons.mpr ⟨cw_118, List.forall_mem_cons.mpr ⟨cw_119, fun _ h => absurd h List.not_mem_nil⟩⟩⟩⟩⟩⟩⟩⟩⟩⟩⟩⟩⟩⟩⟩⟩⟩⟩⟩⟩⟩⟩⟩⟩
theorem cw_all_g120 : ∀ j ∈ [120, 121, 122, 123, 124, 125, 126, 127, 128, 129, 130, 131, 132, 133, 134, 135, 136, 137, 138, 139, 140, 141, 142, 143], cwP j := List.forall_mem_cons.mpr ⟨cw_120, List.forall_mem_cons.mpr ⟨cw_121, List.forall_mem_cons.mpr ⟨cw_122, List.forall_mem_cons.mpr ⟨cw_123, List.forall_mem_cons.mpr ⟨cw_124, List.forall_mem_cons.mpr ⟨cw_125, List.forall_mem_cons.mpr ⟨cw_126, List.forall_mem_cons.mpr ⟨cw_127, List.forall_mem_cons.mpr ⟨cw_128, List.forall_mem_cons.mpr ⟨cw_129, List.forall_mem_cons.mpr ⟨cw_130, List.forall_mem_cons.mpr ⟨cw_131, List.forall_mem_cons.mpr ⟨cw_132, List.forall_mem_cons.mpr ⟨cw_133, List.forall_mem_cons.mpr ⟨cw_134, List.forall_mem_cons.mpr ⟨cw_135, List.forall_mem_cons.mpr ⟨cw_136, List.forall_mem_cons.mpr ⟨cw_137, List.forall_mem_cons.mpr ⟨cw_138, List.forall_mem_cons.mpr ⟨cw_139, List.forall_mem_cons.mpr ⟨cw_140, List.forall_mem_cons.mpr ⟨cw_141, List.forall_mem_cons.mpr ⟨cw_142, List.forall_mem_cons.mpr ⟨cw_143, fun _ h => absurd h List.not_mem_nil⟩⟩⟩⟩⟩⟩⟩⟩⟩⟩⟩⟩⟩⟩⟩⟩⟩⟩⟩⟩⟩⟩⟩⟩
theorem cw_all_g144 : ∀ j ∈ [144, 145, 146, 147, 148, 149, 150, 151, 152, 153, 154, 155, 156, 157, 158, 159, 160, 161, 162, 163, 164, 165, 166, 167], cwP j := List.forall_mem_cons.mpr ⟨cw_144, List.forall_mem_cons.mpr ⟨cw_145, List.forall_mem_cons.mpr ⟨cw_146, List.forall_mem_cons.mpr ⟨cw_147, List.forall_mem_cons.mpr ⟨cw_148, List.forall_mem_cons.mpr ⟨cw_149, List.forall_mem_cons.mpr ⟨cw_150, List.forall_mem_cons.mpr ⟨cw_151, List.forall_mem_cons.mpr ⟨cw_152, List.forall_mem_cons.mpr ⟨cw_153, List.forall_mem_cons.mpr ⟨cw_154, List.forall_mem_cons.mpr ⟨cw_155, List.forall_mem_cons.mpr ⟨cw_156, List.forall_mem_cons.mpr ⟨cw_157, List.forall_mem_cons.mpr ⟨cw_158, List.forall_mem_cons.mpr ⟨cw_159, List.forall_mem_cons.mpr ⟨cw_160, List.forall_mem_cons.mpr ⟨cw_161, List.forall_mem_cons.mpr ⟨cw_162, List.forall_mem_cons.mpr ⟨cw_163, List.forall_mem_cons.mpr ⟨cw_164, List.forall_mem_cons.mpr ⟨cw_165, List.forall_mem_cons.mpr ⟨cw_166, List.forall_mem_cons.mpr ⟨cw_167, fun _ h => absurd h List.not_mem_nil⟩⟩⟩⟩⟩⟩⟩⟩⟩⟩⟩⟩⟩⟩⟩⟩⟩⟩⟩⟩⟩⟩⟩⟩
theorem cw_all_g168 : ∀ j ∈ [168, 169, 170, 171, 172, 173, 174, 175, 176, 177, 178, 179, 180, 181, 182, 183, 184, 185, 186, 187, 188, 189, 190, 191], cwP j := List.forall_mem_cons.mpr ⟨cw_168, List.forall_mem_cons.mpr ⟨cw_169, List.forall_mem_cons.mpr ⟨cw_170, List.forall_mem_cons.mpr ⟨cw_171, List.forall_mem_cons.mpr ⟨cw_172, List.forall_mem_cons.mpr ⟨cw_173, List.forall_mem_cons.mpr ⟨cw_174, List.forall_mem_cons.mpr ⟨cw_175, List.forall_mem_cons.mpr ⟨cw_176, List.forall_mem_cons.mpr ⟨cw_177, List.forall_mem_cons.mpr ⟨cw_178, List.forall_mem_cons.mpr ⟨cw_179, List.forall_mem_cons.mpr ⟨cw_180, List.forall_mem_cons.mpr ⟨cw_181, List.forall_mem_cons.mpr ⟨cw_182, List.forall_mem_cons.mpr ⟨cw_183, List.forall_mem_cons.mpr ⟨cw_184, List.forall_mem_cons.mpr ⟨cw_185, List.forall_mem_cons.mpr ⟨cw_186, List.forall_mem_cons.mpr ⟨cw_187, List.forall_mem_cons.mpr ⟨cw_188, List.forall_mem_cons.mpr ⟨cw_189, List.forall_mem_cons.mpr ⟨cw_190, List.forall_mem_cons.mpr ⟨cw_191, fun _ h => absurd h List.not_mem_nil⟩⟩⟩⟩⟩⟩⟩⟩⟩⟩⟩⟩⟩⟩⟩⟩⟩⟩⟩⟩⟩⟩⟩⟩
theorem cw_all_g192 : ∀ j ∈ [192, 193, 194, 195, 196, 197, 198, 199, 200, 201, 202, 203, 204, 205, 206, 207, 208, 209, 210, 211, 212, 213, 214, 215], cwP j := List.forall_mem_cons.mpr ⟨cw_192, List.forall_mem_cons.mpr ⟨cw_193, List.forall_mem_cons.mpr ⟨cw_194, List.forall_mem_cons.mpr ⟨cw_195, List.forall_mem_cons.mpr ⟨cw_196, List.forall_mem_cons.mpr ⟨cw_197, List.forall_mem_cons.mpr ⟨cw_198, List.forall_mem_cons.mpr ⟨cw_199, List.forall_mem_cons.mpr ⟨cw_200, List.forall_mem_cons.mpr ⟨cw_201, List.forall_mem_cons.mpr ⟨cw_202, List.forall_mem_cons.mpr ⟨cw_203, List.forall_mem_cons.mpr ⟨cw_204, List.forall_mem_cons.mpr ⟨cw_205, List.forall_mem_cons.mpr ⟨cw_206, List.forall_mem_cons.mpr ⟨cw_207, List.forall_mem_cons.mpr ⟨cw_208, List.forall_mem_cons.mpr ⟨cw_209, List.forall_mem_cons.mpr ⟨cw_210, List.forall_mem_cons.mpr ⟨cw_211, List.forall_mem_cons.mpr ⟨cw_212, List.forall_mem_cons.mpr ⟨cw_213, List.forall_mem_cons.mpr ⟨cw_214, List.forall_mem_cons.mpr ⟨cw_215, fun _ h => absurd h List.not_mem_nil⟩⟩⟩⟩⟩⟩⟩⟩⟩⟩⟩⟩⟩⟩⟩⟩⟩⟩⟩⟩⟩⟩⟩⟩
theorem cw_all_g216 : ∀ j ∈ [216, 217, 218, 219, 220, 221, 222, 223, 224, 225, 226, 227, 228, 229, 230, 231, 232, 233, 234, 235, 236, 237, 238, 239], cwP j := List.forall_mem_cons.mpr ⟨cw_216, List.forall_mem_cons.mpr ⟨cw_217, List.forall_mem_cons.mpr ⟨cw_218, List.forall_mem_cons.mpr ⟨cw_219, List.forall_mem_cons.mpr ⟨cw_220, List.forall_mem_cons.mpr ⟨cw_221, List.forall_mem_cons.mpr ⟨cw_222, List.forall_mem_cons.mpr ⟨cw_223, List.forall_mem_cons.mpr ⟨cw_224, List.forall_mem_cons.mpr ⟨cw_225, List.forall_mem_cons.mpr ⟨cw_226, List.forall_mem_cons.mpr ⟨cw_227, List.forall_mem_cons.mpr ⟨cw_228, List.forall_mem_cons.mpr ⟨cw_229, List.forall_mem_cons.mpr ⟨cw_230, List.forall_mem_cons.mpr ⟨cw_231, List.forall_mem_cons.mpr ⟨cw_232, List.forall_mem_cons.mpr ⟨cw_233, List.forall_mem_cons.mpr ⟨cw_234, List.forall_mem_cons.mpr ⟨cw_235, List.forall_mem_cons.mpr ⟨cw_236, List.forall_mem_cons.mpr ⟨cw_237, List.forall_mem_cons.mpr ⟨cw_238, List.forall_mem_cons.mpr ⟨cw_239, fun _ h => absurd h List.not_mem_nil⟩⟩⟩⟩⟩⟩⟩⟩⟩⟩⟩⟩⟩⟩⟩⟩⟩⟩⟩⟩⟩⟩⟩⟩
theorem cw_all_g240 : ∀ j ∈ [240, 241, 242, 243, 244, 245, 246, 247, 248, 249, 250, 251, 252, 253, 254, 255, 256, 257, 258, 259, 260, 261, 262, 263], cwP j := List.forall_mem_cons.mpr ⟨cw_240, List.forall_mem_cons.mpr ⟨cw_241, List.forall_mem_cons.mpr ⟨cw_242, List.forall_mem_cons.mpr ⟨cw_243, List.forall_mem_cons.mpr ⟨cw_244, List.forall_mem_cons.mpr ⟨cw_245, List.forall_mem_cons.mpr ⟨cw_246, List.forall_mem_cons.mpr ⟨cw_247, List.forall_mem_cons.mpr ⟨cw_248, List.forall_mem_cons.mpr ⟨cw_249, List.forall_mem_cons.mpr ⟨cw_250, List.forall_mem_cons.mpr ⟨cw_251, List.forall_mem_cons.mpr ⟨cw_252, List.forall_mem_cons.mpr ⟨cw_253, List.forall_mem_cons.mpr ⟨cw_254, List.forall_mem_cons.mpr ⟨cw_255, List.forall_mem_cons.mpr ⟨cw_256, List.forall_mem_cons.mpr ⟨cw_257, List.forall_mem_cons.mpr ⟨cw_258, List.forall_mem_cons.mpr ⟨cw_259, List.forall_mem_cons.mpr ⟨cw_260, List.forall_mem_cons.mpr ⟨cw_261, List.forall_mem_cons.mpr ⟨cw_262, List.forall_mem_cons.mpr ⟨cw_263, fun _ h => absurd h List.not_mem_nil⟩⟩⟩⟩⟩⟩⟩⟩⟩⟩⟩⟩⟩⟩⟩⟩⟩⟩⟩⟩⟩⟩⟩⟩
theorem cw_all_g264 : ∀ j ∈ [264, 265, 266, 267, 268, 269, 270], cwP j := List.forall_mem_cons.mpr ⟨cw_264, List.forall_mem_cons.mpr ⟨cw_265, List.forall_mem_cons.mpr ⟨cw_266, List.forall_mem_cons.mpr ⟨cw_267, List.forall_mem_cons.mpr ⟨cw_268, List.forall_mem_cons.mpr ⟨cw_269, List.forall_mem_cons.mpr ⟨cw_270, fun _ h => absurd h List.not_mem_nil⟩⟩⟩⟩⟩⟩⟩
theorem cw_all {j : Nat} (hj : j < 271) : cwP j := by
  have h : ∀ j ∈ [0, 1, 2, 3, 4, 5, 6, 7, 8, 9, 10, 11, 12, 13, 14, 15, 16, 17, 18, 19, 20, 21, 22, 23] ++ ([24, 25, 26, 27, 28, 29, 30, 31, 32, 33, 34, 35, 36, 37, 38, 39, 40, 41, 42, 43, 44, 45, 46, 47] ++ ([48, 49, 50, 51, 52, 53, 54, 55, 56, 57, 58, 59, 60, 61, 62, 63, 64, 65, 66, 67, 68, 69, 70, 71] ++ ([72, 73, 74, 75, 76, 77, 78, 79, 80, 81, 82, 83, 84, 85, 86, 87, 88, 89, 90, 91, 92, 93, 94, 95] ++ ([96, 97, 98, 99, 100, 101, 102, 103, 104, 105, 106, 107, 108, 109, 110, 111, 112, 113, 114, 115, 116, 117, 118, 119] ++ ([120, 121, 122, 123, 124, 125, 126, 127, 128, 129, 130, 131, 132, 133, 134, 135, 136, 137, 138, 139, 140, 141, 142, 143] ++ ([144, 145, 146, 147, 148, 149, 150, 151, 152, 153, 154, 155, 156, 157, 158, 159, 160, 161, 162, 163, 164, 165, 166, 167] ++ ([168, 169, 170, 171, 172, 173, 174, 175, 176, 177, 178, 179, 180, 181, 182, 183, 184, 185, 186, 187, 188, 189, 190, 191] ++ ([192, 193, 194, 195, 196, 197, 198, 199, 200, 201, 202, 203, 204, 205, 206, 207, 208, 209, 210, 211, 212, 213, 214, 215] ++ ([216, 217, 218, 219, 220, 221, 222, 223, 224, 225, 226, 227, 228, 229, 230, 231, 232, 233, 234, 235, 236, 237, 238, 239] ++ ([240, 241, 242, 243, 244, 245, 246, 247, 248, 249, 250, 251, 252, 253, 254, 255, 256, 257, 258, 259, 260, 261, 262, 263] ++ ([264, 265, 266, 267, 268, 269, 270]))))))))))), cwP j := List.forall_mem_append.mpr ⟨cw_all_g0, List.forall_mem_append.mpr ⟨cw_all_g24, List.forall_mem_append.mpr ⟨cw_all_g48, List.forall_mem_append.mpr ⟨cw_all_g72, List.forall_mem_append.mpr ⟨cw_all_g96, List.forall_mem_append.mpr ⟨cw_all_g120, List.forall_mem_append.mpr ⟨cw_all_g144, List.forall_mem_append.mpr ⟨cw_all_g168, List.forall_mem_append.mpr ⟨cw_all_g192, List.forall_mem_append.mpr ⟨cw_all_g216, List.forall_mem_append.mpr ⟨cw_all_g240, cw_all_g264⟩⟩⟩⟩⟩⟩⟩⟩⟩⟩⟩
  exact h j (by rw [show [0, 1, 2, 3, 4, 5, 6, 7, 8, 9, 10, 11, 12, 13, 14, 15, 16, 17, 18, 19, 20, 21, 22, 23] ++ ([24, 25, 26, 27, 28, 29, 30, 31, 32, 33, 34, 35, 36, 37, 38, 39, 40, 41, 42, 43, 44, 45, 46, 47] ++ ([48, 49, 50, 51, 52, 53, 54, 55, 56, 57, 58, 59, 60, 61, 62, 63, 64, 65, 66, 67, 68, 69, 70, 71] ++ ([72, 73, 74, 75, 76, 77, 78, 79, 80, 81, 82, 83, 84, 85, 86, 87, 88, 89, 90, 91, 92, 93, 94, 95] ++ ([96, 97, 98, 99, 100, 101, 102, 103, 104, 105, 106, 107, 108, 109, 110, 111, 112, 113, 114, 115, 116, 117, 118, 119] ++ ([120, 121, 122, 123, 124, 125, 126, 127, 128, 129, 130, 131, 132, 133, 134, 135, 136, 137, 138, 139, 140, 141, 142, 143] ++ ([144, 145, 146, 147, 148, 149, 150, 151, 152, 153, 154, 155, 156, 157, 158, 159, 160, 161, 162, 163, 164, 165, 166, 167] ++ ([168, 169, 170, 171, 172, 173, 174, 175, 176, 177, 178, 179, 180, 181, 182, 183, 184, 185, 186, 187, 188, 189, 190, 191] ++ ([192, 193, 194, 195, 196, 197, 198, 199, 200, 201, 202, 203, 204, 205, 206, 207, 208, 209, 210, 211, 212, 213, 214, 215] ++ ([216, 217, 218, 219, 220, 221, 222, 223, 224, 225, 226, 227, 228, 229, 230, 231, 232, 233, 234, 235, 236, 237, 238, 239] ++ ([240, 241, 242, 243, 244, 245, 246, 247, 248, 249, 250, 251, 252, 253, 254, 255, 256, 257, 258, 259, 260, 261, 262, 263] ++ ([264, 265, 266, 267, 268, 269, 270]))))))))))) = List.range 271 from by decide +kernel]; exact List.mem_range.mpr hj)
end
section
theorem jc_0 : jchk 0 = true := by decide +kernel
theorem jc_1 : jchk 1 = true := by decide +kernel
theorem jc_2 : jchk 2 = true := by decide +kernel
theorem jc_3 : jchk 3 = true := by decide +kernel
theorem jc_4 : jchk 4 = true := by decide +kernel
theorem jc_5 : jchk 5 = true := by decide +kernel
theorem jc_6 : jchk 6 = true := by decide +kernel
theorem jc_7 : jchk 7 = true := by decide +kernel
theorem jc_8 : jchk 8 = true := by decide +kernel
theorem jc_9 : jchk 9 = true := by decide +kernel
theorem jc_10 : jchk 10 = true := by decide +kernel
theorem jc_11 : jchk 11 = true := by decide +kernel
theorem jc_12 : jchk 12 = true := by decide +kernel
theorem jc_13 : jchk 13 = true := by decide +kernel
theorem jc_14 : jchk 14 = true := by decide +kernel
theorem jc_15 : jchk 15 = true := by decide +kernel
theorem jc_16 : jchk 16 = true := by decide +kernel
theorem jc_17 : jchk 17 = true := by decide +kernel
theorem jc_18 : jchk 18 = true := by decide +kernel
theorem jc_19 : jchk 19 = true := by decide +kernel
theorem jc_20 : jchk 20 = true := by decide +kernel
theorem jc_21 : jchk 21 = true := by decide +kernel
theorem jc_22 : jchk 22 = true := by decide +kernel
theorem jc_23 : jchk 23 = true := by decide +kernel
theorem jc_24 : jchk 24 = true := by decide +kernel
theorem jc_25 : jchk 25 = true := by decide +kernel
theorem jc_26 : jchk 26 = true := by decide +kernel
theorem jc_27 : jchk 27 = true := by decide +kernel
theorem jc_28 : jchk 28 = true := by decide +kernel
theorem jc_29 : jchk 29 = true := by decide +kernel
theorem jc_30 : jchk 30 = true := by decide +kernel
theorem jc_31 : jchk 31 = true := by decide +kernel
theorem jc_32 : jchk 32 = true := by decide +kernel
theorem jc_33 : jchk 33 = true := by decide +kernel
theorem jc_34 : jchk 34 = true := by decide +kernel
theorem jc_35 : jchk 35 = true := by decide +kernel
theorem jc_36 : jchk 36 = true := by decide +kernel
theorem jc_37 : jchk 37 = true := by decide +kernel
theorem jc_38 : jchk 38 = true := by decide +kernel
theorem jc_39 : jchk 39 = true := by decide +kernel
theorem jc_40 : jchk 40 = true := by decide +kernel
theorem jc_41 : jchk 41 = true := by decide +kernel
theorem jc_42 : jchk 42 = true := by decide +kernel
theorem jc_43 : jchk 43 = true := by decide +kernel
theorem jc_44 : jchk 44 = true := by decide +kernel
theorem jc_45 : jchk 45 = true := by decide +kernel
theorem jc_46 : jchk 46 = true := by decide +kernel
theorem jc_47 : jchk 47 = true := by decide +kernel
theorem jc_48 : jchk 48 = true := by decide +kernel
theorem jc_49 : jchk 49 = true := by decide +kernel
theorem jc_50 : jchk 50 = true := by decide +kernel
theorem jc_51 : jchk 51 = true := by decide +kernel
theorem jc_52 : jchk 52 = true := by decide +kernel
theorem jc_53 : jchk 53 = true := by decide +kernel
theorem jc_54 : jchk 54 = true := by decide +kernel
theorem jc_55 : jchk 55 = true := by decide +kernel
theorem jc_56 : jchk 56 = true := by decide +kernel
theorem jc_57 : jchk 57 = true := by decide +kernel
theorem jc_58 : jchk 58 = true := by decide +kernel
theorem jc_59 : jchk 59 = true := by decide +kernel
theorem jc_60 : jchk 60 = true := by decide +kernel
theorem jc_61 : jchk 61 = true := by decide +kernel
theorem jc_62 : jchk 62 = true := by decide +kernel
theorem jc_63 : jchk 63 = true := by decide +kernel
theorem jc_64 : jchk 64 = true := by decide +kernel
theorem jc_65 : jchk 65 = true := by decide +kernel
theorem jc_66 : jchk 66 = true := by decide +kernel
theorem jc_67 : jchk 67 = true := by decide +kernel
theorem jc_68 : jchk 68 = true := by decide +kernel
theorem jc_69 : jchk 69 = true := by decide +kernel
theorem jc_70 : jchk 70 = true := by decide +kernel
theorem jc_71 : jchk 71 = true := by decide +kernel
theorem jc_72 : jchk 72 = true := by decide +kernel
theorem jc_73 : jchk 73 = true := by decide +kernel
theorem jc_74 : jchk 74 = true := by decide +kernel
theorem jc_75 : jchk 75 = true := by decide +kernel
theorem jc_76 : jchk 76 = true := by decide +kernel
theorem jc_77 : jchk 77 = true := by decide +kernel
theorem jc_78 : jchk 78 = true := by decide +kernel
theorem jc_79 : jchk 79 = true := by decide +kernel
theorem jc_80 : jchk 80 = true := by decide +kernel
theorem jc_81 : jchk 81 = true := by decide +kernel
theorem jc_82 : jchk 82 = true := by decide +kernel
theorem jc_83 : jchk 83 = true := by decide +kernel
theorem jc_84 : jchk 84 = true := by decide +kernel
theorem jc_85 : jchk 85 = true := by decide +kernel
theorem jc_86 : jchk 86 = true := by decide +kernel
theorem jc_87 : jchk 87 = true := by decide +kernel
theorem jc_88 : jchk 88 = true := by decide +kernel
theorem jc_89 : jchk 89 = true := by decide +kernel
theorem jc_90 : jchk 90 = true := by decide +kernel
theorem jc_91 : jchk 91 = true := by decide +kernel
theorem jc_92 : jchk 92 = true := by decide +kernel
theorem jc_93 : jchk 93 = true := by decide +kernel
theorem jc_94 : jchk 94 = true := by decide +kernel
theorem jc_95 : jchk 95 = true := by decide +kernel
theorem jc_96 : jchk 96 = true := by decide +kernel
theorem jc_97 : jchk 97 = true := by decide +kernel
theorem jc_98 : jchk 98 = true := by decide +kernel
theorem jc_99 : jchk 99 = true := by decide +kernel
theorem jc_100 : jchk 100 = true := by decide +kernel
theorem jc_101 : jchk 101 = true := by decide +kernel
theorem jc_102 : jchk 102 = true := by decide +kernel
theorem jc_103 : jchk 103 = true := by decide +kernel
theorem jc_104 : jchk 104 = true := by decide +kernel
theorem jc_105 : jchk 105 = true := by decide +kernel
theorem jc_106 : jchk 106 = true := by decide +kernel
theorem jc_107 : jchk 107 = true := by decide +kernel
theorem jc_108 : jchk 108 = true := by decide +kernel
theorem jc_109 : jchk 109 = true := by decide +kernel
theorem jc_110 : jchk 110 = true := by decide +kernel
theorem jc_111 : jchk 111 = true := by decide +kernel
theorem jc_112 : jchk 112 = true := by decide +kernel
theorem jc_113 : jchk 113 = true := by decide +kernel
theorem jc_114 : jchk 114 = true := by decide +kernel
theorem jc_115 : jchk 115 = true := by decide +kernel
theorem jc_116 : jchk 116 = true := by decide +kernel
theorem jc_117 : jchk 117 = true := by decide +kernel
theorem jc_118 : jchk 118 = true := by decide +kernel
theorem jc_119 : jchk 119 = true := by decide +kernel
theorem jc_120 : jchk 120 = true := by decide +kernel
theorem jc_121 : jchk 121 = true := by decide +kernel
theorem jc_122 : jchk 122 = true := by decide +kernel
theorem jc_123 : jchk 123 = true := by decide +kernel
theorem jc_124 : jchk 124 = true := by decide +kernel
theorem jc_125 : jchk 125 = true := by decide +kernel
theorem jc_126 : jchk 126 = true := by decide +kernel
theorem jc_127 : jchk 127 = true := by decide +kernel
theorem jc_128 : jchk 128 = true := by decide +kernel
theorem jc_129 : jchk 129 = true := by decide +kernel
theorem jc_130 : jchk 130 = true := by decide +kernel
theorem jc_131 : jchk 131 = true := by decide +kernel
theorem jc_132 : jchk 132 = true := by decide +kernel
theorem jc_133 : jchk 133 = true := by decide +kernel
theorem jc_134 : jchk 134 = true := by decide +kernel
theorem jc_135 : jchk 135 = true := by decide +kernel
theorem jc_136 : jchk 136 = true := by decide +kernel
theorem jc_137 : jchk 137 = true := by decide +kernel
theorem jc_138 : jchk 138 = true := by decide +kernel
theorem jc_139 : jchk 139 = true := by decide +kernel
theorem jc_140 : jchk 140 = true := by decide +kernel
theorem jc_141 : jchk 141 = true := by decide +kernel
theorem jc_142 : jchk 142 = true := by decide +kernel
theorem jc_143 : jchk 143 = true := by decide +kernel
theorem jc_144 : jchk 144 = true := by decide +kernel
theorem jc_145 : jchk 145 = true := by decide +kernel
theorem jc_146 : jchk 146 = true := by decide +kernel
theorem jc_147 : jchk 147 = true := by decide +kernel
theorem jc_148 : jchk 148 = true := by decide +kernel
theorem jc_149 : jchk 149 = true := by decide +kernel
theorem jc_150 : jchk 150 = true := by decide +kernel
theorem jc_151 : jchk 151 = true := by decide +kernel
theorem jc_152 : jchk 152 = true := by decide +kernel
theorem jc_153 : jchk 153 = true := by decide +kernel
theorem jc_154 : jchk 154 = true := by decide +kernel
theorem jc_155 : jchk 155 = true := by decide +kernel
theorem jc_156 : jchk 156 = true := by decide +kernel
theorem jc_157 : jchk 157 = true := by decide +kernel
theorem jc_158 : jchk 158 = true := by decide +kernel
theorem jc_159 : jchk 159 = true := by decide +kernel
theorem jc_160 : jchk 160 = true := by decide +kernel
theorem jc_161 : jchk 161 = true := by decide +kernel
theorem jc_162 : jchk 162 = true := by decide +kernel
theorem jc_163 : jchk 163 = true := by decide +kernel
theorem jc_164 : jchk 164 = true := by decide +kernel
theorem jc_165 : jchk 165 = true := by decide +kernel
theorem jc_166 : jchk 166 = true := by decide +kernel
theorem jc_167 : jchk 167 = true := by decide +kernel
theorem jc_168 : jchk 168 = true := by decide +kernel
theorem jc_169 : jchk 169 = true := by decide +kernel
theorem jc_170 : jchk 170 = true := by decide +kernel
theorem jc_171 : jchk 171 = true := by decide +kernel
theorem jc_172 : jchk 172 = true := by decide +kernel
theorem jc_173 : jchk 173 = true := by decide +kernel
theorem jc_174 : jchk 174 = true := by decide +kernel
theorem jc_175 : jchk 175 = true := by decide +kernel
theorem jc_176 : jchk 176 = true := by decide +kernel
theorem jc_177 : jchk 177 = true := by decide +kernel
theorem jc_178 : jchk 178 = true := by decide +kernel
theorem jc_179 : jchk 179 = true := by decide +kernel
theorem jc_180 : jchk 180 = true := by decide +kernel
theorem jc_181 : jchk 181 = true := by decide +kernel
theorem jc_182 : jchk 182 = true := by decide +kernel
theorem jc_183 : jchk 183 = true := by decide +kernel
theorem jc_184 : jchk 184 = true := by decide +kernel
theorem jc_185 : jchk 185 = true := by decide +kernel
theorem jc_186 : jchk 186 = true := by decide +kernel
theorem jc_187 : jchk 187 = true := by decide +kernel
theorem jc_188 : jchk 188 = true := by decide +kernel
theorem jc_189 : jchk 189 = true := by decide +kernel
theorem jc_190 : jchk 190 = true := by decide +kernel
theorem jc_191 : jchk 191 = true := by decide +kernel
theorem jc_192 : jchk 192 = true := by decide +kernel
theorem jc_193 : jchk 193 = true := by decide +kernel
theorem jc_194 : jchk 194 = true := by decide +kernel
theorem jc_195 : jchk 195 = true := by decide +kernel
theorem jc_196 : jchk 196 = true := by decide +kernel
theorem jc_197 : jchk 197 = true := by decide +kernel
theorem jc_198 : jchk 198 = true := by decide +kernel
theorem jc_199 : jchk 199 = true := by decide +kernel
theorem jc_200 : jchk 200 = true := by decide +kernel
theorem jc_201 : jchk 201 = true := by decide +kernel
theorem jc_202 : jchk 202 = true := by decide +kernel
theorem jc_203 : jchk 203 = true := by decide +kernel
theorem jc_204 : jchk 204 = true := by decide +kernel
theorem jc_205 : jchk 205 = true := by decide +kernel
theorem jc_206 : jchk 206 = true := by decide +kernel
theorem jc_207 : jchk 207 = true := by decide +kernel
theorem jc_208 : jchk 208 = true := by decide +kernel
theorem jc_209 : jchk 209 = true := by decide +kernel
theorem jc_210 : jchk 210 = true := by decide +kernel
theorem jc_211 : jchk 211 = true := by decide +kernel
theorem jc_212 : jchk 212 = true := by decide +kernel
theorem jc_213 : jchk 213 = true := by decide +kernel
theorem jc_214 : jchk 214 = true := by decide +kernel
theorem jc_215 : jchk 215 = true := by decide +kernel
theorem jc_216 : jchk 216 = true := by decide +kernel
theorem jc_217 : jchk 217 = true := by decide +kernel
theorem jc_218 : jchk 218 = true := by decide +kernel
theorem jc_219 : jchk 219 = true := by decide +kernel
theorem jc_220 : jchk 220 = true := by decide +kernel
theorem jc_221 : jchk 221 = true := by decide +kernel
theorem jc_222 : jchk 222 = true := by decide +kernel
theorem jc_223 : jchk 223 = true := by decide +kernel
theorem jc_224 : jchk 224 = true := by decide +kernel
theorem jc_225 : jchk 225 = true := by decide +kernel
theorem jc_226 : jchk 226 = true := by decide +kernel
theorem jc_227 : jchk 227 = true := by decide +kernel
theorem jc_228 : jchk 228 = true := by decide +kernel
theorem jc_229 : jchk 229 = true := by decide +kernel
theorem jc_230 : jchk 230 = true := by decide +kernel
theorem jc_231 : jchk 231 = true := by decide +kernel
theorem jc_232 : jchk 232 = true := by decide +kernel
theorem jc_233 : jchk 233 = true := by decide +kernel
theorem jc_234 : jchk 234 = true := by decide +kernel
theorem jc_235 : jchk 235 = true := by decide +kernel
theorem jc_236 : jchk 236 = true := by decide +kernel
theorem jc_237 : jchk 237 = true := by decide +kernel
theorem jc_238 : jchk 238 = true := by decide +kernel
theorem jc_239 : jchk 239 = true := by decide +kernel
theorem jc_240 : jchk 240 = true := by decide +kernel
theorem jc_241 : jchk 241 = true := by decide +kernel
theorem jc_242 : jchk 242 = true := by decide +kernel
theorem jc_243 : jchk 243 = true := by decide +kernel
theorem jc_244 : jchk 244 = true := by decide +kernel
theorem jc_245 : jchk 245 = true := by decide +kernel
theorem jc_246 : jchk 246 = true := by decide +kernel
theorem jc_247 : jchk 247 = true := by decide +kernel
theorem jc_248 : jchk 248 = true := by decide +kernel
theorem jc_249 : jchk 249 = true := by decide +kernel
theorem jc_250 : jchk 250 = true := by decide +kernel
theorem jc_251 : jchk 251 = true := by decide +kernel
theorem jc_252 : jchk 252 = true := by decide +kernel
theorem jc_253 : jchk 253 = true := by decide +kernel
theorem jc_254 : jchk 254 = true := by decide +kernel
theorem jc_255 : jchk 255 = true := by decide +kernel
theorem jc_256 : jchk 256 = true := by decide +kernel
theorem jc_257 : jchk 257 = true := by decide +kernel
theorem jc_258 : jchk 258 = true := by decide +kernel
theorem jc_259 : jchk 259 = true := by decide +kernel
theorem jc_260 : jchk 260 = true := by decide +kernel
theorem jc_261 : jchk 261 = true := by decide +kernel
theorem jc_262 : jchk 262 = true := by decide +kernel
theorem jc_263 : jchk 263 = true := by decide +kernel
theorem jc_264 : jchk 264 = true := by decide +kernel
theorem jc_265 : jchk 265 = true := by decide +kernel
theorem jc_266 : jchk 266 = true := by decide +kernel
theorem jc_267 : jchk 267 = true := by decide +kernel
theorem jc_268 : jchk 268 = true := by decide +kernel
theorem jc_269 : jchk 269 = true := by decide +kernel
theorem jc_270 : jchk 270 = true := by decide +kernel
theorem jc_all_g0 : ∀ j ∈ [0, 1, 2, 3, 4, 5, 6, 7, 8, 9, 10, 11, 12, 13, 14, 15, 16, 17, 18, 19, 20, 21, 22, 23], jchk j = true := List.forall_mem_cons.mpr ⟨jc_0, List.forall_mem_cons.mpr ⟨jc_1, List.forall_mem_cons.mpr ⟨jc_2, List.forall_mem_cons.mpr ⟨jc_3, List.forall_mem_cons.mpr ⟨jc_4, List.forall_mem_cons.mpr ⟨jc_5, List.forall_mem_cons.mpr ⟨jc_6, List.forall_mem_cons.mpr ⟨jc_7, List.forall_mem_cons.mpr ⟨jc_8, List.forall_mem_cons.mpr ⟨jc_9, List.forall_mem_cons.mpr ⟨jc_10, List.forall_mem_cons.mpr ⟨jc_11, List.forall_mem_cons.mpr ⟨jc_12, List.forall_mem_cons.mpr ⟨jc_13, List.forall_mem_cons.mpr ⟨jc_14, List.forall_mem_cons.mpr ⟨jc_15, List.forall_mem_cons.mpr ⟨jc_16, List.forall_mem_cons.mpr ⟨jc_17, List.forall_mem_cons.mpr ⟨jc_18, List.forall_mem_cons.mpr ⟨jc_19, List.forall_mem_cons.mpr ⟨jc_20, List.forall_mem_cons.mpr ⟨jc_21, List.forall_mem_cons.mpr ⟨jc_22, List.forall_mem_cons.mpr ⟨jc_23, fun _ h => absurd h List.not_mem_nil⟩⟩⟩⟩⟩⟩⟩⟩⟩⟩⟩⟩⟩⟩⟩⟩⟩⟩⟩⟩⟩⟩⟩⟩
theorem jc_all_g24 : ∀ j ∈ [24, 25, 26, 27, 28, 29, 30, 31, 32, 33, 34, 35, 36, 37, 38, 39, 40, 41, 42, 43, 44, 45, 46, 47], jchk j = true := List.forall_mem_cons.mpr ⟨jc_24, List.forall_mem_cons.mpr ⟨jc_25, List.forall_mem_cons.mpr ⟨jc_26, List.forall_mem_cons.mpr ⟨jc_27, List.forall_mem_cons.mpr ⟨jc_28, List.forall_mem_cons.mpr ⟨jc_29, List.forall_mem_cons.mpr ⟨jc_30, List.forall_mem_cons.mpr ⟨jc_31, List.forall_mem_cons.mpr ⟨jc_32, List.forall_mem_cons.mpr ⟨jc_33, List.forall_mem_cons.mpr ⟨jc_34, List.forall_mem_cons.mpr ⟨jc_35, List.forall_mem_cons.mpr ⟨jc_36, List.forall_mem_cons.mpr ⟨jc_37, List.forall_mem_cons.mpr ⟨jc_38, List.forall_mem_cons.mpr ⟨jc_39, List.forall_mem_cons.mpr ⟨jc_40, List.forall_mem_cons.mpr ⟨jc_41, List.forall_mem_cons.mpr ⟨jc_42, List.forall_mem_cons.mpr ⟨jc_43, List.forall_mem_cons.mpr ⟨jc_44, List.forall_mem_cons.mpr ⟨jc_45, List.forall_mem_cons.mpr ⟨jc_46, List.forall_mem_cons.mpr ⟨jc_47, fun _ h => absurd h List.not_mem_nil⟩⟩⟩⟩⟩⟩⟩⟩⟩⟩⟩⟩⟩⟩⟩⟩⟩⟩⟩⟩⟩⟩⟩⟩
theorem jc_all_g48 : ∀ j ∈ [48, 49, 50, 51, 52, 53, 54, 55, 56, 57, 58, 59, 60, 61, 62, 63, 64, 65, 66, 67, 68, 69, 70, 71], jchk j = true := List.forall_mem_cons.mpr ⟨jc_48, List.forall_mem_cons.mpr ⟨jc_49, List.forall_mem_cons.mpr ⟨jc_50, List.forall_mem_cons.mpr ⟨jc_51, List.forall_mem_cons.mpr ⟨jc_52, List.forall_mem_cons.mpr ⟨jc_53, List.forall_mem_cons.mpr ⟨jc_54, List.forall_mem_cons.mpr ⟨jc_55, List.forall_mem_cons.mpr ⟨jc_56, List.forall_mem_cons.mpr ⟨jc_57, List.forall_mem_cons.mpr ⟨jc_58, List.forall_mem_cons.mpr ⟨jc_59, List.forall_mem_cons.mpr ⟨jc_60, List.forall_mem_cons.mpr ⟨jc_61, List.forall_mem_cons.mpr ⟨jc_62, List.forall_mem_cons.mpr ⟨jc_63, List.forall_mem_cons.mpr ⟨jc_64, List.forall_mem_cons.mpr ⟨jc_65, List.forall_mem_cons.mpr ⟨jc_66, List.forall_mem_cons.mpr ⟨jc_67, List.forall_mem_cons.mpr ⟨jc_68, List.forall_mem_cons.mpr ⟨jc_69, List.forall_mem_cons.mpr ⟨jc_70, List.forall_mem_cons.mpr ⟨jc_71, fun _ h => absurd h List.not_mem_nil⟩⟩⟩⟩⟩⟩⟩⟩⟩⟩⟩⟩⟩⟩⟩⟩⟩⟩⟩⟩⟩⟩⟩⟩
theorem jc_all_g72 : ∀ j ∈ [72, 73, 74, 75, 76, 77, 78, 79, 80, 81, 82, 83, 84, 85, 86, 87, 88, 89, 90, 91, 92, 93, 94, 95], jchk j = true := List.forall_mem_cons.mpr ⟨jc_72, List.forall_mem_cons.mpr ⟨jc_73, List.forall_mem_cons.mpr ⟨jc_74, List.forall_mem_cons.mpr ⟨jc_75, List.forall_mem_cons.mpr ⟨jc_76, List.forall_mem_cons.mpr ⟨jc_77, List.forall_mem_cons.mpr ⟨jc_78, List.forall_mem_cons.mpr ⟨jc_79, List.forall_mem_cons.mpr ⟨jc_80, List.forall_mem_cons.mpr ⟨jc_81, List.forall_mem_cons.mpr ⟨jc_82, List.forall_mem_cons.mpr ⟨jc_83, List.forall_mem_cons.mpr ⟨jc_84, List.forall_mem_cons.mpr ⟨jc_85, List.forall_mem_cons.mpr ⟨jc_86, List.forall_mem_cons.mpr ⟨jc_87, List.forall_mem_cons.mpr ⟨jc_88, List.forall_mem_cons.mpr ⟨jc_89, List.forall_mem_cons.mpr ⟨jc_90, List.forall_mem_cons.mpr ⟨jc_91, List.forall_mem_cons.mpr ⟨jc_92, List.forall_mem_cons.mpr ⟨jc_93, List.forall_mem_cons.mpr ⟨jc_94, List.forall_mem_cons.mpr ⟨jc_95, fun _ h => absurd h List.not_mem_nil⟩⟩⟩⟩⟩⟩⟩⟩⟩⟩⟩⟩⟩⟩⟩⟩⟩⟩⟩⟩⟩⟩⟩⟩
theorem jc_all_g96 : ∀ j ∈ [96, 97, 98, 99, 100, 101, 102, 103, 104, 105, 106, 107, 108, 109, 110, 111, 112, 113, 114, 115, 116, 117, 118, 119], jchk j = true := List.forall_mem_cons.mpr ⟨jc_96, List.forall_mem_cons.mpr ⟨jc_97, List.forall_mem_cons.mpr ⟨jc_98, List.forall_mem_cons.mpr ⟨jc_99, List.forall_mem_cons.mpr ⟨jc_100, List.forall_mem_cons.mpr ⟨jc_101, List.forall_mem_cons.mpr ⟨jc_102, List.forall_mem_cons.mpr ⟨jc_103, List.forall_mem_cons.mpr ⟨jc_104, List.forall_mem_cons.mpr ⟨jc_105, List.forall_mem_cons.mpr ⟨jc_106, List.forall_mem_cons.mpr ⟨jc_107, List.forall_mem_cons.mpr ⟨jc_108, List.forall_mem_cons.mpr ⟨jc_109, List.forall_mem_cons.mpr ⟨jc_110, List.forall_mem_cons.mpr ⟨jc_111, List.forall_mem_cons.mpr ⟨jc_112, List.forall_mem_cons.mpr ⟨jc_113, List.forall_mem_cons.mpr ⟨jc_114, List.forall_mem_cons.mpr ⟨jc_115, List.forall_mem_cons.mpr ⟨jc_116, List.forall_mem_cons.mpr ⟨jc_117, List.forall_mem_cons.mpr ⟨jc_118, List.forall_mem_cons.mpr ⟨jc_119, fun _ h => absurd h List.not_mem_nil⟩⟩⟩⟩⟩⟩⟩⟩⟩⟩⟩⟩⟩⟩⟩⟩⟩⟩⟩⟩⟩⟩⟩⟩
theorem jc_all_g120 : ∀ j ∈ [120, 121, 122, 123, 124, 125, 126, 127, 128, 129, 130, 131, 132, 133, 134, 135, 136, 137, 138, 139, 140, 141, 142, 143], jchk j = true := List.forall_mem_cons.mpr ⟨jc_120, List.forall_mem_cons.mpr ⟨jc_121, List.forall_mem_cons.mpr ⟨jc_122, List.forall_mem_cons.mpr ⟨jc_123, List.forall_mem_cons.mpr ⟨jc_124, List.forall_mem_cons.mpr ⟨jc_125, List.forall_mem_cons.mpr ⟨jc_126, List.forall_mem_cons.mpr ⟨jc_127, List.forall_mem_cons.mpr ⟨jc_128, List.forall_mem_cons.mpr ⟨jc_129, List.forall_mem_cons.mpr ⟨jc_130, List.forall_mem_cons.mpr ⟨jc_131, List.forall_mem_cons.mpr ⟨jc_132, List.forall_mem_cons.mpr ⟨jc_133, List.forall_mem_cons.mpr ⟨jc_134, List.forall_mem_cons.mpr ⟨jc_135, List.forall_mem_cons.mpr ⟨jc_136, List.forall_mem_cons.mpr ⟨jc_137, List.forall_mem_cons.mpr ⟨jc_138, List.forall_mem_cons.mpr ⟨jc_139, List.forall_mem_cons.mpr ⟨jc_140, List.forall_mem_cons.mpr ⟨jc_141, List.forall_mem_cons.mpr ⟨jc_142, List.forall_mem_cons.mpr ⟨jc_143, fun _ h => absurd h List.not_mem_nil⟩⟩⟩⟩⟩⟩⟩⟩⟩⟩⟩⟩⟩⟩⟩⟩⟩⟩⟩⟩⟩⟩⟩⟩
theorem jc_all_g144 : ∀ j ∈ [144, 145, 146, 147, 148, 149, 150, 151, 152, 153, 154, 155, 156, 157, 158, 159, 160, 161, 162, 163, 164, 165, 166, 167], jchk j = true := List.forall_mem_cons.mpr ⟨jc_144, List.forall_mem_cons.mpr ⟨jc_145, List.forall_mem_cons.mpr ⟨jc_146, List.forall_mem_cons.mpr ⟨jc_147, List.forall_mem_cons.mpr ⟨jc_148, List.forall_mem_cons.mpr ⟨jc_149, List.forall_mem_cons.mpr ⟨jc_150, List.forall_mem_cons.mpr ⟨jc_151, List.forall_mem_cons.mpr ⟨jc_152, List.forall_mem_cons.mpr ⟨jc_153, List.forall_mem_cons.mpr ⟨jc_154, List.forall_mem_cons.mpr ⟨jc_155, List.forall_mem_cons.mpr ⟨jc_156, List.forall_mem_cons.mpr ⟨jc_157, List.forall_mem_cons.mpr ⟨jc_158, List.forall_mem_cons.mpr ⟨jc_159, List.forall_mem_cons.mpr ⟨jc_160, List.forall_mem_cons.mpr ⟨jc_161, List.forall_mem_cons.mpr ⟨jc_162, List.forall_mem_cons.mpr ⟨jc_163, List.forall_mem_cons.mpr ⟨jc_164, List.forall_mem_cons.mpr ⟨jc_165, List.forall_mem_cons.mpr ⟨jc_166, List.forall_mem_cons.mpr ⟨jc_167, fun _ h => absurd h List.not_mem_nil⟩⟩⟩⟩⟩⟩⟩⟩⟩⟩⟩⟩⟩⟩⟩⟩⟩⟩⟩⟩⟩⟩⟩⟩
theorem jc_all_g168 : ∀ j ∈ [168, 169, 170, 171, 172, 173, 174, 175, 176, 177, 178, 179, 180, 181, 182, 183, 184, 185, 186, 187, 188, 189, 190, 191], jchk j = true := List.forall_mem_cons.mpr ⟨jc_168, List.forall_mem_cons.mpr ⟨jc_169, List.forall_mem_cons.mpr ⟨jc_170, List.forall_mem_cons.mpr ⟨jc_171, List.forall_mem_cons.mpr ⟨jc_172, List.forall_mem_cons.mpr ⟨jc_173, List.forall_mem_cons.mpr ⟨jc_174, List.forall_mem_cons.mpr ⟨jc_175, List.forall_mem_cons.mpr ⟨jc_176, List.forall_mem_cons.mpr ⟨jc_177, List.forall_mem_cons.mpr ⟨jc_178, List.forall_mem_cons.mpr ⟨jc_179, List.forall_mem_cons.mpr ⟨jc_180, List.forall_mem_cons.mpr ⟨jc_181, List.forall_mem_cons.mpr ⟨jc_182, List.forall_mem_cons.mpr ⟨jc_183, List.forall_mem_cons.mpr ⟨jc_184, List.forall_mem_cons.mpr ⟨jc_185, List.forall_mem_cons.mpr ⟨jc_186, List.forall_mem_cons.mpr ⟨jc_187, List.forall_mem_cons.mpr ⟨jc_188, List.forall_mem_cons.mpr ⟨jc_189, List.forall_mem_cons.mpr ⟨jc_190, List.forall_mem_cons.mpr ⟨jc_191, fun _ h => absurd h List.not_mem_nil⟩⟩⟩⟩⟩⟩⟩⟩⟩⟩⟩⟩⟩⟩⟩⟩⟩⟩⟩⟩⟩⟩⟩⟩
theorem jc_all_g192 : ∀ j ∈ [192, 193, 194, 195, 196, 197, 198, 199, 200, 201, 202, 203, 204, 205, 206, 207, 208, 209, 210, 211, 212, 213, 214, 215], jchk j = true := List.forall_mem_cons.mpr ⟨jc_192, List.forall_mem_cons.mpr ⟨jc_193, List.forall_mem_cons.mpr ⟨jc_194, List.forall_mem_cons.mpr ⟨jc_195, List.forall_mem_cons.mpr ⟨jc_196, List.forall_mem_cons.mpr ⟨jc_197, List.forall_mem_cons.mpr ⟨jc_198, List.forall_mem_cons.mpr ⟨jc_199, List.forall_mem_cons.mpr ⟨jc_200, List.forall_mem_cons.mpr ⟨jc_201, List.forall_mem_cons.mpr ⟨jc_202, List.forall_mem_cons.mpr ⟨jc_203, List.forall_mem_cons.mpr ⟨jc_204, List.forall_mem_cons.mpr ⟨jc_205, List.forall_mem_cons.mpr ⟨jc_206, List.forall_mem_cons.mpr ⟨jc_207, List.forall_mem_cons.mpr ⟨jc_208, List.forall_mem_cons.mpr ⟨jc_209, List.forall_mem_cons.mpr ⟨jc_210, List.forall_mem_cons.mpr ⟨jc_211, List.forall_mem_cons.mpr ⟨jc_212, List.forall_mem_cons.mpr ⟨jc_213, List.forall_mem_cons.mpr ⟨jc_214, List.forall_mem_cons.mpr ⟨jc_215, fun _ h => absurd h List.not_mem_nil⟩⟩⟩⟩⟩⟩⟩⟩⟩⟩⟩⟩⟩⟩⟩⟩⟩⟩⟩⟩⟩⟩⟩⟩
theorem jc_all_g216 : ∀ j ∈ [216, 217, 218, 219, 220, 221, 222, 223, 224, 225, 226, 227, 228, 229, 230, 231, 232, 233, 234, 235, 236, 237, 238, 239], jchk j = true := List.forall_mem_cons.mpr ⟨jc_216, List.forall_mem_cons.mpr ⟨jc_217, List.forall_mem_cons.mpr ⟨jc_218, List.forall_mem_cons.mpr ⟨jc_219, List.forall_mem_cons.mpr ⟨jc_220, List.forall_mem_cons.mpr ⟨jc_221, List.forall_mem_cons.mpr ⟨jc_222, List.forall_mem_cons.mpr ⟨jc_223, List.forall_mem_cons.mpr ⟨jc_224, List.forall_mem_cons.mpr ⟨jc_225, List.forall_mem_cons.mpr ⟨jc_226, List.forall_mem_cons.mpr ⟨jc_227, List.forall_mem_cons.mpr ⟨jc_228, List.forall_mem_cons.mpr ⟨jc_229, List.forall_mem_cons.mpr ⟨jc_230, List.forall_mem_cons.mpr ⟨jc_231, List.forall_mem_cons.mpr ⟨jc_232, List.forall_mem_cons.mpr ⟨jc_233, List.forall_mem_cons.mpr ⟨jc_234, List.forall_mem_cons.mpr ⟨jc_235, List.forall_mem_cons.mpr ⟨jc_236, List.forall_mem_cons.mpr ⟨jc_237, List.forall_mem_cons.mpr ⟨jc_238, List.forall_mem_cons.mpr ⟨jc_239, fun _ h => absurd h List.not_mem_nil⟩⟩⟩⟩⟩⟩⟩⟩⟩⟩⟩⟩⟩⟩⟩⟩⟩⟩⟩⟩⟩⟩⟩⟩
theorem jc_all_g240 : ∀ j ∈ [240, 241, 242, 243, 244, 245, 246, 247, 248, 249, 250, 251, 252, 253, 254, 255, 256, 257, 258, 259, 260, 261, 262, 263], jchk j = true := List.forall_mem_cons.mpr ⟨jc_240, List.forall_mem_cons.mpr ⟨jc_241, List.forall_mem_cons.mpr ⟨jc_242, List.forall_mem_cons.mpr ⟨jc_243, List.forall_mem_cons.mpr ⟨jc_244, List.forall_mem_cons.mpr ⟨jc_245, List.forall_mem_cons.mpr ⟨jc_246, List.forall_mem_cons.mpr ⟨jc_247, List.forall_mem_cons.mpr ⟨jc_248, List.forall_mem_cons.mpr ⟨jc_249, List.forall_mem_cons.mpr ⟨jc_250, List.forall_mem_cons.mpr ⟨jc_251, List.forall_mem_cons.mpr ⟨jc_252, List.forall_mem_cons.mpr ⟨jc_253, List.forall_mem_cons.mpr ⟨jc_254, List.forall_mem_cons.mpr ⟨jc_255, List.forall_mem_cons.mpr ⟨jc_256, List.forall_mem_cons.mpr ⟨jc_257, List.forall_mem_cons.mpr ⟨jc_258, List.forall_mem_cons.mpr ⟨jc_259, List.forall_mem_cons.mpr ⟨jc_260, List.forall_mem_cons.mpr ⟨jc_261, List.forall_mem_cons.mpr ⟨jc_262, List.forall_mem_cons.mpr ⟨jc_263, fun _ h => absurd h List.not_mem_nil⟩⟩⟩⟩⟩⟩⟩⟩⟩⟩⟩⟩⟩⟩⟩⟩⟩⟩⟩⟩⟩⟩⟩⟩
theorem jc_all_g264 : ∀ j ∈ [264, 265, 266, 267, 268, 269, 270], jchk j = true := List.forall_mem_cons.mpr ⟨jc_264, List.forall_mem_cons.mpr ⟨jc_265, List.forall_mem_cons.mpr ⟨jc_266, List.forall_mem_cons.mpr ⟨jc_267, List.forall_mem_cons.mpr ⟨jc_268, List.forall_mem_cons.mpr ⟨jc_269, List.forall_mem_cons.mpr ⟨jc_270, fun _ h => absurd h List.not_mem_nil⟩⟩⟩⟩⟩⟩⟩
theorem jc_all {j : Nat} (hj : j < 271) : jchk j = true := by
  have h : ∀ j ∈ [0, 1, 2, 3, 4, 5, 6, 7, 8, 9, 10, 11, 12, 13, 14, 15, 16, 17, 18, 19, 20, 21, 22, 23] ++ ([24, 25, 26, 27, 28, 29, 30, 31, 32, 33, 34, 35, 36, 37, 38, 39, 40, 41, 42, 43, 44, 45, 46, 47] ++ ([48, 49, 50, 51, 52, 53, 54, 55, 56, 57, 58, 59, 60, 61, 62, 63, 64, 65, 66, 67, 68, 69, 70, 71] ++ ([72, 73, 74, 75, 76, 77, 78, 79, 80, 81, 82, 83, 84, 85, 86, 87, 88, 89, 90, 91, 92, 93, 94, 95] ++ ([96, 97, 98, 99, 100, 101, 102, 103, 104, 105, 106, 107, 108, 109, 110, 111, 112, 113, 114, 115, 116, 117, 118, 119] ++ ([120, 121, 122, 123, 124, 125, 126, 127, 128, 129, 130, 131, 132, 133, 134, 135, 136, 137, 138, 139, 140, 141, 142, 143] ++ ([144, 145, 146, 147, 148, 149, 150, 151, 152, 153, 154, 155, 156, 157, 158, 159, 160, 161, 162, 163, 164, 165, 166, 167] ++ ([168, 169, 170, 171, 172, 173, 174, 175, 176, 177, 178, 179, 180, 181, 182, 183, 184, 185, 186, 187, 188, 189, 190, 191] ++ ([192, 193, 194, 195, 196, 197, 198, 199, 200, 201, 202, 203, 204, 205, 206, 207, 208, 209, 210, 211, 212, 213, 214, 215] ++ ([216, 217, 218, 219, 220, 221, 222, 223, 224, 225, 226, 227, 228, 229, 230, 231, 232, 233, 234, 235, 236, 237, 238, 239] ++ ([240, 241, 242, 243, 244, 245, 246, 247, 248, 249, 250, 251, 252, 253, 254, 255, 256, 257, 258, 259, 260, 261, 262, 263] ++ ([264, 265, 266, 267, 268, 269, 270]))))))))))), jchk j = true := List.forall_mem_append.mpr ⟨jc_all_g0, List.forall_mem_append.mpr ⟨jc_all_g24, List.forall_mem_append.mpr ⟨jc_all_g48, List.forall_mem_append.mpr ⟨jc_all_g72, List.forall_mem_append.mpr ⟨jc_all_g96, List.forall_mem_append.mpr ⟨jc_all_g120, List.forall_mem_append.mpr ⟨jc_all_g144, List.forall_mem_append.mpr ⟨jc_all_g168, List.forall_mem_append.mpr ⟨jc_all_g192, List.forall_mem_append.mpr ⟨jc_all_g216, List.forall_mem_append.mpr ⟨jc_all_g240, jc_all_g264⟩⟩⟩⟩⟩⟩⟩⟩⟩⟩⟩
  exact h j (by rw [show [0, 1, 2, 3, 4, 5, 6, 7, 8, 9, 10, 11, 12, 13, 14, 15, 16, 17, 18, 19, 20, 21, 22, 23] ++ ([24, 25, 26, 27, 28, 29, 30, 31, 32, 33, 34, 35, 36, 37, 38, 39, 40, 41, 42, 43, 44, 45, 46, 47] ++ ([48, 49, 50, 51, 52, 53, 54, 55, 56, 57, 58, 59, 60, 61, 62, 63, 64, 65, 66, 67, 68, 69, 70, 71] ++ ([72, 73, 74, 75, 76, 77, 78, 79, 80, 81, 82, 83, 84, 85, 86, 87, 88, 89, 90, 91, 92, 93, 94, 95] ++ ([96, 97, 98, 99, 100, 101, 102, 103, 104, 105, 106, 107, 108, 109, 110, 111, 112, 113, 114, 115, 116, 117, 118, 119] ++ ([120, 121, 122, 123, 124, 125, 126, 127, 128, 129, 130, 131, 132, 133, 134, 135, 136, 137, 138, 139, 140, 141, 142, 143] ++ ([144, 145, 146, 147, 148, 149, 150, 151, 152, 153, 154, 155, 156, 157, 158, 159, 160, 161, 162, 163, 164, 165, 166, 167] ++ ([168, 169, 170, 171, 172, 173, 174, 175, 176, 177, 178, 179, 180, 181, 182, 183, 184, 185, 186, 187, 188, 189, 190, 191] ++ ([192, 193, 194, 195, 196, 197, 198, 199, 200, 201, 202, 203, 204, 205, 206, 207, 208, 209, 210, 211, 212, 213, 214, 215] ++ ([216, 217, 218, 219, 220, 221, 222, 223, 224, 225, 226, 227, 228, 229, 230, 231, 232, 233, 234, 235, 236, 237, 238, 239] ++ ([240, 241, 242, 243, 244, 245, 246, 247, 248, 249, 250, 251, 252, 253, 254, 255, 256, 257, 258, 259, 260, 261, 262, 263] ++ ([264, 265, 266, 267, 268, 269, 270]))))))))))) = List.range 271 from by decide +kernel]; exact List.mem_range.mpr hj)
end
section
set_option maxRecDepth 100000 in
theorem ck_0 : chkL 0 (cd 0) = true := by decide +kernel
set_option maxRecDepth 100000 in
theorem ck_1 : chkL 1 (cd 1) = true := by decide +kernel
set_option maxRecDepth 100000 in
theorem ck_2 : chkL 2 (cd 2) = true := by decide +kernel
set_option maxRecDepth 100000 in
theorem ck_3 : chkL 3 (cd 3) = true := by decide +kernel
set_option maxRecDepth 100000 in
theorem ck_4 : chkL 4 (cd 4) = true := by decide +kernel
set_option maxRecDepth 100000 in
theorem ck_5 : chkL 5 (cd 5) = true := by decide +kernel
set_option maxRecDepth 100000 in
theorem ck_6 : chkL 6 (cd 6) = true := by decide +kernel
set_option maxRecDepth 100000 in
theorem ck_7 : chkL 7 (cd 7) = true := by decide +kernel
set_option maxRecDepth 100000 in
theorem ck_8 : chkL 8 (cd 8) = true := by decide +kernel
set_option maxRecDepth 100000 in
theorem ck_9 : chkL 9 (cd 9) = true := by decide +kernel
set_option maxRecDepth 100000 in
theorem ck_10 : chkL 10 (cd 10) = true := by decide +kernel
set_option maxRecDepth 100000 in
theorem ck_11 : chkL 11 (cd 11) = true := by decide +kernel
set_option maxRecDepth 100000 in
theorem ck_12 : chkL 12 (cd 12) = true := by decide +kernel
set_option maxRecDepth 100000 in
theorem ck_13 : chkL 13 (cd 13) = true := by decide +kernel
set_option maxRecDepth 100000 in
theorem ck_14 : chkL 14 (cd 14) = true := by decide +kernel
set_option maxRecDepth 100000 in
theorem ck_15 : chkL 15 (cd 15) = true := by decide +kernel
set_option maxRecDepth 100000 in
theorem ck_16 : chkL 16 (cd 16) = true := by decide +kernel
set_option maxRecDepth 100000 in
theorem ck_17 : chkL 17 (cd 17) = true := by decide +kernel
set_option maxRecDepth 100000 in
theorem ck_18 : chkL 18 (cd 18) = true := by decide +kernel
set_option maxRecDepth 100000 in
theorem ck_19 : chkL 19 (cd 19) = true := by decide +kernel
set_option maxRecDepth 100000 in
theorem ck_20 : chkL 20 (cd 20) = true := by decide +kernel
set_option maxRecDepth 100000 in
theorem ck_21 : chkL 21 (cd 21) = true := by decide +kernel
set_option maxRecDepth 100000 in
theorem ck_22 : chkL 22 (cd 22) = true := by decide +kernel
set_option maxRecDepth 100000 in
theorem ck_23 : chkL 23 (cd 23) = true := by decide +kernel
set_option maxRecDepth 100000 in
theorem ck_24 : chkL 24 (cd 24) = true := by decide +kernel
set_option maxRecDepth 100000 in
theorem ck_25 : chkL 25 (cd 25) = true := by decide +kernel
set_option maxRecDepth 100000 in
theorem ck_26 : chkL 26 (cd 26) = true := by decide +kernel
set_option maxRecDepth 100000 in
theorem ck_27 : chkL 27 (cd 27) = true := by decide +kernel
set_option maxRecDepth 100000 in
theorem ck_28 : chkL 28 (cd 28) = true := by decide +kernel
set_option maxRecDepth 100000 in
theorem ck_29 : chkL 29 (cd 29) = true := by decide +kernel
set_option maxRecDepth 100000 in
theorem ck_30 : chkL 30 (cd 30) = true := by decide +kernel
set_option maxRecDepth 100000 in
theorem ck_31 : chkL 31 (cd 31) = true := by decide +kernel
set_option maxRecDepth 100000 in
theorem ck_32 : chkL 32 (cd 32) = true := by decide +kernel
set_option maxRecDepth 100000 in
theorem ck_33 : chkL 33 (cd 33) = true := by decide +kernel
set_option maxRecDepth 100000 in
theorem ck_34 : chkL 34 (cd 34) = true := by decide +kernel
set_option maxRecDepth 100000 in
theorem ck_35 : chkL 35 (cd 35) = true := by decide +kernel
set_option maxRecDepth 100000 in
theorem ck_36 : chkL 36 (cd 36) = true := by decide +kernel
set_option maxRecDepth 100000 in
theorem ck_37 : chkL 37 (cd 37) = true := by decide +kernel
set_option maxRecDepth 100000 in
theorem ck_38 : chkL 38 (cd 38) = true := by decide +kernel
set_option maxRecDepth 100000 in
theorem ck_39 : chkL 39 (cd 39) = true := by decide +kernel
set_option maxRecDepth 100000 in
theorem ck_40 : chkL 40 (cd 40) = true := by decide +kernel
set_option maxRecDepth 100000 in
theorem ck_41 : chkL 41 (cd 41) = true := by decide +kernel
set_option maxRecDepth 100000 in
theorem ck_42 : chkL 42 (cd 42) = true := by decide +kernel
set_option maxRecDepth 100000 in
theorem ck_43 : chkL 43 (cd 43) = true := by decide +kernel
set_option maxRecDepth 100000 in
theorem ck_44 : chkL 44 (cd 44) = true := by decide +kernel
set_option maxRecDepth 100000 in
theorem ck_45 : chkL 45 (cd 45) = true := by decide +kernel
set_option maxRecDepth 100000 in
theorem ck_46 : chkL 46 (cd 46) = true := by decide +kernel
set_option maxRecDepth 100000 in
theorem ck_47 : chkL 47 (cd 47) = true := by decide +kernel
set_option maxRecDepth 100000 in
theorem ck_48 : chkL 48 (cd 48) = true := by decide +kernel
set_option maxRecDepth 100000 in
theorem ck_49 : chkL 49 (cd 49) = true := by decide +kernel
set_option maxRecDepth 100000 in
theorem ck_50 : chkL 50 (cd 50) = true := by decide +kernel
set_option maxRecDepth 100000 in
theorem ck_51 : chkL 51 (cd 51) = true := by decide +kernel
set_option maxRecDepth 100000 in
theorem ck_52 : chkL 52 (cd 52) = true := by decide +kernel
set_option maxRecDepth 100000 in
theorem ck_53 : chkL 53 (cd 53) = true := by decide +kernel
set_option maxRecDepth 100000 in
theorem ck_54 : chkL 54 (cd 54) = true := by decide +kernel
set_option maxRecDepth 100000 in
theorem ck_55 : chkL 55 (cd 55) = true := by decide +kernel
set_option maxRecDepth 100000 in
theorem ck_56 : chkL 56 (cd 56) = true := by decide +kernel
set_option maxRecDepth 100000 in
theorem ck_57 : chkL 57 (cd 57) = true := by decide +kernel
set_option maxRecDepth 100000 in
theorem ck_58 : chkL 58 (cd 58) = true := by decide +kernel
set_option maxRecDepth 100000 in
theorem ck_59 : chkL 59 (cd 59) = true := by decide +kernel
set_option maxRecDepth 100000 in
theorem ck_60 : chkL 60 (cd 60) = true := by decide +kernel
set_option maxRecDepth 100000 in
theorem ck_61 : chkL 61 (cd 61) = true := by decide +kernel
set_option maxRecDepth 100000 in
theorem ck_62 : chkL 62 (cd 62) = true := by decide +kernel
set_option maxRecDepth 100000 in
theorem ck_63 : chkL 63 (cd 63) = true := by decide +kernel
set_option maxRecDepth 100000 in
theorem ck_64 : chkL 64 (cd 64) = true := by decide +kernel
set_option maxRecDepth 100000 in
theorem ck_65 : chkL 65 (cd 65) = true := by decide +kernel
set_option maxRecDepth 100000 in
theorem ck_66 : chkL 66 (cd 66) = true := by decide +kernel
set_option maxRecDepth 100000 in
theorem ck_67 : chkL 67 (cd 67) = true := by decide +kernel
set_option maxRecDepth 100000 in
theorem ck_68 : chkL 68 (cd 68) = true := by decide +kernel
set_option maxRecDepth 100000 in
theorem ck_69 : chkL 69 (cd 69) = true := by decide +kernel
set_option maxRecDepth 100000 in
theorem ck_70 : chkL 70 (cd 70) = true := by decide +kernel
set_option maxRecDepth 100000 in
theorem ck_71 : chkL 71 (cd 71) = true := by decide +kernel
set_option maxRecDepth 100000 in
theorem ck_72 : chkL 72 (cd 72) = true := by decide +kernel
set_option maxRecDepth 100000 in
theorem ck_73 : chkL 73 (cd 73) = true := by decide +kernel
set_option maxRecDepth 100000 in
theorem ck_74 : chkL 74 (cd 74) = true := by decide +kernel
set_option maxRecDepth 100000 in
theorem ck_75 : chkL 75 (cd 75) = true := by decide +kernel
set_option maxRecDepth 100000 in
theorem ck_76 : chkL 76 (cd 76) = true := by decide +kernel
set_option maxRecDepth 100000 in
theorem ck_77 : chkL 77 (cd 77) = true := by decide +kernel
set_option maxRecDepth 100000 in
theorem ck_78 : chkL 78 (cd 78) = true := by decide +kernel
set_option maxRecDepth 100000 in
theorem ck_79 : chkL 79 (cd 79) = true := by decide +kernel
set_option maxRecDepth 100000 in
theorem ck_80 : chkL 80 (cd 80) = true := by decide +kernel
set_option maxRecDepth 100000 in
theorem ck_81 : chkL 81 (cd 81) = true := by decide +kernel
set_option maxRecDepth 100000 in
theorem ck_82 : chkL 82 (cd 82) = true := by decide +kernel
set_option maxRecDepth 100000 in
theorem ck_83 : chkL 83 (cd 83) = true := by decide +kernel
set_option maxRecDepth 100000 in
theorem ck_84 : chkL 84 (cd 84) = true := by decide +kernel
set_option maxRecDepth 100000 in
theorem ck_85 : chkL 85 (cd 85) = true := by decide +kernel
set_option maxRecDepth 100000 in
theorem ck_86 : chkL 86 (cd 86) = true := by decide +kernel
set_option maxRecDepth 100000 in
theorem ck_87 : chkL 87 (cd 87) = true := by decide +kernel
set_option maxRecDepth 100000 in
theorem ck_88 : chkL 88 (cd 88) = true := by decide +kernel
set_option maxRecDepth 100000 in
theorem ck_89 : chkL 89 (cd 89) = true := by decide +kernel
set_option maxRecDepth 100000 in
theorem ck_90 : chkL 90 (cd 90) = true := by decide +kernel
set_option maxRecDepth 100000 in
theorem ck_91 : chkL 91 (cd 91) = true := by decide +kernel
set_option maxRecDepth 100000 in
theorem ck_92 : chkL 92 (cd 92) = true := by decide +kernel
set_option maxRecDepth 100000 in
theorem ck_93 : chkL 93 (cd 93) = true := by decide +kernel
set_option maxRecDepth 100000 in
theorem ck_94 : chkL 94 (cd 94) = true := by decide +kernel
set_option maxRecDepth 100000 in
theorem ck_95 : chkL 95 (cd 95) = true := by decide +kernel
set_option maxRecDepth 100000 in
theorem ck_96 : chkL 96 (cd 96) = true := by decide +kernel
set_option maxRecDepth 100000 in
theorem ck_97 : chkL 97 (cd 97) = true := by decide +kernel
set_option maxRecDepth 100000 in
theorem ck_98 : chkL 98 (cd 98) = true := by decide +kernel
set_option maxRecDepth 100000 in
theorem ck_99 : chkL 99 (cd 99) = true := by decide +kernel
set_option maxRecDepth 100000 in
theorem ck_100 : chkL 100 (cd 100) = true := by decide +kernel
set_option maxRecDepth 100000 in
theorem ck_101 : chkL 101 (cd 101) = true := by decide +kernel
set_option maxRecDepth 100000 in
theorem ck_102 : chkL 102 (cd 102) = true := by decide +kernel
set_option maxRecDepth 100000 in
theorem ck_103 : chkL 103 (cd 103) = true := by decide +kernel
set_option maxRecDepth 100000 in
theorem ck_104 : chkL 104 (cd 104) = true := by decide +kernel
set_option maxRecDepth 100000 in
theorem ck_105 : chkL 105 (cd 105) = true := by decide +kernel
set_option maxRecDepth 100000 in
theorem ck_106 : chkL 106 (cd 106) = true := by decide +kernel
set_option maxRecDepth 100000 in
theorem ck_107 : chkL 107 (cd 107) = true := by decide +kernel
set_option maxRecDepth 100000 in
theorem ck_108 : chkL 108 (cd 108) = true := by decide +kernel
set_option maxRecDepth 100000 in
theorem ck_109 : chkL 109 (cd 109) = true := by decide +kernel
set_option maxRecDepth 100000 in
theorem ck_110 : chkL 110 (cd 110) = true := by decide +kernel
set_option maxRecDepth 100000 in
theorem ck_111 : chkL 111 (cd 111) = true := by decide +kernel
set_option maxRecDepth 100000 in
theorem ck_112 : chkL 112 (cd 112) = true := by decide +kernel
set_option maxRecDepth 100000 in
theorem ck_113 : chkL 113 (cd 113) = true := by decide +kernel
set_option maxRecDepth 100000 in
theorem ck_114 : chkL 114 (cd 114) = true := by decide +kernel
set_option maxRecDepth 100000 in
theorem ck_115 : chkL 115 (cd 115) = true := by decide +kernel
set_option maxRecDepth 100000 in
theorem ck_116 : chkL 116 (cd 116) = true := by decide +kernel
set_option maxRecDepth 100000 in
theorem ck_117 : chkL 117 (cd 117) = true := by decide +kernel
set_option maxRecDepth 100000 in
theorem ck_118 : chkL 118 (cd 118) = true := by decide +kernel
set_option maxRecDepth 100000 in
theorem ck_119 : chkL 119 (cd 119) = true := by decide +kernel
set_option maxRecDepth 100000 in
theorem ck_120 : chkL 120 (cd 120) = true := by decide +kernel
set_option maxRecDepth 100000 in
theorem ck_121 : chkL 121 (cd 121) = true := by decide +kernel
set_option maxRecDepth 100000 in
theorem ck_122 : chkL 122 (cd 122) = true := by decide +kernel
set_option maxRecDepth 100000 in
theorem ck_123 : chkL 123 (cd 123) = true := by decide +kernel
set_option maxRecDepth 100000 in
theorem ck_124 : chkL 124 (cd 124) = true := by decide +kernel
set_option maxRecDepth 100000 in
theorem ck_125 : chkL 125 (cd 125) = true := by decide +kernel
set_option maxRecDepth 100000 in
theorem ck_126 : chkL 126 (cd 126) = true := by decide +kernel
set_option maxRecDepth 100000 in
theorem ck_127 : chkL 127 (cd 127) = true := by decide +kernel
set_option maxRecDepth 100000 in
theorem ck_128 : chkL 128 (cd 128) = true := by decide +kernel
set_option maxRecDepth 100000 in
theorem ck_129 : chkL 129 (cd 129) = true := by decide +kernel
set_option maxRecDepth 100000 in
theorem ck_130 : chkL 130 (cd 130) = true := by decide +kernel
set_option maxRecDepth 100000 in
theorem ck_131 : chkL 131 (cd 131) = true := by decide +kernel
set_option maxRecDepth 100000 in
theorem ck_132 : chkL 132 (cd 132) = true := by decide +kernel
set_option maxRecDepth 100000 in
theorem ck_133 : chkL 133 (cd 133) = true := by decide +kernel
set_option maxRecDepth 100000 in
theorem ck_134 : chkL 134 (cd 134) = true := by decide +kernel
set_option maxRecDepth 100000 in
theorem ck_135 : chkL 135 (cd 135) = true := by decide +kernel
set_option maxRecDepth 100000 in
theorem ck_136 : chkL 136 (cd 136) = true := by decide +kernel
set_option maxRecDepth 100000 in
theorem ck_137 : chkL 137 (cd 137) = true := by decide +kernel
set_option maxRecDepth 100000 in
theorem ck_138 : chkL 138 (cd 138) = true := by decide +kernel
set_option maxRecDepth 100000 in
theorem ck_139 : chkL 139 (cd 139) = true := by decide +kernel
set_option maxRecDepth 100000 in
theorem ck_140 : chkL 140 (cd 140) = true := by decide +kernel
set_option maxRecDepth 100000 in
theorem ck_141 : chkL 141 (cd 141) = true := by decide +kernel
set_option maxRecDepth 100000 in
theorem ck_142 : chkL 142 (cd 142) = true := by decide +kernel
set_option maxRecDepth 100000 in
theorem ck_143 : chkL 143 (cd 143) = true := by decide +kernel
set_option maxRecDepth 100000 in
theorem ck_144 : chkL 144 (cd 144) = true := by decide +kernel
set_option maxRecDepth 100000 in
theorem ck_145 : chkL 145 (cd 145) = true := by decide +kernel
set_option maxRecDepth 100000 in
theorem ck_146 : chkL 146 (cd 146) = true := by decide +kernel
set_option maxRecDepth 100000 in
theorem ck_147 : chkL 147 (cd 147) = true := by decide +kernel
set_option maxRecDepth 100000 in
theorem ck_148 : chkL 148 (cd 148) = true := by decide +kernel
set_option maxRecDepth 100000 in
theorem ck_149 : chkL 149 (cd 149) = true := by decide +kernel
set_option maxRecDepth 100000 in
theorem ck_150 : chkL 150 (cd 150) = true := by decide +kernel
set_option maxRecDepth 100000 in
theorem ck_151 : chkL 151 (cd 151) = true := by decide +kernel
set_option maxRecDepth 100000 in
theorem ck_152 : chkL 152 (cd 152) = true := by decide +kernel
set_option maxRecDepth 100000 in
theorem ck_153 : chkL 153 (cd 153) = true := by decide +kernel
set_option maxRecDepth 100000 in
theorem ck_154 : chkL 154 (cd 154) = true := by decide +kernel
set_option maxRecDepth 100000 in
theorem ck_155 : chkL 155 (cd 155) = true := by decide +kernel
set_option maxRecDepth 100000 in
theorem ck_156 : chkL 156 (cd 156) = true := by decide +kernel
set_option maxRecDepth 100000 in
theorem ck_157 : chkL 157 (cd 157) = true := by decide +kernel
set_option maxRecDepth 100000 in
theorem ck_158 : chkL 158 (cd 158) = true := by decide +kernel
set_option maxRecDepth 100000 in
theorem ck_159 : chkL 159 (cd 159) = true := by decide +kernel
set_option maxRecDepth 100000 in
theorem ck_160 : chkL 160 (cd 160) = true := by decide +kernel
set_option maxRecDepth 100000 in
theorem ck_161 : chkL 161 (cd 161) = true := by decide +kernel
set_option maxRecDepth 100000 in
theorem ck_162 : chkL 162 (cd 162) = true := by decide +kernel
set_option maxRecDepth 100000 in
theorem ck_163 : chkL 163 (cd 163) = true := by decide +kernel
set_option maxRecDepth 100000 in
theorem ck_164 : chkL 164 (cd 164) = true := by decide +kernel
set_option maxRecDepth 100000 in
theorem ck_165 : chkL 165 (cd 165) = true := by decide +kernel
set_option maxRecDepth 100000 in
theorem ck_166 : chkL 166 (cd 166) = true := by decide +kernel
set_option maxRecDepth 100000 in
theorem ck_167 : chkL 167 (cd 167) = true := by decide +kernel
set_option maxRecDepth 100000 in
theorem ck_168 : chkL 168 (cd 168) = true := by decide +kernel
set_option maxRecDepth 100000 in
theorem ck_169 : chkL 169 (cd 169) = true := by decide +kernel
set_option maxRecDepth 100000 in
theorem ck_170 : chkL 170 (cd 170) = true := by decide +kernel
set_option maxRecDepth 100000 in
theorem ck_171 : chkL 171 (cd 171) = true := by decide +kernel
set_option maxRecDepth 100000 in
theorem ck_172 : chkL 172 (cd 172) = true := by decide +kernel
set_option maxRecDepth 100000 in
theorem ck_173 : chkL 173 (cd 173) = true := by decide +kernel
set_option maxRecDepth 100000 in
theorem ck_174 : chkL 174 (cd 174) = true := by decide +kernel
set_option maxRecDepth 100000 in
theorem ck_175 : chkL 175 (cd 175) = true := by decide +kernel
set_option maxRecDepth 100000 in
theorem ck_176 : chkL 176 (cd 176) = true := by decide +kernel
set_option maxRecDepth 100000 in
theorem ck_177 : chkL 177 (cd 177) = true := by decide +kernel
set_option maxRecDepth 100000 in
theorem ck_178 : chkL 178 (cd 178) = true := by decide +kernel
set_option maxRecDepth 100000 in
theorem ck_179 : chkL 179 (cd 179) = true := by decide +kernel
set_option maxRecDepth 100000 in
theorem ck_180 : chkL 180 (cd 180) = true := by decide +kernel
set_option maxRecDepth 100000 in
theorem ck_181 : chkL 181 (cd 181) = true := by decide +kernel
set_option maxRecDepth 100000 in
theorem ck_182 : chkL 182 (cd 182) = true := by decide +kernel
set_option maxRecDepth 100000 in
theorem ck_183 : chkL 183 (cd 183) = true := by decide +kernel
set_option maxRecDepth 100000 in
theorem ck_184 : chkL 184 (cd 184) = true := by decide +kernel
set_option maxRecDepth 100000 in
theorem ck_185 : chkL 185 (cd 185) = true := by decide +kernel
set_option maxRecDepth 100000 in
theorem ck_186 : chkL 186 (cd 186) = true := by decide +kernel
set_option maxRecDepth 100000 in
theorem ck_187 : chkL 187 (cd 187) = true := by decide +kernel
set_option maxRecDepth 100000 in
theorem ck_188 : chkL 188 (cd 188) = true := by decide +kernel
set_option maxRecDepth 100000 in
theorem ck_189 : chkL 189 (cd 189) = true := by decide +kernel
set_option maxRecDepth 100000 in
theorem ck_190 : chkL 190 (cd 190) = true := by decide +kernel
set_option maxRecDepth 100000 in
theorem ck_191 : chkL 191 (cd 191) = true := by decide +kernel
set_option maxRecDepth 100000 in
theorem ck_192 : chkL 192 (cd 192) = true := by decide +kernel
set_option maxRecDepth 100000 in
theorem ck_193 : chkL 193 (cd 193) = true := by decide +kernel
set_option maxRecDepth 100000 in
theorem ck_194 : chkL 194 (cd 194) = true := by decide +kernel
set_option maxRecDepth 100000 in
theorem ck_195 : chkL 195 (cd 195) = true := by decide +kernel
set_option maxRecDepth 100000 in
theorem ck_196 : chkL 196 (cd 196) = true := by decide +kernel
set_option maxRecDepth 100000 in
theorem ck_197 : chkL 197 (cd 197) = true := by decide +kernel
set_option maxRecDepth 100000 in
theorem ck_198 : chkL 198 (cd 198) = true := by decide +kernel
set_option maxRecDepth 100000 in
theorem ck_199 : chkL 199 (cd 199) = true := by decide +kernel
set_option maxRecDepth 100000 in
theorem ck_200 : chkL 200 (cd 200) = true := by decide +kernel
set_option maxRecDepth 100000 in
theorem ck_201 : chkL 201 (cd 201) = true := by decide +kernel
set_option maxRecDepth 100000 in
theorem ck_202 : chkL 202 (cd 202) = true := by decide +kernel
set_option maxRecDepth 100000 in
theorem ck_203 : chkL 203 (cd 203) = true := by decide +kernel
set_option maxRecDepth 100000 in
theorem ck_204 : chkL 204 (cd 204) = true := by decide +kernel
set_option maxRecDepth 100000 in
theorem ck_205 : chkL 205 (cd 205) = true := by decide +kernel
set_option maxRecDepth 100000 in
theorem ck_206 : chkL 206 (cd 206) = true := by decide +kernel
set_option maxRecDepth 100000 in
theorem ck_207 : chkL 207 (cd 207) = true := by decide +kernel
set_option maxRecDepth 100000 in
theorem ck_208 : chkL 208 (cd 208) = true := by decide +kernel
set_option maxRecDepth 100000 in
theorem ck_209 : chkL 209 (cd 209) = true := by decide +kernel
set_option maxRecDepth 100000 in
theorem ck_210 : chkL 210 (cd 210) = true := by decide +kernel
set_option maxRecDepth 100000 in
theorem ck_211 : chkL 211 (cd 211) = true := by decide +kernel
set_option maxRecDepth 100000 in
theorem ck_212 : chkL 212 (cd 212) = true := by decide +kernel
set_option maxRecDepth 100000 in
theorem ck_213 : chkL 213 (cd 213) = true := by decide +kernel
set_option maxRecDepth 100000 in
theorem ck_214 : chkL 214 (cd 214) = true := by decide +kernel
set_option maxRecDepth 100000 in
theorem ck_215 : chkL 215 (cd 215) = true := by decide +kernel
set_option maxRecDepth 100000 in
theorem ck_216 : chkL 216 (cd 216) = true := by decide +kernel
set_option maxRecDepth 100000 in
theorem ck_217 : chkL 217 (cd 217) = true := by decide +kernel
set_option maxRecDepth 100000 in
theorem ck_218 : chkL 218 (cd 218) = true := by decide +kernel
set_option maxRecDepth 100000 in
theorem ck_219 : chkL 219 (cd 219) = true := by decide +kernel
set_option maxRecDepth 100000 in
theorem ck_220 : chkL 220 (cd 220) = true := by decide +kernel
set_option maxRecDepth 100000 in
theorem ck_221 : chkL 221 (cd 221) = true := by decide +kernel
set_option maxRecDepth 100000 in
theorem ck_222 : chkL 222 (cd 222) = true := by decide +kernel
set_option maxRecDepth 100000 in
theorem ck_223 : chkL 223 (cd 223) = true := by decide +kernel
set_option maxRecDepth 100000 in
theorem ck_224 : chkL 224 (cd 224) = true := by decide +kernel
set_option maxRecDepth 100000 in
theorem ck_225 : chkL 225 (cd 225) = true := by decide +kernel
set_option maxRecDepth 100000 in
theorem ck_226 : chkL 226 (cd 226) = true := by decide +kernel
set_option maxRecDepth 100000 in
theorem ck_227 : chkL 227 (cd 227) = true := by decide +kernel
set_option maxRecDepth 100000 in
theorem ck_228 : chkL 228 (cd 228) = true := by decide +kernel
set_option maxRecDepth 100000 in
theorem ck_229 : chkL 229 (cd 229) = true := by decide +kernel
set_option maxRecDepth 100000 in
theorem ck_230 : chkL 230 (cd 230) = true := by decide +kernel
set_option maxRecDepth 100000 in
theorem ck_231 : chkL 231 (cd 231) = true := by decide +kernel
set_option maxRecDepth 100000 in
theorem ck_232 : chkL 232 (cd 232) = true := by decide +kernel
set_option maxRecDepth 100000 in
theorem ck_233 : chkL 233 (cd 233) = true := by decide +kernel
set_option maxRecDepth 100000 in
theorem ck_234 : chkL 234 (cd 234) = true := by decide +kernel
set_option maxRecDepth 100000 in
theorem ck_235 : chkL 235 (cd 235) = true := by decide +kernel
set_option maxRecDepth 100000 in
theorem ck_236 : chkL 236 (cd 236) = true := by decide +kernel
set_option maxRecDepth 100000 in
theorem ck_237 : chkL 237 (cd 237) = true := by decide +kernel
set_option maxRecDepth 100000 in
theorem ck_238 : chkL 238 (cd 238) = true := by decide +kernel
set_option maxRecDepth 100000 in
theorem ck_239 : chkL 239 (cd 239) = true := by decide +kernel
set_option maxRecDepth 100000 in
theorem ck_240 : chkL 240 (cd 240) = true := by decide +kernel
set_option maxRecDepth 100000 in
theorem ck_241 : chkL 241 (cd 241) = true := by decide +kernel
set_option maxRecDepth 100000 in
theorem ck_242 : chkL 242 (cd 242) = true := by decide +kernel
set_option maxRecDepth 100000 in
theorem ck_243 : chkL 243 (cd 243) = true := by decide +kernel
set_option maxRecDepth 100000 in
theorem ck_244 : chkL 244 (cd 244) = true := by decide +kernel
set_option maxRecDepth 100000 in
theorem ck_245 : chkL 245 (cd 245) = true := by decide +kernel
set_option maxRecDepth 100000 in
theorem ck_246 : chkL 246 (cd 246) = true := by decide +kernel
set_option maxRecDepth 100000 in
theorem ck_247 : chkL 247 (cd 247) = true := by decide +kernel
set_option maxRecDepth 100000 in
theorem ck_248 : chkL 248 (cd 248) = true := by decide +kernel
set_option maxRecDepth 100000 in
theorem ck_249 : chkL 249 (cd 249) = true := by decide +kernel
set_option maxRecDepth 100000 in
theorem ck_250 : chkL 250 (cd 250) = true := by decide +kernel
set_option maxRecDepth 100000 in
theorem ck_251 : chkL 251 (cd 251) = true := by decide +kernel
set_option maxRecDepth 100000 in
theorem ck_252 : chkL 252 (cd 252) = true := by decide +kernel
set_option maxRecDepth 100000 in
theorem ck_253 : chkL 253 (cd 253) = true := by decide +kernel
set_option maxRecDepth 100000 in
theorem ck_254 : chkL 254 (cd 254) = true := by decide +kernel
set_option maxRecDepth 100000 in
theorem ck_255 : chkL 255 (cd 255) = true := by decide +kernel
set_option maxRecDepth 100000 in
theorem ck_256 : chkL 256 (cd 256) = true := by decide +kernel
set_option maxRecDepth 100000 in
theorem ck_257 : chkL 257 (cd 257) = true := by decide +kernel
set_option maxRecDepth 100000 in
theorem ck_258 : chkL 258 (cd 258) = true := by decide +kernel
set_option maxRecDepth 100000 in
theorem ck_259 : chkL 259 (cd 259) = true := by decide +kernel
set_option maxRecDepth 100000 in
theorem ck_260 : chkL 260 (cd 260) = true := by decide +kernel
set_option maxRecDepth 100000 in
theorem ck_261 : chkL 261 (cd 261) = true := by decide +kernel
set_option maxRecDepth 100000 in
theorem ck_262 : chkL 262 (cd 262) = true := by decide +kernel
set_option maxRecDepth 100000 in
theorem ck_263 : chkL 263 (cd 263) = true := by decide +kernel
set_option maxRecDepth 100000 in
theorem ck_264 : chkL 264 (cd 264) = true := by decide +kernel
set_option maxRecDepth 100000 in
theorem ck_265 : chkL 265 (cd 265) = true := by decide +kernel
set_option maxRecDepth 100000 in
theorem ck_266 : chkL 266 (cd 266) = true := by decide +kernel
set_option maxRecDepth 100000 in
theorem ck_267 : chkL 267 (cd 267) = true := by decide +kernel
set_option maxRecDepth 100000 in
theorem ck_268 : chkL 268 (cd 268) = true := by decide +kernel
set_option maxRecDepth 100000 in
theorem ck_269 : chkL 269 (cd 269) = true := by decide +kernel
set_option maxRecDepth 100000 in
theorem ck_270 : chkL 270 (cd 270) = true := by decide +kernel
theorem chkL_of {i : Nat} : ∀ {l : List RI}, l.all (chk1 i) = true → chN l = true → chkL i l = true
  | [], _, _ => rfl
  | x :: rs, h1, h2 => by
    unfold chN at h2
    rw [List.all_cons] at h1
    unfold chkL
    simp only [Bool.and_eq_true] at *
    exact ⟨⟨h1.1, h2.1⟩, chkL_of h1.2 h2.2⟩
theorem all_chunks {α : Type} {p : α → Bool} (m : Nat) : ∀ (n : Nat) {l : List α}, l.length ≤ m * n → (∀ k, k < n → ((l.drop (m * k)).take m).all p = true) → l.all p = true
  | 0, l, h, _ => by
    have : l = [] := List.length_eq_zero_iff.mp (by omega)
    rw [this]; rfl
  | n + 1, l, h, hk => by
    rw [← List.take_append_drop m l, List.all_append, Bool.and_eq_true]
    refine ⟨by have := hk 0 (by omega); simpa using this, all_chunks m n (by rw [List.length_drop]; rw [Nat.mul_succ] at h; omega) (fun k hk9 => ?_)⟩
    have := hk (k + 1) (by omega)
    rw [List.drop_drop, Nat.add_comm m, ← Nat.mul_succ]
    exact this
set_option maxRecDepth 100000 in
theorem lc_0 : (((cd 271).drop (40 * 0)).take 40).all (chk1 271) = true := by decide +kernel
set_option maxRecDepth 100000 in
theorem lc_1 : (((cd 271).drop (40 * 1)).take 40).all (chk1 271) = true := by decide +kernel
set_option maxRecDepth 100000 in
theorem lc_2 : (((cd 271).drop (40 * 2)).take 40).all (chk1 271) = true := by decide +kernel
set_option maxRecDepth 100000 in
theorem lc_3 : (((cd 271).drop (40 * 3)).take 40).all (chk1 271) = true := by decide +kernel
set_option maxRecDepth 100000 in
theorem lc_4 : (((cd 271).drop (40 * 4)).take 40).all (chk1 271) = true := by decide +kernel
set_option maxRecDepth 100000 in
theorem lc_5 : (((cd 271).drop (40 * 5)).take 40).all (chk1 271) = true := by decide +kernel
set_option maxRecDepth 100000 in
theorem lc_6 : (((cd 271).drop (40 * 6)).take 40).all (chk1 271) = true := by decide +kernel
set_option maxRecDepth 100000 in
theorem lc_7 : (((cd 271).drop (40 * 7)).take 40).all (chk1 271) = true := by decide +kernel
set_option maxRecDepth 100000 in
theorem lc_8 : (((cd 271).drop (40 * 8)).take 40).all (chk1 271) = true := by decide +kernel
set_option maxRecDepth 100000 in
theorem lc_9 : (((cd 271).drop (40 * 9)).take 40).all (chk1 271) = true := by decide +kernel
set_option maxRecDepth 100000 in
theorem lc_10 : (((cd 271).drop (40 * 10)).take 40).all (chk1 271) = true := by decide +kernel
set_option maxRecDepth 100000 in
theorem lc_11 : (((cd 271).drop (40 * 11)).take 40).all (chk1 271) = true := by decide +kernel
set_option maxRecDepth 100000 in
theorem lc_12 : (((cd 271).drop (40 * 12)).take 40).all (chk1 271) = true := by decide +kernel
set_option maxRecDepth 100000 in
theorem lc_13 : (((cd 271).drop (40 * 13)).take 40).all (chk1 271) = true := by decide +kernel
set_option maxRecDepth 100000 in
theorem lc_14 : (((cd 271).drop (40 * 14)).take 40).all (chk1 271) = true := by decide +kernel
set_option maxRecDepth 100000 in
theorem lc_15 : (((cd 271).drop (40 * 15)).take 40).all (chk1 271) = true := by decide +kernel
set_option maxRecDepth 100000 in
theorem lc_16 : (((cd 271).drop (40 * 16)).take 40).all (chk1 271) = true := by decide +kernel
set_option maxRecDepth 100000 in
theorem lc_17 : (((cd 271).drop (40 * 17)).take 40).all (chk1 271) = true := by decide +kernel
set_option maxRecDepth 100000 in
theorem lc_18 : (((cd 271).drop (40 * 18)).take 40).all (chk1 271) = true := by decide +kernel
set_option maxRecDepth 100000 in
theorem lc_19 : (((cd 271).drop (40 * 19)).take 40).all (chk1 271) = true := by decide +kernel
set_option maxRecDepth 100000 in
theorem lc_20 : (((cd 271).drop (40 * 20)).take 40).all (chk1 271) = true := by decide +kernel
set_option maxRecDepth 100000 in
theorem lc_21 : (((cd 271).drop (40 * 21)).take 40).all (chk1 271) = true := by decide +kernel
set_option maxRecDepth 100000 in
theorem lc_22 : (((cd 271).drop (40 * 22)).take 40).all (chk1 271) = true := by decide +kernel
set_option maxRecDepth 100000 in
theorem lc_23 : (((cd 271).drop (40 * 23)).take 40).all (chk1 271) = true := by decide +kernel
theorem ck_271 : chkL 271 (cd 271) = true := by
  refine chkL_of (all_chunks 40 24 (by decide +kernel) (fun k hk => ?_)) (by decide +kernel)
  have h : ∀ k ∈ [0, 1, 2, 3, 4, 5, 6, 7, 8, 9, 10, 11, 12, 13, 14, 15, 16, 17, 18, 19, 20, 21, 22, 23], (((cd 271).drop (40 * k)).take 40).all (chk1 271) = true := List.forall_mem_cons.mpr ⟨lc_0, List.forall_mem_cons.mpr ⟨lc_1, List.forall_mem_cons.mpr ⟨lc_2, List.forall_mem_cons.mpr ⟨lc_3, List.forall_mem_cons.mpr ⟨lc_4, List.forall_mem_cons.mpr ⟨lc_5, List.forall_mem_cons.mpr ⟨lc_6, List.forall_mem_cons.mpr ⟨lc_7, List.forall_mem_cons.mpr ⟨lc_8, List.forall_mem_cons.mpr ⟨lc_9, List.forall_mem_cons.mpr ⟨lc_10, List.forall_mem_cons.mpr ⟨lc_11, List.forall_mem_cons.mpr ⟨lc_12, List.forall_mem_cons.mpr ⟨lc_13, List.forall_mem_cons.mpr ⟨lc_14, List.forall_mem_cons.mpr ⟨lc_15, List.forall_mem_cons.mpr ⟨lc_16, List.forall_mem_cons.mpr ⟨lc_17, List.forall_mem_cons.mpr ⟨lc_18, List.forall_mem_cons.mpr ⟨lc_19, List.forall_mem_cons.mpr ⟨lc_20, List.forall_mem_cons.mpr ⟨lc_21, List.forall_mem_cons.mpr ⟨lc_22, List.forall_mem_cons.mpr ⟨lc_23, fun _ h => absurd h List.not_mem_nil⟩⟩⟩⟩⟩⟩⟩⟩⟩⟩⟩⟩⟩⟩⟩⟩⟩⟩⟩⟩⟩⟩⟩⟩
  exact h k (by rw [show [0, 1, 2, 3, 4, 5, 6, 7, 8, 9, 10, 11, 12, 13, 14, 15, 16, 17, 18, 19, 20, 21, 22, 23] = List.range 24 from by decide +kernel]; exact List.mem_range.mpr hk)
theorem ck_all_g0 : ∀ j ∈ [0, 1, 2, 3, 4, 5, 6, 7, 8, 9, 10, 11, 12, 13, 14, 15, 16, 17, 18, 19, 20, 21, 22, 23], chkL j (cd j) = true := List.forall_mem_cons.mpr ⟨ck_0, List.forall_mem_cons.mpr ⟨ck_1, List.forall_mem_cons.mpr ⟨ck_2, List.forall_mem_cons.mpr ⟨ck_3, List.forall_mem_cons.mpr ⟨ck_4, List.forall_mem_cons.mpr ⟨ck_5, List.forall_mem_cons.mpr ⟨ck_6, List.forall_mem_cons.mpr ⟨ck_7, List.forall_mem_cons.mpr ⟨ck_8, List.forall_mem_cons.mpr ⟨ck_9, List.forall_mem_cons.mpr ⟨ck_10, List.forall_mem_cons.mpr ⟨ck_11, List.forall_mem_cons.mpr ⟨ck_12, List.forall_mem_cons.mpr ⟨ck_13, List.forall_mem_cons.mpr ⟨ck_14, List.forall_mem_cons.mpr ⟨ck_15, List.forall_mem_cons.mpr ⟨ck_16, List.forall_mem_cons.mpr ⟨ck_17, List.forall_mem_cons.mpr ⟨ck_18, List.forall_mem_cons.mpr ⟨ck_19, List.forall_mem_cons.mpr ⟨ck_20, List.forall_mem_cons.mpr ⟨ck_21, List.forall_mem_cons.mpr ⟨ck_22, List.forall_mem_cons.mpr ⟨ck_23, fun _ h => absurd h List.not_mem_nil⟩⟩⟩⟩⟩⟩⟩⟩⟩⟩⟩⟩⟩⟩⟩⟩⟩⟩⟩⟩⟩⟩⟩⟩
theorem ck_all_g24 : ∀ j ∈ [24, 25, 26, 27, 28, 29, 30, 31, 32, 33, 34, 35, 36, 37, 38, 39, 40, 41, 42, 43, 44, 45, 46, 47], chkL j (cd j) = true := List.forall_mem_cons.mpr ⟨ck_24, List.forall_mem_cons.mpr ⟨ck_25, List.forall_mem_cons.mpr ⟨ck_26, List.forall_mem_cons.mpr ⟨ck_27, List.forall_mem_cons.mpr ⟨ck_28, List.forall_mem_cons.mpr ⟨ck_29, List.forall_mem_cons.mpr ⟨ck_30, List.forall_mem_cons.mpr ⟨ck_31, List.forall_mem_cons.mpr ⟨ck_32, List.forall_mem_cons.mpr ⟨ck_33, List.forall_mem_cons.mpr ⟨ck_34, List.forall_mem_cons.mpr ⟨ck_35, List.forall_mem_cons.mpr ⟨ck_36, List.forall_mem_cons.mpr ⟨ck_37, List.forall_mem_cons.mpr ⟨ck_38, List.forall_mem_cons.mpr ⟨ck_39, List.forall_mem_cons.mpr ⟨ck_40, List.forall_mem_cons.mpr ⟨ck_41, List.forall_mem_cons.mpr ⟨ck_42, List.forall_mem_cons.mpr ⟨ck_43, List.forall_mem_cons.mpr ⟨ck_44, List.forall_mem_cons.mpr ⟨ck_45, List.forall_mem_cons.mpr ⟨ck_46, List.forall_mem_cons.mpr ⟨ck_47, fun _ h => absurd h List.not_mem_nil⟩⟩⟩⟩⟩⟩⟩⟩⟩⟩⟩⟩⟩⟩⟩⟩⟩⟩⟩⟩⟩⟩⟩⟩
theorem ck_all_g48 : ∀ j ∈ [48, 49, 50, 51, 52, 53, 54, 55, 56, 57, 58, 59, 60, 61, 62, 63, 64, 65, 66, 67, 68, 69, 70, 71], chkL j (cd j) = true := List.forall_mem_cons.mpr ⟨ck_48, List.forall_mem_cons.mpr ⟨ck_49, List.forall_mem_cons.mpr ⟨ck_50, List.forall_mem_cons.mpr ⟨ck_51, List.forall_mem_cons.mpr ⟨ck_52, List.forall_mem_cons.mpr ⟨ck_53, List.forall_mem_cons.mpr ⟨ck_54, List.forall_mem_cons.mpr ⟨ck_55, List.forall_mem_cons.mpr ⟨ck_56, List.forall_mem_cons.mpr ⟨ck_57, List.forall_mem_cons.mpr ⟨ck_58, List.forall_mem_cons.mpr ⟨ck_59, List.forall_mem_cons.mpr ⟨ck_60, List.forall_mem_cons.mpr ⟨ck_61, List.forall_mem_cons.mpr ⟨ck_62, List.forall_mem_cons.mpr ⟨ck_63, List.forall_mem_cons.mpr ⟨ck_64, List.forall_mem_cons.mpr ⟨ck_65, List.forall_mem_cons.mpr ⟨ck_66, List.forall_mem_cons.mpr ⟨ck_67, List.forall_mem_cons.mpr ⟨ck_68, List.forall_mem_cons.mpr ⟨ck_69, List.forall_mem_cons.mpr ⟨ck_70, List.forall_mem_cons.mpr ⟨ck_71, fun _ h => absurd h List.not_mem_nil⟩⟩⟩⟩⟩⟩⟩⟩⟩⟩⟩⟩⟩⟩⟩⟩⟩⟩⟩⟩⟩⟩⟩⟩
theorem ck_all_g72 : ∀ j ∈ [72, 73, 74, 75, 76, 77, 78, 79, 80, 81, 82, 83, 84, 85, 86, 87, 88, 89, 90, 91, 92, 93, 94, 95], chkL j (cd j) = true := List.forall_mem_cons.mpr ⟨ck_72, List.forall_mem_cons.mpr ⟨ck_73, List.forall_mem_cons.mpr ⟨ck_74, List.forall_mem_cons.mpr ⟨ck_75, List.forall_mem_cons.mpr ⟨ck_76, List.forall_mem_cons.mpr ⟨ck_77, List.forall_mem_cons.mpr ⟨ck_78, List.forall_mem_cons.mpr ⟨ck_79, List.forall_mem_cons.mpr ⟨ck_80, List.forall_mem_cons.mpr ⟨ck_81, List.forall_mem_cons.mpr ⟨ck_82, List.forall_mem_cons.mpr ⟨ck_83, List.forall_mem_cons.mpr ⟨ck_84, List.forall_mem_cons.mpr ⟨ck_85, List.forall_mem_cons.mpr ⟨ck_86, List.forall_mem_cons.mpr ⟨ck_87, List.forall_mem_cons.mpr ⟨ck_88, List.forall_mem_cons.mpr ⟨ck_89, List.forall_mem_cons.mpr ⟨ck_90, List.forall_mem_cons.mpr ⟨ck_91, List.forall_mem_cons.mpr ⟨ck_92, List.forall_mem_cons.mpr ⟨ck_93, List.forall_mem_cons.mpr ⟨ck_94, List.forall_mem_cons.mpr ⟨ck_95, fun _ h => absurd h List.not_mem_nil⟩⟩⟩⟩⟩⟩⟩⟩⟩⟩⟩⟩⟩⟩⟩⟩⟩⟩⟩⟩⟩⟩⟩⟩
theorem ck_all_g96 : ∀ j ∈ [96, 97, 98, 99, 100, 101, 102, 103, 104, 105, 106, 107, 108, 109, 110, 111, 112, 113, 114, 115, 116, 117, 118, 119], chkL j (cd j) = true := List.forall_mem_cons.mpr ⟨ck_96, List.forall_mem_cons.mpr ⟨ck_97, List.forall_mem_cons.mpr ⟨ck_98, List.forall_mem_cons.mpr ⟨ck_99, List.forall_mem_cons.mpr ⟨ck_100, List.forall_mem_cons.mpr ⟨ck_101, List.forall_mem_cons.mpr ⟨ck_102, List.forall_mem_cons.mpr ⟨ck_103, List.forall_mem_cons.mpr ⟨ck_104, List.forall_mem_cons.mpr ⟨ck_105, List.forall_mem_cons.mpr ⟨ck_106, List.forall_mem_cons.mpr ⟨ck_107, List.forall_mem_cons.mpr ⟨ck_108, List.forall_mem_cons.mpr ⟨ck_109, List.forall_mem_cons.mpr ⟨ck_110, List.forall_mem_cons.mpr ⟨ck_111, List.forall_mem_cons.mpr ⟨ck_112, List.forall_mem_cons.mpr ⟨ck_113, List.forall_mem_cons.mpr ⟨ck_114, List.forall_mem_cons.mpr ⟨ck_115, List.forall_mem_cons.mpr ⟨ck_116, List.forall_mem_cons.mpr ⟨ck_117, List.forall_mem_cons.mpr ⟨ck_118, List.forall_mem_cons.mpr ⟨ck_119, fun _ h => absurd h List.not_mem_nil⟩⟩⟩⟩⟩⟩⟩⟩⟩⟩⟩⟩⟩⟩⟩⟩⟩⟩⟩⟩⟩⟩⟩⟩
theorem ck_all_g120 : ∀ j ∈ [120, 121, 122, 123, 124, 125, 126, 127, 128, 129, 130, 131, 132, 133, 134, 135, 136, 137, 138, 139, 140, 141, 142, 143], chkL j (cd j) = true := List.forall_mem_cons.mpr ⟨ck_120, List.forall_mem_cons.mpr ⟨ck_121, List.forall_mem_cons.mpr ⟨ck_122, List.forall_mem_cons.mpr ⟨ck_123, List.forall_mem_cons.mpr ⟨ck_124, List.forall_mem_cons.mpr ⟨ck_125, List.forall_mem_cons.mpr ⟨ck_126, List.forall_mem_cons.mpr ⟨ck_127, List.forall_mem_cons.mpr ⟨ck_128, List.forall_mem_cons.mpr ⟨ck_129, List.forall_mem_cons.mpr ⟨ck_130, List.forall_mem_cons.mpr ⟨ck_131, List.forall_mem_cons.mpr ⟨ck_132, List.forall_mem_cons.mpr ⟨ck_133, List.forall_mem_cons.mpr ⟨ck_134, List.forall_mem_cons.mpr ⟨ck_135, List.forall_mem_cons.mpr ⟨ck_136, List.forall_mem_cons.mpr ⟨ck_137, List.forall_mem_cons.mpr ⟨ck_138, List.forall_mem_cons.mpr ⟨ck_139, List.forall_mem_cons.mpr ⟨ck_140, List.forall_mem_cons.mpr ⟨ck_141, List.forall_mem_cons.mpr ⟨ck_142, List.forall_mem_cons.mpr ⟨ck_143, fun _ h => absurd h List.not_mem_nil⟩⟩⟩⟩⟩⟩⟩⟩⟩⟩⟩⟩⟩⟩⟩⟩⟩⟩⟩⟩⟩⟩⟩⟩
theorem ck_all_g144 : ∀ j ∈ [144, 145, 146, 147, 148, 149, 150, 151, 152, 153, 154, 155, 156, 157, 158, 159, 160, 161, 162, 163, 164, 165, 166, 167], chkL j (cd j) = true := List.forall_mem_cons.mpr ⟨ck_144, List.forall_mem_cons.mpr ⟨ck_145, List.forall_mem_cons.mpr ⟨ck_146, List.forall_mem_cons.mpr ⟨ck_147, List.forall_mem_cons.mpr ⟨ck_148, List.forall_mem_cons.mpr ⟨ck_149, List.forall_mem_cons.mpr ⟨ck_150, List.forall_mem_cons.mpr ⟨ck_151, List.forall_mem_cons.mpr ⟨ck_152, List.forall_mem_cons.mpr ⟨ck_153, List.forall_mem_cons.mpr ⟨ck_154, List.forall_mem_cons.mpr ⟨ck_155, List.forall_mem_cons.mpr ⟨ck_156, List.forall_mem_cons.mpr ⟨ck_157, List.forall_mem_cons.mpr ⟨ck_158, List.forall_mem_cons.mpr ⟨ck_159, List.forall_mem_cons.mpr ⟨ck_160, List.forall_mem_cons.mpr ⟨ck_161, List.forall_mem_cons.mpr ⟨ck_162, List.forall_mem_cons.mpr ⟨ck_163, List.forall_mem_cons.mpr ⟨ck_164, List.forall_mem_cons.mpr ⟨ck_165, List.forall_mem_cons.mpr ⟨ck_166, List.forall_mem_cons.mpr ⟨ck_167, fun _ h => absurd h List.not_mem_nil⟩⟩⟩⟩⟩⟩⟩⟩⟩⟩⟩⟩⟩⟩⟩⟩⟩⟩⟩⟩⟩⟩⟩⟩
theorem ck_all_g168 : ∀ j ∈ [168, 169, 170, 171, 172, 173, 174, 175, 176, 177, 178, 179, 180, 181, 182, 183, 184, 185, 186, 187, 188, 189, 190, 191], chkL j (cd j) = true := List.forall_mem_cons.mpr ⟨ck_168, List.forall_mem_cons.mpr ⟨ck_169, List.forall_mem_cons.mpr ⟨ck_170, List.forall_mem_cons.mpr ⟨ck_171, List.forall_mem_cons.mpr ⟨ck_172, List.forall_mem_cons.mpr ⟨ck_173, List.forall_mem_cons.mpr ⟨ck_174, List.forall_mem_cons.mpr ⟨ck_175, List.forall_mem_cons.mpr ⟨ck_176, List.forall_mem_cons.mpr ⟨ck_177, List.forall_mem_cons.mpr ⟨ck_178, List.forall_mem_cons.mpr ⟨ck_179, List.forall_mem_cons.mpr ⟨ck_180, List.forall_mem_cons.mpr ⟨ck_181, List.forall_mem_cons.mpr ⟨ck_182, List.forall_mem_cons.mpr ⟨ck_183, List.forall_mem_cons.mpr ⟨ck_184, List.forall_mem_cons.mpr ⟨ck_185, List.forall_mem_cons.mpr ⟨ck_186, List.forall_mem_cons.mpr ⟨ck_187, List.forall_mem_cons.mpr ⟨ck_188, List.forall_mem_cons.mpr ⟨ck_189, List.forall_mem_cons.mpr ⟨ck_190, List.forall_mem_cons.mpr ⟨ck_191, fun _ h => absurd h List.not_mem_nil⟩⟩⟩⟩⟩⟩⟩⟩⟩⟩⟩⟩⟩⟩⟩⟩⟩⟩⟩⟩⟩⟩⟩⟩
theorem ck_all_g192 : ∀ j ∈ [192, 193, 194, 195, 196, 197, 198, 199, 200, 201, 202, 203, 204, 205, 206, 207, 208, 209, 210, 211, 212, 213, 214, 215], chkL j (cd j) = true := List.forall_mem_cons.mpr ⟨ck_192, List.forall_mem_cons.mpr ⟨ck_193, List.forall_mem_cons.mpr ⟨ck_194, List.forall_mem_cons.mpr ⟨ck_195, List.forall_mem_cons.mpr ⟨ck_196, List.forall_mem_cons.mpr ⟨ck_197, List.forall_mem_cons.mpr ⟨ck_198, List.forall_mem_cons.mpr ⟨ck_199, List.forall_mem_cons.mpr ⟨ck_200, List.forall_mem_cons.mpr ⟨ck_201, List.forall_mem_cons.mpr ⟨ck_202, List.forall_mem_cons.mpr ⟨ck_203, List.forall_mem_cons.mpr ⟨ck_204, List.forall_mem_cons.mpr ⟨ck_205, List.forall_mem_cons.mpr ⟨ck_206, List.forall_mem_cons.mpr ⟨ck_207, List.forall_mem_cons.mpr ⟨ck_208, List.forall_mem_cons.mpr ⟨ck_209, List.forall_mem_cons.mpr ⟨ck_210, List.forall_mem_cons.mpr ⟨ck_211, List.forall_mem_cons.mpr ⟨ck_212, List.forall_mem_cons.mpr ⟨ck_213, List.forall_mem_cons.mpr ⟨ck_214, List.forall_mem_cons.mpr ⟨ck_215, fun _ h => absurd h List.not_mem_nil⟩⟩⟩⟩⟩⟩⟩⟩⟩⟩⟩⟩⟩⟩⟩⟩⟩⟩⟩⟩⟩⟩⟩⟩
theorem ck_all_g216 : ∀ j ∈ [216, 217, 218, 219, 220, 221, 222, 223, 224, 225, 226, 227, 228, 229, 230, 231, 232, 233, 234, 235, 236, 237, 238, 239], chkL j (cd j) = true := List.forall_mem_cons.mpr ⟨ck_216, List.forall_mem_cons.mpr ⟨ck_217, List.forall_mem_cons.mpr ⟨ck_218, List.forall_mem_cons.mpr ⟨ck_219, List.forall_mem_cons.mpr ⟨ck_220, List.forall_mem_cons.mpr ⟨ck_221, List.forall_mem_cons.mpr ⟨ck_222, List.forall_mem_cons.mpr ⟨ck_223, List.forall_mem_cons.mpr ⟨ck_224, List.forall_mem_cons.mpr ⟨ck_225, List.forall_mem_cons.mpr ⟨ck_226, List.forall_mem_cons.mpr ⟨ck_227, List.forall_mem_cons.mpr ⟨ck_228, List.forall_mem_cons.mpr ⟨ck_229, List.forall_mem_cons.mpr ⟨ck_230, List.forall_mem_cons.mpr ⟨ck_231, List.forall_mem_cons.mpr ⟨ck_232, List.forall_mem_cons.mpr ⟨ck_233, List.forall_mem_cons.mpr ⟨ck_234, List.forall_mem_cons.mpr ⟨ck_235, List.forall_mem_cons.mpr ⟨ck_236, List.forall_mem_cons.mpr ⟨ck_237, List.forall_mem_cons.mpr ⟨ck_238, List.forall_mem_cons.mpr ⟨ck_239, fun _ h => absurd h List.not_mem_nil⟩⟩⟩⟩⟩⟩⟩⟩⟩⟩⟩⟩⟩⟩⟩⟩⟩⟩⟩⟩⟩⟩⟩⟩
theorem ck_all_g240 : ∀ j ∈ [240, 241, 242, 243, 244, 245, 246, 247, 248, 249, 250, 251, 252, 253, 254, 255, 256, 257, 258, 259, 260, 261, 262, 263], chkL j (cd j) = true := List.forall_mem_cons.mpr ⟨ck_240, List.forall_mem_cons.mpr ⟨ck_241, List.forall_mem_cons.mpr ⟨ck_242, List.forall_mem_cons.mpr ⟨ck_243, List.forall_mem_cons.mpr ⟨ck_244, List.forall_mem_cons.mpr ⟨ck_245, List.forall_mem_cons.mpr ⟨ck_246, List.forall_mem_cons.mpr ⟨ck_247, List.forall_mem_cons.mpr ⟨ck_248, List.forall_mem_cons.mpr ⟨ck_249, List.forall_mem_cons.mpr ⟨ck_250, List.forall_mem_cons.mpr ⟨ck_251, List.forall_mem_cons.mpr ⟨ck_252, List.forall_mem_cons.mpr ⟨ck_253, List.forall_mem_cons.mpr ⟨ck_254, List.forall_mem_cons.mpr ⟨ck_255, List.forall_mem_cons.mpr ⟨ck_256, List.forall_mem_cons.mpr ⟨ck_257, List.forall_mem_cons.mpr ⟨ck_258, List.forall_mem_cons.mpr ⟨ck_259, List.forall_mem_cons.mpr ⟨ck_260, List.forall_mem_cons.mpr ⟨ck_261, List.forall_mem_cons.mpr ⟨ck_262, List.forall_mem_cons.mpr ⟨ck_263, fun _ h => absurd h List.not_mem_nil⟩⟩⟩⟩⟩⟩⟩⟩⟩⟩⟩⟩⟩⟩⟩⟩⟩⟩⟩⟩⟩⟩⟩⟩
theorem ck_all_g264 : ∀ j ∈ [264, 265, 266, 267, 268, 269, 270, 271], chkL j (cd j) = true := List.forall_mem_cons.mpr ⟨ck_264, List.forall_mem_cons.mpr ⟨ck_265, List.forall_mem_cons.mpr ⟨ck_266, List.forall_mem_cons.mpr ⟨ck_267, List.forall_mem_cons.mpr ⟨ck_268, List.forall_mem_cons.mpr ⟨ck_269, List.forall_mem_cons.mpr ⟨ck_270, List.forall_mem_cons.mpr ⟨ck_271, fun _ h => absurd h List.not_mem_nil⟩⟩⟩⟩⟩⟩⟩⟩
theorem ck_all {j : Nat} (hj : j < 272) : chkL j (cd j) = true := by
  have h : ∀ j ∈ [0, 1, 2, 3, 4, 5, 6, 7, 8, 9, 10, 11, 12, 13, 14, 15, 16, 17, 18, 19, 20, 21, 22, 23] ++ ([24, 25, 26, 27, 28, 29, 30, 31, 32, 33, 34, 35, 36, 37, 38, 39, 40, 41, 42, 43, 44, 45, 46, 47] ++ ([48, 49, 50, 51, 52, 53, 54, 55, 56, 57, 58, 59, 60, 61, 62, 63, 64, 65, 66, 67, 68, 69, 70, 71] ++ ([72, 73, 74, 75, 76, 77, 78, 79, 80, 81, 82, 83, 84, 85, 86, 87, 88, 89, 90, 91, 92, 93, 94, 95] ++ ([96, 97, 98, 99, 100, 101, 102, 103, 104, 105, 106, 107, 108, 109, 110, 111, 112, 113, 114, 115, 116, 117, 118, 119] ++ ([120, 121, 122, 123, 124, 125, 126, 127, 128, 129, 130, 131, 132, 133, 134, 135, 136, 137, 138, 139, 140, 141, 142, 143] ++ ([144, 145, 146, 147, 148, 149, 150, 151, 152, 153, 154, 155, 156, 157, 158, 159, 160, 161, 162, 163, 164, 165, 166, 167] ++ ([168, 169, 170, 171, 172, 173, 174, 175, 176, 177, 178, 179, 180, 181, 182, 183, 184, 185, 186, 187, 188, 189, 190, 191] ++ ([192, 193, 194, 195, 196, 197, 198, 199, 200, 201, 202, 203, 204, 205, 206, 207, 208, 209, 210, 211, 212, 213, 214, 215] ++ ([216, 217, 218, 219, 220, 221, 222, 223, 224, 225, 226, 227, 228, 229, 230, 231, 232, 233, 234, 235, 236, 237, 238, 239] ++ ([240, 241, 242, 243, 244, 245, 246, 247, 248, 249, 250, 251, 252, 253, 254, 255, 256, 257, 258, 259, 260, 261, 262, 263] ++ ([264, 265, 266, 267, 268, 269, 270, 271]))))))))))), chkL j (cd j) = true := List.forall_mem_append.mpr ⟨ck_all_g0, List.forall_mem_append.mpr ⟨ck_all_g24, List.forall_mem_append.mpr ⟨ck_all_g48, List.forall_mem_append.mpr ⟨ck_all_g72, List.forall_mem_append.mpr ⟨ck_all_g96, List.forall_mem_append.mpr ⟨ck_all_g120, List.forall_mem_append.mpr ⟨ck_all_g144, List.forall_mem_append.mpr ⟨ck_all_g168, List.forall_mem_append.mpr ⟨ck_all_g192, List.forall_mem_append.mpr ⟨ck_all_g216, List.forall_mem_append.mpr ⟨ck_all_g240, ck_all_g264⟩⟩⟩⟩⟩⟩⟩⟩⟩⟩⟩
  exact h j (by rw [show [0, 1, 2, 3, 4, 5, 6, 7, 8, 9, 10, 11, 12, 13, 14, 15, 16, 17, 18, 19, 20, 21, 22, 23] ++ ([24, 25, 26, 27, 28, 29, 30, 31, 32, 33, 34, 35, 36, 37, 38, 39, 40, 41, 42, 43, 44, 45, 46, 47] ++ ([48, 49, 50, 51, 52, 53, 54, 55, 56, 57, 58, 59, 60, 61, 62, 63, 64, 65, 66, 67, 68, 69, 70, 71] ++ ([72, 73, 74, 75, 76, 77, 78, 79, 80, 81, 82, 83, 84, 85, 86, 87, 88, 89, 90, 91, 92, 93, 94, 95] ++ ([96, 97, 98, 99, 100, 101, 102, 103, 104, 105, 106, 107, 108, 109, 110, 111, 112, 113, 114, 115, 116, 117, 118, 119] ++ ([120, 121, 122, 123, 124, 125, 126, 127, 128, 129, 130, 131, 132, 133, 134, 135, 136, 137, 138, 139, 140, 141, 142, 143] ++ ([144, 145, 146, 147, 148, 149, 150, 151, 152, 153, 154, 155, 156, 157, 158, 159, 160, 161, 162, 163, 164, 165, 166, 167] ++ ([168, 169, 170, 171, 172, 173, 174, 175, 176, 177, 178, 179, 180, 181, 182, 183, 184, 185, 186, 187, 188, 189, 190, 191] ++ ([192, 193, 194, 195, 196, 197, 198, 199, 200, 201, 202, 203, 204, 205, 206, 207, 208, 209, 210, 211, 212, 213, 214, 215] ++ ([216, 217, 218, 219, 220, 221, 222, 223, 224, 225, 226, 227, 228, 229, 230, 231, 232, 233, 234, 235, 236, 237, 238, 239] ++ ([240, 241, 242, 243, 244, 245, 246, 247, 248, 249, 250, 251, 252, 253, 254, 255, 256, 257, 258, 259, 260, 261, 262, 263] ++ ([264, 265, 266, 267, 268, 269, 270, 271]))))))))))) = List.range 272 from by decide +kernel]; exact List.mem_range.mpr hj)
end
section
/-! 'vc' says enough -/
theorem wpc_mono {G : GC} {e lb j : Nat} {As : List Value} {M : Mem} {K K' : Option Value → Mem → Prop} (hK : ∀ v M1, K v M1 → K' v M1) (h : wpc G e lb j As M K) : wpc G e lb j As M K' := fun lch cur hc =>
  MetFree.mono (h lch cur hc) (fun _ _ q => q) (fun _ _ _ _ _ q => q) (fun a st o t _ q => ⟨by obtain ⟨v, M1, q1, q2, q3⟩ := q.1; exact ⟨v, M1, q1, hK v M1 q2, q3⟩, q.2⟩)
theorem sw_mono {x : Int32} {P P' : Nat → Prop} (h : ∀ tg, P tg → P' tg) {d : Nat} : ∀ {tb : List Nat}, sw x P d tb → sw x P' d tb
  | [], q => h _ q
  | [_], q => h _ q
  | _ :: _ :: _, q => ⟨fun e => h _ (q.1 e), fun e => sw_mono h (q.2 e)⟩
theorem fv_int {G : GC} {M : Mem} {c o k : Nat} (h : fty c k = 0 ∨ fty c k = 3) : lf G (.int (M.1 o k)) = fv G M c o k := by
  unfold fv
  rcases h with h | h <;> rw [h] <;> rfl
theorem fv_long {G : GC} {M : Mem} {c o k : Nat} (h : fty c k = 1) : lf G (.long (M.2.1 o k)) = fv G M c o k := by
  unfold fv
  rw [h]
  rfl
theorem fv_ref {G : GC} {M : Mem} {c o k q : Nat} (h : fty c k = 2) (hq : M.2.2 o k = some q) : lf G (.ref q) = fv G M c o k := by
  unfold fv
  rw [h]
  simp only [hq]
  rfl
theorem fv_mut {G : GC} {M : Mem} {c o k : Nat} (h : fty c k ≠ 0 ∧ fty c k ≠ 1 ∧ fty c k ≠ 2 ∧ fty c k ≠ 3) (h0 : ¬ M.1 o k = 0) (hq : ix (M.1 o k) < SP) : lf G (.ref (ix (M.1 o k))) = fv G M c o k := by
  unfold fv
  split
  · exact absurd ‹_› h.1
  · exact absurd ‹_› h.2.1
  · exact absurd ‹_› h.2.2.1
  · exact absurd ‹_› h.2.2.2
  · rw [if_neg h0]
    show Value.ref (adr G (ix (M.1 o k))) = _
    unfold adr
    rw [if_pos hq]
theorem fv_row {G : GC} {M M1 : Mem} {c o j : Nat} (h1 : M1.1 o j = M.1 o j) (h2 : M1.2.1 o j = M.2.1 o j) (h3 : M1.2.2 o j = M.2.2 o j) : fv G M1 c o j = fv G M c o j := by
  unfold fv
  rw [h1, h2, h3]
theorem u2_at {α : Type} {f : Nat → Nat → α} {o k : Nat} {v : α} : u2 f o k v o k = v := by simp [u2]
theorem u2_ne {α : Type} {f : Nat → Nat → α} {o k j : Nat} {v : α} (h : j ≠ k) : u2 f o k v o j = f o j := by simp [u2, h]
theorem tyk_of {ci k : Nat} (hci : ci < 11) (hk : k < (vwd ci).2.2) {v : Value} (h : (fty ci k = 0 ∧ ∃ x, v = .int x) ∨ (fty ci k = 1 ∧ ∃ x, v = .long x) ∨ ((fty ci k = 2 ∨ fty ci k = 4) ∧ ∃ a, v = .ref a) ∨ (fty ci k = 3 ∧ ∃ x, v = .int x ∧ isB x)) : narrow (tyc ci k) v = v ∧ fits (tyc ci k) v = true := by
  obtain ⟨hty, -, -⟩ := vwd_k hci hk
  rcases h with ⟨h, x, rfl⟩ | ⟨h, x, rfl⟩ | ⟨h, x, rfl⟩ | ⟨h, x, rfl, hx⟩
  · rw [h] at hty
    cases htc : tyc ci k <;> rw [htc] at hty <;> simp [tyk] at hty
    exact ⟨rfl, rfl⟩
  · rw [h] at hty
    cases htc : tyc ci k <;> rw [htc] at hty <;> simp [tyk] at hty
    exact ⟨rfl, rfl⟩
  · rcases h with h | h <;> rw [h] at hty <;> cases htc : tyc ci k <;> rw [htc] at hty <;> simp [tyk] at hty <;> exact ⟨rfl, rfl⟩
  · rw [h] at hty
    cases htc : tyc ci k <;> rw [htc] at hty <;> simp [tyk] at hty
    refine ⟨isB_zero hx, ?_⟩
    rcases hx with rfl | rfl <;> rfl
theorem an_of {o a b : Nat} (h : (Nat.beq (ak o) a && Nat.ble (o + 1) b) = true) : ak o = a ∧ o < b := by
  simp only [Bool.and_eq_true, nbq, nbl] at h
  exact ⟨h.1, h.2⟩
theorem arP_of {b c lb n0 : Nat} {P : Prop} (h : arP b c lb n0 P) : ak c = n0 ∧ c < lb ∧ P := by
  unfold arP at h
  split at h
  · exact ⟨h.1.1, h.1.2, h.2⟩
  · split at h
    next e => exact ⟨(an_of e).1, (an_of e).2, h⟩
    next => exact h.elim
theorem ivk_of {dec e : Nat} {K : Nat → Prop} (h : ivk dec e K) : dec ≤ e ∧ K (e - dec) := by
  cases dec with
  | zero => exact ⟨Nat.zero_le _, h⟩
  | succ d => exact h
theorem jc_of {j : Nat} (hj : j < 271) : jOk j ∧ (if stt j then Jvm.Cond.static (yM j) ∈ gdt else Jvm.Cond.instanceMethod (yM j) ∈ gdt) ∧ (stt j = false → mx j = false → Jvm.Cond.selects (ow j) (yM j) (yM j) ∈ gdt) ∧ (mx j = true → (yM j).name = "<init>" ∧ rT j = none) ∧ (yM j).cls = ow j ∧ plainName (yM j).cls = true ∧ oC j < 11 ∧ (mx j = false → alc j = (0, 0)) := by
  have h := jc_all hj
  have hc := cw_all hj
  unfold jchk at h
  simp only [Bool.and_eq_true, decide_eq_true_eq, nbl, Bool.or_eq_true, Bool.not_eq_true'] at h
  obtain ⟨⟨⟨⟨⟨⟨⟨⟨⟨h1, h2⟩, h3⟩, h4⟩, h5⟩, h6⟩, h7⟩, h8⟩, h9⟩, h10⟩ := h
  have hcode : Jvm.Cond.code (yM j) (bC j) (nL j) (rT j) ∈ gdt := List.mem_filter.mpr ⟨List.mem_of_getElem? hc, by rfl⟩
  refine ⟨⟨hcode, gW_mem h1, h2, h3⟩, ?_, ?_, ?_, h7, h8, h9, ?_⟩
  · by_cases hs : stt j = true
    · rw [if_pos hs] at h4 ⊢
      exact gW_mem h4
    · rw [if_neg hs] at h4 ⊢
      exact gW_mem h4
  · intro a b
    rcases h5 with (q | q) | q
    · rw [a] at q; cases q
    · rw [b] at q; cases q
    · exact gW_mem q
  · intro a
    rcases h6 with q | q
    · rw [a] at q; cases q
    · exact q
  · intro a
    rcases h10 with q | q
    · rw [a] at q; cases q
    · exact q
theorem nOk {i idx a : Nat} (h : nT.any (fun x => Nat.beq x.1 (oC i) && Nat.beq x.2.1 idx && Nat.beq x.2.2.1 a) = true) : a < 11 ∧ Jvm.Cond.classLink (ow i) idx (vwd a).1 ∈ gdt ∧ Jvm.Cond.instantiable (vwd a).1 (vwd a).2.2 ∈ gdt ∧ Jvm.Cond.initialized (vwd a).1 ∈ gdt := by
  obtain ⟨x, hx, h⟩ := List.any_eq_true.mp h
  simp only [Bool.and_eq_true, nbq] at h
  obtain ⟨⟨e1, e2⟩, e3⟩ := h
  have h1 := List.all_eq_true.mp nT_ok x hx
  simp only [Bool.and_eq_true, nbl] at h1
  obtain ⟨h1, h2⟩ := h1
  have h3 := gW_mem h1
  rw [e1, e2, e3] at h3
  rw [e3] at h2
  have h4 := List.all_eq_true.mp cT_ok a (List.mem_range.mpr (by omega))
  simp only [Bool.and_eq_true] at h4
  exact ⟨by omega, h3, gW_mem h4.1, gW_mem h4.2⟩
theorem xOk {i idx : Nat} (h : xT.any (fun x => Nat.beq x.1 (oC i) && Nat.beq x.2.1 idx) = true) : Jvm.Cond.classLink (ow i) idx ("[" ++ (FieldType.array .int).toString) ∈ gdt := by
  obtain ⟨x, hx, h⟩ := List.any_eq_true.mp h
  simp only [Bool.and_eq_true, nbq] at h
  have h3 := gW_mem (List.all_eq_true.mp xT_ok x hx)
  rw [h.1, h.2] at h3
  exact h3
theorem rows_next {o : Nat} (h : ak o = 13) : o + 1 < 168 := by
  have h1 := ak_lt h (by omega)
  have hall : (List.range 168).all (fun o => decide (ak o = 13 → o + 1 < 168)) = true := by decide +kernel
  have := List.all_eq_true.mp hall o (List.mem_range.mpr h1)
  simp only [decide_eq_true_eq] at this
  exact this h
/-- text constants: how long, what stands at a place -/
theorem r_strlen {G : GC} {e i pc idx c : Nat} {t : T3} {l : LV} {r : List Value} {M : Mem} {Q : Option Value → Mem → Prop} (hd : decode (bC i) pc = .ok (.invokevirtual idx, 3)) (hs : (Nat.beq idx 169 && decide (ow i = "PowersForTimes$Reader") && Nat.ble 5 (dep i)) = true) (h1 : SP < c) (h2 : c < SP + 4) (k1 : wp G e t i (pc + 3) l (.int (nI (slen c)) :: r) M Q) : wp G e t i pc l (.ref c :: r) M Q := by
  sorry
theorem r_charAt {G : GC} {e i pc idx c : Nat} {t : T3} {l : LV} {r : List Value} {M : Mem} {Q : Option Value → Mem → Prop} {j : Int32} (hd : decode (bC i) pc = .ok (.invokevirtual idx, 3)) (hs : (Nat.beq idx 176 && decide (ow i = "PowersForTimes$Reader") && Nat.ble 5 (dep i)) = true) (h1 : SP < c) (h2 : c < SP + 4) (h3 : vp_in j (slen c)) (k1 : wp G e t i (pc + 3) l (.int (schr c (ix j)) :: r) M Q) : wp G e t i pc l (.int j :: .ref c :: r) M Q := by
  sorry
set_option maxHeartbeats 4000000 in
theorem vi_sound {G : GC} {e i pc len a b : Nat} {Q : Option Value → Mem → Prop} {I : Instr} {tb : List Nat} {t : T3} {l : LV} {st : List Value} {M : Mem} {kn : T3 → LV → List Value → Mem → Prop} {kj : Nat → T3 → LV → List Value → Mem → Prop} (hchk : chk1 i (pc, len, I, a, b, tb) = true)
    (hkn : falls I = true → ∀ (t : T3) (l : LV) (st : List Value) (M : Mem), kn t l st M → wp G e t i (pc + len) l st M Q) (hkj : ∀ (tg : Nat) (t : T3) (l : LV) (st : List Value) (M : Mem), kj tg t l st M → wp G e t i tg l st M Q)
    (h : vi G e i Q pc kn kj I a b tb t l st M) : wp G e t i pc l st M Q := by
  unfold chk1 at hchk
  simp only [Bool.and_eq_true, Bool.or_eq_true, decide_eq_true_eq] at hchk
  obtain ⟨hd, hs⟩ := hchk
  cases I
  case nop =>
    exact wp_sub (fun q hq => pick_mem hq) h
  case aload k =>
    replace hd := hd.resolve_left (by simp [isNop])
    obtain rfl : len = 2 := nbq.mp hs
    unfold vi at h
    dsimp only at h
    split at h
    next x hg => exact r_aload hd hg (hkn rfl _ _ _ _ h)
    next => exact h.elim
  case aload_n k =>
    replace hd := hd.resolve_left (by simp [isNop])
    obtain rfl : len = 1 := nbq.mp hs
    unfold vi at h
    dsimp only at h
    split at h
    next x hg => exact r_aload_n hd hg (hkn rfl _ _ _ _ h)
    next => exact h.elim
  case iload k =>
    replace hd := hd.resolve_left (by simp [isNop])
    obtain rfl : len = 2 := nbq.mp hs
    unfold vi at h
    dsimp only at h
    split at h
    next x hg => exact r_iload hd hg (hkn rfl _ _ _ _ h)
    next => exact h.elim
  case iload_n k =>
    replace hd := hd.resolve_left (by simp [isNop])
    obtain rfl : len = 1 := nbq.mp hs
    unfold vi at h
    dsimp only at h
    split at h
    next x hg => exact r_iload_n hd hg (hkn rfl _ _ _ _ h)
    next => exact h.elim
  case lload k =>
    replace hd := hd.resolve_left (by simp [isNop])
    obtain rfl : len = 2 := nbq.mp hs
    unfold vi at h
    dsimp only at h
    split at h
    next x hg => exact r_lload hd hg (hkn rfl _ _ _ _ h)
    next => exact h.elim
  case lload_n k =>
    replace hd := hd.resolve_left (by simp [isNop])
    obtain rfl : len = 1 := nbq.mp hs
    unfold vi at h
    dsimp only at h
    split at h
    next x hg => exact r_lload_n hd hg (hkn rfl _ _ _ _ h)
    next => exact h.elim
  case astore k =>
    replace hd := hd.resolve_left (by simp [isNop])
    unfold sdk at hs
    simp only [Bool.and_eq_true, nbq, nbl, decide_eq_true_eq] at hs
    obtain ⟨rfl, hs⟩ := hs
    unfold vi at h
    dsimp only at h
    split at h
    next x r => exact r_astore hd (by omega) (hkn rfl _ _ _ _ h)
    next => exact h.elim
  case astore_n k =>
    replace hd := hd.resolve_left (by simp [isNop])
    unfold sdk at hs
    simp only [Bool.and_eq_true, nbq, nbl, decide_eq_true_eq] at hs
    obtain ⟨rfl, hs⟩ := hs
    unfold vi at h
    dsimp only at h
    split at h
    next x r => exact r_astore_n hd (by omega) (hkn rfl _ _ _ _ h)
    next => exact h.elim
  case istore k =>
    replace hd := hd.resolve_left (by simp [isNop])
    unfold sdk at hs
    simp only [Bool.and_eq_true, nbq, nbl, decide_eq_true_eq] at hs
    obtain ⟨rfl, hs⟩ := hs
    unfold vi at h
    dsimp only at h
    split at h
    next x r => exact r_istore hd (by omega) (hkn rfl _ _ _ _ h)
    next => exact h.elim
  case istore_n k =>
    replace hd := hd.resolve_left (by simp [isNop])
    unfold sdk at hs
    simp only [Bool.and_eq_true, nbq, nbl, decide_eq_true_eq] at hs
    obtain ⟨rfl, hs⟩ := hs
    unfold vi at h
    dsimp only at h
    split at h
    next x r => exact r_istore_n hd (by omega) (hkn rfl _ _ _ _ h)
    next => exact h.elim
  case lstore k =>
    replace hd := hd.resolve_left (by simp [isNop])
    unfold sdk at hs
    simp only [Bool.and_eq_true, nbq, nbl, decide_eq_true_eq] at hs
    obtain ⟨rfl, hs⟩ := hs
    unfold vi at h
    dsimp only at h
    split at h
    next x r => exact r_lstore hd (by omega) (hkn rfl _ _ _ _ h)
    next => exact h.elim
  case lstore_n k =>
    replace hd := hd.resolve_left (by simp [isNop])
    unfold sdk at hs
    simp only [Bool.and_eq_true, nbq, nbl, decide_eq_true_eq] at hs
    obtain ⟨rfl, hs⟩ := hs
    unfold vi at h
    dsimp only at h
    split at h
    next x r => exact r_lstore_n hd (by omega) (hkn rfl _ _ _ _ h)
    next => exact h.elim
  case iconst n =>
    replace hd := hd.resolve_left (by simp [isNop])
    obtain rfl : len = 1 := nbq.mp hs
    exact r_iconst hd (hkn rfl _ _ _ _ h)
  case lconst n =>
    replace hd := hd.resolve_left (by simp [isNop])
    obtain rfl : len = 1 := nbq.mp hs
    exact r_lconst hd (hkn rfl _ _ _ _ h)
  case bipush n =>
    replace hd := hd.resolve_left (by simp [isNop])
    unfold sdk at hs
    simp only [Bool.and_eq_true, nbq, nbl, decide_eq_true_eq] at hs
    obtain ⟨rfl, hs⟩ := hs
    exact r_bipush hd hs (hkn rfl _ _ _ _ h)
  case sipush n =>
    replace hd := hd.resolve_left (by simp [isNop])
    unfold sdk at hs
    simp only [Bool.and_eq_true, nbq, nbl, decide_eq_true_eq] at hs
    obtain ⟨rfl, hs⟩ := hs
    exact r_sipush hd hs (hkn rfl _ _ _ _ h)
  case ldc2_w n =>
    replace hd := hd.resolve_left (by simp [isNop])
    unfold sdk at hs
    simp only [Bool.and_eq_true, nbq, nbl, decide_eq_true_eq] at hs
    obtain ⟨rfl, hs⟩ := hs
    exact r_ldc2 hd hs (hkn rfl _ _ _ _ h)
  case ldc n =>
    replace hd := hd.resolve_left (by simp [isNop])
    unfold sdk at hs
    simp only [Bool.and_eq_true, nbq] at hs
    obtain ⟨rfl, hs⟩ := hs
    unfold vi at h
    dsimp only at h
    split at h
    next => exact r_ldcS hd (of_decide_eq_true hs).1 (of_decide_eq_true hs).2 (hkn rfl _ _ _ _ h)
    next hb => 
      have hs2 : Jvm.Cond.constant (ow i) n (nI a) ∈ gdt := by
        split at hs
        next => exact absurd rfl hb
        next => exact of_decide_eq_true hs
      exact r_ldcI hd hs2 (hkn rfl _ _ _ _ h)
  case iadd =>
    replace hd := hd.resolve_left (by simp [isNop])
    obtain rfl : len = 1 := nbq.mp hs
    unfold vi at h
    dsimp only at h
    split at h
    next y x r => exact r_iadd hd (hkn rfl _ _ _ _ h)
    next => exact h.elim
  case isub =>
    replace hd := hd.resolve_left (by simp [isNop])
    obtain rfl : len = 1 := nbq.mp hs
    unfold vi at h
    dsimp only at h
    split at h
    next y x r => exact r_isub hd (hkn rfl _ _ _ _ h)
    next => exact h.elim
  case imul =>
    replace hd := hd.resolve_left (by simp [isNop])
    obtain rfl : len = 1 := nbq.mp hs
    unfold vi at h
    dsimp only at h
    split at h
    next y x r => exact r_imul hd (hkn rfl _ _ _ _ h)
    next => exact h.elim
  case iand =>
    replace hd := hd.resolve_left (by simp [isNop])
    obtain rfl : len = 1 := nbq.mp hs
    unfold vi at h
    dsimp only at h
    split at h
    next y x r => exact r_iand hd (hkn rfl _ _ _ _ h)
    next => exact h.elim
  case ixor =>
    replace hd := hd.resolve_left (by simp [isNop])
    obtain rfl : len = 1 := nbq.mp hs
    unfold vi at h
    dsimp only at h
    split at h
    next y x r => exact r_ixor hd (hkn rfl _ _ _ _ h)
    next => exact h.elim
  case iushr =>
    replace hd := hd.resolve_left (by simp [isNop])
    obtain rfl : len = 1 := nbq.mp hs
    unfold vi at h
    dsimp only at h
    split at h
    next y x r => exact r_iushr hd (hkn rfl _ _ _ _ h)
    next => exact h.elim
  case ishr =>
    replace hd := hd.resolve_left (by simp [isNop])
    obtain rfl : len = 1 := nbq.mp hs
    unfold vi at h
    dsimp only at h
    split at h
    next y x r => exact r_ishr hd (hkn rfl _ _ _ _ h)
    next => exact h.elim
  case ladd =>
    replace hd := hd.resolve_left (by simp [isNop])
    obtain rfl : len = 1 := nbq.mp hs
    unfold vi at h
    dsimp only at h
    split at h
    next y x r => exact r_ladd hd (hkn rfl _ _ _ _ h)
    next => exact h.elim
  case lmul =>
    replace hd := hd.resolve_left (by simp [isNop])
    obtain rfl : len = 1 := nbq.mp hs
    unfold vi at h
    dsimp only at h
    split at h
    next y x r => exact r_lmul hd (hkn rfl _ _ _ _ h)
    next => exact h.elim
  case lshl =>
    replace hd := hd.resolve_left (by simp [isNop])
    obtain rfl : len = 1 := nbq.mp hs
    unfold vi at h
    dsimp only at h
    split at h
    next y x r => exact r_lshl hd (hkn rfl _ _ _ _ h)
    next => exact h.elim
  case lor =>
    replace hd := hd.resolve_left (by simp [isNop])
    obtain rfl : len = 1 := nbq.mp hs
    unfold vi at h
    dsimp only at h
    split at h
    next y x r => exact r_lor hd (hkn rfl _ _ _ _ h)
    next => exact h.elim
  case lcmp =>
    replace hd := hd.resolve_left (by simp [isNop])
    obtain rfl : len = 1 := nbq.mp hs
    unfold vi at h
    dsimp only at h
    split at h
    next y x r => exact r_lcmp hd (hkn rfl _ _ _ _ h)
    next => exact h.elim
  case idiv =>
    replace hd := hd.resolve_left (by simp [isNop])
    obtain rfl : len = 1 := nbq.mp hs
    unfold vi at h
    dsimp only at h
    split at h
    next y x r => exact r_idiv hd h.1 (hkn rfl _ _ _ _ h.2)
    next => exact h.elim
  case irem =>
    replace hd := hd.resolve_left (by simp [isNop])
    obtain rfl : len = 1 := nbq.mp hs
    unfold vi at h
    dsimp only at h
    split at h
    next y x r => exact r_irem hd h.1 (hkn rfl _ _ _ _ h.2)
    next => exact h.elim
  case ldiv =>
    replace hd := hd.resolve_left (by simp [isNop])
    obtain rfl : len = 1 := nbq.mp hs
    unfold vi at h
    dsimp only at h
    split at h
    next y x r => exact r_ldiv hd h.1 (hkn rfl _ _ _ _ h.2)
    next => exact h.elim
  case i2l =>
    replace hd := hd.resolve_left (by simp [isNop])
    obtain rfl : len = 1 := nbq.mp hs
    unfold vi at h
    dsimp only at h
    split at h
    next x r => exact r_i2l hd (hkn rfl _ _ _ _ h)
    next => exact h.elim
  case l2i =>
    replace hd := hd.resolve_left (by simp [isNop])
    obtain rfl : len = 1 := nbq.mp hs
    unfold vi at h
    dsimp only at h
    split at h
    next x r => exact r_l2i hd (hkn rfl _ _ _ _ h)
    next => exact h.elim
  case goto off =>
    replace hd := hd.resolve_left (by simp [isNop])
    unfold sdk at hs
    simp only [Bool.and_eq_true, nbq, nbl, decide_eq_true_eq] at hs
    obtain ⟨rfl, hs⟩ := hs
    exact r_goto hd hs (hkj _ _ _ _ _ h)
  case if_icmp c off =>
    replace hd := hd.resolve_left (by simp [isNop])
    unfold sdk at hs
    simp only [Bool.and_eq_true, nbq, nbl, decide_eq_true_eq] at hs
    obtain ⟨rfl, hs⟩ := hs
    unfold vi at h
    dsimp only at h
    split at h
    next y x r => exact r_if_icmp hd hs (fun q => hkj _ _ _ _ _ (h.1 q)) (fun q => hkn rfl _ _ _ _ (h.2 q))
    next => exact h.elim
  case ifCond c off =>
    replace hd := hd.resolve_left (by simp [isNop])
    unfold sdk at hs
    simp only [Bool.and_eq_true, nbq, nbl, decide_eq_true_eq] at hs
    obtain ⟨rfl, hs⟩ := hs
    unfold vi at h
    dsimp only at h
    split at h
    next x r => exact r_ifCond hd hs (fun q => hkj _ _ _ _ _ (h.1 q)) (fun q => hkn rfl _ _ _ _ (h.2 q))
    next => exact h.elim
  case tableswitch d lo hi offs =>
    replace hd := hd.resolve_left (by simp [isNop])
    unfold vi at h
    dsimp only at h
    split at h
    next x r => exact r_tsw hd hs (sw_mono (fun tg q => hkj _ _ _ _ _ q) h)
    next => exact h.elim
  case lookupswitch d ps =>
    replace hd := hd.resolve_left (by simp [isNop])
    unfold vi at h
    dsimp only at h
    split at h
    next x r => exact r_lsw hd hs (sw_mono (fun tg q => hkj _ _ _ _ _ q) h)
    next => exact h.elim
  case iinc k n =>
    replace hd := hd.resolve_left (by simp [isNop])
    unfold sdk at hs
    simp only [Bool.and_eq_true, nbq, nbl, decide_eq_true_eq] at hs
    obtain ⟨rfl, hs⟩ := hs
    unfold vi at h
    dsimp only at h
    split at h
    next x hg => exact r_iinc hd (by omega) hg (hkn rfl _ _ _ _ h)
    next => exact h.elim
  case getfield idx =>
    replace hd := hd.resolve_left (by simp [isNop])
    unfold sdk at hs
    simp only [Bool.and_eq_true, nbq] at hs
    obtain ⟨rfl, hs⟩ := hs
    have hf := fOk_of hs
    unfold vi at h
    dsimp only at h
    split at h
    next o r =>
      split at h
      next hc =>
        simp only [Bool.and_eq_true, nbq, nbl] at hc
        obtain ⟨⟨c1, c2⟩, c3⟩ := hc
        split at h
        next hk => exact r_getfield hd hf c1 c2 c3 (fv_int (Or.inl hk)) (hkn rfl _ _ _ _ h)
        next hk => exact r_getfield hd hf c1 c2 c3 (fv_long hk) (hkn rfl _ _ _ _ h)
        next hk =>
          split at h
          next q hq => exact r_getfield hd hf c1 c2 c3 (fv_ref hk hq) (hkn rfl _ _ _ _ h)
          next => exact h.elim
        next hk => exact r_getfield hd hf c1 c2 c3 (fv_int (Or.inr hk)) (hkn rfl _ _ _ _ h)
        next k0 k1 k2 k3 => exact r_getfield hd hf c1 c2 c3 (fv_mut ⟨k0, k1, k2, k3⟩ h.1.1 h.1.2) (hkn rfl _ _ _ _ h.2)
      next => exact h.elim
    next => exact h.elim
  case putfield idx =>
    replace hd := hd.resolve_left (by simp [isNop])
    unfold sdk at hs
    simp only [Bool.and_eq_true, nbq] at hs
    obtain ⟨⟨⟨rfl, hs⟩, hfi⟩, hm2⟩ := hs
    have hf := fOk_of hs
    unfold vi at h
    dsimp only at h
    split at h
    next v o r =>
      split at h
      next hc =>
        simp only [Bool.and_eq_true, nbq, nbl, Bool.or_eq_true, Bool.not_eq_true'] at hc hfi
        obtain ⟨⟨⟨c1, c2⟩, c3⟩, c4⟩ := hc
        have hn := (vwd_n hf.1 o (ak_lt c1 (by have := hf.1; omega)) c1).symm
        have hfin : ffi a b = true → mx i = true ∧ oC i = a := fun q => ⟨c4.resolve_right (by rw [q]; simp), hfi.resolve_left (by rw [q]; simp)⟩
        split at h
        next x hk =>
          have hz := tyk_of hf.1 hf.2.1 (v := .int x) (Or.inl ⟨hk, x, rfl⟩)
          exact r_putfield (M1 := (u2 M.1 o b x, M.2)) hd hf c1 c2 hn hfin hz.1 hz.2 (by rw [← fv_int (G := G) (Or.inl hk)]; show Value.int (u2 M.1 o b x o b) = _; rw [u2_at]; rfl) (fun j hj => ⟨u2_off hj, rfl, rfl⟩) (fun j hj => fv_row (u2_ne hj) rfl rfl) (fun _ => rfl) (hkn rfl _ _ _ _ h)
        next x hk =>
          have hz := tyk_of hf.1 hf.2.1 (v := .long x) (Or.inr (Or.inl ⟨hk, x, rfl⟩))
          exact r_putfield (M1 := (M.1, u2 M.2.1 o b x, M.2.2)) hd hf c1 c2 hn hfin hz.1 hz.2 (by rw [← fv_long (G := G) hk]; show Value.long (u2 M.2.1 o b x o b) = _; rw [u2_at]; rfl) (fun j hj => ⟨rfl, u2_off hj, rfl⟩) (fun j hj => fv_row rfl (u2_ne hj) rfl) (fun _ => rfl) (hkn rfl _ _ _ _ h)
        next x hk =>
          have hz := tyk_of hf.1 hf.2.1 (v := .ref (adr G x)) (Or.inr (Or.inr (Or.inl ⟨Or.inl hk, _, rfl⟩)))
          exact r_putfield (M1 := (M.1, M.2.1, u2 M.2.2 o b (some x))) hd hf c1 c2 hn hfin hz.1 hz.2 (by rw [← fv_ref (G := G) (q := x) hk]; show u2 M.2.2 o b (some x) o b = _; exact u2_at) (fun j hj => ⟨rfl, rfl, u2_off hj⟩) (fun j hj => fv_row rfl rfl (u2_ne hj)) (fun q => absurd hm2 (by rw [hk, q]; decide)) (hkn rfl _ _ _ _ h)
        next x hk =>
          have hz := tyk_of hf.1 hf.2.1 (v := .int x) (Or.inr (Or.inr (Or.inr ⟨hk, x, rfl, h.1⟩)))
          exact r_putfield (M1 := (u2 M.1 o b x, M.2)) hd hf c1 c2 hn hfin hz.1 hz.2 (by rw [← fv_int (G := G) (Or.inr hk)]; show Value.int (u2 M.1 o b x o b) = _; rw [u2_at]; rfl) (fun j hj => ⟨u2_off hj, rfl, rfl⟩) (fun j hj => fv_row (u2_ne hj) rfl rfl) (fun _ => rfl) (hkn rfl _ _ _ _ h.2)
        next x hk =>
          have hz := tyk_of hf.1 hf.2.1 (v := .ref (adr G x)) (Or.inr (Or.inr (Or.inl ⟨Or.inr hk, _, rfl⟩)))
          have hx2 : x < 2 ^ 31 := Nat.lt_of_lt_of_le h.1.2 (Nat.le_of_ble_eq_true rfl)
          have hcl : ix (nI x) = x := nI_clamp hx2
          exact r_putfield (M1 := (u2 M.1 o b (nI x), M.2)) hd hf c1 c2 hn hfin hz.1 hz.2 (by
        have h5 : (u2 M.1 o b (nI x), M.2).1 o b = nI x := u2_at
        rw [← fv_mut (G := G) (M := (u2 M.1 o b (nI x), M.2)) (by rw [hk]; decide) (by rw [h5]; exact nI_ne0 h.1.1 hx2) (by rw [h5, hcl]; exact h.1.2), h5, hcl]) (fun j hj => ⟨u2_off hj, rfl, rfl⟩) (fun j hj => fv_row (u2_ne hj) rfl rfl) (fun _ => rfl) (hkn rfl _ _ _ _ h.2)
        next => exact h.elim
      next => exact h.elim
    next => exact h.elim
  case iaload =>
    replace hd := hd.resolve_left (by simp [isNop])
    obtain rfl : len = 1 := nbq.mp hs
    unfold vi at h
    dsimp only at h
    split at h
    next j c r =>
      split at h
      next hc =>
        obtain rfl := nbq.mp hc
        exact r_sload hd h.1 (hkn rfl _ _ _ _ h.2)
      next => exact h.elim
    next j c r _ =>
      obtain ⟨h1, h2, h3, h4⟩ := arP_of h
      exact r_iaload hd h1 h2 h3 (hkn rfl _ _ _ _ h4)
    next => exact h.elim
  case baload =>
    replace hd := hd.resolve_left (by simp [isNop])
    obtain rfl : len = 1 := nbq.mp hs
    unfold vi at h
    dsimp only at h
    split at h
    next j c r =>
      obtain ⟨h1, h2, h3, h4⟩ := arP_of h
      exact r_baload hd h1 h2 h3 (hkn rfl _ _ _ _ h4)
    next => exact h.elim
  case aaload =>
    replace hd := hd.resolve_left (by simp [isNop])
    obtain rfl : len = 1 := nbq.mp hs
    unfold vi at h
    dsimp only at h
    split at h
    next j c r =>
      obtain ⟨h1, h2, h3, h4⟩ := arP_of h
      exact r_aaload hd h1 h2 h3 (hkn rfl _ _ _ _ h4)
    next => exact h.elim
  case iastore =>
    replace hd := hd.resolve_left (by simp [isNop])
    obtain rfl : len = 1 := nbq.mp hs
    unfold vi at h
    dsimp only at h
    split at h
    next x j c r =>
      obtain ⟨h1, h2, h3, h4⟩ := arP_of h
      exact r_iastore hd h1 h2 h3 (hkn rfl _ _ _ _ h4)
    next => exact h.elim
  case bastore =>
    replace hd := hd.resolve_left (by simp [isNop])
    obtain rfl : len = 1 := nbq.mp hs
    unfold vi at h
    dsimp only at h
    split at h
    next x j c r =>
      obtain ⟨h1, h2, h3, h4, h5⟩ := arP_of h
      exact r_bastore hd h1 h2 h3 h4 (hkn rfl _ _ _ _ h5)
    next => exact h.elim
  case arraylength =>
    replace hd := hd.resolve_left (by simp [isNop])
    obtain rfl : len = 1 := nbq.mp hs
    unfold vi at h
    dsimp only at h
    split at h
    next c r =>
      split at h
      next hc =>
        obtain rfl := nbq.mp hc
        exact r_slen hd (hkn rfl _ _ _ _ h)
      next => exact h.elim
    next c r =>
      split at h
      next hc =>
        simp only [Bool.and_eq_true, Bool.or_eq_true, nbq, nbl] at hc
        exact r_alen hd hc.1 hc.2 (hkn rfl _ _ _ _ h)
      next => exact h.elim
    next c r _ _ => exact r_alen hd (Or.inl h.1.1) h.1.2 (hkn rfl _ _ _ _ h.2)
    next => exact h.elim
  case dup =>
    replace hd := hd.resolve_left (by simp [isNop])
    obtain rfl : len = 1 := nbq.mp hs
    unfold vi at h
    dsimp only at h
    split at h
    next v r =>
      split at h
      next hc => exact r_dup hd (nbq.mp hc) (hkn rfl _ _ _ _ h)
      next => exact h.elim
    next => exact h.elim
  case pop =>
    replace hd := hd.resolve_left (by simp [isNop])
    obtain rfl : len = 1 := nbq.mp hs
    unfold vi at h
    dsimp only at h
    split at h
    next v r =>
      split at h
      next hc => exact r_pop hd (nbq.mp hc) (hkn rfl _ _ _ _ h)
      next => exact h.elim
    next => exact h.elim
  case dup2 =>
    replace hd := hd.resolve_left (by simp [isNop])
    obtain rfl : len = 1 := nbq.mp hs
    unfold vi at h
    dsimp only at h
    split at h
    next v w r =>
      split at h
      next hc =>
        simp only [Bool.and_eq_true, nbq] at hc
        exact r_dup2 hd hc.1 hc.2 (hkn rfl _ _ _ _ h)
      next => exact h.elim
    next => exact h.elim
  case ireturn =>
    replace hd := hd.resolve_left (by simp [isNop])
    unfold sdk at hs
    simp only [Bool.and_eq_true, nbq, decide_eq_true_eq] at hs
    obtain ⟨rfl, hs⟩ := hs
    unfold vi at h
    dsimp only at h
    split at h
    next x ht =>
      split at h
      next hz => exact r_ret (v := some (.int x)) ⟨hd, Or.inr ⟨(hs.resolve_right (fun q => by rw [hz] at q; cases q.1)).2, h.1⟩⟩ ht h.2
      next hz => exact r_ret (v := some (.int x)) ⟨hd, Or.inl (hs.resolve_left (fun q => by rw [hz] at q; cases q.1)).2⟩ ht h
    next => exact h.elim
  case lreturn =>
    replace hd := hd.resolve_left (by simp [isNop])
    unfold sdk at hs
    simp only [Bool.and_eq_true, nbq, decide_eq_true_eq] at hs
    obtain ⟨rfl, hs⟩ := hs
    unfold vi at h
    dsimp only at h
    split at h
    next x ht => exact r_ret (v := some (.long x)) ⟨hd, hs⟩ ht h
    next => exact h.elim
  case areturn =>
    replace hd := hd.resolve_left (by simp [isNop])
    unfold sdk at hs
    simp only [Bool.and_eq_true, nbq, decide_eq_true_eq] at hs
    obtain ⟨rfl, hs⟩ := hs
    unfold vi at h
    dsimp only at h
    split at h
    next x ht => exact r_ret (v := some (.ref x)) ⟨hd, hs⟩ ht h
    next => exact h.elim
  case return_ =>
    replace hd := hd.resolve_left (by simp [isNop])
    unfold sdk at hs
    simp only [Bool.and_eq_true, nbq, decide_eq_true_eq] at hs
    obtain ⟨rfl, hs⟩ := hs
    unfold vi at h
    dsimp only at h
    split at h
    next ht => exact r_ret (v := none) ⟨hd, hs⟩ ht h
    next => exact h.elim
  case invokevirtual idx =>
    replace hd := hd.resolve_left (by simp [isNop])
    unfold sdk at hs
    simp only [Bool.and_eq_true, nbq] at hs
    obtain ⟨rfl, hs⟩ := hs
    unfold vi at h
    dsimp only at h
    split at h
    next n rt dec =>
      simp only [Bool.and_eq_true, nbq, nbl, Bool.not_eq_true'] at hs
      obtain ⟨⟨⟨⟨⟨s1, s2⟩, s3⟩, s4⟩, s5⟩, s6⟩ := hs
      obtain ⟨j1, j2, j3, j4, j5, j6, j7, j8⟩ := jc_of (j := a) (by omega)
      rw [s3] at j2
      have hl := mOk_of s1
      split at h
      next o r hdr =>
        split at h
        next hc =>
          simp only [Bool.and_eq_true, nbq, nbl] at hc
          obtain ⟨⟨⟨c1, c2⟩, c3⟩, c4⟩ := hc
          have hst : st = (st.take n).reverse.reverse ++ .ref o :: r := by rw [List.reverse_reverse, ← hdr, List.take_append_drop]
          have hlen : (st.take n).reverse.length = na a := by rw [List.length_reverse, List.length_take]; omega
          split at h
          next =>
            obtain ⟨d1, d2⟩ := ivk_of h
            rw [hst]
            refine r_invV (e1 := e - dec) hd j1 hl j2 (j3 s3 s4) j7 c1 c2 s4 (j8 s4) (by omega) hlen c3 (wpc_mono (fun v M1 hK hmr => ?_) d2)
            obtain ⟨mi, ml, mr⟩ := M1
            cases v with
            | none => dsimp only at hmr; subst hmr; exact hkn rfl _ _ _ _ hK
            | some w => exact hK.elim
          next =>
            obtain ⟨d1, d2⟩ := ivk_of h
            rw [hst]
            refine r_invV (e1 := e - dec) hd j1 hl j2 (j3 s3 s4) j7 c1 c2 s4 (j8 s4) (by omega) hlen c3 (wpc_mono (fun v M1 hK hmr => ?_) d2)
            obtain ⟨mi, ml, mr⟩ := M1
            cases v with
            | none => exact hK.elim
            | some w => cases w <;> first | exact False.elim hK | (dsimp only at hmr; subst hmr; exact hkn rfl _ _ _ _ hK)
          next =>
            obtain ⟨d1, d2⟩ := ivk_of h
            rw [hst]
            refine r_invV (e1 := e - dec) hd j1 hl j2 (j3 s3 s4) j7 c1 c2 s4 (j8 s4) (by omega) hlen c3 (wpc_mono (fun v M1 hK hmr => ?_) d2)
            obtain ⟨mi, ml, mr⟩ := M1
            cases v with
            | none => exact hK.elim
            | some w => cases w <;> first | exact False.elim hK | (dsimp only at hmr; subst hmr; exact hkn rfl _ _ _ _ hK)
          next =>
            obtain ⟨d1, d2⟩ := ivk_of h
            rw [hst]
            refine r_invV (e1 := e - dec) hd j1 hl j2 (j3 s3 s4) j7 c1 c2 s4 (j8 s4) (by omega) hlen c3 (wpc_mono (fun v M1 hK hmr => ?_) d2)
            obtain ⟨mi, ml, mr⟩ := M1
            cases v with
            | none => exact hK.elim
            | some w => cases w <;> first | exact False.elim hK | (dsimp only at hmr; subst hmr; exact hkn rfl _ _ _ _ hK)
          next => exact h.elim
        next => exact h.elim
      next => exact h.elim
    next =>
      split at h
      next c r => exact r_strlen hd hs h.1.1 h.1.2 (hkn rfl _ _ _ _ h.2)
      next => exact h.elim
    next =>
      split at h
      next j c r => exact r_charAt hd hs h.1.1 h.1.2 h.2.1 (hkn rfl _ _ _ _ h.2.2)
      next => exact h.elim
    next => exact h.elim
  case invokestatic idx =>
    replace hd := hd.resolve_left (by simp [isNop])
    unfold sdk at hs
    simp only [Bool.and_eq_true, nbq] at hs
    obtain ⟨rfl, hs⟩ := hs
    unfold vi at h
    dsimp only at h
    split at h
    next n rt dec =>
      simp only [Bool.and_eq_true, nbq, nbl, Bool.not_eq_true'] at hs
      obtain ⟨⟨⟨⟨⟨s1, s2⟩, s3⟩, s4⟩, s5⟩, s6⟩ := hs
      obtain ⟨j1, j2, j3, j4, j5, j6, j7, j8⟩ := jc_of (j := a) (by omega)
      rw [s3] at j2
      have hl := mOk_of s1
      split at h
      next hc =>
        simp only [Bool.and_eq_true, nbl] at hc
        have hst : st = (st.take n).reverse.reverse ++ st.drop n := by rw [List.reverse_reverse, List.take_append_drop]
        have hlen : (st.take n).reverse.length = na a := by rw [List.length_reverse, List.length_take]; omega
        split at h
        next =>
          rw [hst]
          refine r_invS (e1 := e) hd j1 hl j2 s4 (j8 s4) (by omega) hlen hc.1 (wpc_mono (fun v M1 hK hmr => ?_) h)
          obtain ⟨mi, ml, mr⟩ := M1
          cases v with
          | none => dsimp only at hmr; subst hmr; exact hkn rfl _ _ _ _ hK
          | some w => exact hK.elim
        next =>
          rw [hst]
          refine r_invS (e1 := e) hd j1 hl j2 s4 (j8 s4) (by omega) hlen hc.1 (wpc_mono (fun v M1 hK hmr => ?_) h)
          obtain ⟨mi, ml, mr⟩ := M1
          cases v with
          | none => exact hK.elim
          | some w => cases w <;> first | exact False.elim hK | (dsimp only at hmr; subst hmr; exact hkn rfl _ _ _ _ hK)
        next =>
          rw [hst]
          refine r_invS (e1 := e) hd j1 hl j2 s4 (j8 s4) (by omega) hlen hc.1 (wpc_mono (fun v M1 hK hmr => ?_) h)
          obtain ⟨mi, ml, mr⟩ := M1
          cases v with
          | none => exact hK.elim
          | some w => cases w <;> first | exact False.elim hK | (dsimp only at hmr; subst hmr; exact hkn rfl _ _ _ _ hK)
        next => exact h.elim
      next => exact h.elim
    next =>
      simp only [Bool.and_eq_true, decide_eq_true_eq, nbl] at hs
      split at h
      next y x r =>
        split at h
        next hc => exact r_min hd hs.1 hs.2 (nbl.mp hc) (hkn rfl _ _ _ _ h)
        next => exact h.elim
      next => exact h.elim
    next =>
      simp only [Bool.and_eq_true, decide_eq_true_eq, nbq, nbl] at hs
      obtain ⟨⟨rfl, s2⟩, s3⟩ := hs
      split at h
      next n dp c1 sp c0 r =>
        split at h
        next hc =>
          obtain ⟨⟨⟨a1, a2⟩, a3, a4⟩, ⟨b1, b2, b3, b4, b5⟩, h9⟩ := h
          exact r_copy hd s2 a1 a2 a3 a4 b1 b2 b3 b4 b5 s3 (nbl.mp hc) (hkn rfl _ _ _ _ h9)
        next => exact h.elim
      next => exact h.elim
    next => exact h.elim
  case invokespecial idx =>
    replace hd := hd.resolve_left (by simp [isNop])
    unfold sdk at hs
    simp only [Bool.and_eq_true, nbq] at hs
    obtain ⟨rfl, hs⟩ := hs
    unfold vi at h
    dsimp only at h
    split at h
    next n rt dec =>
      simp only [Bool.and_eq_true, nbq, nbl, Bool.not_eq_true', Bool.or_eq_true, decide_eq_true_eq] at hs
      obtain ⟨⟨⟨⟨⟨⟨s1, s2⟩, s3⟩, s4⟩, s5⟩, s6⟩, s7⟩ := hs
      obtain ⟨j1, j2, j3, j4, j5, j6, j7, j8⟩ := jc_of (j := a) (by omega)
      rw [s3] at j2
      split at h
      next o r hdr =>
        split at h
        next hc =>
          have hst : st = (st.take n).reverse.reverse ++ .ref o :: r := by rw [List.reverse_reverse, ← hdr, List.take_append_drop]
          have hlen2 : n < st.length := by
            rcases Nat.lt_or_ge n st.length with q | q
            · exact q
            · rw [List.drop_eq_nil_of_le q] at hdr; cases hdr
          have hlen : (st.take n).reverse.length = na a := by rw [List.length_reverse, List.length_take]; omega
          obtain ⟨⟨a1, a2⟩, h9⟩ := h
          rw [hst]
          rcases s1 with s1 | ⟨⟨rfl, s8⟩, s9⟩
          · exact r_invI hd j1 (mOk_of s1) j2 (j4 s4).1 (j4 s4).2 s5 a1 a2 (by omega) hlen (nbl.mp hc) h9
          · exact r_invIN hd s8 s9 j1 j2 (j4 s4).1 (j4 s4).2 s5 a1 a2 (by omega) hlen (nbl.mp hc) h9
        next => exact h.elim
      next => exact h.elim
    next =>
      simp only [Bool.and_eq_true, nbl] at hs
      split at h
      next o r =>
        split at h
        next hc => exact r_objInit hd (oOk hs.1) hs.2 (nbl.mp hc) (hkn rfl _ _ _ _ h)
        next => exact h.elim
      next => exact h.elim
    next => exact h.elim
  case new idx =>
    replace hd := hd.resolve_left (by simp [isNop])
    unfold sdk at hs
    simp only [Bool.and_eq_true, nbq] at hs
    obtain ⟨rfl, hs⟩ := hs
    unfold vi at h
    dsimp only at h
    split at h
    next hc =>
      simp only [Bool.and_eq_true, nbq, nbl] at hc
      obtain ⟨⟨⟨c1, c2⟩, c3⟩, c4⟩ := hc
      obtain ⟨n1, n2, n3, n4⟩ := nOk hs
      exact r_new hd n1 c2 n2 n3 n4 c1 c3 c4 (hkn rfl _ _ _ _ h)
    next => exact h.elim
  case newarray ty =>
    replace hd := hd.resolve_left (by simp [isNop])
    obtain rfl : len = 2 := nbq.mp hs
    unfold vi at h
    dsimp only at h
    split at h
    next n r =>
      split at h
      next hc =>
        simp only [Bool.and_eq_true, nbl] at hc
        obtain ⟨⟨⟨c1, c2⟩, c3⟩, c4⟩ := hc
        obtain ⟨rfl, h9⟩ := h
        cases ty <;> first | exact r_newarrayI hd (nbq.mp c2) c1 c3 c4 (hkn rfl _ _ _ _ h9) | exact r_newarrayZ hd (nbq.mp c2) c1 c3 c4 (hkn rfl _ _ _ _ h9) | exact absurd (show false = true from c2) Bool.false_ne_true
      next => exact h.elim
    next => exact h.elim
  case multianewarray idx d =>
    replace hd := hd.resolve_left (by simp [isNop])
    unfold sdk at hs
    simp only [Bool.and_eq_true, nbq] at hs
    obtain ⟨⟨rfl, rfl⟩, hs⟩ := hs
    unfold vi at h
    dsimp only at h
    split at h
    next k n r =>
      split at h
      next hc =>
        simp only [Bool.and_eq_true, nbq, nbl] at hc
        obtain ⟨⟨⟨⟨⟨c1, c2⟩, c3⟩, c4⟩, c5⟩, c6⟩ := hc
        obtain ⟨⟨rfl, rfl⟩, h9⟩ := h
        have hrow : ∀ j, j < an t.1 → ak (t.1 + 1 + j) = 11 ∧ an (t.1 + 1 + j) = an (t.1 + 1) := fun j hj => by
          have := List.all_eq_true.mp c6 j (List.mem_range.mpr hj)
          simp only [Bool.and_eq_true, nbq] at this
          exact this
        exact r_mna hd (xOk hs) c2 c3 hrow c1 c4 c5 (rows_next c2) (hkn rfl _ _ _ _ h9)
      next => exact h.elim
    next => exact h.elim
  all_goals exact False.elim h
theorem sfx_head {i tg : Nat} {x : RI} {rs : List RI} (h : sfx i tg = x :: rs) : x.1 = tg := by
  have h1 : (cd i).dropWhile (fun x => x.1 != tg) = x :: rs := h
  have h2 := List.head?_dropWhile_not (fun x : RI => x.1 != tg) (cd i)
  rw [h1] at h2
  simpa using h2
theorem vc_sound0 {G : GC} {e i : Nat} (hi : i < 272) {Q : Option Value → Mem → Prop} : ∀ (f : Nat) {x : RI} {rs : List RI} {t : T3} {l : LV} {st : List Value} {M : Mem}, chkL i (x :: rs) = true → vc G e i Q f (x :: rs) t l st M → wp G e t i x.1 l st M Q
  | 0, _, _, _, _, _, _, _, h => False.elim h
  | f + 1, x, rs, t, l, st, M, hc, h => by
    have hc0 := hc
    unfold chkL at hc
    simp only [Bool.and_eq_true] at hc
    obtain ⟨⟨h1, h2⟩, h3⟩ := hc
    refine vi_sound (len := x.2.1) (kn := vc G e i Q f rs) (kj := fun tg => vc G e i Q f (sfx i tg)) h1 (fun hf t l st M hk => ?_) (fun tg t l st M hk => ?_) h
    · unfold nxt at h2
      rw [hf] at h2
      cases rs with
      | nil => simp at h2
      | cons y ys =>
        simp at h2
        rw [← h2]
        exact vc_sound0 hi f h3 hk
    · cases hs : sfx i tg with
      | nil => 
        rw [hs] at hk
        cases f <;> exact False.elim hk
      | cons y ys =>
        rw [hs] at hk
        have hy := sfx_head hs
        rw [← hy]
        refine vc_sound0 hi f ?_ hk
        rw [← hs]
        exact chkL_drop _ (ck_all hi)
/-- a block of the method i, from the mark at pc -/
theorem vc_at {G : GC} {e i pc : Nat} {Q : Option Value → Mem → Prop} {t : T3} {l : LV} {st : List Value} {M : Mem} (f : Nat) (hi : i < 272) {x : RI} {rs : List RI} (hs : sfx i pc = x :: rs) (y : RI) (ys : List RI) (hr : rs = y :: ys) (hpc : y.1 = pc) (h : vc G e i Q f (y :: ys) t l st M) : wp G e t i pc l st M Q := by
  rw [← hpc]
  refine vc_sound0 hi f ?_ h
  rw [← hr]
  refine chkL_tail (x := x) ?_
  rw [← hs]
  exact chkL_drop _ (ck_all hi)
/-- a method from its entry -/
theorem vc_in {G : GC} {e j lb : Nat} {As : List Value} {M : Mem} {K : Option Value → Mem → Prop} (f : Nat) (hj : j < 271) (hs : Nat.ble (cats As) (nL j) = true) (x : RI) (rs : List RI) (hc : cd j = x :: rs) (h0 : x.1 = 0) (h : vc G e j K f (x :: rs) (lb, (alc j).1, (alc j).2) (lv_args 0 As) [] M) : wpc G e lb j As M K := by
  obtain ⟨j1, j2, j3, j4, j5, j6, j7, j8⟩ := jc_of hj
  refine wpc_of j6 (nbl.mp hs) rfl j5 (fun q => (j4 q).1) ?_
  have h9 := vc_sound0 (by omega) f (by rw [← hc]; exact ck_all (by omega)) h
  rw [h0] at h9
  exact h9
end
section
theorem e_X1_setBase {G : GC} {e : Nat} {mi : Nat → Nat → Int32} {ml : Nat → Nat → Int64} {y : Nat → Nat → Option Nat} {K : (Nat → Nat → Int32) → (Nat → Nat → Int64) → Prop} (v1 : Int32) (h : ((v1 < (nI 2) → K mi ml) ∧ (¬ v1 < (nI 2) → ((v1 ≤ (nI 5) → wp G e tX m_X1_setBase 20 [(0, .ref 1), (1, .int v1), (2, .int (nI 1)), (3, .int (nI 0))] [] ((u2 mi 1 0 v1), ml, (RX y)) (QV K)) ∧ (¬ v1 ≤ (nI 5) → K mi ml))))) : wpV G e 154 m_X1_setBase [.ref 1, .int v1] (mi, ml, (RX y)) K :=
  vc_in 600 (Nat.le_of_ble_eq_true rfl) rfl _ _ rfl rfl h
theorem b_X1_setBase_20 {G : GC} {e : Nat} {mi : Nat → Nat → Int32} {ml : Nat → Nat → Int64} {y : Nat → Nat → Option Nat} {K : (Nat → Nat → Int32) → (Nat → Nat → Int64) → Prop} (v1 v2 v3 : Int32) (h : (((nI 14) ≤ v3 → K mi ml) ∧ (¬ (nI 14) ≤ v3 → (vp_in v3 14 ∧ wp G e tX m_X1_setBase 20 [(0, .ref 1), (1, .int v1), (2, .int (v2 * v1)), (3, .int (v3 + (nI 1)))] [] ((u2 mi 2 (ix v3) v2), ml, (RX y)) (QV K))))) : wp G e tX m_X1_setBase 20 [(0, .ref 1), (1, .int v1), (2, .int v2), (3, .int v3)] [] (mi, ml, (RX y)) (QV K) :=
  vc_at 600 (Nat.le_of_ble_eq_true rfl) rfl _ _ rfl rfl h
theorem e_X1_base {G : GC} {e : Nat} {mi : Nat → Nat → Int32} {ml : Nat → Nat → Int64} {y : Nat → Nat → Option Nat} {K : Int32 → (Nat → Nat → Int32) → (Nat → Nat → Int64) → Prop} (h : K (mi 1 0) mi ml) : wpI G e 154 m_X1_base [.ref 1] (mi, ml, (RX y)) K :=
  vc_in 600 (Nat.le_of_ble_eq_true rfl) rfl _ _ rfl rfl h
theorem e_X1_power {G : GC} {e : Nat} {mi : Nat → Nat → Int32} {ml : Nat → Nat → Int64} {y : Nat → Nat → Option Nat} {K : Int32 → (Nat → Nat → Int32) → (Nat → Nat → Int64) → Prop} (v1 : Int32) (h : ((v1 < (nI 0) → K (nI 0) mi ml) ∧ (¬ v1 < (nI 0) → ((v1 < (nI 14) → (vp_in v1 14 ∧ K (mi 2 (ix v1)) mi ml)) ∧ (¬ v1 < (nI 14) → K (nI 0) mi ml))))) : wpI G e 154 m_X1_power [.ref 1, .int v1] (mi, ml, (RX y)) K :=
  vc_in 600 (Nat.le_of_ble_eq_true rfl) rfl _ _ rfl rfl h
theorem e_X1_holds {G : GC} {e : Nat} {mi : Nat → Nat → Int32} {ml : Nat → Nat → Int64} {y : Nat → Nat → Option Nat} {K : Int32 → (Nat → Nat → Int32) → (Nat → Nat → Int64) → Prop} (v1 : Int32) (h : ((v1 < (nI 0) → (isB (nI 0) ∧ K (nI 0) mi ml)) ∧ (¬ v1 < (nI 0) → (vp_in (nI 13) 14 ∧ (((mi 2 (ix (nI 13))) ≤ v1 → (isB (nI 0) ∧ K (nI 0) mi ml)) ∧ (¬ (mi 2 (ix (nI 13))) ≤ v1 → (isB (nI 1) ∧ K (nI 1) mi ml))))))) : wpI G e 154 m_X1_holds [.ref 1, .int v1] (mi, ml, (RX y)) K :=
  vc_in 600 (Nat.le_of_ble_eq_true rfl) rfl _ _ rfl rfl h
theorem e_X1_degree {G : GC} {e : Nat} {mi : Nat → Nat → Int32} {ml : Nat → Nat → Int64} {y : Nat → Nat → Option Nat} {K : Int32 → (Nat → Nat → Int32) → (Nat → Nat → Int64) → Prop} (v1 : Int32) (h : wp G e tX m_X1_degree 2 [(0, .ref 1), (1, .int v1), (2, .int (-(nI 1)))] [] (mi, ml, (RX y)) (QI K)) : wpI G e 154 m_X1_degree [.ref 1, .int v1] (mi, ml, (RX y)) K :=
  vc_in 600 (Nat.le_of_ble_eq_true rfl) rfl _ _ rfl rfl h
theorem b_X1_degree_2 {G : GC} {e : Nat} {mi : Nat → Nat → Int32} {ml : Nat → Nat → Int64} {y : Nat → Nat → Option Nat} {K : Int32 → (Nat → Nat → Int32) → (Nat → Nat → Int64) → Prop} (v1 v2 : Int32) (h : (((nI 13) ≤ (v2 + (nI 1)) → K v2 mi ml) ∧ (¬ (nI 13) ≤ (v2 + (nI 1)) → (vp_in (v2 + (nI 1)) 14 ∧ ((v1 < (mi 2 (ix (v2 + (nI 1)))) → K v2 mi ml) ∧ (¬ v1 < (mi 2 (ix (v2 + (nI 1)))) → wp G e tX m_X1_degree 2 [(0, .ref 1), (1, .int v1), (2, .int (v2 + (nI 1)))] [] (mi, ml, (RX y)) (QI K))))))) : wp G e tX m_X1_degree 2 [(0, .ref 1), (1, .int v1), (2, .int v2)] [] (mi, ml, (RX y)) (QI K) :=
  vc_at 600 (Nat.le_of_ble_eq_true rfl) rfl _ _ rfl rfl h
theorem e_X1_figure {G : GC} {e : Nat} {mi : Nat → Nat → Int32} {ml : Nat → Nat → Int64} {y : Nat → Nat → Option Nat} {K : Int32 → (Nat → Nat → Int32) → (Nat → Nat → Int64) → Prop} (v1 v2 : Int32) (h : ((v2 < (nI 0) → K (nI 0) mi ml) ∧ (¬ v2 < (nI 0) → (((nI 14) ≤ v2 → K (nI 0) mi ml) ∧ (¬ (nI 14) ≤ v2 → (vp_in v2 14 ∧ (((mi 2 (ix v2)) < (nI 1) → K (nI 0) mi ml) ∧ (¬ (mi 2 (ix v2)) < (nI 1) → (((nI 2) ≤ (mi 1 0) → (vp_in v2 14 ∧ (¬ (mi 2 (ix v2)) = 0 ∧ (¬ (mi 1 0) = 0 ∧ K (rm (v1 / (mi 2 (ix v2))) (mi 1 0)) mi ml)))) ∧ (¬ (nI 2) ≤ (mi 1 0) → K (nI 0) mi ml)))))))))) : wpI G e 154 m_X1_figure [.ref 1, .int v1, .int v2] (mi, ml, (RX y)) K :=
  vc_in 600 (Nat.le_of_ble_eq_true rfl) rfl _ _ rfl rfl h
theorem e_X1_first {G : GC} {e : Nat} {mi : Nat → Nat → Int32} {ml : Nat → Nat → Int64} {y : Nat → Nat → Option Nat} {K : Int32 → (Nat → Nat → Int32) → (Nat → Nat → Int64) → Prop} (v1 : Int32) (h : (wpI G e 154 m_X1_degree [.ref 1, .int v1] (mi, ml, (RX y)) (fun r3 mi1 ml2 => (wpI G e 154 m_X1_figure [.ref 1, .int v1, .int r3] (mi1, ml2, (RX y)) (fun r6 mi4 ml5 => K r6 mi4 ml5))))) : wpI G e 154 m_X1_first [.ref 1, .int v1] (mi, ml, (RX y)) K :=
  vc_in 600 (Nat.le_of_ble_eq_true rfl) rfl _ _ rfl rfl h
theorem e_X1_isMonic {G : GC} {e : Nat} {mi : Nat → Nat → Int32} {ml : Nat → Nat → Int64} {y : Nat → Nat → Option Nat} {K : Int32 → (Nat → Nat → Int32) → (Nat → Nat → Int64) → Prop} (v1 : Int32) (h : (wpI G e 154 m_X1_first [.ref 1, .int v1] (mi, ml, (RX y)) (fun r3 mi1 ml2 => ((¬ r3 = (nI 1) → (isB (nI 0) ∧ K (nI 0) mi1 ml2)) ∧ (r3 = (nI 1) → (isB (nI 1) ∧ K (nI 1) mi1 ml2)))))) : wpI G e 154 m_X1_isMonic [.ref 1, .int v1] (mi, ml, (RX y)) K :=
  vc_in 600 (Nat.le_of_ble_eq_true rfl) rfl _ _ rfl rfl h
theorem e_X1_inverse {G : GC} {e : Nat} {mi : Nat → Nat → Int32} {ml : Nat → Nat → Int64} {y : Nat → Nat → Option Nat} {K : Int32 → (Nat → Nat → Int32) → (Nat → Nat → Int64) → Prop} (v1 : Int32) (h : wp G e tX m_X1_inverse 2 [(0, .ref 1), (1, .int v1), (2, .int (nI 1))] [] (mi, ml, (RX y)) (QI K)) : wpI G e 154 m_X1_inverse [.ref 1, .int v1] (mi, ml, (RX y)) K :=
  vc_in 600 (Nat.le_of_ble_eq_true rfl) rfl _ _ rfl rfl h
theorem b_X1_inverse_2 {G : GC} {e : Nat} {mi : Nat → Nat → Int32} {ml : Nat → Nat → Int64} {y : Nat → Nat → Option Nat} {K : Int32 → (Nat → Nat → Int32) → (Nat → Nat → Int64) → Prop} (v1 v2 : Int32) (h : (((mi 1 0) ≤ v2 → K (nI 0) mi ml) ∧ (¬ (mi 1 0) ≤ v2 → (¬ (mi 1 0) = 0 ∧ ((¬ (rm (v1 * v2) (mi 1 0)) = (nI 1) → wp G e tX m_X1_inverse 2 [(0, .ref 1), (1, .int v1), (2, .int (v2 + (nI 1)))] [] (mi, ml, (RX y)) (QI K)) ∧ ((rm (v1 * v2) (mi 1 0)) = (nI 1) → K v2 mi ml)))))) : wp G e tX m_X1_inverse 2 [(0, .ref 1), (1, .int v1), (2, .int v2)] [] (mi, ml, (RX y)) (QI K) :=
  vc_at 600 (Nat.le_of_ble_eq_true rfl) rfl _ _ rfl rfl h
theorem e_X1_negative {G : GC} {e : Nat} {mi : Nat → Nat → Int32} {ml : Nat → Nat → Int64} {y : Nat → Nat → Option Nat} {K : Int32 → (Nat → Nat → Int32) → (Nat → Nat → Int64) → Prop} (v1 : Int32) (h : (¬ (mi 1 0) = 0 ∧ K (rm ((mi 1 0) - v1) (mi 1 0)) mi ml)) : wpI G e 154 m_X1_negative [.ref 1, .int v1] (mi, ml, (RX y)) K :=
  vc_in 600 (Nat.le_of_ble_eq_true rfl) rfl _ _ rfl rfl h
theorem e_X1_mix {G : GC} {e : Nat} {mi : Nat → Nat → Int32} {ml : Nat → Nat → Int64} {y : Nat → Nat → Option Nat} {K : Int32 → (Nat → Nat → Int32) → (Nat → Nat → Int64) → Prop} (v1 v2 v3 : Int32) (h : ((¬ (mi 1 0) = (nI 2) → wp G e tX m_X1_mix 26 [(0, .ref 1), (1, .int v1), (2, .int v2), (3, .int v3), (4, .int (nI 0)), (5, .int (nI 0))] [] (mi, ml, (RX y)) (QI K)) ∧ ((mi 1 0) = (nI 2) → ((¬ v3 = (nI 0) → K (v1 ^^^ v2) mi ml) ∧ (v3 = (nI 0) → K v1 mi ml))))) : wpI G e 154 m_X1_mix [.ref 1, .int v1, .int v2, .int v3] (mi, ml, (RX y)) K :=
  vc_in 600 (Nat.le_of_ble_eq_true rfl) rfl _ _ rfl rfl h
theorem b_X1_mix_26 {G : GC} {e : Nat} {mi : Nat → Nat → Int32} {ml : Nat → Nat → Int64} {y : Nat → Nat → Option Nat} {K : Int32 → (Nat → Nat → Int32) → (Nat → Nat → Int64) → Prop} (v1 v2 v3 v4 v5 : Int32) (h : (((nI 13) ≤ v5 → K v4 mi ml) ∧ (¬ (nI 13) ≤ v5 → (((nI 0) < v1 → (¬ (mi 1 0) = 0 ∧ (¬ (mi 1 0) = 0 ∧ (¬ (mi 1 0) = 0 ∧ (vp_in v5 14 ∧ (¬ (mi 1 0) = 0 ∧ (¬ (mi 1 0) = 0 ∧ wp G e tX m_X1_mix 26 [(0, .ref 1), (1, .int (v1 / (mi 1 0))), (2, .int (v2 / (mi 1 0))), (3, .int v3), (4, .int (v4 + ((rm ((rm v1 (mi 1 0)) + (v3 * (rm v2 (mi 1 0)))) (mi 1 0)) * (mi 2 (ix v5))))), (5, .int (v5 + (nI 1)))] [] (mi, ml, (RX y)) (QI K)))))))) ∧ (¬ (nI 0) < v1 → ((v2 ≤ (nI 0) → K v4 mi ml) ∧ (¬ v2 ≤ (nI 0) → (¬ (mi 1 0) = 0 ∧ (¬ (mi 1 0) = 0 ∧ (¬ (mi 1 0) = 0 ∧ (vp_in v5 14 ∧ (¬ (mi 1 0) = 0 ∧ (¬ (mi 1 0) = 0 ∧ wp G e tX m_X1_mix 26 [(0, .ref 1), (1, .int (v1 / (mi 1 0))), (2, .int (v2 / (mi 1 0))), (3, .int v3), (4, .int (v4 + ((rm ((rm v1 (mi 1 0)) + (v3 * (rm v2 (mi 1 0)))) (mi 1 0)) * (mi 2 (ix v5))))), (5, .int (v5 + (nI 1)))] [] (mi, ml, (RX y)) (QI K)))))))))))))) : wp G e tX m_X1_mix 26 [(0, .ref 1), (1, .int v1), (2, .int v2), (3, .int v3), (4, .int v4), (5, .int v5)] [] (mi, ml, (RX y)) (QI K) :=
  vc_at 600 (Nat.le_of_ble_eq_true rfl) rfl _ _ rfl rfl h
theorem e_X1_sum {G : GC} {e : Nat} {mi : Nat → Nat → Int32} {ml : Nat → Nat → Int64} {y : Nat → Nat → Option Nat} {K : Int32 → (Nat → Nat → Int32) → (Nat → Nat → Int64) → Prop} (v1 v2 : Int32) (h : (wpI G e 154 m_X1_mix [.ref 1, .int v1, .int v2, .int (nI 1)] (mi, ml, (RX y)) (fun r3 mi1 ml2 => K r3 mi1 ml2))) : wpI G e 154 m_X1_sum [.ref 1, .int v1, .int v2] (mi, ml, (RX y)) K :=
  vc_in 600 (Nat.le_of_ble_eq_true rfl) rfl _ _ rfl rfl h
theorem e_X1_difference {G : GC} {e : Nat} {mi : Nat → Nat → Int32} {ml : Nat → Nat → Int64} {y : Nat → Nat → Option Nat} {K : Int32 → (Nat → Nat → Int32) → (Nat → Nat → Int64) → Prop} (v1 v2 : Int32) (h : (wpI G e 154 m_X1_mix [.ref 1, .int v1, .int v2, .int ((mi 1 0) - (nI 1))] (mi, ml, (RX y)) (fun r3 mi1 ml2 => K r3 mi1 ml2))) : wpI G e 154 m_X1_difference [.ref 1, .int v1, .int v2] (mi, ml, (RX y)) K :=
  vc_in 600 (Nat.le_of_ble_eq_true rfl) rfl _ _ rfl rfl h
theorem e_X1_monic {G : GC} {e : Nat} {mi : Nat → Nat → Int32} {ml : Nat → Nat → Int64} {y : Nat → Nat → Option Nat} {K : Int32 → (Nat → Nat → Int32) → (Nat → Nat → Int64) → Prop} (v1 : Int32) (h : (wpI G e 154 m_X1_degree [.ref 1, .int v1] (mi, ml, (RX y)) (fun r3 mi1 ml2 => (wpI G e 154 m_X1_figure [.ref 1, .int v1, .int r3] (mi1, ml2, (RX y)) (fun r6 mi4 ml5 => (wpI G e 154 m_X1_inverse [.ref 1, .int r6] (mi4, ml5, (RX y)) (fun r9 mi7 ml8 => (wpI G e 154 m_X1_mix [.ref 1, .int (nI 0), .int v1, .int r9] (mi7, ml8, (RX y)) (fun r12 mi10 ml11 => K r12 mi10 ml11))))))))) : wpI G e 154 m_X1_monic [.ref 1, .int v1] (mi, ml, (RX y)) K :=
  vc_in 600 (Nat.le_of_ble_eq_true rfl) rfl _ _ rfl rfl h
theorem e_X1_fits {G : GC} {e : Nat} {mi : Nat → Nat → Int32} {ml : Nat → Nat → Int64} {y : Nat → Nat → Option Nat} {K : Int32 → (Nat → Nat → Int32) → (Nat → Nat → Int64) → Prop} (v1 v2 : Int32) (h : (wpI G e 154 m_X1_degree [.ref 1, .int v1] (mi, ml, (RX y)) (fun r3 mi1 ml2 => (wpI G e 154 m_X1_degree [.ref 1, .int v2] (mi1, ml2, (RX y)) (fun r6 mi4 ml5 => (((nI 13) ≤ (r3 + r6) → (isB (nI 0) ∧ K (nI 0) mi4 ml5)) ∧ (¬ (nI 13) ≤ (r3 + r6) → (isB (nI 1) ∧ K (nI 1) mi4 ml5)))))))) : wpI G e 154 m_X1_fits [.ref 1, .int v1, .int v2] (mi, ml, (RX y)) K :=
  vc_in 600 (Nat.le_of_ble_eq_true rfl) rfl _ _ rfl rfl h
theorem e_X1_product {G : GC} {e : Nat} {mi : Nat → Nat → Int32} {ml : Nat → Nat → Int64} {y : Nat → Nat → Option Nat} {K : Int32 → (Nat → Nat → Int32) → (Nat → Nat → Int64) → Prop} (v1 v2 : Int32) (h : (wpI G e 154 m_X1_degree [.ref 1, .int v1] (mi, ml, (RX y)) (fun r3 mi1 ml2 => wp G e tX m_X1_product 9 [(0, .ref 1), (1, .int v1), (2, .int v2), (3, .int (nI 0)), (4, .int r3)] [] (mi1, ml2, (RX y)) (QI K)))) : wpI G e 154 m_X1_product [.ref 1, .int v1, .int v2] (mi, ml, (RX y)) K :=
  vc_in 600 (Nat.le_of_ble_eq_true rfl) rfl _ _ rfl rfl h
theorem b_X1_product_9 {G : GC} {e : Nat} {mi : Nat → Nat → Int32} {ml : Nat → Nat → Int64} {y : Nat → Nat → Option Nat} {K : Int32 → (Nat → Nat → Int32) → (Nat → Nat → Int64) → Prop} (v1 v2 v3 v4 : Int32) (h : ((v4 < (nI 0) → K v3 mi ml) ∧ (¬ v4 < (nI 0) → (wpI G e 154 m_X1_figure [.ref 1, .int v1, .int v4] (mi, ml, (RX y)) (fun r3 mi1 ml2 => (wpI G e 154 m_X1_mix [.ref 1, .int (v3 * (mi 1 0)), .int v2, .int r3] (mi1, ml2, (RX y)) (fun r6 mi4 ml5 => wp G e tX m_X1_product 9 [(0, .ref 1), (1, .int v1), (2, .int v2), (3, .int r6), (4, .int (v4 + (-(nI 1))))] [] (mi4, ml5, (RX y)) (QI K)))))))) : wp G e tX m_X1_product 9 [(0, .ref 1), (1, .int v1), (2, .int v2), (3, .int v3), (4, .int v4)] [] (mi, ml, (RX y)) (QI K) :=
  vc_at 600 (Nat.le_of_ble_eq_true rfl) rfl _ _ rfl rfl h
theorem e_X1_rest {G : GC} {e : Nat} {mi : Nat → Nat → Int32} {ml : Nat → Nat → Int64} {y : Nat → Nat → Option Nat} {K : Int32 → (Nat → Nat → Int32) → (Nat → Nat → Int64) → Prop} (v1 v2 : Int32) (h : (wpI G e 154 m_X1_degree [.ref 1, .int v2] (mi, ml, (RX y)) (fun r3 mi1 ml2 => (wpI G e 154 m_X1_figure [.ref 1, .int v2, .int r3] (mi1, ml2, (RX y)) (fun r6 mi4 ml5 => (wpI G e 154 m_X1_inverse [.ref 1, .int r6] (mi4, ml5, (RX y)) (fun r9 mi7 ml8 => (wpI G e 154 m_X1_degree [.ref 1, .int v1] (mi7, ml8, (RX y)) (fun r12 mi10 ml11 => wp G e tX m_X1_rest 25 [(0, .ref 1), (1, .int v1), (2, .int v2), (3, .int r3), (4, .int r9), (5, .int r12)] [] (mi10, ml11, (RX y)) (QI K)))))))))) : wpI G e 154 m_X1_rest [.ref 1, .int v1, .int v2] (mi, ml, (RX y)) K :=
  vc_in 600 (Nat.le_of_ble_eq_true rfl) rfl _ _ rfl rfl h
theorem b_X1_rest_25 {G : GC} {e : Nat} {mi : Nat → Nat → Int32} {ml : Nat → Nat → Int64} {y : Nat → Nat → Option Nat} {K : Int32 → (Nat → Nat → Int32) → (Nat → Nat → Int64) → Prop} (v1 v2 v3 v4 v5 : Int32) (h : ((v5 < v3 → K v1 mi ml) ∧ (¬ v5 < v3 → ((v3 < (nI 0) → K v1 mi ml) ∧ (¬ v3 < (nI 0) → (wpI G e 154 m_X1_figure [.ref 1, .int v1, .int v5] (mi, ml, (RX y)) (fun r3 mi1 ml2 => (¬ (mi1 1 0) = 0 ∧ (wpI G e 154 m_X1_power [.ref 1, .int (v5 - v3)] (mi1, ml2, (RX y)) (fun r6 mi4 ml5 => (wpI G e 154 m_X1_negative [.ref 1, .int (rm (r3 * v4) (mi1 1 0))] (mi4, ml5, (RX y)) (fun r9 mi7 ml8 => (wpI G e 154 m_X1_mix [.ref 1, .int v1, .int (v2 * r6), .int r9] (mi7, ml8, (RX y)) (fun r12 mi10 ml11 => wp G e tX m_X1_rest 25 [(0, .ref 1), (1, .int r12), (2, .int v2), (3, .int v3), (4, .int v4), (5, .int (v5 + (-(nI 1))))] [] (mi10, ml11, (RX y)) (QI K))))))))))))))) : wp G e tX m_X1_rest 25 [(0, .ref 1), (1, .int v1), (2, .int v2), (3, .int v3), (4, .int v4), (5, .int v5)] [] (mi, ml, (RX y)) (QI K) :=
  vc_at 600 (Nat.le_of_ble_eq_true rfl) rfl _ _ rfl rfl h
theorem e_X1_quotient {G : GC} {e : Nat} {mi : Nat → Nat → Int32} {ml : Nat → Nat → Int64} {y : Nat → Nat → Option Nat} {K : Int32 → (Nat → Nat → Int32) → (Nat → Nat → Int64) → Prop} (v1 v2 : Int32) (h : (wpI G e 154 m_X1_degree [.ref 1, .int v2] (mi, ml, (RX y)) (fun r3 mi1 ml2 => (wpI G e 154 m_X1_figure [.ref 1, .int v2, .int r3] (mi1, ml2, (RX y)) (fun r6 mi4 ml5 => (wpI G e 154 m_X1_inverse [.ref 1, .int r6] (mi4, ml5, (RX y)) (fun r9 mi7 ml8 => (wpI G e 154 m_X1_degree [.ref 1, .int v1] (mi7, ml8, (RX y)) (fun r12 mi10 ml11 => wp G e tX m_X1_quotient 28 [(0, .ref 1), (1, .int v1), (2, .int v2), (3, .int r3), (4, .int r9), (5, .int (nI 0)), (6, .int r12)] [] (mi10, ml11, (RX y)) (QI K)))))))))) : wpI G e 154 m_X1_quotient [.ref 1, .int v1, .int v2] (mi, ml, (RX y)) K :=
  vc_in 600 (Nat.le_of_ble_eq_true rfl) rfl _ _ rfl rfl h
theorem b_X1_quotient_28 {G : GC} {e : Nat} {mi : Nat → Nat → Int32} {ml : Nat → Nat → Int64} {y : Nat → Nat → Option Nat} {K : Int32 → (Nat → Nat → Int32) → (Nat → Nat → Int64) → Prop} (v1 v2 v3 v4 v5 v6 : Int32) (h : ((v6 < v3 → K v5 mi ml) ∧ (¬ v6 < v3 → ((v3 < (nI 0) → K v5 mi ml) ∧ (¬ v3 < (nI 0) → (wpI G e 154 m_X1_figure [.ref 1, .int v1, .int v6] (mi, ml, (RX y)) (fun r3 mi1 ml2 => (¬ (mi1 1 0) = 0 ∧ (wpI G e 154 m_X1_power [.ref 1, .int (v6 - v3)] (mi1, ml2, (RX y)) (fun r6 mi4 ml5 => (wpI G e 154 m_X1_negative [.ref 1, .int (rm (r3 * v4) (mi1 1 0))] (mi4, ml5, (RX y)) (fun r9 mi7 ml8 => (wpI G e 154 m_X1_mix [.ref 1, .int v1, .int (v2 * r6), .int r9] (mi7, ml8, (RX y)) (fun r12 mi10 ml11 => (wpI G e 154 m_X1_power [.ref 1, .int (v6 - v3)] (mi10, ml11, (RX y)) (fun r15 mi13 ml14 => wp G e tX m_X1_quotient 28 [(0, .ref 1), (1, .int r12), (2, .int v2), (3, .int v3), (4, .int v4), (5, .int (v5 + ((rm (r3 * v4) (mi1 1 0)) * r15))), (6, .int (v6 + (-(nI 1))))] [] (mi13, ml14, (RX y)) (QI K))))))))))))))))) : wp G e tX m_X1_quotient 28 [(0, .ref 1), (1, .int v1), (2, .int v2), (3, .int v3), (4, .int v4), (5, .int v5), (6, .int v6)] [] (mi, ml, (RX y)) (QI K) :=
  vc_at 600 (Nat.le_of_ble_eq_true rfl) rfl _ _ rfl rfl h
theorem e_X1_common {G : GC} {e : Nat} {mi : Nat → Nat → Int32} {ml : Nat → Nat → Int64} {y : Nat → Nat → Option Nat} {K : Int32 → (Nat → Nat → Int32) → (Nat → Nat → Int64) → Prop} (v1 v2 : Int32) (h : wp G e tX m_X1_common 2 [(0, .ref 1), (1, .int v1), (2, .int v2), (3, .int (nI 0))] [] (mi, ml, (RX y)) (QI K)) : wpI G e 154 m_X1_common [.ref 1, .int v1, .int v2] (mi, ml, (RX y)) K :=
  vc_in 600 (Nat.le_of_ble_eq_true rfl) rfl _ _ rfl rfl h
theorem b_X1_common_2 {G : GC} {e : Nat} {mi : Nat → Nat → Int32} {ml : Nat → Nat → Int64} {y : Nat → Nat → Option Nat} {K : Int32 → (Nat → Nat → Int32) → (Nat → Nat → Int64) → Prop} (v1 v2 v3 : Int32) (h : (((nI 26) ≤ v3 → (wpI G e 154 m_X1_monic [.ref 1, .int v1] (mi, ml, (RX y)) (fun r3 mi1 ml2 => K r3 mi1 ml2))) ∧ (¬ (nI 26) ≤ v3 → ((v2 = (nI 0) → (wpI G e 154 m_X1_monic [.ref 1, .int v1] (mi, ml, (RX y)) (fun r6 mi4 ml5 => K r6 mi4 ml5))) ∧ (¬ v2 = (nI 0) → (wpI G e 154 m_X1_rest [.ref 1, .int v1, .int v2] (mi, ml, (RX y)) (fun r9 mi7 ml8 => wp G e tX m_X1_common 2 [(0, .ref 1), (1, .int v2), (2, .int r9), (3, .int (v3 + (nI 1)))] [] (mi7, ml8, (RX y)) (QI K)))))))) : wp G e tX m_X1_common 2 [(0, .ref 1), (1, .int v1), (2, .int v2), (3, .int v3)] [] (mi, ml, (RX y)) (QI K) :=
  vc_at 600 (Nat.le_of_ble_eq_true rfl) rfl _ _ rfl rfl h
theorem e_X1_productBy {G : GC} {e : Nat} {mi : Nat → Nat → Int32} {ml : Nat → Nat → Int64} {y : Nat → Nat → Option Nat} {K : Int32 → (Nat → Nat → Int32) → (Nat → Nat → Int64) → Prop} (v1 v2 v3 : Int32) (h : (wpI G e 154 m_X1_degree [.ref 1, .int v3] (mi, ml, (RX y)) (fun r3 mi1 ml2 => (wpI G e 154 m_X1_degree [.ref 1, .int v1] (mi1, ml2, (RX y)) (fun r6 mi4 ml5 => wp G e tX m_X1_productBy 17 [(0, .ref 1), (1, .int v1), (2, .int v2), (3, .int v3), (4, .int r3), (5, .int (nI 0)), (6, .int r6)] [] (mi4, ml5, (RX y)) (QI K)))))) : wpI G e 154 m_X1_productBy [.ref 1, .int v1, .int v2, .int v3] (mi, ml, (RX y)) K :=
  vc_in 600 (Nat.le_of_ble_eq_true rfl) rfl _ _ rfl rfl h
theorem b_X1_productBy_17 {G : GC} {e : Nat} {mi : Nat → Nat → Int32} {ml : Nat → Nat → Int64} {y : Nat → Nat → Option Nat} {K : Int32 → (Nat → Nat → Int32) → (Nat → Nat → Int64) → Prop} (v1 v2 v3 v4 v5 v6 : Int32) (h : ((v6 < (nI 0) → K v5 mi ml) ∧ (¬ v6 < (nI 0) → (wpI G e 154 m_X1_figure [.ref 1, .int (v5 * (mi 1 0)), .int v4] (mi, ml, (RX y)) (fun r3 mi1 ml2 => (wpI G e 154 m_X1_negative [.ref 1, .int r3] (mi1, ml2, (RX y)) (fun r6 mi4 ml5 => (wpI G e 154 m_X1_mix [.ref 1, .int (v5 * (mi 1 0)), .int v3, .int r6] (mi4, ml5, (RX y)) (fun r9 mi7 ml8 => (wpI G e 154 m_X1_figure [.ref 1, .int v1, .int v6] (mi7, ml8, (RX y)) (fun r12 mi10 ml11 => (wpI G e 154 m_X1_mix [.ref 1, .int r9, .int v2, .int r12] (mi10, ml11, (RX y)) (fun r15 mi13 ml14 => wp G e tX m_X1_productBy 17 [(0, .ref 1), (1, .int v1), (2, .int v2), (3, .int v3), (4, .int v4), (5, .int r15), (6, .int (v6 + (-(nI 1))))] [] (mi13, ml14, (RX y)) (QI K)))))))))))))) : wp G e tX m_X1_productBy 17 [(0, .ref 1), (1, .int v1), (2, .int v2), (3, .int v3), (4, .int v4), (5, .int v5), (6, .int v6)] [] (mi, ml, (RX y)) (QI K) :=
  vc_at 600 (Nat.le_of_ble_eq_true rfl) rfl _ _ rfl rfl h
theorem e_X1_turnedBy {G : GC} {e : Nat} {mi : Nat → Nat → Int32} {ml : Nat → Nat → Int64} {y : Nat → Nat → Option Nat} {K : Int32 → (Nat → Nat → Int32) → (Nat → Nat → Int64) → Prop} (v1 v2 : Int32) (h : wp G e tX m_X1_turnedBy 5 [(0, .ref 1), (1, .int v1), (2, .int v2), (3, .int v1), (4, .int (nI 1))] [] (mi, ml, (RX y)) (QI K)) : wpI G e 154 m_X1_turnedBy [.ref 1, .int v1, .int v2] (mi, ml, (RX y)) K :=
  vc_in 600 (Nat.le_of_ble_eq_true rfl) rfl _ _ rfl rfl h
theorem b_X1_turnedBy_5 {G : GC} {e : Nat} {mi : Nat → Nat → Int32} {ml : Nat → Nat → Int64} {y : Nat → Nat → Option Nat} {K : Int32 → (Nat → Nat → Int32) → (Nat → Nat → Int64) → Prop} (v1 v2 v3 v4 : Int32) (h : (((mi 1 0) ≤ v4 → K v3 mi ml) ∧ (¬ (mi 1 0) ≤ v4 → (wpI G e 154 m_X1_productBy [.ref 1, .int v3, .int v1, .int v2] (mi, ml, (RX y)) (fun r3 mi1 ml2 => wp G e tX m_X1_turnedBy 5 [(0, .ref 1), (1, .int v1), (2, .int v2), (3, .int r3), (4, .int (v4 + (nI 1)))] [] (mi1, ml2, (RX y)) (QI K)))))) : wp G e tX m_X1_turnedBy 5 [(0, .ref 1), (1, .int v1), (2, .int v2), (3, .int v3), (4, .int v4)] [] (mi, ml, (RX y)) (QI K) :=
  vc_at 600 (Nat.le_of_ble_eq_true rfl) rfl _ _ rfl rfl h
theorem e_X1_sumOfPowers {G : GC} {e : Nat} {mi : Nat → Nat → Int32} {ml : Nat → Nat → Int64} {y : Nat → Nat → Option Nat} {K : Int32 → (Nat → Nat → Int32) → (Nat → Nat → Int64) → Prop} (v1 v2 : Int32) (h : (wpI G e 154 m_X1_power [.ref 1, .int v2] (mi, ml, (RX y)) (fun r3 mi1 ml2 => wp G e tX m_X1_sumOfPowers 13 [(0, .ref 1), (1, .int v1), (3, .int (nI 0)), (4, .int r3), (5, .int r3)] [] (mi1, ml2, (RX y)) (QI K)))) : wpI G e 154 m_X1_sumOfPowers [.ref 1, .int v1, .int v2] (mi, ml, (RX y)) K :=
  vc_in 600 (Nat.le_of_ble_eq_true rfl) rfl _ _ rfl rfl h
theorem b_X1_sumOfPowers_13 {G : GC} {e : Nat} {mi : Nat → Nat → Int32} {ml : Nat → Nat → Int64} {y : Nat → Nat → Option Nat} {K : Int32 → (Nat → Nat → Int32) → (Nat → Nat → Int64) → Prop} (v1 v3 v4 v5 : Int32) (h : ((((nI 2) * v4) ≤ v5 → K v3 mi ml) ∧ (¬ ((nI 2) * v4) ≤ v5 → wp G e tX m_X1_sumOfPowers 29 [(0, .ref 1), (1, .int v1), (3, .int v3), (4, .int v4), (5, .int v5), (6, .int v5), (7, .int (nI 1))] [] (mi, ml, (RX y)) (QI K)))) : wp G e tX m_X1_sumOfPowers 13 [(0, .ref 1), (1, .int v1), (3, .int v3), (4, .int v4), (5, .int v5)] [] (mi, ml, (RX y)) (QI K) :=
  vc_at 600 (Nat.le_of_ble_eq_true rfl) rfl _ _ rfl rfl h
theorem b_X1_sumOfPowers_29 {G : GC} {e : Nat} {mi : Nat → Nat → Int32} {ml : Nat → Nat → Int64} {y : Nat → Nat → Option Nat} {K : Int32 → (Nat → Nat → Int32) → (Nat → Nat → Int64) → Prop} (v1 v3 v4 v5 v6 v7 : Int32) (h : ((v1 ≤ v7 → (wpI G e 154 m_X1_sum [.ref 1, .int v3, .int v6] (mi, ml, (RX y)) (fun r3 mi1 ml2 => wp G e tX m_X1_sumOfPowers 13 [(0, .ref 1), (1, .int v1), (3, .int r3), (4, .int v4), (5, .int (v5 + (nI 1)))] [] (mi1, ml2, (RX y)) (QI K)))) ∧ (¬ v1 ≤ v7 → (wpI G e 154 m_X1_product [.ref 1, .int v6, .int v5] (mi, ml, (RX y)) (fun r6 mi4 ml5 => wp G e tX m_X1_sumOfPowers 29 [(0, .ref 1), (1, .int v1), (3, .int v3), (4, .int v4), (5, .int v5), (6, .int r6), (7, .int (v7 + (nI 1)))] [] (mi4, ml5, (RX y)) (QI K)))))) : wp G e tX m_X1_sumOfPowers 29 [(0, .ref 1), (1, .int v1), (3, .int v3), (4, .int v4), (5, .int v5), (6, .int v6), (7, .int v7)] [] (mi, ml, (RX y)) (QI K) :=
  vc_at 600 (Nat.le_of_ble_eq_true rfl) rfl _ _ rfl rfl h
theorem e_X1_symbolOver {G : GC} {e : Nat} {mi : Nat → Nat → Int32} {ml : Nat → Nat → Int64} {y : Nat → Nat → Option Nat} {K : Int32 → (Nat → Nat → Int32) → (Nat → Nat → Int64) → Prop} (v1 v2 : Int32) (h : wp G e tX m_X1_symbolOver 5 [(0, .ref 1), (1, .int v1), (2, .int v2), (3, .int (nI 1)), (4, .int (nI 0))] [] (mi, ml, (RX y)) (QI K)) : wpI G e 154 m_X1_symbolOver [.ref 1, .int v1, .int v2] (mi, ml, (RX y)) K :=
  vc_in 600 (Nat.le_of_ble_eq_true rfl) rfl _ _ rfl rfl h
theorem b_X1_symbolOver_5 {G : GC} {e : Nat} {mi : Nat → Nat → Int32} {ml : Nat → Nat → Int64} {y : Nat → Nat → Option Nat} {K : Int32 → (Nat → Nat → Int32) → (Nat → Nat → Int64) → Prop} (v1 v2 v3 v4 : Int32) (h : (((nI 13) < v4 → K v3 mi ml) ∧ (¬ (nI 13) < v4 → (wpI G e 154 m_X1_degree [.ref 1, .int v2] (mi, ml, (RX y)) (fun r3 mi1 ml2 => ((r3 ≤ (nI 0) → K v3 mi1 ml2) ∧ (¬ r3 ≤ (nI 0) → (wpI G e 154 m_X1_rest [.ref 1, .int v1, .int v2] (mi1, ml2, (RX y)) (fun r6 mi4 ml5 => ((¬ r6 = (nI 0) → (wpI G e 154 m_X1_degree [.ref 1, .int v2] (mi4, ml5, (RX y)) (fun r9 mi7 ml8 => (wpI G e 154 m_X1_first [.ref 1, .int r6] (mi7, ml8, (RX y)) (fun r12 mi10 ml11 => (¬ (nI 2) = 0 ∧ ((¬ (rm r9 (nI 2)) = (nI 1) → wp G e tX m_X1_symbolOver 75 [(0, .ref 1), (1, .int r6), (2, .int v2), (3, .int v3), (4, .int v4), (5, .int r9), (6, .int r12), (7, .int (nI 0))] [] (mi10, ml11, (RX y)) (QI K)) ∧ ((rm r9 (nI 2)) = (nI 1) → (wpI G e 154 m_X1_degree [.ref 1, .int r6] (mi10, ml11, (RX y)) (fun r15 mi13 ml14 => (¬ (nI 2) = 0 ∧ ((¬ (rm r15 (nI 2)) = (nI 1) → wp G e tX m_X1_symbolOver 75 [(0, .ref 1), (1, .int r6), (2, .int v2), (3, .int v3), (4, .int v4), (5, .int r9), (6, .int r12), (7, .int (nI 0))] [] (mi13, ml14, (RX y)) (QI K)) ∧ ((rm r15 (nI 2)) = (nI 1) → (wpI G e 154 m_X1_negative [.ref 1, .int v3] (mi13, ml14, (RX y)) (fun r18 mi16 ml17 => wp G e tX m_X1_symbolOver 75 [(0, .ref 1), (1, .int r6), (2, .int v2), (3, .int r18), (4, .int v4), (5, .int r9), (6, .int r12), (7, .int (nI 0))] [] (mi16, ml17, (RX y)) (QI K)))))))))))))))) ∧ (r6 = (nI 0) → K (nI 0) mi4 ml5))))))))))) : wp G e tX m_X1_symbolOver 5 [(0, .ref 1), (1, .int v1), (2, .int v2), (3, .int v3), (4, .int v4)] [] (mi, ml, (RX y)) (QI K) :=
  vc_at 600 (Nat.le_of_ble_eq_true rfl) rfl _ _ rfl rfl h
theorem b_X1_symbolOver_75 {G : GC} {e : Nat} {mi : Nat → Nat → Int32} {ml : Nat → Nat → Int64} {y : Nat → Nat → Option Nat} {K : Int32 → (Nat → Nat → Int32) → (Nat → Nat → Int64) → Prop} (v1 v2 v3 v4 v5 v6 v7 : Int32) (h : ((v5 ≤ v7 → (wpI G e 154 m_X1_monic [.ref 1, .int v1] (mi, ml, (RX y)) (fun r3 mi1 ml2 => wp G e tX m_X1_symbolOver 5 [(0, .ref 1), (1, .int v2), (2, .int r3), (3, .int v3), (4, .int (v4 + (nI 1)))] [] (mi1, ml2, (RX y)) (QI K)))) ∧ (¬ v5 ≤ v7 → (¬ (mi 1 0) = 0 ∧ wp G e tX m_X1_symbolOver 75 [(0, .ref 1), (1, .int v1), (2, .int v2), (3, .int (rm (v3 * v6) (mi 1 0))), (4, .int v4), (5, .int v5), (6, .int v6), (7, .int (v7 + (nI 1)))] [] (mi, ml, (RX y)) (QI K))))) : wp G e tX m_X1_symbolOver 75 [(0, .ref 1), (1, .int v1), (2, .int v2), (3, .int v3), (4, .int v4), (5, .int v5), (6, .int v6), (7, .int v7)] [] (mi, ml, (RX y)) (QI K) :=
  vc_at 600 (Nat.le_of_ble_eq_true rfl) rfl _ _ rfl rfl h
theorem e_X3_many {G : GC} {e : Nat} {mi : Nat → Nat → Int32} {ml : Nat → Nat → Int64} {y : Nat → Nat → Option Nat} {K : Int32 → (Nat → Nat → Int32) → (Nat → Nat → Int64) → Prop} (h : K (mi 7 3) mi ml) : wpI G e 154 m_X3_many [.ref 7] (mi, ml, (RX y)) K :=
  vc_in 600 (Nat.le_of_ble_eq_true rfl) rfl _ _ rfl rfl h
theorem e_X3_get {G : GC} {e : Nat} {mi : Nat → Nat → Int32} {ml : Nat → Nat → Int64} {y : Nat → Nat → Option Nat} {K : Int32 → (Nat → Nat → Int32) → (Nat → Nat → Int64) → Prop} (v1 : Int32) (h : ((v1 < (nI 0) → K (nI 0) mi ml) ∧ (¬ v1 < (nI 0) → (((mi 7 3) ≤ v1 → K (nI 0) mi ml) ∧ (¬ (mi 7 3) ≤ v1 → ((v1 < (nI 13) → (vp_in v1 13 ∧ K (mi 8 (ix v1)) mi ml)) ∧ (¬ v1 < (nI 13) → K (nI 0) mi ml))))))) : wpI G e 154 m_X3_get [.ref 7, .int v1] (mi, ml, (RX y)) K :=
  vc_in 600 (Nat.le_of_ble_eq_true rfl) rfl _ _ rfl rfl h
theorem e_X3_find {G : GC} {e : Nat} {mi : Nat → Nat → Int32} {ml : Nat → Nat → Int64} {y : Nat → Nat → Option Nat} {K : (Nat → Nat → Int32) → (Nat → Nat → Int64) → Prop} (v1 : Int32) (h : (wpI G e 154 m_X1_monic [.ref 1, .int v1] ((u2 mi 7 3 (nI 0)), ml, (RX y)) (fun r3 mi1 ml2 => (wpI G e 154 m_X1_base [.ref 1] (mi1, ml2, (RX y)) (fun r6 mi4 ml5 => wp G e tX m_X3_find 28 [(0, .ref 7), (2, .int r3), (3, .int r6), (4, .int r6), (5, .int (nI 1))] [] (mi4, ml5, (RX y)) (QV K)))))) : wpV G e 154 m_X3_find [.ref 7, .int v1] (mi, ml, (RX y)) K :=
  vc_in 600 (Nat.le_of_ble_eq_true rfl) rfl _ _ rfl rfl h
theorem b_X3_find_28 {G : GC} {e : Nat} {mi : Nat → Nat → Int32} {ml : Nat → Nat → Int64} {y : Nat → Nat → Option Nat} {K : (Nat → Nat → Int32) → (Nat → Nat → Int64) → Prop} (v2 v3 v4 v5 : Int32) (h : (wpI G e 154 m_X1_degree [.ref 1, .int v2] (mi, ml, (RX y)) (fun r3 mi1 ml2 => ((r3 < ((nI 2) * v5) → (wpI G e 154 m_X1_degree [.ref 1, .int v2] (mi1, ml2, (RX y)) (fun r6 mi4 ml5 => ((r6 ≤ (nI 0) → (wpV G e 154 m_X3_sort [.ref 7] (mi4, ml5, (RX y)) (fun mi7 ml8 => K mi7 ml8))) ∧ (¬ r6 ≤ (nI 0) → (wpV G e 154 m_X3_add [.ref 7, .int v2] (mi4, ml5, (RX y)) (fun mi9 ml10 => (wpV G e 154 m_X3_sort [.ref 7] (mi9, ml10, (RX y)) (fun mi11 ml12 => K mi11 ml12))))))))) ∧ (¬ r3 < ((nI 2) * v5) → (wpI G e 154 m_X1_rest [.ref 1, .int v4, .int v2] (mi1, ml2, (RX y)) (fun r15 mi13 ml14 => (wpI G e 154 m_X1_turnedBy [.ref 1, .int r15, .int v2] (mi13, ml14, (RX y)) (fun r18 mi16 ml17 => (wpI G e 154 m_X1_difference [.ref 1, .int r18, .int v3] (mi16, ml17, (RX y)) (fun r21 mi19 ml20 => (wpI G e 154 m_X1_common [.ref 1, .int v2, .int r21] (mi19, ml20, (RX y)) (fun r24 mi22 ml23 => (wpV G e 154 m_X3_splitUp [.ref 7, .int r24, .int v5] (mi22, ml23, (RX y)) (fun mi25 ml26 => wp G e tX m_X3_find 94 [(0, .ref 7), (2, .int v2), (3, .int v3), (4, .int r18), (5, .int v5), (7, .int (nI 0))] [] (mi25, ml26, (RX y)) (QV K)))))))))))))))) : wp G e tX m_X3_find 28 [(0, .ref 7), (2, .int v2), (3, .int v3), (4, .int v4), (5, .int v5)] [] (mi, ml, (RX y)) (QV K) :=
  vc_at 600 (Nat.le_of_ble_eq_true rfl) rfl _ _ rfl rfl h
theorem b_X3_find_94 {G : GC} {e : Nat} {mi : Nat → Nat → Int32} {ml : Nat → Nat → Int64} {y : Nat → Nat → Option Nat} {K : (Nat → Nat → Int32) → (Nat → Nat → Int64) → Prop} (v2 v3 v4 v5 v7 : Int32) (h : (((mi 7 4) ≤ v7 → wp G e tX m_X3_find 28 [(0, .ref 7), (2, .int v2), (3, .int v3), (4, .int v4), (5, .int (v5 + (nI 1)))] [] (mi, ml, (RX y)) (QV K)) ∧ (¬ (mi 7 4) ≤ v7 → (vp_in v7 13 ∧ (wpI G e 154 m_X3_takeOut [.ref 7, .int v2, .int (mi 9 (ix v7))] (mi, ml, (RX y)) (fun r3 mi1 ml2 => wp G e tX m_X3_find 94 [(0, .ref 7), (2, .int r3), (3, .int v3), (4, .int v4), (5, .int v5), (7, .int (v7 + (nI 1)))] [] (mi1, ml2, (RX y)) (QV K))))))) : wp G e tX m_X3_find 94 [(0, .ref 7), (2, .int v2), (3, .int v3), (4, .int v4), (5, .int v5), (7, .int v7)] [] (mi, ml, (RX y)) (QV K) :=
  vc_at 600 (Nat.le_of_ble_eq_true rfl) rfl _ _ rfl rfl h
theorem e_X3_takeOut {G : GC} {e : Nat} {mi : Nat → Nat → Int32} {ml : Nat → Nat → Int64} {y : Nat → Nat → Option Nat} {K : Int32 → (Nat → Nat → Int32) → (Nat → Nat → Int64) → Prop} (v1 v2 : Int32) (h : wp G e tX m_X3_takeOut 2 [(0, .ref 7), (1, .int v1), (2, .int v2), (3, .int (nI 0))] [] (mi, ml, (RX y)) (QI K)) : wpI G e 154 m_X3_takeOut [.ref 7, .int v1, .int v2] (mi, ml, (RX y)) K :=
  vc_in 600 (Nat.le_of_ble_eq_true rfl) rfl _ _ rfl rfl h
theorem b_X3_takeOut_2 {G : GC} {e : Nat} {mi : Nat → Nat → Int32} {ml : Nat → Nat → Int64} {y : Nat → Nat → Option Nat} {K : Int32 → (Nat → Nat → Int32) → (Nat → Nat → Int64) → Prop} (v1 v2 v3 : Int32) (h : (((nI 13) ≤ v3 → K v1 mi ml) ∧ (¬ (nI 13) ≤ v3 → (wpI G e 154 m_X1_rest [.ref 1, .int v1, .int v2] (mi, ml, (RX y)) (fun r3 mi1 ml2 => ((¬ r3 = (nI 0) → K v1 mi1 ml2) ∧ (r3 = (nI 0) → (wpV G e 154 m_X3_add [.ref 7, .int v2] (mi1, ml2, (RX y)) (fun mi4 ml5 => (wpI G e 154 m_X1_quotient [.ref 1, .int v1, .int v2] (mi4, ml5, (RX y)) (fun r8 mi6 ml7 => wp G e tX m_X3_takeOut 2 [(0, .ref 7), (1, .int r8), (2, .int v2), (3, .int (v3 + (nI 1)))] [] (mi6, ml7, (RX y)) (QI K)))))))))))) : wp G e tX m_X3_takeOut 2 [(0, .ref 7), (1, .int v1), (2, .int v2), (3, .int v3)] [] (mi, ml, (RX y)) (QI K) :=
  vc_at 600 (Nat.le_of_ble_eq_true rfl) rfl _ _ rfl rfl h
theorem e_X3_add {G : GC} {e : Nat} {mi : Nat → Nat → Int32} {ml : Nat → Nat → Int64} {y : Nat → Nat → Option Nat} {K : (Nat → Nat → Int32) → (Nat → Nat → Int64) → Prop} (v1 : Int32) (h : (((nI 13) ≤ (mi 7 3) → K mi ml) ∧ (¬ (nI 13) ≤ (mi 7 3) → (vp_in (mi 7 3) 13 ∧ K (u2 (u2 mi 8 (ix (mi 7 3)) v1) 7 3 (((u2 mi 8 (ix (mi 7 3)) v1) 7 3) + (nI 1))) ml)))) : wpV G e 154 m_X3_add [.ref 7, .int v1] (mi, ml, (RX y)) K :=
  vc_in 600 (Nat.le_of_ble_eq_true rfl) rfl _ _ rfl rfl h
theorem e_X3_splitUp {G : GC} {e : Nat} {mi : Nat → Nat → Int32} {ml : Nat → Nat → Int64} {y : Nat → Nat → Option Nat} {K : (Nat → Nat → Int32) → (Nat → Nat → Int64) → Prop} (v1 v2 : Int32) (h : (wpI G e 154 m_X1_degree [.ref 1, .int v1] (mi, ml, (RX y)) (fun r3 mi1 ml2 => ((v2 ≤ r3 → (vp_in (nI 0) 13 ∧ wp G e tX m_X3_splitUp 38 [(0, .ref 7), (1, .int v1), (2, .int v2), (3, .int r3), (4, .int (nI 1)), (5, .int (nI 1))] [] ((u2 (u2 (u2 mi1 7 4 (nI 0)) 9 (ix (nI 0)) v1) 7 4 (nI 1)), ml2, (RX y)) (QV K))) ∧ (¬ v2 ≤ r3 → K (u2 mi1 7 4 (nI 0)) ml2))))) : wpV G e 154 m_X3_splitUp [.ref 7, .int v1, .int v2] (mi, ml, (RX y)) K :=
  vc_in 600 (Nat.le_of_ble_eq_true rfl) rfl _ _ rfl rfl h
theorem b_X3_splitUp_38 {G : GC} {e : Nat} {mi : Nat → Nat → Int32} {ml : Nat → Nat → Int64} {y : Nat → Nat → Option Nat} {K : (Nat → Nat → Int32) → (Nat → Nat → Int64) → Prop} (v1 v2 v3 v4 v5 : Int32) (h : ((v3 ≤ v5 → K mi ml) ∧ (¬ v3 ≤ v5 → ((v3 ≤ ((mi 7 4) * v2) → K mi ml) ∧ (¬ v3 ≤ ((mi 7 4) * v2) → (wpI G e 154 m_X1_base [.ref 1] (mi, ml, (RX y)) (fun r3 mi1 ml2 => (wpI G e 154 m_X1_rest [.ref 1, .int (v4 * r3), .int v1] (mi1, ml2, (RX y)) (fun r6 mi4 ml5 => (wpI G e 154 m_X3_trace [.ref 7, .int r6, .int v2, .int v1] (mi4, ml5, (RX y)) (fun r9 mi7 ml8 => wp G e tX m_X3_splitUp 87 [(0, .ref 7), (1, .int v1), (2, .int v2), (3, .int v3), (4, .int r6), (5, .int v5), (6, .int r9), (7, .int (nI 0))] [] (mi7, ml8, (RX y)) (QV K)))))))))))) : wp G e tX m_X3_splitUp 38 [(0, .ref 7), (1, .int v1), (2, .int v2), (3, .int v3), (4, .int v4), (5, .int v5)] [] (mi, ml, (RX y)) (QV K) :=
  vc_at 600 (Nat.le_of_ble_eq_true rfl) rfl _ _ rfl rfl h
theorem b_X3_splitUp_87 {G : GC} {e : Nat} {mi : Nat → Nat → Int32} {ml : Nat → Nat → Int64} {y : Nat → Nat → Option Nat} {K : (Nat → Nat → Int32) → (Nat → Nat → Int64) → Prop} (v1 v2 v3 v4 v5 v6 v7 : Int32) (h : (wpI G e 154 m_X1_base [.ref 1] (mi, ml, (RX y)) (fun r3 mi1 ml2 => ((r3 ≤ v7 → wp G e tX m_X3_splitUp 38 [(0, .ref 7), (1, .int v1), (2, .int v2), (3, .int v3), (4, .int v4), (5, .int (v5 + (nI 1)))] [] (mi1, ml2, (RX y)) (QV K)) ∧ (¬ r3 ≤ v7 → (wpI G e 154 m_X1_difference [.ref 1, .int v6, .int v7] (mi1, ml2, (RX y)) (fun r6 mi4 ml5 => (wpV G e 154 m_X3_splitBy [.ref 7, .int r6] (mi4, ml5, (RX y)) (fun mi7 ml8 => wp G e tX m_X3_splitUp 87 [(0, .ref 7), (1, .int v1), (2, .int v2), (3, .int v3), (4, .int v4), (5, .int v5), (6, .int v6), (7, .int (v7 + (nI 1)))] [] (mi7, ml8, (RX y)) (QV K)))))))))) : wp G e tX m_X3_splitUp 87 [(0, .ref 7), (1, .int v1), (2, .int v2), (3, .int v3), (4, .int v4), (5, .int v5), (6, .int v6), (7, .int v7)] [] (mi, ml, (RX y)) (QV K) :=
  vc_at 600 (Nat.le_of_ble_eq_true rfl) rfl _ _ rfl rfl h
theorem e_X3_trace {G : GC} {e : Nat} {mi : Nat → Nat → Int32} {ml : Nat → Nat → Int64} {y : Nat → Nat → Option Nat} {K : Int32 → (Nat → Nat → Int32) → (Nat → Nat → Int64) → Prop} (v1 v2 v3 : Int32) (h : wp G e tX m_X3_trace 9 [(0, .ref 7), (2, .int v2), (3, .int v3), (4, .int v1), (5, .int v1), (6, .int (nI 1))] [] (mi, ml, (RX y)) (QI K)) : wpI G e 154 m_X3_trace [.ref 7, .int v1, .int v2, .int v3] (mi, ml, (RX y)) K :=
  vc_in 600 (Nat.le_of_ble_eq_true rfl) rfl _ _ rfl rfl h
theorem b_X3_trace_9 {G : GC} {e : Nat} {mi : Nat → Nat → Int32} {ml : Nat → Nat → Int64} {y : Nat → Nat → Option Nat} {K : Int32 → (Nat → Nat → Int32) → (Nat → Nat → Int64) → Prop} (v2 v3 v4 v5 v6 : Int32) (h : ((v2 ≤ v6 → K v4 mi ml) ∧ (¬ v2 ≤ v6 → (wpI G e 154 m_X1_turnedBy [.ref 1, .int v5, .int v3] (mi, ml, (RX y)) (fun r3 mi1 ml2 => (wpI G e 154 m_X1_sum [.ref 1, .int v4, .int r3] (mi1, ml2, (RX y)) (fun r6 mi4 ml5 => wp G e tX m_X3_trace 9 [(0, .ref 7), (2, .int v2), (3, .int v3), (4, .int r6), (5, .int r3), (6, .int (v6 + (nI 1)))] [] (mi4, ml5, (RX y)) (QI K)))))))) : wp G e tX m_X3_trace 9 [(0, .ref 7), (2, .int v2), (3, .int v3), (4, .int v4), (5, .int v5), (6, .int v6)] [] (mi, ml, (RX y)) (QI K) :=
  vc_at 600 (Nat.le_of_ble_eq_true rfl) rfl _ _ rfl rfl h
theorem e_X3_splitBy {G : GC} {e : Nat} {mi : Nat → Nat → Int32} {ml : Nat → Nat → Int64} {y : Nat → Nat → Option Nat} {K : (Nat → Nat → Int32) → (Nat → Nat → Int64) → Prop} (v1 : Int32) (h : wp G e tX m_X3_splitBy 7 [(0, .ref 7), (1, .int v1), (2, .int (mi 7 4)), (3, .int (nI 0))] [] (mi, ml, (RX y)) (QV K)) : wpV G e 154 m_X3_splitBy [.ref 7, .int v1] (mi, ml, (RX y)) K :=
  vc_in 600 (Nat.le_of_ble_eq_true rfl) rfl _ _ rfl rfl h
theorem b_X3_splitBy_7 {G : GC} {e : Nat} {mi : Nat → Nat → Int32} {ml : Nat → Nat → Int64} {y : Nat → Nat → Option Nat} {K : (Nat → Nat → Int32) → (Nat → Nat → Int64) → Prop} (v1 v2 v3 : Int32) (h : ((v2 ≤ v3 → K mi ml) ∧ (¬ v2 ≤ v3 → (((nI 13) ≤ (mi 7 4) → K mi ml) ∧ (¬ (nI 13) ≤ (mi 7 4) → (vp_in v3 13 ∧ (wpI G e 154 m_X1_common [.ref 1, .int (mi 9 (ix v3)), .int v1] (mi, ml, (RX y)) (fun r3 mi1 ml2 => (wpI G e 154 m_X1_degree [.ref 1, .int r3] (mi1, ml2, (RX y)) (fun r6 mi4 ml5 => ((r6 ≤ (nI 0) → wp G e tX m_X3_splitBy 7 [(0, .ref 7), (1, .int v1), (2, .int v2), (3, .int (v3 + (nI 1)))] [] (mi4, ml5, (RX y)) (QV K)) ∧ (¬ r6 ≤ (nI 0) → (vp_in v3 13 ∧ (wpI G e 154 m_X1_degree [.ref 1, .int (mi4 9 (ix v3))] (mi4, ml5, (RX y)) (fun r9 mi7 ml8 => ((r9 ≤ r6 → wp G e tX m_X3_splitBy 7 [(0, .ref 7), (1, .int v1), (2, .int v2), (3, .int (v3 + (nI 1)))] [] (mi7, ml8, (RX y)) (QV K)) ∧ (¬ r9 ≤ r6 → (vp_in v3 13 ∧ (wpI G e 154 m_X1_quotient [.ref 1, .int (mi7 9 (ix v3)), .int r3] (mi7, ml8, (RX y)) (fun r12 mi10 ml11 => (vp_in (mi7 7 4) 13 ∧ (vp_in v3 13 ∧ wp G e tX m_X3_splitBy 7 [(0, .ref 7), (1, .int v1), (2, .int v2), (3, .int (v3 + (nI 1)))] [] ((u2 (u2 (u2 mi10 9 (ix (mi7 7 4)) r12) 7 4 (((u2 mi10 9 (ix (mi7 7 4)) r12) 7 4) + (nI 1))) 9 (ix v3) r3), ml11, (RX y)) (QV K))))))))))))))))))))))) : wp G e tX m_X3_splitBy 7 [(0, .ref 7), (1, .int v1), (2, .int v2), (3, .int v3)] [] (mi, ml, (RX y)) (QV K) :=
  vc_at 600 (Nat.le_of_ble_eq_true rfl) rfl _ _ rfl rfl h
theorem e_X3_sort {G : GC} {e : Nat} {mi : Nat → Nat → Int32} {ml : Nat → Nat → Int64} {y : Nat → Nat → Option Nat} {K : (Nat → Nat → Int32) → (Nat → Nat → Int64) → Prop} (h : wp G e tX m_X3_sort 2 [(0, .ref 7), (1, .int (nI 1))] [] (mi, ml, (RX y)) (QV K)) : wpV G e 154 m_X3_sort [.ref 7] (mi, ml, (RX y)) K :=
  vc_in 600 (Nat.le_of_ble_eq_true rfl) rfl _ _ rfl rfl h
theorem b_X3_sort_2 {G : GC} {e : Nat} {mi : Nat → Nat → Int32} {ml : Nat → Nat → Int64} {y : Nat → Nat → Option Nat} {K : (Nat → Nat → Int32) → (Nat → Nat → Int64) → Prop} (v1 : Int32) (h : (((mi 7 3) ≤ v1 → K mi ml) ∧ (¬ (mi 7 3) ≤ v1 → (((nI 13) ≤ v1 → K mi ml) ∧ (¬ (nI 13) ≤ v1 → wp G e tX m_X3_sort 21 [(0, .ref 7), (1, .int v1), (2, .int v1)] [] (mi, ml, (RX y)) (QV K)))))) : wp G e tX m_X3_sort 2 [(0, .ref 7), (1, .int v1)] [] (mi, ml, (RX y)) (QV K) :=
  vc_at 600 (Nat.le_of_ble_eq_true rfl) rfl _ _ rfl rfl h
theorem b_X3_sort_21 {G : GC} {e : Nat} {mi : Nat → Nat → Int32} {ml : Nat → Nat → Int64} {y : Nat → Nat → Option Nat} {K : (Nat → Nat → Int32) → (Nat → Nat → Int64) → Prop} (v1 v2 : Int32) (h : ((v2 ≤ (nI 0) → wp G e tX m_X3_sort 2 [(0, .ref 7), (1, .int (v1 + (nI 1)))] [] (mi, ml, (RX y)) (QV K)) ∧ (¬ v2 ≤ (nI 0) → (vp_in (v2 - (nI 1)) 13 ∧ (vp_in v2 13 ∧ (((mi 8 (ix (v2 - (nI 1)))) ≤ (mi 8 (ix v2)) → wp G e tX m_X3_sort 2 [(0, .ref 7), (1, .int (v1 + (nI 1)))] [] (mi, ml, (RX y)) (QV K)) ∧ (¬ (mi 8 (ix (v2 - (nI 1)))) ≤ (mi 8 (ix v2)) → (vp_in v2 13 ∧ (vp_in (v2 - (nI 1)) 13 ∧ (vp_in v2 13 ∧ (vp_in (v2 - (nI 1)) 13 ∧ wp G e tX m_X3_sort 21 [(0, .ref 7), (1, .int v1), (2, .int (v2 + (-(nI 1))))] [] ((u2 (u2 mi 8 (ix v2) (mi 8 (ix (v2 - (nI 1))))) 8 (ix (v2 - (nI 1))) (mi 8 (ix v2))), ml, (RX y)) (QV K)))))))))))) : wp G e tX m_X3_sort 21 [(0, .ref 7), (1, .int v1), (2, .int v2)] [] (mi, ml, (RX y)) (QV K) :=
  vc_at 600 (Nat.le_of_ble_eq_true rfl) rfl _ _ rfl rfl h
theorem e_X5_setModulus {G : GC} {e : Nat} {mi : Nat → Nat → Int32} {ml : Nat → Nat → Int64} {y : Nat → Nat → Option Nat} {K : (Nat → Nat → Int32) → (Nat → Nat → Int64) → Prop} (v1 : Int32) (h : (wpI G e 154 m_X1_degree [.ref 1, .int v1] (mi, ml, (RX y)) (fun r3 mi1 ml2 => (wpI G e 154 m_X1_power [.ref 1, .int r3] (mi1, ml2, (RX y)) (fun r6 mi4 ml5 => ((r3 < (nI 1) → K mi4 ml5) ∧ (¬ r3 < (nI 1) → ((r6 < (nI 2) → K mi4 ml5) ∧ (¬ r6 < (nI 2) → ((r6 ≤ (nI 128) → wp G e tX m_X5_setModulus 54 [(0, .ref 3), (4, .int (nI 1))] [] ((u2 (u2 (u2 mi4 3 1 v1) 3 2 r3) 3 3 r6), ml5, (RX y)) (QV K)) ∧ (¬ r6 ≤ (nI 128) → K mi4 ml5))))))))))) : wpV G e 154 m_X5_setModulus [.ref 3, .int v1] (mi, ml, (RX y)) K :=
  vc_in 600 (Nat.le_of_ble_eq_true rfl) rfl _ _ rfl rfl h
theorem b_X5_setModulus_54 {G : GC} {e : Nat} {mi : Nat → Nat → Int32} {ml : Nat → Nat → Int64} {y : Nat → Nat → Option Nat} {K : (Nat → Nat → Int32) → (Nat → Nat → Int64) → Prop} (v4 : Int32) (h : (((mi 3 3) ≤ v4 → (¬ ((mi 3 3) - (nI 1)) = 0 ∧ wp G e tX m_X5_setModulus 97 [(0, .ref 3), (5, .int (rm (nI 1) ((mi 3 3) - (nI 1)))), (6, .int (nI 0))] [] (mi, ml, (RX y)) (QV K))) ∧ (¬ (mi 3 3) ≤ v4 → (wpI G e 154 m_X5_listPowers [.ref 3, .int v4] (mi, ml, (RX y)) (fun r3 mi1 ml2 => ((((mi1 3 3) - (nI 1)) ≤ r3 → (¬ ((mi1 3 3) - (nI 1)) = 0 ∧ wp G e tX m_X5_setModulus 97 [(0, .ref 3), (5, .int (rm (nI 1) ((mi1 3 3) - (nI 1)))), (6, .int (nI 0))] [] (mi1, ml2, (RX y)) (QV K))) ∧ (¬ ((mi1 3 3) - (nI 1)) ≤ r3 → wp G e tX m_X5_setModulus 54 [(0, .ref 3), (4, .int (v4 + (nI 1)))] [] (mi1, ml2, (RX y)) (QV K)))))))) : wp G e tX m_X5_setModulus 54 [(0, .ref 3), (4, .int v4)] [] (mi, ml, (RX y)) (QV K) :=
  vc_at 600 (Nat.le_of_ble_eq_true rfl) rfl _ _ rfl rfl h
theorem b_X5_setModulus_97 {G : GC} {e : Nat} {mi : Nat → Nat → Int32} {ml : Nat → Nat → Int64} {y : Nat → Nat → Option Nat} {K : (Nat → Nat → Int32) → (Nat → Nat → Int64) → Prop} (v5 v6 : Int32) (h : (((nI 13) ≤ v6 → K mi ml) ∧ (¬ (nI 13) ≤ v6 → (vp_in v6 13 ∧ (wpI G e 154 m_X1_base [.ref 1] ((u2 mi 6 (ix v6) v5), ml, (RX y)) (fun r3 mi1 ml2 => (¬ ((mi1 3 3) - (nI 1)) = 0 ∧ wp G e tX m_X5_setModulus 97 [(0, .ref 3), (5, .int (rm (v5 * r3) ((mi1 3 3) - (nI 1)))), (6, .int (v6 + (nI 1)))] [] (mi1, ml2, (RX y)) (QV K)))))))) : wp G e tX m_X5_setModulus 97 [(0, .ref 3), (5, .int v5), (6, .int v6)] [] (mi, ml, (RX y)) (QV K) :=
  vc_at 600 (Nat.le_of_ble_eq_true rfl) rfl _ _ rfl rfl h
theorem e_X5_listPowers {G : GC} {e : Nat} {mi : Nat → Nat → Int32} {ml : Nat → Nat → Int64} {y : Nat → Nat → Option Nat} {K : Int32 → (Nat → Nat → Int32) → (Nat → Nat → Int64) → Prop} (v1 : Int32) (h : wp G e tX m_X5_listPowers 4 [(0, .ref 3), (1, .int v1), (2, .int (nI 1)), (3, .int (nI 0))] [] (mi, ml, (RX y)) (QI K)) : wpI G e 154 m_X5_listPowers [.ref 3, .int v1] (mi, ml, (RX y)) K :=
  vc_in 600 (Nat.le_of_ble_eq_true rfl) rfl _ _ rfl rfl h
theorem b_X5_listPowers_4 {G : GC} {e : Nat} {mi : Nat → Nat → Int32} {ml : Nat → Nat → Int64} {y : Nat → Nat → Option Nat} {K : Int32 → (Nat → Nat → Int32) → (Nat → Nat → Int64) → Prop} (v1 v2 v3 : Int32) (h : ((((mi 3 3) - (nI 1)) ≤ v3 → K (nI 0) mi ml) ∧ (¬ ((mi 3 3) - (nI 1)) ≤ v3 → ((v2 ≤ (nI 0) → K (nI 0) mi ml) ∧ (¬ v2 ≤ (nI 0) → (((mi 3 3) ≤ v2 → K (nI 0) mi ml) ∧ (¬ (mi 3 3) ≤ v2 → (vp_in v3 128 ∧ (vp_in v2 128 ∧ (wpI G e 154 m_X1_productBy [.ref 1, .int v2, .int v1, .int ((u2 (u2 mi 4 (ix v3) v2) 5 (ix v2) v3) 3 1)] ((u2 (u2 mi 4 (ix v3) v2) 5 (ix v2) v3), ml, (RX y)) (fun r3 mi1 ml2 => ((¬ r3 = (nI 1) → wp G e tX m_X5_listPowers 4 [(0, .ref 3), (1, .int v1), (2, .int r3), (3, .int (v3 + (nI 1)))] [] (mi1, ml2, (RX y)) (QI K)) ∧ (r3 = (nI 1) → K (v3 + (nI 1)) mi1 ml2))))))))))))) : wp G e tX m_X5_listPowers 4 [(0, .ref 3), (1, .int v1), (2, .int v2), (3, .int v3)] [] (mi, ml, (RX y)) (QI K) :=
  vc_at 600 (Nat.le_of_ble_eq_true rfl) rfl _ _ rfl rfl h
theorem e_X5_modulus {G : GC} {e : Nat} {mi : Nat → Nat → Int32} {ml : Nat → Nat → Int64} {y : Nat → Nat → Option Nat} {K : Int32 → (Nat → Nat → Int32) → (Nat → Nat → Int64) → Prop} (h : K (mi 3 1) mi ml) : wpI G e 154 m_X5_modulus [.ref 3] (mi, ml, (RX y)) K :=
  vc_in 600 (Nat.le_of_ble_eq_true rfl) rfl _ _ rfl rfl h
theorem e_X5_degree {G : GC} {e : Nat} {mi : Nat → Nat → Int32} {ml : Nat → Nat → Int64} {y : Nat → Nat → Option Nat} {K : Int32 → (Nat → Nat → Int32) → (Nat → Nat → Int64) → Prop} (h : K (mi 3 2) mi ml) : wpI G e 154 m_X5_degree [.ref 3] (mi, ml, (RX y)) K :=
  vc_in 600 (Nat.le_of_ble_eq_true rfl) rfl _ _ rfl rfl h
theorem e_X5_size {G : GC} {e : Nat} {mi : Nat → Nat → Int32} {ml : Nat → Nat → Int64} {y : Nat → Nat → Option Nat} {K : Int32 → (Nat → Nat → Int32) → (Nat → Nat → Int64) → Prop} (h : K (mi 3 3) mi ml) : wpI G e 154 m_X5_size [.ref 3] (mi, ml, (RX y)) K :=
  vc_in 600 (Nat.le_of_ble_eq_true rfl) rfl _ _ rfl rfl h
theorem e_X5_holds {G : GC} {e : Nat} {mi : Nat → Nat → Int32} {ml : Nat → Nat → Int64} {y : Nat → Nat → Option Nat} {K : Int32 → (Nat → Nat → Int32) → (Nat → Nat → Int64) → Prop} (v1 : Int32) (h : ((v1 < (nI 0) → (isB (nI 0) ∧ K (nI 0) mi ml)) ∧ (¬ v1 < (nI 0) → (((mi 3 3) ≤ v1 → (isB (nI 0) ∧ K (nI 0) mi ml)) ∧ (¬ (mi 3 3) ≤ v1 → (isB (nI 1) ∧ K (nI 1) mi ml)))))) : wpI G e 154 m_X5_holds [.ref 3, .int v1] (mi, ml, (RX y)) K :=
  vc_in 600 (Nat.le_of_ble_eq_true rfl) rfl _ _ rfl rfl h
theorem e_X5_makerPower {G : GC} {e : Nat} {mi : Nat → Nat → Int32} {ml : Nat → Nat → Int64} {y : Nat → Nat → Option Nat} {K : Int32 → (Nat → Nat → Int32) → (Nat → Nat → Int64) → Prop} (v1 : Int32) (h : ((v1 < (nI 0) → K (nI 1) mi ml) ∧ (¬ v1 < (nI 0) → (((nI 2) ≤ (mi 3 3) → (¬ ((mi 3 3) - (nI 1)) = 0 ∧ (vp_in (rm v1 ((mi 3 3) - (nI 1))) 128 ∧ K (mi 4 (ix (rm v1 ((mi 3 3) - (nI 1))))) mi ml))) ∧ (¬ (nI 2) ≤ (mi 3 3) → K (nI 1) mi ml))))) : wpI G e 154 m_X5_makerPower [.ref 3, .int v1] (mi, ml, (RX y)) K :=
  vc_in 600 (Nat.le_of_ble_eq_true rfl) rfl _ _ rfl rfl h
theorem e_X5_product {G : GC} {e : Nat} {mi : Nat → Nat → Int32} {ml : Nat → Nat → Int64} {y : Nat → Nat → Option Nat} {K : Int32 → (Nat → Nat → Int32) → (Nat → Nat → Int64) → Prop} (v1 v2 : Int32) (h : ((v1 < (nI 1) → K (nI 0) mi ml) ∧ (¬ v1 < (nI 1) → ((v2 < (nI 1) → K (nI 0) mi ml) ∧ (¬ v2 < (nI 1) → (((mi 3 3) ≤ v1 → K (nI 0) mi ml) ∧ (¬ (mi 3 3) ≤ v1 → ((v2 < (mi 3 3) → (vp_in v1 128 ∧ (vp_in v2 128 ∧ (¬ ((mi 3 3) - (nI 1)) = 0 ∧ (vp_in (rm ((mi 5 (ix v1)) + (mi 5 (ix v2))) ((mi 3 3) - (nI 1))) 128 ∧ K (mi 4 (ix (rm ((mi 5 (ix v1)) + (mi 5 (ix v2))) ((mi 3 3) - (nI 1))))) mi ml))))) ∧ (¬ v2 < (mi 3 3) → K (nI 0) mi ml))))))))) : wpI G e 154 m_X5_product [.ref 3, .int v1, .int v2] (mi, ml, (RX y)) K :=
  vc_in 600 (Nat.le_of_ble_eq_true rfl) rfl _ _ rfl rfl h
theorem e_X5_quotient {G : GC} {e : Nat} {mi : Nat → Nat → Int32} {ml : Nat → Nat → Int64} {y : Nat → Nat → Option Nat} {K : Int32 → (Nat → Nat → Int32) → (Nat → Nat → Int64) → Prop} (v1 v2 : Int32) (h : ((v1 < (nI 1) → K (nI 0) mi ml) ∧ (¬ v1 < (nI 1) → ((v2 < (nI 1) → K (nI 0) mi ml) ∧ (¬ v2 < (nI 1) → (((mi 3 3) ≤ v1 → K (nI 0) mi ml) ∧ (¬ (mi 3 3) ≤ v1 → ((v2 < (mi 3 3) → (vp_in v1 128 ∧ (vp_in v2 128 ∧ (¬ ((mi 3 3) - (nI 1)) = 0 ∧ (vp_in (rm ((((mi 5 (ix v1)) + (mi 3 3)) - (nI 1)) - (mi 5 (ix v2))) ((mi 3 3) - (nI 1))) 128 ∧ K (mi 4 (ix (rm ((((mi 5 (ix v1)) + (mi 3 3)) - (nI 1)) - (mi 5 (ix v2))) ((mi 3 3) - (nI 1))))) mi ml))))) ∧ (¬ v2 < (mi 3 3) → K (nI 0) mi ml))))))))) : wpI G e 154 m_X5_quotient [.ref 3, .int v1, .int v2] (mi, ml, (RX y)) K :=
  vc_in 600 (Nat.le_of_ble_eq_true rfl) rfl _ _ rfl rfl h
theorem e_X5_turnedUp {G : GC} {e : Nat} {mi : Nat → Nat → Int32} {ml : Nat → Nat → Int64} {y : Nat → Nat → Option Nat} {K : Int32 → (Nat → Nat → Int32) → (Nat → Nat → Int64) → Prop} (v1 v2 : Int32) (h : ((v1 < (nI 1) → K (nI 0) mi ml) ∧ (¬ v1 < (nI 1) → (((mi 3 3) ≤ v1 → K (nI 0) mi ml) ∧ (¬ (mi 3 3) ≤ v1 → ((v2 < (nI 0) → K (nI 0) mi ml) ∧ (¬ v2 < (nI 0) → (((nI 1) ≤ (mi 3 2) → (vp_in v1 128 ∧ (¬ (mi 3 2) = 0 ∧ (vp_in (rm v2 (mi 3 2)) 13 ∧ (¬ ((mi 3 3) - (nI 1)) = 0 ∧ (vp_in (rm ((mi 5 (ix v1)) * (mi 6 (ix (rm v2 (mi 3 2))))) ((mi 3 3) - (nI 1))) 128 ∧ K (mi 4 (ix (rm ((mi 5 (ix v1)) * (mi 6 (ix (rm v2 (mi 3 2))))) ((mi 3 3) - (nI 1))))) mi ml)))))) ∧ (¬ (nI 1) ≤ (mi 3 2) → K (nI 0) mi ml))))))))) : wpI G e 154 m_X5_turnedUp [.ref 3, .int v1, .int v2] (mi, ml, (RX y)) K :=
  vc_in 600 (Nat.le_of_ble_eq_true rfl) rfl _ _ rfl rfl h
theorem e_X8_degreeOf {G : GC} {e : Nat} {mi : Nat → Nat → Int32} {ml : Nat → Nat → Int64} {y : Nat → Nat → Option Nat} {K : Int32 → (Nat → Nat → Int32) → (Nat → Nat → Int64) → Prop} (c0 : Nat) (h : ((ak c0 = 11 ∧ c0 < 154) ∧ wp G e tX m_X8_degreeOf 5 [(0, .ref c0), (1, .int ((nI (an c0)) - (nI 1)))] [] (mi, ml, (RX y)) (QI K))) : wpI G e 154 m_X8_degreeOf [.ref c0] (mi, ml, (RX y)) K :=
  vc_in 600 (Nat.le_of_ble_eq_true rfl) rfl _ _ rfl rfl h
theorem b_X8_degreeOf_5 {G : GC} {e : Nat} {mi : Nat → Nat → Int32} {ml : Nat → Nat → Int64} {y : Nat → Nat → Option Nat} {K : Int32 → (Nat → Nat → Int32) → (Nat → Nat → Int64) → Prop} (v1 : Int32) (c0 : Nat) (h : ((v1 < (nI 0) → K v1 mi ml) ∧ (¬ v1 < (nI 0) → ((ak c0 = 11 ∧ c0 < 154) ∧ (vp_in v1 (an c0) ∧ ((¬ (mi c0 (ix v1)) = (nI 0) → K v1 mi ml) ∧ ((mi c0 (ix v1)) = (nI 0) → wp G e tX m_X8_degreeOf 5 [(0, .ref c0), (1, .int (v1 + (-(nI 1))))] [] (mi, ml, (RX y)) (QI K)))))))) : wp G e tX m_X8_degreeOf 5 [(0, .ref c0), (1, .int v1)] [] (mi, ml, (RX y)) (QI K) :=
  vc_at 600 (Nat.le_of_ble_eq_true rfl) rfl _ _ rfl rfl h
theorem e_X8_clear {G : GC} {e : Nat} {mi : Nat → Nat → Int32} {ml : Nat → Nat → Int64} {y : Nat → Nat → Option Nat} {K : (Nat → Nat → Int32) → (Nat → Nat → Int64) → Prop} (c0 : Nat) (h : wp G e tX m_X8_clear 2 [(0, .ref c0), (1, .int (nI 0))] [] (mi, ml, (RX y)) (QV K)) : wpV G e 154 m_X8_clear [.ref c0] (mi, ml, (RX y)) K :=
  vc_in 600 (Nat.le_of_ble_eq_true rfl) rfl _ _ rfl rfl h
theorem b_X8_clear_2 {G : GC} {e : Nat} {mi : Nat → Nat → Int32} {ml : Nat → Nat → Int64} {y : Nat → Nat → Option Nat} {K : (Nat → Nat → Int32) → (Nat → Nat → Int64) → Prop} (v1 : Int32) (c0 : Nat) (h : ((ak c0 = 11 ∧ c0 < 154) ∧ (((nI (an c0)) ≤ v1 → K mi ml) ∧ (¬ (nI (an c0)) ≤ v1 → ((ak c0 = 11 ∧ c0 < 154) ∧ (vp_in v1 (an c0) ∧ wp G e tX m_X8_clear 2 [(0, .ref c0), (1, .int (v1 + (nI 1)))] [] ((u2 mi c0 (ix v1) (nI 0)), ml, (RX y)) (QV K))))))) : wp G e tX m_X8_clear 2 [(0, .ref c0), (1, .int v1)] [] (mi, ml, (RX y)) (QV K) :=
  vc_at 600 (Nat.le_of_ble_eq_true rfl) rfl _ _ rfl rfl h
theorem e_X8_copy {G : GC} {e : Nat} {mi : Nat → Nat → Int32} {ml : Nat → Nat → Int64} {y : Nat → Nat → Option Nat} {K : (Nat → Nat → Int32) → (Nat → Nat → Int64) → Prop} (c0 c1 : Nat) (h : wp G e tX m_X8_copy 2 [(0, .ref c0), (1, .ref c1), (2, .int (nI 0))] [] (mi, ml, (RX y)) (QV K)) : wpV G e 154 m_X8_copy [.ref c0, .ref c1] (mi, ml, (RX y)) K :=
  vc_in 600 (Nat.le_of_ble_eq_true rfl) rfl _ _ rfl rfl h
theorem b_X8_copy_2 {G : GC} {e : Nat} {mi : Nat → Nat → Int32} {ml : Nat → Nat → Int64} {y : Nat → Nat → Option Nat} {K : (Nat → Nat → Int32) → (Nat → Nat → Int64) → Prop} (v2 : Int32) (c0 c1 : Nat) (h : ((ak c1 = 11 ∧ c1 < 154) ∧ (((nI (an c1)) ≤ v2 → K mi ml) ∧ (¬ (nI (an c1)) ≤ v2 → ((ak c0 = 11 ∧ c0 < 154) ∧ (((nI (an c0)) ≤ v2 → ((ak c1 = 11 ∧ c1 < 154) ∧ (vp_in v2 (an c1) ∧ wp G e tX m_X8_copy 2 [(0, .ref c0), (1, .ref c1), (2, .int (v2 + (nI 1)))] [] ((u2 mi c1 (ix v2) (nI 0)), ml, (RX y)) (QV K)))) ∧ (¬ (nI (an c0)) ≤ v2 → ((ak c0 = 11 ∧ c0 < 154) ∧ (vp_in v2 (an c0) ∧ ((ak c1 = 11 ∧ c1 < 154) ∧ (vp_in v2 (an c1) ∧ wp G e tX m_X8_copy 2 [(0, .ref c0), (1, .ref c1), (2, .int (v2 + (nI 1)))] [] ((u2 mi c1 (ix v2) (mi c0 (ix v2))), ml, (RX y)) (QV K)))))))))))) : wp G e tX m_X8_copy 2 [(0, .ref c0), (1, .ref c1), (2, .int v2)] [] (mi, ml, (RX y)) (QV K) :=
  vc_at 600 (Nat.le_of_ble_eq_true rfl) rfl _ _ rfl rfl h
theorem e_X8_mix {G : GC} {e : Nat} {mi : Nat → Nat → Int32} {ml : Nat → Nat → Int64} {y : Nat → Nat → Option Nat} {K : (Nat → Nat → Int32) → (Nat → Nat → Int64) → Prop} (v3 : Int32) (c1 c2 : Nat) (h : wp G e tX m_X8_mix 3 [(0, .ref 10), (1, .ref c1), (2, .ref c2), (3, .int v3), (4, .int (nI 0))] [] (mi, ml, (RX y)) (QV K)) : wpV G e 154 m_X8_mix [.ref 10, .ref c1, .ref c2, .int v3] (mi, ml, (RX y)) K :=
  vc_in 600 (Nat.le_of_ble_eq_true rfl) rfl _ _ rfl rfl h
theorem b_X8_mix_3 {G : GC} {e : Nat} {mi : Nat → Nat → Int32} {ml : Nat → Nat → Int64} {y : Nat → Nat → Option Nat} {K : (Nat → Nat → Int32) → (Nat → Nat → Int64) → Prop} (v3 v4 : Int32) (c1 c2 : Nat) (h : ((ak c1 = 11 ∧ c1 < 154) ∧ (((nI (an c1)) ≤ v4 → K mi ml) ∧ (¬ (nI (an c1)) ≤ v4 → ((ak c2 = 11 ∧ c2 < 154) ∧ (((nI (an c2)) ≤ v4 → K mi ml) ∧ (¬ (nI (an c2)) ≤ v4 → ((ak c1 = 11 ∧ c1 < 154) ∧ (vp_in v4 (an c1) ∧ ((ak c2 = 11 ∧ c2 < 154) ∧ (vp_in v4 (an c2) ∧ (wpI G e 154 m_X1_mix [.ref 1, .int (mi c1 (ix v4)), .int (mi c2 (ix v4)), .int v3] (mi, ml, (RX y)) (fun r3 mi1 ml2 => ((ak c1 = 11 ∧ c1 < 154) ∧ (vp_in v4 (an c1) ∧ wp G e tX m_X8_mix 3 [(0, .ref 10), (1, .ref c1), (2, .ref c2), (3, .int v3), (4, .int (v4 + (nI 1)))] [] ((u2 mi1 c1 (ix v4) r3), ml2, (RX y)) (QV K)))))))))))))))) : wp G e tX m_X8_mix 3 [(0, .ref 10), (1, .ref c1), (2, .ref c2), (3, .int v3), (4, .int v4)] [] (mi, ml, (RX y)) (QV K) :=
  vc_at 600 (Nat.le_of_ble_eq_true rfl) rfl _ _ rfl rfl h
theorem e_X8_multiply {G : GC} {e : Nat} {mi : Nat → Nat → Int32} {ml : Nat → Nat → Int64} {y : Nat → Nat → Option Nat} {K : Int32 → (Nat → Nat → Int32) → (Nat → Nat → Int64) → Prop} (c1 c2 : Nat) (h : (wpI G e 154 m_X8_degreeOf [.ref c1] (mi, ml, (RX y)) (fun r3 mi1 ml2 => (wpI G e 154 m_X8_degreeOf [.ref c2] (mi1, ml2, (RX y)) (fun r6 mi4 ml5 => ((r3 < (nI 0) → (((nI 0) ≤ r6 → wp G e tX m_X8_multiply 46 [(0, .ref 10), (1, .ref c1), (2, .ref c2), (4, .int r6), (5, .int (r3 + r6))] [] (mi4, ml5, (RX y)) (QI K)) ∧ (¬ (nI 0) ≤ r6 → wp G e tX m_X8_multiply 46 [(0, .ref 10), (1, .ref c1), (2, .ref c2), (4, .int r6), (5, .int r3)] [] (mi4, ml5, (RX y)) (QI K)))) ∧ (¬ r3 < (nI 0) → ((r6 < (nI 0) → (((nI 0) ≤ r6 → wp G e tX m_X8_multiply 46 [(0, .ref 10), (1, .ref c1), (2, .ref c2), (4, .int r6), (5, .int (r3 + r6))] [] (mi4, ml5, (RX y)) (QI K)) ∧ (¬ (nI 0) ≤ r6 → wp G e tX m_X8_multiply 46 [(0, .ref 10), (1, .ref c1), (2, .ref c2), (4, .int r6), (5, .int r3)] [] (mi4, ml5, (RX y)) (QI K)))) ∧ (¬ r6 < (nI 0) → ((ak c1 = 11 ∧ c1 < 154) ∧ (((r3 + r6) < (nI (an c1)) → (((nI 0) ≤ r6 → wp G e tX m_X8_multiply 46 [(0, .ref 10), (1, .ref c1), (2, .ref c2), (4, .int r6), (5, .int (r3 + r6))] [] (mi4, ml5, (RX y)) (QI K)) ∧ (¬ (nI 0) ≤ r6 → wp G e tX m_X8_multiply 46 [(0, .ref 10), (1, .ref c1), (2, .ref c2), (4, .int r6), (5, .int r3)] [] (mi4, ml5, (RX y)) (QI K)))) ∧ (¬ (r3 + r6) < (nI (an c1)) → (isB (nI 0) ∧ K (nI 0) mi4 ml5))))))))))))) : wpI G e 154 m_X8_multiply [.ref 10, .ref c1, .ref c2] (mi, ml, (RX y)) K :=
  vc_in 600 (Nat.le_of_ble_eq_true rfl) rfl _ _ rfl rfl h
theorem b_X8_multiply_46 {G : GC} {e : Nat} {mi : Nat → Nat → Int32} {ml : Nat → Nat → Int64} {y : Nat → Nat → Option Nat} {K : Int32 → (Nat → Nat → Int32) → (Nat → Nat → Int64) → Prop} (v4 v5 : Int32) (c1 c2 : Nat) (h : ((v5 < (nI 0) → (isB (nI 1) ∧ K (nI 1) mi ml)) ∧ (¬ v5 < (nI 0) → ((ak c1 = 11 ∧ c1 < 154) ∧ (((nI (an c1)) ≤ v5 → (isB (nI 1) ∧ K (nI 1) mi ml)) ∧ (¬ (nI (an c1)) ≤ v5 → wp G e tX m_X8_multiply 64 [(0, .ref 10), (1, .ref c1), (2, .ref c2), (4, .int v4), (5, .int v5), (6, .int (nI 0)), (7, .int (nI 0))] [] (mi, ml, (RX y)) (QI K))))))) : wp G e tX m_X8_multiply 46 [(0, .ref 10), (1, .ref c1), (2, .ref c2), (4, .int v4), (5, .int v5)] [] (mi, ml, (RX y)) (QI K) :=
  vc_at 600 (Nat.le_of_ble_eq_true rfl) rfl _ _ rfl rfl h
theorem b_X8_multiply_64 {G : GC} {e : Nat} {mi : Nat → Nat → Int32} {ml : Nat → Nat → Int64} {y : Nat → Nat → Option Nat} {K : Int32 → (Nat → Nat → Int32) → (Nat → Nat → Int64) → Prop} (v4 v5 v6 v7 : Int32) (c1 c2 : Nat) (h : ((v4 < v7 → ((ak c1 = 11 ∧ c1 < 154) ∧ (vp_in v5 (an c1) ∧ wp G e tX m_X8_multiply 46 [(0, .ref 10), (1, .ref c1), (2, .ref c2), (4, .int v4), (5, .int (v5 + (-(nI 1))))] [] ((u2 mi c1 (ix v5) v6), ml, (RX y)) (QI K)))) ∧ (¬ v4 < v7 → ((v5 < v7 → ((ak c1 = 11 ∧ c1 < 154) ∧ (vp_in v5 (an c1) ∧ wp G e tX m_X8_multiply 46 [(0, .ref 10), (1, .ref c1), (2, .ref c2), (4, .int v4), (5, .int (v5 + (-(nI 1))))] [] ((u2 mi c1 (ix v5) v6), ml, (RX y)) (QI K)))) ∧ (¬ v5 < v7 → ((ak c1 = 11 ∧ c1 < 154) ∧ (vp_in (v5 - v7) (an c1) ∧ ((ak c2 = 11 ∧ c2 < 154) ∧ (vp_in v7 (an c2) ∧ (wpI G e 154 m_X5_turnedUp [.ref 3, .int (mi c2 (ix v7)), .int (v5 - v7)] (mi, ml, (RX y)) (fun r3 mi1 ml2 => (wpI G e 154 m_X5_product [.ref 3, .int (mi c1 (ix (v5 - v7))), .int r3] (mi1, ml2, (RX y)) (fun r6 mi4 ml5 => (wpI G e 154 m_X1_mix [.ref 1, .int v6, .int r6, .int (nI 1)] (mi4, ml5, (RX y)) (fun r9 mi7 ml8 => wp G e tX m_X8_multiply 64 [(0, .ref 10), (1, .ref c1), (2, .ref c2), (4, .int v4), (5, .int v5), (6, .int r9), (7, .int (v7 + (nI 1)))] [] (mi7, ml8, (RX y)) (QI K)))))))))))))))) : wp G e tX m_X8_multiply 64 [(0, .ref 10), (1, .ref c1), (2, .ref c2), (4, .int v4), (5, .int v5), (6, .int v6), (7, .int v7)] [] (mi, ml, (RX y)) (QI K) :=
  vc_at 600 (Nat.le_of_ble_eq_true rfl) rfl _ _ rfl rfl h
theorem e_X8_divide {G : GC} {e : Nat} {mi : Nat → Nat → Int32} {ml : Nat → Nat → Int64} {y : Nat → Nat → Option Nat} {K : (Nat → Nat → Int32) → (Nat → Nat → Int64) → Prop} (c1 c2 c3 : Nat) (h : (wpV G e 154 m_X8_clear [.ref c3] (mi, ml, (RX y)) (fun mi1 ml2 => (wpI G e 154 m_X8_degreeOf [.ref c2] (mi1, ml2, (RX y)) (fun r5 mi3 ml4 => (((nI 0) ≤ r5 → (wpI G e 154 m_X8_degreeOf [.ref c1] (mi3, ml4, (RX y)) (fun r8 mi6 ml7 => wp G e tX m_X8_divide 25 [(0, .ref 10), (1, .ref c1), (2, .ref c2), (3, .ref c3), (4, .int r5), (5, .int (r8 - r5))] [] (mi6, ml7, (RX y)) (QV K)))) ∧ (¬ (nI 0) ≤ r5 → K mi3 ml4))))))) : wpV G e 154 m_X8_divide [.ref 10, .ref c1, .ref c2, .ref c3] (mi, ml, (RX y)) K :=
  vc_in 600 (Nat.le_of_ble_eq_true rfl) rfl _ _ rfl rfl h
theorem b_X8_divide_25 {G : GC} {e : Nat} {mi : Nat → Nat → Int32} {ml : Nat → Nat → Int64} {y : Nat → Nat → Option Nat} {K : (Nat → Nat → Int32) → (Nat → Nat → Int64) → Prop} (v4 v5 : Int32) (c1 c2 c3 : Nat) (h : ((v5 < (nI 0) → K mi ml) ∧ (¬ v5 < (nI 0) → ((ak c3 = 11 ∧ c3 < 154) ∧ (((nI (an c3)) ≤ v5 → K mi ml) ∧ (¬ (nI (an c3)) ≤ v5 → ((ak c1 = 11 ∧ c1 < 154) ∧ (vp_in (v5 + v4) (an c1) ∧ ((ak c2 = 11 ∧ c2 < 154) ∧ (vp_in v4 (an c2) ∧ (wpI G e 154 m_X5_turnedUp [.ref 3, .int (mi c2 (ix v4)), .int v5] (mi, ml, (RX y)) (fun r3 mi1 ml2 => (wpI G e 154 m_X5_quotient [.ref 3, .int (mi c1 (ix (v5 + v4))), .int r3] (mi1, ml2, (RX y)) (fun r6 mi4 ml5 => ((ak c3 = 11 ∧ c3 < 154) ∧ (vp_in v5 (an c3) ∧ wp G e tX m_X8_divide 75 [(0, .ref 10), (1, .ref c1), (2, .ref c2), (3, .ref c3), (4, .int v4), (5, .int v5), (6, .int r6), (7, .int (nI 0))] [] ((u2 mi4 c3 (ix v5) r6), ml5, (RX y)) (QV K))))))))))))))))) : wp G e tX m_X8_divide 25 [(0, .ref 10), (1, .ref c1), (2, .ref c2), (3, .ref c3), (4, .int v4), (5, .int v5)] [] (mi, ml, (RX y)) (QV K) :=
  vc_at 600 (Nat.le_of_ble_eq_true rfl) rfl _ _ rfl rfl h
theorem b_X8_divide_75 {G : GC} {e : Nat} {mi : Nat → Nat → Int32} {ml : Nat → Nat → Int64} {y : Nat → Nat → Option Nat} {K : (Nat → Nat → Int32) → (Nat → Nat → Int64) → Prop} (v4 v5 v6 v7 : Int32) (c1 c2 c3 : Nat) (h : ((v4 < v7 → wp G e tX m_X8_divide 25 [(0, .ref 10), (1, .ref c1), (2, .ref c2), (3, .ref c3), (4, .int v4), (5, .int (v5 + (-(nI 1))))] [] (mi, ml, (RX y)) (QV K)) ∧ (¬ v4 < v7 → ((ak c2 = 11 ∧ c2 < 154) ∧ (vp_in v7 (an c2) ∧ (wpI G e 154 m_X5_turnedUp [.ref 3, .int (mi c2 (ix v7)), .int v5] (mi, ml, (RX y)) (fun r3 mi1 ml2 => (wpI G e 154 m_X5_product [.ref 3, .int v6, .int r3] (mi1, ml2, (RX y)) (fun r6 mi4 ml5 => ((ak c1 = 11 ∧ c1 < 154) ∧ (vp_in (v5 + v7) (an c1) ∧ (wpI G e 154 m_X1_difference [.ref 1, .int (mi4 c1 (ix (v5 + v7))), .int r6] (mi4, ml5, (RX y)) (fun r9 mi7 ml8 => ((ak c1 = 11 ∧ c1 < 154) ∧ (vp_in (v5 + v7) (an c1) ∧ wp G e tX m_X8_divide 75 [(0, .ref 10), (1, .ref c1), (2, .ref c2), (3, .ref c3), (4, .int v4), (5, .int v5), (6, .int v6), (7, .int (v7 + (nI 1)))] [] ((u2 mi7 c1 (ix (v5 + v7)) r9), ml8, (RX y)) (QV K)))))))))))))))) : wp G e tX m_X8_divide 75 [(0, .ref 10), (1, .ref c1), (2, .ref c2), (3, .ref c3), (4, .int v4), (5, .int v5), (6, .int v6), (7, .int v7)] [] (mi, ml, (RX y)) (QV K) :=
  vc_at 600 (Nat.le_of_ble_eq_true rfl) rfl _ _ rfl rfl h
theorem e_X8_valueAt {G : GC} {e : Nat} {mi : Nat → Nat → Int32} {ml : Nat → Nat → Int64} {y : Nat → Nat → Option Nat} {K : Int32 → (Nat → Nat → Int32) → (Nat → Nat → Int64) → Prop} (v2 : Int32) (c1 : Nat) (h : wp G e tX m_X8_valueAt 5 [(0, .ref 10), (1, .ref c1), (2, .int v2), (3, .int (nI 0)), (4, .int (nI 0))] [] (mi, ml, (RX y)) (QI K)) : wpI G e 154 m_X8_valueAt [.ref 10, .ref c1, .int v2] (mi, ml, (RX y)) K :=
  vc_in 600 (Nat.le_of_ble_eq_true rfl) rfl _ _ rfl rfl h
theorem b_X8_valueAt_5 {G : GC} {e : Nat} {mi : Nat → Nat → Int32} {ml : Nat → Nat → Int64} {y : Nat → Nat → Option Nat} {K : Int32 → (Nat → Nat → Int32) → (Nat → Nat → Int64) → Prop} (v2 v3 v4 : Int32) (c1 : Nat) (h : ((ak c1 = 11 ∧ c1 < 154) ∧ (((nI (an c1)) ≤ v4 → K v3 mi ml) ∧ (¬ (nI (an c1)) ≤ v4 → ((ak c1 = 11 ∧ c1 < 154) ∧ (vp_in v4 (an c1) ∧ (((mi c1 (ix v4)) = (nI 0) → wp G e tX m_X8_valueAt 5 [(0, .ref 10), (1, .ref c1), (2, .int v2), (3, .int v3), (4, .int (v4 + (nI 1)))] [] (mi, ml, (RX y)) (QI K)) ∧ (¬ (mi c1 (ix v4)) = (nI 0) → ((ak c1 = 11 ∧ c1 < 154) ∧ (vp_in v4 (an c1) ∧ (wpI G e 154 m_X5_turnedUp [.ref 3, .int v2, .int v4] (mi, ml, (RX y)) (fun r3 mi1 ml2 => (wpI G e 154 m_X5_product [.ref 3, .int (mi c1 (ix v4)), .int r3] (mi1, ml2, (RX y)) (fun r6 mi4 ml5 => (wpI G e 154 m_X1_mix [.ref 1, .int v3, .int r6, .int (nI 1)] (mi4, ml5, (RX y)) (fun r9 mi7 ml8 => wp G e tX m_X8_valueAt 5 [(0, .ref 10), (1, .ref c1), (2, .int v2), (3, .int r9), (4, .int (v4 + (nI 1)))] [] (mi7, ml8, (RX y)) (QI K))))))))))))))))) : wp G e tX m_X8_valueAt 5 [(0, .ref 10), (1, .ref c1), (2, .int v2), (3, .int v3), (4, .int v4)] [] (mi, ml, (RX y)) (QI K) :=
  vc_at 600 (Nat.le_of_ble_eq_true rfl) rfl _ _ rfl rfl h
end
