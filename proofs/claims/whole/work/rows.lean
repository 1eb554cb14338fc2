section
-- ===== PART A: goes FIRST, ahead of the names: the tables' words, and 'selects' of the private methods out of them =====
/-- a private method of a class that the tables say can be made, by its rows of tables_1 -/
def lw_okq (q : MethodName × Nat) : Prop := (q.1.cls ≠ "java/lang/invoke/MethodHandle" ∧ q.1.cls ≠ "java/lang/invoke/VarHandle") ∧ Cond.instantiable q.1.cls q.2 ∈ tables_1 ∧ Cond.privateMethod q.1 ∈ tables_1 ∧ Cond.instanceMethod q.1 ∈ tables_1
theorem lw_p0 : lw_okq (⟨"PowersForTimes$Rests", "listPowers", "(I)I"⟩, 7) := ⟨⟨by decide +kernel, by decide +kernel⟩, List.mem_of_getElem? (i := 45) (by decide +kernel), List.mem_of_getElem? (i := 313) (by decide +kernel), List.mem_of_getElem? (i := 314) (by decide +kernel)⟩
theorem lw_p1 : lw_okq (⟨"PowersForTimes", "isModulus", "(I)Z"⟩, 16) := ⟨⟨by decide +kernel, by decide +kernel⟩, List.mem_of_getElem? (i := 19) (by decide +kernel), List.mem_of_getElem? (i := 393) (by decide +kernel), List.mem_of_getElem? (i := 394) (by decide +kernel)⟩
theorem lw_p2 : lw_okq (⟨"PowersForTimes$Primes", "splitUp", "(II)V"⟩, 5) := ⟨⟨by decide +kernel, by decide +kernel⟩, List.mem_of_getElem? (i := 74) (by decide +kernel), List.mem_of_getElem? (i := 445) (by decide +kernel), List.mem_of_getElem? (i := 446) (by decide +kernel)⟩
theorem lw_p3 : lw_okq (⟨"PowersForTimes$Primes", "trace", "(III)I"⟩, 5) := ⟨⟨by decide +kernel, by decide +kernel⟩, List.mem_of_getElem? (i := 74) (by decide +kernel), List.mem_of_getElem? (i := 449) (by decide +kernel), List.mem_of_getElem? (i := 450) (by decide +kernel)⟩
theorem lw_p4 : lw_okq (⟨"PowersForTimes$Primes", "splitBy", "(I)V"⟩, 5) := ⟨⟨by decide +kernel, by decide +kernel⟩, List.mem_of_getElem? (i := 74) (by decide +kernel), List.mem_of_getElem? (i := 457) (by decide +kernel), List.mem_of_getElem? (i := 458) (by decide +kernel)⟩
theorem lw_p5 : lw_okq (⟨"PowersForTimes$Primes", "takeOut", "(II)I"⟩, 5) := ⟨⟨by decide +kernel, by decide +kernel⟩, List.mem_of_getElem? (i := 74) (by decide +kernel), List.mem_of_getElem? (i := 465) (by decide +kernel), List.mem_of_getElem? (i := 466) (by decide +kernel)⟩
theorem lw_p6 : lw_okq (⟨"PowersForTimes$Primes", "add", "(I)V"⟩, 5) := ⟨⟨by decide +kernel, by decide +kernel⟩, List.mem_of_getElem? (i := 74) (by decide +kernel), List.mem_of_getElem? (i := 469) (by decide +kernel), List.mem_of_getElem? (i := 470) (by decide +kernel)⟩
theorem lw_p7 : lw_okq (⟨"PowersForTimes$Primes", "sort", "()V"⟩, 5) := ⟨⟨by decide +kernel, by decide +kernel⟩, List.mem_of_getElem? (i := 74) (by decide +kernel), List.mem_of_getElem? (i := 473) (by decide +kernel), List.mem_of_getElem? (i := 474) (by decide +kernel)⟩
theorem lw_p8 : lw_okq (⟨"PowersForTimes", "putRow", "(IIII)V"⟩, 16) := ⟨⟨by decide +kernel, by decide +kernel⟩, List.mem_of_getElem? (i := 19) (by decide +kernel), List.mem_of_getElem? (i := 522) (by decide +kernel), List.mem_of_getElem? (i := 523) (by decide +kernel)⟩
theorem lw_p9 : lw_okq (⟨"PowersForTimes", "feedFour", "(I)V"⟩, 16) := ⟨⟨by decide +kernel, by decide +kernel⟩, List.mem_of_getElem? (i := 19) (by decide +kernel), List.mem_of_getElem? (i := 556) (by decide +kernel), List.mem_of_getElem? (i := 557) (by decide +kernel)⟩
theorem lw_p10 : lw_okq (⟨"PowersForTimes$Reader", "step", "()V"⟩, 14) := ⟨⟨by decide +kernel, by decide +kernel⟩, List.mem_of_getElem? (i := 204) (by decide +kernel), List.mem_of_getElem? (i := 583) (by decide +kernel), List.mem_of_getElem? (i := 584) (by decide +kernel)⟩
theorem lw_p11 : lw_okq (⟨"PowersForTimes$Reader", "byteAt", "(I)I"⟩, 14) := ⟨⟨by decide +kernel, by decide +kernel⟩, List.mem_of_getElem? (i := 204) (by decide +kernel), List.mem_of_getElem? (i := 587) (by decide +kernel), List.mem_of_getElem? (i := 588) (by decide +kernel)⟩
theorem lw_p12 : lw_okq (⟨"PowersForTimes$Reader", "stepNumber", "()V"⟩, 14) := ⟨⟨by decide +kernel, by decide +kernel⟩, List.mem_of_getElem? (i := 204) (by decide +kernel), List.mem_of_getElem? (i := 594) (by decide +kernel), List.mem_of_getElem? (i := 595) (by decide +kernel)⟩
theorem lw_p13 : lw_okq (⟨"PowersForTimes$Reader", "clauseKind", "()I"⟩, 14) := ⟨⟨by decide +kernel, by decide +kernel⟩, List.mem_of_getElem? (i := 204) (by decide +kernel), List.mem_of_getElem? (i := 608) (by decide +kernel), List.mem_of_getElem? (i := 609) (by decide +kernel)⟩
theorem lw_p14 : lw_okq (⟨"PowersForTimes$Reader", "isWord", "(Ljava/lang/String;)Z"⟩, 14) := ⟨⟨by decide +kernel, by decide +kernel⟩, List.mem_of_getElem? (i := 204) (by decide +kernel), List.mem_of_getElem? (i := 613) (by decide +kernel), List.mem_of_getElem? (i := 614) (by decide +kernel)⟩
theorem lw_p15 : lw_okq (⟨"PowersForTimes$Reader", "fail", "(I)Z"⟩, 14) := ⟨⟨by decide +kernel, by decide +kernel⟩, List.mem_of_getElem? (i := 204) (by decide +kernel), List.mem_of_getElem? (i := 666) (by decide +kernel), List.mem_of_getElem? (i := 667) (by decide +kernel)⟩
def lw_privs_1 : List (MethodName × Nat) := [(⟨"PowersForTimes$Rests", "listPowers", "(I)I"⟩, 7), (⟨"PowersForTimes", "isModulus", "(I)Z"⟩, 16), (⟨"PowersForTimes$Primes", "splitUp", "(II)V"⟩, 5), (⟨"PowersForTimes$Primes", "trace", "(III)I"⟩, 5), (⟨"PowersForTimes$Primes", "splitBy", "(I)V"⟩, 5), (⟨"PowersForTimes$Primes", "takeOut", "(II)I"⟩, 5), (⟨"PowersForTimes$Primes", "add", "(I)V"⟩, 5), (⟨"PowersForTimes$Primes", "sort", "()V"⟩, 5), (⟨"PowersForTimes", "putRow", "(IIII)V"⟩, 16), (⟨"PowersForTimes", "feedFour", "(I)V"⟩, 16), (⟨"PowersForTimes$Reader", "step", "()V"⟩, 14), (⟨"PowersForTimes$Reader", "byteAt", "(I)I"⟩, 14), (⟨"PowersForTimes$Reader", "stepNumber", "()V"⟩, 14), (⟨"PowersForTimes$Reader", "clauseKind", "()I"⟩, 14), (⟨"PowersForTimes$Reader", "isWord", "(Ljava/lang/String;)Z"⟩, 14), (⟨"PowersForTimes$Reader", "fail", "(I)Z"⟩, 14)]
theorem lw_r1 : ∀ q ∈ lw_privs_1, lw_okq q := List.forall_mem_cons.mpr ⟨lw_p0, List.forall_mem_cons.mpr ⟨lw_p1, List.forall_mem_cons.mpr ⟨lw_p2, List.forall_mem_cons.mpr ⟨lw_p3, List.forall_mem_cons.mpr ⟨lw_p4, List.forall_mem_cons.mpr ⟨lw_p5, List.forall_mem_cons.mpr ⟨lw_p6, List.forall_mem_cons.mpr ⟨lw_p7, List.forall_mem_cons.mpr ⟨lw_p8, List.forall_mem_cons.mpr ⟨lw_p9, List.forall_mem_cons.mpr ⟨lw_p10, List.forall_mem_cons.mpr ⟨lw_p11, List.forall_mem_cons.mpr ⟨lw_p12, List.forall_mem_cons.mpr ⟨lw_p13, List.forall_mem_cons.mpr ⟨lw_p14, List.forall_mem_cons.mpr ⟨lw_p15, fun _ h => absurd h List.not_mem_nil⟩⟩⟩⟩⟩⟩⟩⟩⟩⟩⟩⟩⟩⟩⟩⟩
theorem lw_p16 : lw_okq (⟨"PowersForTimes$Reader", "readSum", "(II)Z"⟩, 14) := ⟨⟨by decide +kernel, by decide +kernel⟩, List.mem_of_getElem? (i := 204) (by decide +kernel), List.mem_of_getElem? (i := 670) (by decide +kernel), List.mem_of_getElem? (i := 671) (by decide +kernel)⟩
theorem lw_p17 : lw_okq (⟨"PowersForTimes$Reader", "readProduct", "(II)Z"⟩, 14) := ⟨⟨by decide +kernel, by decide +kernel⟩, List.mem_of_getElem? (i := 204) (by decide +kernel), List.mem_of_getElem? (i := 674) (by decide +kernel), List.mem_of_getElem? (i := 675) (by decide +kernel)⟩
theorem lw_p18 : lw_okq (⟨"PowersForTimes$Reader", "readPower", "(II)Z"⟩, 14) := ⟨⟨by decide +kernel, by decide +kernel⟩, List.mem_of_getElem? (i := 204) (by decide +kernel), List.mem_of_getElem? (i := 678) (by decide +kernel), List.mem_of_getElem? (i := 679) (by decide +kernel)⟩
theorem lw_p19 : lw_okq (⟨"PowersForTimes$Reader", "readOne", "(II)Z"⟩, 14) := ⟨⟨by decide +kernel, by decide +kernel⟩, List.mem_of_getElem? (i := 204) (by decide +kernel), List.mem_of_getElem? (i := 682) (by decide +kernel), List.mem_of_getElem? (i := 683) (by decide +kernel)⟩
theorem lw_p20 : lw_okq (⟨"PowersForTimes$Reader", "readNumber", "(I)Z"⟩, 14) := ⟨⟨by decide +kernel, by decide +kernel⟩, List.mem_of_getElem? (i := 204) (by decide +kernel), List.mem_of_getElem? (i := 686) (by decide +kernel), List.mem_of_getElem? (i := 687) (by decide +kernel)⟩
theorem lw_p21 : lw_okq (⟨"PowersForTimes$Reader", "put", "(III)V"⟩, 14) := ⟨⟨by decide +kernel, by decide +kernel⟩, List.mem_of_getElem? (i := 204) (by decide +kernel), List.mem_of_getElem? (i := 691) (by decide +kernel), List.mem_of_getElem? (i := 692) (by decide +kernel)⟩
theorem lw_p22 : lw_okq (⟨"PowersForTimes$Reader", "isWorking", "(I)Z"⟩, 14) := ⟨⟨by decide +kernel, by decide +kernel⟩, List.mem_of_getElem? (i := 204) (by decide +kernel), List.mem_of_getElem? (i := 695) (by decide +kernel), List.mem_of_getElem? (i := 696) (by decide +kernel)⟩
theorem lw_p23 : lw_okq (⟨"PowersForTimes$Reader", "expect", "(I)Z"⟩, 14) := ⟨⟨by decide +kernel, by decide +kernel⟩, List.mem_of_getElem? (i := 204) (by decide +kernel), List.mem_of_getElem? (i := 701) (by decide +kernel), List.mem_of_getElem? (i := 702) (by decide +kernel)⟩
theorem lw_p24 : lw_okq (⟨"PowersForTimes$Reader", "turnOver", "(I)V"⟩, 14) := ⟨⟨by decide +kernel, by decide +kernel⟩, List.mem_of_getElem? (i := 204) (by decide +kernel), List.mem_of_getElem? (i := 705) (by decide +kernel), List.mem_of_getElem? (i := 706) (by decide +kernel)⟩
theorem lw_p25 : lw_okq (⟨"PowersForTimes$Reader", "raise", "(II)V"⟩, 14) := ⟨⟨by decide +kernel, by decide +kernel⟩, List.mem_of_getElem? (i := 204) (by decide +kernel), List.mem_of_getElem? (i := 716) (by decide +kernel), List.mem_of_getElem? (i := 717) (by decide +kernel)⟩
theorem lw_p26 : lw_okq (⟨"PowersForTimes$Reader", "multiplyUp", "(I)V"⟩, 14) := ⟨⟨by decide +kernel, by decide +kernel⟩, List.mem_of_getElem? (i := 204) (by decide +kernel), List.mem_of_getElem? (i := 730) (by decide +kernel), List.mem_of_getElem? (i := 731) (by decide +kernel)⟩
theorem lw_p27 : lw_okq (⟨"PowersForTimes$Reader", "addUp", "(IZ)V"⟩, 14) := ⟨⟨by decide +kernel, by decide +kernel⟩, List.mem_of_getElem? (i := 204) (by decide +kernel), List.mem_of_getElem? (i := 734) (by decide +kernel), List.mem_of_getElem? (i := 735) (by decide +kernel)⟩
theorem lw_p28 : lw_okq (⟨"PowersForTimes", "isActing", "(II)Z"⟩, 16) := ⟨⟨by decide +kernel, by decide +kernel⟩, List.mem_of_getElem? (i := 19) (by decide +kernel), List.mem_of_getElem? (i := 782) (by decide +kernel), List.mem_of_getElem? (i := 783) (by decide +kernel)⟩
theorem lw_p29 : lw_okq (⟨"PowersForTimes$Ties", "keep", "([IIII)V"⟩, 5) := ⟨⟨by decide +kernel, by decide +kernel⟩, List.mem_of_getElem? (i := 119) (by decide +kernel), List.mem_of_getElem? (i := 846) (by decide +kernel), List.mem_of_getElem? (i := 847) (by decide +kernel)⟩
theorem lw_p30 : lw_okq (⟨"PowersForTimes$Acting", "spread", "([II)V"⟩, 7) := ⟨⟨by decide +kernel, by decide +kernel⟩, List.mem_of_getElem? (i := 113) (by decide +kernel), List.mem_of_getElem? (i := 882) (by decide +kernel), List.mem_of_getElem? (i := 883) (by decide +kernel)⟩
theorem lw_p31 : lw_okq (⟨"PowersForTimes$Acting", "noughtSpace", "([II)I"⟩, 7) := ⟨⟨by decide +kernel, by decide +kernel⟩, List.mem_of_getElem? (i := 113) (by decide +kernel), List.mem_of_getElem? (i := 886) (by decide +kernel), List.mem_of_getElem? (i := 887) (by decide +kernel)⟩
def lw_privs_2 : List (MethodName × Nat) := [(⟨"PowersForTimes$Reader", "readSum", "(II)Z"⟩, 14), (⟨"PowersForTimes$Reader", "readProduct", "(II)Z"⟩, 14), (⟨"PowersForTimes$Reader", "readPower", "(II)Z"⟩, 14), (⟨"PowersForTimes$Reader", "readOne", "(II)Z"⟩, 14), (⟨"PowersForTimes$Reader", "readNumber", "(I)Z"⟩, 14), (⟨"PowersForTimes$Reader", "put", "(III)V"⟩, 14), (⟨"PowersForTimes$Reader", "isWorking", "(I)Z"⟩, 14), (⟨"PowersForTimes$Reader", "expect", "(I)Z"⟩, 14), (⟨"PowersForTimes$Reader", "turnOver", "(I)V"⟩, 14), (⟨"PowersForTimes$Reader", "raise", "(II)V"⟩, 14), (⟨"PowersForTimes$Reader", "multiplyUp", "(I)V"⟩, 14), (⟨"PowersForTimes$Reader", "addUp", "(IZ)V"⟩, 14), (⟨"PowersForTimes", "isActing", "(II)Z"⟩, 16), (⟨"PowersForTimes$Ties", "keep", "([IIII)V"⟩, 5), (⟨"PowersForTimes$Acting", "spread", "([II)V"⟩, 7), (⟨"PowersForTimes$Acting", "noughtSpace", "([II)I"⟩, 7)]
theorem lw_r2 : ∀ q ∈ lw_privs_2, lw_okq q := List.forall_mem_cons.mpr ⟨lw_p16, List.forall_mem_cons.mpr ⟨lw_p17, List.forall_mem_cons.mpr ⟨lw_p18, List.forall_mem_cons.mpr ⟨lw_p19, List.forall_mem_cons.mpr ⟨lw_p20, List.forall_mem_cons.mpr ⟨lw_p21, List.forall_mem_cons.mpr ⟨lw_p22, List.forall_mem_cons.mpr ⟨lw_p23, List.forall_mem_cons.mpr ⟨lw_p24, List.forall_mem_cons.mpr ⟨lw_p25, List.forall_mem_cons.mpr ⟨lw_p26, List.forall_mem_cons.mpr ⟨lw_p27, List.forall_mem_cons.mpr ⟨lw_p28, List.forall_mem_cons.mpr ⟨lw_p29, List.forall_mem_cons.mpr ⟨lw_p30, List.forall_mem_cons.mpr ⟨lw_p31, fun _ h => absurd h List.not_mem_nil⟩⟩⟩⟩⟩⟩⟩⟩⟩⟩⟩⟩⟩⟩⟩⟩
theorem lw_p32 : lw_okq (⟨"PowersForTimes$Acting", "greatUnit", "([I)I"⟩, 7) := ⟨⟨by decide +kernel, by decide +kernel⟩, List.mem_of_getElem? (i := 113) (by decide +kernel), List.mem_of_getElem? (i := 903) (by decide +kernel), List.mem_of_getElem? (i := 904) (by decide +kernel)⟩
theorem lw_p33 : lw_okq (⟨"PowersForTimes", "areMapAndModule", "(II)Z"⟩, 16) := ⟨⟨by decide +kernel, by decide +kernel⟩, List.mem_of_getElem? (i := 19) (by decide +kernel), List.mem_of_getElem? (i := 920) (by decide +kernel), List.mem_of_getElem? (i := 921) (by decide +kernel)⟩
theorem lw_p34 : lw_okq (⟨"PowersForTimes$Maps", "putDifference", "([III)V"⟩, 9) := ⟨⟨by decide +kernel, by decide +kernel⟩, List.mem_of_getElem? (i := 170) (by decide +kernel), List.mem_of_getElem? (i := 977) (by decide +kernel), List.mem_of_getElem? (i := 978) (by decide +kernel)⟩
theorem lw_p35 : lw_okq (⟨"PowersForTimes$Maps", "isGreatest", "(IIII)Z"⟩, 9) := ⟨⟨by decide +kernel, by decide +kernel⟩, List.mem_of_getElem? (i := 170) (by decide +kernel), List.mem_of_getElem? (i := 1015) (by decide +kernel), List.mem_of_getElem? (i := 1016) (by decide +kernel)⟩
theorem lw_p36 : lw_okq (⟨"PowersForTimesModel", "makeWorld", "()V"⟩, 31) := ⟨⟨by decide +kernel, by decide +kernel⟩, List.mem_of_getElem? (i := 1090) (by decide +kernel), List.mem_of_getElem? (i := 1096) (by decide +kernel), List.mem_of_getElem? (i := 1097) (by decide +kernel)⟩
theorem lw_p37 : lw_okq (⟨"PowersForTimesModel", "degree", "(I)I"⟩, 31) := ⟨⟨by decide +kernel, by decide +kernel⟩, List.mem_of_getElem? (i := 1090) (by decide +kernel), List.mem_of_getElem? (i := 1100) (by decide +kernel), List.mem_of_getElem? (i := 1101) (by decide +kernel)⟩
theorem lw_p38 : lw_okq (⟨"PowersForTimesModel", "power", "(I)I"⟩, 31) := ⟨⟨by decide +kernel, by decide +kernel⟩, List.mem_of_getElem? (i := 1090) (by decide +kernel), List.mem_of_getElem? (i := 1104) (by decide +kernel), List.mem_of_getElem? (i := 1105) (by decide +kernel)⟩
theorem lw_p39 : lw_okq (⟨"PowersForTimesModel", "sumOf", "(III)I"⟩, 31) := ⟨⟨by decide +kernel, by decide +kernel⟩, List.mem_of_getElem? (i := 1090) (by decide +kernel), List.mem_of_getElem? (i := 1108) (by decide +kernel), List.mem_of_getElem? (i := 1109) (by decide +kernel)⟩
theorem lw_p40 : lw_okq (⟨"PowersForTimesModel", "shifted", "(II)I"⟩, 31) := ⟨⟨by decide +kernel, by decide +kernel⟩, List.mem_of_getElem? (i := 1090) (by decide +kernel), List.mem_of_getElem? (i := 1112) (by decide +kernel), List.mem_of_getElem? (i := 1113) (by decide +kernel)⟩
theorem lw_p41 : lw_okq (⟨"PowersForTimesModel", "rest", "(II)I"⟩, 31) := ⟨⟨by decide +kernel, by decide +kernel⟩, List.mem_of_getElem? (i := 1090) (by decide +kernel), List.mem_of_getElem? (i := 1116) (by decide +kernel), List.mem_of_getElem? (i := 1117) (by decide +kernel)⟩
theorem lw_p42 : lw_okq (⟨"PowersForTimesModel", "divide", "(II)V"⟩, 31) := ⟨⟨by decide +kernel, by decide +kernel⟩, List.mem_of_getElem? (i := 1090) (by decide +kernel), List.mem_of_getElem? (i := 1120) (by decide +kernel), List.mem_of_getElem? (i := 1121) (by decide +kernel)⟩
theorem lw_p43 : lw_okq (⟨"PowersForTimesModel", "figure", "(II)I"⟩, 31) := ⟨⟨by decide +kernel, by decide +kernel⟩, List.mem_of_getElem? (i := 1090) (by decide +kernel), List.mem_of_getElem? (i := 1124) (by decide +kernel), List.mem_of_getElem? (i := 1125) (by decide +kernel)⟩
theorem lw_p44 : lw_okq (⟨"PowersForTimesModel", "unit", "(I)I"⟩, 31) := ⟨⟨by decide +kernel, by decide +kernel⟩, List.mem_of_getElem? (i := 1090) (by decide +kernel), List.mem_of_getElem? (i := 1128) (by decide +kernel), List.mem_of_getElem? (i := 1129) (by decide +kernel)⟩
theorem lw_p45 : lw_okq (⟨"PowersForTimesModel", "isPoly", "(I)Z"⟩, 31) := ⟨⟨by decide +kernel, by decide +kernel⟩, List.mem_of_getElem? (i := 1090) (by decide +kernel), List.mem_of_getElem? (i := 1233) (by decide +kernel), List.mem_of_getElem? (i := 1234) (by decide +kernel)⟩
theorem lw_p46 : lw_okq (⟨"PowersForTimesModel", "times", "(II)I"⟩, 31) := ⟨⟨by decide +kernel, by decide +kernel⟩, List.mem_of_getElem? (i := 1090) (by decide +kernel), List.mem_of_getElem? (i := 1240) (by decide +kernel), List.mem_of_getElem? (i := 1241) (by decide +kernel)⟩
theorem lw_p47 : lw_okq (⟨"PowersForTimesModel", "by", "(II)I"⟩, 31) := ⟨⟨by decide +kernel, by decide +kernel⟩, List.mem_of_getElem? (i := 1090) (by decide +kernel), List.mem_of_getElem? (i := 1244) (by decide +kernel), List.mem_of_getElem? (i := 1245) (by decide +kernel)⟩
def lw_privs_3 : List (MethodName × Nat) := [(⟨"PowersForTimes$Acting", "greatUnit", "([I)I"⟩, 7), (⟨"PowersForTimes", "areMapAndModule", "(II)Z"⟩, 16), (⟨"PowersForTimes$Maps", "putDifference", "([III)V"⟩, 9), (⟨"PowersForTimes$Maps", "isGreatest", "(IIII)Z"⟩, 9), (⟨"PowersForTimesModel", "makeWorld", "()V"⟩, 31), (⟨"PowersForTimesModel", "degree", "(I)I"⟩, 31), (⟨"PowersForTimesModel", "power", "(I)I"⟩, 31), (⟨"PowersForTimesModel", "sumOf", "(III)I"⟩, 31), (⟨"PowersForTimesModel", "shifted", "(II)I"⟩, 31), (⟨"PowersForTimesModel", "rest", "(II)I"⟩, 31), (⟨"PowersForTimesModel", "divide", "(II)V"⟩, 31), (⟨"PowersForTimesModel", "figure", "(II)I"⟩, 31), (⟨"PowersForTimesModel", "unit", "(I)I"⟩, 31), (⟨"PowersForTimesModel", "isPoly", "(I)Z"⟩, 31), (⟨"PowersForTimesModel", "times", "(II)I"⟩, 31), (⟨"PowersForTimesModel", "by", "(II)I"⟩, 31)]
theorem lw_r3 : ∀ q ∈ lw_privs_3, lw_okq q := List.forall_mem_cons.mpr ⟨lw_p32, List.forall_mem_cons.mpr ⟨lw_p33, List.forall_mem_cons.mpr ⟨lw_p34, List.forall_mem_cons.mpr ⟨lw_p35, List.forall_mem_cons.mpr ⟨lw_p36, List.forall_mem_cons.mpr ⟨lw_p37, List.forall_mem_cons.mpr ⟨lw_p38, List.forall_mem_cons.mpr ⟨lw_p39, List.forall_mem_cons.mpr ⟨lw_p40, List.forall_mem_cons.mpr ⟨lw_p41, List.forall_mem_cons.mpr ⟨lw_p42, List.forall_mem_cons.mpr ⟨lw_p43, List.forall_mem_cons.mpr ⟨lw_p44, List.forall_mem_cons.mpr ⟨lw_p45, List.forall_mem_cons.mpr ⟨lw_p46, List.forall_mem_cons.mpr ⟨lw_p47, fun _ h => absurd h List.not_mem_nil⟩⟩⟩⟩⟩⟩⟩⟩⟩⟩⟩⟩⟩⟩⟩⟩
theorem lw_p48 : lw_okq (⟨"PowersForTimesModel", "common", "(II)I"⟩, 31) := ⟨⟨by decide +kernel, by decide +kernel⟩, List.mem_of_getElem? (i := 1090) (by decide +kernel), List.mem_of_getElem? (i := 1248) (by decide +kernel), List.mem_of_getElem? (i := 1249) (by decide +kernel)⟩
theorem lw_p49 : lw_okq (⟨"PowersForTimesModel", "monic", "(I)I"⟩, 31) := ⟨⟨by decide +kernel, by decide +kernel⟩, List.mem_of_getElem? (i := 1090) (by decide +kernel), List.mem_of_getElem? (i := 1252) (by decide +kernel), List.mem_of_getElem? (i := 1253) (by decide +kernel)⟩
theorem lw_p50 : lw_okq (⟨"PowersForTimesModel", "isPrime", "(I)Z"⟩, 31) := ⟨⟨by decide +kernel, by decide +kernel⟩, List.mem_of_getElem? (i := 1090) (by decide +kernel), List.mem_of_getElem? (i := 1260) (by decide +kernel), List.mem_of_getElem? (i := 1261) (by decide +kernel)⟩
theorem lw_p51 : lw_okq (⟨"PowersForTimesModel", "leastFactor", "(I)I"⟩, 31) := ⟨⟨by decide +kernel, by decide +kernel⟩, List.mem_of_getElem? (i := 1090) (by decide +kernel), List.mem_of_getElem? (i := 1264) (by decide +kernel), List.mem_of_getElem? (i := 1265) (by decide +kernel)⟩
theorem lw_p52 : lw_okq (⟨"PowersForTimesModel", "isRest", "(I)Z"⟩, 31) := ⟨⟨by decide +kernel, by decide +kernel⟩, List.mem_of_getElem? (i := 1090) (by decide +kernel), List.mem_of_getElem? (i := 1272) (by decide +kernel), List.mem_of_getElem? (i := 1273) (by decide +kernel)⟩
theorem lw_p53 : lw_okq (⟨"PowersForTimesModel", "mul", "(II)I"⟩, 31) := ⟨⟨by decide +kernel, by decide +kernel⟩, List.mem_of_getElem? (i := 1090) (by decide +kernel), List.mem_of_getElem? (i := 1276) (by decide +kernel), List.mem_of_getElem? (i := 1277) (by decide +kernel)⟩
theorem lw_p54 : lw_okq (⟨"PowersForTimesModel", "clear", "(I)V"⟩, 31) := ⟨⟨by decide +kernel, by decide +kernel⟩, List.mem_of_getElem? (i := 1090) (by decide +kernel), List.mem_of_getElem? (i := 1284) (by decide +kernel), List.mem_of_getElem? (i := 1285) (by decide +kernel)⟩
theorem lw_p55 : lw_okq (⟨"PowersForTimesModel", "tellModule", "(I)I"⟩, 31) := ⟨⟨by decide +kernel, by decide +kernel⟩, List.mem_of_getElem? (i := 1090) (by decide +kernel), List.mem_of_getElem? (i := 1288) (by decide +kernel), List.mem_of_getElem? (i := 1289) (by decide +kernel)⟩
theorem lw_p56 : lw_okq (⟨"PowersForTimesModel", "degreeAt", "(I)I"⟩, 31) := ⟨⟨by decide +kernel, by decide +kernel⟩, List.mem_of_getElem? (i := 1090) (by decide +kernel), List.mem_of_getElem? (i := 1292) (by decide +kernel), List.mem_of_getElem? (i := 1293) (by decide +kernel)⟩
theorem lw_p57 : lw_okq (⟨"PowersForTimesModel", "step", "(I)V"⟩, 31) := ⟨⟨by decide +kernel, by decide +kernel⟩, List.mem_of_getElem? (i := 1090) (by decide +kernel), List.mem_of_getElem? (i := 1296) (by decide +kernel), List.mem_of_getElem? (i := 1297) (by decide +kernel)⟩
theorem lw_p58 : lw_okq (⟨"PowersForTimesModel", "tellMap", "(I)I"⟩, 31) := ⟨⟨by decide +kernel, by decide +kernel⟩, List.mem_of_getElem? (i := 1090) (by decide +kernel), List.mem_of_getElem? (i := 1304) (by decide +kernel), List.mem_of_getElem? (i := 1305) (by decide +kernel)⟩
theorem lw_p59 : lw_okq (⟨"PowersForTimesModel", "four", "(I)V"⟩, 31) := ⟨⟨by decide +kernel, by decide +kernel⟩, List.mem_of_getElem? (i := 1090) (by decide +kernel), List.mem_of_getElem? (i := 1312) (by decide +kernel), List.mem_of_getElem? (i := 1313) (by decide +kernel)⟩
theorem lw_p60 : lw_okq (⟨"PowersForTimesModel", "readText", "()I"⟩, 31) := ⟨⟨by decide +kernel, by decide +kernel⟩, List.mem_of_getElem? (i := 1090) (by decide +kernel), List.mem_of_getElem? (i := 1324) (by decide +kernel), List.mem_of_getElem? (i := 1325) (by decide +kernel)⟩
theorem lw_p61 : lw_okq (⟨"PowersForTimesModel", "nextToken", "()V"⟩, 31) := ⟨⟨by decide +kernel, by decide +kernel⟩, List.mem_of_getElem? (i := 1090) (by decide +kernel), List.mem_of_getElem? (i := 1328) (by decide +kernel), List.mem_of_getElem? (i := 1329) (by decide +kernel)⟩
theorem lw_p62 : lw_okq (⟨"PowersForTimesModel", "byteAt", "(I)I"⟩, 31) := ⟨⟨by decide +kernel, by decide +kernel⟩, List.mem_of_getElem? (i := 1090) (by decide +kernel), List.mem_of_getElem? (i := 1332) (by decide +kernel), List.mem_of_getElem? (i := 1333) (by decide +kernel)⟩
theorem lw_p63 : lw_okq (⟨"PowersForTimesModel", "clause", "()I"⟩, 31) := ⟨⟨by decide +kernel, by decide +kernel⟩, List.mem_of_getElem? (i := 1090) (by decide +kernel), List.mem_of_getElem? (i := 1343) (by decide +kernel), List.mem_of_getElem? (i := 1344) (by decide +kernel)⟩
def lw_privs_4 : List (MethodName × Nat) := [(⟨"PowersForTimesModel", "common", "(II)I"⟩, 31), (⟨"PowersForTimesModel", "monic", "(I)I"⟩, 31), (⟨"PowersForTimesModel", "isPrime", "(I)Z"⟩, 31), (⟨"PowersForTimesModel", "leastFactor", "(I)I"⟩, 31), (⟨"PowersForTimesModel", "isRest", "(I)Z"⟩, 31), (⟨"PowersForTimesModel", "mul", "(II)I"⟩, 31), (⟨"PowersForTimesModel", "clear", "(I)V"⟩, 31), (⟨"PowersForTimesModel", "tellModule", "(I)I"⟩, 31), (⟨"PowersForTimesModel", "degreeAt", "(I)I"⟩, 31), (⟨"PowersForTimesModel", "step", "(I)V"⟩, 31), (⟨"PowersForTimesModel", "tellMap", "(I)I"⟩, 31), (⟨"PowersForTimesModel", "four", "(I)V"⟩, 31), (⟨"PowersForTimesModel", "readText", "()I"⟩, 31), (⟨"PowersForTimesModel", "nextToken", "()V"⟩, 31), (⟨"PowersForTimesModel", "byteAt", "(I)I"⟩, 31), (⟨"PowersForTimesModel", "clause", "()I"⟩, 31)]
theorem lw_r4 : ∀ q ∈ lw_privs_4, lw_okq q := List.forall_mem_cons.mpr ⟨lw_p48, List.forall_mem_cons.mpr ⟨lw_p49, List.forall_mem_cons.mpr ⟨lw_p50, List.forall_mem_cons.mpr ⟨lw_p51, List.forall_mem_cons.mpr ⟨lw_p52, List.forall_mem_cons.mpr ⟨lw_p53, List.forall_mem_cons.mpr ⟨lw_p54, List.forall_mem_cons.mpr ⟨lw_p55, List.forall_mem_cons.mpr ⟨lw_p56, List.forall_mem_cons.mpr ⟨lw_p57, List.forall_mem_cons.mpr ⟨lw_p58, List.forall_mem_cons.mpr ⟨lw_p59, List.forall_mem_cons.mpr ⟨lw_p60, List.forall_mem_cons.mpr ⟨lw_p61, List.forall_mem_cons.mpr ⟨lw_p62, List.forall_mem_cons.mpr ⟨lw_p63, fun _ h => absurd h List.not_mem_nil⟩⟩⟩⟩⟩⟩⟩⟩⟩⟩⟩⟩⟩⟩⟩⟩
theorem lw_p64 : lw_okq (⟨"PowersForTimesModel", "summed", "()I"⟩, 31) := ⟨⟨by decide +kernel, by decide +kernel⟩, List.mem_of_getElem? (i := 1090) (by decide +kernel), List.mem_of_getElem? (i := 1350) (by decide +kernel), List.mem_of_getElem? (i := 1351) (by decide +kernel)⟩
theorem lw_p65 : lw_okq (⟨"PowersForTimesModel", "beginOne", "()I"⟩, 31) := ⟨⟨by decide +kernel, by decide +kernel⟩, List.mem_of_getElem? (i := 1090) (by decide +kernel), List.mem_of_getElem? (i := 1354) (by decide +kernel), List.mem_of_getElem? (i := 1355) (by decide +kernel)⟩
theorem lw_p66 : lw_okq (⟨"PowersForTimesModel", "emit", "(II)V"⟩, 31) := ⟨⟨by decide +kernel, by decide +kernel⟩, List.mem_of_getElem? (i := 1090) (by decide +kernel), List.mem_of_getElem? (i := 1359) (by decide +kernel), List.mem_of_getElem? (i := 1360) (by decide +kernel)⟩
theorem lw_p67 : lw_okq (⟨"PowersForTimesModel", "whole", "()V"⟩, 31) := ⟨⟨by decide +kernel, by decide +kernel⟩, List.mem_of_getElem? (i := 1090) (by decide +kernel), List.mem_of_getElem? (i := 1363) (by decide +kernel), List.mem_of_getElem? (i := 1364) (by decide +kernel)⟩
theorem lw_p68 : lw_okq (⟨"PowersForTimesModel", "settle", "(I)V"⟩, 31) := ⟨⟨by decide +kernel, by decide +kernel⟩, List.mem_of_getElem? (i := 1090) (by decide +kernel), List.mem_of_getElem? (i := 1367) (by decide +kernel), List.mem_of_getElem? (i := 1368) (by decide +kernel)⟩
theorem lw_p69 : lw_okq (⟨"PowersForTimesModel", "opensBy", "(I)I"⟩, 31) := ⟨⟨by decide +kernel, by decide +kernel⟩, List.mem_of_getElem? (i := 1090) (by decide +kernel), List.mem_of_getElem? (i := 1374) (by decide +kernel), List.mem_of_getElem? (i := 1375) (by decide +kernel)⟩
theorem lw_p70 : lw_okq (⟨"PowersForTimesModel", "push", "(I)V"⟩, 31) := ⟨⟨by decide +kernel, by decide +kernel⟩, List.mem_of_getElem? (i := 1090) (by decide +kernel), List.mem_of_getElem? (i := 1378) (by decide +kernel), List.mem_of_getElem? (i := 1379) (by decide +kernel)⟩
theorem lw_p71 : lw_okq (⟨"PowersForTimesModel", "raises", "()I"⟩, 31) := ⟨⟨by decide +kernel, by decide +kernel⟩, List.mem_of_getElem? (i := 1090) (by decide +kernel), List.mem_of_getElem? (i := 1382) (by decide +kernel), List.mem_of_getElem? (i := 1383) (by decide +kernel)⟩
theorem lw_p72 : lw_okq (⟨"PowersForTimesModel", "behindOne", "()Z"⟩, 31) := ⟨⟨by decide +kernel, by decide +kernel⟩, List.mem_of_getElem? (i := 1090) (by decide +kernel), List.mem_of_getElem? (i := 1386) (by decide +kernel), List.mem_of_getElem? (i := 1387) (by decide +kernel)⟩
theorem lw_p73 : lw_okq (⟨"PowersForTimesModel", "works", "(II)Z"⟩, 31) := ⟨⟨by decide +kernel, by decide +kernel⟩, List.mem_of_getElem? (i := 1090) (by decide +kernel), List.mem_of_getElem? (i := 1398) (by decide +kernel), List.mem_of_getElem? (i := 1399) (by decide +kernel)⟩
theorem lw_p74 : lw_okq (⟨"PowersForTimesModel", "minus", "(I)I"⟩, 31) := ⟨⟨by decide +kernel, by decide +kernel⟩, List.mem_of_getElem? (i := 1090) (by decide +kernel), List.mem_of_getElem? (i := 1402) (by decide +kernel), List.mem_of_getElem? (i := 1403) (by decide +kernel)⟩
theorem lw_p75 : lw_okq (⟨"PowersForTimesModel", "raiseBy", "(II)Z"⟩, 31) := ⟨⟨by decide +kernel, by decide +kernel⟩, List.mem_of_getElem? (i := 1090) (by decide +kernel), List.mem_of_getElem? (i := 1406) (by decide +kernel), List.mem_of_getElem? (i := 1407) (by decide +kernel)⟩
theorem lw_p76 : lw_okq (⟨"PowersForTimesModel", "multiply", "(III)Z"⟩, 31) := ⟨⟨by decide +kernel, by decide +kernel⟩, List.mem_of_getElem? (i := 1090) (by decide +kernel), List.mem_of_getElem? (i := 1410) (by decide +kernel), List.mem_of_getElem? (i := 1411) (by decide +kernel)⟩
theorem lw_p77 : lw_okq (⟨"PowersForTimesModel", "raise", "(II)I"⟩, 31) := ⟨⟨by decide +kernel, by decide +kernel⟩, List.mem_of_getElem? (i := 1090) (by decide +kernel), List.mem_of_getElem? (i := 1414) (by decide +kernel), List.mem_of_getElem? (i := 1415) (by decide +kernel)⟩
theorem lw_p78 : lw_okq (⟨"PowersForTimesModel", "lay", "(II)V"⟩, 31) := ⟨⟨by decide +kernel, by decide +kernel⟩, List.mem_of_getElem? (i := 1090) (by decide +kernel), List.mem_of_getElem? (i := 1418) (by decide +kernel), List.mem_of_getElem? (i := 1419) (by decide +kernel)⟩
theorem lw_p79 : lw_okq (⟨"PowersForTimesModel", "add", "(III)V"⟩, 31) := ⟨⟨by decide +kernel, by decide +kernel⟩, List.mem_of_getElem? (i := 1090) (by decide +kernel), List.mem_of_getElem? (i := 1422) (by decide +kernel), List.mem_of_getElem? (i := 1423) (by decide +kernel)⟩
def lw_privs_5 : List (MethodName × Nat) := [(⟨"PowersForTimesModel", "summed", "()I"⟩, 31), (⟨"PowersForTimesModel", "beginOne", "()I"⟩, 31), (⟨"PowersForTimesModel", "emit", "(II)V"⟩, 31), (⟨"PowersForTimesModel", "whole", "()V"⟩, 31), (⟨"PowersForTimesModel", "settle", "(I)V"⟩, 31), (⟨"PowersForTimesModel", "opensBy", "(I)I"⟩, 31), (⟨"PowersForTimesModel", "push", "(I)V"⟩, 31), (⟨"PowersForTimesModel", "raises", "()I"⟩, 31), (⟨"PowersForTimesModel", "behindOne", "()Z"⟩, 31), (⟨"PowersForTimesModel", "works", "(II)Z"⟩, 31), (⟨"PowersForTimesModel", "minus", "(I)I"⟩, 31), (⟨"PowersForTimesModel", "raiseBy", "(II)Z"⟩, 31), (⟨"PowersForTimesModel", "multiply", "(III)Z"⟩, 31), (⟨"PowersForTimesModel", "raise", "(II)I"⟩, 31), (⟨"PowersForTimesModel", "lay", "(II)V"⟩, 31), (⟨"PowersForTimesModel", "add", "(III)V"⟩, 31)]
theorem lw_r5 : ∀ q ∈ lw_privs_5, lw_okq q := List.forall_mem_cons.mpr ⟨lw_p64, List.forall_mem_cons.mpr ⟨lw_p65, List.forall_mem_cons.mpr ⟨lw_p66, List.forall_mem_cons.mpr ⟨lw_p67, List.forall_mem_cons.mpr ⟨lw_p68, List.forall_mem_cons.mpr ⟨lw_p69, List.forall_mem_cons.mpr ⟨lw_p70, List.forall_mem_cons.mpr ⟨lw_p71, List.forall_mem_cons.mpr ⟨lw_p72, List.forall_mem_cons.mpr ⟨lw_p73, List.forall_mem_cons.mpr ⟨lw_p74, List.forall_mem_cons.mpr ⟨lw_p75, List.forall_mem_cons.mpr ⟨lw_p76, List.forall_mem_cons.mpr ⟨lw_p77, List.forall_mem_cons.mpr ⟨lw_p78, List.forall_mem_cons.mpr ⟨lw_p79, fun _ h => absurd h List.not_mem_nil⟩⟩⟩⟩⟩⟩⟩⟩⟩⟩⟩⟩⟩⟩⟩⟩
theorem lw_p80 : lw_okq (⟨"PowersForTimesModel", "isMap", "(I)Z"⟩, 31) := ⟨⟨by decide +kernel, by decide +kernel⟩, List.mem_of_getElem? (i := 1090) (by decide +kernel), List.mem_of_getElem? (i := 1430) (by decide +kernel), List.mem_of_getElem? (i := 1431) (by decide +kernel)⟩
theorem lw_p81 : lw_okq (⟨"PowersForTimesModel", "isModule", "(I)Z"⟩, 31) := ⟨⟨by decide +kernel, by decide +kernel⟩, List.mem_of_getElem? (i := 1090) (by decide +kernel), List.mem_of_getElem? (i := 1434) (by decide +kernel), List.mem_of_getElem? (i := 1435) (by decide +kernel)⟩
theorem lw_p82 : lw_okq (⟨"PowersForTimesModel", "layMap", "(II)V"⟩, 31) := ⟨⟨by decide +kernel, by decide +kernel⟩, List.mem_of_getElem? (i := 1090) (by decide +kernel), List.mem_of_getElem? (i := 1438) (by decide +kernel), List.mem_of_getElem? (i := 1439) (by decide +kernel)⟩
theorem lw_p83 : lw_okq (⟨"PowersForTimesModel", "layModule", "(II)V"⟩, 31) := ⟨⟨by decide +kernel, by decide +kernel⟩, List.mem_of_getElem? (i := 1090) (by decide +kernel), List.mem_of_getElem? (i := 1442) (by decide +kernel), List.mem_of_getElem? (i := 1443) (by decide +kernel)⟩
theorem lw_p84 : lw_okq (⟨"PowersForTimesModel", "acted", "(III)I"⟩, 31) := ⟨⟨by decide +kernel, by decide +kernel⟩, List.mem_of_getElem? (i := 1090) (by decide +kernel), List.mem_of_getElem? (i := 1450) (by decide +kernel), List.mem_of_getElem? (i := 1451) (by decide +kernel)⟩
theorem lw_p85 : lw_okq (⟨"PowersForTimesModel", "stepped", "(II)I"⟩, 31) := ⟨⟨by decide +kernel, by decide +kernel⟩, List.mem_of_getElem? (i := 1090) (by decide +kernel), List.mem_of_getElem? (i := 1454) (by decide +kernel), List.mem_of_getElem? (i := 1455) (by decide +kernel)⟩
theorem lw_p86 : lw_okq (⟨"PowersForTimesModel", "layActs", "(III)Z"⟩, 31) := ⟨⟨by decide +kernel, by decide +kernel⟩, List.mem_of_getElem? (i := 1090) (by decide +kernel), List.mem_of_getElem? (i := 1462) (by decide +kernel), List.mem_of_getElem? (i := 1463) (by decide +kernel)⟩
theorem lw_p87 : lw_okq (⟨"PowersForTimesModel", "sent", "(II)I"⟩, 31) := ⟨⟨by decide +kernel, by decide +kernel⟩, List.mem_of_getElem? (i := 1090) (by decide +kernel), List.mem_of_getElem? (i := 1470) (by decide +kernel), List.mem_of_getElem? (i := 1471) (by decide +kernel)⟩
theorem lw_p88 : lw_okq (⟨"PowersForTimesModel", "characteristic", "(I)I"⟩, 31) := ⟨⟨by decide +kernel, by decide +kernel⟩, List.mem_of_getElem? (i := 1090) (by decide +kernel), List.mem_of_getElem? (i := 1482) (by decide +kernel), List.mem_of_getElem? (i := 1483) (by decide +kernel)⟩
theorem lw_p89 : lw_okq (⟨"PowersForTimesModel", "height", "(I)I"⟩, 31) := ⟨⟨by decide +kernel, by decide +kernel⟩, List.mem_of_getElem? (i := 1090) (by decide +kernel), List.mem_of_getElem? (i := 1486) (by decide +kernel), List.mem_of_getElem? (i := 1487) (by decide +kernel)⟩
theorem lw_p90 : lw_okq (⟨"PowersForTimesModel", "points", "(I)I"⟩, 31) := ⟨⟨by decide +kernel, by decide +kernel⟩, List.mem_of_getElem? (i := 1090) (by decide +kernel), List.mem_of_getElem? (i := 1490) (by decide +kernel), List.mem_of_getElem? (i := 1491) (by decide +kernel)⟩
theorem lw_p91 : lw_okq (⟨"PowersForTimesModel", "toSteps", "(I)V"⟩, 31) := ⟨⟨by decide +kernel, by decide +kernel⟩, List.mem_of_getElem? (i := 1090) (by decide +kernel), List.mem_of_getElem? (i := 1494) (by decide +kernel), List.mem_of_getElem? (i := 1495) (by decide +kernel)⟩
theorem lw_p92 : lw_okq (⟨"PowersForTimesModel", "findParts", "(I)V"⟩, 31) := ⟨⟨by decide +kernel, by decide +kernel⟩, List.mem_of_getElem? (i := 1090) (by decide +kernel), List.mem_of_getElem? (i := 1502) (by decide +kernel), List.mem_of_getElem? (i := 1503) (by decide +kernel)⟩
theorem lw_p93 : lw_okq (⟨"PowersForTimesModel", "nought", "(II)I"⟩, 31) := ⟨⟨by decide +kernel, by decide +kernel⟩, List.mem_of_getElem? (i := 1090) (by decide +kernel), List.mem_of_getElem? (i := 1506) (by decide +kernel), List.mem_of_getElem? (i := 1507) (by decide +kernel)⟩
theorem lw_p94 : lw_okq (⟨"PowersForTimesModel", "rankOf", "(II)I"⟩, 31) := ⟨⟨by decide +kernel, by decide +kernel⟩, List.mem_of_getElem? (i := 1090) (by decide +kernel), List.mem_of_getElem? (i := 1510) (by decide +kernel), List.mem_of_getElem? (i := 1511) (by decide +kernel)⟩
theorem lw_p95 : lw_okq (⟨"PowersForTimesModel", "norm", "(I)I"⟩, 31) := ⟨⟨by decide +kernel, by decide +kernel⟩, List.mem_of_getElem? (i := 1090) (by decide +kernel), List.mem_of_getElem? (i := 1518) (by decide +kernel), List.mem_of_getElem? (i := 1519) (by decide +kernel)⟩
def lw_privs_6 : List (MethodName × Nat) := [(⟨"PowersForTimesModel", "isMap", "(I)Z"⟩, 31), (⟨"PowersForTimesModel", "isModule", "(I)Z"⟩, 31), (⟨"PowersForTimesModel", "layMap", "(II)V"⟩, 31), (⟨"PowersForTimesModel", "layModule", "(II)V"⟩, 31), (⟨"PowersForTimesModel", "acted", "(III)I"⟩, 31), (⟨"PowersForTimesModel", "stepped", "(II)I"⟩, 31), (⟨"PowersForTimesModel", "layActs", "(III)Z"⟩, 31), (⟨"PowersForTimesModel", "sent", "(II)I"⟩, 31), (⟨"PowersForTimesModel", "characteristic", "(I)I"⟩, 31), (⟨"PowersForTimesModel", "height", "(I)I"⟩, 31), (⟨"PowersForTimesModel", "points", "(I)I"⟩, 31), (⟨"PowersForTimesModel", "toSteps", "(I)V"⟩, 31), (⟨"PowersForTimesModel", "findParts", "(I)V"⟩, 31), (⟨"PowersForTimesModel", "nought", "(II)I"⟩, 31), (⟨"PowersForTimesModel", "rankOf", "(II)I"⟩, 31), (⟨"PowersForTimesModel", "norm", "(I)I"⟩, 31)]
theorem lw_r6 : ∀ q ∈ lw_privs_6, lw_okq q := List.forall_mem_cons.mpr ⟨lw_p80, List.forall_mem_cons.mpr ⟨lw_p81, List.forall_mem_cons.mpr ⟨lw_p82, List.forall_mem_cons.mpr ⟨lw_p83, List.forall_mem_cons.mpr ⟨lw_p84, List.forall_mem_cons.mpr ⟨lw_p85, List.forall_mem_cons.mpr ⟨lw_p86, List.forall_mem_cons.mpr ⟨lw_p87, List.forall_mem_cons.mpr ⟨lw_p88, List.forall_mem_cons.mpr ⟨lw_p89, List.forall_mem_cons.mpr ⟨lw_p90, List.forall_mem_cons.mpr ⟨lw_p91, List.forall_mem_cons.mpr ⟨lw_p92, List.forall_mem_cons.mpr ⟨lw_p93, List.forall_mem_cons.mpr ⟨lw_p94, List.forall_mem_cons.mpr ⟨lw_p95, fun _ h => absurd h List.not_mem_nil⟩⟩⟩⟩⟩⟩⟩⟩⟩⟩⟩⟩⟩⟩⟩⟩
theorem lw_p96 : lw_okq (⟨"PowersForTimesModel", "trace", "(I)I"⟩, 31) := ⟨⟨by decide +kernel, by decide +kernel⟩, List.mem_of_getElem? (i := 1090) (by decide +kernel), List.mem_of_getElem? (i := 1522) (by decide +kernel), List.mem_of_getElem? (i := 1523) (by decide +kernel)⟩
theorem lw_p97 : lw_okq (⟨"PowersForTimesModel", "leadsTo", "(II)Z"⟩, 31) := ⟨⟨by decide +kernel, by decide +kernel⟩, List.mem_of_getElem? (i := 1090) (by decide +kernel), List.mem_of_getElem? (i := 1530) (by decide +kernel), List.mem_of_getElem? (i := 1531) (by decide +kernel)⟩
theorem lw_p98 : lw_okq (⟨"PowersForTimesModel", "divideBy", "(III)V"⟩, 31) := ⟨⟨by decide +kernel, by decide +kernel⟩, List.mem_of_getElem? (i := 1090) (by decide +kernel), List.mem_of_getElem? (i := 1534) (by decide +kernel), List.mem_of_getElem? (i := 1535) (by decide +kernel)⟩
theorem lw_p99 : lw_okq (⟨"PowersForTimesModel", "stays", "(II)I"⟩, 31) := ⟨⟨by decide +kernel, by decide +kernel⟩, List.mem_of_getElem? (i := 1090) (by decide +kernel), List.mem_of_getElem? (i := 1562) (by decide +kernel), List.mem_of_getElem? (i := 1563) (by decide +kernel)⟩
theorem lw_p100 : lw_okq (⟨"PowersForTimesModel", "symbolOf", "(II)I"⟩, 31) := ⟨⟨by decide +kernel, by decide +kernel⟩, List.mem_of_getElem? (i := 1090) (by decide +kernel), List.mem_of_getElem? (i := 1574) (by decide +kernel), List.mem_of_getElem? (i := 1575) (by decide +kernel)⟩
def lw_privs_7 : List (MethodName × Nat) := [(⟨"PowersForTimesModel", "trace", "(I)I"⟩, 31), (⟨"PowersForTimesModel", "leadsTo", "(II)Z"⟩, 31), (⟨"PowersForTimesModel", "divideBy", "(III)V"⟩, 31), (⟨"PowersForTimesModel", "stays", "(II)I"⟩, 31), (⟨"PowersForTimesModel", "symbolOf", "(II)I"⟩, 31)]
theorem lw_r7 : ∀ q ∈ lw_privs_7, lw_okq q := List.forall_mem_cons.mpr ⟨lw_p96, List.forall_mem_cons.mpr ⟨lw_p97, List.forall_mem_cons.mpr ⟨lw_p98, List.forall_mem_cons.mpr ⟨lw_p99, List.forall_mem_cons.mpr ⟨lw_p100, fun _ h => absurd h List.not_mem_nil⟩⟩⟩⟩⟩
def lw_privs : List (MethodName × Nat) := lw_privs_1 ++ (lw_privs_2 ++ (lw_privs_3 ++ (lw_privs_4 ++ (lw_privs_5 ++ (lw_privs_6 ++ (lw_privs_7))))))
def lw_tbl : List Cond := k2_sels lw_privs ++ tables_1
theorem lw_privs_ok : ∀ q ∈ lw_privs, lw_okq q := by
  show ∀ q ∈ lw_privs_1 ++ (lw_privs_2 ++ (lw_privs_3 ++ (lw_privs_4 ++ (lw_privs_5 ++ (lw_privs_6 ++ (lw_privs_7)))))), lw_okq q
  exact List.forall_mem_append.mpr ⟨lw_r1, List.forall_mem_append.mpr ⟨lw_r2, List.forall_mem_append.mpr ⟨lw_r3, List.forall_mem_append.mpr ⟨lw_r4, List.forall_mem_append.mpr ⟨lw_r5, List.forall_mem_append.mpr ⟨lw_r6, lw_r7⟩⟩⟩⟩⟩⟩

def RX0 : String := "PowersForTimes$Acting"
def TX0 : u_T := fun k => match k with
  | 0 => ("PowersForTimes$Acting", "turned", "LPowersForTimes$Turned;", true)
  | 1 => ("PowersForTimes$Acting", "rests", "LPowersForTimes$Rests;", true)
  | 2 => ("PowersForTimes$Acting", "figures", "LPowersForTimes$Figures;", true)
  | 3 => ("PowersForTimes$Acting", "ties", "LPowersForTimes$Ties;", true)
  | 4 => ("PowersForTimes$Acting", "primes", "LPowersForTimes$Primes;", true)
  | 5 => ("PowersForTimes$Acting", "row", "[I", true)
  | _ => ("PowersForTimes$Acting", "parts", "[I", true)
def tyX0 : Nat → FieldType := fun k => match k with
  | 0 => .object "PowersForTimes$Turned"
  | 1 => .object "PowersForTimes$Rests"
  | 2 => .object "PowersForTimes$Figures"
  | 3 => .object "PowersForTimes$Ties"
  | 4 => .object "PowersForTimes$Primes"
  | 5 => .array .int
  | _ => .array .int
abbrev wsX00 : List Cond := u_ws RX0 TX0 7
theorem nmX0 : ∀ a, a < 7 → ∀ b, b < 7 → a ≠ b → (TX0 a).2.1 ≠ (TX0 b).2.1 := by decide +kernel
theorem tyX0_ok : ∀ k, k < 7 → parseFieldDescriptor (TX0 k).2.2.1 = some (tyX0 k) := by decide +kernel
set_option maxRecDepth 20000 in
theorem inX0 : ∀ w ∈ wsX00, w ∈ lw_tbl := by decide +kernel
abbrev cX0_init : ByteArray := prog_2_method_1_code
def yX0_init : MethodName := ⟨RX0, "<init>", "(LPowersForTimes$Turned;LPowersForTimes$Primes;)V"⟩
abbrev cX0_sendBy : ByteArray := prog_2_method_2_code
def yX0_sendBy : MethodName := ⟨RX0, "sendBy", "([III)I"⟩
abbrev cX0_turn : ByteArray := prog_2_method_3_code
def yX0_turn : MethodName := ⟨RX0, "turn", "([II[I)Z"⟩
abbrev cX0_characteristic : ByteArray := prog_2_method_4_code
def yX0_characteristic : MethodName := ⟨RX0, "characteristic", "(I)I"⟩
abbrev cX0_height : ByteArray := prog_2_method_5_code
def yX0_height : MethodName := ⟨RX0, "height", "([II)I"⟩
abbrev cX0_points : ByteArray := prog_2_method_6_code
def yX0_points : MethodName := ⟨RX0, "points", "([I)I"⟩
abbrev cX0_part : ByteArray := prog_2_method_7_code
def yX0_part : MethodName := ⟨RX0, "part", "(I)I"⟩
abbrev cX0_findParts : ByteArray := prog_2_method_8_code
def yX0_findParts : MethodName := ⟨RX0, "findParts", "([I)I"⟩
abbrev cX0_spread : ByteArray := prog_2_method_9_code
def yX0_spread : MethodName := ⟨RX0, "spread", "([II)V"⟩
abbrev cX0_noughtSpace : ByteArray := prog_2_method_10_code
def yX0_noughtSpace : MethodName := ⟨RX0, "noughtSpace", "([II)I"⟩
abbrev cX0_greatNorm : ByteArray := prog_2_method_11_code
def yX0_greatNorm : MethodName := ⟨RX0, "greatNorm", "([I)I"⟩
abbrev cX0_greatTrace : ByteArray := prog_2_method_12_code
def yX0_greatTrace : MethodName := ⟨RX0, "greatTrace", "([I)I"⟩
abbrev cX0_greatUnit : ByteArray := prog_2_method_13_code
def yX0_greatUnit : MethodName := ⟨RX0, "greatUnit", "([I)I"⟩
def RX1 : String := "PowersForTimes$Figures"
def TX1 : u_T := fun k => match k with
  | 0 => ("PowersForTimes$Figures", "base", "I", false)
  | _ => ("PowersForTimes$Figures", "powers", "[I", true)
def tyX1 : Nat → FieldType := fun k => match k with
  | 0 => .int
  | _ => .array .int
abbrev wsX10 : List Cond := u_ws RX1 TX1 2
theorem nmX1 : ∀ a, a < 2 → ∀ b, b < 2 → a ≠ b → (TX1 a).2.1 ≠ (TX1 b).2.1 := by decide +kernel
theorem tyX1_ok : ∀ k, k < 2 → parseFieldDescriptor (TX1 k).2.2.1 = some (tyX1 k) := by decide +kernel
set_option maxRecDepth 20000 in
theorem inX1 : ∀ w ∈ wsX10, w ∈ lw_tbl := by decide +kernel
abbrev cX1_init : ByteArray := prog_3_method_1_code
def yX1_init : MethodName := ⟨RX1, "<init>", "()V"⟩
abbrev cX1_setBase : ByteArray := prog_3_method_2_code
def yX1_setBase : MethodName := ⟨RX1, "setBase", "(I)V"⟩
abbrev cX1_base : ByteArray := prog_3_method_3_code
def yX1_base : MethodName := ⟨RX1, "base", "()I"⟩
abbrev cX1_power : ByteArray := prog_3_method_4_code
def yX1_power : MethodName := ⟨RX1, "power", "(I)I"⟩
abbrev cX1_holds : ByteArray := prog_3_method_5_code
def yX1_holds : MethodName := ⟨RX1, "holds", "(I)Z"⟩
abbrev cX1_degree : ByteArray := prog_3_method_6_code
def yX1_degree : MethodName := ⟨RX1, "degree", "(I)I"⟩
abbrev cX1_figure : ByteArray := prog_3_method_7_code
def yX1_figure : MethodName := ⟨RX1, "figure", "(II)I"⟩
abbrev cX1_first : ByteArray := prog_3_method_8_code
def yX1_first : MethodName := ⟨RX1, "first", "(I)I"⟩
abbrev cX1_isMonic : ByteArray := prog_3_method_9_code
def yX1_isMonic : MethodName := ⟨RX1, "isMonic", "(I)Z"⟩
abbrev cX1_inverse : ByteArray := prog_3_method_10_code
def yX1_inverse : MethodName := ⟨RX1, "inverse", "(I)I"⟩
abbrev cX1_negative : ByteArray := prog_3_method_11_code
def yX1_negative : MethodName := ⟨RX1, "negative", "(I)I"⟩
abbrev cX1_mix : ByteArray := prog_3_method_12_code
def yX1_mix : MethodName := ⟨RX1, "mix", "(III)I"⟩
abbrev cX1_sum : ByteArray := prog_3_method_13_code
def yX1_sum : MethodName := ⟨RX1, "sum", "(II)I"⟩
abbrev cX1_difference : ByteArray := prog_3_method_14_code
def yX1_difference : MethodName := ⟨RX1, "difference", "(II)I"⟩
abbrev cX1_monic : ByteArray := prog_3_method_15_code
def yX1_monic : MethodName := ⟨RX1, "monic", "(I)I"⟩
abbrev cX1_fits : ByteArray := prog_3_method_16_code
def yX1_fits : MethodName := ⟨RX1, "fits", "(II)Z"⟩
abbrev cX1_product : ByteArray := prog_3_method_17_code
def yX1_product : MethodName := ⟨RX1, "product", "(II)I"⟩
abbrev cX1_rest : ByteArray := prog_3_method_18_code
def yX1_rest : MethodName := ⟨RX1, "rest", "(II)I"⟩
abbrev cX1_quotient : ByteArray := prog_3_method_19_code
def yX1_quotient : MethodName := ⟨RX1, "quotient", "(II)I"⟩
abbrev cX1_common : ByteArray := prog_3_method_20_code
def yX1_common : MethodName := ⟨RX1, "common", "(II)I"⟩
abbrev cX1_productBy : ByteArray := prog_3_method_21_code
def yX1_productBy : MethodName := ⟨RX1, "productBy", "(III)I"⟩
abbrev cX1_turnedBy : ByteArray := prog_3_method_22_code
def yX1_turnedBy : MethodName := ⟨RX1, "turnedBy", "(II)I"⟩
abbrev cX1_sumOfPowers : ByteArray := prog_3_method_23_code
def yX1_sumOfPowers : MethodName := ⟨RX1, "sumOfPowers", "(II)I"⟩
abbrev cX1_symbolOver : ByteArray := prog_3_method_24_code
def yX1_symbolOver : MethodName := ⟨RX1, "symbolOver", "(II)I"⟩
def RX2 : String := "PowersForTimes$Maps"
def TX2 : u_T := fun k => match k with
  | 0 => ("PowersForTimes$Maps", "acting", "LPowersForTimes$Acting;", true)
  | 1 => ("PowersForTimes$Maps", "turned", "LPowersForTimes$Turned;", true)
  | 2 => ("PowersForTimes$Maps", "rests", "LPowersForTimes$Rests;", true)
  | 3 => ("PowersForTimes$Maps", "figures", "LPowersForTimes$Figures;", true)
  | 4 => ("PowersForTimes$Maps", "ties", "LPowersForTimes$Ties;", true)
  | 5 => ("PowersForTimes$Maps", "power", "[I", true)
  | 6 => ("PowersForTimes$Maps", "left", "[I", true)
  | 7 => ("PowersForTimes$Maps", "whole", "[I", true)
  | _ => ("PowersForTimes$Maps", "tried", "[I", true)
def tyX2 : Nat → FieldType := fun k => match k with
  | 0 => .object "PowersForTimes$Acting"
  | 1 => .object "PowersForTimes$Turned"
  | 2 => .object "PowersForTimes$Rests"
  | 3 => .object "PowersForTimes$Figures"
  | 4 => .object "PowersForTimes$Ties"
  | 5 => .array .int
  | 6 => .array .int
  | 7 => .array .int
  | _ => .array .int
abbrev wsX20 : List Cond := u_ws RX2 TX2 9
theorem nmX2 : ∀ a, a < 9 → ∀ b, b < 9 → a ≠ b → (TX2 a).2.1 ≠ (TX2 b).2.1 := by decide +kernel
theorem tyX2_ok : ∀ k, k < 9 → parseFieldDescriptor (TX2 k).2.2.1 = some (tyX2 k) := by decide +kernel
set_option maxRecDepth 20000 in
theorem inX2 : ∀ w ∈ wsX20, w ∈ lw_tbl := by decide +kernel
abbrev cX2_init : ByteArray := prog_4_method_1_code
def yX2_init : MethodName := ⟨RX2, "<init>", "(LPowersForTimes$Acting;)V"⟩
abbrev cX2_lead : ByteArray := prog_4_method_2_code
def yX2_lead : MethodName := ⟨RX2, "lead", "([I[I[I)Z"⟩
abbrev cX2_dualNumber : ByteArray := prog_4_method_3_code
def yX2_dualNumber : MethodName := ⟨RX2, "dualNumber", "([I[I)I"⟩
abbrev cX2_dualRow : ByteArray := prog_4_method_4_code
def yX2_dualRow : MethodName := ⟨RX2, "dualRow", "([I[II[I)Z"⟩
abbrev cX2_make : ByteArray := prog_4_method_5_code
def yX2_make : MethodName := ⟨RX2, "make", "([II[I)V"⟩
abbrev cX2_countEnds : ByteArray := prog_4_method_6_code
def yX2_countEnds : MethodName := ⟨RX2, "countEnds", "([II)I"⟩
abbrev cX2_putDifference : ByteArray := prog_4_method_7_code
def yX2_putDifference : MethodName := ⟨RX2, "putDifference", "([III)V"⟩
abbrev cX2_leastAlike : ByteArray := prog_4_method_8_code
def yX2_leastAlike : MethodName := ⟨RX2, "leastAlike", "([I[I)I"⟩
abbrev cX2_countClasses : ByteArray := prog_4_method_9_code
def yX2_countClasses : MethodName := ⟨RX2, "countClasses", "(I)I"⟩
abbrev cX2_countGreatest : ByteArray := prog_4_method_10_code
def yX2_countGreatest : MethodName := ⟨RX2, "countGreatest", "(I)I"⟩
abbrev cX2_isGreatest : ByteArray := prog_4_method_11_code
def yX2_isGreatest : MethodName := ⟨RX2, "isGreatest", "(IIII)Z"⟩
abbrev cX2_commonDivisor : ByteArray := prog_4_method_12_code
def yX2_commonDivisor : MethodName := ⟨RX2, "commonDivisor", "(II)I"⟩
def RX3 : String := "PowersForTimes$Primes"
def TX3 : u_T := fun k => match k with
  | 0 => ("PowersForTimes$Primes", "figures", "LPowersForTimes$Figures;", true)
  | 1 => ("PowersForTimes$Primes", "found", "[I", true)
  | 2 => ("PowersForTimes$Primes", "split", "[I", true)
  | 3 => ("PowersForTimes$Primes", "many", "I", false)
  | _ => ("PowersForTimes$Primes", "splits", "I", false)
def tyX3 : Nat → FieldType := fun k => match k with
  | 0 => .object "PowersForTimes$Figures"
  | 1 => .array .int
  | 2 => .array .int
  | 3 => .int
  | _ => .int
abbrev wsX30 : List Cond := u_ws RX3 TX3 5
theorem nmX3 : ∀ a, a < 5 → ∀ b, b < 5 → a ≠ b → (TX3 a).2.1 ≠ (TX3 b).2.1 := by decide +kernel
theorem tyX3_ok : ∀ k, k < 5 → parseFieldDescriptor (TX3 k).2.2.1 = some (tyX3 k) := by decide +kernel
set_option maxRecDepth 20000 in
theorem inX3 : ∀ w ∈ wsX30, w ∈ lw_tbl := by decide +kernel
abbrev cX3_init : ByteArray := prog_5_method_1_code
def yX3_init : MethodName := ⟨RX3, "<init>", "(LPowersForTimes$Figures;)V"⟩
abbrev cX3_many : ByteArray := prog_5_method_2_code
def yX3_many : MethodName := ⟨RX3, "many", "()I"⟩
abbrev cX3_get : ByteArray := prog_5_method_3_code
def yX3_get : MethodName := ⟨RX3, "get", "(I)I"⟩
abbrev cX3_find : ByteArray := prog_5_method_4_code
def yX3_find : MethodName := ⟨RX3, "find", "(I)V"⟩
abbrev cX3_takeOut : ByteArray := prog_5_method_5_code
def yX3_takeOut : MethodName := ⟨RX3, "takeOut", "(II)I"⟩
abbrev cX3_add : ByteArray := prog_5_method_6_code
def yX3_add : MethodName := ⟨RX3, "add", "(I)V"⟩
abbrev cX3_splitUp : ByteArray := prog_5_method_7_code
def yX3_splitUp : MethodName := ⟨RX3, "splitUp", "(II)V"⟩
abbrev cX3_trace : ByteArray := prog_5_method_8_code
def yX3_trace : MethodName := ⟨RX3, "trace", "(III)I"⟩
abbrev cX3_splitBy : ByteArray := prog_5_method_9_code
def yX3_splitBy : MethodName := ⟨RX3, "splitBy", "(I)V"⟩
abbrev cX3_sort : ByteArray := prog_5_method_10_code
def yX3_sort : MethodName := ⟨RX3, "sort", "()V"⟩
def RX4 : String := "PowersForTimes$Reader"
def TX4 : u_T := fun k => match k with
  | 0 => ("PowersForTimes$Reader", "turned", "LPowersForTimes$Turned;", true)
  | 1 => ("PowersForTimes$Reader", "rests", "LPowersForTimes$Rests;", true)
  | 2 => ("PowersForTimes$Reader", "slots", "[[I", true)
  | 3 => ("PowersForTimes$Reader", "bytes", "[I", false)
  | 4 => ("PowersForTimes$Reader", "length", "I", false)
  | 5 => ("PowersForTimes$Reader", "works", "Z", false)
  | 6 => ("PowersForTimes$Reader", "stuck", "Z", false)
  | 7 => ("PowersForTimes$Reader", "next", "I", false)
  | 8 => ("PowersForTimes$Reader", "token", "I", false)
  | 9 => ("PowersForTimes$Reader", "place", "I", false)
  | 10 => ("PowersForTimes$Reader", "number", "I", false)
  | 11 => ("PowersForTimes$Reader", "clauses", "I", false)
  | 12 => ("PowersForTimes$Reader", "fault", "I", false)
  | _ => ("PowersForTimes$Reader", "faultAt", "I", false)
def tyX4 : Nat → FieldType := fun k => match k with
  | 0 => .object "PowersForTimes$Turned"
  | 1 => .object "PowersForTimes$Rests"
  | 2 => .array (.array .int)
  | 3 => .array .int
  | 4 => .int
  | 5 => .boolean
  | 6 => .boolean
  | 7 => .int
  | 8 => .int
  | 9 => .int
  | 10 => .int
  | 11 => .int
  | 12 => .int
  | _ => .int
abbrev wsX40 : List Cond := u_ws RX4 TX4 14
theorem nmX4 : ∀ a, a < 14 → ∀ b, b < 14 → a ≠ b → (TX4 a).2.1 ≠ (TX4 b).2.1 := by decide +kernel
theorem tyX4_ok : ∀ k, k < 14 → parseFieldDescriptor (TX4 k).2.2.1 = some (tyX4 k) := by decide +kernel
set_option maxRecDepth 20000 in
theorem inX4 : ∀ w ∈ wsX40, w ∈ lw_tbl := by decide +kernel
abbrev cX4_init : ByteArray := prog_6_method_1_code
def yX4_init : MethodName := ⟨RX4, "<init>", "(LPowersForTimes$Turned;)V"⟩
abbrev cX4_check : ByteArray := prog_6_method_2_code
def yX4_check : MethodName := ⟨RX4, "check", "([II)I"⟩
abbrev cX4_faultPlace : ByteArray := prog_6_method_3_code
def yX4_faultPlace : MethodName := ⟨RX4, "faultPlace", "()I"⟩
abbrev cX4_start : ByteArray := prog_6_method_4_code
def yX4_start : MethodName := ⟨RX4, "start", "([IIZ)V"⟩
abbrev cX4_cannot : ByteArray := prog_6_method_5_code
def yX4_cannot : MethodName := ⟨RX4, "cannot", "()Z"⟩
abbrev cX4_result : ByteArray := prog_6_method_6_code
def yX4_result : MethodName := ⟨RX4, "result", "()[I"⟩
abbrev cX4_readClause : ByteArray := prog_6_method_7_code
def yX4_readClause : MethodName := ⟨RX4, "readClause", "()I"⟩
abbrev cX4_clauseKind : ByteArray := prog_6_method_8_code
def yX4_clauseKind : MethodName := ⟨RX4, "clauseKind", "()I"⟩
abbrev cX4_readSum : ByteArray := prog_6_method_9_code
def yX4_readSum : MethodName := ⟨RX4, "readSum", "(II)Z"⟩
abbrev cX4_readProduct : ByteArray := prog_6_method_10_code
def yX4_readProduct : MethodName := ⟨RX4, "readProduct", "(II)Z"⟩
abbrev cX4_readPower : ByteArray := prog_6_method_11_code
def yX4_readPower : MethodName := ⟨RX4, "readPower", "(II)Z"⟩
abbrev cX4_readOne : ByteArray := prog_6_method_12_code
def yX4_readOne : MethodName := ⟨RX4, "readOne", "(II)Z"⟩
abbrev cX4_readNumber : ByteArray := prog_6_method_13_code
def yX4_readNumber : MethodName := ⟨RX4, "readNumber", "(I)Z"⟩
abbrev cX4_expect : ByteArray := prog_6_method_14_code
def yX4_expect : MethodName := ⟨RX4, "expect", "(I)Z"⟩
abbrev cX4_fail : ByteArray := prog_6_method_15_code
def yX4_fail : MethodName := ⟨RX4, "fail", "(I)Z"⟩
abbrev cX4_isWorking : ByteArray := prog_6_method_16_code
def yX4_isWorking : MethodName := ⟨RX4, "isWorking", "(I)Z"⟩
abbrev cX4_put : ByteArray := prog_6_method_17_code
def yX4_put : MethodName := ⟨RX4, "put", "(III)V"⟩
abbrev cX4_addUp : ByteArray := prog_6_method_18_code
def yX4_addUp : MethodName := ⟨RX4, "addUp", "(IZ)V"⟩
abbrev cX4_multiplyUp : ByteArray := prog_6_method_19_code
def yX4_multiplyUp : MethodName := ⟨RX4, "multiplyUp", "(I)V"⟩
abbrev cX4_turnOver : ByteArray := prog_6_method_20_code
def yX4_turnOver : MethodName := ⟨RX4, "turnOver", "(I)V"⟩
abbrev cX4_raise : ByteArray := prog_6_method_21_code
def yX4_raise : MethodName := ⟨RX4, "raise", "(II)V"⟩
abbrev cX4_isWord : ByteArray := prog_6_method_22_code
def yX4_isWord : MethodName := ⟨RX4, "isWord", "(Ljava/lang/String;)Z"⟩
abbrev cX4_byteAt : ByteArray := prog_6_method_23_code
def yX4_byteAt : MethodName := ⟨RX4, "byteAt", "(I)I"⟩
abbrev cX4_step : ByteArray := prog_6_method_24_code
def yX4_step : MethodName := ⟨RX4, "step", "()V"⟩
abbrev cX4_stepNumber : ByteArray := prog_6_method_25_code
def yX4_stepNumber : MethodName := ⟨RX4, "stepNumber", "()V"⟩
abbrev cX4_isDigit : ByteArray := prog_6_method_26_code
def yX4_isDigit : MethodName := ⟨RX4, "isDigit", "(I)Z"⟩
abbrev cX4_isLetter : ByteArray := prog_6_method_27_code
def yX4_isLetter : MethodName := ⟨RX4, "isLetter", "(I)Z"⟩
abbrev cX4_isSign : ByteArray := prog_6_method_28_code
def yX4_isSign : MethodName := ⟨RX4, "isSign", "(I)Z"⟩
def RX5 : String := "PowersForTimes$Rests"
def TX5 : u_T := fun k => match k with
  | 0 => ("PowersForTimes$Rests", "figures", "LPowersForTimes$Figures;", true)
  | 1 => ("PowersForTimes$Rests", "modulus", "I", false)
  | 2 => ("PowersForTimes$Rests", "degree", "I", false)
  | 3 => ("PowersForTimes$Rests", "size", "I", false)
  | 4 => ("PowersForTimes$Rests", "powers", "[I", true)
  | 5 => ("PowersForTimes$Rests", "places", "[I", true)
  | _ => ("PowersForTimes$Rests", "turns", "[I", true)
def tyX5 : Nat → FieldType := fun k => match k with
  | 0 => .object "PowersForTimes$Figures"
  | 1 => .int
  | 2 => .int
  | 3 => .int
  | 4 => .array .int
  | 5 => .array .int
  | _ => .array .int
abbrev wsX50 : List Cond := u_ws RX5 TX5 7
theorem nmX5 : ∀ a, a < 7 → ∀ b, b < 7 → a ≠ b → (TX5 a).2.1 ≠ (TX5 b).2.1 := by decide +kernel
theorem tyX5_ok : ∀ k, k < 7 → parseFieldDescriptor (TX5 k).2.2.1 = some (tyX5 k) := by decide +kernel
set_option maxRecDepth 20000 in
theorem inX5 : ∀ w ∈ wsX50, w ∈ lw_tbl := by decide +kernel
abbrev cX5_init : ByteArray := prog_7_method_1_code
def yX5_init : MethodName := ⟨RX5, "<init>", "(LPowersForTimes$Figures;)V"⟩
abbrev cX5_setModulus : ByteArray := prog_7_method_2_code
def yX5_setModulus : MethodName := ⟨RX5, "setModulus", "(I)V"⟩
abbrev cX5_listPowers : ByteArray := prog_7_method_3_code
def yX5_listPowers : MethodName := ⟨RX5, "listPowers", "(I)I"⟩
abbrev cX5_modulus : ByteArray := prog_7_method_4_code
def yX5_modulus : MethodName := ⟨RX5, "modulus", "()I"⟩
abbrev cX5_degree : ByteArray := prog_7_method_5_code
def yX5_degree : MethodName := ⟨RX5, "degree", "()I"⟩
abbrev cX5_size : ByteArray := prog_7_method_6_code
def yX5_size : MethodName := ⟨RX5, "size", "()I"⟩
abbrev cX5_holds : ByteArray := prog_7_method_7_code
def yX5_holds : MethodName := ⟨RX5, "holds", "(I)Z"⟩
abbrev cX5_makerPower : ByteArray := prog_7_method_8_code
def yX5_makerPower : MethodName := ⟨RX5, "makerPower", "(I)I"⟩
abbrev cX5_product : ByteArray := prog_7_method_9_code
def yX5_product : MethodName := ⟨RX5, "product", "(II)I"⟩
abbrev cX5_quotient : ByteArray := prog_7_method_10_code
def yX5_quotient : MethodName := ⟨RX5, "quotient", "(II)I"⟩
abbrev cX5_turnedUp : ByteArray := prog_7_method_11_code
def yX5_turnedUp : MethodName := ⟨RX5, "turnedUp", "(II)I"⟩
def RX6 : String := "PowersForTimes$State"
def TX6 : u_T := fun k => match k with
  | 0 => ("PowersForTimes$State", "base", "I", false)
  | 1 => ("PowersForTimes$State", "modulus", "I", false)
  | 2 => ("PowersForTimes$State", "texts", "I", false)
  | 3 => ("PowersForTimes$State", "done", "I", false)
  | 4 => ("PowersForTimes$State", "all", "I", false)
  | 5 => ("PowersForTimes$State", "modules", "[[I", true)
  | 6 => ("PowersForTimes$State", "maps", "[[I", true)
  | 7 => ("PowersForTimes$State", "many", "[I", true)
  | _ => ("PowersForTimes$State", "kinds", "[I", true)
def tyX6 : Nat → FieldType := fun k => match k with
  | 0 => .int
  | 1 => .int
  | 2 => .int
  | 3 => .int
  | 4 => .int
  | 5 => .array (.array .int)
  | 6 => .array (.array .int)
  | 7 => .array .int
  | _ => .array .int
abbrev wsX60 : List Cond := u_ws RX6 TX6 9
theorem nmX6 : ∀ a, a < 9 → ∀ b, b < 9 → a ≠ b → (TX6 a).2.1 ≠ (TX6 b).2.1 := by decide +kernel
theorem tyX6_ok : ∀ k, k < 9 → parseFieldDescriptor (TX6 k).2.2.1 = some (tyX6 k) := by decide +kernel
set_option maxRecDepth 20000 in
theorem inX6 : ∀ w ∈ wsX60, w ∈ lw_tbl := by decide +kernel
abbrev cX6_init : ByteArray := prog_8_method_1_code
def yX6_init : MethodName := ⟨RX6, "<init>", "()V"⟩
abbrev cX6_start : ByteArray := prog_8_method_2_code
def yX6_start : MethodName := ⟨RX6, "start", "(II)V"⟩
abbrev cX6_copyOf : ByteArray := prog_8_method_3_code
def yX6_copyOf : MethodName := ⟨RX6, "copyOf", "(LPowersForTimes$State;)V"⟩
abbrev cX6_base : ByteArray := prog_8_method_4_code
def yX6_base : MethodName := ⟨RX6, "base", "()I"⟩
abbrev cX6_modulus : ByteArray := prog_8_method_5_code
def yX6_modulus : MethodName := ⟨RX6, "modulus", "()I"⟩
abbrev cX6_texts : ByteArray := prog_8_method_6_code
def yX6_texts : MethodName := ⟨RX6, "texts", "()I"⟩
abbrev cX6_addText : ByteArray := prog_8_method_7_code
def yX6_addText : MethodName := ⟨RX6, "addText", "()V"⟩
abbrev cX6_steps : ByteArray := prog_8_method_8_code
def yX6_steps : MethodName := ⟨RX6, "steps", "()I"⟩
abbrev cX6_undone : ByteArray := prog_8_method_9_code
def yX6_undone : MethodName := ⟨RX6, "undone", "()I"⟩
abbrev cX6_many : ByteArray := prog_8_method_10_code
def yX6_many : MethodName := ⟨RX6, "many", "(I)I"⟩
abbrev cX6_has : ByteArray := prog_8_method_11_code
def yX6_has : MethodName := ⟨RX6, "has", "(II)Z"⟩
abbrev cX6_get : ByteArray := prog_8_method_12_code
def yX6_get : MethodName := ⟨RX6, "get", "(II)[I"⟩
abbrev cX6_tell : ByteArray := prog_8_method_13_code
def yX6_tell : MethodName := ⟨RX6, "tell", "(I[I)I"⟩
abbrev cX6_undoLatest : ByteArray := prog_8_method_14_code
def yX6_undoLatest : MethodName := ⟨RX6, "undoLatest", "()I"⟩
abbrev cX6_redoLatest : ByteArray := prog_8_method_15_code
def yX6_redoLatest : MethodName := ⟨RX6, "redoLatest", "()I"⟩
def RX7 : String := "PowersForTimes$Ties"
def TX7 : u_T := fun k => match k with
  | 0 => ("PowersForTimes$Ties", "figures", "LPowersForTimes$Figures;", true)
  | 1 => ("PowersForTimes$Ties", "rows", "[[I", true)
  | 2 => ("PowersForTimes$Ties", "tags", "[I", true)
  | 3 => ("PowersForTimes$Ties", "filled", "[Z", true)
  | _ => ("PowersForTimes$Ties", "row", "[I", true)
def tyX7 : Nat → FieldType := fun k => match k with
  | 0 => .object "PowersForTimes$Figures"
  | 1 => .array (.array .int)
  | 2 => .array .int
  | 3 => .array .boolean
  | _ => .array .int
abbrev wsX70 : List Cond := u_ws RX7 TX7 5
theorem nmX7 : ∀ a, a < 5 → ∀ b, b < 5 → a ≠ b → (TX7 a).2.1 ≠ (TX7 b).2.1 := by decide +kernel
theorem tyX7_ok : ∀ k, k < 5 → parseFieldDescriptor (TX7 k).2.2.1 = some (tyX7 k) := by decide +kernel
set_option maxRecDepth 20000 in
theorem inX7 : ∀ w ∈ wsX70, w ∈ lw_tbl := by decide +kernel
abbrev cX7_init : ByteArray := prog_9_method_1_code
def yX7_init : MethodName := ⟨RX7, "<init>", "(LPowersForTimes$Figures;)V"⟩
abbrev cX7_clear : ByteArray := prog_9_method_2_code
def yX7_clear : MethodName := ⟨RX7, "clear", "()V"⟩
abbrev cX7_dropTags : ByteArray := prog_9_method_3_code
def yX7_dropTags : MethodName := ⟨RX7, "dropTags", "()V"⟩
abbrev cX7_addRest : ByteArray := prog_9_method_4_code
def yX7_addRest : MethodName := ⟨RX7, "addRest", "(II)I"⟩
abbrev cX7_add : ByteArray := prog_9_method_5_code
def yX7_add : MethodName := ⟨RX7, "add", "([II)I"⟩
abbrev cX7_keep : ByteArray := prog_9_method_6_code
def yX7_keep : MethodName := ⟨RX7, "keep", "([IIII)V"⟩
def RX8 : String := "PowersForTimes$Turned"
def TX8 : u_T := fun k => match k with
  | 0 => ("PowersForTimes$Turned", "rests", "LPowersForTimes$Rests;", true)
  | _ => ("PowersForTimes$Turned", "figures", "LPowersForTimes$Figures;", true)
def tyX8 : Nat → FieldType := fun k => match k with
  | 0 => .object "PowersForTimes$Rests"
  | _ => .object "PowersForTimes$Figures"
abbrev wsX80 : List Cond := u_ws RX8 TX8 2
theorem nmX8 : ∀ a, a < 2 → ∀ b, b < 2 → a ≠ b → (TX8 a).2.1 ≠ (TX8 b).2.1 := by decide +kernel
theorem tyX8_ok : ∀ k, k < 2 → parseFieldDescriptor (TX8 k).2.2.1 = some (tyX8 k) := by decide +kernel
set_option maxRecDepth 20000 in
theorem inX8 : ∀ w ∈ wsX80, w ∈ lw_tbl := by decide +kernel
abbrev cX8_init : ByteArray := prog_10_method_1_code
def yX8_init : MethodName := ⟨RX8, "<init>", "(LPowersForTimes$Rests;)V"⟩
abbrev cX8_degreeOf : ByteArray := prog_10_method_2_code
def yX8_degreeOf : MethodName := ⟨RX8, "degreeOf", "([I)I"⟩
abbrev cX8_clear : ByteArray := prog_10_method_3_code
def yX8_clear : MethodName := ⟨RX8, "clear", "([I)V"⟩
abbrev cX8_copy : ByteArray := prog_10_method_4_code
def yX8_copy : MethodName := ⟨RX8, "copy", "([I[I)V"⟩
abbrev cX8_mix : ByteArray := prog_10_method_5_code
def yX8_mix : MethodName := ⟨RX8, "mix", "([I[II)V"⟩
abbrev cX8_multiply : ByteArray := prog_10_method_6_code
def yX8_multiply : MethodName := ⟨RX8, "multiply", "([I[I)Z"⟩
abbrev cX8_divide : ByteArray := prog_10_method_7_code
def yX8_divide : MethodName := ⟨RX8, "divide", "([I[I[I)V"⟩
abbrev cX8_valueAt : ByteArray := prog_10_method_8_code
def yX8_valueAt : MethodName := ⟨RX8, "valueAt", "([II)I"⟩
def RX9 : String := "PowersForTimes"
def TX9 : u_T := fun k => match k with
  | 0 => ("PowersForTimes", "figures", "LPowersForTimes$Figures;", true)
  | 1 => ("PowersForTimes", "rests", "LPowersForTimes$Rests;", true)
  | 2 => ("PowersForTimes", "primes", "LPowersForTimes$Primes;", true)
  | 3 => ("PowersForTimes", "turned", "LPowersForTimes$Turned;", true)
  | 4 => ("PowersForTimes", "acting", "LPowersForTimes$Acting;", true)
  | 5 => ("PowersForTimes", "maps", "LPowersForTimes$Maps;", true)
  | 6 => ("PowersForTimes", "reader", "LPowersForTimes$Reader;", true)
  | 7 => ("PowersForTimes", "now", "LPowersForTimes$State;", true)
  | 8 => ("PowersForTimes", "kept", "LPowersForTimes$State;", true)
  | 9 => ("PowersForTimes", "texts", "[[I", true)
  | 10 => ("PowersForTimes", "textLengths", "[I", true)
  | 11 => ("PowersForTimes", "tape", "[I", true)
  | 12 => ("PowersForTimes", "row", "[I", true)
  | 13 => ("PowersForTimes", "tapeLength", "I", false)
  | 14 => ("PowersForTimes", "latestFault", "I", false)
  | _ => ("PowersForTimes", "latestPlace", "I", false)
def tyX9 : Nat → FieldType := fun k => match k with
  | 0 => .object "PowersForTimes$Figures"
  | 1 => .object "PowersForTimes$Rests"
  | 2 => .object "PowersForTimes$Primes"
  | 3 => .object "PowersForTimes$Turned"
  | 4 => .object "PowersForTimes$Acting"
  | 5 => .object "PowersForTimes$Maps"
  | 6 => .object "PowersForTimes$Reader"
  | 7 => .object "PowersForTimes$State"
  | 8 => .object "PowersForTimes$State"
  | 9 => .array (.array .int)
  | 10 => .array .int
  | 11 => .array .int
  | 12 => .array .int
  | 13 => .int
  | 14 => .int
  | _ => .int
abbrev wsX90 : List Cond := u_ws RX9 TX9 16
theorem nmX9 : ∀ a, a < 16 → ∀ b, b < 16 → a ≠ b → (TX9 a).2.1 ≠ (TX9 b).2.1 := by decide +kernel
theorem tyX9_ok : ∀ k, k < 16 → parseFieldDescriptor (TX9 k).2.2.1 = some (tyX9 k) := by decide +kernel
set_option maxRecDepth 20000 in
theorem inX9 : ∀ w ∈ wsX90, w ∈ lw_tbl := by decide +kernel
abbrev cX9_init : ByteArray := prog_1_method_1_code
def yX9_init : MethodName := ⟨RX9, "<init>", "()V"⟩
abbrev cX9_world : ByteArray := prog_1_method_2_code
def yX9_world : MethodName := ⟨RX9, "world", "(II)I"⟩
abbrev cX9_work : ByteArray := prog_1_method_3_code
def yX9_work : MethodName := ⟨RX9, "work", "(III)I"⟩
abbrev cX9_poly : ByteArray := prog_1_method_4_code
def yX9_poly : MethodName := ⟨RX9, "poly", "(III)I"⟩
abbrev cX9_module : ByteArray := prog_1_method_5_code
def yX9_module : MethodName := ⟨RX9, "module", "(IIII)I"⟩
abbrev cX9_map : ByteArray := prog_1_method_6_code
def yX9_map : MethodName := ⟨RX9, "map", "(III)I"⟩
abbrev cX9_feed : ByteArray := prog_1_method_7_code
def yX9_feed : MethodName := ⟨RX9, "feed", "(IIIII)I"⟩
abbrev cX9_end : ByteArray := prog_1_method_8_code
def yX9_end : MethodName := ⟨RX9, "end", "(I)I"⟩
abbrev cX9_text : ByteArray := prog_1_method_9_code
def yX9_text : MethodName := ⟨RX9, "text", "()I"⟩
abbrev cX9_fault : ByteArray := prog_1_method_10_code
def yX9_fault : MethodName := ⟨RX9, "fault", "(I)I"⟩
abbrev cX9_told : ByteArray := prog_1_method_11_code
def yX9_told : MethodName := ⟨RX9, "told", "(I)I"⟩
abbrev cX9_of : ByteArray := prog_1_method_12_code
def yX9_of : MethodName := ⟨RX9, "of", "(ZII)I"⟩
abbrev cX9_act : ByteArray := prog_1_method_13_code
def yX9_act : MethodName := ⟨RX9, "act", "(III)I"⟩
abbrev cX9_acts : ByteArray := prog_1_method_14_code
def yX9_acts : MethodName := ⟨RX9, "acts", "(III)I"⟩
abbrev cX9_send : ByteArray := prog_1_method_15_code
def yX9_send : MethodName := ⟨RX9, "send", "(II)I"⟩
abbrev cX9_noughts : ByteArray := prog_1_method_16_code
def yX9_noughts : MethodName := ⟨RX9, "noughts", "(III)I"⟩
abbrev cX9_about : ByteArray := prog_1_method_17_code
def yX9_about : MethodName := ⟨RX9, "about", "(II)I"⟩
abbrev cX9_parts : ByteArray := prog_1_method_18_code
def yX9_parts : MethodName := ⟨RX9, "parts", "(II)I"⟩
abbrev cX9_great : ByteArray := prog_1_method_19_code
def yX9_great : MethodName := ⟨RX9, "great", "(II)I"⟩
abbrev cX9_leads : ByteArray := prog_1_method_20_code
def yX9_leads : MethodName := ⟨RX9, "leads", "(III)I"⟩
abbrev cX9_dual : ByteArray := prog_1_method_21_code
def yX9_dual : MethodName := ⟨RX9, "dual", "(III)I"⟩
abbrev cX9_made : ByteArray := prog_1_method_22_code
def yX9_made : MethodName := ⟨RX9, "made", "(II)I"⟩
abbrev cX9_ends : ByteArray := prog_1_method_23_code
def yX9_ends : MethodName := ⟨RX9, "ends", "(II)I"⟩
abbrev cX9_alike : ByteArray := prog_1_method_24_code
def yX9_alike : MethodName := ⟨RX9, "alike", "(II)I"⟩
abbrev cX9_classes : ByteArray := prog_1_method_25_code
def yX9_classes : MethodName := ⟨RX9, "classes", "(II)I"⟩
abbrev cX9_greatest : ByteArray := prog_1_method_26_code
def yX9_greatest : MethodName := ⟨RX9, "greatest", "(I)I"⟩
abbrev cX9_sums : ByteArray := prog_1_method_27_code
def yX9_sums : MethodName := ⟨RX9, "sums", "(II)I"⟩
abbrev cX9_symbol : ByteArray := prog_1_method_28_code
def yX9_symbol : MethodName := ⟨RX9, "symbol", "(II)I"⟩
abbrev cX9_factors : ByteArray := prog_1_method_29_code
def yX9_factors : MethodName := ⟨RX9, "factors", "(II)I"⟩
abbrev cX9_undo : ByteArray := prog_1_method_30_code
def yX9_undo : MethodName := ⟨RX9, "undo", "()I"⟩
abbrev cX9_redo : ByteArray := prog_1_method_31_code
def yX9_redo : MethodName := ⟨RX9, "redo", "()I"⟩
abbrev cX9_image : ByteArray := prog_1_method_32_code
def yX9_image : MethodName := ⟨RX9, "image", "()I"⟩
abbrev cX9_back : ByteArray := prog_1_method_33_code
def yX9_back : MethodName := ⟨RX9, "back", "()I"⟩
abbrev cX9_count : ByteArray := prog_1_method_34_code
def yX9_count : MethodName := ⟨RX9, "count", "(I)I"⟩
abbrev cX9_isModulus : ByteArray := prog_1_method_35_code
def yX9_isModulus : MethodName := ⟨RX9, "isModulus", "(I)Z"⟩
abbrev cX9_isActing : ByteArray := prog_1_method_36_code
def yX9_isActing : MethodName := ⟨RX9, "isActing", "(II)Z"⟩
abbrev cX9_areMapAndModule : ByteArray := prog_1_method_37_code
def yX9_areMapAndModule : MethodName := ⟨RX9, "areMapAndModule", "(II)Z"⟩
abbrev cX9_putRow : ByteArray := prog_1_method_38_code
def yX9_putRow : MethodName := ⟨RX9, "putRow", "(IIII)V"⟩
abbrev cX9_feedFour : ByteArray := prog_1_method_39_code
def yX9_feedFour : MethodName := ⟨RX9, "feedFour", "(I)V"⟩
def RX10 : String := "PowersForTimesModel"
def TX10 : u_T := fun k => match k with
  | 0 => ("PowersForTimesModel", "a", "[I", true)
  | 1 => ("PowersForTimesModel", "image", "[I", true)
  | 2 => ("PowersForTimesModel", "texts", "[I", true)
  | 3 => ("PowersForTimesModel", "d", "I", false)
  | 4 => ("PowersForTimesModel", "rests", "I", false)
  | 5 => ("PowersForTimesModel", "product", "[I", true)
  | 6 => ("PowersForTimesModel", "by1", "[I", true)
  | 7 => ("PowersForTimesModel", "raised", "[I", true)
  | 8 => ("PowersForTimesModel", "work", "[I", true)
  | 9 => ("PowersForTimesModel", "quotient", "I", false)
  | 10 => ("PowersForTimesModel", "left", "I", false)
  | 11 => ("PowersForTimesModel", "tape", "[I", true)
  | 12 => ("PowersForTimesModel", "taped", "I", false)
  | 13 => ("PowersForTimesModel", "fault", "I", false)
  | 14 => ("PowersForTimesModel", "faultPlace", "I", false)
  | 15 => ("PowersForTimesModel", "at", "I", false)
  | 16 => ("PowersForTimesModel", "place", "I", false)
  | 17 => ("PowersForTimesModel", "token", "I", false)
  | 18 => ("PowersForTimesModel", "number", "I", false)
  | 19 => ("PowersForTimesModel", "word", "J", false)
  | 20 => ("PowersForTimesModel", "text0", "I", false)
  | 21 => ("PowersForTimesModel", "written", "I", false)
  | 22 => ("PowersForTimesModel", "piled", "I", false)
  | 23 => ("PowersForTimesModel", "opens", "I", false)
  | 24 => ("PowersForTimesModel", "pile", "[I", true)
  | 25 => ("PowersForTimesModel", "isWhole", "Z", false)
  | 26 => ("PowersForTimesModel", "canRaise", "Z", false)
  | 27 => ("PowersForTimesModel", "row", "[I", true)
  | 28 => ("PowersForTimesModel", "table", "[I", true)
  | 29 => ("PowersForTimesModel", "firsts", "[I", true)
  | _ => ("PowersForTimesModel", "parts", "[I", true)
def tyX10 : Nat → FieldType := fun k => match k with
  | 0 => .array .int
  | 1 => .array .int
  | 2 => .array .int
  | 3 => .int
  | 4 => .int
  | 5 => .array .int
  | 6 => .array .int
  | 7 => .array .int
  | 8 => .array .int
  | 9 => .int
  | 10 => .int
  | 11 => .array .int
  | 12 => .int
  | 13 => .int
  | 14 => .int
  | 15 => .int
  | 16 => .int
  | 17 => .int
  | 18 => .int
  | 19 => .long
  | 20 => .int
  | 21 => .int
  | 22 => .int
  | 23 => .int
  | 24 => .array .int
  | 25 => .boolean
  | 26 => .boolean
  | 27 => .array .int
  | 28 => .array .int
  | 29 => .array .int
  | _ => .array .int
abbrev wsX100 : List Cond := u_ws RX10 TX10 31
theorem nmX10 : ∀ a, a < 31 → ∀ b, b < 31 → a ≠ b → (TX10 a).2.1 ≠ (TX10 b).2.1 := by decide +kernel
theorem tyX10_ok : ∀ k, k < 31 → parseFieldDescriptor (TX10 k).2.2.1 = some (tyX10 k) := by decide +kernel
set_option maxRecDepth 20000 in
theorem inX10 : ∀ w ∈ wsX100, w ∈ lw_tbl := by decide +kernel
abbrev cX10_init : ByteArray := prog_12_method_1_code
def yX10_init : MethodName := ⟨RX10, "<init>", "()V"⟩
abbrev cX10_copy : ByteArray := prog_12_method_2_code
def yX10_copy : MethodName := ⟨RX10, "copy", "([I[I)V"⟩
abbrev cX10_isIn : ByteArray := prog_12_method_3_code
def yX10_isIn : MethodName := ⟨RX10, "isIn", "(III)Z"⟩
abbrev cX10_power : ByteArray := prog_12_method_4_code
def yX10_power : MethodName := ⟨RX10, "power", "(I)I"⟩
abbrev cX10_degree : ByteArray := prog_12_method_5_code
def yX10_degree : MethodName := ⟨RX10, "degree", "(I)I"⟩
abbrev cX10_figure : ByteArray := prog_12_method_6_code
def yX10_figure : MethodName := ⟨RX10, "figure", "(II)I"⟩
abbrev cX10_isPoly : ByteArray := prog_12_method_7_code
def yX10_isPoly : MethodName := ⟨RX10, "isPoly", "(I)Z"⟩
abbrev cX10_sumOf : ByteArray := prog_12_method_8_code
def yX10_sumOf : MethodName := ⟨RX10, "sumOf", "(III)I"⟩
abbrev cX10_shifted : ByteArray := prog_12_method_9_code
def yX10_shifted : MethodName := ⟨RX10, "shifted", "(II)I"⟩
abbrev cX10_times : ByteArray := prog_12_method_10_code
def yX10_times : MethodName := ⟨RX10, "times", "(II)I"⟩
abbrev cX10_unit : ByteArray := prog_12_method_11_code
def yX10_unit : MethodName := ⟨RX10, "unit", "(I)I"⟩
abbrev cX10_divide : ByteArray := prog_12_method_12_code
def yX10_divide : MethodName := ⟨RX10, "divide", "(II)V"⟩
abbrev cX10_rest : ByteArray := prog_12_method_13_code
def yX10_rest : MethodName := ⟨RX10, "rest", "(II)I"⟩
abbrev cX10_by : ByteArray := prog_12_method_14_code
def yX10_by : MethodName := ⟨RX10, "by", "(II)I"⟩
abbrev cX10_monic : ByteArray := prog_12_method_15_code
def yX10_monic : MethodName := ⟨RX10, "monic", "(I)I"⟩
abbrev cX10_common : ByteArray := prog_12_method_16_code
def yX10_common : MethodName := ⟨RX10, "common", "(II)I"⟩
abbrev cX10_leastFactor : ByteArray := prog_12_method_17_code
def yX10_leastFactor : MethodName := ⟨RX10, "leastFactor", "(I)I"⟩
abbrev cX10_isPrime : ByteArray := prog_12_method_18_code
def yX10_isPrime : MethodName := ⟨RX10, "isPrime", "(I)Z"⟩
abbrev cX10_poly : ByteArray := prog_12_method_19_code
def yX10_poly : MethodName := ⟨RX10, "poly", "(III)I"⟩
abbrev cX10_makeWorld : ByteArray := prog_12_method_20_code
def yX10_makeWorld : MethodName := ⟨RX10, "makeWorld", "()V"⟩
abbrev cX10_world : ByteArray := prog_12_method_21_code
def yX10_world : MethodName := ⟨RX10, "world", "(II)I"⟩
abbrev cX10_isRest : ByteArray := prog_12_method_22_code
def yX10_isRest : MethodName := ⟨RX10, "isRest", "(I)Z"⟩
abbrev cX10_mul : ByteArray := prog_12_method_23_code
def yX10_mul : MethodName := ⟨RX10, "mul", "(II)I"⟩
abbrev cX10_minus : ByteArray := prog_12_method_24_code
def yX10_minus : MethodName := ⟨RX10, "minus", "(I)I"⟩
abbrev cX10_raise : ByteArray := prog_12_method_25_code
def yX10_raise : MethodName := ⟨RX10, "raise", "(II)I"⟩
abbrev cX10_work : ByteArray := prog_12_method_26_code
def yX10_work : MethodName := ⟨RX10, "work", "(III)I"⟩
abbrev cX10_clear : ByteArray := prog_12_method_27_code
def yX10_clear : MethodName := ⟨RX10, "clear", "(I)V"⟩
abbrev cX10_lay : ByteArray := prog_12_method_28_code
def yX10_lay : MethodName := ⟨RX10, "lay", "(II)V"⟩
abbrev cX10_degreeAt : ByteArray := prog_12_method_29_code
def yX10_degreeAt : MethodName := ⟨RX10, "degreeAt", "(I)I"⟩
abbrev cX10_multiply : ByteArray := prog_12_method_30_code
def yX10_multiply : MethodName := ⟨RX10, "multiply", "(III)Z"⟩
abbrev cX10_add : ByteArray := prog_12_method_31_code
def yX10_add : MethodName := ⟨RX10, "add", "(III)V"⟩
abbrev cX10_divideBy : ByteArray := prog_12_method_32_code
def yX10_divideBy : MethodName := ⟨RX10, "divideBy", "(III)V"⟩
abbrev cX10_sent : ByteArray := prog_12_method_33_code
def yX10_sent : MethodName := ⟨RX10, "sent", "(II)I"⟩
abbrev cX10_layModule : ByteArray := prog_12_method_34_code
def yX10_layModule : MethodName := ⟨RX10, "layModule", "(II)V"⟩
abbrev cX10_layMap : ByteArray := prog_12_method_35_code
def yX10_layMap : MethodName := ⟨RX10, "layMap", "(II)V"⟩
abbrev cX10_isModule : ByteArray := prog_12_method_36_code
def yX10_isModule : MethodName := ⟨RX10, "isModule", "(I)Z"⟩
abbrev cX10_isMap : ByteArray := prog_12_method_37_code
def yX10_isMap : MethodName := ⟨RX10, "isMap", "(I)Z"⟩
abbrev cX10_step : ByteArray := prog_12_method_38_code
def yX10_step : MethodName := ⟨RX10, "step", "(I)V"⟩
abbrev cX10_tellModule : ByteArray := prog_12_method_39_code
def yX10_tellModule : MethodName := ⟨RX10, "tellModule", "(I)I"⟩
abbrev cX10_tellMap : ByteArray := prog_12_method_40_code
def yX10_tellMap : MethodName := ⟨RX10, "tellMap", "(I)I"⟩
abbrev cX10_module : ByteArray := prog_12_method_41_code
def yX10_module : MethodName := ⟨RX10, "module", "(IIII)I"⟩
abbrev cX10_map : ByteArray := prog_12_method_42_code
def yX10_map : MethodName := ⟨RX10, "map", "(III)I"⟩
abbrev cX10_four : ByteArray := prog_12_method_43_code
def yX10_four : MethodName := ⟨RX10, "four", "(I)V"⟩
abbrev cX10_feed : ByteArray := prog_12_method_44_code
def yX10_feed : MethodName := ⟨RX10, "feed", "(IIIII)I"⟩
abbrev cX10_end : ByteArray := prog_12_method_45_code
def yX10_end : MethodName := ⟨RX10, "end", "(I)I"⟩
abbrev cX10_byteAt : ByteArray := prog_12_method_46_code
def yX10_byteAt : MethodName := ⟨RX10, "byteAt", "(I)I"⟩
abbrev cX10_isLetter : ByteArray := prog_12_method_47_code
def yX10_isLetter : MethodName := ⟨RX10, "isLetter", "(I)Z"⟩
abbrev cX10_isDigit : ByteArray := prog_12_method_48_code
def yX10_isDigit : MethodName := ⟨RX10, "isDigit", "(I)Z"⟩
abbrev cX10_nextToken : ByteArray := prog_12_method_49_code
def yX10_nextToken : MethodName := ⟨RX10, "nextToken", "()V"⟩
abbrev cX10_w3 : ByteArray := prog_12_method_50_code
def yX10_w3 : MethodName := ⟨RX10, "w3", "(III)J"⟩
abbrev cX10_emit : ByteArray := prog_12_method_51_code
def yX10_emit : MethodName := ⟨RX10, "emit", "(II)V"⟩
abbrev cX10_push : ByteArray := prog_12_method_52_code
def yX10_push : MethodName := ⟨RX10, "push", "(I)V"⟩
abbrev cX10_rank : ByteArray := prog_12_method_53_code
def yX10_rank : MethodName := ⟨RX10, "rank", "(I)I"⟩
abbrev cX10_settle : ByteArray := prog_12_method_54_code
def yX10_settle : MethodName := ⟨RX10, "settle", "(I)V"⟩
abbrev cX10_opensBy : ByteArray := prog_12_method_55_code
def yX10_opensBy : MethodName := ⟨RX10, "opensBy", "(I)I"⟩
abbrev cX10_whole : ByteArray := prog_12_method_56_code
def yX10_whole : MethodName := ⟨RX10, "whole", "()V"⟩
abbrev cX10_beginOne : ByteArray := prog_12_method_57_code
def yX10_beginOne : MethodName := ⟨RX10, "beginOne", "()I"⟩
abbrev cX10_raises : ByteArray := prog_12_method_58_code
def yX10_raises : MethodName := ⟨RX10, "raises", "()I"⟩
abbrev cX10_behindOne : ByteArray := prog_12_method_59_code
def yX10_behindOne : MethodName := ⟨RX10, "behindOne", "()Z"⟩
abbrev cX10_summed : ByteArray := prog_12_method_60_code
def yX10_summed : MethodName := ⟨RX10, "summed", "()I"⟩
abbrev cX10_clause : ByteArray := prog_12_method_61_code
def yX10_clause : MethodName := ⟨RX10, "clause", "()I"⟩
abbrev cX10_readText : ByteArray := prog_12_method_62_code
def yX10_readText : MethodName := ⟨RX10, "readText", "()I"⟩
abbrev cX10_text : ByteArray := prog_12_method_63_code
def yX10_text : MethodName := ⟨RX10, "text", "()I"⟩
abbrev cX10_fault : ByteArray := prog_12_method_64_code
def yX10_fault : MethodName := ⟨RX10, "fault", "(I)I"⟩
abbrev cX10_raiseBy : ByteArray := prog_12_method_65_code
def yX10_raiseBy : MethodName := ⟨RX10, "raiseBy", "(II)Z"⟩
abbrev cX10_works : ByteArray := prog_12_method_66_code
def yX10_works : MethodName := ⟨RX10, "works", "(II)Z"⟩
abbrev cX10_told : ByteArray := prog_12_method_67_code
def yX10_told : MethodName := ⟨RX10, "told", "(I)I"⟩
abbrev cX10_of : ByteArray := prog_12_method_68_code
def yX10_of : MethodName := ⟨RX10, "of", "(ZII)I"⟩
abbrev cX10_stepped : ByteArray := prog_12_method_69_code
def yX10_stepped : MethodName := ⟨RX10, "stepped", "(II)I"⟩
abbrev cX10_acted : ByteArray := prog_12_method_70_code
def yX10_acted : MethodName := ⟨RX10, "acted", "(III)I"⟩
abbrev cX10_act : ByteArray := prog_12_method_71_code
def yX10_act : MethodName := ⟨RX10, "act", "(III)I"⟩
abbrev cX10_layActs : ByteArray := prog_12_method_72_code
def yX10_layActs : MethodName := ⟨RX10, "layActs", "(III)Z"⟩
abbrev cX10_acts : ByteArray := prog_12_method_73_code
def yX10_acts : MethodName := ⟨RX10, "acts", "(III)I"⟩
abbrev cX10_send : ByteArray := prog_12_method_74_code
def yX10_send : MethodName := ⟨RX10, "send", "(II)I"⟩
abbrev cX10_noughts : ByteArray := prog_12_method_75_code
def yX10_noughts : MethodName := ⟨RX10, "noughts", "(III)I"⟩
abbrev cX10_characteristic : ByteArray := prog_12_method_76_code
def yX10_characteristic : MethodName := ⟨RX10, "characteristic", "(I)I"⟩
abbrev cX10_height : ByteArray := prog_12_method_77_code
def yX10_height : MethodName := ⟨RX10, "height", "(I)I"⟩
abbrev cX10_toSteps : ByteArray := prog_12_method_78_code
def yX10_toSteps : MethodName := ⟨RX10, "toSteps", "(I)V"⟩
abbrev cX10_points : ByteArray := prog_12_method_79_code
def yX10_points : MethodName := ⟨RX10, "points", "(I)I"⟩
abbrev cX10_about : ByteArray := prog_12_method_80_code
def yX10_about : MethodName := ⟨RX10, "about", "(II)I"⟩
abbrev cX10_rankOf : ByteArray := prog_12_method_81_code
def yX10_rankOf : MethodName := ⟨RX10, "rankOf", "(II)I"⟩
abbrev cX10_nought : ByteArray := prog_12_method_82_code
def yX10_nought : MethodName := ⟨RX10, "nought", "(II)I"⟩
abbrev cX10_findParts : ByteArray := prog_12_method_83_code
def yX10_findParts : MethodName := ⟨RX10, "findParts", "(I)V"⟩
abbrev cX10_parts : ByteArray := prog_12_method_84_code
def yX10_parts : MethodName := ⟨RX10, "parts", "(II)I"⟩
abbrev cX10_norm : ByteArray := prog_12_method_85_code
def yX10_norm : MethodName := ⟨RX10, "norm", "(I)I"⟩
abbrev cX10_trace : ByteArray := prog_12_method_86_code
def yX10_trace : MethodName := ⟨RX10, "trace", "(I)I"⟩
abbrev cX10_great : ByteArray := prog_12_method_87_code
def yX10_great : MethodName := ⟨RX10, "great", "(II)I"⟩
abbrev cX10_leadsTo : ByteArray := prog_12_method_88_code
def yX10_leadsTo : MethodName := ⟨RX10, "leadsTo", "(II)Z"⟩
abbrev cX10_leads : ByteArray := prog_12_method_89_code
def yX10_leads : MethodName := ⟨RX10, "leads", "(III)I"⟩
abbrev cX10_dual : ByteArray := prog_12_method_90_code
def yX10_dual : MethodName := ⟨RX10, "dual", "(III)I"⟩
abbrev cX10_made : ByteArray := prog_12_method_91_code
def yX10_made : MethodName := ⟨RX10, "made", "(II)I"⟩
abbrev cX10_ends : ByteArray := prog_12_method_92_code
def yX10_ends : MethodName := ⟨RX10, "ends", "(II)I"⟩
abbrev cX10_alike : ByteArray := prog_12_method_93_code
def yX10_alike : MethodName := ⟨RX10, "alike", "(II)I"⟩
abbrev cX10_classes : ByteArray := prog_12_method_94_code
def yX10_classes : MethodName := ⟨RX10, "classes", "(II)I"⟩
abbrev cX10_stays : ByteArray := prog_12_method_95_code
def yX10_stays : MethodName := ⟨RX10, "stays", "(II)I"⟩
abbrev cX10_greatest : ByteArray := prog_12_method_96_code
def yX10_greatest : MethodName := ⟨RX10, "greatest", "(I)I"⟩
abbrev cX10_sums : ByteArray := prog_12_method_97_code
def yX10_sums : MethodName := ⟨RX10, "sums", "(II)I"⟩
abbrev cX10_symbolOf : ByteArray := prog_12_method_98_code
def yX10_symbolOf : MethodName := ⟨RX10, "symbolOf", "(II)I"⟩
abbrev cX10_symbol : ByteArray := prog_12_method_99_code
def yX10_symbol : MethodName := ⟨RX10, "symbol", "(II)I"⟩
abbrev cX10_factors : ByteArray := prog_12_method_100_code
def yX10_factors : MethodName := ⟨RX10, "factors", "(II)I"⟩
abbrev cX10_undo : ByteArray := prog_12_method_101_code
def yX10_undo : MethodName := ⟨RX10, "undo", "()I"⟩
abbrev cX10_redo : ByteArray := prog_12_method_102_code
def yX10_redo : MethodName := ⟨RX10, "redo", "()I"⟩
abbrev cX10_image : ByteArray := prog_12_method_103_code
def yX10_image : MethodName := ⟨RX10, "image", "()I"⟩
abbrev cX10_back : ByteArray := prog_12_method_104_code
def yX10_back : MethodName := ⟨RX10, "back", "()I"⟩
abbrev cX10_count : ByteArray := prog_12_method_105_code
def yX10_count : MethodName := ⟨RX10, "count", "(I)I"⟩
abbrev vwCl : List vw_C := [(RX0, TX0, 7), (RX1, TX1, 2), (RX2, TX2, 9), (RX3, TX3, 5), (RX4, TX4, 14), (RX5, TX5, 7), (RX6, TX6, 9), (RX7, TX7, 5), (RX8, TX8, 2), (RX9, TX9, 16), (RX10, TX10, 31)]
end
