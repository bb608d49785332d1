-- ===== PART A: goes FIRST, ahead of the names: the tables' words, and 'selects' of the private methods out of them =====
/-- a private method of a class that the tables say can be made, by its rows of tables_1 -/
def lw_okq (q : MethodName × Nat) : Prop := (q.1.cls ≠ "java/lang/invoke/MethodHandle" ∧ q.1.cls ≠ "java/lang/invoke/VarHandle") ∧ Cond.instantiable q.1.cls q.2 ∈ tables_1 ∧ Cond.privateMethod q.1 ∈ tables_1 ∧ Cond.instanceMethod q.1 ∈ tables_1
theorem lw_p0 : lw_okq (⟨"PaidByTheUnborn", "refused", "(I)I"⟩, 13) := ⟨⟨by decide +kernel, by decide +kernel⟩, List.mem_of_getElem? (i := 16) (by decide +kernel), List.mem_of_getElem? (i := 196) (by decide +kernel), List.mem_of_getElem? (i := 197) (by decide +kernel)⟩
theorem lw_p1 : lw_okq (⟨"PaidByTheUnborn$Text", "placeBehind", "(I)I"⟩, 2) := ⟨⟨by decide +kernel, by decide +kernel⟩, List.mem_of_getElem? (i := 129) (by decide +kernel), List.mem_of_getElem? (i := 232) (by decide +kernel), List.mem_of_getElem? (i := 233) (by decide +kernel)⟩
theorem lw_p2 : lw_okq (⟨"PaidByTheUnborn$Text", "letterAt", "(I)I"⟩, 2) := ⟨⟨by decide +kernel, by decide +kernel⟩, List.mem_of_getElem? (i := 129) (by decide +kernel), List.mem_of_getElem? (i := 236) (by decide +kernel), List.mem_of_getElem? (i := 237) (by decide +kernel)⟩
theorem lw_p3 : lw_okq (⟨"PaidByTheUnborn$Text", "number", "(II)I"⟩, 2) := ⟨⟨by decide +kernel, by decide +kernel⟩, List.mem_of_getElem? (i := 129) (by decide +kernel), List.mem_of_getElem? (i := 250) (by decide +kernel), List.mem_of_getElem? (i := 251) (by decide +kernel)⟩
theorem lw_p4 : lw_okq (⟨"PaidByTheUnborn$Ledger", "shareLeftOver", "(II)V"⟩, 10) := ⟨⟨by decide +kernel, by decide +kernel⟩, List.mem_of_getElem? (i := 24) (by decide +kernel), List.mem_of_getElem? (i := 395) (by decide +kernel), List.mem_of_getElem? (i := 396) (by decide +kernel)⟩
theorem lw_p5 : lw_okq (⟨"PaidByTheUnborn", "withoutPast", "(I)I"⟩, 13) := ⟨⟨by decide +kernel, by decide +kernel⟩, List.mem_of_getElem? (i := 16) (by decide +kernel), List.mem_of_getElem? (i := 555) (by decide +kernel), List.mem_of_getElem? (i := 556) (by decide +kernel)⟩
theorem lw_p6 : lw_okq (⟨"PaidByTheUnborn", "withPast", "(I)I"⟩, 13) := ⟨⟨by decide +kernel, by decide +kernel⟩, List.mem_of_getElem? (i := 16) (by decide +kernel), List.mem_of_getElem? (i := 569) (by decide +kernel), List.mem_of_getElem? (i := 570) (by decide +kernel)⟩
theorem lw_p7 : lw_okq (⟨"PaidByTheUnborn$Past", "kept", "(I)LPaidByTheUnborn$Ledger;"⟩, 3) := ⟨⟨by decide +kernel, by decide +kernel⟩, List.mem_of_getElem? (i := 109) (by decide +kernel), List.mem_of_getElem? (i := 577) (by decide +kernel), List.mem_of_getElem? (i := 578) (by decide +kernel)⟩
theorem lw_p8 : lw_okq (⟨"PaidByTheUnborn", "noFamilyAhead", "(II)I"⟩, 13) := ⟨⟨by decide +kernel, by decide +kernel⟩, List.mem_of_getElem? (i := 16) (by decide +kernel), List.mem_of_getElem? (i := 604) (by decide +kernel), List.mem_of_getElem? (i := 605) (by decide +kernel)⟩
theorem lw_p9 : lw_okq (⟨"PaidByTheUnborn", "ahead", "(II)V"⟩, 13) := ⟨⟨by decide +kernel, by decide +kernel⟩, List.mem_of_getElem? (i := 16) (by decide +kernel), List.mem_of_getElem? (i := 611) (by decide +kernel), List.mem_of_getElem? (i := 612) (by decide +kernel)⟩
theorem lw_p10 : lw_okq (⟨"PaidByTheUnborn", "freeBehind", "(II)I"⟩, 13) := ⟨⟨by decide +kernel, by decide +kernel⟩, List.mem_of_getElem? (i := 16) (by decide +kernel), List.mem_of_getElem? (i := 633) (by decide +kernel), List.mem_of_getElem? (i := 634) (by decide +kernel)⟩
theorem lw_p11 : lw_okq (⟨"PaidByTheUnborn", "firstFree", "()I"⟩, 13) := ⟨⟨by decide +kernel, by decide +kernel⟩, List.mem_of_getElem? (i := 16) (by decide +kernel), List.mem_of_getElem? (i := 643) (by decide +kernel), List.mem_of_getElem? (i := 644) (by decide +kernel)⟩
theorem lw_p12 : lw_okq (⟨"PaidByTheUnborn", "growing", "()I"⟩, 13) := ⟨⟨by decide +kernel, by decide +kernel⟩, List.mem_of_getElem? (i := 16) (by decide +kernel), List.mem_of_getElem? (i := 647) (by decide +kernel), List.mem_of_getElem? (i := 648) (by decide +kernel)⟩
theorem lw_p13 : lw_okq (⟨"PaidByTheUnborn", "firstStuck", "()I"⟩, 13) := ⟨⟨by decide +kernel, by decide +kernel⟩, List.mem_of_getElem? (i := 16) (by decide +kernel), List.mem_of_getElem? (i := 651) (by decide +kernel), List.mem_of_getElem? (i := 652) (by decide +kernel)⟩
theorem lw_p14 : lw_okq (⟨"PaidByTheUnborn", "highestRate", "(II)I"⟩, 13) := ⟨⟨by decide +kernel, by decide +kernel⟩, List.mem_of_getElem? (i := 16) (by decide +kernel), List.mem_of_getElem? (i := 667) (by decide +kernel), List.mem_of_getElem? (i := 668) (by decide +kernel)⟩
theorem lw_p15 : lw_okq (⟨"PaidByTheUnborn", "leastPay", "(II)I"⟩, 13) := ⟨⟨by decide +kernel, by decide +kernel⟩, List.mem_of_getElem? (i := 16) (by decide +kernel), List.mem_of_getElem? (i := 671) (by decide +kernel), List.mem_of_getElem? (i := 672) (by decide +kernel)⟩
def lw_privs_1 : List (MethodName × Nat) := [(⟨"PaidByTheUnborn", "refused", "(I)I"⟩, 13), (⟨"PaidByTheUnborn$Text", "placeBehind", "(I)I"⟩, 2), (⟨"PaidByTheUnborn$Text", "letterAt", "(I)I"⟩, 2), (⟨"PaidByTheUnborn$Text", "number", "(II)I"⟩, 2), (⟨"PaidByTheUnborn$Ledger", "shareLeftOver", "(II)V"⟩, 10), (⟨"PaidByTheUnborn", "withoutPast", "(I)I"⟩, 13), (⟨"PaidByTheUnborn", "withPast", "(I)I"⟩, 13), (⟨"PaidByTheUnborn$Past", "kept", "(I)LPaidByTheUnborn$Ledger;"⟩, 3), (⟨"PaidByTheUnborn", "noFamilyAhead", "(II)I"⟩, 13), (⟨"PaidByTheUnborn", "ahead", "(II)V"⟩, 13), (⟨"PaidByTheUnborn", "freeBehind", "(II)I"⟩, 13), (⟨"PaidByTheUnborn", "firstFree", "()I"⟩, 13), (⟨"PaidByTheUnborn", "growing", "()I"⟩, 13), (⟨"PaidByTheUnborn", "firstStuck", "()I"⟩, 13), (⟨"PaidByTheUnborn", "highestRate", "(II)I"⟩, 13), (⟨"PaidByTheUnborn", "leastPay", "(II)I"⟩, 13)]
theorem lw_r1 : ∀ q ∈ lw_privs_1, lw_okq q := List.forall_mem_cons.mpr ⟨lw_p0, List.forall_mem_cons.mpr ⟨lw_p1, List.forall_mem_cons.mpr ⟨lw_p2, List.forall_mem_cons.mpr ⟨lw_p3, List.forall_mem_cons.mpr ⟨lw_p4, List.forall_mem_cons.mpr ⟨lw_p5, List.forall_mem_cons.mpr ⟨lw_p6, List.forall_mem_cons.mpr ⟨lw_p7, List.forall_mem_cons.mpr ⟨lw_p8, List.forall_mem_cons.mpr ⟨lw_p9, List.forall_mem_cons.mpr ⟨lw_p10, List.forall_mem_cons.mpr ⟨lw_p11, List.forall_mem_cons.mpr ⟨lw_p12, List.forall_mem_cons.mpr ⟨lw_p13, List.forall_mem_cons.mpr ⟨lw_p14, List.forall_mem_cons.mpr ⟨lw_p15, fun _ h => absurd h List.not_mem_nil⟩⟩⟩⟩⟩⟩⟩⟩⟩⟩⟩⟩⟩⟩⟩⟩
theorem lw_p16 : lw_okq (⟨"PaidByTheUnborn", "isBearable", "(III)Z"⟩, 13) := ⟨⟨by decide +kernel, by decide +kernel⟩, List.mem_of_getElem? (i := 16) (by decide +kernel), List.mem_of_getElem? (i := 690) (by decide +kernel), List.mem_of_getElem? (i := 691) (by decide +kernel)⟩
theorem lw_p17 : lw_okq (⟨"PaidByTheUnborn", "noTwoAhead", "(III)I"⟩, 13) := ⟨⟨by decide +kernel, by decide +kernel⟩, List.mem_of_getElem? (i := 16) (by decide +kernel), List.mem_of_getElem? (i := 729) (by decide +kernel), List.mem_of_getElem? (i := 730) (by decide +kernel)⟩
theorem lw_p18 : lw_okq (⟨"PaidByTheUnborn", "mergedHeadOwes", "(III)I"⟩, 13) := ⟨⟨by decide +kernel, by decide +kernel⟩, List.mem_of_getElem? (i := 16) (by decide +kernel), List.mem_of_getElem? (i := 737) (by decide +kernel), List.mem_of_getElem? (i := 738) (by decide +kernel)⟩
theorem lw_p19 : lw_okq (⟨"PaidByTheUnborn", "headOwesBehind", "(II)I"⟩, 13) := ⟨⟨by decide +kernel, by decide +kernel⟩, List.mem_of_getElem? (i := 16) (by decide +kernel), List.mem_of_getElem? (i := 747) (by decide +kernel), List.mem_of_getElem? (i := 748) (by decide +kernel)⟩
theorem lw_p20 : lw_okq (⟨"PaidByTheUnborn", "cheapestFamily", "()I"⟩, 13) := ⟨⟨by decide +kernel, by decide +kernel⟩, List.mem_of_getElem? (i := 16) (by decide +kernel), List.mem_of_getElem? (i := 766) (by decide +kernel), List.mem_of_getElem? (i := 767) (by decide +kernel)⟩
theorem lw_p21 : lw_okq (⟨"PaidByTheUnborn", "bornFree", "(I)I"⟩, 13) := ⟨⟨by decide +kernel, by decide +kernel⟩, List.mem_of_getElem? (i := 16) (by decide +kernel), List.mem_of_getElem? (i := 774) (by decide +kernel), List.mem_of_getElem? (i := 775) (by decide +kernel)⟩
theorem lw_p22 : lw_okq (⟨"PaidByTheUnborn", "signedPay", "(II)I"⟩, 13) := ⟨⟨by decide +kernel, by decide +kernel⟩, List.mem_of_getElem? (i := 16) (by decide +kernel), List.mem_of_getElem? (i := 782) (by decide +kernel), List.mem_of_getElem? (i := 783) (by decide +kernel)⟩
theorem lw_p23 : lw_okq (⟨"PaidByTheUnborn", "costOfPaying", "(III)I"⟩, 13) := ⟨⟨by decide +kernel, by decide +kernel⟩, List.mem_of_getElem? (i := 16) (by decide +kernel), List.mem_of_getElem? (i := 786) (by decide +kernel), List.mem_of_getElem? (i := 787) (by decide +kernel)⟩
theorem lw_p24 : lw_okq (⟨"PaidByTheUnborn", "isToldBy", "(I)Z"⟩, 13) := ⟨⟨by decide +kernel, by decide +kernel⟩, List.mem_of_getElem? (i := 16) (by decide +kernel), List.mem_of_getElem? (i := 801) (by decide +kernel), List.mem_of_getElem? (i := 802) (by decide +kernel)⟩
theorem lw_p25 : lw_okq (⟨"PaidByTheUnborn", "isTold", "(II)Z"⟩, 13) := ⟨⟨by decide +kernel, by decide +kernel⟩, List.mem_of_getElem? (i := 16) (by decide +kernel), List.mem_of_getElem? (i := 805) (by decide +kernel), List.mem_of_getElem? (i := 806) (by decide +kernel)⟩
theorem lw_p26 : lw_okq (⟨"PaidByTheUnborn", "bearByChance", "(III)V"⟩, 13) := ⟨⟨by decide +kernel, by decide +kernel⟩, List.mem_of_getElem? (i := 16) (by decide +kernel), List.mem_of_getElem? (i := 816) (by decide +kernel), List.mem_of_getElem? (i := 817) (by decide +kernel)⟩
theorem lw_p27 : lw_okq (⟨"PaidByTheUnborn", "arrange", "(II)V"⟩, 13) := ⟨⟨by decide +kernel, by decide +kernel⟩, List.mem_of_getElem? (i := 16) (by decide +kernel), List.mem_of_getElem? (i := 842) (by decide +kernel), List.mem_of_getElem? (i := 843) (by decide +kernel)⟩
theorem lw_p28 : lw_okq (⟨"PaidByTheUnborn", "debtsAsTried", "(I)I"⟩, 13) := ⟨⟨by decide +kernel, by decide +kernel⟩, List.mem_of_getElem? (i := 16) (by decide +kernel), List.mem_of_getElem? (i := 850) (by decide +kernel), List.mem_of_getElem? (i := 851) (by decide +kernel)⟩
theorem lw_p29 : lw_okq (⟨"PaidByTheUnborn", "ranked", "(I)I"⟩, 13) := ⟨⟨by decide +kernel, by decide +kernel⟩, List.mem_of_getElem? (i := 16) (by decide +kernel), List.mem_of_getElem? (i := 866) (by decide +kernel), List.mem_of_getElem? (i := 867) (by decide +kernel)⟩
theorem lw_p30 : lw_okq (⟨"PaidByTheUnborn", "ranksAbove", "(I)I"⟩, 13) := ⟨⟨by decide +kernel, by decide +kernel⟩, List.mem_of_getElem? (i := 16) (by decide +kernel), List.mem_of_getElem? (i := 870) (by decide +kernel), List.mem_of_getElem? (i := 871) (by decide +kernel)⟩
theorem lw_p31 : lw_okq (⟨"PaidByTheUnbornModel", "refuse", "(I)I"⟩, 40) := ⟨⟨by decide +kernel, by decide +kernel⟩, List.mem_of_getElem? (i := 959) (by decide +kernel), List.mem_of_getElem? (i := 1090) (by decide +kernel), List.mem_of_getElem? (i := 1091) (by decide +kernel)⟩
def lw_privs_2 : List (MethodName × Nat) := [(⟨"PaidByTheUnborn", "isBearable", "(III)Z"⟩, 13), (⟨"PaidByTheUnborn", "noTwoAhead", "(III)I"⟩, 13), (⟨"PaidByTheUnborn", "mergedHeadOwes", "(III)I"⟩, 13), (⟨"PaidByTheUnborn", "headOwesBehind", "(II)I"⟩, 13), (⟨"PaidByTheUnborn", "cheapestFamily", "()I"⟩, 13), (⟨"PaidByTheUnborn", "bornFree", "(I)I"⟩, 13), (⟨"PaidByTheUnborn", "signedPay", "(II)I"⟩, 13), (⟨"PaidByTheUnborn", "costOfPaying", "(III)I"⟩, 13), (⟨"PaidByTheUnborn", "isToldBy", "(I)Z"⟩, 13), (⟨"PaidByTheUnborn", "isTold", "(II)Z"⟩, 13), (⟨"PaidByTheUnborn", "bearByChance", "(III)V"⟩, 13), (⟨"PaidByTheUnborn", "arrange", "(II)V"⟩, 13), (⟨"PaidByTheUnborn", "debtsAsTried", "(I)I"⟩, 13), (⟨"PaidByTheUnborn", "ranked", "(I)I"⟩, 13), (⟨"PaidByTheUnborn", "ranksAbove", "(I)I"⟩, 13), (⟨"PaidByTheUnbornModel", "refuse", "(I)I"⟩, 40)]
theorem lw_r2 : ∀ q ∈ lw_privs_2, lw_okq q := List.forall_mem_cons.mpr ⟨lw_p16, List.forall_mem_cons.mpr ⟨lw_p17, List.forall_mem_cons.mpr ⟨lw_p18, List.forall_mem_cons.mpr ⟨lw_p19, List.forall_mem_cons.mpr ⟨lw_p20, List.forall_mem_cons.mpr ⟨lw_p21, List.forall_mem_cons.mpr ⟨lw_p22, List.forall_mem_cons.mpr ⟨lw_p23, List.forall_mem_cons.mpr ⟨lw_p24, List.forall_mem_cons.mpr ⟨lw_p25, List.forall_mem_cons.mpr ⟨lw_p26, List.forall_mem_cons.mpr ⟨lw_p27, List.forall_mem_cons.mpr ⟨lw_p28, List.forall_mem_cons.mpr ⟨lw_p29, List.forall_mem_cons.mpr ⟨lw_p30, List.forall_mem_cons.mpr ⟨lw_p31, fun _ h => absurd h List.not_mem_nil⟩⟩⟩⟩⟩⟩⟩⟩⟩⟩⟩⟩⟩⟩⟩⟩
theorem lw_p32 : lw_okq (⟨"PaidByTheUnbornModel", "readStatement", "()V"⟩, 40) := ⟨⟨by decide +kernel, by decide +kernel⟩, List.mem_of_getElem? (i := 959) (by decide +kernel), List.mem_of_getElem? (i := 1098) (by decide +kernel), List.mem_of_getElem? (i := 1099) (by decide +kernel)⟩
theorem lw_p33 : lw_okq (⟨"PaidByTheUnbornModel", "here", "()I"⟩, 40) := ⟨⟨by decide +kernel, by decide +kernel⟩, List.mem_of_getElem? (i := 959) (by decide +kernel), List.mem_of_getElem? (i := 1102) (by decide +kernel), List.mem_of_getElem? (i := 1103) (by decide +kernel)⟩
theorem lw_p34 : lw_okq (⟨"PaidByTheUnbornModel", "readNumbers", "(II)V"⟩, 40) := ⟨⟨by decide +kernel, by decide +kernel⟩, List.mem_of_getElem? (i := 959) (by decide +kernel), List.mem_of_getElem? (i := 1109) (by decide +kernel), List.mem_of_getElem? (i := 1110) (by decide +kernel)⟩
theorem lw_p35 : lw_okq (⟨"PaidByTheUnbornModel", "readDigits", "(I)I"⟩, 40) := ⟨⟨by decide +kernel, by decide +kernel⟩, List.mem_of_getElem? (i := 959) (by decide +kernel), List.mem_of_getElem? (i := 1113) (by decide +kernel), List.mem_of_getElem? (i := 1114) (by decide +kernel)⟩
theorem lw_p36 : lw_okq (⟨"PaidByTheUnbornModel", "think", "()V"⟩, 40) := ⟨⟨by decide +kernel, by decide +kernel⟩, List.mem_of_getElem? (i := 959) (by decide +kernel), List.mem_of_getElem? (i := 1122) (by decide +kernel), List.mem_of_getElem? (i := 1123) (by decide +kernel)⟩
theorem lw_p37 : lw_okq (⟨"PaidByTheUnbornModel", "carryAll", "([IZ)V"⟩, 40) := ⟨⟨by decide +kernel, by decide +kernel⟩, List.mem_of_getElem? (i := 959) (by decide +kernel), List.mem_of_getElem? (i := 1126) (by decide +kernel), List.mem_of_getElem? (i := 1127) (by decide +kernel)⟩
theorem lw_p38 : lw_okq (⟨"PaidByTheUnbornModel", "carry", "(I)I"⟩, 40) := ⟨⟨by decide +kernel, by decide +kernel⟩, List.mem_of_getElem? (i := 959) (by decide +kernel), List.mem_of_getElem? (i := 1130) (by decide +kernel), List.mem_of_getElem? (i := 1131) (by decide +kernel)⟩
theorem lw_p39 : lw_okq (⟨"PaidByTheUnbornModel", "comesTold", "(I)Z"⟩, 40) := ⟨⟨by decide +kernel, by decide +kernel⟩, List.mem_of_getElem? (i := 959) (by decide +kernel), List.mem_of_getElem? (i := 1134) (by decide +kernel), List.mem_of_getElem? (i := 1135) (by decide +kernel)⟩
theorem lw_p40 : lw_okq (⟨"PaidByTheUnbornModel", "familyComes", "(III)V"⟩, 40) := ⟨⟨by decide +kernel, by decide +kernel⟩, List.mem_of_getElem? (i := 959) (by decide +kernel), List.mem_of_getElem? (i := 1139) (by decide +kernel), List.mem_of_getElem? (i := 1140) (by decide +kernel)⟩
theorem lw_p41 : lw_okq (⟨"PaidByTheUnbornModel", "workComes", "(III)V"⟩, 40) := ⟨⟨by decide +kernel, by decide +kernel⟩, List.mem_of_getElem? (i := 959) (by decide +kernel), List.mem_of_getElem? (i := 1143) (by decide +kernel), List.mem_of_getElem? (i := 1144) (by decide +kernel)⟩
theorem lw_p42 : lw_okq (⟨"PaidByTheUnbornModel", "isWork", "(I)Z"⟩, 40) := ⟨⟨by decide +kernel, by decide +kernel⟩, List.mem_of_getElem? (i := 959) (by decide +kernel), List.mem_of_getElem? (i := 1147) (by decide +kernel), List.mem_of_getElem? (i := 1148) (by decide +kernel)⟩
theorem lw_p43 : lw_okq (⟨"PaidByTheUnbornModel", "build", "(I)V"⟩, 40) := ⟨⟨by decide +kernel, by decide +kernel⟩, List.mem_of_getElem? (i := 959) (by decide +kernel), List.mem_of_getElem? (i := 1151) (by decide +kernel), List.mem_of_getElem? (i := 1152) (by decide +kernel)⟩
theorem lw_p44 : lw_okq (⟨"PaidByTheUnbornModel", "layShares", "(I)V"⟩, 40) := ⟨⟨by decide +kernel, by decide +kernel⟩, List.mem_of_getElem? (i := 959) (by decide +kernel), List.mem_of_getElem? (i := 1155) (by decide +kernel), List.mem_of_getElem? (i := 1156) (by decide +kernel)⟩
theorem lw_p45 : lw_okq (⟨"PaidByTheUnbornModel", "layParts", "(I)V"⟩, 40) := ⟨⟨by decide +kernel, by decide +kernel⟩, List.mem_of_getElem? (i := 959) (by decide +kernel), List.mem_of_getElem? (i := 1159) (by decide +kernel), List.mem_of_getElem? (i := 1160) (by decide +kernel)⟩
theorem lw_p46 : lw_okq (⟨"PaidByTheUnbornModel", "mostHeads", "()I"⟩, 40) := ⟨⟨by decide +kernel, by decide +kernel⟩, List.mem_of_getElem? (i := 959) (by decide +kernel), List.mem_of_getElem? (i := 1163) (by decide +kernel), List.mem_of_getElem? (i := 1164) (by decide +kernel)⟩
theorem lw_p47 : lw_okq (⟨"PaidByTheUnbornModel", "leastDebt", "()I"⟩, 40) := ⟨⟨by decide +kernel, by decide +kernel⟩, List.mem_of_getElem? (i := 959) (by decide +kernel), List.mem_of_getElem? (i := 1167) (by decide +kernel), List.mem_of_getElem? (i := 1168) (by decide +kernel)⟩
def lw_privs_3 : List (MethodName × Nat) := [(⟨"PaidByTheUnbornModel", "readStatement", "()V"⟩, 40), (⟨"PaidByTheUnbornModel", "here", "()I"⟩, 40), (⟨"PaidByTheUnbornModel", "readNumbers", "(II)V"⟩, 40), (⟨"PaidByTheUnbornModel", "readDigits", "(I)I"⟩, 40), (⟨"PaidByTheUnbornModel", "think", "()V"⟩, 40), (⟨"PaidByTheUnbornModel", "carryAll", "([IZ)V"⟩, 40), (⟨"PaidByTheUnbornModel", "carry", "(I)I"⟩, 40), (⟨"PaidByTheUnbornModel", "comesTold", "(I)Z"⟩, 40), (⟨"PaidByTheUnbornModel", "familyComes", "(III)V"⟩, 40), (⟨"PaidByTheUnbornModel", "workComes", "(III)V"⟩, 40), (⟨"PaidByTheUnbornModel", "isWork", "(I)Z"⟩, 40), (⟨"PaidByTheUnbornModel", "build", "(I)V"⟩, 40), (⟨"PaidByTheUnbornModel", "layShares", "(I)V"⟩, 40), (⟨"PaidByTheUnbornModel", "layParts", "(I)V"⟩, 40), (⟨"PaidByTheUnbornModel", "mostHeads", "()I"⟩, 40), (⟨"PaidByTheUnbornModel", "leastDebt", "()I"⟩, 40)]
theorem lw_r3 : ∀ q ∈ lw_privs_3, lw_okq q := List.forall_mem_cons.mpr ⟨lw_p32, List.forall_mem_cons.mpr ⟨lw_p33, List.forall_mem_cons.mpr ⟨lw_p34, List.forall_mem_cons.mpr ⟨lw_p35, List.forall_mem_cons.mpr ⟨lw_p36, List.forall_mem_cons.mpr ⟨lw_p37, List.forall_mem_cons.mpr ⟨lw_p38, List.forall_mem_cons.mpr ⟨lw_p39, List.forall_mem_cons.mpr ⟨lw_p40, List.forall_mem_cons.mpr ⟨lw_p41, List.forall_mem_cons.mpr ⟨lw_p42, List.forall_mem_cons.mpr ⟨lw_p43, List.forall_mem_cons.mpr ⟨lw_p44, List.forall_mem_cons.mpr ⟨lw_p45, List.forall_mem_cons.mpr ⟨lw_p46, List.forall_mem_cons.mpr ⟨lw_p47, fun _ h => absurd h List.not_mem_nil⟩⟩⟩⟩⟩⟩⟩⟩⟩⟩⟩⟩⟩⟩⟩⟩
theorem lw_p48 : lw_okq (⟨"PaidByTheUnbornModel", "dueOf", "(I)I"⟩, 40) := ⟨⟨by decide +kernel, by decide +kernel⟩, List.mem_of_getElem? (i := 959) (by decide +kernel), List.mem_of_getElem? (i := 1171) (by decide +kernel), List.mem_of_getElem? (i := 1172) (by decide +kernel)⟩
theorem lw_p49 : lw_okq (⟨"PaidByTheUnbornModel", "lastBuilt", "()I"⟩, 40) := ⟨⟨by decide +kernel, by decide +kernel⟩, List.mem_of_getElem? (i := 959) (by decide +kernel), List.mem_of_getElem? (i := 1179) (by decide +kernel), List.mem_of_getElem? (i := 1180) (by decide +kernel)⟩
theorem lw_p50 : lw_okq (⟨"PaidByTheUnbornModel", "goYears", "(I)V"⟩, 40) := ⟨⟨by decide +kernel, by decide +kernel⟩, List.mem_of_getElem? (i := 959) (by decide +kernel), List.mem_of_getElem? (i := 1184) (by decide +kernel), List.mem_of_getElem? (i := 1185) (by decide +kernel)⟩
theorem lw_p51 : lw_okq (⟨"PaidByTheUnbornModel", "yearOn", "()V"⟩, 40) := ⟨⟨by decide +kernel, by decide +kernel⟩, List.mem_of_getElem? (i := 959) (by decide +kernel), List.mem_of_getElem? (i := 1188) (by decide +kernel), List.mem_of_getElem? (i := 1189) (by decide +kernel)⟩
theorem lw_p52 : lw_okq (⟨"PaidByTheUnbornModel", "owes", "(I)V"⟩, 40) := ⟨⟨by decide +kernel, by decide +kernel⟩, List.mem_of_getElem? (i := 959) (by decide +kernel), List.mem_of_getElem? (i := 1192) (by decide +kernel), List.mem_of_getElem? (i := 1193) (by decide +kernel)⟩
theorem lw_p53 : lw_okq (⟨"PaidByTheUnbornModel", "isFamily", "(I)Z"⟩, 40) := ⟨⟨by decide +kernel, by decide +kernel⟩, List.mem_of_getElem? (i := 959) (by decide +kernel), List.mem_of_getElem? (i := 1196) (by decide +kernel), List.mem_of_getElem? (i := 1197) (by decide +kernel)⟩
theorem lw_p54 : lw_okq (⟨"PaidByTheUnbornModel", "again", "()V"⟩, 40) := ⟨⟨by decide +kernel, by decide +kernel⟩, List.mem_of_getElem? (i := 959) (by decide +kernel), List.mem_of_getElem? (i := 1200) (by decide +kernel), List.mem_of_getElem? (i := 1201) (by decide +kernel)⟩
theorem lw_p55 : lw_okq (⟨"PaidByTheUnbornModel", "headOwes", "(I)I"⟩, 40) := ⟨⟨by decide +kernel, by decide +kernel⟩, List.mem_of_getElem? (i := 959) (by decide +kernel), List.mem_of_getElem? (i := 1221) (by decide +kernel), List.mem_of_getElem? (i := 1222) (by decide +kernel)⟩
theorem lw_p56 : lw_okq (⟨"PaidByTheUnbornModel", "keepTurn", "()V"⟩, 40) := ⟨⟨by decide +kernel, by decide +kernel⟩, List.mem_of_getElem? (i := 959) (by decide +kernel), List.mem_of_getElem? (i := 1242) (by decide +kernel), List.mem_of_getElem? (i := 1243) (by decide +kernel)⟩
theorem lw_p57 : lw_okq (⟨"PaidByTheUnbornModel", "allDebts", "()I"⟩, 40) := ⟨⟨by decide +kernel, by decide +kernel⟩, List.mem_of_getElem? (i := 959) (by decide +kernel), List.mem_of_getElem? (i := 1246) (by decide +kernel), List.mem_of_getElem? (i := 1247) (by decide +kernel)⟩
theorem lw_p58 : lw_okq (⟨"PaidByTheUnbornModel", "allIn", "(I)I"⟩, 40) := ⟨⟨by decide +kernel, by decide +kernel⟩, List.mem_of_getElem? (i := 959) (by decide +kernel), List.mem_of_getElem? (i := 1276) (by decide +kernel), List.mem_of_getElem? (i := 1277) (by decide +kernel)⟩
theorem lw_p59 : lw_okq (⟨"PaidByTheUnbornModel", "solventIn", "(I)I"⟩, 40) := ⟨⟨by decide +kernel, by decide +kernel⟩, List.mem_of_getElem? (i := 959) (by decide +kernel), List.mem_of_getElem? (i := 1284) (by decide +kernel), List.mem_of_getElem? (i := 1285) (by decide +kernel)⟩
theorem lw_p60 : lw_okq (⟨"PaidByTheUnbornModel", "growBits", "()I"⟩, 40) := ⟨⟨by decide +kernel, by decide +kernel⟩, List.mem_of_getElem? (i := 959) (by decide +kernel), List.mem_of_getElem? (i := 1293) (by decide +kernel), List.mem_of_getElem? (i := 1294) (by decide +kernel)⟩
theorem lw_p61 : lw_okq (⟨"PaidByTheUnbornModel", "stuckIn", "()I"⟩, 40) := ⟨⟨by decide +kernel, by decide +kernel⟩, List.mem_of_getElem? (i := 959) (by decide +kernel), List.mem_of_getElem? (i := 1297) (by decide +kernel), List.mem_of_getElem? (i := 1298) (by decide +kernel)⟩
theorem lw_p62 : lw_okq (⟨"PaidByTheUnbornModel", "builtBits", "()I"⟩, 40) := ⟨⟨by decide +kernel, by decide +kernel⟩, List.mem_of_getElem? (i := 959) (by decide +kernel), List.mem_of_getElem? (i := 1309) (by decide +kernel), List.mem_of_getElem? (i := 1310) (by decide +kernel)⟩
theorem lw_p63 : lw_okq (⟨"PaidByTheUnbornModel", "buildAll", "(I)V"⟩, 40) := ⟨⟨by decide +kernel, by decide +kernel⟩, List.mem_of_getElem? (i := 959) (by decide +kernel), List.mem_of_getElem? (i := 1316) (by decide +kernel), List.mem_of_getElem? (i := 1317) (by decide +kernel)⟩
def lw_privs_4 : List (MethodName × Nat) := [(⟨"PaidByTheUnbornModel", "dueOf", "(I)I"⟩, 40), (⟨"PaidByTheUnbornModel", "lastBuilt", "()I"⟩, 40), (⟨"PaidByTheUnbornModel", "goYears", "(I)V"⟩, 40), (⟨"PaidByTheUnbornModel", "yearOn", "()V"⟩, 40), (⟨"PaidByTheUnbornModel", "owes", "(I)V"⟩, 40), (⟨"PaidByTheUnbornModel", "isFamily", "(I)Z"⟩, 40), (⟨"PaidByTheUnbornModel", "again", "()V"⟩, 40), (⟨"PaidByTheUnbornModel", "headOwes", "(I)I"⟩, 40), (⟨"PaidByTheUnbornModel", "keepTurn", "()V"⟩, 40), (⟨"PaidByTheUnbornModel", "allDebts", "()I"⟩, 40), (⟨"PaidByTheUnbornModel", "allIn", "(I)I"⟩, 40), (⟨"PaidByTheUnbornModel", "solventIn", "(I)I"⟩, 40), (⟨"PaidByTheUnbornModel", "growBits", "()I"⟩, 40), (⟨"PaidByTheUnbornModel", "stuckIn", "()I"⟩, 40), (⟨"PaidByTheUnbornModel", "builtBits", "()I"⟩, 40), (⟨"PaidByTheUnbornModel", "buildAll", "(I)V"⟩, 40)]
theorem lw_r4 : ∀ q ∈ lw_privs_4, lw_okq q := List.forall_mem_cons.mpr ⟨lw_p48, List.forall_mem_cons.mpr ⟨lw_p49, List.forall_mem_cons.mpr ⟨lw_p50, List.forall_mem_cons.mpr ⟨lw_p51, List.forall_mem_cons.mpr ⟨lw_p52, List.forall_mem_cons.mpr ⟨lw_p53, List.forall_mem_cons.mpr ⟨lw_p54, List.forall_mem_cons.mpr ⟨lw_p55, List.forall_mem_cons.mpr ⟨lw_p56, List.forall_mem_cons.mpr ⟨lw_p57, List.forall_mem_cons.mpr ⟨lw_p58, List.forall_mem_cons.mpr ⟨lw_p59, List.forall_mem_cons.mpr ⟨lw_p60, List.forall_mem_cons.mpr ⟨lw_p61, List.forall_mem_cons.mpr ⟨lw_p62, List.forall_mem_cons.mpr ⟨lw_p63, fun _ h => absurd h List.not_mem_nil⟩⟩⟩⟩⟩⟩⟩⟩⟩⟩⟩⟩⟩⟩⟩⟩
theorem lw_p64 : lw_okq (⟨"PaidByTheUnbornModel", "noneOwes", "(I)Z"⟩, 40) := ⟨⟨by decide +kernel, by decide +kernel⟩, List.mem_of_getElem? (i := 959) (by decide +kernel), List.mem_of_getElem? (i := 1320) (by decide +kernel), List.mem_of_getElem? (i := 1321) (by decide +kernel)⟩
theorem lw_p65 : lw_okq (⟨"PaidByTheUnbornModel", "mergedIn", "(III)I"⟩, 40) := ⟨⟨by decide +kernel, by decide +kernel⟩, List.mem_of_getElem? (i := 959) (by decide +kernel), List.mem_of_getElem? (i := 1341) (by decide +kernel), List.mem_of_getElem? (i := 1342) (by decide +kernel)⟩
theorem lw_p66 : lw_okq (⟨"PaidByTheUnbornModel", "headIn", "(II)I"⟩, 40) := ⟨⟨by decide +kernel, by decide +kernel⟩, List.mem_of_getElem? (i := 959) (by decide +kernel), List.mem_of_getElem? (i := 1349) (by decide +kernel), List.mem_of_getElem? (i := 1350) (by decide +kernel)⟩
theorem lw_p67 : lw_okq (⟨"PaidByTheUnbornModel", "burden", "(III)I"⟩, 40) := ⟨⟨by decide +kernel, by decide +kernel⟩, List.mem_of_getElem? (i := 959) (by decide +kernel), List.mem_of_getElem? (i := 1372) (by decide +kernel), List.mem_of_getElem? (i := 1373) (by decide +kernel)⟩
theorem lw_p68 : lw_okq (⟨"PaidByTheUnbornModel", "allHeads", "()I"⟩, 40) := ⟨⟨by decide +kernel, by decide +kernel⟩, List.mem_of_getElem? (i := 959) (by decide +kernel), List.mem_of_getElem? (i := 1380) (by decide +kernel), List.mem_of_getElem? (i := 1381) (by decide +kernel)⟩
theorem lw_p69 : lw_okq (⟨"PaidByTheUnbornModel", "layOrder", "(II)V"⟩, 40) := ⟨⟨by decide +kernel, by decide +kernel⟩, List.mem_of_getElem? (i := 959) (by decide +kernel), List.mem_of_getElem? (i := 1403) (by decide +kernel), List.mem_of_getElem? (i := 1404) (by decide +kernel)⟩
theorem lw_p70 : lw_okq (⟨"PaidByTheUnbornModel", "drawBelow", "(I)I"⟩, 40) := ⟨⟨by decide +kernel, by decide +kernel⟩, List.mem_of_getElem? (i := 959) (by decide +kernel), List.mem_of_getElem? (i := 1471) (by decide +kernel), List.mem_of_getElem? (i := 1472) (by decide +kernel)⟩
def lw_privs_5 : List (MethodName × Nat) := [(⟨"PaidByTheUnbornModel", "noneOwes", "(I)Z"⟩, 40), (⟨"PaidByTheUnbornModel", "mergedIn", "(III)I"⟩, 40), (⟨"PaidByTheUnbornModel", "headIn", "(II)I"⟩, 40), (⟨"PaidByTheUnbornModel", "burden", "(III)I"⟩, 40), (⟨"PaidByTheUnbornModel", "allHeads", "()I"⟩, 40), (⟨"PaidByTheUnbornModel", "layOrder", "(II)V"⟩, 40), (⟨"PaidByTheUnbornModel", "drawBelow", "(I)I"⟩, 40)]
theorem lw_r5 : ∀ q ∈ lw_privs_5, lw_okq q := List.forall_mem_cons.mpr ⟨lw_p64, List.forall_mem_cons.mpr ⟨lw_p65, List.forall_mem_cons.mpr ⟨lw_p66, List.forall_mem_cons.mpr ⟨lw_p67, List.forall_mem_cons.mpr ⟨lw_p68, List.forall_mem_cons.mpr ⟨lw_p69, List.forall_mem_cons.mpr ⟨lw_p70, fun _ h => absurd h List.not_mem_nil⟩⟩⟩⟩⟩⟩⟩
def lw_privs : List (MethodName × Nat) := lw_privs_1 ++ (lw_privs_2 ++ (lw_privs_3 ++ (lw_privs_4 ++ (lw_privs_5))))
def lw_tbl : List Cond := k2_sels lw_privs ++ tables_1
theorem lw_privs_ok : ∀ q ∈ lw_privs, lw_okq q := by
  show ∀ q ∈ lw_privs_1 ++ (lw_privs_2 ++ (lw_privs_3 ++ (lw_privs_4 ++ (lw_privs_5)))), lw_okq q
  exact List.forall_mem_append.mpr ⟨lw_r1, List.forall_mem_append.mpr ⟨lw_r2, List.forall_mem_append.mpr ⟨lw_r3, List.forall_mem_append.mpr ⟨lw_r4, lw_r5⟩⟩⟩⟩
-- ===== end of PART A; then your names; then what follows =====
/-! ===== BEGIN words of one list among another's, by their places ===== -/
theorem goodIn_r {big : List Cond} (ws : List Cond) (ps : List Nat) (hp : ws = ps.filterMap (fun i => big[i]?)) (h : ws.all goodWord = true) : GoodIn big ws := by
  intro w hw
  have h1 := List.all_eq_true.mp h w hw
  rw [hp] at hw
  obtain ⟨i, -, hi⟩ := List.mem_filterMap.mp hw
  have hm : w ∈ big := by first | exact List.mem_of_getElem? hi | exact List.getElem?_mem hi
  exact ⟨hm, good_of_word h1⟩
theorem goodIn_app {big a b : List Cond} (ha : GoodIn big a) (hb : GoodIn big b) : GoodIn big (a ++ b) := fun w h => (List.mem_append.mp h).elim (ha w) (hb w)
theorem goodIn_ca {big a b : List Cond} {c : Cond} (ha : GoodIn big (c :: a)) (hb : GoodIn big b) : GoodIn big (c :: (a ++ b)) := fun w h => (List.mem_cons.mp h).elim (fun e => ha w (List.mem_cons.mpr (Or.inl e))) (fun h => (List.mem_append.mp h).elim (fun h => ha w (List.mem_cons.mpr (Or.inr h))) (hb w))
theorem goodIn_sub {big ws : List Cond} (hm : ∀ w ∈ ws, w ∈ big) (h : ws.all goodWord = true) : GoodIn big ws := fun w hw => ⟨hm w hw, good_of_word (List.all_eq_true.mp h w hw)⟩
/-! ===== END ===== -/

/-! ===== BEGIN printed: names, fields, word lists, decode rows ===== -/
def RX0 : String := "PaidByTheUnborn$Bridge"
def TX0 : u_T := fun k => match k with
  | 0 => ("PaidByTheUnborn$Work", "figure", "I", true)
  | _ => ("PaidByTheUnborn$Work", "cost", "I", true)
def tyX0 : Nat → FieldType := fun k => match k with
  | 0 => .int
  | _ => .int
abbrev wsX00 : List Cond := u_ws RX0 TX0 2
theorem nmX0 : ∀ a, a < 2 → ∀ b, b < 2 → a ≠ b → (TX0 a).2.1 ≠ (TX0 b).2.1 := by decide +kernel
theorem tyX0_ok : ∀ k, k < 2 → parseFieldDescriptor (TX0 k).2.2.1 = some (tyX0 k) := by decide +kernel
abbrev cX0_init : ByteArray := prog_2_method_1_code
def yX0_init : MethodName := ⟨RX0, "<init>", "(II)V"⟩
abbrev cX0_kind : ByteArray := prog_2_method_2_code
def yX0_kind : MethodName := ⟨RX0, "kind", "()I"⟩
abbrev cX0_due : ByteArray := prog_2_method_3_code
def yX0_due : MethodName := ⟨RX0, "due", "()I"⟩
abbrev cX0_sharers : ByteArray := prog_2_method_4_code
def yX0_sharers : MethodName := ⟨RX0, "sharers", "(LPaidByTheUnborn$Ledger;)I"⟩
abbrev cX0_shareOut : ByteArray := prog_2_method_5_code
def yX0_shareOut : MethodName := ⟨RX0, "shareOut", "(LPaidByTheUnborn$Ledger;)V"⟩
def RX1 : String := "PaidByTheUnborn$Cradle"
def TX1 : u_T := fun k => match k with
  | 0 => ("PaidByTheUnborn$Work", "figure", "I", true)
  | _ => ("PaidByTheUnborn$Work", "cost", "I", true)
def tyX1 : Nat → FieldType := fun k => match k with
  | 0 => .int
  | _ => .int
abbrev wsX10 : List Cond := u_ws RX1 TX1 2
theorem nmX1 : ∀ a, a < 2 → ∀ b, b < 2 → a ≠ b → (TX1 a).2.1 ≠ (TX1 b).2.1 := by decide +kernel
theorem tyX1_ok : ∀ k, k < 2 → parseFieldDescriptor (TX1 k).2.2.1 = some (tyX1 k) := by decide +kernel
abbrev cX1_init : ByteArray := prog_3_method_1_code
def yX1_init : MethodName := ⟨RX1, "<init>", "(II)V"⟩
abbrev cX1_kind : ByteArray := prog_3_method_2_code
def yX1_kind : MethodName := ⟨RX1, "kind", "()I"⟩
abbrev cX1_due : ByteArray := prog_3_method_3_code
def yX1_due : MethodName := ⟨RX1, "due", "()I"⟩
abbrev cX1_sharers : ByteArray := prog_3_method_4_code
def yX1_sharers : MethodName := ⟨RX1, "sharers", "(LPaidByTheUnborn$Ledger;)I"⟩
def RX2 : String := "PaidByTheUnborn$Family"
def TX2 : u_T := fun k => match k with
  | 0 => ("PaidByTheUnborn$Family", "heads", "I", false)
  | 1 => ("PaidByTheUnborn$Family", "debt", "I", false)
  | 2 => ("PaidByTheUnborn$Family", "pays", "I", false)
  | 3 => ("PaidByTheUnborn$Family", "births", "I", false)
  | 4 => ("PaidByTheUnborn$Family", "added", "I", false)
  | 5 => ("PaidByTheUnborn$Family", "paid", "I", false)
  | _ => ("PaidByTheUnborn$Family", "bornFree", "I", false)
def tyX2 : Nat → FieldType := fun k => match k with
  | 0 => .int
  | 1 => .int
  | 2 => .int
  | 3 => .int
  | 4 => .int
  | 5 => .int
  | _ => .int
abbrev wsX20 : List Cond := u_ws RX2 TX2 7
theorem nmX2 : ∀ a, a < 7 → ∀ b, b < 7 → a ≠ b → (TX2 a).2.1 ≠ (TX2 b).2.1 := by decide +kernel
theorem tyX2_ok : ∀ k, k < 7 → parseFieldDescriptor (TX2 k).2.2.1 = some (tyX2 k) := by decide +kernel
abbrev cX2_init : ByteArray := prog_4_method_1_code
def yX2_init : MethodName := ⟨RX2, "<init>", "()V"⟩
abbrev cX2_become : ByteArray := prog_4_method_2_code
def yX2_become : MethodName := ⟨RX2, "become", "(III)V"⟩
abbrev cX2_copy : ByteArray := prog_4_method_3_code
def yX2_copy : MethodName := ⟨RX2, "copy", "(LPaidByTheUnborn$Family;)V"⟩
abbrev cX2_headOwes : ByteArray := prog_4_method_4_code
def yX2_headOwes : MethodName := ⟨RX2, "headOwes", "()I"⟩
abbrev cX2_isCheaperThan : ByteArray := prog_4_method_5_code
def yX2_isCheaperThan : MethodName := ⟨RX2, "isCheaperThan", "(LPaidByTheUnborn$Family;)Z"⟩
abbrev cX2_owe : ByteArray := prog_4_method_6_code
def yX2_owe : MethodName := ⟨RX2, "owe", "(I)V"⟩
abbrev cX2_pay : ByteArray := prog_4_method_7_code
def yX2_pay : MethodName := ⟨RX2, "pay", "(I)V"⟩
abbrev cX2_settle : ByteArray := prog_4_method_8_code
def yX2_settle : MethodName := ⟨RX2, "settle", "(I)V"⟩
abbrev cX2_bear : ByteArray := prog_4_method_9_code
def yX2_bear : MethodName := ⟨RX2, "bear", "()V"⟩
abbrev cX2_passYear : ByteArray := prog_4_method_10_code
def yX2_passYear : MethodName := ⟨RX2, "passYear", "(II)V"⟩
abbrev cX2_passYears : ByteArray := prog_4_method_11_code
def yX2_passYears : MethodName := ⟨RX2, "passYears", "(III)V"⟩
def RX3 : String := "PaidByTheUnborn$Ledger"
def TX3 : u_T := fun k => match k with
  | 0 => ("PaidByTheUnborn$Ledger", "familyCount", "I", false)
  | 1 => ("PaidByTheUnborn$Ledger", "workCount", "I", false)
  | 2 => ("PaidByTheUnborn$Ledger", "year", "I", false)
  | 3 => ("PaidByTheUnborn$Ledger", "rate", "I", false)
  | 4 => ("PaidByTheUnborn$Ledger", "built", "I", false)
  | 5 => ("PaidByTheUnborn$Ledger", "builtCount", "I", false)
  | 6 => ("PaidByTheUnborn$Ledger", "families", "[LPaidByTheUnborn$Family;", true)
  | 7 => ("PaidByTheUnborn$Ledger", "works", "[LPaidByTheUnborn$Work;", true)
  | 8 => ("PaidByTheUnborn$Ledger", "builtOrder", "[I", true)
  | _ => ("PaidByTheUnborn$Ledger", "shares", "[I", true)
def tyX3 : Nat → FieldType := fun k => match k with
  | 0 => .int
  | 1 => .int
  | 2 => .int
  | 3 => .int
  | 4 => .int
  | 5 => .int
  | 6 => .array (.object "PaidByTheUnborn$Family")
  | 7 => .array (.object "PaidByTheUnborn$Work")
  | 8 => .array .int
  | _ => .array .int
abbrev wsX30 : List Cond := u_ws RX3 TX3 10
theorem nmX3 : ∀ a, a < 10 → ∀ b, b < 10 → a ≠ b → (TX3 a).2.1 ≠ (TX3 b).2.1 := by decide +kernel
theorem tyX3_ok : ∀ k, k < 10 → parseFieldDescriptor (TX3 k).2.2.1 = some (tyX3 k) := by decide +kernel
abbrev cX3_init : ByteArray := prog_5_method_1_code
def yX3_init : MethodName := ⟨RX3, "<init>", "()V"⟩
abbrev cX3_copy : ByteArray := prog_5_method_2_code
def yX3_copy : MethodName := ⟨RX3, "copy", "(LPaidByTheUnborn$Ledger;)V"⟩
abbrev cX3_at : ByteArray := prog_5_method_3_code
def yX3_at : MethodName := ⟨RX3, "at", "(I)LPaidByTheUnborn$Family;"⟩
abbrev cX3_workAt : ByteArray := prog_5_method_4_code
def yX3_workAt : MethodName := ⟨RX3, "workAt", "(I)LPaidByTheUnborn$Work;"⟩
abbrev cX3_builtAs : ByteArray := prog_5_method_5_code
def yX3_builtAs : MethodName := ⟨RX3, "builtAs", "(I)I"⟩
abbrev cX3_isBuilt : ByteArray := prog_5_method_6_code
def yX3_isBuilt : MethodName := ⟨RX3, "isBuilt", "(I)Z"⟩
abbrev cX3_lacksFamily : ByteArray := prog_5_method_7_code
def yX3_lacksFamily : MethodName := ⟨RX3, "lacksFamily", "(I)I"⟩
abbrev cX3_lacksTwo : ByteArray := prog_5_method_8_code
def yX3_lacksTwo : MethodName := ⟨RX3, "lacksTwo", "(II)I"⟩
abbrev cX3_lacksEither : ByteArray := prog_5_method_9_code
def yX3_lacksEither : MethodName := ⟨RX3, "lacksEither", "(II)I"⟩
abbrev cX3_takeFamily : ByteArray := prog_5_method_10_code
def yX3_takeFamily : MethodName := ⟨RX3, "takeFamily", "(III)I"⟩
abbrev cX3_takeWork : ByteArray := prog_5_method_11_code
def yX3_takeWork : MethodName := ⟨RX3, "takeWork", "(III)I"⟩
abbrev cX3_newWork : ByteArray := prog_5_method_12_code
def yX3_newWork : MethodName := ⟨RX3, "newWork", "(III)LPaidByTheUnborn$Work;"⟩
abbrev cX3_build : ByteArray := prog_5_method_13_code
def yX3_build : MethodName := ⟨RX3, "build", "(I)I"⟩
abbrev cX3_takeYears : ByteArray := prog_5_method_14_code
def yX3_takeYears : MethodName := ⟨RX3, "takeYears", "(I)I"⟩
abbrev cX3_takeDebt : ByteArray := prog_5_method_15_code
def yX3_takeDebt : MethodName := ⟨RX3, "takeDebt", "(II)I"⟩
abbrev cX3_takeRate : ByteArray := prog_5_method_16_code
def yX3_takeRate : MethodName := ⟨RX3, "takeRate", "(I)I"⟩
abbrev cX3_passYear : ByteArray := prog_5_method_17_code
def yX3_passYear : MethodName := ⟨RX3, "passYear", "()V"⟩
abbrev cX3_passYears : ByteArray := prog_5_method_18_code
def yX3_passYears : MethodName := ⟨RX3, "passYears", "(I)V"⟩
abbrev cX3_allDebtsBehind : ByteArray := prog_5_method_19_code
def yX3_allDebtsBehind : MethodName := ⟨RX3, "allDebtsBehind", "(I)I"⟩
abbrev cX3_everybody : ByteArray := prog_5_method_20_code
def yX3_everybody : MethodName := ⟨RX3, "everybody", "()I"⟩
abbrev cX3_bearing : ByteArray := prog_5_method_21_code
def yX3_bearing : MethodName := ⟨RX3, "bearing", "()I"⟩
abbrev cX3_headsOf : ByteArray := prog_5_method_22_code
def yX3_headsOf : MethodName := ⟨RX3, "headsOf", "(I)I"⟩
abbrev cX3_mostHeads : ByteArray := prog_5_method_23_code
def yX3_mostHeads : MethodName := ⟨RX3, "mostHeads", "()I"⟩
abbrev cX3_leastDebt : ByteArray := prog_5_method_24_code
def yX3_leastDebt : MethodName := ⟨RX3, "leastDebt", "()I"⟩
abbrev cX3_allDebts : ByteArray := prog_5_method_25_code
def yX3_allDebts : MethodName := ⟨RX3, "allDebts", "()I"⟩
abbrev cX3_oweNothing : ByteArray := prog_5_method_26_code
def yX3_oweNothing : MethodName := ⟨RX3, "oweNothing", "()I"⟩
abbrev cX3_isStuck : ByteArray := prog_5_method_27_code
def yX3_isStuck : MethodName := ⟨RX3, "isStuck", "()Z"⟩
abbrev cX3_shareAlike : ByteArray := prog_5_method_28_code
def yX3_shareAlike : MethodName := ⟨RX3, "shareAlike", "(I)V"⟩
abbrev cX3_shareByHeads : ByteArray := prog_5_method_29_code
def yX3_shareByHeads : MethodName := ⟨RX3, "shareByHeads", "(II)V"⟩
abbrev cX3_shareLeftOver : ByteArray := prog_5_method_30_code
def yX3_shareLeftOver : MethodName := ⟨RX3, "shareLeftOver", "(II)V"⟩
abbrev cX3_shareToOne : ByteArray := prog_5_method_31_code
def yX3_shareToOne : MethodName := ⟨RX3, "shareToOne", "(II)V"⟩
abbrev cX3_shareOf : ByteArray := prog_5_method_32_code
def yX3_shareOf : MethodName := ⟨RX3, "shareOf", "(II)I"⟩
abbrev cX3_oweShares : ByteArray := prog_5_method_33_code
def yX3_oweShares : MethodName := ⟨RX3, "oweShares", "()V"⟩
abbrev cX3_charge : ByteArray := prog_5_method_34_code
def yX3_charge : MethodName := ⟨RX3, "charge", "(I)V"⟩
abbrev cX3_chargeSet : ByteArray := prog_5_method_35_code
def yX3_chargeSet : MethodName := ⟨RX3, "chargeSet", "(I)V"⟩
abbrev cX3_sets : ByteArray := prog_5_method_36_code
def yX3_sets : MethodName := ⟨RX3, "sets", "()I"⟩
abbrev cX3_costOf : ByteArray := prog_5_method_37_code
def yX3_costOf : MethodName := ⟨RX3, "costOf", "(I)I"⟩
abbrev cX3_unusedWork : ByteArray := prog_5_method_38_code
def yX3_unusedWork : MethodName := ⟨RX3, "unusedWork", "(II)I"⟩
def RX4 : String := "PaidByTheUnborn$Past"
def TX4 : u_T := fun k => match k with
  | 0 => ("PaidByTheUnborn$Past", "ledgers", "[LPaidByTheUnborn$Ledger;", true)
  | 1 => ("PaidByTheUnborn$Past", "next", "I", false)
  | _ => ("PaidByTheUnborn$Past", "count", "I", false)
def tyX4 : Nat → FieldType := fun k => match k with
  | 0 => .array (.object "PaidByTheUnborn$Ledger")
  | 1 => .int
  | _ => .int
abbrev wsX40 : List Cond := u_ws RX4 TX4 3
theorem nmX4 : ∀ a, a < 3 → ∀ b, b < 3 → a ≠ b → (TX4 a).2.1 ≠ (TX4 b).2.1 := by decide +kernel
theorem tyX4_ok : ∀ k, k < 3 → parseFieldDescriptor (TX4 k).2.2.1 = some (tyX4 k) := by decide +kernel
abbrev cX4_init : ByteArray := prog_6_method_1_code
def yX4_init : MethodName := ⟨RX4, "<init>", "()V"⟩
abbrev cX4_kept : ByteArray := prog_6_method_2_code
def yX4_kept : MethodName := ⟨RX4, "kept", "(I)LPaidByTheUnborn$Ledger;"⟩
abbrev cX4_keep : ByteArray := prog_6_method_3_code
def yX4_keep : MethodName := ⟨RX4, "keep", "(LPaidByTheUnborn$Ledger;)V"⟩
abbrev cX4_takeBack : ByteArray := prog_6_method_4_code
def yX4_takeBack : MethodName := ⟨RX4, "takeBack", "(LPaidByTheUnborn$Ledger;)V"⟩
abbrev cX4_forget : ByteArray := prog_6_method_5_code
def yX4_forget : MethodName := ⟨RX4, "forget", "()V"⟩
def RX5 : String := "PaidByTheUnborn$Pen"
def TX5 : u_T := fun k => match k with
  | 0 => ("PaidByTheUnborn$Work", "figure", "I", true)
  | _ => ("PaidByTheUnborn$Work", "cost", "I", true)
def tyX5 : Nat → FieldType := fun k => match k with
  | 0 => .int
  | _ => .int
abbrev wsX50 : List Cond := u_ws RX5 TX5 2
theorem nmX5 : ∀ a, a < 2 → ∀ b, b < 2 → a ≠ b → (TX5 a).2.1 ≠ (TX5 b).2.1 := by decide +kernel
theorem tyX5_ok : ∀ k, k < 2 → parseFieldDescriptor (TX5 k).2.2.1 = some (tyX5 k) := by decide +kernel
abbrev cX5_init : ByteArray := prog_7_method_1_code
def yX5_init : MethodName := ⟨RX5, "<init>", "(II)V"⟩
abbrev cX5_kind : ByteArray := prog_7_method_2_code
def yX5_kind : MethodName := ⟨RX5, "kind", "()I"⟩
abbrev cX5_due : ByteArray := prog_7_method_3_code
def yX5_due : MethodName := ⟨RX5, "due", "()I"⟩
abbrev cX5_payer : ByteArray := prog_7_method_4_code
def yX5_payer : MethodName := ⟨RX5, "payer", "(LPaidByTheUnborn$Ledger;)I"⟩
def RX6 : String := "PaidByTheUnborn$Ruin"
def TX6 : u_T := fun k => match k with
  | 0 => ("PaidByTheUnborn$Work", "figure", "I", true)
  | _ => ("PaidByTheUnborn$Work", "cost", "I", true)
def tyX6 : Nat → FieldType := fun k => match k with
  | 0 => .int
  | _ => .int
abbrev wsX60 : List Cond := u_ws RX6 TX6 2
theorem nmX6 : ∀ a, a < 2 → ∀ b, b < 2 → a ≠ b → (TX6 a).2.1 ≠ (TX6 b).2.1 := by decide +kernel
theorem tyX6_ok : ∀ k, k < 2 → parseFieldDescriptor (TX6 k).2.2.1 = some (tyX6 k) := by decide +kernel
abbrev cX6_init : ByteArray := prog_8_method_1_code
def yX6_init : MethodName := ⟨RX6, "<init>", "(II)V"⟩
abbrev cX6_kind : ByteArray := prog_8_method_2_code
def yX6_kind : MethodName := ⟨RX6, "kind", "()I"⟩
abbrev cX6_due : ByteArray := prog_8_method_3_code
def yX6_due : MethodName := ⟨RX6, "due", "()I"⟩
def RX7 : String := "PaidByTheUnborn$Text"
def TX7 : u_T := fun k => match k with
  | 0 => ("PaidByTheUnborn$Text", "letters", "[I", true)
  | _ => ("PaidByTheUnborn$Text", "count", "I", false)
def tyX7 : Nat → FieldType := fun k => match k with
  | 0 => .array .int
  | _ => .int
abbrev wsX70 : List Cond := u_ws RX7 TX7 2
theorem nmX7 : ∀ a, a < 2 → ∀ b, b < 2 → a ≠ b → (TX7 a).2.1 ≠ (TX7 b).2.1 := by decide +kernel
theorem tyX7_ok : ∀ k, k < 2 → parseFieldDescriptor (TX7 k).2.2.1 = some (tyX7 k) := by decide +kernel
abbrev cX7_init : ByteArray := prog_9_method_1_code
def yX7_init : MethodName := ⟨RX7, "<init>", "()V"⟩
abbrev cX7_isFull : ByteArray := prog_9_method_2_code
def yX7_isFull : MethodName := ⟨RX7, "isFull", "()Z"⟩
abbrev cX7_add : ByteArray := prog_9_method_3_code
def yX7_add : MethodName := ⟨RX7, "add", "(I)I"⟩
abbrev cX7_empty : ByteArray := prog_9_method_4_code
def yX7_empty : MethodName := ⟨RX7, "empty", "()V"⟩
abbrev cX7_faultOfForm : ByteArray := prog_9_method_5_code
def yX7_faultOfForm : MethodName := ⟨RX7, "faultOfForm", "()I"⟩
abbrev cX7_placeBehind : ByteArray := prog_9_method_6_code
def yX7_placeBehind : MethodName := ⟨RX7, "placeBehind", "(I)I"⟩
abbrev cX7_lengthAt : ByteArray := prog_9_method_7_code
def yX7_lengthAt : MethodName := ⟨RX7, "lengthAt", "(I)I"⟩
abbrev cX7_enact : ByteArray := prog_9_method_8_code
def yX7_enact : MethodName := ⟨RX7, "enact", "(ILPaidByTheUnborn$Ledger;)I"⟩
abbrev cX7_digitsBehind : ByteArray := prog_9_method_9_code
def yX7_digitsBehind : MethodName := ⟨RX7, "digitsBehind", "(I)I"⟩
abbrev cX7_letterAt : ByteArray := prog_9_method_10_code
def yX7_letterAt : MethodName := ⟨RX7, "letterAt", "(I)I"⟩
abbrev cX7_isDigit : ByteArray := prog_9_method_11_code
def yX7_isDigit : MethodName := ⟨RX7, "isDigit", "(I)Z"⟩
abbrev cX7_number : ByteArray := prog_9_method_12_code
def yX7_number : MethodName := ⟨RX7, "number", "(II)I"⟩
def RX8 : String := "PaidByTheUnborn$War"
def TX8 : u_T := fun k => match k with
  | 0 => ("PaidByTheUnborn$Work", "figure", "I", true)
  | _ => ("PaidByTheUnborn$Work", "cost", "I", true)
def tyX8 : Nat → FieldType := fun k => match k with
  | 0 => .int
  | _ => .int
abbrev wsX80 : List Cond := u_ws RX8 TX8 2
theorem nmX8 : ∀ a, a < 2 → ∀ b, b < 2 → a ≠ b → (TX8 a).2.1 ≠ (TX8 b).2.1 := by decide +kernel
theorem tyX8_ok : ∀ k, k < 2 → parseFieldDescriptor (TX8 k).2.2.1 = some (tyX8 k) := by decide +kernel
abbrev cX8_init : ByteArray := prog_10_method_1_code
def yX8_init : MethodName := ⟨RX8, "<init>", "(II)V"⟩
abbrev cX8_kind : ByteArray := prog_10_method_2_code
def yX8_kind : MethodName := ⟨RX8, "kind", "()I"⟩
abbrev cX8_due : ByteArray := prog_10_method_3_code
def yX8_due : MethodName := ⟨RX8, "due", "()I"⟩
abbrev cX8_payer : ByteArray := prog_10_method_4_code
def yX8_payer : MethodName := ⟨RX8, "payer", "(LPaidByTheUnborn$Ledger;)I"⟩
abbrev cX8_shareOut : ByteArray := prog_10_method_5_code
def yX8_shareOut : MethodName := ⟨RX8, "shareOut", "(LPaidByTheUnborn$Ledger;)V"⟩
def RX9 : String := "PaidByTheUnborn$Work"
def TX9 : u_T := fun k => match k with
  | 0 => ("PaidByTheUnborn$Work", "figure", "I", true)
  | _ => ("PaidByTheUnborn$Work", "cost", "I", true)
def tyX9 : Nat → FieldType := fun k => match k with
  | 0 => .int
  | _ => .int
abbrev wsX90 : List Cond := u_ws RX9 TX9 2
theorem nmX9 : ∀ a, a < 2 → ∀ b, b < 2 → a ≠ b → (TX9 a).2.1 ≠ (TX9 b).2.1 := by decide +kernel
theorem tyX9_ok : ∀ k, k < 2 → parseFieldDescriptor (TX9 k).2.2.1 = some (tyX9 k) := by decide +kernel
abbrev cX9_init : ByteArray := prog_11_method_1_code
def yX9_init : MethodName := ⟨RX9, "<init>", "(II)V"⟩
abbrev cX9_kind : ByteArray := prog_11_method_2_code
def yX9_kind : MethodName := ⟨RX9, "kind", "()I"⟩
abbrev cX9_due : ByteArray := prog_11_method_3_code
def yX9_due : MethodName := ⟨RX9, "due", "()I"⟩
abbrev cX9_shareOut : ByteArray := prog_11_method_4_code
def yX9_shareOut : MethodName := ⟨RX9, "shareOut", "(LPaidByTheUnborn$Ledger;)V"⟩
def RX10 : String := "PaidByTheUnborn"
def TX10 : u_T := fun k => match k with
  | 0 => ("PaidByTheUnborn", "now", "LPaidByTheUnborn$Ledger;", true)
  | 1 => ("PaidByTheUnborn", "mind", "LPaidByTheUnborn$Ledger;", true)
  | 2 => ("PaidByTheUnborn", "pictured", "LPaidByTheUnborn$Ledger;", true)
  | 3 => ("PaidByTheUnborn", "isPictured", "Z", false)
  | 4 => ("PaidByTheUnborn", "past", "LPaidByTheUnborn$Past;", true)
  | 5 => ("PaidByTheUnborn", "text", "LPaidByTheUnborn$Text;", true)
  | 6 => ("PaidByTheUnborn", "told", "[I", true)
  | 7 => ("PaidByTheUnborn", "toldCount", "I", false)
  | 8 => ("PaidByTheUnborn", "refusals", "[I", true)
  | 9 => ("PaidByTheUnborn", "imagined", "LPaidByTheUnborn$Family;", true)
  | 10 => ("PaidByTheUnborn", "instead", "LPaidByTheUnborn$Family;", true)
  | 11 => ("PaidByTheUnborn", "tried", "[I", true)
  | _ => ("PaidByTheUnborn", "best", "[I", true)
def tyX10 : Nat → FieldType := fun k => match k with
  | 0 => .object "PaidByTheUnborn$Ledger"
  | 1 => .object "PaidByTheUnborn$Ledger"
  | 2 => .object "PaidByTheUnborn$Ledger"
  | 3 => .boolean
  | 4 => .object "PaidByTheUnborn$Past"
  | 5 => .object "PaidByTheUnborn$Text"
  | 6 => .array .int
  | 7 => .int
  | 8 => .array .int
  | 9 => .object "PaidByTheUnborn$Family"
  | 10 => .object "PaidByTheUnborn$Family"
  | 11 => .array .int
  | _ => .array .int
abbrev wsX100 : List Cond := u_ws RX10 TX10 13
theorem nmX10 : ∀ a, a < 13 → ∀ b, b < 13 → a ≠ b → (TX10 a).2.1 ≠ (TX10 b).2.1 := by decide +kernel
theorem tyX10_ok : ∀ k, k < 13 → parseFieldDescriptor (TX10 k).2.2.1 = some (tyX10 k) := by decide +kernel
abbrev cX10_init : ByteArray := prog_1_method_1_code
def yX10_init : MethodName := ⟨RX10, "<init>", "()V"⟩
abbrev cX10_feed : ByteArray := prog_1_method_2_code
def yX10_feed : MethodName := ⟨RX10, "feed", "(I)I"⟩
abbrev cX10_treasury : ByteArray := prog_1_method_3_code
def yX10_treasury : MethodName := ⟨RX10, "treasury", "()I"⟩
abbrev cX10_familyOf : ByteArray := prog_1_method_4_code
def yX10_familyOf : MethodName := ⟨RX10, "familyOf", "(II)I"⟩
abbrev cX10_workOf : ByteArray := prog_1_method_5_code
def yX10_workOf : MethodName := ⟨RX10, "workOf", "(II)I"⟩
abbrev cX10_family : ByteArray := prog_1_method_6_code
def yX10_family : MethodName := ⟨RX10, "family", "(III)I"⟩
abbrev cX10_work : ByteArray := prog_1_method_7_code
def yX10_work : MethodName := ⟨RX10, "work", "(III)I"⟩
abbrev cX10_builds : ByteArray := prog_1_method_8_code
def yX10_builds : MethodName := ⟨RX10, "builds", "(I)I"⟩
abbrev cX10_years : ByteArray := prog_1_method_9_code
def yX10_years : MethodName := ⟨RX10, "years", "(I)I"⟩
abbrev cX10_debt : ByteArray := prog_1_method_10_code
def yX10_debt : MethodName := ⟨RX10, "debt", "(II)I"⟩
abbrev cX10_rate : ByteArray := prog_1_method_11_code
def yX10_rate : MethodName := ⟨RX10, "rate", "(I)I"⟩
abbrev cX10_behind : ByteArray := prog_1_method_12_code
def yX10_behind : MethodName := ⟨RX10, "behind", "(III)I"⟩
abbrev cX10_all : ByteArray := prog_1_method_13_code
def yX10_all : MethodName := ⟨RX10, "all", "(I)I"⟩
abbrev cX10_solvent : ByteArray := prog_1_method_14_code
def yX10_solvent : MethodName := ⟨RX10, "solvent", "(I)I"⟩
abbrev cX10_first : ByteArray := prog_1_method_15_code
def yX10_first : MethodName := ⟨RX10, "first", "(I)I"⟩
abbrev cX10_highest : ByteArray := prog_1_method_16_code
def yX10_highest : MethodName := ⟨RX10, "highest", "(III)I"⟩
abbrev cX10_building : ByteArray := prog_1_method_17_code
def yX10_building : MethodName := ⟨RX10, "building", "(III)I"⟩
abbrev cX10_oneMore : ByteArray := prog_1_method_18_code
def yX10_oneMore : MethodName := ⟨RX10, "oneMore", "(I)I"⟩
abbrev cX10_share : ByteArray := prog_1_method_19_code
def yX10_share : MethodName := ⟨RX10, "share", "(II)I"⟩
abbrev cX10_pulledDown : ByteArray := prog_1_method_20_code
def yX10_pulledDown : MethodName := ⟨RX10, "pulledDown", "(III)I"⟩
abbrev cX10_merger : ByteArray := prog_1_method_21_code
def yX10_merger : MethodName := ⟨RX10, "merger", "(III)I"⟩
abbrev cX10_bestMerger : ByteArray := prog_1_method_22_code
def yX10_bestMerger : MethodName := ⟨RX10, "bestMerger", "(I)I"⟩
abbrev cX10_child : ByteArray := prog_1_method_23_code
def yX10_child : MethodName := ⟨RX10, "child", "(II)J"⟩
abbrev cX10_cheapest : ByteArray := prog_1_method_24_code
def yX10_cheapest : MethodName := ⟨RX10, "cheapest", "(II)I"⟩
abbrev cX10_treaty : ByteArray := prog_1_method_25_code
def yX10_treaty : MethodName := ⟨RX10, "treaty", "(III)I"⟩
abbrev cX10_signature : ByteArray := prog_1_method_26_code
def yX10_signature : MethodName := ⟨RX10, "signature", "(II)I"⟩
abbrev cX10_whoBuilt : ByteArray := prog_1_method_27_code
def yX10_whoBuilt : MethodName := ⟨RX10, "whoBuilt", "(I)I"⟩
abbrev cX10_births : ByteArray := prog_1_method_28_code
def yX10_births : MethodName := ⟨RX10, "births", "(IIIII)J"⟩
abbrev cX10_back : ByteArray := prog_1_method_29_code
def yX10_back : MethodName := ⟨RX10, "back", "()I"⟩
abbrev cX10_oldest : ByteArray := prog_1_method_30_code
def yX10_oldest : MethodName := ⟨RX10, "oldest", "(I)I"⟩
abbrev cX10_order : ByteArray := prog_1_method_31_code
def yX10_order : MethodName := ⟨RX10, "order", "(I)I"⟩
abbrev cX10_jubilee : ByteArray := prog_1_method_32_code
def yX10_jubilee : MethodName := ⟨RX10, "jubilee", "(I)I"⟩
abbrev cX10_fair : ByteArray := prog_1_method_33_code
def yX10_fair : MethodName := ⟨RX10, "fair", "(I)I"⟩
abbrev cX10_peak : ByteArray := prog_1_method_34_code
def yX10_peak : MethodName := ⟨RX10, "peak", "(III)I"⟩
abbrev cX10_interest : ByteArray := prog_1_method_35_code
def yX10_interest : MethodName := ⟨RX10, "interest", "(II)I"⟩
abbrev cX10_doubled : ByteArray := prog_1_method_36_code
def yX10_doubled : MethodName := ⟨RX10, "doubled", "(I)I"⟩
abbrev cX10_commonPay : ByteArray := prog_1_method_37_code
def yX10_commonPay : MethodName := ⟨RX10, "commonPay", "(II)I"⟩
abbrev cX10_bestBirths : ByteArray := prog_1_method_38_code
def yX10_bestBirths : MethodName := ⟨RX10, "bestBirths", "(II)I"⟩
abbrev cX10_lump : ByteArray := prog_1_method_39_code
def yX10_lump : MethodName := ⟨RX10, "lump", "(II)I"⟩
abbrev cX10_crosses : ByteArray := prog_1_method_40_code
def yX10_crosses : MethodName := ⟨RX10, "crosses", "(II)I"⟩
abbrev cX10_heir : ByteArray := prog_1_method_41_code
def yX10_heir : MethodName := ⟨RX10, "heir", "(I)I"⟩
abbrev cX10_rank : ByteArray := prog_1_method_42_code
def yX10_rank : MethodName := ⟨RX10, "rank", "(I)I"⟩
abbrev cX10_half : ByteArray := prog_1_method_43_code
def yX10_half : MethodName := ⟨RX10, "half", "()I"⟩
abbrev cX10_row : ByteArray := prog_1_method_44_code
def yX10_row : MethodName := ⟨RX10, "row", "(I)I"⟩
abbrev cX10_judge : ByteArray := prog_1_method_45_code
def yX10_judge : MethodName := ⟨RX10, "judge", "(I)I"⟩
abbrev cX10_clear : ByteArray := prog_1_method_46_code
def yX10_clear : MethodName := ⟨RX10, "clear", "()I"⟩
abbrev cX10_lots : ByteArray := prog_1_method_47_code
def yX10_lots : MethodName := ⟨RX10, "lots", "(III)I"⟩
abbrev cX10_image : ByteArray := prog_1_method_48_code
def yX10_image : MethodName := ⟨RX10, "image", "()I"⟩
abbrev cX10_restore : ByteArray := prog_1_method_49_code
def yX10_restore : MethodName := ⟨RX10, "restore", "()I"⟩
abbrev cX10_count : ByteArray := prog_1_method_50_code
def yX10_count : MethodName := ⟨RX10, "count", "(I)I"⟩
abbrev cX10_refused : ByteArray := prog_1_method_51_code
def yX10_refused : MethodName := ⟨RX10, "refused", "(I)I"⟩
abbrev cX10_withoutPast : ByteArray := prog_1_method_52_code
def yX10_withoutPast : MethodName := ⟨RX10, "withoutPast", "(I)I"⟩
abbrev cX10_withPast : ByteArray := prog_1_method_53_code
def yX10_withPast : MethodName := ⟨RX10, "withPast", "(I)I"⟩
abbrev cX10_outside : ByteArray := prog_1_method_54_code
def yX10_outside : MethodName := ⟨RX10, "outside", "(III)I"⟩
abbrev cX10_eitherOutside : ByteArray := prog_1_method_55_code
def yX10_eitherOutside : MethodName := ⟨RX10, "eitherOutside", "(IIII)I"⟩
abbrev cX10_otherThan : ByteArray := prog_1_method_56_code
def yX10_otherThan : MethodName := ⟨RX10, "otherThan", "(II)I"⟩
abbrev cX10_notAhead : ByteArray := prog_1_method_57_code
def yX10_notAhead : MethodName := ⟨RX10, "notAhead", "(I)I"⟩
abbrev cX10_noFamilyAhead : ByteArray := prog_1_method_58_code
def yX10_noFamilyAhead : MethodName := ⟨RX10, "noFamilyAhead", "(II)I"⟩
abbrev cX10_noTwoAhead : ByteArray := prog_1_method_59_code
def yX10_noTwoAhead : MethodName := ⟨RX10, "noTwoAhead", "(III)I"⟩
abbrev cX10_ahead : ByteArray := prog_1_method_60_code
def yX10_ahead : MethodName := ⟨RX10, "ahead", "(II)V"⟩
abbrev cX10_headOwesBehind : ByteArray := prog_1_method_61_code
def yX10_headOwesBehind : MethodName := ⟨RX10, "headOwesBehind", "(II)I"⟩
abbrev cX10_freeBehind : ByteArray := prog_1_method_62_code
def yX10_freeBehind : MethodName := ⟨RX10, "freeBehind", "(II)I"⟩
abbrev cX10_highestRate : ByteArray := prog_1_method_63_code
def yX10_highestRate : MethodName := ⟨RX10, "highestRate", "(II)I"⟩
abbrev cX10_leastPay : ByteArray := prog_1_method_64_code
def yX10_leastPay : MethodName := ⟨RX10, "leastPay", "(II)I"⟩
abbrev cX10_mergedHeadOwes : ByteArray := prog_1_method_65_code
def yX10_mergedHeadOwes : MethodName := ⟨RX10, "mergedHeadOwes", "(III)I"⟩
abbrev cX10_signedPay : ByteArray := prog_1_method_66_code
def yX10_signedPay : MethodName := ⟨RX10, "signedPay", "(II)I"⟩
abbrev cX10_costOfPaying : ByteArray := prog_1_method_67_code
def yX10_costOfPaying : MethodName := ⟨RX10, "costOfPaying", "(III)I"⟩
abbrev cX10_waysOf : ByteArray := prog_1_method_68_code
def yX10_waysOf : MethodName := ⟨RX10, "waysOf", "(III)J"⟩
abbrev cX10_bearByChance : ByteArray := prog_1_method_69_code
def yX10_bearByChance : MethodName := ⟨RX10, "bearByChance", "(III)V"⟩
abbrev cX10_firstFree : ByteArray := prog_1_method_70_code
def yX10_firstFree : MethodName := ⟨RX10, "firstFree", "()I"⟩
abbrev cX10_growing : ByteArray := prog_1_method_71_code
def yX10_growing : MethodName := ⟨RX10, "growing", "()I"⟩
abbrev cX10_firstStuck : ByteArray := prog_1_method_72_code
def yX10_firstStuck : MethodName := ⟨RX10, "firstStuck", "()I"⟩
abbrev cX10_cheapestFamily : ByteArray := prog_1_method_73_code
def yX10_cheapestFamily : MethodName := ⟨RX10, "cheapestFamily", "()I"⟩
abbrev cX10_bornFree : ByteArray := prog_1_method_74_code
def yX10_bornFree : MethodName := ⟨RX10, "bornFree", "(I)I"⟩
abbrev cX10_ranked : ByteArray := prog_1_method_75_code
def yX10_ranked : MethodName := ⟨RX10, "ranked", "(I)I"⟩
abbrev cX10_ranksAbove : ByteArray := prog_1_method_76_code
def yX10_ranksAbove : MethodName := ⟨RX10, "ranksAbove", "(I)I"⟩
abbrev cX10_isBearable : ByteArray := prog_1_method_77_code
def yX10_isBearable : MethodName := ⟨RX10, "isBearable", "(III)Z"⟩
abbrev cX10_isToldBy : ByteArray := prog_1_method_78_code
def yX10_isToldBy : MethodName := ⟨RX10, "isToldBy", "(I)Z"⟩
abbrev cX10_isTold : ByteArray := prog_1_method_79_code
def yX10_isTold : MethodName := ⟨RX10, "isTold", "(II)Z"⟩
abbrev cX10_factorial : ByteArray := prog_1_method_80_code
def yX10_factorial : MethodName := ⟨RX10, "factorial", "(I)I"⟩
abbrev cX10_arrange : ByteArray := prog_1_method_81_code
def yX10_arrange : MethodName := ⟨RX10, "arrange", "(II)V"⟩
abbrev cX10_debtsAsTried : ByteArray := prog_1_method_82_code
def yX10_debtsAsTried : MethodName := ⟨RX10, "debtsAsTried", "(I)I"⟩
abbrev cX10_up : ByteArray := prog_1_method_83_code
def yX10_up : MethodName := ⟨RX10, "up", "(II)I"⟩
abbrev cX10_inLowestTerms : ByteArray := prog_1_method_84_code
def yX10_inLowestTerms : MethodName := ⟨RX10, "inLowestTerms", "(JJI)J"⟩
abbrev cX10_commonDivisor : ByteArray := prog_1_method_85_code
def yX10_commonDivisor : MethodName := ⟨RX10, "commonDivisor", "(JJ)J"⟩
abbrev cX10_nextSeed : ByteArray := prog_1_method_86_code
def yX10_nextSeed : MethodName := ⟨RX10, "nextSeed", "(I)I"⟩
abbrev cX10_drawBelow : ByteArray := prog_1_method_87_code
def yX10_drawBelow : MethodName := ⟨RX10, "drawBelow", "(II)I"⟩
def RX11 : String := "PaidByTheUnbornModel"
def TX11 : u_T := fun k => match k with
  | 0 => ("PaidByTheUnbornModel", "families", "I", false)
  | 1 => ("PaidByTheUnbornModel", "heads", "[I", true)
  | 2 => ("PaidByTheUnbornModel", "debts", "[I", true)
  | 3 => ("PaidByTheUnbornModel", "pays", "[I", true)
  | 4 => ("PaidByTheUnbornModel", "births0", "[I", true)
  | 5 => ("PaidByTheUnbornModel", "rate0", "I", false)
  | 6 => ("PaidByTheUnbornModel", "year", "I", false)
  | 7 => ("PaidByTheUnbornModel", "works", "I", false)
  | 8 => ("PaidByTheUnbornModel", "kinds", "[I", true)
  | 9 => ("PaidByTheUnbornModel", "figures", "[I", true)
  | 10 => ("PaidByTheUnbornModel", "costs", "[I", true)
  | 11 => ("PaidByTheUnbornModel", "builtAs", "[I", true)
  | 12 => ("PaidByTheUnbornModel", "thrown", "I", false)
  | 13 => ("PaidByTheUnbornModel", "refusals", "[I", true)
  | 14 => ("PaidByTheUnbornModel", "shares", "[I", true)
  | 15 => ("PaidByTheUnbornModel", "parts", "[I", true)
  | 16 => ("PaidByTheUnbornModel", "bornFree", "I", false)
  | 17 => ("PaidByTheUnbornModel", "paid", "[I", true)
  | 18 => ("PaidByTheUnbornModel", "letters", "[I", true)
  | 19 => ("PaidByTheUnbornModel", "letterMany", "I", false)
  | 20 => ("PaidByTheUnbornModel", "at", "I", false)
  | 21 => ("PaidByTheUnbornModel", "isBad", "Z", false)
  | 22 => ("PaidByTheUnbornModel", "statements", "I", false)
  | 23 => ("PaidByTheUnbornModel", "placeIn", "[I", true)
  | 24 => ("PaidByTheUnbornModel", "letterOf", "[I", true)
  | 25 => ("PaidByTheUnbornModel", "told", "[I", true)
  | 26 => ("PaidByTheUnbornModel", "kept", "[I", true)
  | 27 => ("PaidByTheUnbornModel", "imaged", "[I", true)
  | 28 => ("PaidByTheUnbornModel", "hasImage", "Z", false)
  | 29 => ("PaidByTheUnbornModel", "place0", "I", false)
  | 30 => ("PaidByTheUnbornModel", "isTaking", "Z", false)
  | 31 => ("PaidByTheUnbornModel", "keptIn", "[I", false)
  | 32 => ("PaidByTheUnbornModel", "turns", "[I", true)
  | 33 => ("PaidByTheUnbornModel", "turnOf", "[I", true)
  | 34 => ("PaidByTheUnbornModel", "turned", "I", false)
  | 35 => ("PaidByTheUnbornModel", "row", "[I", true)
  | 36 => ("PaidByTheUnbornModel", "rowMany", "I", false)
  | 37 => ("PaidByTheUnbornModel", "order0", "[I", true)
  | 38 => ("PaidByTheUnbornModel", "openOnes", "[I", true)
  | _ => ("PaidByTheUnbornModel", "seed", "I", false)
def tyX11 : Nat → FieldType := fun k => match k with
  | 0 => .int
  | 1 => .array .int
  | 2 => .array .int
  | 3 => .array .int
  | 4 => .array .int
  | 5 => .int
  | 6 => .int
  | 7 => .int
  | 8 => .array .int
  | 9 => .array .int
  | 10 => .array .int
  | 11 => .array .int
  | 12 => .int
  | 13 => .array .int
  | 14 => .array .int
  | 15 => .array .int
  | 16 => .int
  | 17 => .array .int
  | 18 => .array .int
  | 19 => .int
  | 20 => .int
  | 21 => .boolean
  | 22 => .int
  | 23 => .array .int
  | 24 => .array .int
  | 25 => .array .int
  | 26 => .array .int
  | 27 => .array .int
  | 28 => .boolean
  | 29 => .int
  | 30 => .boolean
  | 31 => .array .int
  | 32 => .array .int
  | 33 => .array .int
  | 34 => .int
  | 35 => .array .int
  | 36 => .int
  | 37 => .array .int
  | 38 => .array .int
  | _ => .int
abbrev wsX110 : List Cond := u_ws RX11 TX11 40
theorem nmX11 : ∀ a, a < 40 → ∀ b, b < 40 → a ≠ b → (TX11 a).2.1 ≠ (TX11 b).2.1 := by decide +kernel
theorem tyX11_ok : ∀ k, k < 40 → parseFieldDescriptor (TX11 k).2.2.1 = some (tyX11 k) := by decide +kernel
abbrev cX11_init : ByteArray := prog_13_method_1_code
def yX11_init : MethodName := ⟨RX11, "<init>", "()V"⟩
abbrev cX11_in : ByteArray := prog_13_method_3_code
def yX11_in : MethodName := ⟨RX11, "in", "(JJJ)Z"⟩
abbrev cX11_refuse : ByteArray := prog_13_method_4_code
def yX11_refuse : MethodName := ⟨RX11, "refuse", "(I)I"⟩
abbrev cX11_isFamily : ByteArray := prog_13_method_5_code
def yX11_isFamily : MethodName := ⟨RX11, "isFamily", "(I)Z"⟩
abbrev cX11_isWork : ByteArray := prog_13_method_6_code
def yX11_isWork : MethodName := ⟨RX11, "isWork", "(I)Z"⟩
abbrev cX11_wrongNumber : ByteArray := prog_13_method_7_code
def yX11_wrongNumber : MethodName := ⟨RX11, "wrongNumber", "(III)I"⟩
abbrev cX11_wrongBit : ByteArray := prog_13_method_8_code
def yX11_wrongBit : MethodName := ⟨RX11, "wrongBit", "(III)I"⟩
abbrev cX11_hasBit : ByteArray := prog_13_method_9_code
def yX11_hasBit : MethodName := ⟨RX11, "hasBit", "(II)Z"⟩
abbrev cX11_held : ByteArray := prog_13_method_10_code
def yX11_held : MethodName := ⟨RX11, "held", "(III)I"⟩
abbrev cX11_allHeads : ByteArray := prog_13_method_11_code
def yX11_allHeads : MethodName := ⟨RX11, "allHeads", "()I"⟩
abbrev cX11_allDebts : ByteArray := prog_13_method_12_code
def yX11_allDebts : MethodName := ⟨RX11, "allDebts", "()I"⟩
abbrev cX11_headOwes : ByteArray := prog_13_method_13_code
def yX11_headOwes : MethodName := ⟨RX11, "headOwes", "(I)I"⟩
abbrev cX11_dueOf : ByteArray := prog_13_method_14_code
def yX11_dueOf : MethodName := ⟨RX11, "dueOf", "(I)I"⟩
abbrev cX11_mostHeads : ByteArray := prog_13_method_15_code
def yX11_mostHeads : MethodName := ⟨RX11, "mostHeads", "()I"⟩
abbrev cX11_leastDebt : ByteArray := prog_13_method_16_code
def yX11_leastDebt : MethodName := ⟨RX11, "leastDebt", "()I"⟩
abbrev cX11_layParts : ByteArray := prog_13_method_17_code
def yX11_layParts : MethodName := ⟨RX11, "layParts", "(I)V"⟩
abbrev cX11_layShares : ByteArray := prog_13_method_18_code
def yX11_layShares : MethodName := ⟨RX11, "layShares", "(I)V"⟩
abbrev cX11_lastBuilt : ByteArray := prog_13_method_19_code
def yX11_lastBuilt : MethodName := ⟨RX11, "lastBuilt", "()I"⟩
abbrev cX11_build : ByteArray := prog_13_method_20_code
def yX11_build : MethodName := ⟨RX11, "build", "(I)V"⟩
abbrev cX11_owes : ByteArray := prog_13_method_21_code
def yX11_owes : MethodName := ⟨RX11, "owes", "(I)V"⟩
abbrev cX11_yearOn : ByteArray := prog_13_method_22_code
def yX11_yearOn : MethodName := ⟨RX11, "yearOn", "()V"⟩
abbrev cX11_goYears : ByteArray := prog_13_method_23_code
def yX11_goYears : MethodName := ⟨RX11, "goYears", "(I)V"⟩
abbrev cX11_feed : ByteArray := prog_13_method_24_code
def yX11_feed : MethodName := ⟨RX11, "feed", "(I)I"⟩
abbrev cX11_here : ByteArray := prog_13_method_25_code
def yX11_here : MethodName := ⟨RX11, "here", "()I"⟩
abbrev cX11_readDigits : ByteArray := prog_13_method_26_code
def yX11_readDigits : MethodName := ⟨RX11, "readDigits", "(I)I"⟩
abbrev cX11_isLetter : ByteArray := prog_13_method_27_code
def yX11_isLetter : MethodName := ⟨RX11, "isLetter", "(I)Z"⟩
abbrev cX11_readNumbers : ByteArray := prog_13_method_28_code
def yX11_readNumbers : MethodName := ⟨RX11, "readNumbers", "(II)V"⟩
abbrev cX11_readStatement : ByteArray := prog_13_method_29_code
def yX11_readStatement : MethodName := ⟨RX11, "readStatement", "()V"⟩
abbrev cX11_familyComes : ByteArray := prog_13_method_30_code
def yX11_familyComes : MethodName := ⟨RX11, "familyComes", "(III)V"⟩
abbrev cX11_workComes : ByteArray := prog_13_method_31_code
def yX11_workComes : MethodName := ⟨RX11, "workComes", "(III)V"⟩
abbrev cX11_comesTold : ByteArray := prog_13_method_32_code
def yX11_comesTold : MethodName := ⟨RX11, "comesTold", "(I)Z"⟩
abbrev cX11_treasury : ByteArray := prog_13_method_33_code
def yX11_treasury : MethodName := ⟨RX11, "treasury", "()I"⟩
abbrev cX11_carry : ByteArray := prog_13_method_34_code
def yX11_carry : MethodName := ⟨RX11, "carry", "(I)I"⟩
abbrev cX11_carryAll : ByteArray := prog_13_method_35_code
def yX11_carryAll : MethodName := ⟨RX11, "carryAll", "([IZ)V"⟩
abbrev cX11_think : ByteArray := prog_13_method_36_code
def yX11_think : MethodName := ⟨RX11, "think", "()V"⟩
abbrev cX11_again : ByteArray := prog_13_method_37_code
def yX11_again : MethodName := ⟨RX11, "again", "()V"⟩
abbrev cX11_image : ByteArray := prog_13_method_38_code
def yX11_image : MethodName := ⟨RX11, "image", "()I"⟩
abbrev cX11_restore : ByteArray := prog_13_method_39_code
def yX11_restore : MethodName := ⟨RX11, "restore", "()I"⟩
abbrev cX11_keepTurn : ByteArray := prog_13_method_40_code
def yX11_keepTurn : MethodName := ⟨RX11, "keepTurn", "()V"⟩
abbrev cX11_back : ByteArray := prog_13_method_41_code
def yX11_back : MethodName := ⟨RX11, "back", "()I"⟩
abbrev cX11_familyOf : ByteArray := prog_13_method_42_code
def yX11_familyOf : MethodName := ⟨RX11, "familyOf", "(II)I"⟩
abbrev cX11_workOf : ByteArray := prog_13_method_43_code
def yX11_workOf : MethodName := ⟨RX11, "workOf", "(II)I"⟩
abbrev cX11_family : ByteArray := prog_13_method_44_code
def yX11_family : MethodName := ⟨RX11, "family", "(III)I"⟩
abbrev cX11_work : ByteArray := prog_13_method_45_code
def yX11_work : MethodName := ⟨RX11, "work", "(III)I"⟩
abbrev cX11_builds : ByteArray := prog_13_method_46_code
def yX11_builds : MethodName := ⟨RX11, "builds", "(I)I"⟩
abbrev cX11_years : ByteArray := prog_13_method_47_code
def yX11_years : MethodName := ⟨RX11, "years", "(I)I"⟩
abbrev cX11_debt : ByteArray := prog_13_method_48_code
def yX11_debt : MethodName := ⟨RX11, "debt", "(II)I"⟩
abbrev cX11_rate : ByteArray := prog_13_method_49_code
def yX11_rate : MethodName := ⟨RX11, "rate", "(I)I"⟩
abbrev cX11_behind : ByteArray := prog_13_method_50_code
def yX11_behind : MethodName := ⟨RX11, "behind", "(III)I"⟩
abbrev cX11_allIn : ByteArray := prog_13_method_51_code
def yX11_allIn : MethodName := ⟨RX11, "allIn", "(I)I"⟩
abbrev cX11_all : ByteArray := prog_13_method_52_code
def yX11_all : MethodName := ⟨RX11, "all", "(I)I"⟩
abbrev cX11_solventIn : ByteArray := prog_13_method_53_code
def yX11_solventIn : MethodName := ⟨RX11, "solventIn", "(I)I"⟩
abbrev cX11_solvent : ByteArray := prog_13_method_54_code
def yX11_solvent : MethodName := ⟨RX11, "solvent", "(I)I"⟩
abbrev cX11_stuckIn : ByteArray := prog_13_method_55_code
def yX11_stuckIn : MethodName := ⟨RX11, "stuckIn", "()I"⟩
abbrev cX11_growBits : ByteArray := prog_13_method_56_code
def yX11_growBits : MethodName := ⟨RX11, "growBits", "()I"⟩
abbrev cX11_first : ByteArray := prog_13_method_57_code
def yX11_first : MethodName := ⟨RX11, "first", "(I)I"⟩
abbrev cX11_highest : ByteArray := prog_13_method_58_code
def yX11_highest : MethodName := ⟨RX11, "highest", "(III)I"⟩
abbrev cX11_noneOwes : ByteArray := prog_13_method_59_code
def yX11_noneOwes : MethodName := ⟨RX11, "noneOwes", "(I)Z"⟩
abbrev cX11_builtBits : ByteArray := prog_13_method_60_code
def yX11_builtBits : MethodName := ⟨RX11, "builtBits", "()I"⟩
abbrev cX11_buildAll : ByteArray := prog_13_method_61_code
def yX11_buildAll : MethodName := ⟨RX11, "buildAll", "(I)V"⟩
abbrev cX11_building : ByteArray := prog_13_method_62_code
def yX11_building : MethodName := ⟨RX11, "building", "(III)I"⟩
abbrev cX11_oneMore : ByteArray := prog_13_method_63_code
def yX11_oneMore : MethodName := ⟨RX11, "oneMore", "(I)I"⟩
abbrev cX11_share : ByteArray := prog_13_method_64_code
def yX11_share : MethodName := ⟨RX11, "share", "(II)I"⟩
abbrev cX11_pulledDown : ByteArray := prog_13_method_65_code
def yX11_pulledDown : MethodName := ⟨RX11, "pulledDown", "(III)I"⟩
abbrev cX11_headIn : ByteArray := prog_13_method_66_code
def yX11_headIn : MethodName := ⟨RX11, "headIn", "(II)I"⟩
abbrev cX11_mergedIn : ByteArray := prog_13_method_67_code
def yX11_mergedIn : MethodName := ⟨RX11, "mergedIn", "(III)I"⟩
abbrev cX11_merger : ByteArray := prog_13_method_68_code
def yX11_merger : MethodName := ⟨RX11, "merger", "(III)I"⟩
abbrev cX11_bestMerger : ByteArray := prog_13_method_69_code
def yX11_bestMerger : MethodName := ⟨RX11, "bestMerger", "(I)I"⟩
abbrev cX11_divisor : ByteArray := prog_13_method_70_code
def yX11_divisor : MethodName := ⟨RX11, "divisor", "(JJ)J"⟩
abbrev cX11_partOf : ByteArray := prog_13_method_71_code
def yX11_partOf : MethodName := ⟨RX11, "partOf", "(JJI)J"⟩
abbrev cX11_child : ByteArray := prog_13_method_72_code
def yX11_child : MethodName := ⟨RX11, "child", "(II)J"⟩
abbrev cX11_cheapest : ByteArray := prog_13_method_73_code
def yX11_cheapest : MethodName := ⟨RX11, "cheapest", "(II)I"⟩
abbrev cX11_burden : ByteArray := prog_13_method_74_code
def yX11_burden : MethodName := ⟨RX11, "burden", "(III)I"⟩
abbrev cX11_treaty : ByteArray := prog_13_method_75_code
def yX11_treaty : MethodName := ⟨RX11, "treaty", "(III)I"⟩
abbrev cX11_signature : ByteArray := prog_13_method_76_code
def yX11_signature : MethodName := ⟨RX11, "signature", "(II)I"⟩
abbrev cX11_whoBuilt : ByteArray := prog_13_method_77_code
def yX11_whoBuilt : MethodName := ⟨RX11, "whoBuilt", "(I)I"⟩
abbrev cX11_births : ByteArray := prog_13_method_78_code
def yX11_births : MethodName := ⟨RX11, "births", "(IIIII)J"⟩
abbrev cX11_oldest : ByteArray := prog_13_method_79_code
def yX11_oldest : MethodName := ⟨RX11, "oldest", "(I)I"⟩
abbrev cX11_ordersOf : ByteArray := prog_13_method_80_code
def yX11_ordersOf : MethodName := ⟨RX11, "ordersOf", "(I)I"⟩
abbrev cX11_layOrder : ByteArray := prog_13_method_81_code
def yX11_layOrder : MethodName := ⟨RX11, "layOrder", "(II)V"⟩
abbrev cX11_order : ByteArray := prog_13_method_82_code
def yX11_order : MethodName := ⟨RX11, "order", "(I)I"⟩
abbrev cX11_jubilee : ByteArray := prog_13_method_83_code
def yX11_jubilee : MethodName := ⟨RX11, "jubilee", "(I)I"⟩
abbrev cX11_fair : ByteArray := prog_13_method_84_code
def yX11_fair : MethodName := ⟨RX11, "fair", "(I)I"⟩
abbrev cX11_peak : ByteArray := prog_13_method_85_code
def yX11_peak : MethodName := ⟨RX11, "peak", "(III)I"⟩
abbrev cX11_interest : ByteArray := prog_13_method_86_code
def yX11_interest : MethodName := ⟨RX11, "interest", "(II)I"⟩
abbrev cX11_doubled : ByteArray := prog_13_method_87_code
def yX11_doubled : MethodName := ⟨RX11, "doubled", "(I)I"⟩
abbrev cX11_commonPay : ByteArray := prog_13_method_88_code
def yX11_commonPay : MethodName := ⟨RX11, "commonPay", "(II)I"⟩
abbrev cX11_bestBirths : ByteArray := prog_13_method_89_code
def yX11_bestBirths : MethodName := ⟨RX11, "bestBirths", "(II)I"⟩
abbrev cX11_lump : ByteArray := prog_13_method_90_code
def yX11_lump : MethodName := ⟨RX11, "lump", "(II)I"⟩
abbrev cX11_crosses : ByteArray := prog_13_method_91_code
def yX11_crosses : MethodName := ⟨RX11, "crosses", "(II)I"⟩
abbrev cX11_heir : ByteArray := prog_13_method_92_code
def yX11_heir : MethodName := ⟨RX11, "heir", "(I)I"⟩
abbrev cX11_rank : ByteArray := prog_13_method_93_code
def yX11_rank : MethodName := ⟨RX11, "rank", "(I)I"⟩
abbrev cX11_half : ByteArray := prog_13_method_94_code
def yX11_half : MethodName := ⟨RX11, "half", "()I"⟩
abbrev cX11_row : ByteArray := prog_13_method_95_code
def yX11_row : MethodName := ⟨RX11, "row", "(I)I"⟩
abbrev cX11_judge : ByteArray := prog_13_method_96_code
def yX11_judge : MethodName := ⟨RX11, "judge", "(I)I"⟩
abbrev cX11_clear : ByteArray := prog_13_method_97_code
def yX11_clear : MethodName := ⟨RX11, "clear", "()I"⟩
abbrev cX11_drawBelow : ByteArray := prog_13_method_98_code
def yX11_drawBelow : MethodName := ⟨RX11, "drawBelow", "(I)I"⟩
abbrev cX11_lots : ByteArray := prog_13_method_99_code
def yX11_lots : MethodName := ⟨RX11, "lots", "(III)I"⟩
abbrev cX11_count : ByteArray := prog_13_method_100_code
def yX11_count : MethodName := ⟨RX11, "count", "(I)I"⟩
def RJ9 : String := "java/lang/Math"
def TJ9 : u_T := fun k => match k with
  | _ => ("", "", "", false)
def tyJ9 : Nat → FieldType := fun k => match k with
  | _ => .int
abbrev wsJ90 : List Cond := u_ws RJ9 TJ9 0
theorem nmJ9 : ∀ a, a < 0 → ∀ b, b < 0 → a ≠ b → (TJ9 a).2.1 ≠ (TJ9 b).2.1 := by decide +kernel
theorem tyJ9_ok : ∀ k, k < 0 → parseFieldDescriptor (TJ9 k).2.2.1 = some (tyJ9 k) := by decide +kernel
abbrev cJ9_max_7cf53 : ByteArray := prog_14_method_65_code
def yJ9_max_7cf53 : MethodName := ⟨RJ9, "max", "(II)I"⟩
abbrev cJ9_min_7cf53 : ByteArray := prog_14_method_69_code
def yJ9_min_7cf53 : MethodName := ⟨RJ9, "min", "(II)I"⟩
def RJ10 : String := "java/lang/System"
def TJ10 : u_T := fun k => match k with
  | _ => ("", "", "", false)
def tyJ10 : Nat → FieldType := fun k => match k with
  | _ => .int
abbrev wsJ100 : List Cond := u_ws RJ10 TJ10 0
theorem nmJ10 : ∀ a, a < 0 → ∀ b, b < 0 → a ≠ b → (TJ10 a).2.1 ≠ (TJ10 b).2.1 := by decide +kernel
theorem tyJ10_ok : ∀ k, k < 0 → parseFieldDescriptor (TJ10 k).2.2.1 = some (tyJ10 k) := by decide +kernel
def RL : String := "PaidByTheUnbornLaw"
abbrev cL_law : ByteArray := code
def yL_law : MethodName := ⟨RL, "law", "([I)Z"⟩
abbrev vwCl : List vw_C := [(RX0, TX0, 2), (RX1, TX1, 2), (RX2, TX2, 7), (RX3, TX3, 10), (RX4, TX4, 3), (RX5, TX5, 2), (RX6, TX6, 2), (RX7, TX7, 2), (RX8, TX8, 2), (RX9, TX9, 2), (RX10, TX10, 13), (RX11, TX11, 40)]
