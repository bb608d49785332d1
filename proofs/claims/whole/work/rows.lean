section
-- ===== PART A: goes FIRST, ahead of the names: the tables' words, and 'selects' of the private methods out of them =====
/-- a private method of a class that the tables say can be made, by its rows of tables_1 -/
def lw_okq (q : MethodName × Nat) : Prop := (q.1.cls ≠ "java/lang/invoke/MethodHandle" ∧ q.1.cls ≠ "java/lang/invoke/VarHandle") ∧ Cond.instantiable q.1.cls q.2 ∈ tables_1 ∧ Cond.privateMethod q.1 ∈ tables_1 ∧ Cond.instanceMethod q.1 ∈ tables_1
theorem lw_p0 : lw_okq (⟨"PaidByTheUnborn", "refused", "(I)I"⟩, 13) := ⟨⟨by decide +kernel, by decide +kernel⟩, List.mem_of_getElem? (i := 16) (by decide +kernel), List.mem_of_getElem? (i := 196) (by decide +kernel), List.mem_of_getElem? (i := 197) (by decide +kernel)⟩
theorem lw_p1 : lw_okq (⟨"PaidByTheUnborn$Text", "placeBehind", "(I)I"⟩, 2) := ⟨⟨by decide +kernel, by decide +kernel⟩, List.mem_of_getElem? (i := 129) (by decide +kernel), List.mem_of_getElem? (i := 232) (by decide +kernel), List.mem_of_getElem? (i := 233) (by decide +kernel)⟩
theorem lw_p2 : lw_okq (⟨"PaidByTheUnborn$Text", "letterAt", "(I)I"⟩, 2) := ⟨⟨by decide +kernel, by decide +kernel⟩, List.mem_of_getElem? (i := 129) (by decide +kernel), List.mem_of_getElem? (i := 236) (by decide +kernel), List.mem_of_getElem? (i := 237) (by decide +kernel)⟩
theorem lw_p3 : lw_okq (⟨"PaidByTheUnborn$Text", "number", "(II)I"⟩, 2) := ⟨⟨by decide +kernel, by decide +kernel⟩, List.mem_of_getElem? (i := 129) (by decide +kernel), List.mem_of_getElem? (i := 250) (by decide +kernel), List.mem_of_getElem? (i := 251) (by decide +kernel)⟩
theorem lw_p4 : lw_okq (⟨"PaidByTheUnborn$Ledger", "shareLeftOver", "(II)V"⟩, 10) := ⟨⟨by decide +kernel, by decide +kernel⟩, List.mem_of_getElem? (i := 24) (by decide +kernel), List.mem_of_getElem? (i := 395) (by decide +kernel), List.mem_of_getElem? (i := 396) (by decide +kernel)⟩
theorem lw_p5 : lw_okq (⟨"PaidByTheUnborn", "withoutPast", "(I)I"⟩, 13) := ⟨⟨by decide +kernel, by decide +kernel⟩, List.mem_of_getElem? (i := 16) (by decide +kernel), List.mem_of_getElem? (i := 555) (by decide +kernel), List.mem_of_getElem? (i := 556) (by decide +kernel)⟩
theorem lw_p6 : lw_okq (⟨"PaidByTheUnborn", "withPast", "(I)I"⟩, 13) := ⟨⟨by decide +kernel, by decide +kernel⟩, List.mem_of_getElem? (i := 16) (by decide +kernel), List.mem_of_getElem? (i := 569) (by decide +kernel), List.mem_of_getElem? (i := 570) (by decide +kernel)⟩
theorem lw_p7 : lw_okq (⟨"PaidByTheUnborn$Past", "kept", "(I)LPaidByTheUnborn$Ledger;"⟩, 3) := ⟨⟨by decide +kernel, by decide +kernel⟩, List.mem_of_getElem? (i := 109) (by decide +kernel), List.mem_of_getElem? (i := 577) (by decide +kernel), List.mem_of_getElem? (i := 578) (by decide +kernel)⟩
theorem lw_p8 : lw_okq (⟨"PaidByTheUnborn", "noFamilyAhead", "(II)I"⟩, 13) := ⟨⟨by decide +kernel, by decide +kernel⟩, List.mem_of_getElem? (i := 16) (by decide +kernel), List.mem_of_getElem? (i := 604) (by decide +kernel), List.mem_of_getElem? (i := 605) (by decide +kernel)⟩
theorem lw_p9 : lw_okq (⟨"PaidByTheUnborn", "ahead", "(II)V"⟩, 13) := ⟨⟨by decide +kernel, by decide +kernel⟩, List.mem_of_getElem? (i := 16) (by decide +kernel), List.mem_of_getElem? (i := 611) (by decide +kernel), List.mem_of_getElem? (i := 612) (by decide +kernel)⟩
theorem lw_p10 : lw_okq (⟨"PaidByTheUnborn", "freeBehind", "(II)I"⟩, 13) := ⟨⟨by decide +kernel, by decide +kernel⟩, List.mem_of_getElem? (i := 16) (by decide +kernel), List.mem_of_getElem? (i := 633) (by decide +kernel), List.mem_of_getElem? (i := 634) (by decide +kernel)⟩
theorem lw_p11 : lw_okq (⟨"PaidByTheUnborn", "firstFree", "()I"⟩, 13) := ⟨⟨by decide +kernel, by decide +kernel⟩, List.mem_of_getElem? (i := 16) (by decide +kernel), List.mem_of_getElem? (i := 643) (by decide +kernel), List.mem_of_getElem? (i := 644) (by decide +kernel)⟩
theorem lw_p12 : lw_okq (⟨"PaidByTheUnborn", "growing", "()I"⟩, 13) := ⟨⟨by decide +kernel, by decide +kernel⟩, List.mem_of_getElem? (i := 16) (by decide +kernel), List.mem_of_getElem? (i := 647) (by decide +kernel), List.mem_of_getElem? (i := 648) (by decide +kernel)⟩
theorem lw_p13 : lw_okq (⟨"PaidByTheUnborn", "firstStuck", "()I"⟩, 13) := ⟨⟨by decide +kernel, by decide +kernel⟩, List.mem_of_getElem? (i := 16) (by decide +kernel), List.mem_of_getElem? (i := 651) (by decide +kernel), List.mem_of_getElem? (i := 652) (by decide +kernel)⟩
theorem lw_p14 : lw_okq (⟨"PaidByTheUnborn", "highestRate", "(II)I"⟩, 13) := ⟨⟨by decide +kernel, by decide +kernel⟩, List.mem_of_getElem? (i := 16) (by decide +kernel), List.mem_of_getElem? (i := 667) (by decide +kernel), List.mem_of_getElem? (i := 668) (by decide +kernel)⟩
theorem lw_p15 : lw_okq (⟨"PaidByTheUnborn", "leastPay", "(II)I"⟩, 13) := ⟨⟨by decide +kernel, by decide +kernel⟩, List.mem_of_getElem? (i := 16) (by decide +kernel), List.mem_of_getElem? (i := 671) (by decide +kernel), List.mem_of_getElem? (i := 672) (by decide +kernel)⟩
def lw_privs_1 : List (MethodName × Nat) := [(⟨"PaidByTheUnborn", "refused", "(I)I"⟩, 13), (⟨"PaidByTheUnborn$Text", "placeBehind", "(I)I"⟩, 2), (⟨"PaidByTheUnborn$Text", "letterAt", "(I)I"⟩, 2), (⟨"PaidByTheUnborn$Text", "number", "(II)I"⟩, 2), (⟨"PaidByTheUnborn$Ledger", "shareLeftOver", "(II)V"⟩, 10), (⟨"PaidByTheUnborn", "withoutPast", "(I)I"⟩, 13), (⟨"PaidByTheUnborn", "withPast", "(I)I"⟩, 13), (⟨"PaidByTheUnborn$Past", "kept", "(I)LPaidByTheUnborn$Ledger;"⟩, 3), (⟨"PaidByTheUnborn", "noFamilyAhead", "(II)I"⟩, 13), (⟨"PaidByTheUnborn", "ahead", "(II)V"⟩, 13), (⟨"PaidByTheUnborn", "freeBehind", "(II)I"⟩, 13), (⟨"PaidByTheUnborn", "firstFree", "()I"⟩, 13), (⟨"PaidByTheUnborn", "growing", "()I"⟩, 13), (⟨"PaidByTheUnborn", "firstStuck", "()I"⟩, 13), (⟨"PaidByTheUnborn", "highestRate", "(II)I"⟩, 13), (⟨"PaidByTheUnborn", "leastPay", "(II)I"⟩, 13)]
theorem lw_r1 : ∀ q ∈ lw_privs_1, lw_okq q := List.forall_mem_cons.mpr ⟨lw_p0, List.forall_mem_cons.mpr ⟨lw_p1, List.forall_mem_cons.mpr ⟨lw_p2, List.forall_mem_cons.mpr ⟨lw_p3, List.forall_mem_cons.mpr ⟨lw_p4, List.forall_mem_cons.mpr ⟨lw_p5, List.forall_mem_cons.mpr ⟨lw_p6, List.forall_mem_cons.mpr ⟨lw_p7, List.forall_mem_cons.mpr ⟨lw_p8, List.forall_mem_cons.mpr ⟨lw_p9, List.forall_mem_cons.mpr ⟨lw_p10, List.forall_mem_cons.mpr ⟨lw_p11, List.forall_mem_cons.mpr ⟨lw_p12, List.forall_mem_cons.mpr ⟨lw_p13, List.forall_mem_cons.mpr ⟨lw_p14, List.forall_mem_cons.mpr ⟨lw_p15, fun _ h => absurd h List.not_mem_nil⟩⟩⟩⟩⟩⟩⟩⟩⟩⟩⟩⟩⟩⟩⟩⟩
theorem lw_p16 : lw_okq (⟨"PaidByTheUnborn", "isBearable", "(III)Z"⟩, 13) := ⟨⟨by decide +kernel, by decide +kernel⟩, List.mem_of_getElem? (i := 16) (by decide +kernel), List.mem_of_getElem? (i := 690) (by decide +kernel), List.mem_of_getElem? (i := 691) (by decide +kernel)⟩
theorem lw_p17 : lw_okq (⟨"PaidByTheUnborn", "noTwoAhead", "(III)I"⟩, 13) := ⟨⟨by decide +kernel, by decide +kernel⟩, List.mem_of_getElem? (i := 16) (by decide +kernel), List.mem_of_getElem? (i := 729) (by decide +kernel), List.mem_of_getElem? (i := 730) (by decide +kernel)⟩
theorem lw_p18 : lw_okq (⟨"PaidByTheUnborn", "mergedHeadOwes", "(III)I"⟩, 13) := ⟨⟨by decide +kernel, by decide +kernel⟩, List.mem_of_getElem? (i := 16) (by decide +kernel), List.mem_of_getElem? (i := 737) (by decide +kernel), List.mem_of_getElem? (i := 738) (by decide +kernel)⟩
theorem lw_p19 : lw_okq (⟨"PaidByTheUnborn", "headOwesBehind", "(II)I"⟩, 13) := ⟨⟨by decide +kernel, by decide +kernel⟩, List.mem_of_getElem? (i := 16) (by decide +kernel), List.mem_of_getElem? (i := 747) (by decide +kernel), List.mem_of_getElem? (i := 748) (by decide +kernel)⟩
theorem lw_p20 : lw_okq (⟨"PaidByTheUnborn", "cheapestFamily", "()I"⟩, 13) := ⟨⟨by decide +kernel, by decide +kernel⟩, List.mem_of_getElem? (i := 16) (by decide +kernel), List.mem_of_getElem? (i := 766) (by decide +kernel), List.mem_of_getElem? (i := 767) (by decide +kernel)⟩
theorem lw_p21 : lw_okq (⟨"PaidByTheUnborn", "bornFree", "(I)I"⟩, 13) := ⟨⟨by decide +kernel, by decide +kernel⟩, List.mem_of_getElem? (i := 16) (by decide +kernel), List.mem_of_getElem? (i := 774) (by decide +kernel), List.mem_of_getElem? (i := 775) (by decide +kernel)⟩
theorem lw_p22 : lw_okq (⟨"PaidByTheUnborn", "signedPay", "(II)I"⟩, 13) := ⟨⟨by decide +kernel, by decide +kernel⟩, List.mem_of_getElem? (i := 16) (by decide +kernel), List.mem_of_getElem? (i := 782) (by decide +kernel), List.mem_of_getElem? (i := 783) (by decide +kernel)⟩
theorem lw_p23 : lw_okq (⟨"PaidByTheUnborn", "costOfPaying", "(III)I"⟩, 13) := ⟨⟨by decide +kernel, by decide +kernel⟩, List.mem_of_getElem? (i := 16) (by decide +kernel), List.mem_of_getElem? (i := 786) (by decide +kernel), List.mem_of_getElem? (i := 787) (by decide +kernel)⟩
theorem lw_p24 : lw_okq (⟨"PaidByTheUnborn", "isToldBy", "(I)Z"⟩, 13) := ⟨⟨by decide +kernel, by decide +kernel⟩, List.mem_of_getElem? (i := 16) (by decide +kernel), List.mem_of_getElem? (i := 801) (by decide +kernel), List.mem_of_getElem? (i := 802) (by decide +kernel)⟩
theorem lw_p25 : lw_okq (⟨"PaidByTheUnborn", "isTold", "(II)Z"⟩, 13) := ⟨⟨by decide +kernel, by decide +kernel⟩, List.mem_of_getElem? (i := 16) (by decide +kernel), List.mem_of_getElem? (i := 805) (by decide +kernel), List.mem_of_getElem? (i := 806) (by decide +kernel)⟩
theorem lw_p26 : lw_okq (⟨"PaidByTheUnborn", "bearByChance", "(III)V"⟩, 13) := ⟨⟨by decide +kernel, by decide +kernel⟩, List.mem_of_getElem? (i := 16) (by decide +kernel), List.mem_of_getElem? (i := 816) (by decide +kernel), List.mem_of_getElem? (i := 817) (by decide +kernel)⟩
theorem lw_p27 : lw_okq (⟨"PaidByTheUnborn", "arrange", "(II)V"⟩, 13) := ⟨⟨by decide +kernel, by decide +kernel⟩, List.mem_of_getElem? (i := 16) (by decide +kernel), List.mem_of_getElem? (i := 842) (by decide +kernel), List.mem_of_getElem? (i := 843) (by decide +kernel)⟩
theorem lw_p28 : lw_okq (⟨"PaidByTheUnborn", "debtsAsTried", "(I)I"⟩, 13) := ⟨⟨by decide +kernel, by decide +kernel⟩, List.mem_of_getElem? (i := 16) (by decide +kernel), List.mem_of_getElem? (i := 850) (by decide +kernel), List.mem_of_getElem? (i := 851) (by decide +kernel)⟩
theorem lw_p29 : lw_okq (⟨"PaidByTheUnborn", "ranked", "(I)I"⟩, 13) := ⟨⟨by decide +kernel, by decide +kernel⟩, List.mem_of_getElem? (i := 16) (by decide +kernel), List.mem_of_getElem? (i := 866) (by decide +kernel), List.mem_of_getElem? (i := 867) (by decide +kernel)⟩
theorem lw_p30 : lw_okq (⟨"PaidByTheUnborn", "ranksAbove", "(I)I"⟩, 13) := ⟨⟨by decide +kernel, by decide +kernel⟩, List.mem_of_getElem? (i := 16) (by decide +kernel), List.mem_of_getElem? (i := 870) (by decide +kernel), List.mem_of_getElem? (i := 871) (by decide +kernel)⟩
theorem lw_p31 : lw_okq (⟨"PaidByTheUnbornModel", "refuse", "(I)I"⟩, 40) := ⟨⟨by decide +kernel, by decide +kernel⟩, List.mem_of_getElem? (i := 959) (by decide +kernel), List.mem_of_getElem? (i := 1090) (by decide +kernel), List.mem_of_getElem? (i := 1091) (by decide +kernel)⟩
def lw_privs_2 : List (MethodName × Nat) := [(⟨"PaidByTheUnborn", "isBearable", "(III)Z"⟩, 13), (⟨"PaidByTheUnborn", "noTwoAhead", "(III)I"⟩, 13), (⟨"PaidByTheUnborn", "mergedHeadOwes", "(III)I"⟩, 13), (⟨"PaidByTheUnborn", "headOwesBehind", "(II)I"⟩, 13), (⟨"PaidByTheUnborn", "cheapestFamily", "()I"⟩, 13), (⟨"PaidByTheUnborn", "bornFree", "(I)I"⟩, 13), (⟨"PaidByTheUnborn", "signedPay", "(II)I"⟩, 13), (⟨"PaidByTheUnborn", "costOfPaying", "(III)I"⟩, 13), (⟨"PaidByTheUnborn", "isToldBy", "(I)Z"⟩, 13), (⟨"PaidByTheUnborn", "isTold", "(II)Z"⟩, 13), (⟨"PaidByTheUnborn", "bearByChance", "(III)V"⟩, 13), (⟨"PaidByTheUnborn", "arrange", "(II)V"⟩, 13), (⟨"PaidByTheUnborn", "debtsAsTried", "(I)I"⟩, 13), (⟨"PaidByTheUnborn", "ranked", "(I)I"⟩, 13), (⟨"PaidByTheUnborn", "ranksAbove", "(I)I"⟩, 13), (⟨"PaidByTheUnbornModel", "refuse", "(I)I"⟩, 40)]
theorem lw_r2 : ∀ q ∈ lw_privs_2, lw_okq q := List.forall_mem_cons.mpr ⟨lw_p16, List.forall_mem_cons.mpr ⟨lw_p17, List.forall_mem_cons.mpr ⟨lw_p18, List.forall_mem_cons.mpr ⟨lw_p19, List.forall_mem_cons.mpr ⟨lw_p20, List.forall_mem_cons.mpr ⟨lw_p21, List.forall_mem_cons.mpr ⟨lw_p22, List.forall_mem_cons.mpr ⟨lw_p23, List.forall_mem_cons.mpr ⟨lw_p24, List.forall_mem_cons.mpr ⟨lw_p25, List.forall_mem_cons.mpr ⟨lw_p26, List.forall_mem_cons.mpr ⟨lw_p27, List.forall_mem_cons.mpr ⟨lw_p28, List.forall_mem_cons.mpr ⟨lw_p29, List.forall_mem_cons.mpr ⟨lw_p30, List.forall_mem_cons.mpr ⟨lw_p31, fun _ h => absurd h List.not_mem_nil⟩⟩⟩⟩⟩⟩⟩⟩⟩⟩⟩⟩⟩⟩⟩⟩
theorem lw_p32 : lw_okq (⟨"PaidByTheUnbornModel", "readStatement", "()V"⟩, 40) := ⟨⟨by decide +kernel, by decide +kernel⟩, List.mem_of_getElem? (i := 959) (by decide +kernel), List.mem_of_getElem? (i := 1098) (by decide +kernel), List.mem_of_getElem? (i := 1099) (by decide +kernel)⟩
theorem lw_p33 : lw_okq (⟨"PaidByTheUnbornModel", "here", "()I"⟩, 40) := ⟨⟨by decide +kernel, by decide +kernel⟩, List.mem_of_getElem? (i := 959) (by decide +kernel), List.mem_of_getElem? (i := 1102) (by decide +kernel), List.mem_of_getElem? (i := 1103) (by decide +kernel)⟩
theorem lw_p34 : lw_okq (⟨"PaidByTheUnbornModel", "readNumbers", "(II)V"⟩, 40) := ⟨⟨by decide +kernel, by decide +kernel⟩, List.mem_of_getElem? (i := 959) (by decide +kernel), List.mem_of_getElem? (i := 1109) (by decide +kernel), List.mem_of_getElem? (i := 1110) (by decide +kernel)⟩
theorem lw_p35 : lw_okq (⟨"PaidByTheUnbornModel", "readDigits", "(I)I"⟩, 40) := ⟨⟨by decide +kernel, by decide +kernel⟩, List.mem_of_getElem? (i := 959) (by decide +kernel), List.mem_of_getElem? (i := 1113) (by decide +kernel), List.mem_of_getElem? (i := 1114) (by decide +kernel)⟩
theorem lw_p36 : lw_okq (⟨"PaidByTheUnbornModel", "think", "()V"⟩, 40) := ⟨⟨by decide +kernel, by decide +kernel⟩, List.mem_of_getElem? (i := 959) (by decide +kernel), List.mem_of_getElem? (i := 1122) (by decide +kernel), List.mem_of_getElem? (i := 1123) (by decide +kernel)⟩
theorem lw_p37 : lw_okq (⟨"PaidByTheUnbornModel", "carryAll", "([IZ)V"⟩, 40) := ⟨⟨by decide +kernel, by decide +kernel⟩, List.mem_of_getElem? (i := 959) (by decide +kernel), List.mem_of_getElem? (i := 1126) (by decide +kernel), List.mem_of_getElem? (i := 1127) (by decide +kernel)⟩
theorem lw_p38 : lw_okq (⟨"PaidByTheUnbornModel", "carry", "(I)I"⟩, 40) := ⟨⟨by decide +kernel, by decide +kernel⟩, List.mem_of_getElem? (i := 959) (by decide +kernel), List.mem_of_getElem? (i := 1130) (by decide +kernel), List.mem_of_getElem? (i := 1131) (by decide +kernel)⟩
theorem lw_p39 : lw_okq (⟨"PaidByTheUnbornModel", "comesTold", "(I)Z"⟩, 40) := ⟨⟨by decide +kernel, by decide +kernel⟩, List.mem_of_getElem? (i := 959) (by decide +kernel), List.mem_of_getElem? (i := 1134) (by decide +kernel), List.mem_of_getElem? (i := 1135) (by decide +kernel)⟩
theorem lw_p40 : lw_okq (⟨"PaidByTheUnbornModel", "familyComes", "(III)V"⟩, 40) := ⟨⟨by decide +kernel, by decide +kernel⟩, List.mem_of_getElem? (i := 959) (by decide +kernel), List.mem_of_getElem? (i := 1139) (by decide +kernel), List.mem_of_getElem? (i := 1140) (by decide +kernel)⟩
theorem lw_p41 : lw_okq (⟨"PaidByTheUnbornModel", "workComes", "(III)V"⟩, 40) := ⟨⟨by decide +kernel, by decide +kernel⟩, List.mem_of_getElem? (i := 959) (by decide +kernel), List.mem_of_getElem? (i := 1143) (by decide +kernel), List.mem_of_getElem? (i := 1144) (by decide +kernel)⟩
theorem lw_p42 : lw_okq (⟨"PaidByTheUnbornModel", "isWork", "(I)Z"⟩, 40) := ⟨⟨by decide +kernel, by decide +kernel⟩, List.mem_of_getElem? (i := 959) (by decide +kernel), List.mem_of_getElem? (i := 1147) (by decide +kernel), List.mem_of_getElem? (i := 1148) (by decide +kernel)⟩
theorem lw_p43 : lw_okq (⟨"PaidByTheUnbornModel", "build", "(I)V"⟩, 40) := ⟨⟨by decide +kernel, by decide +kernel⟩, List.mem_of_getElem? (i := 959) (by decide +kernel), List.mem_of_getElem? (i := 1151) (by decide +kernel), List.mem_of_getElem? (i := 1152) (by decide +kernel)⟩
theorem lw_p44 : lw_okq (⟨"PaidByTheUnbornModel", "layShares", "(I)V"⟩, 40) := ⟨⟨by decide +kernel, by decide +kernel⟩, List.mem_of_getElem? (i := 959) (by decide +kernel), List.mem_of_getElem? (i := 1155) (by decide +kernel), List.mem_of_getElem? (i := 1156) (by decide +kernel)⟩
theorem lw_p45 : lw_okq (⟨"PaidByTheUnbornModel", "layParts", "(I)V"⟩, 40) := ⟨⟨by decide +kernel, by decide +kernel⟩, List.mem_of_getElem? (i := 959) (by decide +kernel), List.mem_of_getElem? (i := 1159) (by decide +kernel), List.mem_of_getElem? (i := 1160) (by decide +kernel)⟩
theorem lw_p46 : lw_okq (⟨"PaidByTheUnbornModel", "mostHeads", "()I"⟩, 40) := ⟨⟨by decide +kernel, by decide +kernel⟩, List.mem_of_getElem? (i := 959) (by decide +kernel), List.mem_of_getElem? (i := 1163) (by decide +kernel), List.mem_of_getElem? (i := 1164) (by decide +kernel)⟩
theorem lw_p47 : lw_okq (⟨"PaidByTheUnbornModel", "leastDebt", "()I"⟩, 40) := ⟨⟨by decide +kernel, by decide +kernel⟩, List.mem_of_getElem? (i := 959) (by decide +kernel), List.mem_of_getElem? (i := 1167) (by decide +kernel), List.mem_of_getElem? (i := 1168) (by decide +kernel)⟩
def lw_privs_3 : List (MethodName × Nat) := [(⟨"PaidByTheUnbornModel", "readStatement", "()V"⟩, 40), (⟨"PaidByTheUnbornModel", "here", "()I"⟩, 40), (⟨"PaidByTheUnbornModel", "readNumbers", "(II)V"⟩, 40), (⟨"PaidByTheUnbornModel", "readDigits", "(I)I"⟩, 40), (⟨"PaidByTheUnbornModel", "think", "()V"⟩, 40), (⟨"PaidByTheUnbornModel", "carryAll", "([IZ)V"⟩, 40), (⟨"PaidByTheUnbornModel", "carry", "(I)I"⟩, 40), (⟨"PaidByTheUnbornModel", "comesTold", "(I)Z"⟩, 40), (⟨"PaidByTheUnbornModel", "familyComes", "(III)V"⟩, 40), (⟨"PaidByTheUnbornModel", "workComes", "(III)V"⟩, 40), (⟨"PaidByTheUnbornModel", "isWork", "(I)Z"⟩, 40), (⟨"PaidByTheUnbornModel", "build", "(I)V"⟩, 40), (⟨"PaidByTheUnbornModel", "layShares", "(I)V"⟩, 40), (⟨"PaidByTheUnbornModel", "layParts", "(I)V"⟩, 40), (⟨"PaidByTheUnbornModel", "mostHeads", "()I"⟩, 40), (⟨"PaidByTheUnbornModel", "leastDebt", "()I"⟩, 40)]
theorem lw_r3 : ∀ q ∈ lw_privs_3, lw_okq q := List.forall_mem_cons.mpr ⟨lw_p32, List.forall_mem_cons.mpr ⟨lw_p33, List.forall_mem_cons.mpr ⟨lw_p34, List.forall_mem_cons.mpr ⟨lw_p35, List.forall_mem_cons.mpr ⟨lw_p36, List.forall_mem_cons.mpr ⟨lw_p37, List.forall_mem_cons.mpr ⟨lw_p38, List.forall_mem_cons.mpr ⟨lw_p39, List.forall_mem_cons.mpr ⟨lw_p40, List.forall_mem_cons.mpr ⟨lw_p41, List.forall_mem_cons.mpr ⟨lw_p42, List.forall_mem_cons.mpr ⟨lw_p43, List.forall_mem_cons.mpr ⟨lw_p44, List.forall_mem_cons.mpr ⟨lw_p45, List.forall_mem_cons.mpr ⟨lw_p46, List.forall_mem_cons.mpr ⟨lw_p47, fun _ h => absurd h List.not_mem_nil⟩⟩⟩⟩⟩⟩⟩⟩⟩⟩⟩⟩⟩⟩⟩⟩
theorem lw_p48 : lw_okq (⟨"PaidByTheUnbornModel", "dueOf", "(I)I"⟩, 40) := ⟨⟨by decide +kernel, by decide +kernel⟩, List.mem_of_getElem? (i := 959) (by decide +kernel), List.mem_of_getElem? (i := 1171) (by decide +kernel), List.mem_of_getElem? (i := 1172) (by decide +kernel)⟩
theorem lw_p49 : lw_okq (⟨"PaidByTheUnbornModel", "lastBuilt", "()I"⟩, 40) := ⟨⟨by decide +kernel, by decide +kernel⟩, List.mem_of_getElem? (i := 959) (by decide +kernel), List.mem_of_getElem? (i := 1179) (by decide +kernel), List.mem_of_getElem? (i := 1180) (by decide +kernel)⟩
theorem lw_p50 : lw_okq (⟨"PaidByTheUnbornModel", "goYears", "(I)V"⟩, 40) := ⟨⟨by decide +kernel, by decide +kernel⟩, List.mem_of_getElem? (i := 959) (by decide +kernel), List.mem_of_getElem? (i := 1184) (by decide +kernel), List.mem_of_getElem? (i := 1185) (by decide +kernel)⟩
theorem lw_p51 : lw_okq (⟨"PaidByTheUnbornModel", "yearOn", "()V"⟩, 40) := ⟨⟨by decide +kernel, by decide +kernel⟩, List.mem_of_getElem? (i := 959) (by decide +kernel), List.mem_of_getElem? (i := 1188) (by decide +kernel), List.mem_of_getElem? (i := 1189) (by decide +kernel)⟩
theorem lw_p52 : lw_okq (⟨"PaidByTheUnbornModel", "owes", "(I)V"⟩, 40) := ⟨⟨by decide +kernel, by decide +kernel⟩, List.mem_of_getElem? (i := 959) (by decide +kernel), List.mem_of_getElem? (i := 1192) (by decide +kernel), List.mem_of_getElem? (i := 1193) (by decide +kernel)⟩
theorem lw_p53 : lw_okq (⟨"PaidByTheUnbornModel", "isFamily", "(I)Z"⟩, 40) := ⟨⟨by decide +kernel, by decide +kernel⟩, List.mem_of_getElem? (i := 959) (by decide +kernel), List.mem_of_getElem? (i := 1196) (by decide +kernel), List.mem_of_getElem? (i := 1197) (by decide +kernel)⟩
theorem lw_p54 : lw_okq (⟨"PaidByTheUnbornModel", "again", "()V"⟩, 40) := ⟨⟨by decide +kernel, by decide +kernel⟩, List.mem_of_getElem? (i := 959) (by decide +kernel), List.mem_of_getElem? (i := 1200) (by decide +kernel), List.mem_of_getElem? (i := 1201) (by decide +kernel)⟩
theorem lw_p55 : lw_okq (⟨"PaidByTheUnbornModel", "headOwes", "(I)I"⟩, 40) := ⟨⟨by decide +kernel, by decide +kernel⟩, List.mem_of_getElem? (i := 959) (by decide +kernel), List.mem_of_getElem? (i := 1221) (by decide +kernel), List.mem_of_getElem? (i := 1222) (by decide +kernel)⟩
theorem lw_p56 : lw_okq (⟨"PaidByTheUnbornModel", "keepTurn", "()V"⟩, 40) := ⟨⟨by decide +kernel, by decide +kernel⟩, List.mem_of_getElem? (i := 959) (by decide +kernel), List.mem_of_getElem? (i := 1242) (by decide +kernel), List.mem_of_getElem? (i := 1243) (by decide +kernel)⟩
theorem lw_p57 : lw_okq (⟨"PaidByTheUnbornModel", "allDebts", "()I"⟩, 40) := ⟨⟨by decide +kernel, by decide +kernel⟩, List.mem_of_getElem? (i := 959) (by decide +kernel), List.mem_of_getElem? (i := 1246) (by decide +kernel), List.mem_of_getElem? (i := 1247) (by decide +kernel)⟩
theorem lw_p58 : lw_okq (⟨"PaidByTheUnbornModel", "allIn", "(I)I"⟩, 40) := ⟨⟨by decide +kernel, by decide +kernel⟩, List.mem_of_getElem? (i := 959) (by decide +kernel), List.mem_of_getElem? (i := 1276) (by decide +kernel), List.mem_of_getElem? (i := 1277) (by decide +kernel)⟩
theorem lw_p59 : lw_okq (⟨"PaidByTheUnbornModel", "solventIn", "(I)I"⟩, 40) := ⟨⟨by decide +kernel, by decide +kernel⟩, List.mem_of_getElem? (i := 959) (by decide +kernel), List.mem_of_getElem? (i := 1284) (by decide +kernel), List.mem_of_getElem? (i := 1285) (by decide +kernel)⟩
theorem lw_p60 : lw_okq (⟨"PaidByTheUnbornModel", "growBits", "()I"⟩, 40) := ⟨⟨by decide +kernel, by decide +kernel⟩, List.mem_of_getElem? (i := 959) (by decide +kernel), List.mem_of_getElem? (i := 1293) (by decide +kernel), List.mem_of_getElem? (i := 1294) (by decide +kernel)⟩
theorem lw_p61 : lw_okq (⟨"PaidByTheUnbornModel", "stuckIn", "()I"⟩, 40) := ⟨⟨by decide +kernel, by decide +kernel⟩, List.mem_of_getElem? (i := 959) (by decide +kernel), List.mem_of_getElem? (i := 1297) (by decide +kernel), List.mem_of_getElem? (i := 1298) (by decide +kernel)⟩
theorem lw_p62 : lw_okq (⟨"PaidByTheUnbornModel", "builtBits", "()I"⟩, 40) := ⟨⟨by decide +kernel, by decide +kernel⟩, List.mem_of_getElem? (i := 959) (by decide +kernel), List.mem_of_getElem? (i := 1309) (by decide +kernel), List.mem_of_getElem? (i := 1310) (by decide +kernel)⟩
theorem lw_p63 : lw_okq (⟨"PaidByTheUnbornModel", "buildAll", "(I)V"⟩, 40) := ⟨⟨by decide +kernel, by decide +kernel⟩, List.mem_of_getElem? (i := 959) (by decide +kernel), List.mem_of_getElem? (i := 1316) (by decide +kernel), List.mem_of_getElem? (i := 1317) (by decide +kernel)⟩
def lw_privs_4 : List (MethodName × Nat) := [(⟨"PaidByTheUnbornModel", "dueOf", "(I)I"⟩, 40), (⟨"PaidByTheUnbornModel", "lastBuilt", "()I"⟩, 40), (⟨"PaidByTheUnbornModel", "goYears", "(I)V"⟩, 40), (⟨"PaidByTheUnbornModel", "yearOn", "()V"⟩, 40), (⟨"PaidByTheUnbornModel", "owes", "(I)V"⟩, 40), (⟨"PaidByTheUnbornModel", "isFamily", "(I)Z"⟩, 40), (⟨"PaidByTheUnbornModel", "again", "()V"⟩, 40), (⟨"PaidByTheUnbornModel", "headOwes", "(I)I"⟩, 40), (⟨"PaidByTheUnbornModel", "keepTurn", "()V"⟩, 40), (⟨"PaidByTheUnbornModel", "allDebts", "()I"⟩, 40), (⟨"PaidByTheUnbornModel", "allIn", "(I)I"⟩, 40), (⟨"PaidByTheUnbornModel", "solventIn", "(I)I"⟩, 40), (⟨"PaidByTheUnbornModel", "growBits", "()I"⟩, 40), (⟨"PaidByTheUnbornModel", "stuckIn", "()I"⟩, 40), (⟨"PaidByTheUnbornModel", "builtBits", "()I"⟩, 40), (⟨"PaidByTheUnbornModel", "buildAll", "(I)V"⟩, 40)]
theorem lw_r4 : ∀ q ∈ lw_privs_4, lw_okq q := List.forall_mem_cons.mpr ⟨lw_p48, List.forall_mem_cons.mpr ⟨lw_p49, List.forall_mem_cons.mpr ⟨lw_p50, List.forall_mem_cons.mpr ⟨lw_p51, List.forall_mem_cons.mpr ⟨lw_p52, List.forall_mem_cons.mpr ⟨lw_p53, List.forall_mem_cons.mpr ⟨lw_p54, List.forall_mem_cons.mpr ⟨lw_p55, List.forall_mem_cons.mpr ⟨lw_p56, List.forall_mem_cons.mpr ⟨lw_p57, List.forall_mem_cons.mpr ⟨lw_p58, List.forall_mem_cons.mpr ⟨lw_p59, List.forall_mem_cons.mpr ⟨lw_p60, List.forall_mem_cons.mpr ⟨lw_p61, List.forall_mem_cons.mpr ⟨lw_p62, List.forall_mem_cons.mpr ⟨lw_p63, fun _ h => absurd h List.not_mem_nil⟩⟩⟩⟩⟩⟩⟩⟩⟩⟩⟩⟩⟩⟩⟩⟩
theorem lw_p64 : lw_okq (⟨"PaidByTheUnbornModel", "noneOwes", "(I)Z"⟩, 40) := ⟨⟨by decide +kernel, by decide +kernel⟩, List.mem_of_getElem? (i := 959) (by decide +kernel), List.mem_of_getElem? (i := 1320) (by decide +kernel), List.mem_of_getElem? (i := 1321) (by decide +kernel)⟩
theorem lw_p65 : lw_okq (⟨"PaidByTheUnbornModel", "mergedIn", "(III)I"⟩, 40) := ⟨⟨by decide +kernel, by decide +kernel⟩, List.mem_of_getElem? (i := 959) (by decide +kernel), List.mem_of_getElem? (i := 1341) (by decide +kernel), List.mem_of_getElem? (i := 1342) (by decide +kernel)⟩
theorem lw_p66 : lw_okq (⟨"PaidByTheUnbornModel", "headIn", "(II)I"⟩, 40) := ⟨⟨by decide +kernel, by decide +kernel⟩, List.mem_of_getElem? (i := 959) (by decide +kernel), List.mem_of_getElem? (i := 1349) (by decide +kernel), List.mem_of_getElem? (i := 1350) (by decide +kernel)⟩
theorem lw_p67 : lw_okq (⟨"PaidByTheUnbornModel", "burden", "(III)I"⟩, 40) := ⟨⟨by decide +kernel, by decide +kernel⟩, List.mem_of_getElem? (i := 959) (by decide +kernel), List.mem_of_getElem? (i := 1372) (by decide +kernel), List.mem_of_getElem? (i := 1373) (by decide +kernel)⟩
theorem lw_p68 : lw_okq (⟨"PaidByTheUnbornModel", "allHeads", "()I"⟩, 40) := ⟨⟨by decide +kernel, by decide +kernel⟩, List.mem_of_getElem? (i := 959) (by decide +kernel), List.mem_of_getElem? (i := 1380) (by decide +kernel), List.mem_of_getElem? (i := 1381) (by decide +kernel)⟩
theorem lw_p69 : lw_okq (⟨"PaidByTheUnbornModel", "layOrder", "(II)V"⟩, 40) := ⟨⟨by decide +kernel, by decide +kernel⟩, List.mem_of_getElem? (i := 959) (by decide +kernel), List.mem_of_getElem? (i := 1403) (by decide +kernel), List.mem_of_getElem? (i := 1404) (by decide +kernel)⟩
theorem lw_p70 : lw_okq (⟨"PaidByTheUnbornModel", "drawBelow", "(I)I"⟩, 40) := ⟨⟨by decide +kernel, by decide +kernel⟩, List.mem_of_getElem? (i := 959) (by decide +kernel), List.mem_of_getElem? (i := 1471) (by decide +kernel), List.mem_of_getElem? (i := 1472) (by decide +kernel)⟩
def lw_privs_5 : List (MethodName × Nat) := [(⟨"PaidByTheUnbornModel", "noneOwes", "(I)Z"⟩, 40), (⟨"PaidByTheUnbornModel", "mergedIn", "(III)I"⟩, 40), (⟨"PaidByTheUnbornModel", "headIn", "(II)I"⟩, 40), (⟨"PaidByTheUnbornModel", "burden", "(III)I"⟩, 40), (⟨"PaidByTheUnbornModel", "allHeads", "()I"⟩, 40), (⟨"PaidByTheUnbornModel", "layOrder", "(II)V"⟩, 40), (⟨"PaidByTheUnbornModel", "drawBelow", "(I)I"⟩, 40)]
theorem lw_r5 : ∀ q ∈ lw_privs_5, lw_okq q := List.forall_mem_cons.mpr ⟨lw_p64, List.forall_mem_cons.mpr ⟨lw_p65, List.forall_mem_cons.mpr ⟨lw_p66, List.forall_mem_cons.mpr ⟨lw_p67, List.forall_mem_cons.mpr ⟨lw_p68, List.forall_mem_cons.mpr ⟨lw_p69, List.forall_mem_cons.mpr ⟨lw_p70, fun _ h => absurd h List.not_mem_nil⟩⟩⟩⟩⟩⟩⟩
def lw_privs : List (MethodName × Nat) := lw_privs_1 ++ (lw_privs_2 ++ (lw_privs_3 ++ (lw_privs_4 ++ (lw_privs_5))))
def lw_tbl : List Cond := k2_sels lw_privs ++ tables_1
theorem lw_privs_ok : ∀ q ∈ lw_privs, lw_okq q := by
  show ∀ q ∈ lw_privs_1 ++ (lw_privs_2 ++ (lw_privs_3 ++ (lw_privs_4 ++ (lw_privs_5)))), lw_okq q
  exact List.forall_mem_append.mpr ⟨lw_r1, List.forall_mem_append.mpr ⟨lw_r2, List.forall_mem_append.mpr ⟨lw_r3, List.forall_mem_append.mpr ⟨lw_r4, lw_r5⟩⟩⟩⟩
-- ===== end of PART A; then your names; then what follows =====
/-! ===== BEGIN words of one list among another's, by their places ===== -/
theorem goodIn_r {big : List Cond} (ws : List Cond) (ps : List Nat) (hp : ws = ps.filterMap (fun i => big[i]?)) (h : ws.all goodWord = true) : GoodIn big ws := by
  intro w hw
  have h1 := List.all_eq_true.mp h w hw
  rw [hp] at hw
  obtain ⟨i, -, hi⟩ := List.mem_filterMap.mp hw
  have hm : w ∈ big := by first | exact List.mem_of_getElem? hi | exact List.getElem?_mem hi
  exact ⟨hm, good_of_word h1⟩
theorem goodIn_app {big a b : List Cond} (ha : GoodIn big a) (hb : GoodIn big b) : GoodIn big (a ++ b) := fun w h => (List.mem_append.mp h).elim (ha w) (hb w)
theorem goodIn_ca {big a b : List Cond} {c : Cond} (ha : GoodIn big (c :: a)) (hb : GoodIn big b) : GoodIn big (c :: (a ++ b)) := fun w h => (List.mem_cons.mp h).elim (fun e => ha w (List.mem_cons.mpr (Or.inl e))) (fun h => (List.mem_append.mp h).elim (fun h => ha w (List.mem_cons.mpr (Or.inr h))) (hb w))
theorem goodIn_sub {big ws : List Cond} (hm : ∀ w ∈ ws, w ∈ big) (h : ws.all goodWord = true) : GoodIn big ws := fun w hw => ⟨hm w hw, good_of_word (List.all_eq_true.mp h w hw)⟩
/-! ===== END ===== -/

/-! ===== BEGIN printed: names, fields, word lists, decode rows ===== -/
def RX0 : String := "PaidByTheUnborn$Bridge"
def TX0 : u_T := fun k => match k with
  | 0 => ("PaidByTheUnborn$Work", "figure", "I", true)
  | _ => ("PaidByTheUnborn$Work", "cost", "I", true)
def tyX0 : Nat → FieldType := fun k => match k with
  | 0 => .int
  | _ => .int
abbrev wsX00 : List Cond := u_ws RX0 TX0 2
theorem nmX0 : ∀ a, a < 2 → ∀ b, b < 2 → a ≠ b → (TX0 a).2.1 ≠ (TX0 b).2.1 := by decide +kernel
theorem tyX0_ok : ∀ k, k < 2 → parseFieldDescriptor (TX0 k).2.2.1 = some (tyX0 k) := by decide +kernel
abbrev cX0_init : ByteArray := prog_2_method_1_code
def yX0_init : MethodName := ⟨RX0, "<init>", "(II)V"⟩
abbrev cX0_kind : ByteArray := prog_2_method_2_code
def yX0_kind : MethodName := ⟨RX0, "kind", "()I"⟩
abbrev cX0_due : ByteArray := prog_2_method_3_code
def yX0_due : MethodName := ⟨RX0, "due", "()I"⟩
abbrev cX0_sharers : ByteArray := prog_2_method_4_code
def yX0_sharers : MethodName := ⟨RX0, "sharers", "(LPaidByTheUnborn$Ledger;)I"⟩
abbrev cX0_shareOut : ByteArray := prog_2_method_5_code
def yX0_shareOut : MethodName := ⟨RX0, "shareOut", "(LPaidByTheUnborn$Ledger;)V"⟩
def RX1 : String := "PaidByTheUnborn$Cradle"
def TX1 : u_T := fun k => match k with
  | 0 => ("PaidByTheUnborn$Work", "figure", "I", true)
  | _ => ("PaidByTheUnborn$Work", "cost", "I", true)
def tyX1 : Nat → FieldType := fun k => match k with
  | 0 => .int
  | _ => .int
abbrev wsX10 : List Cond := u_ws RX1 TX1 2
theorem nmX1 : ∀ a, a < 2 → ∀ b, b < 2 → a ≠ b → (TX1 a).2.1 ≠ (TX1 b).2.1 := by decide +kernel
theorem tyX1_ok : ∀ k, k < 2 → parseFieldDescriptor (TX1 k).2.2.1 = some (tyX1 k) := by decide +kernel
abbrev cX1_init : ByteArray := prog_3_method_1_code
def yX1_init : MethodName := ⟨RX1, "<init>", "(II)V"⟩
abbrev cX1_kind : ByteArray := prog_3_method_2_code
def yX1_kind : MethodName := ⟨RX1, "kind", "()I"⟩
abbrev cX1_due : ByteArray := prog_3_method_3_code
def yX1_due : MethodName := ⟨RX1, "due", "()I"⟩
abbrev cX1_sharers : ByteArray := prog_3_method_4_code
def yX1_sharers : MethodName := ⟨RX1, "sharers", "(LPaidByTheUnborn$Ledger;)I"⟩
def RX2 : String := "PaidByTheUnborn$Family"
def TX2 : u_T := fun k => match k with
  | 0 => ("PaidByTheUnborn$Family", "heads", "I", false)
  | 1 => ("PaidByTheUnborn$Family", "debt", "I", false)
  | 2 => ("PaidByTheUnborn$Family", "pays", "I", false)
  | 3 => ("PaidByTheUnborn$Family", "births", "I", false)
  | 4 => ("PaidByTheUnborn$Family", "added", "I", false)
  | 5 => ("PaidByTheUnborn$Family", "paid", "I", false)
  | _ => ("PaidByTheUnborn$Family", "bornFree", "I", false)
def tyX2 : Nat → FieldType := fun k => match k with
  | 0 => .int
  | 1 => .int
  | 2 => .int
  | 3 => .int
  | 4 => .int
  | 5 => .int
  | _ => .int
abbrev wsX20 : List Cond := u_ws RX2 TX2 7
theorem nmX2 : ∀ a, a < 7 → ∀ b, b < 7 → a ≠ b → (TX2 a).2.1 ≠ (TX2 b).2.1 := by decide +kernel
theorem tyX2_ok : ∀ k, k < 7 → parseFieldDescriptor (TX2 k).2.2.1 = some (tyX2 k) := by decide +kernel
abbrev cX2_init : ByteArray := prog_4_method_1_code
def yX2_init : MethodName := ⟨RX2, "<init>", "()V"⟩
abbrev cX2_become : ByteArray := prog_4_method_2_code
def yX2_become : MethodName := ⟨RX2, "become", "(III)V"⟩
abbrev cX2_copy : ByteArray := prog_4_method_3_code
def yX2_copy : MethodName := ⟨RX2, "copy", "(LPaidByTheUnborn$Family;)V"⟩
abbrev cX2_headOwes : ByteArray := prog_4_method_4_code
def yX2_headOwes : MethodName := ⟨RX2, "headOwes", "()I"⟩
abbrev cX2_isCheaperThan : ByteArray := prog_4_method_5_code
def yX2_isCheaperThan : MethodName := ⟨RX2, "isCheaperThan", "(LPaidByTheUnborn$Family;)Z"⟩
abbrev cX2_owe : ByteArray := prog_4_method_6_code
def yX2_owe : MethodName := ⟨RX2, "owe", "(I)V"⟩
abbrev cX2_pay : ByteArray := prog_4_method_7_code
def yX2_pay : MethodName := ⟨RX2, "pay", "(I)V"⟩
abbrev cX2_settle : ByteArray := prog_4_method_8_code
def yX2_settle : MethodName := ⟨RX2, "settle", "(I)V"⟩
abbrev cX2_bear : ByteArray := prog_4_method_9_code
def yX2_bear : MethodName := ⟨RX2, "bear", "()V"⟩
abbrev cX2_passYear : ByteArray := prog_4_method_10_code
def yX2_passYear : MethodName := ⟨RX2, "passYear", "(II)V"⟩
abbrev cX2_passYears : ByteArray := prog_4_method_11_code
def yX2_passYears : MethodName := ⟨RX2, "passYears", "(III)V"⟩
def RX3 : String := "PaidByTheUnborn$Ledger"
def TX3 : u_T := fun k => match k with
  | 0 => ("PaidByTheUnborn$Ledger", "familyCount", "I", false)
  | 1 => ("PaidByTheUnborn$Ledger", "workCount", "I", false)
  | 2 => ("PaidByTheUnborn$Ledger", "year", "I", false)
  | 3 => ("PaidByTheUnborn$Ledger", "rate", "I", false)
  | 4 => ("PaidByTheUnborn$Ledger", "built", "I", false)
  | 5 => ("PaidByTheUnborn$Ledger", "builtCount", "I", false)
  | 6 => ("PaidByTheUnborn$Ledger", "families", "[LPaidByTheUnborn$Family;", true)
  | 7 => ("PaidByTheUnborn$Ledger", "works", "[LPaidByTheUnborn$Work;", true)
  | 8 => ("PaidByTheUnborn$Ledger", "builtOrder", "[I", true)
  | _ => ("PaidByTheUnborn$Ledger", "shares", "[I", true)
def tyX3 : Nat → FieldType := fun k => match k with
  | 0 => .int
  | 1 => .int
  | 2 => .int
  | 3 => .int
  | 4 => .int
  | 5 => .int
  | 6 => .array (.object "PaidByTheUnborn$Family")
  | 7 => .array (.object "PaidByTheUnborn$Work")
  | 8 => .array .int
  | _ => .array .int
abbrev wsX30 : List Cond := u_ws RX3 TX3 10
theorem nmX3 : ∀ a, a < 10 → ∀ b, b < 10 → a ≠ b → (TX3 a).2.1 ≠ (TX3 b).2.1 := by decide +kernel
theorem tyX3_ok : ∀ k, k < 10 → parseFieldDescriptor (TX3 k).2.2.1 = some (tyX3 k) := by decide +kernel
abbrev cX3_init : ByteArray := prog_5_method_1_code
def yX3_init : MethodName := ⟨RX3, "<init>", "()V"⟩
abbrev cX3_copy : ByteArray := prog_5_method_2_code
def yX3_copy : MethodName := ⟨RX3, "copy", "(LPaidByTheUnborn$Ledger;)V"⟩
abbrev cX3_at : ByteArray := prog_5_method_3_code
def yX3_at : MethodName := ⟨RX3, "at", "(I)LPaidByTheUnborn$Family;"⟩
abbrev cX3_workAt : ByteArray := prog_5_method_4_code
def yX3_workAt : MethodName := ⟨RX3, "workAt", "(I)LPaidByTheUnborn$Work;"⟩
abbrev cX3_builtAs : ByteArray := prog_5_method_5_code
def yX3_builtAs : MethodName := ⟨RX3, "builtAs", "(I)I"⟩
abbrev cX3_isBuilt : ByteArray := prog_5_method_6_code
def yX3_isBuilt : MethodName := ⟨RX3, "isBuilt", "(I)Z"⟩
abbrev cX3_lacksFamily : ByteArray := prog_5_method_7_code
def yX3_lacksFamily : MethodName := ⟨RX3, "lacksFamily", "(I)I"⟩
abbrev cX3_lacksTwo : ByteArray := prog_5_method_8_code
def yX3_lacksTwo : MethodName := ⟨RX3, "lacksTwo", "(II)I"⟩
abbrev cX3_lacksEither : ByteArray := prog_5_method_9_code
def yX3_lacksEither : MethodName := ⟨RX3, "lacksEither", "(II)I"⟩
abbrev cX3_takeFamily : ByteArray := prog_5_method_10_code
def yX3_takeFamily : MethodName := ⟨RX3, "takeFamily", "(III)I"⟩
abbrev cX3_takeWork : ByteArray := prog_5_method_11_code
def yX3_takeWork : MethodName := ⟨RX3, "takeWork", "(III)I"⟩
abbrev cX3_newWork : ByteArray := prog_5_method_12_code
def yX3_newWork : MethodName := ⟨RX3, "newWork", "(III)LPaidByTheUnborn$Work;"⟩
abbrev cX3_build : ByteArray := prog_5_method_13_code
def yX3_build : MethodName := ⟨RX3, "build", "(I)I"⟩
abbrev cX3_takeYears : ByteArray := prog_5_method_14_code
def yX3_takeYears : MethodName := ⟨RX3, "takeYears", "(I)I"⟩
abbrev cX3_takeDebt : ByteArray := prog_5_method_15_code
def yX3_takeDebt : MethodName := ⟨RX3, "takeDebt", "(II)I"⟩
abbrev cX3_takeRate : ByteArray := prog_5_method_16_code
def yX3_takeRate : MethodName := ⟨RX3, "takeRate", "(I)I"⟩
abbrev cX3_passYear : ByteArray := prog_5_method_17_code
def yX3_passYear : MethodName := ⟨RX3, "passYear", "()V"⟩
abbrev cX3_passYears : ByteArray := prog_5_method_18_code
def yX3_passYears : MethodName := ⟨RX3, "passYears", "(I)V"⟩
abbrev cX3_allDebtsBehind : ByteArray := prog_5_method_19_code
def yX3_allDebtsBehind : MethodName := ⟨RX3, "allDebtsBehind", "(I)I"⟩
abbrev cX3_everybody : ByteArray := prog_5_method_20_code
def yX3_everybody : MethodName := ⟨RX3, "everybody", "()I"⟩
abbrev cX3_bearing : ByteArray := prog_5_method_21_code
def yX3_bearing : MethodName := ⟨RX3, "bearing", "()I"⟩
abbrev cX3_headsOf : ByteArray := prog_5_method_22_code
def yX3_headsOf : MethodName := ⟨RX3, "headsOf", "(I)I"⟩
abbrev cX3_mostHeads : ByteArray := prog_5_method_23_code
def yX3_mostHeads : MethodName := ⟨RX3, "mostHeads", "()I"⟩
abbrev cX3_leastDebt : ByteArray := prog_5_method_24_code
def yX3_leastDebt : MethodName := ⟨RX3, "leastDebt", "()I"⟩
abbrev cX3_allDebts : ByteArray := prog_5_method_25_code
def yX3_allDebts : MethodName := ⟨RX3, "allDebts", "()I"⟩
abbrev cX3_oweNothing : ByteArray := prog_5_method_26_code
def yX3_oweNothing : MethodName := ⟨RX3, "oweNothing", "()I"⟩
abbrev cX3_isStuck : ByteArray := prog_5_method_27_code
def yX3_isStuck : MethodName := ⟨RX3, "isStuck", "()Z"⟩
abbrev cX3_shareAlike : ByteArray := prog_5_method_28_code
def yX3_shareAlike : MethodName := ⟨RX3, "shareAlike", "(I)V"⟩
abbrev cX3_shareByHeads : ByteArray := prog_5_method_29_code
def yX3_shareByHeads : MethodName := ⟨RX3, "shareByHeads", "(II)V"⟩
abbrev cX3_shareLeftOver : ByteArray := prog_5_method_30_code
def yX3_shareLeftOver : MethodName := ⟨RX3, "shareLeftOver", "(II)V"⟩
abbrev cX3_shareToOne : ByteArray := prog_5_method_31_code
def yX3_shareToOne : MethodName := ⟨RX3, "shareToOne", "(II)V"⟩
abbrev cX3_shareOf : ByteArray := prog_5_method_32_code
def yX3_shareOf : MethodName := ⟨RX3, "shareOf", "(II)I"⟩
abbrev cX3_oweShares : ByteArray := prog_5_method_33_code
def yX3_oweShares : MethodName := ⟨RX3, "oweShares", "()V"⟩
abbrev cX3_charge : ByteArray := prog_5_method_34_code
def yX3_charge : MethodName := ⟨RX3, "charge", "(I)V"⟩
abbrev cX3_chargeSet : ByteArray := prog_5_method_35_code
def yX3_chargeSet : MethodName := ⟨RX3, "chargeSet", "(I)V"⟩
abbrev cX3_sets : ByteArray := prog_5_method_36_code
def yX3_sets : MethodName := ⟨RX3, "sets", "()I"⟩
abbrev cX3_costOf : ByteArray := prog_5_method_37_code
def yX3_costOf : MethodName := ⟨RX3, "costOf", "(I)I"⟩
abbrev cX3_unusedWork : ByteArray := prog_5_method_38_code
def yX3_unusedWork : MethodName := ⟨RX3, "unusedWork", "(II)I"⟩
def RX4 : String := "PaidByTheUnborn$Past"
def TX4 : u_T := fun k => match k with
  | 0 => ("PaidByTheUnborn$Past", "ledgers", "[LPaidByTheUnborn$Ledger;", true)
  | 1 => ("PaidByTheUnborn$Past", "next", "I", false)
  | _ => ("PaidByTheUnborn$Past", "count", "I", false)
def tyX4 : Nat → FieldType := fun k => match k with
  | 0 => .array (.object "PaidByTheUnborn$Ledger")
  | 1 => .int
  | _ => .int
abbrev wsX40 : List Cond := u_ws RX4 TX4 3
theorem nmX4 : ∀ a, a < 3 → ∀ b, b < 3 → a ≠ b → (TX4 a).2.1 ≠ (TX4 b).2.1 := by decide +kernel
theorem tyX4_ok : ∀ k, k < 3 → parseFieldDescriptor (TX4 k).2.2.1 = some (tyX4 k) := by decide +kernel
abbrev cX4_init : ByteArray := prog_6_method_1_code
def yX4_init : MethodName := ⟨RX4, "<init>", "()V"⟩
abbrev cX4_kept : ByteArray := prog_6_method_2_code
def yX4_kept : MethodName := ⟨RX4, "kept", "(I)LPaidByTheUnborn$Ledger;"⟩
abbrev cX4_keep : ByteArray := prog_6_method_3_code
def yX4_keep : MethodName := ⟨RX4, "keep", "(LPaidByTheUnborn$Ledger;)V"⟩
abbrev cX4_takeBack : ByteArray := prog_6_method_4_code
def yX4_takeBack : MethodName := ⟨RX4, "takeBack", "(LPaidByTheUnborn$Ledger;)V"⟩
abbrev cX4_forget : ByteArray := prog_6_method_5_code
def yX4_forget : MethodName := ⟨RX4, "forget", "()V"⟩
def RX5 : String := "PaidByTheUnborn$Pen"
def TX5 : u_T := fun k => match k with
  | 0 => ("PaidByTheUnborn$Work", "figure", "I", true)
  | _ => ("PaidByTheUnborn$Work", "cost", "I", true)
def tyX5 : Nat → FieldType := fun k => match k with
  | 0 => .int
  | _ => .int
abbrev wsX50 : List Cond := u_ws RX5 TX5 2
theorem nmX5 : ∀ a, a < 2 → ∀ b, b < 2 → a ≠ b → (TX5 a).2.1 ≠ (TX5 b).2.1 := by decide +kernel
theorem tyX5_ok : ∀ k, k < 2 → parseFieldDescriptor (TX5 k).2.2.1 = some (tyX5 k) := by decide +kernel
abbrev cX5_init : ByteArray := prog_7_method_1_code
def yX5_init : MethodName := ⟨RX5, "<init>", "(II)V"⟩
abbrev cX5_kind : ByteArray := prog_7_method_2_code
def yX5_kind : MethodName := ⟨RX5, "kind", "()I"⟩
abbrev cX5_due : ByteArray := prog_7_method_3_code
def yX5_due : MethodName := ⟨RX5, "due", "()I"⟩
abbrev cX5_payer : ByteArray := prog_7_method_4_code
def yX5_payer : MethodName := ⟨RX5, "payer", "(LPaidByTheUnborn$Ledger;)I"⟩
def RX6 : String := "PaidByTheUnborn$Ruin"
def TX6 : u_T := fun k => match k with
  | 0 => ("PaidByTheUnborn$Work", "figure", "I", true)
  | _ => ("PaidByTheUnborn$Work", "cost", "I", true)
def tyX6 : Nat → FieldType := fun k => match k with
  | 0 => .int
  | _ => .int
abbrev wsX60 : List Cond := u_ws RX6 TX6 2
theorem nmX6 : ∀ a, a < 2 → ∀ b, b < 2 → a ≠ b → (TX6 a).2.1 ≠ (TX6 b).2.1 := by decide +kernel
theorem tyX6_ok : ∀ k, k < 2 → parseFieldDescriptor (TX6 k).2.2.1 = some (tyX6 k) := by decide +kernel
abbrev cX6_init : ByteArray := prog_8_method_1_code
def yX6_init : MethodName := ⟨RX6, "<init>", "(II)V"⟩
abbrev cX6_kind : ByteArray := prog_8_method_2_code
def yX6_kind : MethodName := ⟨RX6, "kind", "()I"⟩
abbrev cX6_due : ByteArray := prog_8_method_3_code
def yX6_due : MethodName := ⟨RX6, "due", "()I"⟩
def RX7 : String := "PaidByTheUnborn$Text"
def TX7 : u_T := fun k => match k with
  | 0 => ("PaidByTheUnborn$Text", "letters", "[I", true)
  | _ => ("PaidByTheUnborn$Text", "count", "I", false)
def tyX7 : Nat → FieldType := fun k => match k with
  | 0 => .array .int
  | _ => .int
abbrev wsX70 : List Cond := u_ws RX7 TX7 2
theorem nmX7 : ∀ a, a < 2 → ∀ b, b < 2 → a ≠ b → (TX7 a).2.1 ≠ (TX7 b).2.1 := by decide +kernel
theorem tyX7_ok : ∀ k, k < 2 → parseFieldDescriptor (TX7 k).2.2.1 = some (tyX7 k) := by decide +kernel
abbrev cX7_init : ByteArray := prog_9_method_1_code
def yX7_init : MethodName := ⟨RX7, "<init>", "()V"⟩
abbrev cX7_isFull : ByteArray := prog_9_method_2_code
def yX7_isFull : MethodName := ⟨RX7, "isFull", "()Z"⟩
abbrev cX7_add : ByteArray := prog_9_method_3_code
def yX7_add : MethodName := ⟨RX7, "add", "(I)I"⟩
abbrev cX7_empty : ByteArray := prog_9_method_4_code
def yX7_empty : MethodName := ⟨RX7, "empty", "()V"⟩
abbrev cX7_faultOfForm : ByteArray := prog_9_method_5_code
def yX7_faultOfForm : MethodName := ⟨RX7, "faultOfForm", "()I"⟩
abbrev cX7_placeBehind : ByteArray := prog_9_method_6_code
def yX7_placeBehind : MethodName := ⟨RX7, "placeBehind", "(I)I"⟩
abbrev cX7_lengthAt : ByteArray := prog_9_method_7_code
def yX7_lengthAt : MethodName := ⟨RX7, "lengthAt", "(I)I"⟩
abbrev cX7_enact : ByteArray := prog_9_method_8_code
def yX7_enact : MethodName := ⟨RX7, "enact", "(ILPaidByTheUnborn$Ledger;)I"⟩
abbrev cX7_digitsBehind : ByteArray := prog_9_method_9_code
def yX7_digitsBehind : MethodName := ⟨RX7, "digitsBehind", "(I)I"⟩
abbrev cX7_letterAt : ByteArray := prog_9_method_10_code
def yX7_letterAt : MethodName := ⟨RX7, "letterAt", "(I)I"⟩
abbrev cX7_isDigit : ByteArray := prog_9_method_11_code
def yX7_isDigit : MethodName := ⟨RX7, "isDigit", "(I)Z"⟩
abbrev cX7_number : ByteArray := prog_9_method_12_code
def yX7_number : MethodName := ⟨RX7, "number", "(II)I"⟩
def RX8 : String := "PaidByTheUnborn$War"
def TX8 : u_T := fun k => match k with
  | 0 => ("PaidByTheUnborn$Work", "figure", "I", true)
  | _ => ("PaidByTheUnborn$Work", "cost", "I", true)
def tyX8 : Nat → FieldType := fun k => match k with
  | 0 => .int
  | _ => .int
abbrev wsX80 : List Cond := u_ws RX8 TX8 2
theorem nmX8 : ∀ a, a < 2 → ∀ b, b < 2 → a ≠ b → (TX8 a).2.1 ≠ (TX8 b).2.1 := by decide +kernel
theorem tyX8_ok : ∀ k, k < 2 → parseFieldDescriptor (TX8 k).2.2.1 = some (tyX8 k) := by decide +kernel
abbrev cX8_init : ByteArray := prog_10_method_1_code
def yX8_init : MethodName := ⟨RX8, "<init>", "(II)V"⟩
abbrev cX8_kind : ByteArray := prog_10_method_2_code
def yX8_kind : MethodName := ⟨RX8, "kind", "()I"⟩
abbrev cX8_due : ByteArray := prog_10_method_3_code
def yX8_due : MethodName := ⟨RX8, "due", "()I"⟩
abbrev cX8_payer : ByteArray := prog_10_method_4_code
def yX8_payer : MethodName := ⟨RX8, "payer", "(LPaidByTheUnborn$Ledger;)I"⟩
abbrev cX8_shareOut : ByteArray := prog_10_method_5_code
def yX8_shareOut : MethodName := ⟨RX8, "shareOut", "(LPaidByTheUnborn$Ledger;)V"⟩
def RX9 : String := "PaidByTheUnborn$Work"
def TX9 : u_T := fun k => match k with
  | 0 => ("PaidByTheUnborn$Work", "figure", "I", true)
  | _ => ("PaidByTheUnborn$Work", "cost", "I", true)
def tyX9 : Nat → FieldType := fun k => match k with
  | 0 => .int
  | _ => .int
abbrev wsX90 : List Cond := u_ws RX9 TX9 2
theorem nmX9 : ∀ a, a < 2 → ∀ b, b < 2 → a ≠ b → (TX9 a).2.1 ≠ (TX9 b).2.1 := by decide +kernel
theorem tyX9_ok : ∀ k, k < 2 → parseFieldDescriptor (TX9 k).2.2.1 = some (tyX9 k) := by decide +kernel
abbrev cX9_init : ByteArray := prog_11_method_1_code
def yX9_init : MethodName := ⟨RX9, "<init>", "(II)V"⟩
abbrev cX9_kind : ByteArray := prog_11_method_2_code
def yX9_kind : MethodName := ⟨RX9, "kind", "()I"⟩
abbrev cX9_due : ByteArray := prog_11_method_3_code
def yX9_due : MethodName := ⟨RX9, "due", "()I"⟩
abbrev cX9_shareOut : ByteArray := prog_11_method_4_code
def yX9_shareOut : MethodName := ⟨RX9, "shareOut", "(LPaidByTheUnborn$Ledger;)V"⟩
def RX10 : String := "PaidByTheUnborn"
def TX10 : u_T := fun k => match k with
  | 0 => ("PaidByTheUnborn", "now", "LPaidByTheUnborn$Ledger;", true)
  | 1 => ("PaidByTheUnborn", "mind", "LPaidByTheUnborn$Ledger;", true)
  | 2 => ("PaidByTheUnborn", "pictured", "LPaidByTheUnborn$Ledger;", true)
  | 3 => ("PaidByTheUnborn", "isPictured", "Z", false)
  | 4 => ("PaidByTheUnborn", "past", "LPaidByTheUnborn$Past;", true)
  | 5 => ("PaidByTheUnborn", "text", "LPaidByTheUnborn$Text;", true)
  | 6 => ("PaidByTheUnborn", "told", "[I", true)
  | 7 => ("PaidByTheUnborn", "toldCount", "I", false)
  | 8 => ("PaidByTheUnborn", "refusals", "[I", true)
  | 9 => ("PaidByTheUnborn", "imagined", "LPaidByTheUnborn$Family;", true)
  | 10 => ("PaidByTheUnborn", "instead", "LPaidByTheUnborn$Family;", true)
  | 11 => ("PaidByTheUnborn", "tried", "[I", true)
  | _ => ("PaidByTheUnborn", "best", "[I", true)
def tyX10 : Nat → FieldType := fun k => match k with
  | 0 => .object "PaidByTheUnborn$Ledger"
  | 1 => .object "PaidByTheUnborn$Ledger"
  | 2 => .object "PaidByTheUnborn$Ledger"
  | 3 => .boolean
  | 4 => .object "PaidByTheUnborn$Past"
  | 5 => .object "PaidByTheUnborn$Text"
  | 6 => .array .int
  | 7 => .int
  | 8 => .array .int
  | 9 => .object "PaidByTheUnborn$Family"
  | 10 => .object "PaidByTheUnborn$Family"
  | 11 => .array .int
  | _ => .array .int
abbrev wsX100 : List Cond := u_ws RX10 TX10 13
theorem nmX10 : ∀ a, a < 13 → ∀ b, b < 13 → a ≠ b → (TX10 a).2.1 ≠ (TX10 b).2.1 := by decide +kernel
theorem tyX10_ok : ∀ k, k < 13 → parseFieldDescriptor (TX10 k).2.2.1 = some (tyX10 k) := by decide +kernel
abbrev cX10_init : ByteArray := prog_1_method_1_code
def yX10_init : MethodName := ⟨RX10, "<init>", "()V"⟩
abbrev cX10_feed : ByteArray := prog_1_method_2_code
def yX10_feed : MethodName := ⟨RX10, "feed", "(I)I"⟩
abbrev cX10_treasury : ByteArray := prog_1_method_3_code
def yX10_treasury : MethodName := ⟨RX10, "treasury", "()I"⟩
abbrev cX10_familyOf : ByteArray := prog_1_method_4_code
def yX10_familyOf : MethodName := ⟨RX10, "familyOf", "(II)I"⟩
abbrev cX10_workOf : ByteArray := prog_1_method_5_code
def yX10_workOf : MethodName := ⟨RX10, "workOf", "(II)I"⟩
abbrev cX10_family : ByteArray := prog_1_method_6_code
def yX10_family : MethodName := ⟨RX10, "family", "(III)I"⟩
abbrev cX10_work : ByteArray := prog_1_method_7_code
def yX10_work : MethodName := ⟨RX10, "work", "(III)I"⟩
abbrev cX10_builds : ByteArray := prog_1_method_8_code
def yX10_builds : MethodName := ⟨RX10, "builds", "(I)I"⟩
abbrev cX10_years : ByteArray := prog_1_method_9_code
def yX10_years : MethodName := ⟨RX10, "years", "(I)I"⟩
abbrev cX10_debt : ByteArray := prog_1_method_10_code
def yX10_debt : MethodName := ⟨RX10, "debt", "(II)I"⟩
abbrev cX10_rate : ByteArray := prog_1_method_11_code
def yX10_rate : MethodName := ⟨RX10, "rate", "(I)I"⟩
abbrev cX10_behind : ByteArray := prog_1_method_12_code
def yX10_behind : MethodName := ⟨RX10, "behind", "(III)I"⟩
abbrev cX10_all : ByteArray := prog_1_method_13_code
def yX10_all : MethodName := ⟨RX10, "all", "(I)I"⟩
abbrev cX10_solvent : ByteArray := prog_1_method_14_code
def yX10_solvent : MethodName := ⟨RX10, "solvent", "(I)I"⟩
abbrev cX10_first : ByteArray := prog_1_method_15_code
def yX10_first : MethodName := ⟨RX10, "first", "(I)I"⟩
abbrev cX10_highest : ByteArray := prog_1_method_16_code
def yX10_highest : MethodName := ⟨RX10, "highest", "(III)I"⟩
abbrev cX10_building : ByteArray := prog_1_method_17_code
def yX10_building : MethodName := ⟨RX10, "building", "(III)I"⟩
abbrev cX10_oneMore : ByteArray := prog_1_method_18_code
def yX10_oneMore : MethodName := ⟨RX10, "oneMore", "(I)I"⟩
abbrev cX10_share : ByteArray := prog_1_method_19_code
def yX10_share : MethodName := ⟨RX10, "share", "(II)I"⟩
abbrev cX10_pulledDown : ByteArray := prog_1_method_20_code
def yX10_pulledDown : MethodName := ⟨RX10, "pulledDown", "(III)I"⟩
abbrev cX10_merger : ByteArray := prog_1_method_21_code
def yX10_merger : MethodName := ⟨RX10, "merger", "(III)I"⟩
abbrev cX10_bestMerger : ByteArray := prog_1_method_22_code
def yX10_bestMerger : MethodName := ⟨RX10, "bestMerger", "(I)I"⟩
abbrev cX10_child : ByteArray := prog_1_method_23_code
def yX10_child : MethodName := ⟨RX10, "child", "(II)J"⟩
abbrev cX10_cheapest : ByteArray := prog_1_method_24_code
def yX10_cheapest : MethodName := ⟨RX10, "cheapest", "(II)I"⟩
abbrev cX10_treaty : ByteArray := prog_1_method_25_code
def yX10_treaty : MethodName := ⟨RX10, "treaty", "(III)I"⟩
abbrev cX10_signature : ByteArray := prog_1_method_26_code
def yX10_signature : MethodName := ⟨RX10, "signature", "(II)I"⟩
abbrev cX10_whoBuilt : ByteArray := prog_1_method_27_code
def yX10_whoBuilt : MethodName := ⟨RX10, "whoBuilt", "(I)I"⟩
abbrev cX10_births : ByteArray := prog_1_method_28_code
def yX10_births : MethodName := ⟨RX10, "births", "(IIIII)J"⟩
abbrev cX10_back : ByteArray := prog_1_method_29_code
def yX10_back : MethodName := ⟨RX10, "back", "()I"⟩
abbrev cX10_oldest : ByteArray := prog_1_method_30_code
def yX10_oldest : MethodName := ⟨RX10, "oldest", "(I)I"⟩
abbrev cX10_order : ByteArray := prog_1_method_31_code
def yX10_order : MethodName := ⟨RX10, "order", "(I)I"⟩
abbrev cX10_jubilee : ByteArray := prog_1_method_32_code
def yX10_jubilee : MethodName := ⟨RX10, "jubilee", "(I)I"⟩
abbrev cX10_fair : ByteArray := prog_1_method_33_code
def yX10_fair : MethodName := ⟨RX10, "fair", "(I)I"⟩
abbrev cX10_peak : ByteArray := prog_1_method_34_code
def yX10_peak : MethodName := ⟨RX10, "peak", "(III)I"⟩
abbrev cX10_interest : ByteArray := prog_1_method_35_code
def yX10_interest : MethodName := ⟨RX10, "interest", "(II)I"⟩
abbrev cX10_doubled : ByteArray := prog_1_method_36_code
def yX10_doubled : MethodName := ⟨RX10, "doubled", "(I)I"⟩
abbrev cX10_commonPay : ByteArray := prog_1_method_37_code
def yX10_commonPay : MethodName := ⟨RX10, "commonPay", "(II)I"⟩
abbrev cX10_bestBirths : ByteArray := prog_1_method_38_code
def yX10_bestBirths : MethodName := ⟨RX10, "bestBirths", "(II)I"⟩
abbrev cX10_lump : ByteArray := prog_1_method_39_code
def yX10_lump : MethodName := ⟨RX10, "lump", "(II)I"⟩
abbrev cX10_crosses : ByteArray := prog_1_method_40_code
def yX10_crosses : MethodName := ⟨RX10, "crosses", "(II)I"⟩
abbrev cX10_heir : ByteArray := prog_1_method_41_code
def yX10_heir : MethodName := ⟨RX10, "heir", "(I)I"⟩
abbrev cX10_rank : ByteArray := prog_1_method_42_code
def yX10_rank : MethodName := ⟨RX10, "rank", "(I)I"⟩
abbrev cX10_half : ByteArray := prog_1_method_43_code
def yX10_half : MethodName := ⟨RX10, "half", "()I"⟩
abbrev cX10_row : ByteArray := prog_1_method_44_code
def yX10_row : MethodName := ⟨RX10, "row", "(I)I"⟩
abbrev cX10_judge : ByteArray := prog_1_method_45_code
def yX10_judge : MethodName := ⟨RX10, "judge", "(I)I"⟩
abbrev cX10_clear : ByteArray := prog_1_method_46_code
def yX10_clear : MethodName := ⟨RX10, "clear", "()I"⟩
abbrev cX10_lots : ByteArray := prog_1_method_47_code
def yX10_lots : MethodName := ⟨RX10, "lots", "(III)I"⟩
abbrev cX10_image : ByteArray := prog_1_method_48_code
def yX10_image : MethodName := ⟨RX10, "image", "()I"⟩
abbrev cX10_restore : ByteArray := prog_1_method_49_code
def yX10_restore : MethodName := ⟨RX10, "restore", "()I"⟩
abbrev cX10_count : ByteArray := prog_1_method_50_code
def yX10_count : MethodName := ⟨RX10, "count", "(I)I"⟩
abbrev cX10_refused : ByteArray := prog_1_method_51_code
def yX10_refused : MethodName := ⟨RX10, "refused", "(I)I"⟩
abbrev cX10_withoutPast : ByteArray := prog_1_method_52_code
def yX10_withoutPast : MethodName := ⟨RX10, "withoutPast", "(I)I"⟩
abbrev cX10_withPast : ByteArray := prog_1_method_53_code
def yX10_withPast : MethodName := ⟨RX10, "withPast", "(I)I"⟩
abbrev cX10_outside : ByteArray := prog_1_method_54_code
def yX10_outside : MethodName := ⟨RX10, "outside", "(III)I"⟩
abbrev cX10_eitherOutside : ByteArray := prog_1_method_55_code
def yX10_eitherOutside : MethodName := ⟨RX10, "eitherOutside", "(IIII)I"⟩
abbrev cX10_otherThan : ByteArray := prog_1_method_56_code
def yX10_otherThan : MethodName := ⟨RX10, "otherThan", "(II)I"⟩
abbrev cX10_notAhead : ByteArray := prog_1_method_57_code
def yX10_notAhead : MethodName := ⟨RX10, "notAhead", "(I)I"⟩
abbrev cX10_noFamilyAhead : ByteArray := prog_1_method_58_code
def yX10_noFamilyAhead : MethodName := ⟨RX10, "noFamilyAhead", "(II)I"⟩
abbrev cX10_noTwoAhead : ByteArray := prog_1_method_59_code
def yX10_noTwoAhead : MethodName := ⟨RX10, "noTwoAhead", "(III)I"⟩
abbrev cX10_ahead : ByteArray := prog_1_method_60_code
def yX10_ahead : MethodName := ⟨RX10, "ahead", "(II)V"⟩
abbrev cX10_headOwesBehind : ByteArray := prog_1_method_61_code
def yX10_headOwesBehind : MethodName := ⟨RX10, "headOwesBehind", "(II)I"⟩
abbrev cX10_freeBehind : ByteArray := prog_1_method_62_code
def yX10_freeBehind : MethodName := ⟨RX10, "freeBehind", "(II)I"⟩
abbrev cX10_highestRate : ByteArray := prog_1_method_63_code
def yX10_highestRate : MethodName := ⟨RX10, "highestRate", "(II)I"⟩
abbrev cX10_leastPay : ByteArray := prog_1_method_64_code
def yX10_leastPay : MethodName := ⟨RX10, "leastPay", "(II)I"⟩
abbrev cX10_mergedHeadOwes : ByteArray := prog_1_method_65_code
def yX10_mergedHeadOwes : MethodName := ⟨RX10, "mergedHeadOwes", "(III)I"⟩
abbrev cX10_signedPay : ByteArray := prog_1_method_66_code
def yX10_signedPay : MethodName := ⟨RX10, "signedPay", "(II)I"⟩
abbrev cX10_costOfPaying : ByteArray := prog_1_method_67_code
def yX10_costOfPaying : MethodName := ⟨RX10, "costOfPaying", "(III)I"⟩
abbrev cX10_waysOf : ByteArray := prog_1_method_68_code
def yX10_waysOf : MethodName := ⟨RX10, "waysOf", "(III)J"⟩
abbrev cX10_bearByChance : ByteArray := prog_1_method_69_code
def yX10_bearByChance : MethodName := ⟨RX10, "bearByChance", "(III)V"⟩
abbrev cX10_firstFree : ByteArray := prog_1_method_70_code
def yX10_firstFree : MethodName := ⟨RX10, "firstFree", "()I"⟩
abbrev cX10_growing : ByteArray := prog_1_method_71_code
def yX10_growing : MethodName := ⟨RX10, "growing", "()I"⟩
abbrev cX10_firstStuck : ByteArray := prog_1_method_72_code
def yX10_firstStuck : MethodName := ⟨RX10, "firstStuck", "()I"⟩
abbrev cX10_cheapestFamily : ByteArray := prog_1_method_73_code
def yX10_cheapestFamily : MethodName := ⟨RX10, "cheapestFamily", "()I"⟩
abbrev cX10_bornFree : ByteArray := prog_1_method_74_code
def yX10_bornFree : MethodName := ⟨RX10, "bornFree", "(I)I"⟩
abbrev cX10_ranked : ByteArray := prog_1_method_75_code
def yX10_ranked : MethodName := ⟨RX10, "ranked", "(I)I"⟩
abbrev cX10_ranksAbove : ByteArray := prog_1_method_76_code
def yX10_ranksAbove : MethodName := ⟨RX10, "ranksAbove", "(I)I"⟩
abbrev cX10_isBearable : ByteArray := prog_1_method_77_code
def yX10_isBearable : MethodName := ⟨RX10, "isBearable", "(III)Z"⟩
abbrev cX10_isToldBy : ByteArray := prog_1_method_78_code
def yX10_isToldBy : MethodName := ⟨RX10, "isToldBy", "(I)Z"⟩
abbrev cX10_isTold : ByteArray := prog_1_method_79_code
def yX10_isTold : MethodName := ⟨RX10, "isTold", "(II)Z"⟩
abbrev cX10_factorial : ByteArray := prog_1_method_80_code
def yX10_factorial : MethodName := ⟨RX10, "factorial", "(I)I"⟩
abbrev cX10_arrange : ByteArray := prog_1_method_81_code
def yX10_arrange : MethodName := ⟨RX10, "arrange", "(II)V"⟩
abbrev cX10_debtsAsTried : ByteArray := prog_1_method_82_code
def yX10_debtsAsTried : MethodName := ⟨RX10, "debtsAsTried", "(I)I"⟩
abbrev cX10_up : ByteArray := prog_1_method_83_code
def yX10_up : MethodName := ⟨RX10, "up", "(II)I"⟩
abbrev cX10_inLowestTerms : ByteArray := prog_1_method_84_code
def yX10_inLowestTerms : MethodName := ⟨RX10, "inLowestTerms", "(JJI)J"⟩
abbrev cX10_commonDivisor : ByteArray := prog_1_method_85_code
def yX10_commonDivisor : MethodName := ⟨RX10, "commonDivisor", "(JJ)J"⟩
abbrev cX10_nextSeed : ByteArray := prog_1_method_86_code
def yX10_nextSeed : MethodName := ⟨RX10, "nextSeed", "(I)I"⟩
abbrev cX10_drawBelow : ByteArray := prog_1_method_87_code
def yX10_drawBelow : MethodName := ⟨RX10, "drawBelow", "(II)I"⟩
def RX11 : String := "PaidByTheUnbornModel"
def TX11 : u_T := fun k => match k with
  | 0 => ("PaidByTheUnbornModel", "families", "I", false)
  | 1 => ("PaidByTheUnbornModel", "heads", "[I", true)
  | 2 => ("PaidByTheUnbornModel", "debts", "[I", true)
  | 3 => ("PaidByTheUnbornModel", "pays", "[I", true)
  | 4 => ("PaidByTheUnbornModel", "births0", "[I", true)
  | 5 => ("PaidByTheUnbornModel", "rate0", "I", false)
  | 6 => ("PaidByTheUnbornModel", "year", "I", false)
  | 7 => ("PaidByTheUnbornModel", "works", "I", false)
  | 8 => ("PaidByTheUnbornModel", "kinds", "[I", true)
  | 9 => ("PaidByTheUnbornModel", "figures", "[I", true)
  | 10 => ("PaidByTheUnbornModel", "costs", "[I", true)
  | 11 => ("PaidByTheUnbornModel", "builtAs", "[I", true)
  | 12 => ("PaidByTheUnbornModel", "thrown", "I", false)
  | 13 => ("PaidByTheUnbornModel", "refusals", "[I", true)
  | 14 => ("PaidByTheUnbornModel", "shares", "[I", true)
  | 15 => ("PaidByTheUnbornModel", "parts", "[I", true)
  | 16 => ("PaidByTheUnbornModel", "bornFree", "I", false)
  | 17 => ("PaidByTheUnbornModel", "paid", "[I", true)
  | 18 => ("PaidByTheUnbornModel", "letters", "[I", true)
  | 19 => ("PaidByTheUnbornModel", "letterMany", "I", false)
  | 20 => ("PaidByTheUnbornModel", "at", "I", false)
  | 21 => ("PaidByTheUnbornModel", "isBad", "Z", false)
  | 22 => ("PaidByTheUnbornModel", "statements", "I", false)
  | 23 => ("PaidByTheUnbornModel", "placeIn", "[I", true)
  | 24 => ("PaidByTheUnbornModel", "letterOf", "[I", true)
  | 25 => ("PaidByTheUnbornModel", "told", "[I", true)
  | 26 => ("PaidByTheUnbornModel", "kept", "[I", true)
  | 27 => ("PaidByTheUnbornModel", "imaged", "[I", true)
  | 28 => ("PaidByTheUnbornModel", "hasImage", "Z", false)
  | 29 => ("PaidByTheUnbornModel", "place0", "I", false)
  | 30 => ("PaidByTheUnbornModel", "isTaking", "Z", false)
  | 31 => ("PaidByTheUnbornModel", "keptIn", "[I", false)
  | 32 => ("PaidByTheUnbornModel", "turns", "[I", true)
  | 33 => ("PaidByTheUnbornModel", "turnOf", "[I", true)
  | 34 => ("PaidByTheUnbornModel", "turned", "I", false)
  | 35 => ("PaidByTheUnbornModel", "row", "[I", true)
  | 36 => ("PaidByTheUnbornModel", "rowMany", "I", false)
  | 37 => ("PaidByTheUnbornModel", "order0", "[I", true)
  | 38 => ("PaidByTheUnbornModel", "openOnes", "[I", true)
  | _ => ("PaidByTheUnbornModel", "seed", "I", false)
def tyX11 : Nat → FieldType := fun k => match k with
  | 0 => .int
  | 1 => .array .int
  | 2 => .array .int
  | 3 => .array .int
  | 4 => .array .int
  | 5 => .int
  | 6 => .int
  | 7 => .int
  | 8 => .array .int
  | 9 => .array .int
  | 10 => .array .int
  | 11 => .array .int
  | 12 => .int
  | 13 => .array .int
  | 14 => .array .int
  | 15 => .array .int
  | 16 => .int
  | 17 => .array .int
  | 18 => .array .int
  | 19 => .int
  | 20 => .int
  | 21 => .boolean
  | 22 => .int
  | 23 => .array .int
  | 24 => .array .int
  | 25 => .array .int
  | 26 => .array .int
  | 27 => .array .int
  | 28 => .boolean
  | 29 => .int
  | 30 => .boolean
  | 31 => .array .int
  | 32 => .array .int
  | 33 => .array .int
  | 34 => .int
  | 35 => .array .int
  | 36 => .int
  | 37 => .array .int
  | 38 => .array .int
  | _ => .int
abbrev wsX110 : List Cond := u_ws RX11 TX11 40
theorem nmX11 : ∀ a, a < 40 → ∀ b, b < 40 → a ≠ b → (TX11 a).2.1 ≠ (TX11 b).2.1 := by decide +kernel
theorem tyX11_ok : ∀ k, k < 40 → parseFieldDescriptor (TX11 k).2.2.1 = some (tyX11 k) := by decide +kernel
abbrev cX11_init : ByteArray := prog_13_method_1_code
def yX11_init : MethodName := ⟨RX11, "<init>", "()V"⟩
abbrev cX11_in : ByteArray := prog_13_method_3_code
def yX11_in : MethodName := ⟨RX11, "in", "(JJJ)Z"⟩
abbrev cX11_refuse : ByteArray := prog_13_method_4_code
def yX11_refuse : MethodName := ⟨RX11, "refuse", "(I)I"⟩
abbrev cX11_isFamily : ByteArray := prog_13_method_5_code
def yX11_isFamily : MethodName := ⟨RX11, "isFamily", "(I)Z"⟩
abbrev cX11_isWork : ByteArray := prog_13_method_6_code
def yX11_isWork : MethodName := ⟨RX11, "isWork", "(I)Z"⟩
abbrev cX11_wrongNumber : ByteArray := prog_13_method_7_code
def yX11_wrongNumber : MethodName := ⟨RX11, "wrongNumber", "(III)I"⟩
abbrev cX11_wrongBit : ByteArray := prog_13_method_8_code
def yX11_wrongBit : MethodName := ⟨RX11, "wrongBit", "(III)I"⟩
abbrev cX11_hasBit : ByteArray := prog_13_method_9_code
def yX11_hasBit : MethodName := ⟨RX11, "hasBit", "(II)Z"⟩
abbrev cX11_held : ByteArray := prog_13_method_10_code
def yX11_held : MethodName := ⟨RX11, "held", "(III)I"⟩
abbrev cX11_allHeads : ByteArray := prog_13_method_11_code
def yX11_allHeads : MethodName := ⟨RX11, "allHeads", "()I"⟩
abbrev cX11_allDebts : ByteArray := prog_13_method_12_code
def yX11_allDebts : MethodName := ⟨RX11, "allDebts", "()I"⟩
abbrev cX11_headOwes : ByteArray := prog_13_method_13_code
def yX11_headOwes : MethodName := ⟨RX11, "headOwes", "(I)I"⟩
abbrev cX11_dueOf : ByteArray := prog_13_method_14_code
def yX11_dueOf : MethodName := ⟨RX11, "dueOf", "(I)I"⟩
abbrev cX11_mostHeads : ByteArray := prog_13_method_15_code
def yX11_mostHeads : MethodName := ⟨RX11, "mostHeads", "()I"⟩
abbrev cX11_leastDebt : ByteArray := prog_13_method_16_code
def yX11_leastDebt : MethodName := ⟨RX11, "leastDebt", "()I"⟩
abbrev cX11_layParts : ByteArray := prog_13_method_17_code
def yX11_layParts : MethodName := ⟨RX11, "layParts", "(I)V"⟩
abbrev cX11_layShares : ByteArray := prog_13_method_18_code
def yX11_layShares : MethodName := ⟨RX11, "layShares", "(I)V"⟩
abbrev cX11_lastBuilt : ByteArray := prog_13_method_19_code
def yX11_lastBuilt : MethodName := ⟨RX11, "lastBuilt", "()I"⟩
abbrev cX11_build : ByteArray := prog_13_method_20_code
def yX11_build : MethodName := ⟨RX11, "build", "(I)V"⟩
abbrev cX11_owes : ByteArray := prog_13_method_21_code
def yX11_owes : MethodName := ⟨RX11, "owes", "(I)V"⟩
abbrev cX11_yearOn : ByteArray := prog_13_method_22_code
def yX11_yearOn : MethodName := ⟨RX11, "yearOn", "()V"⟩
abbrev cX11_goYears : ByteArray := prog_13_method_23_code
def yX11_goYears : MethodName := ⟨RX11, "goYears", "(I)V"⟩
abbrev cX11_feed : ByteArray := prog_13_method_24_code
def yX11_feed : MethodName := ⟨RX11, "feed", "(I)I"⟩
abbrev cX11_here : ByteArray := prog_13_method_25_code
def yX11_here : MethodName := ⟨RX11, "here", "()I"⟩
abbrev cX11_readDigits : ByteArray := prog_13_method_26_code
def yX11_readDigits : MethodName := ⟨RX11, "readDigits", "(I)I"⟩
abbrev cX11_isLetter : ByteArray := prog_13_method_27_code
def yX11_isLetter : MethodName := ⟨RX11, "isLetter", "(I)Z"⟩
abbrev cX11_readNumbers : ByteArray := prog_13_method_28_code
def yX11_readNumbers : MethodName := ⟨RX11, "readNumbers", "(II)V"⟩
abbrev cX11_readStatement : ByteArray := prog_13_method_29_code
def yX11_readStatement : MethodName := ⟨RX11, "readStatement", "()V"⟩
abbrev cX11_familyComes : ByteArray := prog_13_method_30_code
def yX11_familyComes : MethodName := ⟨RX11, "familyComes", "(III)V"⟩
abbrev cX11_workComes : ByteArray := prog_13_method_31_code
def yX11_workComes : MethodName := ⟨RX11, "workComes", "(III)V"⟩
abbrev cX11_comesTold : ByteArray := prog_13_method_32_code
def yX11_comesTold : MethodName := ⟨RX11, "comesTold", "(I)Z"⟩
abbrev cX11_treasury : ByteArray := prog_13_method_33_code
def yX11_treasury : MethodName := ⟨RX11, "treasury", "()I"⟩
abbrev cX11_carry : ByteArray := prog_13_method_34_code
def yX11_carry : MethodName := ⟨RX11, "carry", "(I)I"⟩
abbrev cX11_carryAll : ByteArray := prog_13_method_35_code
def yX11_carryAll : MethodName := ⟨RX11, "carryAll", "([IZ)V"⟩
abbrev cX11_think : ByteArray := prog_13_method_36_code
def yX11_think : MethodName := ⟨RX11, "think", "()V"⟩
abbrev cX11_again : ByteArray := prog_13_method_37_code
def yX11_again : MethodName := ⟨RX11, "again", "()V"⟩
abbrev cX11_image : ByteArray := prog_13_method_38_code
def yX11_image : MethodName := ⟨RX11, "image", "()I"⟩
abbrev cX11_restore : ByteArray := prog_13_method_39_code
def yX11_restore : MethodName := ⟨RX11, "restore", "()I"⟩
abbrev cX11_keepTurn : ByteArray := prog_13_method_40_code
def yX11_keepTurn : MethodName := ⟨RX11, "keepTurn", "()V"⟩
abbrev cX11_back : ByteArray := prog_13_method_41_code
def yX11_back : MethodName := ⟨RX11, "back", "()I"⟩
abbrev cX11_familyOf : ByteArray := prog_13_method_42_code
def yX11_familyOf : MethodName := ⟨RX11, "familyOf", "(II)I"⟩
abbrev cX11_workOf : ByteArray := prog_13_method_43_code
def yX11_workOf : MethodName := ⟨RX11, "workOf", "(II)I"⟩
abbrev cX11_family : ByteArray := prog_13_method_44_code
def yX11_family : MethodName := ⟨RX11, "family", "(III)I"⟩
abbrev cX11_work : ByteArray := prog_13_method_45_code
def yX11_work : MethodName := ⟨RX11, "work", "(III)I"⟩
abbrev cX11_builds : ByteArray := prog_13_method_46_code
def yX11_builds : MethodName := ⟨RX11, "builds", "(I)I"⟩
abbrev cX11_years : ByteArray := prog_13_method_47_code
def yX11_years : MethodName := ⟨RX11, "years", "(I)I"⟩
abbrev cX11_debt : ByteArray := prog_13_method_48_code
def yX11_debt : MethodName := ⟨RX11, "debt", "(II)I"⟩
abbrev cX11_rate : ByteArray := prog_13_method_49_code
def yX11_rate : MethodName := ⟨RX11, "rate", "(I)I"⟩
abbrev cX11_behind : ByteArray := prog_13_method_50_code
def yX11_behind : MethodName := ⟨RX11, "behind", "(III)I"⟩
abbrev cX11_allIn : ByteArray := prog_13_method_51_code
def yX11_allIn : MethodName := ⟨RX11, "allIn", "(I)I"⟩
abbrev cX11_all : ByteArray := prog_13_method_52_code
def yX11_all : MethodName := ⟨RX11, "all", "(I)I"⟩
abbrev cX11_solventIn : ByteArray := prog_13_method_53_code
def yX11_solventIn : MethodName := ⟨RX11, "solventIn", "(I)I"⟩
abbrev cX11_solvent : ByteArray := prog_13_method_54_code
def yX11_solvent : MethodName := ⟨RX11, "solvent", "(I)I"⟩
abbrev cX11_stuckIn : ByteArray := prog_13_method_55_code
def yX11_stuckIn : MethodName := ⟨RX11, "stuckIn", "()I"⟩
abbrev cX11_growBits : ByteArray := prog_13_method_56_code
def yX11_growBits : MethodName := ⟨RX11, "growBits", "()I"⟩
abbrev cX11_first : ByteArray := prog_13_method_57_code
def yX11_first : MethodName := ⟨RX11, "first", "(I)I"⟩
abbrev cX11_highest : ByteArray := prog_13_method_58_code
def yX11_highest : MethodName := ⟨RX11, "highest", "(III)I"⟩
abbrev cX11_noneOwes : ByteArray := prog_13_method_59_code
def yX11_noneOwes : MethodName := ⟨RX11, "noneOwes", "(I)Z"⟩
abbrev cX11_builtBits : ByteArray := prog_13_method_60_code
def yX11_builtBits : MethodName := ⟨RX11, "builtBits", "()I"⟩
abbrev cX11_buildAll : ByteArray := prog_13_method_61_code
def yX11_buildAll : MethodName := ⟨RX11, "buildAll", "(I)V"⟩
abbrev cX11_building : ByteArray := prog_13_method_62_code
def yX11_building : MethodName := ⟨RX11, "building", "(III)I"⟩
abbrev cX11_oneMore : ByteArray := prog_13_method_63_code
def yX11_oneMore : MethodName := ⟨RX11, "oneMore", "(I)I"⟩
abbrev cX11_share : ByteArray := prog_13_method_64_code
def yX11_share : MethodName := ⟨RX11, "share", "(II)I"⟩
abbrev cX11_pulledDown : ByteArray := prog_13_method_65_code
def yX11_pulledDown : MethodName := ⟨RX11, "pulledDown", "(III)I"⟩
abbrev cX11_headIn : ByteArray := prog_13_method_66_code
def yX11_headIn : MethodName := ⟨RX11, "headIn", "(II)I"⟩
abbrev cX11_mergedIn : ByteArray := prog_13_method_67_code
def yX11_mergedIn : MethodName := ⟨RX11, "mergedIn", "(III)I"⟩
abbrev cX11_merger : ByteArray := prog_13_method_68_code
def yX11_merger : MethodName := ⟨RX11, "merger", "(III)I"⟩
abbrev cX11_bestMerger : ByteArray := prog_13_method_69_code
def yX11_bestMerger : MethodName := ⟨RX11, "bestMerger", "(I)I"⟩
abbrev cX11_divisor : ByteArray := prog_13_method_70_code
def yX11_divisor : MethodName := ⟨RX11, "divisor", "(JJ)J"⟩
abbrev cX11_partOf : ByteArray := prog_13_method_71_code
def yX11_partOf : MethodName := ⟨RX11, "partOf", "(JJI)J"⟩
abbrev cX11_child : ByteArray := prog_13_method_72_code
def yX11_child : MethodName := ⟨RX11, "child", "(II)J"⟩
abbrev cX11_cheapest : ByteArray := prog_13_method_73_code
def yX11_cheapest : MethodName := ⟨RX11, "cheapest", "(II)I"⟩
abbrev cX11_burden : ByteArray := prog_13_method_74_code
def yX11_burden : MethodName := ⟨RX11, "burden", "(III)I"⟩
abbrev cX11_treaty : ByteArray := prog_13_method_75_code
def yX11_treaty : MethodName := ⟨RX11, "treaty", "(III)I"⟩
abbrev cX11_signature : ByteArray := prog_13_method_76_code
def yX11_signature : MethodName := ⟨RX11, "signature", "(II)I"⟩
abbrev cX11_whoBuilt : ByteArray := prog_13_method_77_code
def yX11_whoBuilt : MethodName := ⟨RX11, "whoBuilt", "(I)I"⟩
abbrev cX11_births : ByteArray := prog_13_method_78_code
def yX11_births : MethodName := ⟨RX11, "births", "(IIIII)J"⟩
abbrev cX11_oldest : ByteArray := prog_13_method_79_code
def yX11_oldest : MethodName := ⟨RX11, "oldest", "(I)I"⟩
abbrev cX11_ordersOf : ByteArray := prog_13_method_80_code
def yX11_ordersOf : MethodName := ⟨RX11, "ordersOf", "(I)I"⟩
abbrev cX11_layOrder : ByteArray := prog_13_method_81_code
def yX11_layOrder : MethodName := ⟨RX11, "layOrder", "(II)V"⟩
abbrev cX11_order : ByteArray := prog_13_method_82_code
def yX11_order : MethodName := ⟨RX11, "order", "(I)I"⟩
abbrev cX11_jubilee : ByteArray := prog_13_method_83_code
def yX11_jubilee : MethodName := ⟨RX11, "jubilee", "(I)I"⟩
abbrev cX11_fair : ByteArray := prog_13_method_84_code
def yX11_fair : MethodName := ⟨RX11, "fair", "(I)I"⟩
abbrev cX11_peak : ByteArray := prog_13_method_85_code
def yX11_peak : MethodName := ⟨RX11, "peak", "(III)I"⟩
abbrev cX11_interest : ByteArray := prog_13_method_86_code
def yX11_interest : MethodName := ⟨RX11, "interest", "(II)I"⟩
abbrev cX11_doubled : ByteArray := prog_13_method_87_code
def yX11_doubled : MethodName := ⟨RX11, "doubled", "(I)I"⟩
abbrev cX11_commonPay : ByteArray := prog_13_method_88_code
def yX11_commonPay : MethodName := ⟨RX11, "commonPay", "(II)I"⟩
abbrev cX11_bestBirths : ByteArray := prog_13_method_89_code
def yX11_bestBirths : MethodName := ⟨RX11, "bestBirths", "(II)I"⟩
abbrev cX11_lump : ByteArray := prog_13_method_90_code
def yX11_lump : MethodName := ⟨RX11, "lump", "(II)I"⟩
abbrev cX11_crosses : ByteArray := prog_13_method_91_code
def yX11_crosses : MethodName := ⟨RX11, "crosses", "(II)I"⟩
abbrev cX11_heir : ByteArray := prog_13_method_92_code
def yX11_heir : MethodName := ⟨RX11, "heir", "(I)I"⟩
abbrev cX11_rank : ByteArray := prog_13_method_93_code
def yX11_rank : MethodName := ⟨RX11, "rank", "(I)I"⟩
abbrev cX11_half : ByteArray := prog_13_method_94_code
def yX11_half : MethodName := ⟨RX11, "half", "()I"⟩
abbrev cX11_row : ByteArray := prog_13_method_95_code
def yX11_row : MethodName := ⟨RX11, "row", "(I)I"⟩
abbrev cX11_judge : ByteArray := prog_13_method_96_code
def yX11_judge : MethodName := ⟨RX11, "judge", "(I)I"⟩
abbrev cX11_clear : ByteArray := prog_13_method_97_code
def yX11_clear : MethodName := ⟨RX11, "clear", "()I"⟩
abbrev cX11_drawBelow : ByteArray := prog_13_method_98_code
def yX11_drawBelow : MethodName := ⟨RX11, "drawBelow", "(I)I"⟩
abbrev cX11_lots : ByteArray := prog_13_method_99_code
def yX11_lots : MethodName := ⟨RX11, "lots", "(III)I"⟩
abbrev cX11_count : ByteArray := prog_13_method_100_code
def yX11_count : MethodName := ⟨RX11, "count", "(I)I"⟩
def RJ9 : String := "java/lang/Math"
def TJ9 : u_T := fun k => match k with
  | _ => ("", "", "", false)
def tyJ9 : Nat → FieldType := fun k => match k with
  | _ => .int
abbrev wsJ90 : List Cond := u_ws RJ9 TJ9 0
theorem nmJ9 : ∀ a, a < 0 → ∀ b, b < 0 → a ≠ b → (TJ9 a).2.1 ≠ (TJ9 b).2.1 := by decide +kernel
theorem tyJ9_ok : ∀ k, k < 0 → parseFieldDescriptor (TJ9 k).2.2.1 = some (tyJ9 k) := by decide +kernel
abbrev cJ9_max_7cf53 : ByteArray := prog_14_method_65_code
def yJ9_max_7cf53 : MethodName := ⟨RJ9, "max", "(II)I"⟩
abbrev cJ9_min_7cf53 : ByteArray := prog_14_method_69_code
def yJ9_min_7cf53 : MethodName := ⟨RJ9, "min", "(II)I"⟩
def RJ10 : String := "java/lang/System"
def TJ10 : u_T := fun k => match k with
  | _ => ("", "", "", false)
def tyJ10 : Nat → FieldType := fun k => match k with
  | _ => .int
abbrev wsJ100 : List Cond := u_ws RJ10 TJ10 0
theorem nmJ10 : ∀ a, a < 0 → ∀ b, b < 0 → a ≠ b → (TJ10 a).2.1 ≠ (TJ10 b).2.1 := by decide +kernel
theorem tyJ10_ok : ∀ k, k < 0 → parseFieldDescriptor (TJ10 k).2.2.1 = some (tyJ10 k) := by decide +kernel
def RL : String := "PaidByTheUnbornLaw"
abbrev cL_law : ByteArray := code
def yL_law : MethodName := ⟨RL, "law", "([I)Z"⟩
abbrev vwCl : List vw_C := [(RX0, TX0, 2), (RX1, TX1, 2), (RX2, TX2, 7), (RX3, TX3, 10), (RX4, TX4, 3), (RX5, TX5, 2), (RX6, TX6, 2), (RX7, TX7, 2), (RX8, TX8, 2), (RX9, TX9, 2), (RX10, TX10, 13), (RX11, TX11, 40)]
end
section
theorem dX0_init_0 : decode cX0_init 0 = .ok (.aload_n 0, 1) := by decide +kernel
theorem dX0_init_1 : decode cX0_init 1 = .ok (.iload_n 1, 1) := by decide +kernel
theorem dX0_init_2 : decode cX0_init 2 = .ok (.iload_n 2, 1) := by decide +kernel
theorem dX0_init_3 : decode cX0_init 3 = .ok (.invokespecial 1, 3) := by decide +kernel
theorem dX0_init_6 : decode cX0_init 6 = .ok (.return_, 1) := by decide +kernel
theorem dX0_kind_0 : decode cX0_kind 0 = .ok (.iconst 1, 1) := by decide +kernel
theorem dX0_kind_1 : decode cX0_kind 1 = .ok (.ireturn, 1) := by decide +kernel
theorem dX0_due_0 : decode cX0_due 0 = .ok (.aload_n 0, 1) := by decide +kernel
theorem dX0_due_1 : decode cX0_due 1 = .ok (.invokespecial 7, 3) := by decide +kernel
theorem dX0_due_4 : decode cX0_due 4 = .ok (.aload_n 0, 1) := by decide +kernel
theorem dX0_due_5 : decode cX0_due 5 = .ok (.getfield 11, 3) := by decide +kernel
theorem dX0_due_8 : decode cX0_due 8 = .ok (.iadd, 1) := by decide +kernel
theorem dX0_due_9 : decode cX0_due 9 = .ok (.ireturn, 1) := by decide +kernel
theorem dX0_sharers_0 : decode cX0_sharers 0 = .ok (.aload_n 1, 1) := by decide +kernel
theorem dX0_sharers_1 : decode cX0_sharers 1 = .ok (.invokevirtual 17, 3) := by decide +kernel
theorem dX0_sharers_4 : decode cX0_sharers 4 = .ok (.ireturn, 1) := by decide +kernel
theorem dX0_shareOut_0 : decode cX0_shareOut 0 = .ok (.aload_n 1, 1) := by decide +kernel
theorem dX0_shareOut_1 : decode cX0_shareOut 1 = .ok (.aload_n 0, 1) := by decide +kernel
theorem dX0_shareOut_2 : decode cX0_shareOut 2 = .ok (.invokevirtual 22, 3) := by decide +kernel
theorem dX0_shareOut_5 : decode cX0_shareOut 5 = .ok (.aload_n 0, 1) := by decide +kernel
theorem dX0_shareOut_6 : decode cX0_shareOut 6 = .ok (.aload_n 1, 1) := by decide +kernel
theorem dX0_shareOut_7 : decode cX0_shareOut 7 = .ok (.invokevirtual 23, 3) := by decide +kernel
theorem dX0_shareOut_10 : decode cX0_shareOut 10 = .ok (.invokevirtual 27, 3) := by decide +kernel
theorem dX0_shareOut_13 : decode cX0_shareOut 13 = .ok (.return_, 1) := by decide +kernel
theorem dX1_init_0 : decode cX1_init 0 = .ok (.aload_n 0, 1) := by decide +kernel
theorem dX1_init_1 : decode cX1_init 1 = .ok (.iload_n 1, 1) := by decide +kernel
theorem dX1_init_2 : decode cX1_init 2 = .ok (.iload_n 2, 1) := by decide +kernel
theorem dX1_init_3 : decode cX1_init 3 = .ok (.invokespecial 1, 3) := by decide +kernel
theorem dX1_init_6 : decode cX1_init 6 = .ok (.return_, 1) := by decide +kernel
theorem dX1_kind_0 : decode cX1_kind 0 = .ok (.iconst 3, 1) := by decide +kernel
theorem dX1_kind_1 : decode cX1_kind 1 = .ok (.ireturn, 1) := by decide +kernel
theorem dX1_due_0 : decode cX1_due 0 = .ok (.aload_n 0, 1) := by decide +kernel
theorem dX1_due_1 : decode cX1_due 1 = .ok (.invokespecial 7, 3) := by decide +kernel
theorem dX1_due_4 : decode cX1_due 4 = .ok (.iconst 2, 1) := by decide +kernel
theorem dX1_due_5 : decode cX1_due 5 = .ok (.idiv, 1) := by decide +kernel
theorem dX1_due_6 : decode cX1_due 6 = .ok (.ireturn, 1) := by decide +kernel
theorem dX1_sharers_0 : decode cX1_sharers 0 = .ok (.aload_n 1, 1) := by decide +kernel
theorem dX1_sharers_1 : decode cX1_sharers 1 = .ok (.invokevirtual 11, 3) := by decide +kernel
theorem dX1_sharers_4 : decode cX1_sharers 4 = .ok (.istore_n 2, 1) := by decide +kernel
theorem dX1_sharers_5 : decode cX1_sharers 5 = .ok (.iload_n 2, 1) := by decide +kernel
theorem dX1_sharers_6 : decode cX1_sharers 6 = .ok (.ifCond .eq 7, 3) := by decide +kernel
theorem dX1_sharers_9 : decode cX1_sharers 9 = .ok (.iload_n 2, 1) := by decide +kernel
theorem dX1_sharers_10 : decode cX1_sharers 10 = .ok (.goto 7, 3) := by decide +kernel
theorem dX1_sharers_13 : decode cX1_sharers 13 = .ok (.aload_n 1, 1) := by decide +kernel
theorem dX1_sharers_14 : decode cX1_sharers 14 = .ok (.invokevirtual 16, 3) := by decide +kernel
theorem dX1_sharers_17 : decode cX1_sharers 17 = .ok (.ireturn, 1) := by decide +kernel
theorem dX2_init_0 : decode cX2_init 0 = .ok (.aload_n 0, 1) := by decide +kernel
theorem dX2_init_1 : decode cX2_init 1 = .ok (.invokespecial 3, 3) := by decide +kernel
theorem dX2_init_4 : decode cX2_init 4 = .ok (.return_, 1) := by decide +kernel
theorem dX2_become_0 : decode cX2_become 0 = .ok (.aload_n 0, 1) := by decide +kernel
theorem dX2_become_1 : decode cX2_become 1 = .ok (.iload_n 1, 1) := by decide +kernel
theorem dX2_become_2 : decode cX2_become 2 = .ok (.putfield 9, 3) := by decide +kernel
theorem dX2_become_5 : decode cX2_become 5 = .ok (.aload_n 0, 1) := by decide +kernel
theorem dX2_become_6 : decode cX2_become 6 = .ok (.iconst 0, 1) := by decide +kernel
theorem dX2_become_7 : decode cX2_become 7 = .ok (.putfield 15, 3) := by decide +kernel
theorem dX2_become_10 : decode cX2_become 10 = .ok (.aload_n 0, 1) := by decide +kernel
theorem dX2_become_11 : decode cX2_become 11 = .ok (.iload_n 2, 1) := by decide +kernel
theorem dX2_become_12 : decode cX2_become 12 = .ok (.putfield 18, 3) := by decide +kernel
theorem dX2_become_15 : decode cX2_become 15 = .ok (.aload_n 0, 1) := by decide +kernel
theorem dX2_become_16 : decode cX2_become 16 = .ok (.iload_n 3, 1) := by decide +kernel
theorem dX2_become_17 : decode cX2_become 17 = .ok (.putfield 21, 3) := by decide +kernel
theorem dX2_become_20 : decode cX2_become 20 = .ok (.return_, 1) := by decide +kernel
theorem dX2_copy_0 : decode cX2_copy 0 = .ok (.aload_n 0, 1) := by decide +kernel
theorem dX2_copy_1 : decode cX2_copy 1 = .ok (.aload_n 1, 1) := by decide +kernel
theorem dX2_copy_2 : decode cX2_copy 2 = .ok (.getfield 9, 3) := by decide +kernel
theorem dX2_copy_5 : decode cX2_copy 5 = .ok (.putfield 9, 3) := by decide +kernel
theorem dX2_copy_8 : decode cX2_copy 8 = .ok (.aload_n 0, 1) := by decide +kernel
theorem dX2_copy_9 : decode cX2_copy 9 = .ok (.aload_n 1, 1) := by decide +kernel
theorem dX2_copy_10 : decode cX2_copy 10 = .ok (.getfield 15, 3) := by decide +kernel
theorem dX2_copy_13 : decode cX2_copy 13 = .ok (.putfield 15, 3) := by decide +kernel
theorem dX2_copy_16 : decode cX2_copy 16 = .ok (.aload_n 0, 1) := by decide +kernel
theorem dX2_copy_17 : decode cX2_copy 17 = .ok (.aload_n 1, 1) := by decide +kernel
theorem dX2_copy_18 : decode cX2_copy 18 = .ok (.getfield 18, 3) := by decide +kernel
theorem dX2_copy_21 : decode cX2_copy 21 = .ok (.putfield 18, 3) := by decide +kernel
theorem dX2_copy_24 : decode cX2_copy 24 = .ok (.aload_n 0, 1) := by decide +kernel
theorem dX2_copy_25 : decode cX2_copy 25 = .ok (.aload_n 1, 1) := by decide +kernel
theorem dX2_copy_26 : decode cX2_copy 26 = .ok (.getfield 21, 3) := by decide +kernel
theorem dX2_copy_29 : decode cX2_copy 29 = .ok (.putfield 21, 3) := by decide +kernel
theorem dX2_copy_32 : decode cX2_copy 32 = .ok (.aload_n 0, 1) := by decide +kernel
theorem dX2_copy_33 : decode cX2_copy 33 = .ok (.iconst 0, 1) := by decide +kernel
theorem dX2_copy_34 : decode cX2_copy 34 = .ok (.putfield 24, 3) := by decide +kernel
theorem dX2_copy_37 : decode cX2_copy 37 = .ok (.aload_n 0, 1) := by decide +kernel
theorem dX2_copy_38 : decode cX2_copy 38 = .ok (.iconst 0, 1) := by decide +kernel
theorem dX2_copy_39 : decode cX2_copy 39 = .ok (.putfield 27, 3) := by decide +kernel
theorem dX2_copy_42 : decode cX2_copy 42 = .ok (.aload_n 0, 1) := by decide +kernel
theorem dX2_copy_43 : decode cX2_copy 43 = .ok (.iconst 0, 1) := by decide +kernel
theorem dX2_copy_44 : decode cX2_copy 44 = .ok (.putfield 30, 3) := by decide +kernel
theorem dX2_copy_47 : decode cX2_copy 47 = .ok (.return_, 1) := by decide +kernel
theorem dX2_headOwes_0 : decode cX2_headOwes 0 = .ok (.aload_n 0, 1) := by decide +kernel
theorem dX2_headOwes_1 : decode cX2_headOwes 1 = .ok (.getfield 15, 3) := by decide +kernel
theorem dX2_headOwes_4 : decode cX2_headOwes 4 = .ok (.aload_n 0, 1) := by decide +kernel
theorem dX2_headOwes_5 : decode cX2_headOwes 5 = .ok (.getfield 9, 3) := by decide +kernel
theorem dX2_headOwes_8 : decode cX2_headOwes 8 = .ok (.invokestatic 33, 3) := by decide +kernel
theorem dX2_headOwes_11 : decode cX2_headOwes 11 = .ok (.ireturn, 1) := by decide +kernel
theorem dX2_isCheaperThan_0 : decode cX2_isCheaperThan 0 = .ok (.aload_n 0, 1) := by decide +kernel
theorem dX2_isCheaperThan_1 : decode cX2_isCheaperThan 1 = .ok (.getfield 15, 3) := by decide +kernel
theorem dX2_isCheaperThan_4 : decode cX2_isCheaperThan 4 = .ok (.aload_n 1, 1) := by decide +kernel
theorem dX2_isCheaperThan_5 : decode cX2_isCheaperThan 5 = .ok (.getfield 9, 3) := by decide +kernel
theorem dX2_isCheaperThan_8 : decode cX2_isCheaperThan 8 = .ok (.imul, 1) := by decide +kernel
theorem dX2_isCheaperThan_9 : decode cX2_isCheaperThan 9 = .ok (.aload_n 1, 1) := by decide +kernel
theorem dX2_isCheaperThan_10 : decode cX2_isCheaperThan 10 = .ok (.getfield 15, 3) := by decide +kernel
theorem dX2_isCheaperThan_13 : decode cX2_isCheaperThan 13 = .ok (.aload_n 0, 1) := by decide +kernel
theorem dX2_isCheaperThan_14 : decode cX2_isCheaperThan 14 = .ok (.getfield 9, 3) := by decide +kernel
theorem dX2_isCheaperThan_17 : decode cX2_isCheaperThan 17 = .ok (.imul, 1) := by decide +kernel
theorem dX2_isCheaperThan_18 : decode cX2_isCheaperThan 18 = .ok (.if_icmp .ge 7, 3) := by decide +kernel
theorem dX2_isCheaperThan_21 : decode cX2_isCheaperThan 21 = .ok (.iconst 1, 1) := by decide +kernel
theorem dX2_isCheaperThan_22 : decode cX2_isCheaperThan 22 = .ok (.goto 4, 3) := by decide +kernel
theorem dX2_isCheaperThan_25 : decode cX2_isCheaperThan 25 = .ok (.iconst 0, 1) := by decide +kernel
theorem dX2_isCheaperThan_26 : decode cX2_isCheaperThan 26 = .ok (.ireturn, 1) := by decide +kernel
theorem dX2_owe_0 : decode cX2_owe 0 = .ok (.aload_n 0, 1) := by decide +kernel
theorem dX2_owe_1 : decode cX2_owe 1 = .ok (.aload_n 0, 1) := by decide +kernel
theorem dX2_owe_2 : decode cX2_owe 2 = .ok (.getfield 15, 3) := by decide +kernel
theorem dX2_owe_5 : decode cX2_owe 5 = .ok (.iload_n 1, 1) := by decide +kernel
theorem dX2_owe_6 : decode cX2_owe 6 = .ok (.iadd, 1) := by decide +kernel
theorem dX2_owe_7 : decode cX2_owe 7 = .ok (.ldc 37, 2) := by decide +kernel
theorem dX2_owe_9 : decode cX2_owe 9 = .ok (.if_icmp .le 8, 3) := by decide +kernel
theorem dX2_owe_12 : decode cX2_owe 12 = .ok (.ldc 37, 2) := by decide +kernel
theorem dX2_owe_14 : decode cX2_owe 14 = .ok (.goto 9, 3) := by decide +kernel
theorem dX2_owe_17 : decode cX2_owe 17 = .ok (.aload_n 0, 1) := by decide +kernel
theorem dX2_owe_18 : decode cX2_owe 18 = .ok (.getfield 15, 3) := by decide +kernel
theorem dX2_owe_21 : decode cX2_owe 21 = .ok (.iload_n 1, 1) := by decide +kernel
theorem dX2_owe_22 : decode cX2_owe 22 = .ok (.iadd, 1) := by decide +kernel
theorem dX2_owe_23 : decode cX2_owe 23 = .ok (.putfield 15, 3) := by decide +kernel
theorem dX2_owe_26 : decode cX2_owe 26 = .ok (.return_, 1) := by decide +kernel
theorem dX2_pay_0 : decode cX2_pay 0 = .ok (.iload_n 1, 1) := by decide +kernel
theorem dX2_pay_1 : decode cX2_pay 1 = .ok (.aload_n 0, 1) := by decide +kernel
theorem dX2_pay_2 : decode cX2_pay 2 = .ok (.getfield 15, 3) := by decide +kernel
theorem dX2_pay_5 : decode cX2_pay 5 = .ok (.if_icmp .le 10, 3) := by decide +kernel
theorem dX2_pay_8 : decode cX2_pay 8 = .ok (.aload_n 0, 1) := by decide +kernel
theorem dX2_pay_9 : decode cX2_pay 9 = .ok (.getfield 15, 3) := by decide +kernel
theorem dX2_pay_12 : decode cX2_pay 12 = .ok (.goto 4, 3) := by decide +kernel
theorem dX2_pay_15 : decode cX2_pay 15 = .ok (.iload_n 1, 1) := by decide +kernel
theorem dX2_pay_16 : decode cX2_pay 16 = .ok (.istore_n 2, 1) := by decide +kernel
theorem dX2_pay_17 : decode cX2_pay 17 = .ok (.aload_n 0, 1) := by decide +kernel
theorem dX2_pay_18 : decode cX2_pay 18 = .ok (.dup, 1) := by decide +kernel
theorem dX2_pay_19 : decode cX2_pay 19 = .ok (.getfield 15, 3) := by decide +kernel
theorem dX2_pay_22 : decode cX2_pay 22 = .ok (.iload_n 2, 1) := by decide +kernel
theorem dX2_pay_23 : decode cX2_pay 23 = .ok (.isub, 1) := by decide +kernel
theorem dX2_pay_24 : decode cX2_pay 24 = .ok (.putfield 15, 3) := by decide +kernel
theorem dX2_pay_27 : decode cX2_pay 27 = .ok (.aload_n 0, 1) := by decide +kernel
theorem dX2_pay_28 : decode cX2_pay 28 = .ok (.dup, 1) := by decide +kernel
theorem dX2_pay_29 : decode cX2_pay 29 = .ok (.getfield 27, 3) := by decide +kernel
theorem dX2_pay_32 : decode cX2_pay 32 = .ok (.iload_n 2, 1) := by decide +kernel
theorem dX2_pay_33 : decode cX2_pay 33 = .ok (.iadd, 1) := by decide +kernel
theorem dX2_pay_34 : decode cX2_pay 34 = .ok (.putfield 27, 3) := by decide +kernel
theorem dX2_pay_37 : decode cX2_pay 37 = .ok (.return_, 1) := by decide +kernel
theorem dX2_settle_0 : decode cX2_settle 0 = .ok (.aload_n 0, 1) := by decide +kernel
theorem dX2_settle_1 : decode cX2_settle 1 = .ok (.getfield 15, 3) := by decide +kernel
theorem dX2_settle_4 : decode cX2_settle 4 = .ok (.istore_n 2, 1) := by decide +kernel
theorem dX2_settle_5 : decode cX2_settle 5 = .ok (.aload_n 0, 1) := by decide +kernel
theorem dX2_settle_6 : decode cX2_settle 6 = .ok (.aload_n 0, 1) := by decide +kernel
theorem dX2_settle_7 : decode cX2_settle 7 = .ok (.getfield 15, 3) := by decide +kernel
theorem dX2_settle_10 : decode cX2_settle 10 = .ok (.iload_n 1, 1) := by decide +kernel
theorem dX2_settle_11 : decode cX2_settle 11 = .ok (.imul, 1) := by decide +kernel
theorem dX2_settle_12 : decode cX2_settle 12 = .ok (.bipush 100, 2) := by decide +kernel
theorem dX2_settle_14 : decode cX2_settle 14 = .ok (.idiv, 1) := by decide +kernel
theorem dX2_settle_15 : decode cX2_settle 15 = .ok (.invokevirtual 38, 3) := by decide +kernel
theorem dX2_settle_18 : decode cX2_settle 18 = .ok (.aload_n 0, 1) := by decide +kernel
theorem dX2_settle_19 : decode cX2_settle 19 = .ok (.dup, 1) := by decide +kernel
theorem dX2_settle_20 : decode cX2_settle 20 = .ok (.getfield 24, 3) := by decide +kernel
theorem dX2_settle_23 : decode cX2_settle 23 = .ok (.aload_n 0, 1) := by decide +kernel
theorem dX2_settle_24 : decode cX2_settle 24 = .ok (.getfield 15, 3) := by decide +kernel
theorem dX2_settle_27 : decode cX2_settle 27 = .ok (.iload_n 2, 1) := by decide +kernel
theorem dX2_settle_28 : decode cX2_settle 28 = .ok (.isub, 1) := by decide +kernel
theorem dX2_settle_29 : decode cX2_settle 29 = .ok (.iadd, 1) := by decide +kernel
theorem dX2_settle_30 : decode cX2_settle 30 = .ok (.putfield 24, 3) := by decide +kernel
theorem dX2_settle_33 : decode cX2_settle 33 = .ok (.aload_n 0, 1) := by decide +kernel
theorem dX2_settle_34 : decode cX2_settle 34 = .ok (.aload_n 0, 1) := by decide +kernel
theorem dX2_settle_35 : decode cX2_settle 35 = .ok (.getfield 18, 3) := by decide +kernel
theorem dX2_settle_38 : decode cX2_settle 38 = .ok (.aload_n 0, 1) := by decide +kernel
theorem dX2_settle_39 : decode cX2_settle 39 = .ok (.getfield 9, 3) := by decide +kernel
theorem dX2_settle_42 : decode cX2_settle 42 = .ok (.imul, 1) := by decide +kernel
theorem dX2_settle_43 : decode cX2_settle 43 = .ok (.invokevirtual 42, 3) := by decide +kernel
theorem dX2_settle_46 : decode cX2_settle 46 = .ok (.return_, 1) := by decide +kernel
theorem dX2_bear_0 : decode cX2_bear 0 = .ok (.aload_n 0, 1) := by decide +kernel
theorem dX2_bear_1 : decode cX2_bear 1 = .ok (.getfield 9, 3) := by decide +kernel
theorem dX2_bear_4 : decode cX2_bear 4 = .ok (.bipush 20, 2) := by decide +kernel
theorem dX2_bear_6 : decode cX2_bear 6 = .ok (.if_icmp .lt 4, 3) := by decide +kernel
theorem dX2_bear_9 : decode cX2_bear 9 = .ok (.return_, 1) := by decide +kernel
theorem dX2_bear_10 : decode cX2_bear 10 = .ok (.aload_n 0, 1) := by decide +kernel
theorem dX2_bear_11 : decode cX2_bear 11 = .ok (.dup, 1) := by decide +kernel
theorem dX2_bear_12 : decode cX2_bear 12 = .ok (.getfield 9, 3) := by decide +kernel
theorem dX2_bear_15 : decode cX2_bear 15 = .ok (.iconst 1, 1) := by decide +kernel
theorem dX2_bear_16 : decode cX2_bear 16 = .ok (.iadd, 1) := by decide +kernel
theorem dX2_bear_17 : decode cX2_bear 17 = .ok (.putfield 9, 3) := by decide +kernel
theorem dX2_bear_20 : decode cX2_bear 20 = .ok (.aload_n 0, 1) := by decide +kernel
theorem dX2_bear_21 : decode cX2_bear 21 = .ok (.getfield 15, 3) := by decide +kernel
theorem dX2_bear_24 : decode cX2_bear 24 = .ok (.ifCond .ne 13, 3) := by decide +kernel
theorem dX2_bear_27 : decode cX2_bear 27 = .ok (.aload_n 0, 1) := by decide +kernel
theorem dX2_bear_28 : decode cX2_bear 28 = .ok (.dup, 1) := by decide +kernel
theorem dX2_bear_29 : decode cX2_bear 29 = .ok (.getfield 30, 3) := by decide +kernel
theorem dX2_bear_32 : decode cX2_bear 32 = .ok (.iconst 1, 1) := by decide +kernel
theorem dX2_bear_33 : decode cX2_bear 33 = .ok (.iadd, 1) := by decide +kernel
theorem dX2_bear_34 : decode cX2_bear 34 = .ok (.putfield 30, 3) := by decide +kernel
theorem dX2_bear_37 : decode cX2_bear 37 = .ok (.return_, 1) := by decide +kernel
theorem dX2_passYear_0 : decode cX2_passYear 0 = .ok (.aload_n 0, 1) := by decide +kernel
theorem dX2_passYear_1 : decode cX2_passYear 1 = .ok (.iload_n 1, 1) := by decide +kernel
theorem dX2_passYear_2 : decode cX2_passYear 2 = .ok (.invokevirtual 45, 3) := by decide +kernel
theorem dX2_passYear_5 : decode cX2_passYear 5 = .ok (.aload_n 0, 1) := by decide +kernel
theorem dX2_passYear_6 : decode cX2_passYear 6 = .ok (.getfield 21, 3) := by decide +kernel
theorem dX2_passYear_9 : decode cX2_passYear 9 = .ok (.ifCond .le 16, 3) := by decide +kernel
theorem dX2_passYear_12 : decode cX2_passYear 12 = .ok (.iload_n 2, 1) := by decide +kernel
theorem dX2_passYear_13 : decode cX2_passYear 13 = .ok (.aload_n 0, 1) := by decide +kernel
theorem dX2_passYear_14 : decode cX2_passYear 14 = .ok (.getfield 21, 3) := by decide +kernel
theorem dX2_passYear_17 : decode cX2_passYear 17 = .ok (.irem, 1) := by decide +kernel
theorem dX2_passYear_18 : decode cX2_passYear 18 = .ok (.ifCond .ne 7, 3) := by decide +kernel
theorem dX2_passYear_21 : decode cX2_passYear 21 = .ok (.aload_n 0, 1) := by decide +kernel
theorem dX2_passYear_22 : decode cX2_passYear 22 = .ok (.invokevirtual 48, 3) := by decide +kernel
theorem dX2_passYear_25 : decode cX2_passYear 25 = .ok (.return_, 1) := by decide +kernel
theorem dX2_passYears_0 : decode cX2_passYears 0 = .ok (.iconst 1, 1) := by decide +kernel
theorem dX2_passYears_1 : decode cX2_passYears 1 = .ok (.istore 4, 2) := by decide +kernel
theorem dX2_passYears_3 : decode cX2_passYears 3 = .ok (.iload 4, 2) := by decide +kernel
theorem dX2_passYears_5 : decode cX2_passYears 5 = .ok (.iload_n 3, 1) := by decide +kernel
theorem dX2_passYears_6 : decode cX2_passYears 6 = .ok (.if_icmp .gt 18, 3) := by decide +kernel
theorem dX2_passYears_9 : decode cX2_passYears 9 = .ok (.aload_n 0, 1) := by decide +kernel
theorem dX2_passYears_10 : decode cX2_passYears 10 = .ok (.iload_n 1, 1) := by decide +kernel
theorem dX2_passYears_11 : decode cX2_passYears 11 = .ok (.iload_n 2, 1) := by decide +kernel
theorem dX2_passYears_12 : decode cX2_passYears 12 = .ok (.iload 4, 2) := by decide +kernel
theorem dX2_passYears_14 : decode cX2_passYears 14 = .ok (.iadd, 1) := by decide +kernel
theorem dX2_passYears_15 : decode cX2_passYears 15 = .ok (.invokevirtual 51, 3) := by decide +kernel
theorem dX2_passYears_18 : decode cX2_passYears 18 = .ok (.iinc 4 1, 3) := by decide +kernel
theorem dX2_passYears_21 : decode cX2_passYears 21 = .ok (.goto (-18), 3) := by decide +kernel
theorem dX2_passYears_24 : decode cX2_passYears 24 = .ok (.return_, 1) := by decide +kernel
theorem dX3_init_0 : decode cX3_init 0 = .ok (.aload_n 0, 1) := by decide +kernel
theorem dX3_init_1 : decode cX3_init 1 = .ok (.invokespecial 3, 3) := by decide +kernel
theorem dX3_init_4 : decode cX3_init 4 = .ok (.aload_n 0, 1) := by decide +kernel
theorem dX3_init_5 : decode cX3_init 5 = .ok (.iconst 5, 1) := by decide +kernel
theorem dX3_init_6 : decode cX3_init 6 = .ok (.putfield 9, 3) := by decide +kernel
theorem dX3_init_9 : decode cX3_init 9 = .ok (.aload_n 0, 1) := by decide +kernel
theorem dX3_init_10 : decode cX3_init 10 = .ok (.iconst 5, 1) := by decide +kernel
theorem dX3_init_11 : decode cX3_init 11 = .ok (.anewarray 15, 3) := by decide +kernel
theorem dX3_init_14 : decode cX3_init 14 = .ok (.putfield 17, 3) := by decide +kernel
theorem dX3_init_17 : decode cX3_init 17 = .ok (.iconst 0, 1) := by decide +kernel
theorem dX3_init_18 : decode cX3_init 18 = .ok (.istore_n 1, 1) := by decide +kernel
theorem dX3_init_19 : decode cX3_init 19 = .ok (.iload_n 1, 1) := by decide +kernel
theorem dX3_init_20 : decode cX3_init 20 = .ok (.aload_n 0, 1) := by decide +kernel
theorem dX3_init_21 : decode cX3_init 21 = .ok (.getfield 17, 3) := by decide +kernel
theorem dX3_init_24 : decode cX3_init 24 = .ok (.arraylength, 1) := by decide +kernel
theorem dX3_init_25 : decode cX3_init 25 = .ok (.if_icmp .ge 22, 3) := by decide +kernel
theorem dX3_init_28 : decode cX3_init 28 = .ok (.aload_n 0, 1) := by decide +kernel
theorem dX3_init_29 : decode cX3_init 29 = .ok (.getfield 17, 3) := by decide +kernel
theorem dX3_init_32 : decode cX3_init 32 = .ok (.iload_n 1, 1) := by decide +kernel
theorem dX3_init_33 : decode cX3_init 33 = .ok (.new 15, 3) := by decide +kernel
theorem dX3_init_36 : decode cX3_init 36 = .ok (.dup, 1) := by decide +kernel
theorem dX3_init_37 : decode cX3_init 37 = .ok (.invokespecial 21, 3) := by decide +kernel
theorem dX3_init_40 : decode cX3_init 40 = .ok (.aastore, 1) := by decide +kernel
theorem dX3_init_41 : decode cX3_init 41 = .ok (.iinc 1 1, 3) := by decide +kernel
theorem dX3_init_44 : decode cX3_init 44 = .ok (.goto (-25), 3) := by decide +kernel
theorem dX3_init_47 : decode cX3_init 47 = .ok (.aload_n 0, 1) := by decide +kernel
theorem dX3_init_48 : decode cX3_init 48 = .ok (.bipush 6, 2) := by decide +kernel
theorem dX3_init_50 : decode cX3_init 50 = .ok (.anewarray 22, 3) := by decide +kernel
theorem dX3_init_53 : decode cX3_init 53 = .ok (.putfield 24, 3) := by decide +kernel
theorem dX3_init_56 : decode cX3_init 56 = .ok (.aload_n 0, 1) := by decide +kernel
theorem dX3_init_57 : decode cX3_init 57 = .ok (.bipush 6, 2) := by decide +kernel
theorem dX3_init_59 : decode cX3_init 59 = .ok (.newarray .int, 2) := by decide +kernel
theorem dX3_init_61 : decode cX3_init 61 = .ok (.putfield 28, 3) := by decide +kernel
theorem dX3_init_64 : decode cX3_init 64 = .ok (.aload_n 0, 1) := by decide +kernel
theorem dX3_init_65 : decode cX3_init 65 = .ok (.iconst 5, 1) := by decide +kernel
theorem dX3_init_66 : decode cX3_init 66 = .ok (.newarray .int, 2) := by decide +kernel
theorem dX3_init_68 : decode cX3_init 68 = .ok (.putfield 32, 3) := by decide +kernel
theorem dX3_init_71 : decode cX3_init 71 = .ok (.return_, 1) := by decide +kernel
theorem dX3_copy_0 : decode cX3_copy 0 = .ok (.aload_n 0, 1) := by decide +kernel
theorem dX3_copy_1 : decode cX3_copy 1 = .ok (.aload_n 1, 1) := by decide +kernel
theorem dX3_copy_2 : decode cX3_copy 2 = .ok (.getfield 35, 3) := by decide +kernel
theorem dX3_copy_5 : decode cX3_copy 5 = .ok (.putfield 35, 3) := by decide +kernel
theorem dX3_copy_8 : decode cX3_copy 8 = .ok (.aload_n 0, 1) := by decide +kernel
theorem dX3_copy_9 : decode cX3_copy 9 = .ok (.aload_n 1, 1) := by decide +kernel
theorem dX3_copy_10 : decode cX3_copy 10 = .ok (.getfield 38, 3) := by decide +kernel
theorem dX3_copy_13 : decode cX3_copy 13 = .ok (.putfield 38, 3) := by decide +kernel
theorem dX3_copy_16 : decode cX3_copy 16 = .ok (.aload_n 0, 1) := by decide +kernel
theorem dX3_copy_17 : decode cX3_copy 17 = .ok (.aload_n 1, 1) := by decide +kernel
theorem dX3_copy_18 : decode cX3_copy 18 = .ok (.getfield 41, 3) := by decide +kernel
theorem dX3_copy_21 : decode cX3_copy 21 = .ok (.putfield 41, 3) := by decide +kernel
theorem dX3_copy_24 : decode cX3_copy 24 = .ok (.aload_n 0, 1) := by decide +kernel
theorem dX3_copy_25 : decode cX3_copy 25 = .ok (.aload_n 1, 1) := by decide +kernel
theorem dX3_copy_26 : decode cX3_copy 26 = .ok (.getfield 9, 3) := by decide +kernel
theorem dX3_copy_29 : decode cX3_copy 29 = .ok (.putfield 9, 3) := by decide +kernel
theorem dX3_copy_32 : decode cX3_copy 32 = .ok (.aload_n 0, 1) := by decide +kernel
theorem dX3_copy_33 : decode cX3_copy 33 = .ok (.aload_n 1, 1) := by decide +kernel
theorem dX3_copy_34 : decode cX3_copy 34 = .ok (.getfield 44, 3) := by decide +kernel
theorem dX3_copy_37 : decode cX3_copy 37 = .ok (.putfield 44, 3) := by decide +kernel
theorem dX3_copy_40 : decode cX3_copy 40 = .ok (.aload_n 0, 1) := by decide +kernel
theorem dX3_copy_41 : decode cX3_copy 41 = .ok (.aload_n 1, 1) := by decide +kernel
theorem dX3_copy_42 : decode cX3_copy 42 = .ok (.getfield 47, 3) := by decide +kernel
theorem dX3_copy_45 : decode cX3_copy 45 = .ok (.putfield 47, 3) := by decide +kernel
theorem dX3_copy_48 : decode cX3_copy 48 = .ok (.iconst 0, 1) := by decide +kernel
theorem dX3_copy_49 : decode cX3_copy 49 = .ok (.istore_n 2, 1) := by decide +kernel
theorem dX3_copy_50 : decode cX3_copy 50 = .ok (.iload_n 2, 1) := by decide +kernel
theorem dX3_copy_51 : decode cX3_copy 51 = .ok (.aload_n 0, 1) := by decide +kernel
theorem dX3_copy_52 : decode cX3_copy 52 = .ok (.getfield 35, 3) := by decide +kernel
theorem dX3_copy_55 : decode cX3_copy 55 = .ok (.if_icmp .ge 22, 3) := by decide +kernel
theorem dX3_copy_58 : decode cX3_copy 58 = .ok (.aload_n 0, 1) := by decide +kernel
theorem dX3_copy_59 : decode cX3_copy 59 = .ok (.iload_n 2, 1) := by decide +kernel
theorem dX3_copy_60 : decode cX3_copy 60 = .ok (.invokevirtual 50, 3) := by decide +kernel
theorem dX3_copy_63 : decode cX3_copy 63 = .ok (.aload_n 1, 1) := by decide +kernel
theorem dX3_copy_64 : decode cX3_copy 64 = .ok (.iload_n 2, 1) := by decide +kernel
theorem dX3_copy_65 : decode cX3_copy 65 = .ok (.invokevirtual 50, 3) := by decide +kernel
theorem dX3_copy_68 : decode cX3_copy 68 = .ok (.invokevirtual 54, 3) := by decide +kernel
theorem dX3_copy_71 : decode cX3_copy 71 = .ok (.iinc 2 1, 3) := by decide +kernel
theorem dX3_copy_74 : decode cX3_copy 74 = .ok (.goto (-24), 3) := by decide +kernel
theorem dX3_copy_77 : decode cX3_copy 77 = .ok (.iconst 0, 1) := by decide +kernel
theorem dX3_copy_78 : decode cX3_copy 78 = .ok (.istore_n 2, 1) := by decide +kernel
theorem dX3_copy_79 : decode cX3_copy 79 = .ok (.iload_n 2, 1) := by decide +kernel
theorem dX3_copy_80 : decode cX3_copy 80 = .ok (.aload_n 0, 1) := by decide +kernel
theorem dX3_copy_81 : decode cX3_copy 81 = .ok (.getfield 24, 3) := by decide +kernel
theorem dX3_copy_84 : decode cX3_copy 84 = .ok (.arraylength, 1) := by decide +kernel
theorem dX3_copy_85 : decode cX3_copy 85 = .ok (.if_icmp .ge 40, 3) := by decide +kernel
theorem dX3_copy_88 : decode cX3_copy 88 = .ok (.iload_n 2, 1) := by decide +kernel
theorem dX3_copy_89 : decode cX3_copy 89 = .ok (.aload_n 0, 1) := by decide +kernel
theorem dX3_copy_90 : decode cX3_copy 90 = .ok (.getfield 28, 3) := by decide +kernel
theorem dX3_copy_93 : decode cX3_copy 93 = .ok (.arraylength, 1) := by decide +kernel
theorem dX3_copy_94 : decode cX3_copy 94 = .ok (.if_icmp .ge 31, 3) := by decide +kernel
theorem dX3_copy_97 : decode cX3_copy 97 = .ok (.aload_n 0, 1) := by decide +kernel
theorem dX3_copy_98 : decode cX3_copy 98 = .ok (.getfield 24, 3) := by decide +kernel
theorem dX3_copy_101 : decode cX3_copy 101 = .ok (.iload_n 2, 1) := by decide +kernel
theorem dX3_copy_102 : decode cX3_copy 102 = .ok (.aload_n 1, 1) := by decide +kernel
theorem dX3_copy_103 : decode cX3_copy 103 = .ok (.iload_n 2, 1) := by decide +kernel
theorem dX3_copy_104 : decode cX3_copy 104 = .ok (.invokevirtual 58, 3) := by decide +kernel
theorem dX3_copy_107 : decode cX3_copy 107 = .ok (.aastore, 1) := by decide +kernel
theorem dX3_copy_108 : decode cX3_copy 108 = .ok (.aload_n 0, 1) := by decide +kernel
theorem dX3_copy_109 : decode cX3_copy 109 = .ok (.getfield 28, 3) := by decide +kernel
theorem dX3_copy_112 : decode cX3_copy 112 = .ok (.iload_n 2, 1) := by decide +kernel
theorem dX3_copy_113 : decode cX3_copy 113 = .ok (.aload_n 1, 1) := by decide +kernel
theorem dX3_copy_114 : decode cX3_copy 114 = .ok (.iload_n 2, 1) := by decide +kernel
theorem dX3_copy_115 : decode cX3_copy 115 = .ok (.invokevirtual 62, 3) := by decide +kernel
theorem dX3_copy_118 : decode cX3_copy 118 = .ok (.iastore, 1) := by decide +kernel
theorem dX3_copy_119 : decode cX3_copy 119 = .ok (.iinc 2 1, 3) := by decide +kernel
theorem dX3_copy_122 : decode cX3_copy 122 = .ok (.goto (-43), 3) := by decide +kernel
theorem dX3_copy_125 : decode cX3_copy 125 = .ok (.return_, 1) := by decide +kernel
theorem dX3_at_0 : decode cX3_at 0 = .ok (.aload_n 0, 1) := by decide +kernel
theorem dX3_at_1 : decode cX3_at 1 = .ok (.getfield 17, 3) := by decide +kernel
theorem dX3_at_4 : decode cX3_at 4 = .ok (.iload_n 1, 1) := by decide +kernel
theorem dX3_at_5 : decode cX3_at 5 = .ok (.ifCond .lt 16, 3) := by decide +kernel
theorem dX3_at_8 : decode cX3_at 8 = .ok (.iload_n 1, 1) := by decide +kernel
theorem dX3_at_9 : decode cX3_at 9 = .ok (.aload_n 0, 1) := by decide +kernel
theorem dX3_at_10 : decode cX3_at 10 = .ok (.getfield 17, 3) := by decide +kernel
theorem dX3_at_13 : decode cX3_at 13 = .ok (.arraylength, 1) := by decide +kernel
theorem dX3_at_14 : decode cX3_at 14 = .ok (.if_icmp .ge 7, 3) := by decide +kernel
theorem dX3_at_17 : decode cX3_at 17 = .ok (.iload_n 1, 1) := by decide +kernel
theorem dX3_at_18 : decode cX3_at 18 = .ok (.goto 4, 3) := by decide +kernel
theorem dX3_at_21 : decode cX3_at 21 = .ok (.iconst 0, 1) := by decide +kernel
theorem dX3_at_22 : decode cX3_at 22 = .ok (.aaload, 1) := by decide +kernel
theorem dX3_at_23 : decode cX3_at 23 = .ok (.areturn, 1) := by decide +kernel
theorem dX3_workAt_0 : decode cX3_workAt 0 = .ok (.iload_n 1, 1) := by decide +kernel
theorem dX3_workAt_1 : decode cX3_workAt 1 = .ok (.ifCond .lt 29, 3) := by decide +kernel
theorem dX3_workAt_4 : decode cX3_workAt 4 = .ok (.iload_n 1, 1) := by decide +kernel
theorem dX3_workAt_5 : decode cX3_workAt 5 = .ok (.aload_n 0, 1) := by decide +kernel
theorem dX3_workAt_6 : decode cX3_workAt 6 = .ok (.getfield 38, 3) := by decide +kernel
theorem dX3_workAt_9 : decode cX3_workAt 9 = .ok (.if_icmp .ge 21, 3) := by decide +kernel
theorem dX3_workAt_12 : decode cX3_workAt 12 = .ok (.iload_n 1, 1) := by decide +kernel
theorem dX3_workAt_13 : decode cX3_workAt 13 = .ok (.aload_n 0, 1) := by decide +kernel
theorem dX3_workAt_14 : decode cX3_workAt 14 = .ok (.getfield 24, 3) := by decide +kernel
theorem dX3_workAt_17 : decode cX3_workAt 17 = .ok (.arraylength, 1) := by decide +kernel
theorem dX3_workAt_18 : decode cX3_workAt 18 = .ok (.if_icmp .ge 12, 3) := by decide +kernel
theorem dX3_workAt_21 : decode cX3_workAt 21 = .ok (.aload_n 0, 1) := by decide +kernel
theorem dX3_workAt_22 : decode cX3_workAt 22 = .ok (.getfield 24, 3) := by decide +kernel
theorem dX3_workAt_25 : decode cX3_workAt 25 = .ok (.iload_n 1, 1) := by decide +kernel
theorem dX3_workAt_26 : decode cX3_workAt 26 = .ok (.aaload, 1) := by decide +kernel
theorem dX3_workAt_27 : decode cX3_workAt 27 = .ok (.goto 4, 3) := by decide +kernel
theorem dX3_workAt_30 : decode cX3_workAt 30 = .ok (.aconst_null, 1) := by decide +kernel
theorem dX3_workAt_31 : decode cX3_workAt 31 = .ok (.areturn, 1) := by decide +kernel
theorem dX3_builtAs_0 : decode cX3_builtAs 0 = .ok (.iload_n 1, 1) := by decide +kernel
theorem dX3_builtAs_1 : decode cX3_builtAs 1 = .ok (.ifCond .lt 29, 3) := by decide +kernel
theorem dX3_builtAs_4 : decode cX3_builtAs 4 = .ok (.iload_n 1, 1) := by decide +kernel
theorem dX3_builtAs_5 : decode cX3_builtAs 5 = .ok (.aload_n 0, 1) := by decide +kernel
theorem dX3_builtAs_6 : decode cX3_builtAs 6 = .ok (.getfield 47, 3) := by decide +kernel
theorem dX3_builtAs_9 : decode cX3_builtAs 9 = .ok (.if_icmp .ge 21, 3) := by decide +kernel
theorem dX3_builtAs_12 : decode cX3_builtAs 12 = .ok (.iload_n 1, 1) := by decide +kernel
theorem dX3_builtAs_13 : decode cX3_builtAs 13 = .ok (.aload_n 0, 1) := by decide +kernel
theorem dX3_builtAs_14 : decode cX3_builtAs 14 = .ok (.getfield 28, 3) := by decide +kernel
theorem dX3_builtAs_17 : decode cX3_builtAs 17 = .ok (.arraylength, 1) := by decide +kernel
theorem dX3_builtAs_18 : decode cX3_builtAs 18 = .ok (.if_icmp .ge 12, 3) := by decide +kernel
theorem dX3_builtAs_21 : decode cX3_builtAs 21 = .ok (.aload_n 0, 1) := by decide +kernel
theorem dX3_builtAs_22 : decode cX3_builtAs 22 = .ok (.getfield 28, 3) := by decide +kernel
theorem dX3_builtAs_25 : decode cX3_builtAs 25 = .ok (.iload_n 1, 1) := by decide +kernel
theorem dX3_builtAs_26 : decode cX3_builtAs 26 = .ok (.iaload, 1) := by decide +kernel
theorem dX3_builtAs_27 : decode cX3_builtAs 27 = .ok (.goto 5, 3) := by decide +kernel
theorem dX3_builtAs_30 : decode cX3_builtAs 30 = .ok (.bipush (-9), 2) := by decide +kernel
theorem dX3_builtAs_32 : decode cX3_builtAs 32 = .ok (.ireturn, 1) := by decide +kernel
theorem dX3_isBuilt_0 : decode cX3_isBuilt 0 = .ok (.aload_n 0, 1) := by decide +kernel
theorem dX3_isBuilt_1 : decode cX3_isBuilt 1 = .ok (.getfield 44, 3) := by decide +kernel
theorem dX3_isBuilt_4 : decode cX3_isBuilt 4 = .ok (.iload_n 1, 1) := by decide +kernel
theorem dX3_isBuilt_5 : decode cX3_isBuilt 5 = .ok (.ishr, 1) := by decide +kernel
theorem dX3_isBuilt_6 : decode cX3_isBuilt 6 = .ok (.iconst 1, 1) := by decide +kernel
theorem dX3_isBuilt_7 : decode cX3_isBuilt 7 = .ok (.iand, 1) := by decide +kernel
theorem dX3_isBuilt_8 : decode cX3_isBuilt 8 = .ok (.iconst 1, 1) := by decide +kernel
theorem dX3_isBuilt_9 : decode cX3_isBuilt 9 = .ok (.if_icmp .ne 7, 3) := by decide +kernel
theorem dX3_isBuilt_12 : decode cX3_isBuilt 12 = .ok (.iconst 1, 1) := by decide +kernel
theorem dX3_isBuilt_13 : decode cX3_isBuilt 13 = .ok (.goto 4, 3) := by decide +kernel
theorem dX3_isBuilt_16 : decode cX3_isBuilt 16 = .ok (.iconst 0, 1) := by decide +kernel
theorem dX3_isBuilt_17 : decode cX3_isBuilt 17 = .ok (.ireturn, 1) := by decide +kernel
theorem dX3_lacksFamily_0 : decode cX3_lacksFamily 0 = .ok (.iload_n 1, 1) := by decide +kernel
theorem dX3_lacksFamily_1 : decode cX3_lacksFamily 1 = .ok (.ifCond .lt 11, 3) := by decide +kernel
theorem dX3_lacksFamily_4 : decode cX3_lacksFamily 4 = .ok (.iload_n 1, 1) := by decide +kernel
theorem dX3_lacksFamily_5 : decode cX3_lacksFamily 5 = .ok (.aload_n 0, 1) := by decide +kernel
theorem dX3_lacksFamily_6 : decode cX3_lacksFamily 6 = .ok (.getfield 35, 3) := by decide +kernel
theorem dX3_lacksFamily_9 : decode cX3_lacksFamily 9 = .ok (.if_icmp .lt 7, 3) := by decide +kernel
theorem dX3_lacksFamily_12 : decode cX3_lacksFamily 12 = .ok (.iconst (-1), 1) := by decide +kernel
theorem dX3_lacksFamily_13 : decode cX3_lacksFamily 13 = .ok (.goto 4, 3) := by decide +kernel
theorem dX3_lacksFamily_16 : decode cX3_lacksFamily 16 = .ok (.iconst 0, 1) := by decide +kernel
theorem dX3_lacksFamily_17 : decode cX3_lacksFamily 17 = .ok (.ireturn, 1) := by decide +kernel
theorem dX3_lacksTwo_0 : decode cX3_lacksTwo 0 = .ok (.iload_n 1, 1) := by decide +kernel
theorem dX3_lacksTwo_1 : decode cX3_lacksTwo 1 = .ok (.iload_n 2, 1) := by decide +kernel
theorem dX3_lacksTwo_2 : decode cX3_lacksTwo 2 = .ok (.if_icmp .eq 11, 3) := by decide +kernel
theorem dX3_lacksTwo_5 : decode cX3_lacksTwo 5 = .ok (.aload_n 0, 1) := by decide +kernel
theorem dX3_lacksTwo_6 : decode cX3_lacksTwo 6 = .ok (.iload_n 1, 1) := by decide +kernel
theorem dX3_lacksTwo_7 : decode cX3_lacksTwo 7 = .ok (.invokevirtual 66, 3) := by decide +kernel
theorem dX3_lacksTwo_10 : decode cX3_lacksTwo 10 = .ok (.ifCond .eq 7, 3) := by decide +kernel
theorem dX3_lacksTwo_13 : decode cX3_lacksTwo 13 = .ok (.iconst (-1), 1) := by decide +kernel
theorem dX3_lacksTwo_14 : decode cX3_lacksTwo 14 = .ok (.goto 8, 3) := by decide +kernel
theorem dX3_lacksTwo_17 : decode cX3_lacksTwo 17 = .ok (.aload_n 0, 1) := by decide +kernel
theorem dX3_lacksTwo_18 : decode cX3_lacksTwo 18 = .ok (.iload_n 2, 1) := by decide +kernel
theorem dX3_lacksTwo_19 : decode cX3_lacksTwo 19 = .ok (.invokevirtual 66, 3) := by decide +kernel
theorem dX3_lacksTwo_22 : decode cX3_lacksTwo 22 = .ok (.ireturn, 1) := by decide +kernel
theorem dX3_lacksEither_0 : decode cX3_lacksEither 0 = .ok (.aload_n 0, 1) := by decide +kernel
theorem dX3_lacksEither_1 : decode cX3_lacksEither 1 = .ok (.iload_n 1, 1) := by decide +kernel
theorem dX3_lacksEither_2 : decode cX3_lacksEither 2 = .ok (.invokevirtual 58, 3) := by decide +kernel
theorem dX3_lacksEither_5 : decode cX3_lacksEither 5 = .ok (.ifnonnull 7, 3) := by decide +kernel
theorem dX3_lacksEither_8 : decode cX3_lacksEither 8 = .ok (.iconst (-1), 1) := by decide +kernel
theorem dX3_lacksEither_9 : decode cX3_lacksEither 9 = .ok (.goto 8, 3) := by decide +kernel
theorem dX3_lacksEither_12 : decode cX3_lacksEither 12 = .ok (.aload_n 0, 1) := by decide +kernel
theorem dX3_lacksEither_13 : decode cX3_lacksEither 13 = .ok (.iload_n 2, 1) := by decide +kernel
theorem dX3_lacksEither_14 : decode cX3_lacksEither 14 = .ok (.invokevirtual 66, 3) := by decide +kernel
theorem dX3_lacksEither_17 : decode cX3_lacksEither 17 = .ok (.ireturn, 1) := by decide +kernel
theorem dX3_takeFamily_0 : decode cX3_takeFamily 0 = .ok (.iload_n 1, 1) := by decide +kernel
theorem dX3_takeFamily_1 : decode cX3_takeFamily 1 = .ok (.iconst 1, 1) := by decide +kernel
theorem dX3_takeFamily_2 : decode cX3_takeFamily 2 = .ok (.if_icmp .lt 11, 3) := by decide +kernel
theorem dX3_takeFamily_5 : decode cX3_takeFamily 5 = .ok (.iload_n 2, 1) := by decide +kernel
theorem dX3_takeFamily_6 : decode cX3_takeFamily 6 = .ok (.ifCond .lt 7, 3) := by decide +kernel
theorem dX3_takeFamily_9 : decode cX3_takeFamily 9 = .ok (.iload_n 3, 1) := by decide +kernel
theorem dX3_takeFamily_10 : decode cX3_takeFamily 10 = .ok (.ifCond .ge 6, 3) := by decide +kernel
theorem dX3_takeFamily_13 : decode cX3_takeFamily 13 = .ok (.bipush (-4), 2) := by decide +kernel
theorem dX3_takeFamily_15 : decode cX3_takeFamily 15 = .ok (.ireturn, 1) := by decide +kernel
theorem dX3_takeFamily_16 : decode cX3_takeFamily 16 = .ok (.iload_n 1, 1) := by decide +kernel
theorem dX3_takeFamily_17 : decode cX3_takeFamily 17 = .ok (.bipush 20, 2) := by decide +kernel
theorem dX3_takeFamily_19 : decode cX3_takeFamily 19 = .ok (.if_icmp .gt 15, 3) := by decide +kernel
theorem dX3_takeFamily_22 : decode cX3_takeFamily 22 = .ok (.iload_n 2, 1) := by decide +kernel
theorem dX3_takeFamily_23 : decode cX3_takeFamily 23 = .ok (.bipush 9, 2) := by decide +kernel
theorem dX3_takeFamily_25 : decode cX3_takeFamily 25 = .ok (.if_icmp .gt 9, 3) := by decide +kernel
theorem dX3_takeFamily_28 : decode cX3_takeFamily 28 = .ok (.iload_n 3, 1) := by decide +kernel
theorem dX3_takeFamily_29 : decode cX3_takeFamily 29 = .ok (.bipush 9, 2) := by decide +kernel
theorem dX3_takeFamily_31 : decode cX3_takeFamily 31 = .ok (.if_icmp .le 6, 3) := by decide +kernel
theorem dX3_takeFamily_34 : decode cX3_takeFamily 34 = .ok (.bipush (-6), 2) := by decide +kernel
theorem dX3_takeFamily_36 : decode cX3_takeFamily 36 = .ok (.ireturn, 1) := by decide +kernel
theorem dX3_takeFamily_37 : decode cX3_takeFamily 37 = .ok (.aload_n 0, 1) := by decide +kernel
theorem dX3_takeFamily_38 : decode cX3_takeFamily 38 = .ok (.getfield 35, 3) := by decide +kernel
theorem dX3_takeFamily_41 : decode cX3_takeFamily 41 = .ok (.aload_n 0, 1) := by decide +kernel
theorem dX3_takeFamily_42 : decode cX3_takeFamily 42 = .ok (.getfield 17, 3) := by decide +kernel
theorem dX3_takeFamily_45 : decode cX3_takeFamily 45 = .ok (.arraylength, 1) := by decide +kernel
theorem dX3_takeFamily_46 : decode cX3_takeFamily 46 = .ok (.if_icmp .lt 6, 3) := by decide +kernel
theorem dX3_takeFamily_49 : decode cX3_takeFamily 49 = .ok (.bipush (-6), 2) := by decide +kernel
theorem dX3_takeFamily_51 : decode cX3_takeFamily 51 = .ok (.ireturn, 1) := by decide +kernel
theorem dX3_takeFamily_52 : decode cX3_takeFamily 52 = .ok (.aload_n 0, 1) := by decide +kernel
theorem dX3_takeFamily_53 : decode cX3_takeFamily 53 = .ok (.aload_n 0, 1) := by decide +kernel
theorem dX3_takeFamily_54 : decode cX3_takeFamily 54 = .ok (.getfield 35, 3) := by decide +kernel
theorem dX3_takeFamily_57 : decode cX3_takeFamily 57 = .ok (.invokevirtual 50, 3) := by decide +kernel
theorem dX3_takeFamily_60 : decode cX3_takeFamily 60 = .ok (.iload_n 1, 1) := by decide +kernel
theorem dX3_takeFamily_61 : decode cX3_takeFamily 61 = .ok (.iload_n 2, 1) := by decide +kernel
theorem dX3_takeFamily_62 : decode cX3_takeFamily 62 = .ok (.iload_n 3, 1) := by decide +kernel
theorem dX3_takeFamily_63 : decode cX3_takeFamily 63 = .ok (.invokevirtual 69, 3) := by decide +kernel
theorem dX3_takeFamily_66 : decode cX3_takeFamily 66 = .ok (.aload_n 0, 1) := by decide +kernel
theorem dX3_takeFamily_67 : decode cX3_takeFamily 67 = .ok (.dup, 1) := by decide +kernel
theorem dX3_takeFamily_68 : decode cX3_takeFamily 68 = .ok (.getfield 35, 3) := by decide +kernel
theorem dX3_takeFamily_71 : decode cX3_takeFamily 71 = .ok (.iconst 1, 1) := by decide +kernel
theorem dX3_takeFamily_72 : decode cX3_takeFamily 72 = .ok (.iadd, 1) := by decide +kernel
theorem dX3_takeFamily_73 : decode cX3_takeFamily 73 = .ok (.putfield 35, 3) := by decide +kernel
theorem dX3_takeFamily_76 : decode cX3_takeFamily 76 = .ok (.aload_n 0, 1) := by decide +kernel
theorem dX3_takeFamily_77 : decode cX3_takeFamily 77 = .ok (.getfield 35, 3) := by decide +kernel
theorem dX3_takeFamily_80 : decode cX3_takeFamily 80 = .ok (.iconst 1, 1) := by decide +kernel
theorem dX3_takeFamily_81 : decode cX3_takeFamily 81 = .ok (.isub, 1) := by decide +kernel
theorem dX3_takeFamily_82 : decode cX3_takeFamily 82 = .ok (.ireturn, 1) := by decide +kernel
theorem dX3_takeWork_0 : decode cX3_takeWork 0 = .ok (.iload_n 1, 1) := by decide +kernel
theorem dX3_takeWork_1 : decode cX3_takeWork 1 = .ok (.iconst 5, 1) := by decide +kernel
theorem dX3_takeWork_2 : decode cX3_takeWork 2 = .ok (.invokestatic 73, 3) := by decide +kernel
theorem dX3_takeWork_5 : decode cX3_takeWork 5 = .ok (.ifCond .eq 6, 3) := by decide +kernel
theorem dX3_takeWork_8 : decode cX3_takeWork 8 = .ok (.bipush (-2), 2) := by decide +kernel
theorem dX3_takeWork_10 : decode cX3_takeWork 10 = .ok (.ireturn, 1) := by decide +kernel
theorem dX3_takeWork_11 : decode cX3_takeWork 11 = .ok (.iload_n 2, 1) := by decide +kernel
theorem dX3_takeWork_12 : decode cX3_takeWork 12 = .ok (.ifCond .lt 8, 3) := by decide +kernel
theorem dX3_takeWork_15 : decode cX3_takeWork 15 = .ok (.iload_n 3, 1) := by decide +kernel
theorem dX3_takeWork_16 : decode cX3_takeWork 16 = .ok (.iconst 1, 1) := by decide +kernel
theorem dX3_takeWork_17 : decode cX3_takeWork 17 = .ok (.if_icmp .ge 6, 3) := by decide +kernel
theorem dX3_takeWork_20 : decode cX3_takeWork 20 = .ok (.bipush (-4), 2) := by decide +kernel
theorem dX3_takeWork_22 : decode cX3_takeWork 22 = .ok (.ireturn, 1) := by decide +kernel
theorem dX3_takeWork_23 : decode cX3_takeWork 23 = .ok (.iload_n 2, 1) := by decide +kernel
theorem dX3_takeWork_24 : decode cX3_takeWork 24 = .ok (.bipush 9, 2) := by decide +kernel
theorem dX3_takeWork_26 : decode cX3_takeWork 26 = .ok (.if_icmp .gt 10, 3) := by decide +kernel
theorem dX3_takeWork_29 : decode cX3_takeWork 29 = .ok (.iload_n 3, 1) := by decide +kernel
theorem dX3_takeWork_30 : decode cX3_takeWork 30 = .ok (.sipush 999, 3) := by decide +kernel
theorem dX3_takeWork_33 : decode cX3_takeWork 33 = .ok (.if_icmp .le 6, 3) := by decide +kernel
theorem dX3_takeWork_36 : decode cX3_takeWork 36 = .ok (.bipush (-6), 2) := by decide +kernel
theorem dX3_takeWork_38 : decode cX3_takeWork 38 = .ok (.ireturn, 1) := by decide +kernel
theorem dX3_takeWork_39 : decode cX3_takeWork 39 = .ok (.aload_n 0, 1) := by decide +kernel
theorem dX3_takeWork_40 : decode cX3_takeWork 40 = .ok (.getfield 38, 3) := by decide +kernel
theorem dX3_takeWork_43 : decode cX3_takeWork 43 = .ok (.aload_n 0, 1) := by decide +kernel
theorem dX3_takeWork_44 : decode cX3_takeWork 44 = .ok (.getfield 24, 3) := by decide +kernel
theorem dX3_takeWork_47 : decode cX3_takeWork 47 = .ok (.arraylength, 1) := by decide +kernel
theorem dX3_takeWork_48 : decode cX3_takeWork 48 = .ok (.if_icmp .lt 6, 3) := by decide +kernel
theorem dX3_takeWork_51 : decode cX3_takeWork 51 = .ok (.bipush (-6), 2) := by decide +kernel
theorem dX3_takeWork_53 : decode cX3_takeWork 53 = .ok (.ireturn, 1) := by decide +kernel
theorem dX3_takeWork_54 : decode cX3_takeWork 54 = .ok (.aload_n 0, 1) := by decide +kernel
theorem dX3_takeWork_55 : decode cX3_takeWork 55 = .ok (.getfield 24, 3) := by decide +kernel
theorem dX3_takeWork_58 : decode cX3_takeWork 58 = .ok (.aload_n 0, 1) := by decide +kernel
theorem dX3_takeWork_59 : decode cX3_takeWork 59 = .ok (.getfield 38, 3) := by decide +kernel
theorem dX3_takeWork_62 : decode cX3_takeWork 62 = .ok (.iload_n 1, 1) := by decide +kernel
theorem dX3_takeWork_63 : decode cX3_takeWork 63 = .ok (.iload_n 2, 1) := by decide +kernel
theorem dX3_takeWork_64 : decode cX3_takeWork 64 = .ok (.iload_n 3, 1) := by decide +kernel
theorem dX3_takeWork_65 : decode cX3_takeWork 65 = .ok (.invokestatic 77, 3) := by decide +kernel
theorem dX3_takeWork_68 : decode cX3_takeWork 68 = .ok (.aastore, 1) := by decide +kernel
theorem dX3_takeWork_69 : decode cX3_takeWork 69 = .ok (.aload_n 0, 1) := by decide +kernel
theorem dX3_takeWork_70 : decode cX3_takeWork 70 = .ok (.dup, 1) := by decide +kernel
theorem dX3_takeWork_71 : decode cX3_takeWork 71 = .ok (.getfield 38, 3) := by decide +kernel
theorem dX3_takeWork_74 : decode cX3_takeWork 74 = .ok (.iconst 1, 1) := by decide +kernel
theorem dX3_takeWork_75 : decode cX3_takeWork 75 = .ok (.iadd, 1) := by decide +kernel
theorem dX3_takeWork_76 : decode cX3_takeWork 76 = .ok (.putfield 38, 3) := by decide +kernel
theorem dX3_takeWork_79 : decode cX3_takeWork 79 = .ok (.aload_n 0, 1) := by decide +kernel
theorem dX3_takeWork_80 : decode cX3_takeWork 80 = .ok (.getfield 38, 3) := by decide +kernel
theorem dX3_takeWork_83 : decode cX3_takeWork 83 = .ok (.iconst 1, 1) := by decide +kernel
theorem dX3_takeWork_84 : decode cX3_takeWork 84 = .ok (.isub, 1) := by decide +kernel
theorem dX3_takeWork_85 : decode cX3_takeWork 85 = .ok (.ireturn, 1) := by decide +kernel
theorem dX3_newWork_0 : decode cX3_newWork 0 = .ok (.iload_n 0, 1) := by decide +kernel
theorem dX3_newWork_1 : decode cX3_newWork 1 = .ok (.tableswitch 85 1 5 #[35, 45, 55, 65, 75], 35) := by decide +kernel
theorem dX3_newWork_36 : decode cX3_newWork 36 = .ok (.new 81, 3) := by decide +kernel
theorem dX3_newWork_39 : decode cX3_newWork 39 = .ok (.dup, 1) := by decide +kernel
theorem dX3_newWork_40 : decode cX3_newWork 40 = .ok (.iload_n 1, 1) := by decide +kernel
theorem dX3_newWork_41 : decode cX3_newWork 41 = .ok (.iload_n 2, 1) := by decide +kernel
theorem dX3_newWork_42 : decode cX3_newWork 42 = .ok (.invokespecial 83, 3) := by decide +kernel
theorem dX3_newWork_45 : decode cX3_newWork 45 = .ok (.areturn, 1) := by decide +kernel
theorem dX3_newWork_46 : decode cX3_newWork 46 = .ok (.new 86, 3) := by decide +kernel
theorem dX3_newWork_49 : decode cX3_newWork 49 = .ok (.dup, 1) := by decide +kernel
theorem dX3_newWork_50 : decode cX3_newWork 50 = .ok (.iload_n 1, 1) := by decide +kernel
theorem dX3_newWork_51 : decode cX3_newWork 51 = .ok (.iload_n 2, 1) := by decide +kernel
theorem dX3_newWork_52 : decode cX3_newWork 52 = .ok (.invokespecial 88, 3) := by decide +kernel
theorem dX3_newWork_55 : decode cX3_newWork 55 = .ok (.areturn, 1) := by decide +kernel
theorem dX3_newWork_56 : decode cX3_newWork 56 = .ok (.new 89, 3) := by decide +kernel
theorem dX3_newWork_59 : decode cX3_newWork 59 = .ok (.dup, 1) := by decide +kernel
theorem dX3_newWork_60 : decode cX3_newWork 60 = .ok (.iload_n 1, 1) := by decide +kernel
theorem dX3_newWork_61 : decode cX3_newWork 61 = .ok (.iload_n 2, 1) := by decide +kernel
theorem dX3_newWork_62 : decode cX3_newWork 62 = .ok (.invokespecial 91, 3) := by decide +kernel
theorem dX3_newWork_65 : decode cX3_newWork 65 = .ok (.areturn, 1) := by decide +kernel
theorem dX3_newWork_66 : decode cX3_newWork 66 = .ok (.new 92, 3) := by decide +kernel
theorem dX3_newWork_69 : decode cX3_newWork 69 = .ok (.dup, 1) := by decide +kernel
theorem dX3_newWork_70 : decode cX3_newWork 70 = .ok (.iload_n 1, 1) := by decide +kernel
theorem dX3_newWork_71 : decode cX3_newWork 71 = .ok (.iload_n 2, 1) := by decide +kernel
theorem dX3_newWork_72 : decode cX3_newWork 72 = .ok (.invokespecial 94, 3) := by decide +kernel
theorem dX3_newWork_75 : decode cX3_newWork 75 = .ok (.areturn, 1) := by decide +kernel
theorem dX3_newWork_76 : decode cX3_newWork 76 = .ok (.new 95, 3) := by decide +kernel
theorem dX3_newWork_79 : decode cX3_newWork 79 = .ok (.dup, 1) := by decide +kernel
theorem dX3_newWork_80 : decode cX3_newWork 80 = .ok (.iload_n 1, 1) := by decide +kernel
theorem dX3_newWork_81 : decode cX3_newWork 81 = .ok (.iload_n 2, 1) := by decide +kernel
theorem dX3_newWork_82 : decode cX3_newWork 82 = .ok (.invokespecial 97, 3) := by decide +kernel
theorem dX3_newWork_85 : decode cX3_newWork 85 = .ok (.areturn, 1) := by decide +kernel
theorem dX3_newWork_86 : decode cX3_newWork 86 = .ok (.new 22, 3) := by decide +kernel
theorem dX3_newWork_89 : decode cX3_newWork 89 = .ok (.dup, 1) := by decide +kernel
theorem dX3_newWork_90 : decode cX3_newWork 90 = .ok (.iload_n 1, 1) := by decide +kernel
theorem dX3_newWork_91 : decode cX3_newWork 91 = .ok (.iload_n 2, 1) := by decide +kernel
theorem dX3_newWork_92 : decode cX3_newWork 92 = .ok (.invokespecial 98, 3) := by decide +kernel
theorem dX3_newWork_95 : decode cX3_newWork 95 = .ok (.areturn, 1) := by decide +kernel
theorem dX3_build_0 : decode cX3_build 0 = .ok (.aload_n 0, 1) := by decide +kernel
theorem dX3_build_1 : decode cX3_build 1 = .ok (.iload_n 1, 1) := by decide +kernel
theorem dX3_build_2 : decode cX3_build 2 = .ok (.invokevirtual 58, 3) := by decide +kernel
theorem dX3_build_5 : decode cX3_build 5 = .ok (.astore_n 2, 1) := by decide +kernel
theorem dX3_build_6 : decode cX3_build 6 = .ok (.aload_n 2, 1) := by decide +kernel
theorem dX3_build_7 : decode cX3_build 7 = .ok (.ifnonnull 5, 3) := by decide +kernel
theorem dX3_build_10 : decode cX3_build 10 = .ok (.iconst (-1), 1) := by decide +kernel
theorem dX3_build_11 : decode cX3_build 11 = .ok (.ireturn, 1) := by decide +kernel
theorem dX3_build_12 : decode cX3_build 12 = .ok (.aload_n 0, 1) := by decide +kernel
theorem dX3_build_13 : decode cX3_build 13 = .ok (.iload_n 1, 1) := by decide +kernel
theorem dX3_build_14 : decode cX3_build 14 = .ok (.invokevirtual 99, 3) := by decide +kernel
theorem dX3_build_17 : decode cX3_build 17 = .ok (.ifCond .eq 6, 3) := by decide +kernel
theorem dX3_build_20 : decode cX3_build 20 = .ok (.bipush (-3), 2) := by decide +kernel
theorem dX3_build_22 : decode cX3_build 22 = .ok (.ireturn, 1) := by decide +kernel
theorem dX3_build_23 : decode cX3_build 23 = .ok (.aload_n 2, 1) := by decide +kernel
theorem dX3_build_24 : decode cX3_build 24 = .ok (.aload_n 0, 1) := by decide +kernel
theorem dX3_build_25 : decode cX3_build 25 = .ok (.invokevirtual 103, 3) := by decide +kernel
theorem dX3_build_28 : decode cX3_build 28 = .ok (.aload_n 0, 1) := by decide +kernel
theorem dX3_build_29 : decode cX3_build 29 = .ok (.invokevirtual 107, 3) := by decide +kernel
theorem dX3_build_32 : decode cX3_build 32 = .ok (.aload_n 0, 1) := by decide +kernel
theorem dX3_build_33 : decode cX3_build 33 = .ok (.dup, 1) := by decide +kernel
theorem dX3_build_34 : decode cX3_build 34 = .ok (.getfield 44, 3) := by decide +kernel
theorem dX3_build_37 : decode cX3_build 37 = .ok (.iconst 1, 1) := by decide +kernel
theorem dX3_build_38 : decode cX3_build 38 = .ok (.iload_n 1, 1) := by decide +kernel
theorem dX3_build_39 : decode cX3_build 39 = .ok (.ishl, 1) := by decide +kernel
theorem dX3_build_40 : decode cX3_build 40 = .ok (.ior, 1) := by decide +kernel
theorem dX3_build_41 : decode cX3_build 41 = .ok (.putfield 44, 3) := by decide +kernel
theorem dX3_build_44 : decode cX3_build 44 = .ok (.aload_n 0, 1) := by decide +kernel
theorem dX3_build_45 : decode cX3_build 45 = .ok (.getfield 47, 3) := by decide +kernel
theorem dX3_build_48 : decode cX3_build 48 = .ok (.aload_n 0, 1) := by decide +kernel
theorem dX3_build_49 : decode cX3_build 49 = .ok (.getfield 28, 3) := by decide +kernel
theorem dX3_build_52 : decode cX3_build 52 = .ok (.arraylength, 1) := by decide +kernel
theorem dX3_build_53 : decode cX3_build 53 = .ok (.if_icmp .ge 13, 3) := by decide +kernel
theorem dX3_build_56 : decode cX3_build 56 = .ok (.aload_n 0, 1) := by decide +kernel
theorem dX3_build_57 : decode cX3_build 57 = .ok (.getfield 28, 3) := by decide +kernel
theorem dX3_build_60 : decode cX3_build 60 = .ok (.aload_n 0, 1) := by decide +kernel
theorem dX3_build_61 : decode cX3_build 61 = .ok (.getfield 47, 3) := by decide +kernel
theorem dX3_build_64 : decode cX3_build 64 = .ok (.iload_n 1, 1) := by decide +kernel
theorem dX3_build_65 : decode cX3_build 65 = .ok (.iastore, 1) := by decide +kernel
theorem dX3_build_66 : decode cX3_build 66 = .ok (.aload_n 0, 1) := by decide +kernel
theorem dX3_build_67 : decode cX3_build 67 = .ok (.dup, 1) := by decide +kernel
theorem dX3_build_68 : decode cX3_build 68 = .ok (.getfield 47, 3) := by decide +kernel
theorem dX3_build_71 : decode cX3_build 71 = .ok (.iconst 1, 1) := by decide +kernel
theorem dX3_build_72 : decode cX3_build 72 = .ok (.iadd, 1) := by decide +kernel
theorem dX3_build_73 : decode cX3_build 73 = .ok (.putfield 47, 3) := by decide +kernel
theorem dX3_build_76 : decode cX3_build 76 = .ok (.aload_n 0, 1) := by decide +kernel
theorem dX3_build_77 : decode cX3_build 77 = .ok (.invokevirtual 110, 3) := by decide +kernel
theorem dX3_build_80 : decode cX3_build 80 = .ok (.ireturn, 1) := by decide +kernel
theorem dX3_takeYears_0 : decode cX3_takeYears 0 = .ok (.iload_n 1, 1) := by decide +kernel
theorem dX3_takeYears_1 : decode cX3_takeYears 1 = .ok (.iconst 1, 1) := by decide +kernel
theorem dX3_takeYears_2 : decode cX3_takeYears 2 = .ok (.bipush 60, 2) := by decide +kernel
theorem dX3_takeYears_4 : decode cX3_takeYears 4 = .ok (.invokestatic 114, 3) := by decide +kernel
theorem dX3_takeYears_7 : decode cX3_takeYears 7 = .ok (.istore_n 2, 1) := by decide +kernel
theorem dX3_takeYears_8 : decode cX3_takeYears 8 = .ok (.iload_n 2, 1) := by decide +kernel
theorem dX3_takeYears_9 : decode cX3_takeYears 9 = .ok (.ifCond .eq 5, 3) := by decide +kernel
theorem dX3_takeYears_12 : decode cX3_takeYears 12 = .ok (.iload_n 2, 1) := by decide +kernel
theorem dX3_takeYears_13 : decode cX3_takeYears 13 = .ok (.ireturn, 1) := by decide +kernel
theorem dX3_takeYears_14 : decode cX3_takeYears 14 = .ok (.aload_n 0, 1) := by decide +kernel
theorem dX3_takeYears_15 : decode cX3_takeYears 15 = .ok (.getfield 41, 3) := by decide +kernel
theorem dX3_takeYears_18 : decode cX3_takeYears 18 = .ok (.iload_n 1, 1) := by decide +kernel
theorem dX3_takeYears_19 : decode cX3_takeYears 19 = .ok (.iadd, 1) := by decide +kernel
theorem dX3_takeYears_20 : decode cX3_takeYears 20 = .ok (.sipush 999, 3) := by decide +kernel
theorem dX3_takeYears_23 : decode cX3_takeYears 23 = .ok (.if_icmp .le 6, 3) := by decide +kernel
theorem dX3_takeYears_26 : decode cX3_takeYears 26 = .ok (.bipush (-6), 2) := by decide +kernel
theorem dX3_takeYears_28 : decode cX3_takeYears 28 = .ok (.ireturn, 1) := by decide +kernel
theorem dX3_takeYears_29 : decode cX3_takeYears 29 = .ok (.aload_n 0, 1) := by decide +kernel
theorem dX3_takeYears_30 : decode cX3_takeYears 30 = .ok (.iload_n 1, 1) := by decide +kernel
theorem dX3_takeYears_31 : decode cX3_takeYears 31 = .ok (.invokevirtual 118, 3) := by decide +kernel
theorem dX3_takeYears_34 : decode cX3_takeYears 34 = .ok (.aload_n 0, 1) := by decide +kernel
theorem dX3_takeYears_35 : decode cX3_takeYears 35 = .ok (.invokevirtual 110, 3) := by decide +kernel
theorem dX3_takeYears_38 : decode cX3_takeYears 38 = .ok (.ireturn, 1) := by decide +kernel
theorem dX3_takeDebt_0 : decode cX3_takeDebt 0 = .ok (.aload_n 0, 1) := by decide +kernel
theorem dX3_takeDebt_1 : decode cX3_takeDebt 1 = .ok (.iload_n 1, 1) := by decide +kernel
theorem dX3_takeDebt_2 : decode cX3_takeDebt 2 = .ok (.invokevirtual 66, 3) := by decide +kernel
theorem dX3_takeDebt_5 : decode cX3_takeDebt 5 = .ok (.istore_n 3, 1) := by decide +kernel
theorem dX3_takeDebt_6 : decode cX3_takeDebt 6 = .ok (.iload_n 3, 1) := by decide +kernel
theorem dX3_takeDebt_7 : decode cX3_takeDebt 7 = .ok (.ifCond .ne 11, 3) := by decide +kernel
theorem dX3_takeDebt_10 : decode cX3_takeDebt 10 = .ok (.iload_n 2, 1) := by decide +kernel
theorem dX3_takeDebt_11 : decode cX3_takeDebt 11 = .ok (.iconst 0, 1) := by decide +kernel
theorem dX3_takeDebt_12 : decode cX3_takeDebt 12 = .ok (.ldc 122, 2) := by decide +kernel
theorem dX3_takeDebt_14 : decode cX3_takeDebt 14 = .ok (.invokestatic 114, 3) := by decide +kernel
theorem dX3_takeDebt_17 : decode cX3_takeDebt 17 = .ok (.istore_n 3, 1) := by decide +kernel
theorem dX3_takeDebt_18 : decode cX3_takeDebt 18 = .ok (.iload_n 3, 1) := by decide +kernel
theorem dX3_takeDebt_19 : decode cX3_takeDebt 19 = .ok (.ifCond .eq 5, 3) := by decide +kernel
theorem dX3_takeDebt_22 : decode cX3_takeDebt 22 = .ok (.iload_n 3, 1) := by decide +kernel
theorem dX3_takeDebt_23 : decode cX3_takeDebt 23 = .ok (.ireturn, 1) := by decide +kernel
theorem dX3_takeDebt_24 : decode cX3_takeDebt 24 = .ok (.aload_n 0, 1) := by decide +kernel
theorem dX3_takeDebt_25 : decode cX3_takeDebt 25 = .ok (.iload_n 1, 1) := by decide +kernel
theorem dX3_takeDebt_26 : decode cX3_takeDebt 26 = .ok (.invokevirtual 50, 3) := by decide +kernel
theorem dX3_takeDebt_29 : decode cX3_takeDebt 29 = .ok (.getfield 123, 3) := by decide +kernel
theorem dX3_takeDebt_32 : decode cX3_takeDebt 32 = .ok (.istore 4, 2) := by decide +kernel
theorem dX3_takeDebt_34 : decode cX3_takeDebt 34 = .ok (.aload_n 0, 1) := by decide +kernel
theorem dX3_takeDebt_35 : decode cX3_takeDebt 35 = .ok (.iload_n 1, 1) := by decide +kernel
theorem dX3_takeDebt_36 : decode cX3_takeDebt 36 = .ok (.invokevirtual 50, 3) := by decide +kernel
theorem dX3_takeDebt_39 : decode cX3_takeDebt 39 = .ok (.iload_n 2, 1) := by decide +kernel
theorem dX3_takeDebt_40 : decode cX3_takeDebt 40 = .ok (.putfield 123, 3) := by decide +kernel
theorem dX3_takeDebt_43 : decode cX3_takeDebt 43 = .ok (.iload 4, 2) := by decide +kernel
theorem dX3_takeDebt_45 : decode cX3_takeDebt 45 = .ok (.ireturn, 1) := by decide +kernel
theorem dX3_takeRate_0 : decode cX3_takeRate 0 = .ok (.iload_n 1, 1) := by decide +kernel
theorem dX3_takeRate_1 : decode cX3_takeRate 1 = .ok (.iconst 0, 1) := by decide +kernel
theorem dX3_takeRate_2 : decode cX3_takeRate 2 = .ok (.bipush 20, 2) := by decide +kernel
theorem dX3_takeRate_4 : decode cX3_takeRate 4 = .ok (.invokestatic 114, 3) := by decide +kernel
theorem dX3_takeRate_7 : decode cX3_takeRate 7 = .ok (.istore_n 2, 1) := by decide +kernel
theorem dX3_takeRate_8 : decode cX3_takeRate 8 = .ok (.iload_n 2, 1) := by decide +kernel
theorem dX3_takeRate_9 : decode cX3_takeRate 9 = .ok (.ifCond .eq 5, 3) := by decide +kernel
theorem dX3_takeRate_12 : decode cX3_takeRate 12 = .ok (.iload_n 2, 1) := by decide +kernel
theorem dX3_takeRate_13 : decode cX3_takeRate 13 = .ok (.ireturn, 1) := by decide +kernel
theorem dX3_takeRate_14 : decode cX3_takeRate 14 = .ok (.aload_n 0, 1) := by decide +kernel
theorem dX3_takeRate_15 : decode cX3_takeRate 15 = .ok (.getfield 9, 3) := by decide +kernel
theorem dX3_takeRate_18 : decode cX3_takeRate 18 = .ok (.istore_n 3, 1) := by decide +kernel
theorem dX3_takeRate_19 : decode cX3_takeRate 19 = .ok (.aload_n 0, 1) := by decide +kernel
theorem dX3_takeRate_20 : decode cX3_takeRate 20 = .ok (.iload_n 1, 1) := by decide +kernel
theorem dX3_takeRate_21 : decode cX3_takeRate 21 = .ok (.putfield 9, 3) := by decide +kernel
theorem dX3_takeRate_24 : decode cX3_takeRate 24 = .ok (.iload_n 3, 1) := by decide +kernel
theorem dX3_takeRate_25 : decode cX3_takeRate 25 = .ok (.ireturn, 1) := by decide +kernel
theorem dX3_passYear_0 : decode cX3_passYear 0 = .ok (.aload_n 0, 1) := by decide +kernel
theorem dX3_passYear_1 : decode cX3_passYear 1 = .ok (.iconst 1, 1) := by decide +kernel
theorem dX3_passYear_2 : decode cX3_passYear 2 = .ok (.invokevirtual 118, 3) := by decide +kernel
theorem dX3_passYear_5 : decode cX3_passYear 5 = .ok (.return_, 1) := by decide +kernel
theorem dX3_passYears_0 : decode cX3_passYears 0 = .ok (.iconst 0, 1) := by decide +kernel
theorem dX3_passYears_1 : decode cX3_passYears 1 = .ok (.istore_n 2, 1) := by decide +kernel
theorem dX3_passYears_2 : decode cX3_passYears 2 = .ok (.iload_n 2, 1) := by decide +kernel
theorem dX3_passYears_3 : decode cX3_passYears 3 = .ok (.iload_n 1, 1) := by decide +kernel
theorem dX3_passYears_4 : decode cX3_passYears 4 = .ok (.if_icmp .ge 51, 3) := by decide +kernel
theorem dX3_passYears_7 : decode cX3_passYears 7 = .ok (.aload_n 0, 1) := by decide +kernel
theorem dX3_passYears_8 : decode cX3_passYears 8 = .ok (.dup, 1) := by decide +kernel
theorem dX3_passYears_9 : decode cX3_passYears 9 = .ok (.getfield 41, 3) := by decide +kernel
theorem dX3_passYears_12 : decode cX3_passYears 12 = .ok (.iconst 1, 1) := by decide +kernel
theorem dX3_passYears_13 : decode cX3_passYears 13 = .ok (.iadd, 1) := by decide +kernel
theorem dX3_passYears_14 : decode cX3_passYears 14 = .ok (.putfield 41, 3) := by decide +kernel
theorem dX3_passYears_17 : decode cX3_passYears 17 = .ok (.iconst 0, 1) := by decide +kernel
theorem dX3_passYears_18 : decode cX3_passYears 18 = .ok (.istore_n 3, 1) := by decide +kernel
theorem dX3_passYears_19 : decode cX3_passYears 19 = .ok (.iload_n 3, 1) := by decide +kernel
theorem dX3_passYears_20 : decode cX3_passYears 20 = .ok (.aload_n 0, 1) := by decide +kernel
theorem dX3_passYears_21 : decode cX3_passYears 21 = .ok (.getfield 35, 3) := by decide +kernel
theorem dX3_passYears_24 : decode cX3_passYears 24 = .ok (.if_icmp .ge 25, 3) := by decide +kernel
theorem dX3_passYears_27 : decode cX3_passYears 27 = .ok (.aload_n 0, 1) := by decide +kernel
theorem dX3_passYears_28 : decode cX3_passYears 28 = .ok (.iload_n 3, 1) := by decide +kernel
theorem dX3_passYears_29 : decode cX3_passYears 29 = .ok (.invokevirtual 50, 3) := by decide +kernel
theorem dX3_passYears_32 : decode cX3_passYears 32 = .ok (.aload_n 0, 1) := by decide +kernel
theorem dX3_passYears_33 : decode cX3_passYears 33 = .ok (.getfield 9, 3) := by decide +kernel
theorem dX3_passYears_36 : decode cX3_passYears 36 = .ok (.aload_n 0, 1) := by decide +kernel
theorem dX3_passYears_37 : decode cX3_passYears 37 = .ok (.getfield 41, 3) := by decide +kernel
theorem dX3_passYears_40 : decode cX3_passYears 40 = .ok (.invokevirtual 126, 3) := by decide +kernel
theorem dX3_passYears_43 : decode cX3_passYears 43 = .ok (.iinc 3 1, 3) := by decide +kernel
theorem dX3_passYears_46 : decode cX3_passYears 46 = .ok (.goto (-27), 3) := by decide +kernel
theorem dX3_passYears_49 : decode cX3_passYears 49 = .ok (.iinc 2 1, 3) := by decide +kernel
theorem dX3_passYears_52 : decode cX3_passYears 52 = .ok (.goto (-50), 3) := by decide +kernel
theorem dX3_passYears_55 : decode cX3_passYears 55 = .ok (.return_, 1) := by decide +kernel
theorem dX3_allDebtsBehind_0 : decode cX3_allDebtsBehind 0 = .ok (.aload_n 0, 1) := by decide +kernel
theorem dX3_allDebtsBehind_1 : decode cX3_allDebtsBehind 1 = .ok (.iload_n 1, 1) := by decide +kernel
theorem dX3_allDebtsBehind_2 : decode cX3_allDebtsBehind 2 = .ok (.invokevirtual 118, 3) := by decide +kernel
theorem dX3_allDebtsBehind_5 : decode cX3_allDebtsBehind 5 = .ok (.aload_n 0, 1) := by decide +kernel
theorem dX3_allDebtsBehind_6 : decode cX3_allDebtsBehind 6 = .ok (.invokevirtual 110, 3) := by decide +kernel
theorem dX3_allDebtsBehind_9 : decode cX3_allDebtsBehind 9 = .ok (.ireturn, 1) := by decide +kernel
theorem dX3_everybody_0 : decode cX3_everybody 0 = .ok (.iconst 1, 1) := by decide +kernel
theorem dX3_everybody_1 : decode cX3_everybody 1 = .ok (.aload_n 0, 1) := by decide +kernel
theorem dX3_everybody_2 : decode cX3_everybody 2 = .ok (.getfield 35, 3) := by decide +kernel
theorem dX3_everybody_5 : decode cX3_everybody 5 = .ok (.ishl, 1) := by decide +kernel
theorem dX3_everybody_6 : decode cX3_everybody 6 = .ok (.iconst 1, 1) := by decide +kernel
theorem dX3_everybody_7 : decode cX3_everybody 7 = .ok (.isub, 1) := by decide +kernel
theorem dX3_everybody_8 : decode cX3_everybody 8 = .ok (.ireturn, 1) := by decide +kernel
theorem dX3_bearing_0 : decode cX3_bearing 0 = .ok (.iconst 0, 1) := by decide +kernel
theorem dX3_bearing_1 : decode cX3_bearing 1 = .ok (.istore_n 1, 1) := by decide +kernel
theorem dX3_bearing_2 : decode cX3_bearing 2 = .ok (.iconst 0, 1) := by decide +kernel
theorem dX3_bearing_3 : decode cX3_bearing 3 = .ok (.istore_n 2, 1) := by decide +kernel
theorem dX3_bearing_4 : decode cX3_bearing 4 = .ok (.iload_n 2, 1) := by decide +kernel
theorem dX3_bearing_5 : decode cX3_bearing 5 = .ok (.aload_n 0, 1) := by decide +kernel
theorem dX3_bearing_6 : decode cX3_bearing 6 = .ok (.getfield 35, 3) := by decide +kernel
theorem dX3_bearing_9 : decode cX3_bearing 9 = .ok (.if_icmp .ge 26, 3) := by decide +kernel
theorem dX3_bearing_12 : decode cX3_bearing 12 = .ok (.aload_n 0, 1) := by decide +kernel
theorem dX3_bearing_13 : decode cX3_bearing 13 = .ok (.iload_n 2, 1) := by decide +kernel
theorem dX3_bearing_14 : decode cX3_bearing 14 = .ok (.invokevirtual 50, 3) := by decide +kernel
theorem dX3_bearing_17 : decode cX3_bearing 17 = .ok (.getfield 129, 3) := by decide +kernel
theorem dX3_bearing_20 : decode cX3_bearing 20 = .ok (.ifCond .le 9, 3) := by decide +kernel
theorem dX3_bearing_23 : decode cX3_bearing 23 = .ok (.iload_n 1, 1) := by decide +kernel
theorem dX3_bearing_24 : decode cX3_bearing 24 = .ok (.iconst 1, 1) := by decide +kernel
theorem dX3_bearing_25 : decode cX3_bearing 25 = .ok (.iload_n 2, 1) := by decide +kernel
theorem dX3_bearing_26 : decode cX3_bearing 26 = .ok (.ishl, 1) := by decide +kernel
theorem dX3_bearing_27 : decode cX3_bearing 27 = .ok (.ior, 1) := by decide +kernel
theorem dX3_bearing_28 : decode cX3_bearing 28 = .ok (.istore_n 1, 1) := by decide +kernel
theorem dX3_bearing_29 : decode cX3_bearing 29 = .ok (.iinc 2 1, 3) := by decide +kernel
theorem dX3_bearing_32 : decode cX3_bearing 32 = .ok (.goto (-28), 3) := by decide +kernel
theorem dX3_bearing_35 : decode cX3_bearing 35 = .ok (.iload_n 1, 1) := by decide +kernel
theorem dX3_bearing_36 : decode cX3_bearing 36 = .ok (.ireturn, 1) := by decide +kernel
theorem dX3_headsOf_0 : decode cX3_headsOf 0 = .ok (.iconst 0, 1) := by decide +kernel
theorem dX3_headsOf_1 : decode cX3_headsOf 1 = .ok (.istore_n 2, 1) := by decide +kernel
theorem dX3_headsOf_2 : decode cX3_headsOf 2 = .ok (.iconst 0, 1) := by decide +kernel
theorem dX3_headsOf_3 : decode cX3_headsOf 3 = .ok (.istore_n 3, 1) := by decide +kernel
theorem dX3_headsOf_4 : decode cX3_headsOf 4 = .ok (.iload_n 3, 1) := by decide +kernel
theorem dX3_headsOf_5 : decode cX3_headsOf 5 = .ok (.aload_n 0, 1) := by decide +kernel
theorem dX3_headsOf_6 : decode cX3_headsOf 6 = .ok (.getfield 35, 3) := by decide +kernel
theorem dX3_headsOf_9 : decode cX3_headsOf 9 = .ok (.if_icmp .ge 29, 3) := by decide +kernel
theorem dX3_headsOf_12 : decode cX3_headsOf 12 = .ok (.iload_n 1, 1) := by decide +kernel
theorem dX3_headsOf_13 : decode cX3_headsOf 13 = .ok (.iload_n 3, 1) := by decide +kernel
theorem dX3_headsOf_14 : decode cX3_headsOf 14 = .ok (.ishr, 1) := by decide +kernel
theorem dX3_headsOf_15 : decode cX3_headsOf 15 = .ok (.iconst 1, 1) := by decide +kernel
theorem dX3_headsOf_16 : decode cX3_headsOf 16 = .ok (.iand, 1) := by decide +kernel
theorem dX3_headsOf_17 : decode cX3_headsOf 17 = .ok (.iconst 1, 1) := by decide +kernel
theorem dX3_headsOf_18 : decode cX3_headsOf 18 = .ok (.if_icmp .ne 14, 3) := by decide +kernel
theorem dX3_headsOf_21 : decode cX3_headsOf 21 = .ok (.iload_n 2, 1) := by decide +kernel
theorem dX3_headsOf_22 : decode cX3_headsOf 22 = .ok (.aload_n 0, 1) := by decide +kernel
theorem dX3_headsOf_23 : decode cX3_headsOf 23 = .ok (.iload_n 3, 1) := by decide +kernel
theorem dX3_headsOf_24 : decode cX3_headsOf 24 = .ok (.invokevirtual 50, 3) := by decide +kernel
theorem dX3_headsOf_27 : decode cX3_headsOf 27 = .ok (.getfield 132, 3) := by decide +kernel
theorem dX3_headsOf_30 : decode cX3_headsOf 30 = .ok (.iadd, 1) := by decide +kernel
theorem dX3_headsOf_31 : decode cX3_headsOf 31 = .ok (.istore_n 2, 1) := by decide +kernel
theorem dX3_headsOf_32 : decode cX3_headsOf 32 = .ok (.iinc 3 1, 3) := by decide +kernel
theorem dX3_headsOf_35 : decode cX3_headsOf 35 = .ok (.goto (-31), 3) := by decide +kernel
theorem dX3_headsOf_38 : decode cX3_headsOf 38 = .ok (.iload_n 2, 1) := by decide +kernel
theorem dX3_headsOf_39 : decode cX3_headsOf 39 = .ok (.ireturn, 1) := by decide +kernel
theorem dX3_mostHeads_0 : decode cX3_mostHeads 0 = .ok (.iconst 0, 1) := by decide +kernel
theorem dX3_mostHeads_1 : decode cX3_mostHeads 1 = .ok (.istore_n 1, 1) := by decide +kernel
theorem dX3_mostHeads_2 : decode cX3_mostHeads 2 = .ok (.iconst 1, 1) := by decide +kernel
theorem dX3_mostHeads_3 : decode cX3_mostHeads 3 = .ok (.istore_n 2, 1) := by decide +kernel
theorem dX3_mostHeads_4 : decode cX3_mostHeads 4 = .ok (.iload_n 2, 1) := by decide +kernel
theorem dX3_mostHeads_5 : decode cX3_mostHeads 5 = .ok (.aload_n 0, 1) := by decide +kernel
theorem dX3_mostHeads_6 : decode cX3_mostHeads 6 = .ok (.getfield 35, 3) := by decide +kernel
theorem dX3_mostHeads_9 : decode cX3_mostHeads 9 = .ok (.if_icmp .ge 30, 3) := by decide +kernel
theorem dX3_mostHeads_12 : decode cX3_mostHeads 12 = .ok (.aload_n 0, 1) := by decide +kernel
theorem dX3_mostHeads_13 : decode cX3_mostHeads 13 = .ok (.iload_n 2, 1) := by decide +kernel
theorem dX3_mostHeads_14 : decode cX3_mostHeads 14 = .ok (.invokevirtual 50, 3) := by decide +kernel
theorem dX3_mostHeads_17 : decode cX3_mostHeads 17 = .ok (.getfield 132, 3) := by decide +kernel
theorem dX3_mostHeads_20 : decode cX3_mostHeads 20 = .ok (.aload_n 0, 1) := by decide +kernel
theorem dX3_mostHeads_21 : decode cX3_mostHeads 21 = .ok (.iload_n 1, 1) := by decide +kernel
theorem dX3_mostHeads_22 : decode cX3_mostHeads 22 = .ok (.invokevirtual 50, 3) := by decide +kernel
theorem dX3_mostHeads_25 : decode cX3_mostHeads 25 = .ok (.getfield 132, 3) := by decide +kernel
theorem dX3_mostHeads_28 : decode cX3_mostHeads 28 = .ok (.if_icmp .le 5, 3) := by decide +kernel
theorem dX3_mostHeads_31 : decode cX3_mostHeads 31 = .ok (.iload_n 2, 1) := by decide +kernel
theorem dX3_mostHeads_32 : decode cX3_mostHeads 32 = .ok (.istore_n 1, 1) := by decide +kernel
theorem dX3_mostHeads_33 : decode cX3_mostHeads 33 = .ok (.iinc 2 1, 3) := by decide +kernel
theorem dX3_mostHeads_36 : decode cX3_mostHeads 36 = .ok (.goto (-32), 3) := by decide +kernel
theorem dX3_mostHeads_39 : decode cX3_mostHeads 39 = .ok (.iload_n 1, 1) := by decide +kernel
theorem dX3_mostHeads_40 : decode cX3_mostHeads 40 = .ok (.ireturn, 1) := by decide +kernel
theorem dX3_leastDebt_0 : decode cX3_leastDebt 0 = .ok (.iconst 0, 1) := by decide +kernel
theorem dX3_leastDebt_1 : decode cX3_leastDebt 1 = .ok (.istore_n 1, 1) := by decide +kernel
theorem dX3_leastDebt_2 : decode cX3_leastDebt 2 = .ok (.iconst 1, 1) := by decide +kernel
theorem dX3_leastDebt_3 : decode cX3_leastDebt 3 = .ok (.istore_n 2, 1) := by decide +kernel
theorem dX3_leastDebt_4 : decode cX3_leastDebt 4 = .ok (.iload_n 2, 1) := by decide +kernel
theorem dX3_leastDebt_5 : decode cX3_leastDebt 5 = .ok (.aload_n 0, 1) := by decide +kernel
theorem dX3_leastDebt_6 : decode cX3_leastDebt 6 = .ok (.getfield 35, 3) := by decide +kernel
theorem dX3_leastDebt_9 : decode cX3_leastDebt 9 = .ok (.if_icmp .ge 30, 3) := by decide +kernel
theorem dX3_leastDebt_12 : decode cX3_leastDebt 12 = .ok (.aload_n 0, 1) := by decide +kernel
theorem dX3_leastDebt_13 : decode cX3_leastDebt 13 = .ok (.iload_n 2, 1) := by decide +kernel
theorem dX3_leastDebt_14 : decode cX3_leastDebt 14 = .ok (.invokevirtual 50, 3) := by decide +kernel
theorem dX3_leastDebt_17 : decode cX3_leastDebt 17 = .ok (.getfield 123, 3) := by decide +kernel
theorem dX3_leastDebt_20 : decode cX3_leastDebt 20 = .ok (.aload_n 0, 1) := by decide +kernel
theorem dX3_leastDebt_21 : decode cX3_leastDebt 21 = .ok (.iload_n 1, 1) := by decide +kernel
theorem dX3_leastDebt_22 : decode cX3_leastDebt 22 = .ok (.invokevirtual 50, 3) := by decide +kernel
theorem dX3_leastDebt_25 : decode cX3_leastDebt 25 = .ok (.getfield 123, 3) := by decide +kernel
theorem dX3_leastDebt_28 : decode cX3_leastDebt 28 = .ok (.if_icmp .ge 5, 3) := by decide +kernel
theorem dX3_leastDebt_31 : decode cX3_leastDebt 31 = .ok (.iload_n 2, 1) := by decide +kernel
theorem dX3_leastDebt_32 : decode cX3_leastDebt 32 = .ok (.istore_n 1, 1) := by decide +kernel
theorem dX3_leastDebt_33 : decode cX3_leastDebt 33 = .ok (.iinc 2 1, 3) := by decide +kernel
theorem dX3_leastDebt_36 : decode cX3_leastDebt 36 = .ok (.goto (-32), 3) := by decide +kernel
theorem dX3_leastDebt_39 : decode cX3_leastDebt 39 = .ok (.iload_n 1, 1) := by decide +kernel
theorem dX3_leastDebt_40 : decode cX3_leastDebt 40 = .ok (.ireturn, 1) := by decide +kernel
theorem dX3_allDebts_0 : decode cX3_allDebts 0 = .ok (.iconst 0, 1) := by decide +kernel
theorem dX3_allDebts_1 : decode cX3_allDebts 1 = .ok (.istore_n 1, 1) := by decide +kernel
theorem dX3_allDebts_2 : decode cX3_allDebts 2 = .ok (.iconst 0, 1) := by decide +kernel
theorem dX3_allDebts_3 : decode cX3_allDebts 3 = .ok (.istore_n 2, 1) := by decide +kernel
theorem dX3_allDebts_4 : decode cX3_allDebts 4 = .ok (.iload_n 2, 1) := by decide +kernel
theorem dX3_allDebts_5 : decode cX3_allDebts 5 = .ok (.aload_n 0, 1) := by decide +kernel
theorem dX3_allDebts_6 : decode cX3_allDebts 6 = .ok (.getfield 35, 3) := by decide +kernel
theorem dX3_allDebts_9 : decode cX3_allDebts 9 = .ok (.if_icmp .ge 20, 3) := by decide +kernel
theorem dX3_allDebts_12 : decode cX3_allDebts 12 = .ok (.iload_n 1, 1) := by decide +kernel
theorem dX3_allDebts_13 : decode cX3_allDebts 13 = .ok (.aload_n 0, 1) := by decide +kernel
theorem dX3_allDebts_14 : decode cX3_allDebts 14 = .ok (.iload_n 2, 1) := by decide +kernel
theorem dX3_allDebts_15 : decode cX3_allDebts 15 = .ok (.invokevirtual 50, 3) := by decide +kernel
theorem dX3_allDebts_18 : decode cX3_allDebts 18 = .ok (.getfield 123, 3) := by decide +kernel
theorem dX3_allDebts_21 : decode cX3_allDebts 21 = .ok (.iadd, 1) := by decide +kernel
theorem dX3_allDebts_22 : decode cX3_allDebts 22 = .ok (.istore_n 1, 1) := by decide +kernel
theorem dX3_allDebts_23 : decode cX3_allDebts 23 = .ok (.iinc 2 1, 3) := by decide +kernel
theorem dX3_allDebts_26 : decode cX3_allDebts 26 = .ok (.goto (-22), 3) := by decide +kernel
theorem dX3_allDebts_29 : decode cX3_allDebts 29 = .ok (.iload_n 1, 1) := by decide +kernel
theorem dX3_allDebts_30 : decode cX3_allDebts 30 = .ok (.ireturn, 1) := by decide +kernel
theorem dX3_oweNothing_0 : decode cX3_oweNothing 0 = .ok (.iconst 0, 1) := by decide +kernel
theorem dX3_oweNothing_1 : decode cX3_oweNothing 1 = .ok (.istore_n 1, 1) := by decide +kernel
theorem dX3_oweNothing_2 : decode cX3_oweNothing 2 = .ok (.iconst 0, 1) := by decide +kernel
theorem dX3_oweNothing_3 : decode cX3_oweNothing 3 = .ok (.istore_n 2, 1) := by decide +kernel
theorem dX3_oweNothing_4 : decode cX3_oweNothing 4 = .ok (.iload_n 2, 1) := by decide +kernel
theorem dX3_oweNothing_5 : decode cX3_oweNothing 5 = .ok (.aload_n 0, 1) := by decide +kernel
theorem dX3_oweNothing_6 : decode cX3_oweNothing 6 = .ok (.getfield 35, 3) := by decide +kernel
theorem dX3_oweNothing_9 : decode cX3_oweNothing 9 = .ok (.if_icmp .ge 23, 3) := by decide +kernel
theorem dX3_oweNothing_12 : decode cX3_oweNothing 12 = .ok (.aload_n 0, 1) := by decide +kernel
theorem dX3_oweNothing_13 : decode cX3_oweNothing 13 = .ok (.iload_n 2, 1) := by decide +kernel
theorem dX3_oweNothing_14 : decode cX3_oweNothing 14 = .ok (.invokevirtual 50, 3) := by decide +kernel
theorem dX3_oweNothing_17 : decode cX3_oweNothing 17 = .ok (.getfield 123, 3) := by decide +kernel
theorem dX3_oweNothing_20 : decode cX3_oweNothing 20 = .ok (.ifCond .ne 6, 3) := by decide +kernel
theorem dX3_oweNothing_23 : decode cX3_oweNothing 23 = .ok (.iinc 1 1, 3) := by decide +kernel
theorem dX3_oweNothing_26 : decode cX3_oweNothing 26 = .ok (.iinc 2 1, 3) := by decide +kernel
theorem dX3_oweNothing_29 : decode cX3_oweNothing 29 = .ok (.goto (-25), 3) := by decide +kernel
theorem dX3_oweNothing_32 : decode cX3_oweNothing 32 = .ok (.iload_n 1, 1) := by decide +kernel
theorem dX3_oweNothing_33 : decode cX3_oweNothing 33 = .ok (.ireturn, 1) := by decide +kernel
theorem dX3_isStuck_0 : decode cX3_isStuck 0 = .ok (.iconst 0, 1) := by decide +kernel
theorem dX3_isStuck_1 : decode cX3_isStuck 1 = .ok (.istore_n 1, 1) := by decide +kernel
theorem dX3_isStuck_2 : decode cX3_isStuck 2 = .ok (.iload_n 1, 1) := by decide +kernel
theorem dX3_isStuck_3 : decode cX3_isStuck 3 = .ok (.aload_n 0, 1) := by decide +kernel
theorem dX3_isStuck_4 : decode cX3_isStuck 4 = .ok (.getfield 35, 3) := by decide +kernel
theorem dX3_isStuck_7 : decode cX3_isStuck 7 = .ok (.if_icmp .ge 24, 3) := by decide +kernel
theorem dX3_isStuck_10 : decode cX3_isStuck 10 = .ok (.aload_n 0, 1) := by decide +kernel
theorem dX3_isStuck_11 : decode cX3_isStuck 11 = .ok (.iload_n 1, 1) := by decide +kernel
theorem dX3_isStuck_12 : decode cX3_isStuck 12 = .ok (.invokevirtual 50, 3) := by decide +kernel
theorem dX3_isStuck_15 : decode cX3_isStuck 15 = .ok (.getfield 123, 3) := by decide +kernel
theorem dX3_isStuck_18 : decode cX3_isStuck 18 = .ok (.ldc 122, 2) := by decide +kernel
theorem dX3_isStuck_20 : decode cX3_isStuck 20 = .ok (.if_icmp .ne 5, 3) := by decide +kernel
theorem dX3_isStuck_23 : decode cX3_isStuck 23 = .ok (.iconst 1, 1) := by decide +kernel
theorem dX3_isStuck_24 : decode cX3_isStuck 24 = .ok (.ireturn, 1) := by decide +kernel
theorem dX3_isStuck_25 : decode cX3_isStuck 25 = .ok (.iinc 1 1, 3) := by decide +kernel
theorem dX3_isStuck_28 : decode cX3_isStuck 28 = .ok (.goto (-26), 3) := by decide +kernel
theorem dX3_isStuck_31 : decode cX3_isStuck 31 = .ok (.iconst 0, 1) := by decide +kernel
theorem dX3_isStuck_32 : decode cX3_isStuck 32 = .ok (.ireturn, 1) := by decide +kernel
theorem dX3_shareAlike_0 : decode cX3_shareAlike 0 = .ok (.aload_n 0, 1) := by decide +kernel
theorem dX3_shareAlike_1 : decode cX3_shareAlike 1 = .ok (.getfield 35, 3) := by decide +kernel
theorem dX3_shareAlike_4 : decode cX3_shareAlike 4 = .ok (.iconst 1, 1) := by decide +kernel
theorem dX3_shareAlike_5 : decode cX3_shareAlike 5 = .ok (.if_icmp .ge 7, 3) := by decide +kernel
theorem dX3_shareAlike_8 : decode cX3_shareAlike 8 = .ok (.iconst 0, 1) := by decide +kernel
theorem dX3_shareAlike_9 : decode cX3_shareAlike 9 = .ok (.goto 9, 3) := by decide +kernel
theorem dX3_shareAlike_12 : decode cX3_shareAlike 12 = .ok (.iload_n 1, 1) := by decide +kernel
theorem dX3_shareAlike_13 : decode cX3_shareAlike 13 = .ok (.aload_n 0, 1) := by decide +kernel
theorem dX3_shareAlike_14 : decode cX3_shareAlike 14 = .ok (.getfield 35, 3) := by decide +kernel
theorem dX3_shareAlike_17 : decode cX3_shareAlike 17 = .ok (.idiv, 1) := by decide +kernel
theorem dX3_shareAlike_18 : decode cX3_shareAlike 18 = .ok (.istore_n 2, 1) := by decide +kernel
theorem dX3_shareAlike_19 : decode cX3_shareAlike 19 = .ok (.iconst 0, 1) := by decide +kernel
theorem dX3_shareAlike_20 : decode cX3_shareAlike 20 = .ok (.istore_n 3, 1) := by decide +kernel
theorem dX3_shareAlike_21 : decode cX3_shareAlike 21 = .ok (.iload_n 3, 1) := by decide +kernel
theorem dX3_shareAlike_22 : decode cX3_shareAlike 22 = .ok (.aload_n 0, 1) := by decide +kernel
theorem dX3_shareAlike_23 : decode cX3_shareAlike 23 = .ok (.getfield 32, 3) := by decide +kernel
theorem dX3_shareAlike_26 : decode cX3_shareAlike 26 = .ok (.arraylength, 1) := by decide +kernel
theorem dX3_shareAlike_27 : decode cX3_shareAlike 27 = .ok (.if_icmp .ge 28, 3) := by decide +kernel
theorem dX3_shareAlike_30 : decode cX3_shareAlike 30 = .ok (.aload_n 0, 1) := by decide +kernel
theorem dX3_shareAlike_31 : decode cX3_shareAlike 31 = .ok (.getfield 32, 3) := by decide +kernel
theorem dX3_shareAlike_34 : decode cX3_shareAlike 34 = .ok (.iload_n 3, 1) := by decide +kernel
theorem dX3_shareAlike_35 : decode cX3_shareAlike 35 = .ok (.iload_n 3, 1) := by decide +kernel
theorem dX3_shareAlike_36 : decode cX3_shareAlike 36 = .ok (.aload_n 0, 1) := by decide +kernel
theorem dX3_shareAlike_37 : decode cX3_shareAlike 37 = .ok (.getfield 35, 3) := by decide +kernel
theorem dX3_shareAlike_40 : decode cX3_shareAlike 40 = .ok (.if_icmp .ge 7, 3) := by decide +kernel
theorem dX3_shareAlike_43 : decode cX3_shareAlike 43 = .ok (.iload_n 2, 1) := by decide +kernel
theorem dX3_shareAlike_44 : decode cX3_shareAlike 44 = .ok (.goto 4, 3) := by decide +kernel
theorem dX3_shareAlike_47 : decode cX3_shareAlike 47 = .ok (.iconst 0, 1) := by decide +kernel
theorem dX3_shareAlike_48 : decode cX3_shareAlike 48 = .ok (.iastore, 1) := by decide +kernel
theorem dX3_shareAlike_49 : decode cX3_shareAlike 49 = .ok (.iinc 3 1, 3) := by decide +kernel
theorem dX3_shareAlike_52 : decode cX3_shareAlike 52 = .ok (.goto (-31), 3) := by decide +kernel
theorem dX3_shareAlike_55 : decode cX3_shareAlike 55 = .ok (.aload_n 0, 1) := by decide +kernel
theorem dX3_shareAlike_56 : decode cX3_shareAlike 56 = .ok (.iload_n 1, 1) := by decide +kernel
theorem dX3_shareAlike_57 : decode cX3_shareAlike 57 = .ok (.iload_n 2, 1) := by decide +kernel
theorem dX3_shareAlike_58 : decode cX3_shareAlike 58 = .ok (.aload_n 0, 1) := by decide +kernel
theorem dX3_shareAlike_59 : decode cX3_shareAlike 59 = .ok (.getfield 35, 3) := by decide +kernel
theorem dX3_shareAlike_62 : decode cX3_shareAlike 62 = .ok (.imul, 1) := by decide +kernel
theorem dX3_shareAlike_63 : decode cX3_shareAlike 63 = .ok (.isub, 1) := by decide +kernel
theorem dX3_shareAlike_64 : decode cX3_shareAlike 64 = .ok (.aload_n 0, 1) := by decide +kernel
theorem dX3_shareAlike_65 : decode cX3_shareAlike 65 = .ok (.invokevirtual 135, 3) := by decide +kernel
theorem dX3_shareAlike_68 : decode cX3_shareAlike 68 = .ok (.invokevirtual 138, 3) := by decide +kernel
theorem dX3_shareAlike_71 : decode cX3_shareAlike 71 = .ok (.return_, 1) := by decide +kernel
theorem dX3_shareByHeads_0 : decode cX3_shareByHeads 0 = .ok (.aload_n 0, 1) := by decide +kernel
theorem dX3_shareByHeads_1 : decode cX3_shareByHeads 1 = .ok (.iload_n 2, 1) := by decide +kernel
theorem dX3_shareByHeads_2 : decode cX3_shareByHeads 2 = .ok (.invokevirtual 141, 3) := by decide +kernel
theorem dX3_shareByHeads_5 : decode cX3_shareByHeads 5 = .ok (.istore_n 3, 1) := by decide +kernel
theorem dX3_shareByHeads_6 : decode cX3_shareByHeads 6 = .ok (.iload_n 1, 1) := by decide +kernel
theorem dX3_shareByHeads_7 : decode cX3_shareByHeads 7 = .ok (.istore 4, 2) := by decide +kernel
theorem dX3_shareByHeads_9 : decode cX3_shareByHeads 9 = .ok (.iconst 0, 1) := by decide +kernel
theorem dX3_shareByHeads_10 : decode cX3_shareByHeads 10 = .ok (.istore 5, 2) := by decide +kernel
theorem dX3_shareByHeads_12 : decode cX3_shareByHeads 12 = .ok (.iload 5, 2) := by decide +kernel
theorem dX3_shareByHeads_14 : decode cX3_shareByHeads 14 = .ok (.aload_n 0, 1) := by decide +kernel
theorem dX3_shareByHeads_15 : decode cX3_shareByHeads 15 = .ok (.getfield 32, 3) := by decide +kernel
theorem dX3_shareByHeads_18 : decode cX3_shareByHeads 18 = .ok (.arraylength, 1) := by decide +kernel
theorem dX3_shareByHeads_19 : decode cX3_shareByHeads 19 = .ok (.if_icmp .ge 71, 3) := by decide +kernel
theorem dX3_shareByHeads_22 : decode cX3_shareByHeads 22 = .ok (.iload_n 2, 1) := by decide +kernel
theorem dX3_shareByHeads_23 : decode cX3_shareByHeads 23 = .ok (.iload 5, 2) := by decide +kernel
theorem dX3_shareByHeads_25 : decode cX3_shareByHeads 25 = .ok (.ishr, 1) := by decide +kernel
theorem dX3_shareByHeads_26 : decode cX3_shareByHeads 26 = .ok (.iconst 1, 1) := by decide +kernel
theorem dX3_shareByHeads_27 : decode cX3_shareByHeads 27 = .ok (.iand, 1) := by decide +kernel
theorem dX3_shareByHeads_28 : decode cX3_shareByHeads 28 = .ok (.iconst 1, 1) := by decide +kernel
theorem dX3_shareByHeads_29 : decode cX3_shareByHeads 29 = .ok (.if_icmp .ne 11, 3) := by decide +kernel
theorem dX3_shareByHeads_32 : decode cX3_shareByHeads 32 = .ok (.iload_n 3, 1) := by decide +kernel
theorem dX3_shareByHeads_33 : decode cX3_shareByHeads 33 = .ok (.ifCond .le 7, 3) := by decide +kernel
theorem dX3_shareByHeads_36 : decode cX3_shareByHeads 36 = .ok (.iconst 1, 1) := by decide +kernel
theorem dX3_shareByHeads_37 : decode cX3_shareByHeads 37 = .ok (.goto 4, 3) := by decide +kernel
theorem dX3_shareByHeads_40 : decode cX3_shareByHeads 40 = .ok (.iconst 0, 1) := by decide +kernel
theorem dX3_shareByHeads_41 : decode cX3_shareByHeads 41 = .ok (.istore 6, 2) := by decide +kernel
theorem dX3_shareByHeads_43 : decode cX3_shareByHeads 43 = .ok (.aload_n 0, 1) := by decide +kernel
theorem dX3_shareByHeads_44 : decode cX3_shareByHeads 44 = .ok (.getfield 32, 3) := by decide +kernel
theorem dX3_shareByHeads_47 : decode cX3_shareByHeads 47 = .ok (.iload 5, 2) := by decide +kernel
theorem dX3_shareByHeads_49 : decode cX3_shareByHeads 49 = .ok (.iload 6, 2) := by decide +kernel
theorem dX3_shareByHeads_51 : decode cX3_shareByHeads 51 = .ok (.ifCond .eq 19, 3) := by decide +kernel
theorem dX3_shareByHeads_54 : decode cX3_shareByHeads 54 = .ok (.iload_n 1, 1) := by decide +kernel
theorem dX3_shareByHeads_55 : decode cX3_shareByHeads 55 = .ok (.aload_n 0, 1) := by decide +kernel
theorem dX3_shareByHeads_56 : decode cX3_shareByHeads 56 = .ok (.iload 5, 2) := by decide +kernel
theorem dX3_shareByHeads_58 : decode cX3_shareByHeads 58 = .ok (.invokevirtual 50, 3) := by decide +kernel
theorem dX3_shareByHeads_61 : decode cX3_shareByHeads 61 = .ok (.getfield 132, 3) := by decide +kernel
theorem dX3_shareByHeads_64 : decode cX3_shareByHeads 64 = .ok (.imul, 1) := by decide +kernel
theorem dX3_shareByHeads_65 : decode cX3_shareByHeads 65 = .ok (.iload_n 3, 1) := by decide +kernel
theorem dX3_shareByHeads_66 : decode cX3_shareByHeads 66 = .ok (.idiv, 1) := by decide +kernel
theorem dX3_shareByHeads_67 : decode cX3_shareByHeads 67 = .ok (.goto 4, 3) := by decide +kernel
theorem dX3_shareByHeads_70 : decode cX3_shareByHeads 70 = .ok (.iconst 0, 1) := by decide +kernel
theorem dX3_shareByHeads_71 : decode cX3_shareByHeads 71 = .ok (.iastore, 1) := by decide +kernel
theorem dX3_shareByHeads_72 : decode cX3_shareByHeads 72 = .ok (.iload 4, 2) := by decide +kernel
theorem dX3_shareByHeads_74 : decode cX3_shareByHeads 74 = .ok (.aload_n 0, 1) := by decide +kernel
theorem dX3_shareByHeads_75 : decode cX3_shareByHeads 75 = .ok (.getfield 32, 3) := by decide +kernel
theorem dX3_shareByHeads_78 : decode cX3_shareByHeads 78 = .ok (.iload 5, 2) := by decide +kernel
theorem dX3_shareByHeads_80 : decode cX3_shareByHeads 80 = .ok (.iaload, 1) := by decide +kernel
theorem dX3_shareByHeads_81 : decode cX3_shareByHeads 81 = .ok (.isub, 1) := by decide +kernel
theorem dX3_shareByHeads_82 : decode cX3_shareByHeads 82 = .ok (.istore 4, 2) := by decide +kernel
theorem dX3_shareByHeads_84 : decode cX3_shareByHeads 84 = .ok (.iinc 5 1, 3) := by decide +kernel
theorem dX3_shareByHeads_87 : decode cX3_shareByHeads 87 = .ok (.goto (-75), 3) := by decide +kernel
theorem dX3_shareByHeads_90 : decode cX3_shareByHeads 90 = .ok (.aload_n 0, 1) := by decide +kernel
theorem dX3_shareByHeads_91 : decode cX3_shareByHeads 91 = .ok (.iload 4, 2) := by decide +kernel
theorem dX3_shareByHeads_93 : decode cX3_shareByHeads 93 = .ok (.iload_n 2, 1) := by decide +kernel
theorem dX3_shareByHeads_94 : decode cX3_shareByHeads 94 = .ok (.invokevirtual 138, 3) := by decide +kernel
theorem dX3_shareByHeads_97 : decode cX3_shareByHeads 97 = .ok (.return_, 1) := by decide +kernel
theorem dX3_shareLeftOver_0 : decode cX3_shareLeftOver 0 = .ok (.iload_n 1, 1) := by decide +kernel
theorem dX3_shareLeftOver_1 : decode cX3_shareLeftOver 1 = .ok (.istore_n 3, 1) := by decide +kernel
theorem dX3_shareLeftOver_2 : decode cX3_shareLeftOver 2 = .ok (.iconst 0, 1) := by decide +kernel
theorem dX3_shareLeftOver_3 : decode cX3_shareLeftOver 3 = .ok (.istore 4, 2) := by decide +kernel
theorem dX3_shareLeftOver_5 : decode cX3_shareLeftOver 5 = .ok (.iload 4, 2) := by decide +kernel
theorem dX3_shareLeftOver_7 : decode cX3_shareLeftOver 7 = .ok (.aload_n 0, 1) := by decide +kernel
theorem dX3_shareLeftOver_8 : decode cX3_shareLeftOver 8 = .ok (.getfield 32, 3) := by decide +kernel
theorem dX3_shareLeftOver_11 : decode cX3_shareLeftOver 11 = .ok (.arraylength, 1) := by decide +kernel
theorem dX3_shareLeftOver_12 : decode cX3_shareLeftOver 12 = .ok (.if_icmp .ge 39, 3) := by decide +kernel
theorem dX3_shareLeftOver_15 : decode cX3_shareLeftOver 15 = .ok (.iload_n 3, 1) := by decide +kernel
theorem dX3_shareLeftOver_16 : decode cX3_shareLeftOver 16 = .ok (.ifCond .le 35, 3) := by decide +kernel
theorem dX3_shareLeftOver_19 : decode cX3_shareLeftOver 19 = .ok (.iload_n 2, 1) := by decide +kernel
theorem dX3_shareLeftOver_20 : decode cX3_shareLeftOver 20 = .ok (.iload 4, 2) := by decide +kernel
theorem dX3_shareLeftOver_22 : decode cX3_shareLeftOver 22 = .ok (.ishr, 1) := by decide +kernel
theorem dX3_shareLeftOver_23 : decode cX3_shareLeftOver 23 = .ok (.iconst 1, 1) := by decide +kernel
theorem dX3_shareLeftOver_24 : decode cX3_shareLeftOver 24 = .ok (.iand, 1) := by decide +kernel
theorem dX3_shareLeftOver_25 : decode cX3_shareLeftOver 25 = .ok (.ifCond .ne 6, 3) := by decide +kernel
theorem dX3_shareLeftOver_28 : decode cX3_shareLeftOver 28 = .ok (.goto 17, 3) := by decide +kernel
theorem dX3_shareLeftOver_31 : decode cX3_shareLeftOver 31 = .ok (.aload_n 0, 1) := by decide +kernel
theorem dX3_shareLeftOver_32 : decode cX3_shareLeftOver 32 = .ok (.getfield 32, 3) := by decide +kernel
theorem dX3_shareLeftOver_35 : decode cX3_shareLeftOver 35 = .ok (.iload 4, 2) := by decide +kernel
theorem dX3_shareLeftOver_37 : decode cX3_shareLeftOver 37 = .ok (.dup2, 1) := by decide +kernel
theorem dX3_shareLeftOver_38 : decode cX3_shareLeftOver 38 = .ok (.iaload, 1) := by decide +kernel
theorem dX3_shareLeftOver_39 : decode cX3_shareLeftOver 39 = .ok (.iconst 1, 1) := by decide +kernel
theorem dX3_shareLeftOver_40 : decode cX3_shareLeftOver 40 = .ok (.iadd, 1) := by decide +kernel
theorem dX3_shareLeftOver_41 : decode cX3_shareLeftOver 41 = .ok (.iastore, 1) := by decide +kernel
theorem dX3_shareLeftOver_42 : decode cX3_shareLeftOver 42 = .ok (.iinc 3 (-1), 3) := by decide +kernel
theorem dX3_shareLeftOver_45 : decode cX3_shareLeftOver 45 = .ok (.iinc 4 1, 3) := by decide +kernel
theorem dX3_shareLeftOver_48 : decode cX3_shareLeftOver 48 = .ok (.goto (-43), 3) := by decide +kernel
theorem dX3_shareLeftOver_51 : decode cX3_shareLeftOver 51 = .ok (.return_, 1) := by decide +kernel
theorem dX3_shareToOne_0 : decode cX3_shareToOne 0 = .ok (.iconst 0, 1) := by decide +kernel
theorem dX3_shareToOne_1 : decode cX3_shareToOne 1 = .ok (.istore_n 3, 1) := by decide +kernel
theorem dX3_shareToOne_2 : decode cX3_shareToOne 2 = .ok (.iload_n 3, 1) := by decide +kernel
theorem dX3_shareToOne_3 : decode cX3_shareToOne 3 = .ok (.aload_n 0, 1) := by decide +kernel
theorem dX3_shareToOne_4 : decode cX3_shareToOne 4 = .ok (.getfield 32, 3) := by decide +kernel
theorem dX3_shareToOne_7 : decode cX3_shareToOne 7 = .ok (.arraylength, 1) := by decide +kernel
theorem dX3_shareToOne_8 : decode cX3_shareToOne 8 = .ok (.if_icmp .ge 33, 3) := by decide +kernel
theorem dX3_shareToOne_11 : decode cX3_shareToOne 11 = .ok (.aload_n 0, 1) := by decide +kernel
theorem dX3_shareToOne_12 : decode cX3_shareToOne 12 = .ok (.getfield 32, 3) := by decide +kernel
theorem dX3_shareToOne_15 : decode cX3_shareToOne 15 = .ok (.iload_n 3, 1) := by decide +kernel
theorem dX3_shareToOne_16 : decode cX3_shareToOne 16 = .ok (.iload_n 3, 1) := by decide +kernel
theorem dX3_shareToOne_17 : decode cX3_shareToOne 17 = .ok (.iload_n 2, 1) := by decide +kernel
theorem dX3_shareToOne_18 : decode cX3_shareToOne 18 = .ok (.if_icmp .ne 15, 3) := by decide +kernel
theorem dX3_shareToOne_21 : decode cX3_shareToOne 21 = .ok (.iload_n 3, 1) := by decide +kernel
theorem dX3_shareToOne_22 : decode cX3_shareToOne 22 = .ok (.aload_n 0, 1) := by decide +kernel
theorem dX3_shareToOne_23 : decode cX3_shareToOne 23 = .ok (.getfield 35, 3) := by decide +kernel
theorem dX3_shareToOne_26 : decode cX3_shareToOne 26 = .ok (.if_icmp .ge 7, 3) := by decide +kernel
theorem dX3_shareToOne_29 : decode cX3_shareToOne 29 = .ok (.iload_n 1, 1) := by decide +kernel
theorem dX3_shareToOne_30 : decode cX3_shareToOne 30 = .ok (.goto 4, 3) := by decide +kernel
theorem dX3_shareToOne_33 : decode cX3_shareToOne 33 = .ok (.iconst 0, 1) := by decide +kernel
theorem dX3_shareToOne_34 : decode cX3_shareToOne 34 = .ok (.iastore, 1) := by decide +kernel
theorem dX3_shareToOne_35 : decode cX3_shareToOne 35 = .ok (.iinc 3 1, 3) := by decide +kernel
theorem dX3_shareToOne_38 : decode cX3_shareToOne 38 = .ok (.goto (-36), 3) := by decide +kernel
theorem dX3_shareToOne_41 : decode cX3_shareToOne 41 = .ok (.return_, 1) := by decide +kernel
theorem dX3_shareOf_0 : decode cX3_shareOf 0 = .ok (.aload_n 0, 1) := by decide +kernel
theorem dX3_shareOf_1 : decode cX3_shareOf 1 = .ok (.iload_n 1, 1) := by decide +kernel
theorem dX3_shareOf_2 : decode cX3_shareOf 2 = .ok (.invokevirtual 58, 3) := by decide +kernel
theorem dX3_shareOf_5 : decode cX3_shareOf 5 = .ok (.astore_n 3, 1) := by decide +kernel
theorem dX3_shareOf_6 : decode cX3_shareOf 6 = .ok (.aload_n 3, 1) := by decide +kernel
theorem dX3_shareOf_7 : decode cX3_shareOf 7 = .ok (.ifnull 16, 3) := by decide +kernel
theorem dX3_shareOf_10 : decode cX3_shareOf 10 = .ok (.iload_n 2, 1) := by decide +kernel
theorem dX3_shareOf_11 : decode cX3_shareOf 11 = .ok (.ifCond .lt 12, 3) := by decide +kernel
theorem dX3_shareOf_14 : decode cX3_shareOf 14 = .ok (.iload_n 2, 1) := by decide +kernel
theorem dX3_shareOf_15 : decode cX3_shareOf 15 = .ok (.aload_n 0, 1) := by decide +kernel
theorem dX3_shareOf_16 : decode cX3_shareOf 16 = .ok (.getfield 32, 3) := by decide +kernel
theorem dX3_shareOf_19 : decode cX3_shareOf 19 = .ok (.arraylength, 1) := by decide +kernel
theorem dX3_shareOf_20 : decode cX3_shareOf 20 = .ok (.if_icmp .lt 5, 3) := by decide +kernel
theorem dX3_shareOf_23 : decode cX3_shareOf 23 = .ok (.iconst 0, 1) := by decide +kernel
theorem dX3_shareOf_24 : decode cX3_shareOf 24 = .ok (.ireturn, 1) := by decide +kernel
theorem dX3_shareOf_25 : decode cX3_shareOf 25 = .ok (.aload_n 3, 1) := by decide +kernel
theorem dX3_shareOf_26 : decode cX3_shareOf 26 = .ok (.aload_n 0, 1) := by decide +kernel
theorem dX3_shareOf_27 : decode cX3_shareOf 27 = .ok (.invokevirtual 103, 3) := by decide +kernel
theorem dX3_shareOf_30 : decode cX3_shareOf 30 = .ok (.aload_n 0, 1) := by decide +kernel
theorem dX3_shareOf_31 : decode cX3_shareOf 31 = .ok (.getfield 32, 3) := by decide +kernel
theorem dX3_shareOf_34 : decode cX3_shareOf 34 = .ok (.iload_n 2, 1) := by decide +kernel
theorem dX3_shareOf_35 : decode cX3_shareOf 35 = .ok (.iaload, 1) := by decide +kernel
theorem dX3_shareOf_36 : decode cX3_shareOf 36 = .ok (.ireturn, 1) := by decide +kernel
theorem dX3_oweShares_0 : decode cX3_oweShares 0 = .ok (.iconst 0, 1) := by decide +kernel
theorem dX3_oweShares_1 : decode cX3_oweShares 1 = .ok (.istore_n 1, 1) := by decide +kernel
theorem dX3_oweShares_2 : decode cX3_oweShares 2 = .ok (.iload_n 1, 1) := by decide +kernel
theorem dX3_oweShares_3 : decode cX3_oweShares 3 = .ok (.aload_n 0, 1) := by decide +kernel
theorem dX3_oweShares_4 : decode cX3_oweShares 4 = .ok (.getfield 35, 3) := by decide +kernel
theorem dX3_oweShares_7 : decode cX3_oweShares 7 = .ok (.if_icmp .ge 32, 3) := by decide +kernel
theorem dX3_oweShares_10 : decode cX3_oweShares 10 = .ok (.iload_n 1, 1) := by decide +kernel
theorem dX3_oweShares_11 : decode cX3_oweShares 11 = .ok (.aload_n 0, 1) := by decide +kernel
theorem dX3_oweShares_12 : decode cX3_oweShares 12 = .ok (.getfield 32, 3) := by decide +kernel
theorem dX3_oweShares_15 : decode cX3_oweShares 15 = .ok (.arraylength, 1) := by decide +kernel
theorem dX3_oweShares_16 : decode cX3_oweShares 16 = .ok (.if_icmp .ge 23, 3) := by decide +kernel
theorem dX3_oweShares_19 : decode cX3_oweShares 19 = .ok (.aload_n 0, 1) := by decide +kernel
theorem dX3_oweShares_20 : decode cX3_oweShares 20 = .ok (.iload_n 1, 1) := by decide +kernel
theorem dX3_oweShares_21 : decode cX3_oweShares 21 = .ok (.invokevirtual 50, 3) := by decide +kernel
theorem dX3_oweShares_24 : decode cX3_oweShares 24 = .ok (.aload_n 0, 1) := by decide +kernel
theorem dX3_oweShares_25 : decode cX3_oweShares 25 = .ok (.getfield 32, 3) := by decide +kernel
theorem dX3_oweShares_28 : decode cX3_oweShares 28 = .ok (.iload_n 1, 1) := by decide +kernel
theorem dX3_oweShares_29 : decode cX3_oweShares 29 = .ok (.iaload, 1) := by decide +kernel
theorem dX3_oweShares_30 : decode cX3_oweShares 30 = .ok (.invokevirtual 144, 3) := by decide +kernel
theorem dX3_oweShares_33 : decode cX3_oweShares 33 = .ok (.iinc 1 1, 3) := by decide +kernel
theorem dX3_oweShares_36 : decode cX3_oweShares 36 = .ok (.goto (-34), 3) := by decide +kernel
theorem dX3_oweShares_39 : decode cX3_oweShares 39 = .ok (.return_, 1) := by decide +kernel
theorem dX3_charge_0 : decode cX3_charge 0 = .ok (.aload_n 0, 1) := by decide +kernel
theorem dX3_charge_1 : decode cX3_charge 1 = .ok (.iload_n 1, 1) := by decide +kernel
theorem dX3_charge_2 : decode cX3_charge 2 = .ok (.invokevirtual 58, 3) := by decide +kernel
theorem dX3_charge_5 : decode cX3_charge 5 = .ok (.astore_n 2, 1) := by decide +kernel
theorem dX3_charge_6 : decode cX3_charge 6 = .ok (.aload_n 2, 1) := by decide +kernel
theorem dX3_charge_7 : decode cX3_charge 7 = .ok (.ifnonnull 4, 3) := by decide +kernel
theorem dX3_charge_10 : decode cX3_charge 10 = .ok (.return_, 1) := by decide +kernel
theorem dX3_charge_11 : decode cX3_charge 11 = .ok (.aload_n 2, 1) := by decide +kernel
theorem dX3_charge_12 : decode cX3_charge 12 = .ok (.aload_n 0, 1) := by decide +kernel
theorem dX3_charge_13 : decode cX3_charge 13 = .ok (.invokevirtual 103, 3) := by decide +kernel
theorem dX3_charge_16 : decode cX3_charge 16 = .ok (.aload_n 0, 1) := by decide +kernel
theorem dX3_charge_17 : decode cX3_charge 17 = .ok (.invokevirtual 107, 3) := by decide +kernel
theorem dX3_charge_20 : decode cX3_charge 20 = .ok (.return_, 1) := by decide +kernel
theorem dX3_chargeSet_0 : decode cX3_chargeSet 0 = .ok (.iconst 0, 1) := by decide +kernel
theorem dX3_chargeSet_1 : decode cX3_chargeSet 1 = .ok (.istore_n 2, 1) := by decide +kernel
theorem dX3_chargeSet_2 : decode cX3_chargeSet 2 = .ok (.iload_n 2, 1) := by decide +kernel
theorem dX3_chargeSet_3 : decode cX3_chargeSet 3 = .ok (.aload_n 0, 1) := by decide +kernel
theorem dX3_chargeSet_4 : decode cX3_chargeSet 4 = .ok (.getfield 38, 3) := by decide +kernel
theorem dX3_chargeSet_7 : decode cX3_chargeSet 7 = .ok (.if_icmp .ge 23, 3) := by decide +kernel
theorem dX3_chargeSet_10 : decode cX3_chargeSet 10 = .ok (.iload_n 1, 1) := by decide +kernel
theorem dX3_chargeSet_11 : decode cX3_chargeSet 11 = .ok (.iload_n 2, 1) := by decide +kernel
theorem dX3_chargeSet_12 : decode cX3_chargeSet 12 = .ok (.ishr, 1) := by decide +kernel
theorem dX3_chargeSet_13 : decode cX3_chargeSet 13 = .ok (.iconst 1, 1) := by decide +kernel
theorem dX3_chargeSet_14 : decode cX3_chargeSet 14 = .ok (.iand, 1) := by decide +kernel
theorem dX3_chargeSet_15 : decode cX3_chargeSet 15 = .ok (.iconst 1, 1) := by decide +kernel
theorem dX3_chargeSet_16 : decode cX3_chargeSet 16 = .ok (.if_icmp .ne 8, 3) := by decide +kernel
theorem dX3_chargeSet_19 : decode cX3_chargeSet 19 = .ok (.aload_n 0, 1) := by decide +kernel
theorem dX3_chargeSet_20 : decode cX3_chargeSet 20 = .ok (.iload_n 2, 1) := by decide +kernel
theorem dX3_chargeSet_21 : decode cX3_chargeSet 21 = .ok (.invokevirtual 147, 3) := by decide +kernel
theorem dX3_chargeSet_24 : decode cX3_chargeSet 24 = .ok (.iinc 2 1, 3) := by decide +kernel
theorem dX3_chargeSet_27 : decode cX3_chargeSet 27 = .ok (.goto (-25), 3) := by decide +kernel
theorem dX3_chargeSet_30 : decode cX3_chargeSet 30 = .ok (.return_, 1) := by decide +kernel
theorem dX3_sets_0 : decode cX3_sets 0 = .ok (.iconst 1, 1) := by decide +kernel
theorem dX3_sets_1 : decode cX3_sets 1 = .ok (.aload_n 0, 1) := by decide +kernel
theorem dX3_sets_2 : decode cX3_sets 2 = .ok (.getfield 38, 3) := by decide +kernel
theorem dX3_sets_5 : decode cX3_sets 5 = .ok (.ishl, 1) := by decide +kernel
theorem dX3_sets_6 : decode cX3_sets 6 = .ok (.ireturn, 1) := by decide +kernel
theorem dX3_costOf_0 : decode cX3_costOf 0 = .ok (.iconst 0, 1) := by decide +kernel
theorem dX3_costOf_1 : decode cX3_costOf 1 = .ok (.istore_n 2, 1) := by decide +kernel
theorem dX3_costOf_2 : decode cX3_costOf 2 = .ok (.iconst 0, 1) := by decide +kernel
theorem dX3_costOf_3 : decode cX3_costOf 3 = .ok (.istore_n 3, 1) := by decide +kernel
theorem dX3_costOf_4 : decode cX3_costOf 4 = .ok (.iload_n 3, 1) := by decide +kernel
theorem dX3_costOf_5 : decode cX3_costOf 5 = .ok (.aload_n 0, 1) := by decide +kernel
theorem dX3_costOf_6 : decode cX3_costOf 6 = .ok (.getfield 38, 3) := by decide +kernel
theorem dX3_costOf_9 : decode cX3_costOf 9 = .ok (.if_icmp .ge 38, 3) := by decide +kernel
theorem dX3_costOf_12 : decode cX3_costOf 12 = .ok (.aload_n 0, 1) := by decide +kernel
theorem dX3_costOf_13 : decode cX3_costOf 13 = .ok (.iload_n 3, 1) := by decide +kernel
theorem dX3_costOf_14 : decode cX3_costOf 14 = .ok (.invokevirtual 58, 3) := by decide +kernel
theorem dX3_costOf_17 : decode cX3_costOf 17 = .ok (.astore 4, 2) := by decide +kernel
theorem dX3_costOf_19 : decode cX3_costOf 19 = .ok (.aload 4, 2) := by decide +kernel
theorem dX3_costOf_21 : decode cX3_costOf 21 = .ok (.ifnull 20, 3) := by decide +kernel
theorem dX3_costOf_24 : decode cX3_costOf 24 = .ok (.iload_n 1, 1) := by decide +kernel
theorem dX3_costOf_25 : decode cX3_costOf 25 = .ok (.iload_n 3, 1) := by decide +kernel
theorem dX3_costOf_26 : decode cX3_costOf 26 = .ok (.ishr, 1) := by decide +kernel
theorem dX3_costOf_27 : decode cX3_costOf 27 = .ok (.iconst 1, 1) := by decide +kernel
theorem dX3_costOf_28 : decode cX3_costOf 28 = .ok (.iand, 1) := by decide +kernel
theorem dX3_costOf_29 : decode cX3_costOf 29 = .ok (.iconst 1, 1) := by decide +kernel
theorem dX3_costOf_30 : decode cX3_costOf 30 = .ok (.if_icmp .ne 11, 3) := by decide +kernel
theorem dX3_costOf_33 : decode cX3_costOf 33 = .ok (.iload_n 2, 1) := by decide +kernel
theorem dX3_costOf_34 : decode cX3_costOf 34 = .ok (.aload 4, 2) := by decide +kernel
theorem dX3_costOf_36 : decode cX3_costOf 36 = .ok (.getfield 150, 3) := by decide +kernel
theorem dX3_costOf_39 : decode cX3_costOf 39 = .ok (.iadd, 1) := by decide +kernel
theorem dX3_costOf_40 : decode cX3_costOf 40 = .ok (.istore_n 2, 1) := by decide +kernel
theorem dX3_costOf_41 : decode cX3_costOf 41 = .ok (.iinc 3 1, 3) := by decide +kernel
theorem dX3_costOf_44 : decode cX3_costOf 44 = .ok (.goto (-40), 3) := by decide +kernel
theorem dX3_costOf_47 : decode cX3_costOf 47 = .ok (.iload_n 2, 1) := by decide +kernel
theorem dX3_costOf_48 : decode cX3_costOf 48 = .ok (.ireturn, 1) := by decide +kernel
theorem dX3_unusedWork_0 : decode cX3_unusedWork 0 = .ok (.iconst 0, 1) := by decide +kernel
theorem dX3_unusedWork_1 : decode cX3_unusedWork 1 = .ok (.istore_n 3, 1) := by decide +kernel
theorem dX3_unusedWork_2 : decode cX3_unusedWork 2 = .ok (.iconst 0, 1) := by decide +kernel
theorem dX3_unusedWork_3 : decode cX3_unusedWork 3 = .ok (.istore 4, 2) := by decide +kernel
theorem dX3_unusedWork_5 : decode cX3_unusedWork 5 = .ok (.iload 4, 2) := by decide +kernel
theorem dX3_unusedWork_7 : decode cX3_unusedWork 7 = .ok (.aload_n 0, 1) := by decide +kernel
theorem dX3_unusedWork_8 : decode cX3_unusedWork 8 = .ok (.getfield 38, 3) := by decide +kernel
theorem dX3_unusedWork_11 : decode cX3_unusedWork 11 = .ok (.if_icmp .ge 33, 3) := by decide +kernel
theorem dX3_unusedWork_14 : decode cX3_unusedWork 14 = .ok (.iload_n 1, 1) := by decide +kernel
theorem dX3_unusedWork_15 : decode cX3_unusedWork 15 = .ok (.iload 4, 2) := by decide +kernel
theorem dX3_unusedWork_17 : decode cX3_unusedWork 17 = .ok (.ishr, 1) := by decide +kernel
theorem dX3_unusedWork_18 : decode cX3_unusedWork 18 = .ok (.iconst 1, 1) := by decide +kernel
theorem dX3_unusedWork_19 : decode cX3_unusedWork 19 = .ok (.iand, 1) := by decide +kernel
theorem dX3_unusedWork_20 : decode cX3_unusedWork 20 = .ok (.iconst 1, 1) := by decide +kernel
theorem dX3_unusedWork_21 : decode cX3_unusedWork 21 = .ok (.if_icmp .ne 6, 3) := by decide +kernel
theorem dX3_unusedWork_24 : decode cX3_unusedWork 24 = .ok (.goto 14, 3) := by decide +kernel
theorem dX3_unusedWork_27 : decode cX3_unusedWork 27 = .ok (.iload_n 3, 1) := by decide +kernel
theorem dX3_unusedWork_28 : decode cX3_unusedWork 28 = .ok (.iload_n 2, 1) := by decide +kernel
theorem dX3_unusedWork_29 : decode cX3_unusedWork 29 = .ok (.if_icmp .ne 6, 3) := by decide +kernel
theorem dX3_unusedWork_32 : decode cX3_unusedWork 32 = .ok (.iload 4, 2) := by decide +kernel
theorem dX3_unusedWork_34 : decode cX3_unusedWork 34 = .ok (.ireturn, 1) := by decide +kernel
theorem dX3_unusedWork_35 : decode cX3_unusedWork 35 = .ok (.iinc 3 1, 3) := by decide +kernel
theorem dX3_unusedWork_38 : decode cX3_unusedWork 38 = .ok (.iinc 4 1, 3) := by decide +kernel
theorem dX3_unusedWork_41 : decode cX3_unusedWork 41 = .ok (.goto (-36), 3) := by decide +kernel
theorem dX3_unusedWork_44 : decode cX3_unusedWork 44 = .ok (.iconst 0, 1) := by decide +kernel
theorem dX3_unusedWork_45 : decode cX3_unusedWork 45 = .ok (.ireturn, 1) := by decide +kernel
theorem dX4_init_0 : decode cX4_init 0 = .ok (.aload_n 0, 1) := by decide +kernel
theorem dX4_init_1 : decode cX4_init 1 = .ok (.invokespecial 3, 3) := by decide +kernel
theorem dX4_init_4 : decode cX4_init 4 = .ok (.aload_n 0, 1) := by decide +kernel
theorem dX4_init_5 : decode cX4_init 5 = .ok (.bipush 8, 2) := by decide +kernel
theorem dX4_init_7 : decode cX4_init 7 = .ok (.anewarray 9, 3) := by decide +kernel
theorem dX4_init_10 : decode cX4_init 10 = .ok (.putfield 11, 3) := by decide +kernel
theorem dX4_init_13 : decode cX4_init 13 = .ok (.iconst 0, 1) := by decide +kernel
theorem dX4_init_14 : decode cX4_init 14 = .ok (.istore_n 1, 1) := by decide +kernel
theorem dX4_init_15 : decode cX4_init 15 = .ok (.iload_n 1, 1) := by decide +kernel
theorem dX4_init_16 : decode cX4_init 16 = .ok (.aload_n 0, 1) := by decide +kernel
theorem dX4_init_17 : decode cX4_init 17 = .ok (.getfield 11, 3) := by decide +kernel
theorem dX4_init_20 : decode cX4_init 20 = .ok (.arraylength, 1) := by decide +kernel
theorem dX4_init_21 : decode cX4_init 21 = .ok (.if_icmp .ge 22, 3) := by decide +kernel
theorem dX4_init_24 : decode cX4_init 24 = .ok (.aload_n 0, 1) := by decide +kernel
theorem dX4_init_25 : decode cX4_init 25 = .ok (.getfield 11, 3) := by decide +kernel
theorem dX4_init_28 : decode cX4_init 28 = .ok (.iload_n 1, 1) := by decide +kernel
theorem dX4_init_29 : decode cX4_init 29 = .ok (.new 9, 3) := by decide +kernel
theorem dX4_init_32 : decode cX4_init 32 = .ok (.dup, 1) := by decide +kernel
theorem dX4_init_33 : decode cX4_init 33 = .ok (.invokespecial 17, 3) := by decide +kernel
theorem dX4_init_36 : decode cX4_init 36 = .ok (.aastore, 1) := by decide +kernel
theorem dX4_init_37 : decode cX4_init 37 = .ok (.iinc 1 1, 3) := by decide +kernel
theorem dX4_init_40 : decode cX4_init 40 = .ok (.goto (-25), 3) := by decide +kernel
theorem dX4_init_43 : decode cX4_init 43 = .ok (.return_, 1) := by decide +kernel
theorem dX4_kept_0 : decode cX4_kept 0 = .ok (.aload_n 0, 1) := by decide +kernel
theorem dX4_kept_1 : decode cX4_kept 1 = .ok (.getfield 11, 3) := by decide +kernel
theorem dX4_kept_4 : decode cX4_kept 4 = .ok (.iload_n 1, 1) := by decide +kernel
theorem dX4_kept_5 : decode cX4_kept 5 = .ok (.ifCond .lt 16, 3) := by decide +kernel
theorem dX4_kept_8 : decode cX4_kept 8 = .ok (.iload_n 1, 1) := by decide +kernel
theorem dX4_kept_9 : decode cX4_kept 9 = .ok (.aload_n 0, 1) := by decide +kernel
theorem dX4_kept_10 : decode cX4_kept 10 = .ok (.getfield 11, 3) := by decide +kernel
theorem dX4_kept_13 : decode cX4_kept 13 = .ok (.arraylength, 1) := by decide +kernel
theorem dX4_kept_14 : decode cX4_kept 14 = .ok (.if_icmp .ge 7, 3) := by decide +kernel
theorem dX4_kept_17 : decode cX4_kept 17 = .ok (.iload_n 1, 1) := by decide +kernel
theorem dX4_kept_18 : decode cX4_kept 18 = .ok (.goto 4, 3) := by decide +kernel
theorem dX4_kept_21 : decode cX4_kept 21 = .ok (.iconst 0, 1) := by decide +kernel
theorem dX4_kept_22 : decode cX4_kept 22 = .ok (.aaload, 1) := by decide +kernel
theorem dX4_kept_23 : decode cX4_kept 23 = .ok (.areturn, 1) := by decide +kernel
theorem dX4_keep_0 : decode cX4_keep 0 = .ok (.aload_n 0, 1) := by decide +kernel
theorem dX4_keep_1 : decode cX4_keep 1 = .ok (.aload_n 0, 1) := by decide +kernel
theorem dX4_keep_2 : decode cX4_keep 2 = .ok (.getfield 18, 3) := by decide +kernel
theorem dX4_keep_5 : decode cX4_keep 5 = .ok (.invokevirtual 22, 3) := by decide +kernel
theorem dX4_keep_8 : decode cX4_keep 8 = .ok (.aload_n 1, 1) := by decide +kernel
theorem dX4_keep_9 : decode cX4_keep 9 = .ok (.invokevirtual 26, 3) := by decide +kernel
theorem dX4_keep_12 : decode cX4_keep 12 = .ok (.aload_n 0, 1) := by decide +kernel
theorem dX4_keep_13 : decode cX4_keep 13 = .ok (.aload_n 0, 1) := by decide +kernel
theorem dX4_keep_14 : decode cX4_keep 14 = .ok (.getfield 18, 3) := by decide +kernel
theorem dX4_keep_17 : decode cX4_keep 17 = .ok (.iconst 1, 1) := by decide +kernel
theorem dX4_keep_18 : decode cX4_keep 18 = .ok (.iadd, 1) := by decide +kernel
theorem dX4_keep_19 : decode cX4_keep 19 = .ok (.bipush 8, 2) := by decide +kernel
theorem dX4_keep_21 : decode cX4_keep 21 = .ok (.irem, 1) := by decide +kernel
theorem dX4_keep_22 : decode cX4_keep 22 = .ok (.putfield 18, 3) := by decide +kernel
theorem dX4_keep_25 : decode cX4_keep 25 = .ok (.aload_n 0, 1) := by decide +kernel
theorem dX4_keep_26 : decode cX4_keep 26 = .ok (.bipush 8, 2) := by decide +kernel
theorem dX4_keep_28 : decode cX4_keep 28 = .ok (.aload_n 0, 1) := by decide +kernel
theorem dX4_keep_29 : decode cX4_keep 29 = .ok (.getfield 30, 3) := by decide +kernel
theorem dX4_keep_32 : decode cX4_keep 32 = .ok (.iconst 1, 1) := by decide +kernel
theorem dX4_keep_33 : decode cX4_keep 33 = .ok (.iadd, 1) := by decide +kernel
theorem dX4_keep_34 : decode cX4_keep 34 = .ok (.invokestatic 33, 3) := by decide +kernel
theorem dX4_keep_37 : decode cX4_keep 37 = .ok (.putfield 30, 3) := by decide +kernel
theorem dX4_keep_40 : decode cX4_keep 40 = .ok (.return_, 1) := by decide +kernel
theorem dX4_takeBack_0 : decode cX4_takeBack 0 = .ok (.aload_n 0, 1) := by decide +kernel
theorem dX4_takeBack_1 : decode cX4_takeBack 1 = .ok (.aload_n 0, 1) := by decide +kernel
theorem dX4_takeBack_2 : decode cX4_takeBack 2 = .ok (.getfield 18, 3) := by decide +kernel
theorem dX4_takeBack_5 : decode cX4_takeBack 5 = .ok (.bipush 8, 2) := by decide +kernel
theorem dX4_takeBack_7 : decode cX4_takeBack 7 = .ok (.iadd, 1) := by decide +kernel
theorem dX4_takeBack_8 : decode cX4_takeBack 8 = .ok (.iconst 1, 1) := by decide +kernel
theorem dX4_takeBack_9 : decode cX4_takeBack 9 = .ok (.isub, 1) := by decide +kernel
theorem dX4_takeBack_10 : decode cX4_takeBack 10 = .ok (.bipush 8, 2) := by decide +kernel
theorem dX4_takeBack_12 : decode cX4_takeBack 12 = .ok (.irem, 1) := by decide +kernel
theorem dX4_takeBack_13 : decode cX4_takeBack 13 = .ok (.putfield 18, 3) := by decide +kernel
theorem dX4_takeBack_16 : decode cX4_takeBack 16 = .ok (.aload_n 1, 1) := by decide +kernel
theorem dX4_takeBack_17 : decode cX4_takeBack 17 = .ok (.aload_n 0, 1) := by decide +kernel
theorem dX4_takeBack_18 : decode cX4_takeBack 18 = .ok (.aload_n 0, 1) := by decide +kernel
theorem dX4_takeBack_19 : decode cX4_takeBack 19 = .ok (.getfield 18, 3) := by decide +kernel
theorem dX4_takeBack_22 : decode cX4_takeBack 22 = .ok (.invokevirtual 22, 3) := by decide +kernel
theorem dX4_takeBack_25 : decode cX4_takeBack 25 = .ok (.invokevirtual 26, 3) := by decide +kernel
theorem dX4_takeBack_28 : decode cX4_takeBack 28 = .ok (.aload_n 0, 1) := by decide +kernel
theorem dX4_takeBack_29 : decode cX4_takeBack 29 = .ok (.dup, 1) := by decide +kernel
theorem dX4_takeBack_30 : decode cX4_takeBack 30 = .ok (.getfield 30, 3) := by decide +kernel
theorem dX4_takeBack_33 : decode cX4_takeBack 33 = .ok (.iconst 1, 1) := by decide +kernel
theorem dX4_takeBack_34 : decode cX4_takeBack 34 = .ok (.isub, 1) := by decide +kernel
theorem dX4_takeBack_35 : decode cX4_takeBack 35 = .ok (.putfield 30, 3) := by decide +kernel
theorem dX4_takeBack_38 : decode cX4_takeBack 38 = .ok (.return_, 1) := by decide +kernel
theorem dX4_forget_0 : decode cX4_forget 0 = .ok (.aload_n 0, 1) := by decide +kernel
theorem dX4_forget_1 : decode cX4_forget 1 = .ok (.iconst 0, 1) := by decide +kernel
theorem dX4_forget_2 : decode cX4_forget 2 = .ok (.putfield 30, 3) := by decide +kernel
theorem dX4_forget_5 : decode cX4_forget 5 = .ok (.return_, 1) := by decide +kernel
theorem dX5_init_0 : decode cX5_init 0 = .ok (.aload_n 0, 1) := by decide +kernel
theorem dX5_init_1 : decode cX5_init 1 = .ok (.iload_n 1, 1) := by decide +kernel
theorem dX5_init_2 : decode cX5_init 2 = .ok (.iload_n 2, 1) := by decide +kernel
theorem dX5_init_3 : decode cX5_init 3 = .ok (.invokespecial 1, 3) := by decide +kernel
theorem dX5_init_6 : decode cX5_init 6 = .ok (.return_, 1) := by decide +kernel
theorem dX5_kind_0 : decode cX5_kind 0 = .ok (.iconst 4, 1) := by decide +kernel
theorem dX5_kind_1 : decode cX5_kind 1 = .ok (.ireturn, 1) := by decide +kernel
theorem dX5_due_0 : decode cX5_due 0 = .ok (.iconst 1, 1) := by decide +kernel
theorem dX5_due_1 : decode cX5_due 1 = .ok (.aload_n 0, 1) := by decide +kernel
theorem dX5_due_2 : decode cX5_due 2 = .ok (.invokespecial 7, 3) := by decide +kernel
theorem dX5_due_5 : decode cX5_due 5 = .ok (.aload_n 0, 1) := by decide +kernel
theorem dX5_due_6 : decode cX5_due 6 = .ok (.getfield 11, 3) := by decide +kernel
theorem dX5_due_9 : decode cX5_due 9 = .ok (.isub, 1) := by decide +kernel
theorem dX5_due_10 : decode cX5_due 10 = .ok (.invokestatic 17, 3) := by decide +kernel
theorem dX5_due_13 : decode cX5_due 13 = .ok (.ireturn, 1) := by decide +kernel
theorem dX5_payer_0 : decode cX5_payer 0 = .ok (.aload_n 1, 1) := by decide +kernel
theorem dX5_payer_1 : decode cX5_payer 1 = .ok (.invokevirtual 23, 3) := by decide +kernel
theorem dX5_payer_4 : decode cX5_payer 4 = .ok (.ireturn, 1) := by decide +kernel
theorem dX6_init_0 : decode cX6_init 0 = .ok (.aload_n 0, 1) := by decide +kernel
theorem dX6_init_1 : decode cX6_init 1 = .ok (.iload_n 1, 1) := by decide +kernel
theorem dX6_init_2 : decode cX6_init 2 = .ok (.iload_n 2, 1) := by decide +kernel
theorem dX6_init_3 : decode cX6_init 3 = .ok (.invokespecial 1, 3) := by decide +kernel
theorem dX6_init_6 : decode cX6_init 6 = .ok (.return_, 1) := by decide +kernel
theorem dX6_kind_0 : decode cX6_kind 0 = .ok (.iconst 5, 1) := by decide +kernel
theorem dX6_kind_1 : decode cX6_kind 1 = .ok (.ireturn, 1) := by decide +kernel
theorem dX6_due_0 : decode cX6_due 0 = .ok (.aload_n 0, 1) := by decide +kernel
theorem dX6_due_1 : decode cX6_due 1 = .ok (.invokespecial 7, 3) := by decide +kernel
theorem dX6_due_4 : decode cX6_due 4 = .ok (.aload_n 0, 1) := by decide +kernel
theorem dX6_due_5 : decode cX6_due 5 = .ok (.getfield 11, 3) := by decide +kernel
theorem dX6_due_8 : decode cX6_due 8 = .ok (.iadd, 1) := by decide +kernel
theorem dX6_due_9 : decode cX6_due 9 = .ok (.ireturn, 1) := by decide +kernel
theorem dX7_init_0 : decode cX7_init 0 = .ok (.aload_n 0, 1) := by decide +kernel
theorem dX7_init_1 : decode cX7_init 1 = .ok (.invokespecial 3, 3) := by decide +kernel
theorem dX7_init_4 : decode cX7_init 4 = .ok (.aload_n 0, 1) := by decide +kernel
theorem dX7_init_5 : decode cX7_init 5 = .ok (.bipush 96, 2) := by decide +kernel
theorem dX7_init_7 : decode cX7_init 7 = .ok (.newarray .int, 2) := by decide +kernel
theorem dX7_init_9 : decode cX7_init 9 = .ok (.putfield 9, 3) := by decide +kernel
theorem dX7_init_12 : decode cX7_init 12 = .ok (.return_, 1) := by decide +kernel
theorem dX7_isFull_0 : decode cX7_isFull 0 = .ok (.aload_n 0, 1) := by decide +kernel
theorem dX7_isFull_1 : decode cX7_isFull 1 = .ok (.getfield 15, 3) := by decide +kernel
theorem dX7_isFull_4 : decode cX7_isFull 4 = .ok (.aload_n 0, 1) := by decide +kernel
theorem dX7_isFull_5 : decode cX7_isFull 5 = .ok (.getfield 9, 3) := by decide +kernel
theorem dX7_isFull_8 : decode cX7_isFull 8 = .ok (.arraylength, 1) := by decide +kernel
theorem dX7_isFull_9 : decode cX7_isFull 9 = .ok (.if_icmp .lt 7, 3) := by decide +kernel
theorem dX7_isFull_12 : decode cX7_isFull 12 = .ok (.iconst 1, 1) := by decide +kernel
theorem dX7_isFull_13 : decode cX7_isFull 13 = .ok (.goto 4, 3) := by decide +kernel
theorem dX7_isFull_16 : decode cX7_isFull 16 = .ok (.iconst 0, 1) := by decide +kernel
theorem dX7_isFull_17 : decode cX7_isFull 17 = .ok (.ireturn, 1) := by decide +kernel
theorem dX7_add_0 : decode cX7_add 0 = .ok (.aload_n 0, 1) := by decide +kernel
theorem dX7_add_1 : decode cX7_add 1 = .ok (.getfield 15, 3) := by decide +kernel
theorem dX7_add_4 : decode cX7_add 4 = .ok (.aload_n 0, 1) := by decide +kernel
theorem dX7_add_5 : decode cX7_add 5 = .ok (.getfield 9, 3) := by decide +kernel
theorem dX7_add_8 : decode cX7_add 8 = .ok (.arraylength, 1) := by decide +kernel
theorem dX7_add_9 : decode cX7_add 9 = .ok (.if_icmp .ge 13, 3) := by decide +kernel
theorem dX7_add_12 : decode cX7_add 12 = .ok (.aload_n 0, 1) := by decide +kernel
theorem dX7_add_13 : decode cX7_add 13 = .ok (.getfield 9, 3) := by decide +kernel
theorem dX7_add_16 : decode cX7_add 16 = .ok (.aload_n 0, 1) := by decide +kernel
theorem dX7_add_17 : decode cX7_add 17 = .ok (.getfield 15, 3) := by decide +kernel
theorem dX7_add_20 : decode cX7_add 20 = .ok (.iload_n 1, 1) := by decide +kernel
theorem dX7_add_21 : decode cX7_add 21 = .ok (.iastore, 1) := by decide +kernel
theorem dX7_add_22 : decode cX7_add 22 = .ok (.aload_n 0, 1) := by decide +kernel
theorem dX7_add_23 : decode cX7_add 23 = .ok (.dup, 1) := by decide +kernel
theorem dX7_add_24 : decode cX7_add 24 = .ok (.getfield 15, 3) := by decide +kernel
theorem dX7_add_27 : decode cX7_add 27 = .ok (.iconst 1, 1) := by decide +kernel
theorem dX7_add_28 : decode cX7_add 28 = .ok (.iadd, 1) := by decide +kernel
theorem dX7_add_29 : decode cX7_add 29 = .ok (.putfield 15, 3) := by decide +kernel
theorem dX7_add_32 : decode cX7_add 32 = .ok (.aload_n 0, 1) := by decide +kernel
theorem dX7_add_33 : decode cX7_add 33 = .ok (.getfield 15, 3) := by decide +kernel
theorem dX7_add_36 : decode cX7_add 36 = .ok (.ireturn, 1) := by decide +kernel
theorem dX7_empty_0 : decode cX7_empty 0 = .ok (.aload_n 0, 1) := by decide +kernel
theorem dX7_empty_1 : decode cX7_empty 1 = .ok (.iconst 0, 1) := by decide +kernel
theorem dX7_empty_2 : decode cX7_empty 2 = .ok (.putfield 15, 3) := by decide +kernel
theorem dX7_empty_5 : decode cX7_empty 5 = .ok (.return_, 1) := by decide +kernel
theorem dX7_faultOfForm_0 : decode cX7_faultOfForm 0 = .ok (.iconst 0, 1) := by decide +kernel
theorem dX7_faultOfForm_1 : decode cX7_faultOfForm 1 = .ok (.istore_n 1, 1) := by decide +kernel
theorem dX7_faultOfForm_2 : decode cX7_faultOfForm 2 = .ok (.iconst 0, 1) := by decide +kernel
theorem dX7_faultOfForm_3 : decode cX7_faultOfForm 3 = .ok (.istore_n 2, 1) := by decide +kernel
theorem dX7_faultOfForm_4 : decode cX7_faultOfForm 4 = .ok (.iload_n 2, 1) := by decide +kernel
theorem dX7_faultOfForm_5 : decode cX7_faultOfForm 5 = .ok (.bipush 96, 2) := by decide +kernel
theorem dX7_faultOfForm_7 : decode cX7_faultOfForm 7 = .ok (.if_icmp .gt 32, 3) := by decide +kernel
theorem dX7_faultOfForm_10 : decode cX7_faultOfForm 10 = .ok (.aload_n 0, 1) := by decide +kernel
theorem dX7_faultOfForm_11 : decode cX7_faultOfForm 11 = .ok (.iload_n 1, 1) := by decide +kernel
theorem dX7_faultOfForm_12 : decode cX7_faultOfForm 12 = .ok (.invokevirtual 19, 3) := by decide +kernel
theorem dX7_faultOfForm_15 : decode cX7_faultOfForm 15 = .ok (.istore_n 1, 1) := by decide +kernel
theorem dX7_faultOfForm_16 : decode cX7_faultOfForm 16 = .ok (.iload_n 1, 1) := by decide +kernel
theorem dX7_faultOfForm_17 : decode cX7_faultOfForm 17 = .ok (.ifCond .ge 5, 3) := by decide +kernel
theorem dX7_faultOfForm_20 : decode cX7_faultOfForm 20 = .ok (.iload_n 1, 1) := by decide +kernel
theorem dX7_faultOfForm_21 : decode cX7_faultOfForm 21 = .ok (.ireturn, 1) := by decide +kernel
theorem dX7_faultOfForm_22 : decode cX7_faultOfForm 22 = .ok (.iload_n 1, 1) := by decide +kernel
theorem dX7_faultOfForm_23 : decode cX7_faultOfForm 23 = .ok (.aload_n 0, 1) := by decide +kernel
theorem dX7_faultOfForm_24 : decode cX7_faultOfForm 24 = .ok (.getfield 15, 3) := by decide +kernel
theorem dX7_faultOfForm_27 : decode cX7_faultOfForm 27 = .ok (.if_icmp .lt 6, 3) := by decide +kernel
theorem dX7_faultOfForm_30 : decode cX7_faultOfForm 30 = .ok (.goto 9, 3) := by decide +kernel
theorem dX7_faultOfForm_33 : decode cX7_faultOfForm 33 = .ok (.iinc 2 1, 3) := by decide +kernel
theorem dX7_faultOfForm_36 : decode cX7_faultOfForm 36 = .ok (.goto (-32), 3) := by decide +kernel
theorem dX7_faultOfForm_39 : decode cX7_faultOfForm 39 = .ok (.iconst 0, 1) := by decide +kernel
theorem dX7_faultOfForm_40 : decode cX7_faultOfForm 40 = .ok (.ireturn, 1) := by decide +kernel
theorem dX7_placeBehind_0 : decode cX7_placeBehind 0 = .ok (.aload_n 0, 1) := by decide +kernel
theorem dX7_placeBehind_1 : decode cX7_placeBehind 1 = .ok (.iload_n 1, 1) := by decide +kernel
theorem dX7_placeBehind_2 : decode cX7_placeBehind 2 = .ok (.invokevirtual 23, 3) := by decide +kernel
theorem dX7_placeBehind_5 : decode cX7_placeBehind 5 = .ok (.invokestatic 26, 3) := by decide +kernel
theorem dX7_placeBehind_8 : decode cX7_placeBehind 8 = .ok (.istore_n 2, 1) := by decide +kernel
theorem dX7_placeBehind_9 : decode cX7_placeBehind 9 = .ok (.iload_n 2, 1) := by decide +kernel
theorem dX7_placeBehind_10 : decode cX7_placeBehind 10 = .ok (.ifCond .ne 9, 3) := by decide +kernel
theorem dX7_placeBehind_13 : decode cX7_placeBehind 13 = .ok (.sipush (-1000), 3) := by decide +kernel
theorem dX7_placeBehind_16 : decode cX7_placeBehind 16 = .ok (.iload_n 1, 1) := by decide +kernel
theorem dX7_placeBehind_17 : decode cX7_placeBehind 17 = .ok (.isub, 1) := by decide +kernel
theorem dX7_placeBehind_18 : decode cX7_placeBehind 18 = .ok (.ireturn, 1) := by decide +kernel
theorem dX7_placeBehind_19 : decode cX7_placeBehind 19 = .ok (.iconst 1, 1) := by decide +kernel
theorem dX7_placeBehind_20 : decode cX7_placeBehind 20 = .ok (.istore_n 3, 1) := by decide +kernel
theorem dX7_placeBehind_21 : decode cX7_placeBehind 21 = .ok (.iload_n 3, 1) := by decide +kernel
theorem dX7_placeBehind_22 : decode cX7_placeBehind 22 = .ok (.iload_n 2, 1) := by decide +kernel
theorem dX7_placeBehind_23 : decode cX7_placeBehind 23 = .ok (.if_icmp .gt 30, 3) := by decide +kernel
theorem dX7_placeBehind_26 : decode cX7_placeBehind 26 = .ok (.aload_n 0, 1) := by decide +kernel
theorem dX7_placeBehind_27 : decode cX7_placeBehind 27 = .ok (.iload_n 1, 1) := by decide +kernel
theorem dX7_placeBehind_28 : decode cX7_placeBehind 28 = .ok (.iload_n 3, 1) := by decide +kernel
theorem dX7_placeBehind_29 : decode cX7_placeBehind 29 = .ok (.iadd, 1) := by decide +kernel
theorem dX7_placeBehind_30 : decode cX7_placeBehind 30 = .ok (.invokevirtual 23, 3) := by decide +kernel
theorem dX7_placeBehind_33 : decode cX7_placeBehind 33 = .ok (.invokestatic 29, 3) := by decide +kernel
theorem dX7_placeBehind_36 : decode cX7_placeBehind 36 = .ok (.ifCond .ne 11, 3) := by decide +kernel
theorem dX7_placeBehind_39 : decode cX7_placeBehind 39 = .ok (.sipush (-1000), 3) := by decide +kernel
theorem dX7_placeBehind_42 : decode cX7_placeBehind 42 = .ok (.iload_n 1, 1) := by decide +kernel
theorem dX7_placeBehind_43 : decode cX7_placeBehind 43 = .ok (.iload_n 3, 1) := by decide +kernel
theorem dX7_placeBehind_44 : decode cX7_placeBehind 44 = .ok (.iadd, 1) := by decide +kernel
theorem dX7_placeBehind_45 : decode cX7_placeBehind 45 = .ok (.isub, 1) := by decide +kernel
theorem dX7_placeBehind_46 : decode cX7_placeBehind 46 = .ok (.ireturn, 1) := by decide +kernel
theorem dX7_placeBehind_47 : decode cX7_placeBehind 47 = .ok (.iinc 3 1, 3) := by decide +kernel
theorem dX7_placeBehind_50 : decode cX7_placeBehind 50 = .ok (.goto (-29), 3) := by decide +kernel
theorem dX7_placeBehind_53 : decode cX7_placeBehind 53 = .ok (.iload_n 1, 1) := by decide +kernel
theorem dX7_placeBehind_54 : decode cX7_placeBehind 54 = .ok (.iload_n 2, 1) := by decide +kernel
theorem dX7_placeBehind_55 : decode cX7_placeBehind 55 = .ok (.iadd, 1) := by decide +kernel
theorem dX7_placeBehind_56 : decode cX7_placeBehind 56 = .ok (.iconst 1, 1) := by decide +kernel
theorem dX7_placeBehind_57 : decode cX7_placeBehind 57 = .ok (.iadd, 1) := by decide +kernel
theorem dX7_placeBehind_58 : decode cX7_placeBehind 58 = .ok (.istore_n 3, 1) := by decide +kernel
theorem dX7_placeBehind_59 : decode cX7_placeBehind 59 = .ok (.aload_n 0, 1) := by decide +kernel
theorem dX7_placeBehind_60 : decode cX7_placeBehind 60 = .ok (.iload_n 3, 1) := by decide +kernel
theorem dX7_placeBehind_61 : decode cX7_placeBehind 61 = .ok (.invokevirtual 23, 3) := by decide +kernel
theorem dX7_placeBehind_64 : decode cX7_placeBehind 64 = .ok (.bipush 59, 2) := by decide +kernel
theorem dX7_placeBehind_66 : decode cX7_placeBehind 66 = .ok (.if_icmp .ne 9, 3) := by decide +kernel
theorem dX7_placeBehind_69 : decode cX7_placeBehind 69 = .ok (.iload_n 3, 1) := by decide +kernel
theorem dX7_placeBehind_70 : decode cX7_placeBehind 70 = .ok (.iconst 1, 1) := by decide +kernel
theorem dX7_placeBehind_71 : decode cX7_placeBehind 71 = .ok (.iadd, 1) := by decide +kernel
theorem dX7_placeBehind_72 : decode cX7_placeBehind 72 = .ok (.goto 8, 3) := by decide +kernel
theorem dX7_placeBehind_75 : decode cX7_placeBehind 75 = .ok (.sipush (-1000), 3) := by decide +kernel
theorem dX7_placeBehind_78 : decode cX7_placeBehind 78 = .ok (.iload_n 3, 1) := by decide +kernel
theorem dX7_placeBehind_79 : decode cX7_placeBehind 79 = .ok (.isub, 1) := by decide +kernel
theorem dX7_placeBehind_80 : decode cX7_placeBehind 80 = .ok (.ireturn, 1) := by decide +kernel
theorem dX7_lengthAt_0 : decode cX7_lengthAt 0 = .ok (.aload_n 0, 1) := by decide +kernel
theorem dX7_lengthAt_1 : decode cX7_lengthAt 1 = .ok (.iload_n 1, 1) := by decide +kernel
theorem dX7_lengthAt_2 : decode cX7_lengthAt 2 = .ok (.invokevirtual 23, 3) := by decide +kernel
theorem dX7_lengthAt_5 : decode cX7_lengthAt 5 = .ok (.invokestatic 26, 3) := by decide +kernel
theorem dX7_lengthAt_8 : decode cX7_lengthAt 8 = .ok (.iconst 2, 1) := by decide +kernel
theorem dX7_lengthAt_9 : decode cX7_lengthAt 9 = .ok (.iadd, 1) := by decide +kernel
theorem dX7_lengthAt_10 : decode cX7_lengthAt 10 = .ok (.ireturn, 1) := by decide +kernel
theorem dX7_enact_0 : decode cX7_enact 0 = .ok (.aload_n 0, 1) := by decide +kernel
theorem dX7_enact_1 : decode cX7_enact 1 = .ok (.iload_n 1, 1) := by decide +kernel
theorem dX7_enact_2 : decode cX7_enact 2 = .ok (.invokevirtual 23, 3) := by decide +kernel
theorem dX7_enact_5 : decode cX7_enact 5 = .ok (.lookupswitch 177 #[(98, 117), (100, 156), (102, 59), (114, 130), (119, 88), (121, 143)], 59) := by decide +kernel
theorem dX7_enact_64 : decode cX7_enact 64 = .ok (.aload_n 2, 1) := by decide +kernel
theorem dX7_enact_65 : decode cX7_enact 65 = .ok (.aload_n 0, 1) := by decide +kernel
theorem dX7_enact_66 : decode cX7_enact 66 = .ok (.iload_n 1, 1) := by decide +kernel
theorem dX7_enact_67 : decode cX7_enact 67 = .ok (.iconst 1, 1) := by decide +kernel
theorem dX7_enact_68 : decode cX7_enact 68 = .ok (.iadd, 1) := by decide +kernel
theorem dX7_enact_69 : decode cX7_enact 69 = .ok (.iconst 2, 1) := by decide +kernel
theorem dX7_enact_70 : decode cX7_enact 70 = .ok (.invokevirtual 33, 3) := by decide +kernel
theorem dX7_enact_73 : decode cX7_enact 73 = .ok (.aload_n 0, 1) := by decide +kernel
theorem dX7_enact_74 : decode cX7_enact 74 = .ok (.iload_n 1, 1) := by decide +kernel
theorem dX7_enact_75 : decode cX7_enact 75 = .ok (.iconst 3, 1) := by decide +kernel
theorem dX7_enact_76 : decode cX7_enact 76 = .ok (.iadd, 1) := by decide +kernel
theorem dX7_enact_77 : decode cX7_enact 77 = .ok (.iconst 1, 1) := by decide +kernel
theorem dX7_enact_78 : decode cX7_enact 78 = .ok (.invokevirtual 33, 3) := by decide +kernel
theorem dX7_enact_81 : decode cX7_enact 81 = .ok (.aload_n 0, 1) := by decide +kernel
theorem dX7_enact_82 : decode cX7_enact 82 = .ok (.iload_n 1, 1) := by decide +kernel
theorem dX7_enact_83 : decode cX7_enact 83 = .ok (.iconst 4, 1) := by decide +kernel
theorem dX7_enact_84 : decode cX7_enact 84 = .ok (.iadd, 1) := by decide +kernel
theorem dX7_enact_85 : decode cX7_enact 85 = .ok (.iconst 1, 1) := by decide +kernel
theorem dX7_enact_86 : decode cX7_enact 86 = .ok (.invokevirtual 33, 3) := by decide +kernel
theorem dX7_enact_89 : decode cX7_enact 89 = .ok (.invokevirtual 37, 3) := by decide +kernel
theorem dX7_enact_92 : decode cX7_enact 92 = .ok (.ireturn, 1) := by decide +kernel
theorem dX7_enact_93 : decode cX7_enact 93 = .ok (.aload_n 2, 1) := by decide +kernel
theorem dX7_enact_94 : decode cX7_enact 94 = .ok (.aload_n 0, 1) := by decide +kernel
theorem dX7_enact_95 : decode cX7_enact 95 = .ok (.iload_n 1, 1) := by decide +kernel
theorem dX7_enact_96 : decode cX7_enact 96 = .ok (.iconst 1, 1) := by decide +kernel
theorem dX7_enact_97 : decode cX7_enact 97 = .ok (.iadd, 1) := by decide +kernel
theorem dX7_enact_98 : decode cX7_enact 98 = .ok (.iconst 1, 1) := by decide +kernel
theorem dX7_enact_99 : decode cX7_enact 99 = .ok (.invokevirtual 33, 3) := by decide +kernel
theorem dX7_enact_102 : decode cX7_enact 102 = .ok (.aload_n 0, 1) := by decide +kernel
theorem dX7_enact_103 : decode cX7_enact 103 = .ok (.iload_n 1, 1) := by decide +kernel
theorem dX7_enact_104 : decode cX7_enact 104 = .ok (.iconst 2, 1) := by decide +kernel
theorem dX7_enact_105 : decode cX7_enact 105 = .ok (.iadd, 1) := by decide +kernel
theorem dX7_enact_106 : decode cX7_enact 106 = .ok (.iconst 1, 1) := by decide +kernel
theorem dX7_enact_107 : decode cX7_enact 107 = .ok (.invokevirtual 33, 3) := by decide +kernel
theorem dX7_enact_110 : decode cX7_enact 110 = .ok (.aload_n 0, 1) := by decide +kernel
theorem dX7_enact_111 : decode cX7_enact 111 = .ok (.iload_n 1, 1) := by decide +kernel
theorem dX7_enact_112 : decode cX7_enact 112 = .ok (.iconst 3, 1) := by decide +kernel
theorem dX7_enact_113 : decode cX7_enact 113 = .ok (.iadd, 1) := by decide +kernel
theorem dX7_enact_114 : decode cX7_enact 114 = .ok (.iconst 3, 1) := by decide +kernel
theorem dX7_enact_115 : decode cX7_enact 115 = .ok (.invokevirtual 33, 3) := by decide +kernel
theorem dX7_enact_118 : decode cX7_enact 118 = .ok (.invokevirtual 43, 3) := by decide +kernel
theorem dX7_enact_121 : decode cX7_enact 121 = .ok (.ireturn, 1) := by decide +kernel
theorem dX7_enact_122 : decode cX7_enact 122 = .ok (.aload_n 2, 1) := by decide +kernel
theorem dX7_enact_123 : decode cX7_enact 123 = .ok (.aload_n 0, 1) := by decide +kernel
theorem dX7_enact_124 : decode cX7_enact 124 = .ok (.iload_n 1, 1) := by decide +kernel
theorem dX7_enact_125 : decode cX7_enact 125 = .ok (.iconst 1, 1) := by decide +kernel
theorem dX7_enact_126 : decode cX7_enact 126 = .ok (.iadd, 1) := by decide +kernel
theorem dX7_enact_127 : decode cX7_enact 127 = .ok (.iconst 1, 1) := by decide +kernel
theorem dX7_enact_128 : decode cX7_enact 128 = .ok (.invokevirtual 33, 3) := by decide +kernel
theorem dX7_enact_131 : decode cX7_enact 131 = .ok (.invokevirtual 46, 3) := by decide +kernel
theorem dX7_enact_134 : decode cX7_enact 134 = .ok (.ireturn, 1) := by decide +kernel
theorem dX7_enact_135 : decode cX7_enact 135 = .ok (.aload_n 2, 1) := by decide +kernel
theorem dX7_enact_136 : decode cX7_enact 136 = .ok (.aload_n 0, 1) := by decide +kernel
theorem dX7_enact_137 : decode cX7_enact 137 = .ok (.iload_n 1, 1) := by decide +kernel
theorem dX7_enact_138 : decode cX7_enact 138 = .ok (.iconst 1, 1) := by decide +kernel
theorem dX7_enact_139 : decode cX7_enact 139 = .ok (.iadd, 1) := by decide +kernel
theorem dX7_enact_140 : decode cX7_enact 140 = .ok (.iconst 2, 1) := by decide +kernel
theorem dX7_enact_141 : decode cX7_enact 141 = .ok (.invokevirtual 33, 3) := by decide +kernel
theorem dX7_enact_144 : decode cX7_enact 144 = .ok (.invokevirtual 49, 3) := by decide +kernel
theorem dX7_enact_147 : decode cX7_enact 147 = .ok (.ireturn, 1) := by decide +kernel
theorem dX7_enact_148 : decode cX7_enact 148 = .ok (.aload_n 2, 1) := by decide +kernel
theorem dX7_enact_149 : decode cX7_enact 149 = .ok (.aload_n 0, 1) := by decide +kernel
theorem dX7_enact_150 : decode cX7_enact 150 = .ok (.iload_n 1, 1) := by decide +kernel
theorem dX7_enact_151 : decode cX7_enact 151 = .ok (.iconst 1, 1) := by decide +kernel
theorem dX7_enact_152 : decode cX7_enact 152 = .ok (.iadd, 1) := by decide +kernel
theorem dX7_enact_153 : decode cX7_enact 153 = .ok (.iconst 2, 1) := by decide +kernel
theorem dX7_enact_154 : decode cX7_enact 154 = .ok (.invokevirtual 33, 3) := by decide +kernel
theorem dX7_enact_157 : decode cX7_enact 157 = .ok (.invokevirtual 52, 3) := by decide +kernel
theorem dX7_enact_160 : decode cX7_enact 160 = .ok (.ireturn, 1) := by decide +kernel
theorem dX7_enact_161 : decode cX7_enact 161 = .ok (.aload_n 2, 1) := by decide +kernel
theorem dX7_enact_162 : decode cX7_enact 162 = .ok (.aload_n 0, 1) := by decide +kernel
theorem dX7_enact_163 : decode cX7_enact 163 = .ok (.iload_n 1, 1) := by decide +kernel
theorem dX7_enact_164 : decode cX7_enact 164 = .ok (.iconst 1, 1) := by decide +kernel
theorem dX7_enact_165 : decode cX7_enact 165 = .ok (.iadd, 1) := by decide +kernel
theorem dX7_enact_166 : decode cX7_enact 166 = .ok (.iconst 1, 1) := by decide +kernel
theorem dX7_enact_167 : decode cX7_enact 167 = .ok (.invokevirtual 33, 3) := by decide +kernel
theorem dX7_enact_170 : decode cX7_enact 170 = .ok (.aload_n 0, 1) := by decide +kernel
theorem dX7_enact_171 : decode cX7_enact 171 = .ok (.iload_n 1, 1) := by decide +kernel
theorem dX7_enact_172 : decode cX7_enact 172 = .ok (.iconst 2, 1) := by decide +kernel
theorem dX7_enact_173 : decode cX7_enact 173 = .ok (.iadd, 1) := by decide +kernel
theorem dX7_enact_174 : decode cX7_enact 174 = .ok (.iconst 5, 1) := by decide +kernel
theorem dX7_enact_175 : decode cX7_enact 175 = .ok (.invokevirtual 33, 3) := by decide +kernel
theorem dX7_enact_178 : decode cX7_enact 178 = .ok (.invokevirtual 55, 3) := by decide +kernel
theorem dX7_enact_181 : decode cX7_enact 181 = .ok (.ireturn, 1) := by decide +kernel
theorem dX7_enact_182 : decode cX7_enact 182 = .ok (.bipush (-2), 2) := by decide +kernel
theorem dX7_enact_184 : decode cX7_enact 184 = .ok (.ireturn, 1) := by decide +kernel
theorem dX7_digitsBehind_0 : decode cX7_digitsBehind 0 = .ok (.iload_n 0, 1) := by decide +kernel
theorem dX7_digitsBehind_1 : decode cX7_digitsBehind 1 = .ok (.lookupswitch 72 #[(98, 63), (100, 69), (102, 59), (114, 65), (119, 61), (121, 67)], 59) := by decide +kernel
theorem dX7_digitsBehind_60 : decode cX7_digitsBehind 60 = .ok (.iconst 4, 1) := by decide +kernel
theorem dX7_digitsBehind_61 : decode cX7_digitsBehind 61 = .ok (.ireturn, 1) := by decide +kernel
theorem dX7_digitsBehind_62 : decode cX7_digitsBehind 62 = .ok (.iconst 5, 1) := by decide +kernel
theorem dX7_digitsBehind_63 : decode cX7_digitsBehind 63 = .ok (.ireturn, 1) := by decide +kernel
theorem dX7_digitsBehind_64 : decode cX7_digitsBehind 64 = .ok (.iconst 1, 1) := by decide +kernel
theorem dX7_digitsBehind_65 : decode cX7_digitsBehind 65 = .ok (.ireturn, 1) := by decide +kernel
theorem dX7_digitsBehind_66 : decode cX7_digitsBehind 66 = .ok (.iconst 2, 1) := by decide +kernel
theorem dX7_digitsBehind_67 : decode cX7_digitsBehind 67 = .ok (.ireturn, 1) := by decide +kernel
theorem dX7_digitsBehind_68 : decode cX7_digitsBehind 68 = .ok (.iconst 2, 1) := by decide +kernel
theorem dX7_digitsBehind_69 : decode cX7_digitsBehind 69 = .ok (.ireturn, 1) := by decide +kernel
theorem dX7_digitsBehind_70 : decode cX7_digitsBehind 70 = .ok (.bipush 6, 2) := by decide +kernel
theorem dX7_digitsBehind_72 : decode cX7_digitsBehind 72 = .ok (.ireturn, 1) := by decide +kernel
theorem dX7_digitsBehind_73 : decode cX7_digitsBehind 73 = .ok (.iconst 0, 1) := by decide +kernel
theorem dX7_digitsBehind_74 : decode cX7_digitsBehind 74 = .ok (.ireturn, 1) := by decide +kernel
theorem dX7_letterAt_0 : decode cX7_letterAt 0 = .ok (.iload_n 1, 1) := by decide +kernel
theorem dX7_letterAt_1 : decode cX7_letterAt 1 = .ok (.ifCond .lt 29, 3) := by decide +kernel
theorem dX7_letterAt_4 : decode cX7_letterAt 4 = .ok (.iload_n 1, 1) := by decide +kernel
theorem dX7_letterAt_5 : decode cX7_letterAt 5 = .ok (.aload_n 0, 1) := by decide +kernel
theorem dX7_letterAt_6 : decode cX7_letterAt 6 = .ok (.getfield 15, 3) := by decide +kernel
theorem dX7_letterAt_9 : decode cX7_letterAt 9 = .ok (.if_icmp .ge 21, 3) := by decide +kernel
theorem dX7_letterAt_12 : decode cX7_letterAt 12 = .ok (.iload_n 1, 1) := by decide +kernel
theorem dX7_letterAt_13 : decode cX7_letterAt 13 = .ok (.aload_n 0, 1) := by decide +kernel
theorem dX7_letterAt_14 : decode cX7_letterAt 14 = .ok (.getfield 9, 3) := by decide +kernel
theorem dX7_letterAt_17 : decode cX7_letterAt 17 = .ok (.arraylength, 1) := by decide +kernel
theorem dX7_letterAt_18 : decode cX7_letterAt 18 = .ok (.if_icmp .ge 12, 3) := by decide +kernel
theorem dX7_letterAt_21 : decode cX7_letterAt 21 = .ok (.aload_n 0, 1) := by decide +kernel
theorem dX7_letterAt_22 : decode cX7_letterAt 22 = .ok (.getfield 9, 3) := by decide +kernel
theorem dX7_letterAt_25 : decode cX7_letterAt 25 = .ok (.iload_n 1, 1) := by decide +kernel
theorem dX7_letterAt_26 : decode cX7_letterAt 26 = .ok (.iaload, 1) := by decide +kernel
theorem dX7_letterAt_27 : decode cX7_letterAt 27 = .ok (.goto 4, 3) := by decide +kernel
theorem dX7_letterAt_30 : decode cX7_letterAt 30 = .ok (.iconst (-1), 1) := by decide +kernel
theorem dX7_letterAt_31 : decode cX7_letterAt 31 = .ok (.ireturn, 1) := by decide +kernel
theorem dX7_isDigit_0 : decode cX7_isDigit 0 = .ok (.iload_n 0, 1) := by decide +kernel
theorem dX7_isDigit_1 : decode cX7_isDigit 1 = .ok (.bipush 48, 2) := by decide +kernel
theorem dX7_isDigit_3 : decode cX7_isDigit 3 = .ok (.if_icmp .lt 13, 3) := by decide +kernel
theorem dX7_isDigit_6 : decode cX7_isDigit 6 = .ok (.iload_n 0, 1) := by decide +kernel
theorem dX7_isDigit_7 : decode cX7_isDigit 7 = .ok (.bipush 57, 2) := by decide +kernel
theorem dX7_isDigit_9 : decode cX7_isDigit 9 = .ok (.if_icmp .gt 7, 3) := by decide +kernel
theorem dX7_isDigit_12 : decode cX7_isDigit 12 = .ok (.iconst 1, 1) := by decide +kernel
theorem dX7_isDigit_13 : decode cX7_isDigit 13 = .ok (.goto 4, 3) := by decide +kernel
theorem dX7_isDigit_16 : decode cX7_isDigit 16 = .ok (.iconst 0, 1) := by decide +kernel
theorem dX7_isDigit_17 : decode cX7_isDigit 17 = .ok (.ireturn, 1) := by decide +kernel
theorem dX7_number_0 : decode cX7_number 0 = .ok (.iconst 0, 1) := by decide +kernel
theorem dX7_number_1 : decode cX7_number 1 = .ok (.istore_n 3, 1) := by decide +kernel
theorem dX7_number_2 : decode cX7_number 2 = .ok (.iconst 0, 1) := by decide +kernel
theorem dX7_number_3 : decode cX7_number 3 = .ok (.istore 4, 2) := by decide +kernel
theorem dX7_number_5 : decode cX7_number 5 = .ok (.iload 4, 2) := by decide +kernel
theorem dX7_number_7 : decode cX7_number 7 = .ok (.iload_n 2, 1) := by decide +kernel
theorem dX7_number_8 : decode cX7_number 8 = .ok (.if_icmp .ge 26, 3) := by decide +kernel
theorem dX7_number_11 : decode cX7_number 11 = .ok (.bipush 10, 2) := by decide +kernel
theorem dX7_number_13 : decode cX7_number 13 = .ok (.iload_n 3, 1) := by decide +kernel
theorem dX7_number_14 : decode cX7_number 14 = .ok (.imul, 1) := by decide +kernel
theorem dX7_number_15 : decode cX7_number 15 = .ok (.aload_n 0, 1) := by decide +kernel
theorem dX7_number_16 : decode cX7_number 16 = .ok (.iload_n 1, 1) := by decide +kernel
theorem dX7_number_17 : decode cX7_number 17 = .ok (.iload 4, 2) := by decide +kernel
theorem dX7_number_19 : decode cX7_number 19 = .ok (.iadd, 1) := by decide +kernel
theorem dX7_number_20 : decode cX7_number 20 = .ok (.invokevirtual 23, 3) := by decide +kernel
theorem dX7_number_23 : decode cX7_number 23 = .ok (.iadd, 1) := by decide +kernel
theorem dX7_number_24 : decode cX7_number 24 = .ok (.bipush 48, 2) := by decide +kernel
theorem dX7_number_26 : decode cX7_number 26 = .ok (.isub, 1) := by decide +kernel
theorem dX7_number_27 : decode cX7_number 27 = .ok (.istore_n 3, 1) := by decide +kernel
theorem dX7_number_28 : decode cX7_number 28 = .ok (.iinc 4 1, 3) := by decide +kernel
theorem dX7_number_31 : decode cX7_number 31 = .ok (.goto (-26), 3) := by decide +kernel
theorem dX7_number_34 : decode cX7_number 34 = .ok (.iload_n 3, 1) := by decide +kernel
theorem dX7_number_35 : decode cX7_number 35 = .ok (.ireturn, 1) := by decide +kernel
theorem dX8_init_0 : decode cX8_init 0 = .ok (.aload_n 0, 1) := by decide +kernel
theorem dX8_init_1 : decode cX8_init 1 = .ok (.iload_n 1, 1) := by decide +kernel
theorem dX8_init_2 : decode cX8_init 2 = .ok (.iload_n 2, 1) := by decide +kernel
theorem dX8_init_3 : decode cX8_init 3 = .ok (.invokespecial 1, 3) := by decide +kernel
theorem dX8_init_6 : decode cX8_init 6 = .ok (.return_, 1) := by decide +kernel
theorem dX8_kind_0 : decode cX8_kind 0 = .ok (.iconst 2, 1) := by decide +kernel
theorem dX8_kind_1 : decode cX8_kind 1 = .ok (.ireturn, 1) := by decide +kernel
theorem dX8_due_0 : decode cX8_due 0 = .ok (.iconst 2, 1) := by decide +kernel
theorem dX8_due_1 : decode cX8_due 1 = .ok (.aload_n 0, 1) := by decide +kernel
theorem dX8_due_2 : decode cX8_due 2 = .ok (.invokespecial 7, 3) := by decide +kernel
theorem dX8_due_5 : decode cX8_due 5 = .ok (.imul, 1) := by decide +kernel
theorem dX8_due_6 : decode cX8_due 6 = .ok (.ireturn, 1) := by decide +kernel
theorem dX8_payer_0 : decode cX8_payer 0 = .ok (.aload_n 1, 1) := by decide +kernel
theorem dX8_payer_1 : decode cX8_payer 1 = .ok (.invokevirtual 11, 3) := by decide +kernel
theorem dX8_payer_4 : decode cX8_payer 4 = .ok (.ireturn, 1) := by decide +kernel
theorem dX8_shareOut_0 : decode cX8_shareOut 0 = .ok (.aload_n 1, 1) := by decide +kernel
theorem dX8_shareOut_1 : decode cX8_shareOut 1 = .ok (.aload_n 0, 1) := by decide +kernel
theorem dX8_shareOut_2 : decode cX8_shareOut 2 = .ok (.invokevirtual 16, 3) := by decide +kernel
theorem dX8_shareOut_5 : decode cX8_shareOut 5 = .ok (.aload_n 0, 1) := by decide +kernel
theorem dX8_shareOut_6 : decode cX8_shareOut 6 = .ok (.aload_n 1, 1) := by decide +kernel
theorem dX8_shareOut_7 : decode cX8_shareOut 7 = .ok (.invokevirtual 19, 3) := by decide +kernel
theorem dX8_shareOut_10 : decode cX8_shareOut 10 = .ok (.invokevirtual 23, 3) := by decide +kernel
theorem dX8_shareOut_13 : decode cX8_shareOut 13 = .ok (.return_, 1) := by decide +kernel
theorem dX9_init_0 : decode cX9_init 0 = .ok (.aload_n 0, 1) := by decide +kernel
theorem dX9_init_1 : decode cX9_init 1 = .ok (.invokespecial 1, 3) := by decide +kernel
theorem dX9_init_4 : decode cX9_init 4 = .ok (.aload_n 0, 1) := by decide +kernel
theorem dX9_init_5 : decode cX9_init 5 = .ok (.iload_n 1, 1) := by decide +kernel
theorem dX9_init_6 : decode cX9_init 6 = .ok (.putfield 7, 3) := by decide +kernel
theorem dX9_init_9 : decode cX9_init 9 = .ok (.aload_n 0, 1) := by decide +kernel
theorem dX9_init_10 : decode cX9_init 10 = .ok (.iload_n 2, 1) := by decide +kernel
theorem dX9_init_11 : decode cX9_init 11 = .ok (.putfield 13, 3) := by decide +kernel
theorem dX9_init_14 : decode cX9_init 14 = .ok (.return_, 1) := by decide +kernel
theorem dX9_kind_0 : decode cX9_kind 0 = .ok (.iconst 0, 1) := by decide +kernel
theorem dX9_kind_1 : decode cX9_kind 1 = .ok (.ireturn, 1) := by decide +kernel
theorem dX9_due_0 : decode cX9_due 0 = .ok (.aload_n 0, 1) := by decide +kernel
theorem dX9_due_1 : decode cX9_due 1 = .ok (.getfield 13, 3) := by decide +kernel
theorem dX9_due_4 : decode cX9_due 4 = .ok (.ireturn, 1) := by decide +kernel
theorem dX9_shareOut_0 : decode cX9_shareOut 0 = .ok (.aload_n 1, 1) := by decide +kernel
theorem dX9_shareOut_1 : decode cX9_shareOut 1 = .ok (.aload_n 0, 1) := by decide +kernel
theorem dX9_shareOut_2 : decode cX9_shareOut 2 = .ok (.invokevirtual 16, 3) := by decide +kernel
theorem dX9_shareOut_5 : decode cX9_shareOut 5 = .ok (.invokevirtual 20, 3) := by decide +kernel
theorem dX9_shareOut_8 : decode cX9_shareOut 8 = .ok (.return_, 1) := by decide +kernel
theorem dX10_init_0 : decode cX10_init 0 = .ok (.aload_n 0, 1) := by decide +kernel
theorem dX10_init_1 : decode cX10_init 1 = .ok (.invokespecial 1, 3) := by decide +kernel
theorem dX10_init_4 : decode cX10_init 4 = .ok (.aload_n 0, 1) := by decide +kernel
theorem dX10_init_5 : decode cX10_init 5 = .ok (.new 7, 3) := by decide +kernel
theorem dX10_init_8 : decode cX10_init 8 = .ok (.dup, 1) := by decide +kernel
theorem dX10_init_9 : decode cX10_init 9 = .ok (.invokespecial 9, 3) := by decide +kernel
theorem dX10_init_12 : decode cX10_init 12 = .ok (.putfield 10, 3) := by decide +kernel
theorem dX10_init_15 : decode cX10_init 15 = .ok (.aload_n 0, 1) := by decide +kernel
theorem dX10_init_16 : decode cX10_init 16 = .ok (.new 7, 3) := by decide +kernel
theorem dX10_init_19 : decode cX10_init 19 = .ok (.dup, 1) := by decide +kernel
theorem dX10_init_20 : decode cX10_init 20 = .ok (.invokespecial 9, 3) := by decide +kernel
theorem dX10_init_23 : decode cX10_init 23 = .ok (.putfield 16, 3) := by decide +kernel
theorem dX10_init_26 : decode cX10_init 26 = .ok (.aload_n 0, 1) := by decide +kernel
theorem dX10_init_27 : decode cX10_init 27 = .ok (.new 7, 3) := by decide +kernel
theorem dX10_init_30 : decode cX10_init 30 = .ok (.dup, 1) := by decide +kernel
theorem dX10_init_31 : decode cX10_init 31 = .ok (.invokespecial 9, 3) := by decide +kernel
theorem dX10_init_34 : decode cX10_init 34 = .ok (.putfield 19, 3) := by decide +kernel
theorem dX10_init_37 : decode cX10_init 37 = .ok (.aload_n 0, 1) := by decide +kernel
theorem dX10_init_38 : decode cX10_init 38 = .ok (.new 22, 3) := by decide +kernel
theorem dX10_init_41 : decode cX10_init 41 = .ok (.dup, 1) := by decide +kernel
theorem dX10_init_42 : decode cX10_init 42 = .ok (.invokespecial 24, 3) := by decide +kernel
theorem dX10_init_45 : decode cX10_init 45 = .ok (.putfield 25, 3) := by decide +kernel
theorem dX10_init_48 : decode cX10_init 48 = .ok (.aload_n 0, 1) := by decide +kernel
theorem dX10_init_49 : decode cX10_init 49 = .ok (.new 29, 3) := by decide +kernel
theorem dX10_init_52 : decode cX10_init 52 = .ok (.dup, 1) := by decide +kernel
theorem dX10_init_53 : decode cX10_init 53 = .ok (.invokespecial 31, 3) := by decide +kernel
theorem dX10_init_56 : decode cX10_init 56 = .ok (.putfield 32, 3) := by decide +kernel
theorem dX10_init_59 : decode cX10_init 59 = .ok (.aload_n 0, 1) := by decide +kernel
theorem dX10_init_60 : decode cX10_init 60 = .ok (.bipush 12, 2) := by decide +kernel
theorem dX10_init_62 : decode cX10_init 62 = .ok (.newarray .int, 2) := by decide +kernel
theorem dX10_init_64 : decode cX10_init 64 = .ok (.putfield 36, 3) := by decide +kernel
theorem dX10_init_67 : decode cX10_init 67 = .ok (.aload_n 0, 1) := by decide +kernel
theorem dX10_init_68 : decode cX10_init 68 = .ok (.bipush 7, 2) := by decide +kernel
theorem dX10_init_70 : decode cX10_init 70 = .ok (.newarray .int, 2) := by decide +kernel
theorem dX10_init_72 : decode cX10_init 72 = .ok (.putfield 40, 3) := by decide +kernel
theorem dX10_init_75 : decode cX10_init 75 = .ok (.aload_n 0, 1) := by decide +kernel
theorem dX10_init_76 : decode cX10_init 76 = .ok (.new 43, 3) := by decide +kernel
theorem dX10_init_79 : decode cX10_init 79 = .ok (.dup, 1) := by decide +kernel
theorem dX10_init_80 : decode cX10_init 80 = .ok (.invokespecial 45, 3) := by decide +kernel
theorem dX10_init_83 : decode cX10_init 83 = .ok (.putfield 46, 3) := by decide +kernel
theorem dX10_init_86 : decode cX10_init 86 = .ok (.aload_n 0, 1) := by decide +kernel
theorem dX10_init_87 : decode cX10_init 87 = .ok (.new 43, 3) := by decide +kernel
theorem dX10_init_90 : decode cX10_init 90 = .ok (.dup, 1) := by decide +kernel
theorem dX10_init_91 : decode cX10_init 91 = .ok (.invokespecial 45, 3) := by decide +kernel
theorem dX10_init_94 : decode cX10_init 94 = .ok (.putfield 50, 3) := by decide +kernel
theorem dX10_init_97 : decode cX10_init 97 = .ok (.aload_n 0, 1) := by decide +kernel
theorem dX10_init_98 : decode cX10_init 98 = .ok (.iconst 5, 1) := by decide +kernel
theorem dX10_init_99 : decode cX10_init 99 = .ok (.newarray .int, 2) := by decide +kernel
theorem dX10_init_101 : decode cX10_init 101 = .ok (.putfield 53, 3) := by decide +kernel
theorem dX10_init_104 : decode cX10_init 104 = .ok (.aload_n 0, 1) := by decide +kernel
theorem dX10_init_105 : decode cX10_init 105 = .ok (.iconst 5, 1) := by decide +kernel
theorem dX10_init_106 : decode cX10_init 106 = .ok (.newarray .int, 2) := by decide +kernel
theorem dX10_init_108 : decode cX10_init 108 = .ok (.putfield 56, 3) := by decide +kernel
theorem dX10_init_111 : decode cX10_init 111 = .ok (.return_, 1) := by decide +kernel
theorem dX10_feed_0 : decode cX10_feed 0 = .ok (.iload_n 1, 1) := by decide +kernel
theorem dX10_feed_1 : decode cX10_feed 1 = .ok (.iconst 0, 1) := by decide +kernel
theorem dX10_feed_2 : decode cX10_feed 2 = .ok (.sipush 255, 3) := by decide +kernel
theorem dX10_feed_5 : decode cX10_feed 5 = .ok (.invokestatic 59, 3) := by decide +kernel
theorem dX10_feed_8 : decode cX10_feed 8 = .ok (.istore_n 2, 1) := by decide +kernel
theorem dX10_feed_9 : decode cX10_feed 9 = .ok (.iload_n 2, 1) := by decide +kernel
theorem dX10_feed_10 : decode cX10_feed 10 = .ok (.ifCond .ne 16, 3) := by decide +kernel
theorem dX10_feed_13 : decode cX10_feed 13 = .ok (.aload_n 0, 1) := by decide +kernel
theorem dX10_feed_14 : decode cX10_feed 14 = .ok (.getfield 32, 3) := by decide +kernel
theorem dX10_feed_17 : decode cX10_feed 17 = .ok (.invokevirtual 63, 3) := by decide +kernel
theorem dX10_feed_20 : decode cX10_feed 20 = .ok (.ifCond .eq 6, 3) := by decide +kernel
theorem dX10_feed_23 : decode cX10_feed 23 = .ok (.bipush (-6), 2) := by decide +kernel
theorem dX10_feed_25 : decode cX10_feed 25 = .ok (.istore_n 2, 1) := by decide +kernel
theorem dX10_feed_26 : decode cX10_feed 26 = .ok (.iload_n 2, 1) := by decide +kernel
theorem dX10_feed_27 : decode cX10_feed 27 = .ok (.ifCond .eq 11, 3) := by decide +kernel
theorem dX10_feed_30 : decode cX10_feed 30 = .ok (.aload_n 0, 1) := by decide +kernel
theorem dX10_feed_31 : decode cX10_feed 31 = .ok (.iload_n 2, 1) := by decide +kernel
theorem dX10_feed_32 : decode cX10_feed 32 = .ok (.invokevirtual 67, 3) := by decide +kernel
theorem dX10_feed_35 : decode cX10_feed 35 = .ok (.goto 11, 3) := by decide +kernel
theorem dX10_feed_38 : decode cX10_feed 38 = .ok (.aload_n 0, 1) := by decide +kernel
theorem dX10_feed_39 : decode cX10_feed 39 = .ok (.getfield 32, 3) := by decide +kernel
theorem dX10_feed_42 : decode cX10_feed 42 = .ok (.iload_n 1, 1) := by decide +kernel
theorem dX10_feed_43 : decode cX10_feed 43 = .ok (.invokevirtual 71, 3) := by decide +kernel
theorem dX10_feed_46 : decode cX10_feed 46 = .ok (.ireturn, 1) := by decide +kernel
theorem dX10_treasury_0 : decode cX10_treasury 0 = .ok (.aload_n 0, 1) := by decide +kernel
theorem dX10_treasury_1 : decode cX10_treasury 1 = .ok (.getfield 16, 3) := by decide +kernel
theorem dX10_treasury_4 : decode cX10_treasury 4 = .ok (.aload_n 0, 1) := by decide +kernel
theorem dX10_treasury_5 : decode cX10_treasury 5 = .ok (.getfield 10, 3) := by decide +kernel
theorem dX10_treasury_8 : decode cX10_treasury 8 = .ok (.invokevirtual 74, 3) := by decide +kernel
theorem dX10_treasury_11 : decode cX10_treasury 11 = .ok (.aload_n 0, 1) := by decide +kernel
theorem dX10_treasury_12 : decode cX10_treasury 12 = .ok (.getfield 32, 3) := by decide +kernel
theorem dX10_treasury_15 : decode cX10_treasury 15 = .ok (.invokevirtual 78, 3) := by decide +kernel
theorem dX10_treasury_18 : decode cX10_treasury 18 = .ok (.istore_n 1, 1) := by decide +kernel
theorem dX10_treasury_19 : decode cX10_treasury 19 = .ok (.iconst 0, 1) := by decide +kernel
theorem dX10_treasury_20 : decode cX10_treasury 20 = .ok (.istore_n 2, 1) := by decide +kernel
theorem dX10_treasury_21 : decode cX10_treasury 21 = .ok (.iload_n 1, 1) := by decide +kernel
theorem dX10_treasury_22 : decode cX10_treasury 22 = .ok (.ifCond .lt 65, 3) := by decide +kernel
theorem dX10_treasury_25 : decode cX10_treasury 25 = .ok (.iload_n 2, 1) := by decide +kernel
theorem dX10_treasury_26 : decode cX10_treasury 26 = .ok (.aload_n 0, 1) := by decide +kernel
theorem dX10_treasury_27 : decode cX10_treasury 27 = .ok (.getfield 32, 3) := by decide +kernel
theorem dX10_treasury_30 : decode cX10_treasury 30 = .ok (.getfield 82, 3) := by decide +kernel
theorem dX10_treasury_33 : decode cX10_treasury 33 = .ok (.if_icmp .ge 54, 3) := by decide +kernel
theorem dX10_treasury_36 : decode cX10_treasury 36 = .ok (.aload_n 0, 1) := by decide +kernel
theorem dX10_treasury_37 : decode cX10_treasury 37 = .ok (.getfield 32, 3) := by decide +kernel
theorem dX10_treasury_40 : decode cX10_treasury 40 = .ok (.iload_n 2, 1) := by decide +kernel
theorem dX10_treasury_41 : decode cX10_treasury 41 = .ok (.aload_n 0, 1) := by decide +kernel
theorem dX10_treasury_42 : decode cX10_treasury 42 = .ok (.getfield 16, 3) := by decide +kernel
theorem dX10_treasury_45 : decode cX10_treasury 45 = .ok (.invokevirtual 86, 3) := by decide +kernel
theorem dX10_treasury_48 : decode cX10_treasury 48 = .ok (.ifCond .lt 7, 3) := by decide +kernel
theorem dX10_treasury_51 : decode cX10_treasury 51 = .ok (.iconst 1, 1) := by decide +kernel
theorem dX10_treasury_52 : decode cX10_treasury 52 = .ok (.goto 4, 3) := by decide +kernel
theorem dX10_treasury_55 : decode cX10_treasury 55 = .ok (.iconst 0, 1) := by decide +kernel
theorem dX10_treasury_56 : decode cX10_treasury 56 = .ok (.istore_n 3, 1) := by decide +kernel
theorem dX10_treasury_57 : decode cX10_treasury 57 = .ok (.iload_n 3, 1) := by decide +kernel
theorem dX10_treasury_58 : decode cX10_treasury 58 = .ok (.ifCond .eq 9, 3) := by decide +kernel
theorem dX10_treasury_61 : decode cX10_treasury 61 = .ok (.iload_n 1, 1) := by decide +kernel
theorem dX10_treasury_62 : decode cX10_treasury 62 = .ok (.iconst 1, 1) := by decide +kernel
theorem dX10_treasury_63 : decode cX10_treasury 63 = .ok (.iadd, 1) := by decide +kernel
theorem dX10_treasury_64 : decode cX10_treasury 64 = .ok (.goto 8, 3) := by decide +kernel
theorem dX10_treasury_67 : decode cX10_treasury 67 = .ok (.sipush (-2000), 3) := by decide +kernel
theorem dX10_treasury_70 : decode cX10_treasury 70 = .ok (.iload_n 2, 1) := by decide +kernel
theorem dX10_treasury_71 : decode cX10_treasury 71 = .ok (.isub, 1) := by decide +kernel
theorem dX10_treasury_72 : decode cX10_treasury 72 = .ok (.istore_n 1, 1) := by decide +kernel
theorem dX10_treasury_73 : decode cX10_treasury 73 = .ok (.iload_n 2, 1) := by decide +kernel
theorem dX10_treasury_74 : decode cX10_treasury 74 = .ok (.aload_n 0, 1) := by decide +kernel
theorem dX10_treasury_75 : decode cX10_treasury 75 = .ok (.getfield 32, 3) := by decide +kernel
theorem dX10_treasury_78 : decode cX10_treasury 78 = .ok (.iload_n 2, 1) := by decide +kernel
theorem dX10_treasury_79 : decode cX10_treasury 79 = .ok (.invokevirtual 90, 3) := by decide +kernel
theorem dX10_treasury_82 : decode cX10_treasury 82 = .ok (.iadd, 1) := by decide +kernel
theorem dX10_treasury_83 : decode cX10_treasury 83 = .ok (.istore_n 2, 1) := by decide +kernel
theorem dX10_treasury_84 : decode cX10_treasury 84 = .ok (.goto (-63), 3) := by decide +kernel
theorem dX10_treasury_87 : decode cX10_treasury 87 = .ok (.aload_n 0, 1) := by decide +kernel
theorem dX10_treasury_88 : decode cX10_treasury 88 = .ok (.getfield 32, 3) := by decide +kernel
theorem dX10_treasury_91 : decode cX10_treasury 91 = .ok (.invokevirtual 93, 3) := by decide +kernel
theorem dX10_treasury_94 : decode cX10_treasury 94 = .ok (.iload_n 1, 1) := by decide +kernel
theorem dX10_treasury_95 : decode cX10_treasury 95 = .ok (.ifCond .le 21, 3) := by decide +kernel
theorem dX10_treasury_98 : decode cX10_treasury 98 = .ok (.aload_n 0, 1) := by decide +kernel
theorem dX10_treasury_99 : decode cX10_treasury 99 = .ok (.getfield 10, 3) := by decide +kernel
theorem dX10_treasury_102 : decode cX10_treasury 102 = .ok (.aload_n 0, 1) := by decide +kernel
theorem dX10_treasury_103 : decode cX10_treasury 103 = .ok (.getfield 16, 3) := by decide +kernel
theorem dX10_treasury_106 : decode cX10_treasury 106 = .ok (.invokevirtual 74, 3) := by decide +kernel
theorem dX10_treasury_109 : decode cX10_treasury 109 = .ok (.aload_n 0, 1) := by decide +kernel
theorem dX10_treasury_110 : decode cX10_treasury 110 = .ok (.getfield 25, 3) := by decide +kernel
theorem dX10_treasury_113 : decode cX10_treasury 113 = .ok (.invokevirtual 96, 3) := by decide +kernel
theorem dX10_treasury_116 : decode cX10_treasury 116 = .ok (.iload_n 1, 1) := by decide +kernel
theorem dX10_treasury_117 : decode cX10_treasury 117 = .ok (.ireturn, 1) := by decide +kernel
theorem dX10_familyOf_0 : decode cX10_familyOf 0 = .ok (.aload_n 0, 1) := by decide +kernel
theorem dX10_familyOf_1 : decode cX10_familyOf 1 = .ok (.getfield 10, 3) := by decide +kernel
theorem dX10_familyOf_4 : decode cX10_familyOf 4 = .ok (.iload_n 1, 1) := by decide +kernel
theorem dX10_familyOf_5 : decode cX10_familyOf 5 = .ok (.invokevirtual 99, 3) := by decide +kernel
theorem dX10_familyOf_8 : decode cX10_familyOf 8 = .ok (.istore_n 3, 1) := by decide +kernel
theorem dX10_familyOf_9 : decode cX10_familyOf 9 = .ok (.iload_n 3, 1) := by decide +kernel
theorem dX10_familyOf_10 : decode cX10_familyOf 10 = .ok (.ifCond .ne 9, 3) := by decide +kernel
theorem dX10_familyOf_13 : decode cX10_familyOf 13 = .ok (.iload_n 2, 1) := by decide +kernel
theorem dX10_familyOf_14 : decode cX10_familyOf 14 = .ok (.iconst 4, 1) := by decide +kernel
theorem dX10_familyOf_15 : decode cX10_familyOf 15 = .ok (.invokestatic 102, 3) := by decide +kernel
theorem dX10_familyOf_18 : decode cX10_familyOf 18 = .ok (.istore_n 3, 1) := by decide +kernel
theorem dX10_familyOf_19 : decode cX10_familyOf 19 = .ok (.iload_n 3, 1) := by decide +kernel
theorem dX10_familyOf_20 : decode cX10_familyOf 20 = .ok (.ifCond .eq 9, 3) := by decide +kernel
theorem dX10_familyOf_23 : decode cX10_familyOf 23 = .ok (.aload_n 0, 1) := by decide +kernel
theorem dX10_familyOf_24 : decode cX10_familyOf 24 = .ok (.iload_n 3, 1) := by decide +kernel
theorem dX10_familyOf_25 : decode cX10_familyOf 25 = .ok (.invokevirtual 67, 3) := by decide +kernel
theorem dX10_familyOf_28 : decode cX10_familyOf 28 = .ok (.ireturn, 1) := by decide +kernel
theorem dX10_familyOf_29 : decode cX10_familyOf 29 = .ok (.aload_n 0, 1) := by decide +kernel
theorem dX10_familyOf_30 : decode cX10_familyOf 30 = .ok (.getfield 10, 3) := by decide +kernel
theorem dX10_familyOf_33 : decode cX10_familyOf 33 = .ok (.iload_n 1, 1) := by decide +kernel
theorem dX10_familyOf_34 : decode cX10_familyOf 34 = .ok (.invokevirtual 106, 3) := by decide +kernel
theorem dX10_familyOf_37 : decode cX10_familyOf 37 = .ok (.astore 4, 2) := by decide +kernel
theorem dX10_familyOf_39 : decode cX10_familyOf 39 = .ok (.iload_n 2, 1) := by decide +kernel
theorem dX10_familyOf_40 : decode cX10_familyOf 40 = .ok (.tableswitch 56 0 3 #[32, 38, 44, 50], 32) := by decide +kernel
theorem dX10_familyOf_72 : decode cX10_familyOf 72 = .ok (.aload 4, 2) := by decide +kernel
theorem dX10_familyOf_74 : decode cX10_familyOf 74 = .ok (.getfield 110, 3) := by decide +kernel
theorem dX10_familyOf_77 : decode cX10_familyOf 77 = .ok (.ireturn, 1) := by decide +kernel
theorem dX10_familyOf_78 : decode cX10_familyOf 78 = .ok (.aload 4, 2) := by decide +kernel
theorem dX10_familyOf_80 : decode cX10_familyOf 80 = .ok (.getfield 113, 3) := by decide +kernel
theorem dX10_familyOf_83 : decode cX10_familyOf 83 = .ok (.ireturn, 1) := by decide +kernel
theorem dX10_familyOf_84 : decode cX10_familyOf 84 = .ok (.aload 4, 2) := by decide +kernel
theorem dX10_familyOf_86 : decode cX10_familyOf 86 = .ok (.getfield 116, 3) := by decide +kernel
theorem dX10_familyOf_89 : decode cX10_familyOf 89 = .ok (.ireturn, 1) := by decide +kernel
theorem dX10_familyOf_90 : decode cX10_familyOf 90 = .ok (.aload 4, 2) := by decide +kernel
theorem dX10_familyOf_92 : decode cX10_familyOf 92 = .ok (.getfield 119, 3) := by decide +kernel
theorem dX10_familyOf_95 : decode cX10_familyOf 95 = .ok (.ireturn, 1) := by decide +kernel
theorem dX10_familyOf_96 : decode cX10_familyOf 96 = .ok (.aload 4, 2) := by decide +kernel
theorem dX10_familyOf_98 : decode cX10_familyOf 98 = .ok (.invokevirtual 122, 3) := by decide +kernel
theorem dX10_familyOf_101 : decode cX10_familyOf 101 = .ok (.ireturn, 1) := by decide +kernel
theorem dX10_workOf_0 : decode cX10_workOf 0 = .ok (.aload_n 0, 1) := by decide +kernel
theorem dX10_workOf_1 : decode cX10_workOf 1 = .ok (.getfield 10, 3) := by decide +kernel
theorem dX10_workOf_4 : decode cX10_workOf 4 = .ok (.iload_n 1, 1) := by decide +kernel
theorem dX10_workOf_5 : decode cX10_workOf 5 = .ok (.invokevirtual 125, 3) := by decide +kernel
theorem dX10_workOf_8 : decode cX10_workOf 8 = .ok (.astore_n 3, 1) := by decide +kernel
theorem dX10_workOf_9 : decode cX10_workOf 9 = .ok (.aload_n 3, 1) := by decide +kernel
theorem dX10_workOf_10 : decode cX10_workOf 10 = .ok (.ifnonnull 9, 3) := by decide +kernel
theorem dX10_workOf_13 : decode cX10_workOf 13 = .ok (.aload_n 0, 1) := by decide +kernel
theorem dX10_workOf_14 : decode cX10_workOf 14 = .ok (.iconst (-1), 1) := by decide +kernel
theorem dX10_workOf_15 : decode cX10_workOf 15 = .ok (.invokevirtual 67, 3) := by decide +kernel
theorem dX10_workOf_18 : decode cX10_workOf 18 = .ok (.ireturn, 1) := by decide +kernel
theorem dX10_workOf_19 : decode cX10_workOf 19 = .ok (.iload_n 2, 1) := by decide +kernel
theorem dX10_workOf_20 : decode cX10_workOf 20 = .ok (.iconst 4, 1) := by decide +kernel
theorem dX10_workOf_21 : decode cX10_workOf 21 = .ok (.invokestatic 102, 3) := by decide +kernel
theorem dX10_workOf_24 : decode cX10_workOf 24 = .ok (.ifCond .eq 10, 3) := by decide +kernel
theorem dX10_workOf_27 : decode cX10_workOf 27 = .ok (.aload_n 0, 1) := by decide +kernel
theorem dX10_workOf_28 : decode cX10_workOf 28 = .ok (.bipush (-2), 2) := by decide +kernel
theorem dX10_workOf_30 : decode cX10_workOf 30 = .ok (.invokevirtual 67, 3) := by decide +kernel
theorem dX10_workOf_33 : decode cX10_workOf 33 = .ok (.ireturn, 1) := by decide +kernel
theorem dX10_workOf_34 : decode cX10_workOf 34 = .ok (.iload_n 2, 1) := by decide +kernel
theorem dX10_workOf_35 : decode cX10_workOf 35 = .ok (.tableswitch 49 0 3 #[29, 34, 39, 44], 29) := by decide +kernel
theorem dX10_workOf_64 : decode cX10_workOf 64 = .ok (.aload_n 3, 1) := by decide +kernel
theorem dX10_workOf_65 : decode cX10_workOf 65 = .ok (.invokevirtual 129, 3) := by decide +kernel
theorem dX10_workOf_68 : decode cX10_workOf 68 = .ok (.ireturn, 1) := by decide +kernel
theorem dX10_workOf_69 : decode cX10_workOf 69 = .ok (.aload_n 3, 1) := by decide +kernel
theorem dX10_workOf_70 : decode cX10_workOf 70 = .ok (.getfield 134, 3) := by decide +kernel
theorem dX10_workOf_73 : decode cX10_workOf 73 = .ok (.ireturn, 1) := by decide +kernel
theorem dX10_workOf_74 : decode cX10_workOf 74 = .ok (.aload_n 3, 1) := by decide +kernel
theorem dX10_workOf_75 : decode cX10_workOf 75 = .ok (.getfield 137, 3) := by decide +kernel
theorem dX10_workOf_78 : decode cX10_workOf 78 = .ok (.ireturn, 1) := by decide +kernel
theorem dX10_workOf_79 : decode cX10_workOf 79 = .ok (.aload_n 3, 1) := by decide +kernel
theorem dX10_workOf_80 : decode cX10_workOf 80 = .ok (.invokevirtual 140, 3) := by decide +kernel
theorem dX10_workOf_83 : decode cX10_workOf 83 = .ok (.ireturn, 1) := by decide +kernel
theorem dX10_workOf_84 : decode cX10_workOf 84 = .ok (.aload_n 0, 1) := by decide +kernel
theorem dX10_workOf_85 : decode cX10_workOf 85 = .ok (.getfield 10, 3) := by decide +kernel
theorem dX10_workOf_88 : decode cX10_workOf 88 = .ok (.iload_n 1, 1) := by decide +kernel
theorem dX10_workOf_89 : decode cX10_workOf 89 = .ok (.invokevirtual 143, 3) := by decide +kernel
theorem dX10_workOf_92 : decode cX10_workOf 92 = .ok (.ifCond .eq 7, 3) := by decide +kernel
theorem dX10_workOf_95 : decode cX10_workOf 95 = .ok (.iconst 1, 1) := by decide +kernel
theorem dX10_workOf_96 : decode cX10_workOf 96 = .ok (.goto 4, 3) := by decide +kernel
theorem dX10_workOf_99 : decode cX10_workOf 99 = .ok (.iconst 0, 1) := by decide +kernel
theorem dX10_workOf_100 : decode cX10_workOf 100 = .ok (.ireturn, 1) := by decide +kernel
theorem dX10_family_0 : decode cX10_family 0 = .ok (.aload_n 0, 1) := by decide +kernel
theorem dX10_family_1 : decode cX10_family 1 = .ok (.aload_n 0, 1) := by decide +kernel
theorem dX10_family_2 : decode cX10_family 2 = .ok (.getfield 10, 3) := by decide +kernel
theorem dX10_family_5 : decode cX10_family 5 = .ok (.iload_n 1, 1) := by decide +kernel
theorem dX10_family_6 : decode cX10_family 6 = .ok (.iload_n 2, 1) := by decide +kernel
theorem dX10_family_7 : decode cX10_family 7 = .ok (.iload_n 3, 1) := by decide +kernel
theorem dX10_family_8 : decode cX10_family 8 = .ok (.invokevirtual 147, 3) := by decide +kernel
theorem dX10_family_11 : decode cX10_family 11 = .ok (.invokevirtual 150, 3) := by decide +kernel
theorem dX10_family_14 : decode cX10_family 14 = .ok (.ireturn, 1) := by decide +kernel
theorem dX10_work_0 : decode cX10_work 0 = .ok (.aload_n 0, 1) := by decide +kernel
theorem dX10_work_1 : decode cX10_work 1 = .ok (.aload_n 0, 1) := by decide +kernel
theorem dX10_work_2 : decode cX10_work 2 = .ok (.getfield 10, 3) := by decide +kernel
theorem dX10_work_5 : decode cX10_work 5 = .ok (.iload_n 1, 1) := by decide +kernel
theorem dX10_work_6 : decode cX10_work 6 = .ok (.iload_n 2, 1) := by decide +kernel
theorem dX10_work_7 : decode cX10_work 7 = .ok (.iload_n 3, 1) := by decide +kernel
theorem dX10_work_8 : decode cX10_work 8 = .ok (.invokevirtual 153, 3) := by decide +kernel
theorem dX10_work_11 : decode cX10_work 11 = .ok (.invokevirtual 150, 3) := by decide +kernel
theorem dX10_work_14 : decode cX10_work 14 = .ok (.ireturn, 1) := by decide +kernel
theorem dX10_builds_0 : decode cX10_builds 0 = .ok (.aload_n 0, 1) := by decide +kernel
theorem dX10_builds_1 : decode cX10_builds 1 = .ok (.getfield 16, 3) := by decide +kernel
theorem dX10_builds_4 : decode cX10_builds 4 = .ok (.aload_n 0, 1) := by decide +kernel
theorem dX10_builds_5 : decode cX10_builds 5 = .ok (.getfield 10, 3) := by decide +kernel
theorem dX10_builds_8 : decode cX10_builds 8 = .ok (.invokevirtual 74, 3) := by decide +kernel
theorem dX10_builds_11 : decode cX10_builds 11 = .ok (.aload_n 0, 1) := by decide +kernel
theorem dX10_builds_12 : decode cX10_builds 12 = .ok (.aload_n 0, 1) := by decide +kernel
theorem dX10_builds_13 : decode cX10_builds 13 = .ok (.getfield 10, 3) := by decide +kernel
theorem dX10_builds_16 : decode cX10_builds 16 = .ok (.iload_n 1, 1) := by decide +kernel
theorem dX10_builds_17 : decode cX10_builds 17 = .ok (.invokevirtual 156, 3) := by decide +kernel
theorem dX10_builds_20 : decode cX10_builds 20 = .ok (.invokevirtual 159, 3) := by decide +kernel
theorem dX10_builds_23 : decode cX10_builds 23 = .ok (.ireturn, 1) := by decide +kernel
theorem dX10_years_0 : decode cX10_years 0 = .ok (.aload_n 0, 1) := by decide +kernel
theorem dX10_years_1 : decode cX10_years 1 = .ok (.getfield 16, 3) := by decide +kernel
theorem dX10_years_4 : decode cX10_years 4 = .ok (.aload_n 0, 1) := by decide +kernel
theorem dX10_years_5 : decode cX10_years 5 = .ok (.getfield 10, 3) := by decide +kernel
theorem dX10_years_8 : decode cX10_years 8 = .ok (.invokevirtual 74, 3) := by decide +kernel
theorem dX10_years_11 : decode cX10_years 11 = .ok (.aload_n 0, 1) := by decide +kernel
theorem dX10_years_12 : decode cX10_years 12 = .ok (.aload_n 0, 1) := by decide +kernel
theorem dX10_years_13 : decode cX10_years 13 = .ok (.getfield 10, 3) := by decide +kernel
theorem dX10_years_16 : decode cX10_years 16 = .ok (.iload_n 1, 1) := by decide +kernel
theorem dX10_years_17 : decode cX10_years 17 = .ok (.invokevirtual 162, 3) := by decide +kernel
theorem dX10_years_20 : decode cX10_years 20 = .ok (.invokevirtual 159, 3) := by decide +kernel
theorem dX10_years_23 : decode cX10_years 23 = .ok (.ireturn, 1) := by decide +kernel
theorem dX10_debt_0 : decode cX10_debt 0 = .ok (.aload_n 0, 1) := by decide +kernel
theorem dX10_debt_1 : decode cX10_debt 1 = .ok (.getfield 16, 3) := by decide +kernel
theorem dX10_debt_4 : decode cX10_debt 4 = .ok (.aload_n 0, 1) := by decide +kernel
theorem dX10_debt_5 : decode cX10_debt 5 = .ok (.getfield 10, 3) := by decide +kernel
theorem dX10_debt_8 : decode cX10_debt 8 = .ok (.invokevirtual 74, 3) := by decide +kernel
theorem dX10_debt_11 : decode cX10_debt 11 = .ok (.aload_n 0, 1) := by decide +kernel
theorem dX10_debt_12 : decode cX10_debt 12 = .ok (.aload_n 0, 1) := by decide +kernel
theorem dX10_debt_13 : decode cX10_debt 13 = .ok (.getfield 10, 3) := by decide +kernel
theorem dX10_debt_16 : decode cX10_debt 16 = .ok (.iload_n 1, 1) := by decide +kernel
theorem dX10_debt_17 : decode cX10_debt 17 = .ok (.iload_n 2, 1) := by decide +kernel
theorem dX10_debt_18 : decode cX10_debt 18 = .ok (.invokevirtual 165, 3) := by decide +kernel
theorem dX10_debt_21 : decode cX10_debt 21 = .ok (.invokevirtual 159, 3) := by decide +kernel
theorem dX10_debt_24 : decode cX10_debt 24 = .ok (.ireturn, 1) := by decide +kernel
theorem dX10_rate_0 : decode cX10_rate 0 = .ok (.aload_n 0, 1) := by decide +kernel
theorem dX10_rate_1 : decode cX10_rate 1 = .ok (.getfield 16, 3) := by decide +kernel
theorem dX10_rate_4 : decode cX10_rate 4 = .ok (.aload_n 0, 1) := by decide +kernel
theorem dX10_rate_5 : decode cX10_rate 5 = .ok (.getfield 10, 3) := by decide +kernel
theorem dX10_rate_8 : decode cX10_rate 8 = .ok (.invokevirtual 74, 3) := by decide +kernel
theorem dX10_rate_11 : decode cX10_rate 11 = .ok (.aload_n 0, 1) := by decide +kernel
theorem dX10_rate_12 : decode cX10_rate 12 = .ok (.aload_n 0, 1) := by decide +kernel
theorem dX10_rate_13 : decode cX10_rate 13 = .ok (.getfield 10, 3) := by decide +kernel
theorem dX10_rate_16 : decode cX10_rate 16 = .ok (.iload_n 1, 1) := by decide +kernel
theorem dX10_rate_17 : decode cX10_rate 17 = .ok (.invokevirtual 168, 3) := by decide +kernel
theorem dX10_rate_20 : decode cX10_rate 20 = .ok (.invokevirtual 159, 3) := by decide +kernel
theorem dX10_rate_23 : decode cX10_rate 23 = .ok (.ireturn, 1) := by decide +kernel
theorem dX10_behind_0 : decode cX10_behind 0 = .ok (.aload_n 0, 1) := by decide +kernel
theorem dX10_behind_1 : decode cX10_behind 1 = .ok (.iload_n 1, 1) := by decide +kernel
theorem dX10_behind_2 : decode cX10_behind 2 = .ok (.iload_n 2, 1) := by decide +kernel
theorem dX10_behind_3 : decode cX10_behind 3 = .ok (.invokevirtual 171, 3) := by decide +kernel
theorem dX10_behind_6 : decode cX10_behind 6 = .ok (.istore 4, 2) := by decide +kernel
theorem dX10_behind_8 : decode cX10_behind 8 = .ok (.iload 4, 2) := by decide +kernel
theorem dX10_behind_10 : decode cX10_behind 10 = .ok (.ifCond .ne 10, 3) := by decide +kernel
theorem dX10_behind_13 : decode cX10_behind 13 = .ok (.iload_n 3, 1) := by decide +kernel
theorem dX10_behind_14 : decode cX10_behind 14 = .ok (.iconst 2, 1) := by decide +kernel
theorem dX10_behind_15 : decode cX10_behind 15 = .ok (.invokestatic 102, 3) := by decide +kernel
theorem dX10_behind_18 : decode cX10_behind 18 = .ok (.istore 4, 2) := by decide +kernel
theorem dX10_behind_20 : decode cX10_behind 20 = .ok (.iload 4, 2) := by decide +kernel
theorem dX10_behind_22 : decode cX10_behind 22 = .ok (.ifCond .eq 10, 3) := by decide +kernel
theorem dX10_behind_25 : decode cX10_behind 25 = .ok (.aload_n 0, 1) := by decide +kernel
theorem dX10_behind_26 : decode cX10_behind 26 = .ok (.iload 4, 2) := by decide +kernel
theorem dX10_behind_28 : decode cX10_behind 28 = .ok (.invokevirtual 67, 3) := by decide +kernel
theorem dX10_behind_31 : decode cX10_behind 31 = .ok (.ireturn, 1) := by decide +kernel
theorem dX10_behind_32 : decode cX10_behind 32 = .ok (.aload_n 0, 1) := by decide +kernel
theorem dX10_behind_33 : decode cX10_behind 33 = .ok (.iload_n 1, 1) := by decide +kernel
theorem dX10_behind_34 : decode cX10_behind 34 = .ok (.iload_n 2, 1) := by decide +kernel
theorem dX10_behind_35 : decode cX10_behind 35 = .ok (.invokevirtual 174, 3) := by decide +kernel
theorem dX10_behind_38 : decode cX10_behind 38 = .ok (.iload_n 3, 1) := by decide +kernel
theorem dX10_behind_39 : decode cX10_behind 39 = .ok (.lookupswitch 41 #[(0, 25), (1, 33)], 25) := by decide +kernel
theorem dX10_behind_64 : decode cX10_behind 64 = .ok (.aload_n 0, 1) := by decide +kernel
theorem dX10_behind_65 : decode cX10_behind 65 = .ok (.getfield 46, 3) := by decide +kernel
theorem dX10_behind_68 : decode cX10_behind 68 = .ok (.getfield 113, 3) := by decide +kernel
theorem dX10_behind_71 : decode cX10_behind 71 = .ok (.ireturn, 1) := by decide +kernel
theorem dX10_behind_72 : decode cX10_behind 72 = .ok (.aload_n 0, 1) := by decide +kernel
theorem dX10_behind_73 : decode cX10_behind 73 = .ok (.getfield 46, 3) := by decide +kernel
theorem dX10_behind_76 : decode cX10_behind 76 = .ok (.getfield 110, 3) := by decide +kernel
theorem dX10_behind_79 : decode cX10_behind 79 = .ok (.ireturn, 1) := by decide +kernel
theorem dX10_behind_80 : decode cX10_behind 80 = .ok (.aload_n 0, 1) := by decide +kernel
theorem dX10_behind_81 : decode cX10_behind 81 = .ok (.getfield 46, 3) := by decide +kernel
theorem dX10_behind_84 : decode cX10_behind 84 = .ok (.invokevirtual 122, 3) := by decide +kernel
theorem dX10_behind_87 : decode cX10_behind 87 = .ok (.ireturn, 1) := by decide +kernel
theorem dX10_all_0 : decode cX10_all 0 = .ok (.iload_n 1, 1) := by decide +kernel
theorem dX10_all_1 : decode cX10_all 1 = .ok (.invokestatic 178, 3) := by decide +kernel
theorem dX10_all_4 : decode cX10_all 4 = .ok (.istore_n 2, 1) := by decide +kernel
theorem dX10_all_5 : decode cX10_all 5 = .ok (.iload_n 2, 1) := by decide +kernel
theorem dX10_all_6 : decode cX10_all 6 = .ok (.ifCond .eq 9, 3) := by decide +kernel
theorem dX10_all_9 : decode cX10_all 9 = .ok (.aload_n 0, 1) := by decide +kernel
theorem dX10_all_10 : decode cX10_all 10 = .ok (.iload_n 2, 1) := by decide +kernel
theorem dX10_all_11 : decode cX10_all 11 = .ok (.invokevirtual 67, 3) := by decide +kernel
theorem dX10_all_14 : decode cX10_all 14 = .ok (.ireturn, 1) := by decide +kernel
theorem dX10_all_15 : decode cX10_all 15 = .ok (.aload_n 0, 1) := by decide +kernel
theorem dX10_all_16 : decode cX10_all 16 = .ok (.getfield 16, 3) := by decide +kernel
theorem dX10_all_19 : decode cX10_all 19 = .ok (.aload_n 0, 1) := by decide +kernel
theorem dX10_all_20 : decode cX10_all 20 = .ok (.getfield 10, 3) := by decide +kernel
theorem dX10_all_23 : decode cX10_all 23 = .ok (.invokevirtual 74, 3) := by decide +kernel
theorem dX10_all_26 : decode cX10_all 26 = .ok (.aload_n 0, 1) := by decide +kernel
theorem dX10_all_27 : decode cX10_all 27 = .ok (.getfield 16, 3) := by decide +kernel
theorem dX10_all_30 : decode cX10_all 30 = .ok (.iload_n 1, 1) := by decide +kernel
theorem dX10_all_31 : decode cX10_all 31 = .ok (.invokevirtual 181, 3) := by decide +kernel
theorem dX10_all_34 : decode cX10_all 34 = .ok (.ireturn, 1) := by decide +kernel
theorem dX10_solvent_0 : decode cX10_solvent 0 = .ok (.aload_n 0, 1) := by decide +kernel
theorem dX10_solvent_1 : decode cX10_solvent 1 = .ok (.getfield 10, 3) := by decide +kernel
theorem dX10_solvent_4 : decode cX10_solvent 4 = .ok (.iload_n 1, 1) := by decide +kernel
theorem dX10_solvent_5 : decode cX10_solvent 5 = .ok (.invokevirtual 99, 3) := by decide +kernel
theorem dX10_solvent_8 : decode cX10_solvent 8 = .ok (.istore_n 2, 1) := by decide +kernel
theorem dX10_solvent_9 : decode cX10_solvent 9 = .ok (.iload_n 2, 1) := by decide +kernel
theorem dX10_solvent_10 : decode cX10_solvent 10 = .ok (.ifCond .eq 11, 3) := by decide +kernel
theorem dX10_solvent_13 : decode cX10_solvent 13 = .ok (.aload_n 0, 1) := by decide +kernel
theorem dX10_solvent_14 : decode cX10_solvent 14 = .ok (.iload_n 2, 1) := by decide +kernel
theorem dX10_solvent_15 : decode cX10_solvent 15 = .ok (.invokevirtual 67, 3) := by decide +kernel
theorem dX10_solvent_18 : decode cX10_solvent 18 = .ok (.goto 9, 3) := by decide +kernel
theorem dX10_solvent_21 : decode cX10_solvent 21 = .ok (.aload_n 0, 1) := by decide +kernel
theorem dX10_solvent_22 : decode cX10_solvent 22 = .ok (.iload_n 1, 1) := by decide +kernel
theorem dX10_solvent_23 : decode cX10_solvent 23 = .ok (.iconst 0, 1) := by decide +kernel
theorem dX10_solvent_24 : decode cX10_solvent 24 = .ok (.invokevirtual 184, 3) := by decide +kernel
theorem dX10_solvent_27 : decode cX10_solvent 27 = .ok (.ireturn, 1) := by decide +kernel
theorem dX10_first_0 : decode cX10_first 0 = .ok (.iload_n 1, 1) := by decide +kernel
theorem dX10_first_1 : decode cX10_first 1 = .ok (.tableswitch 42 0 2 #[27, 32, 37], 27) := by decide +kernel
theorem dX10_first_28 : decode cX10_first 28 = .ok (.aload_n 0, 1) := by decide +kernel
theorem dX10_first_29 : decode cX10_first 29 = .ok (.invokevirtual 187, 3) := by decide +kernel
theorem dX10_first_32 : decode cX10_first 32 = .ok (.ireturn, 1) := by decide +kernel
theorem dX10_first_33 : decode cX10_first 33 = .ok (.aload_n 0, 1) := by decide +kernel
theorem dX10_first_34 : decode cX10_first 34 = .ok (.invokevirtual 190, 3) := by decide +kernel
theorem dX10_first_37 : decode cX10_first 37 = .ok (.ireturn, 1) := by decide +kernel
theorem dX10_first_38 : decode cX10_first 38 = .ok (.aload_n 0, 1) := by decide +kernel
theorem dX10_first_39 : decode cX10_first 39 = .ok (.invokevirtual 193, 3) := by decide +kernel
theorem dX10_first_42 : decode cX10_first 42 = .ok (.ireturn, 1) := by decide +kernel
theorem dX10_first_43 : decode cX10_first 43 = .ok (.aload_n 0, 1) := by decide +kernel
theorem dX10_first_44 : decode cX10_first 44 = .ok (.bipush (-2), 2) := by decide +kernel
theorem dX10_first_46 : decode cX10_first 46 = .ok (.invokevirtual 67, 3) := by decide +kernel
theorem dX10_first_49 : decode cX10_first 49 = .ok (.ireturn, 1) := by decide +kernel
theorem dX10_highest_0 : decode cX10_highest 0 = .ok (.aload_n 0, 1) := by decide +kernel
theorem dX10_highest_1 : decode cX10_highest 1 = .ok (.iload_n 1, 1) := by decide +kernel
theorem dX10_highest_2 : decode cX10_highest 2 = .ok (.iload_n 2, 1) := by decide +kernel
theorem dX10_highest_3 : decode cX10_highest 3 = .ok (.invokevirtual 171, 3) := by decide +kernel
theorem dX10_highest_6 : decode cX10_highest 6 = .ok (.istore 4, 2) := by decide +kernel
theorem dX10_highest_8 : decode cX10_highest 8 = .ok (.iload 4, 2) := by decide +kernel
theorem dX10_highest_10 : decode cX10_highest 10 = .ok (.ifCond .ne 10, 3) := by decide +kernel
theorem dX10_highest_13 : decode cX10_highest 13 = .ok (.iload_n 3, 1) := by decide +kernel
theorem dX10_highest_14 : decode cX10_highest 14 = .ok (.iconst 1, 1) := by decide +kernel
theorem dX10_highest_15 : decode cX10_highest 15 = .ok (.invokestatic 102, 3) := by decide +kernel
theorem dX10_highest_18 : decode cX10_highest 18 = .ok (.istore 4, 2) := by decide +kernel
theorem dX10_highest_20 : decode cX10_highest 20 = .ok (.iload 4, 2) := by decide +kernel
theorem dX10_highest_22 : decode cX10_highest 22 = .ok (.ifCond .eq 10, 3) := by decide +kernel
theorem dX10_highest_25 : decode cX10_highest 25 = .ok (.aload_n 0, 1) := by decide +kernel
theorem dX10_highest_26 : decode cX10_highest 26 = .ok (.iload 4, 2) := by decide +kernel
theorem dX10_highest_28 : decode cX10_highest 28 = .ok (.invokevirtual 67, 3) := by decide +kernel
theorem dX10_highest_31 : decode cX10_highest 31 = .ok (.ireturn, 1) := by decide +kernel
theorem dX10_highest_32 : decode cX10_highest 32 = .ok (.iload_n 3, 1) := by decide +kernel
theorem dX10_highest_33 : decode cX10_highest 33 = .ok (.ifCond .ne 12, 3) := by decide +kernel
theorem dX10_highest_36 : decode cX10_highest 36 = .ok (.aload_n 0, 1) := by decide +kernel
theorem dX10_highest_37 : decode cX10_highest 37 = .ok (.iload_n 1, 1) := by decide +kernel
theorem dX10_highest_38 : decode cX10_highest 38 = .ok (.iload_n 2, 1) := by decide +kernel
theorem dX10_highest_39 : decode cX10_highest 39 = .ok (.invokevirtual 196, 3) := by decide +kernel
theorem dX10_highest_42 : decode cX10_highest 42 = .ok (.goto 9, 3) := by decide +kernel
theorem dX10_highest_45 : decode cX10_highest 45 = .ok (.aload_n 0, 1) := by decide +kernel
theorem dX10_highest_46 : decode cX10_highest 46 = .ok (.iload_n 1, 1) := by decide +kernel
theorem dX10_highest_47 : decode cX10_highest 47 = .ok (.iload_n 2, 1) := by decide +kernel
theorem dX10_highest_48 : decode cX10_highest 48 = .ok (.invokevirtual 199, 3) := by decide +kernel
theorem dX10_highest_51 : decode cX10_highest 51 = .ok (.ireturn, 1) := by decide +kernel
theorem dX10_building_0 : decode cX10_building 0 = .ok (.iload_n 1, 1) := by decide +kernel
theorem dX10_building_1 : decode cX10_building 1 = .ok (.bipush 100, 2) := by decide +kernel
theorem dX10_building_3 : decode cX10_building 3 = .ok (.iload_n 2, 1) := by decide +kernel
theorem dX10_building_4 : decode cX10_building 4 = .ok (.sipush 999, 3) := by decide +kernel
theorem dX10_building_7 : decode cX10_building 7 = .ok (.invokestatic 202, 3) := by decide +kernel
theorem dX10_building_10 : decode cX10_building 10 = .ok (.istore 4, 2) := by decide +kernel
theorem dX10_building_12 : decode cX10_building 12 = .ok (.iload 4, 2) := by decide +kernel
theorem dX10_building_14 : decode cX10_building 14 = .ok (.ifCond .ne 10, 3) := by decide +kernel
theorem dX10_building_17 : decode cX10_building 17 = .ok (.iload_n 3, 1) := by decide +kernel
theorem dX10_building_18 : decode cX10_building 18 = .ok (.iconst 1, 1) := by decide +kernel
theorem dX10_building_19 : decode cX10_building 19 = .ok (.invokestatic 102, 3) := by decide +kernel
theorem dX10_building_22 : decode cX10_building 22 = .ok (.istore 4, 2) := by decide +kernel
theorem dX10_building_24 : decode cX10_building 24 = .ok (.iload 4, 2) := by decide +kernel
theorem dX10_building_26 : decode cX10_building 26 = .ok (.ifCond .eq 10, 3) := by decide +kernel
theorem dX10_building_29 : decode cX10_building 29 = .ok (.aload_n 0, 1) := by decide +kernel
theorem dX10_building_30 : decode cX10_building 30 = .ok (.iload 4, 2) := by decide +kernel
theorem dX10_building_32 : decode cX10_building 32 = .ok (.invokevirtual 67, 3) := by decide +kernel
theorem dX10_building_35 : decode cX10_building 35 = .ok (.ireturn, 1) := by decide +kernel
theorem dX10_building_36 : decode cX10_building 36 = .ok (.bipush (-9), 2) := by decide +kernel
theorem dX10_building_38 : decode cX10_building 38 = .ok (.istore 5, 2) := by decide +kernel
theorem dX10_building_40 : decode cX10_building 40 = .ok (.bipush (-9), 2) := by decide +kernel
theorem dX10_building_42 : decode cX10_building 42 = .ok (.istore 6, 2) := by decide +kernel
theorem dX10_building_44 : decode cX10_building 44 = .ok (.iconst 0, 1) := by decide +kernel
theorem dX10_building_45 : decode cX10_building 45 = .ok (.istore 7, 2) := by decide +kernel
theorem dX10_building_47 : decode cX10_building 47 = .ok (.iload 7, 2) := by decide +kernel
theorem dX10_building_49 : decode cX10_building 49 = .ok (.aload_n 0, 1) := by decide +kernel
theorem dX10_building_50 : decode cX10_building 50 = .ok (.getfield 10, 3) := by decide +kernel
theorem dX10_building_53 : decode cX10_building 53 = .ok (.invokevirtual 206, 3) := by decide +kernel
theorem dX10_building_56 : decode cX10_building 56 = .ok (.if_icmp .ge 59, 3) := by decide +kernel
theorem dX10_building_59 : decode cX10_building 59 = .ok (.aload_n 0, 1) := by decide +kernel
theorem dX10_building_60 : decode cX10_building 60 = .ok (.getfield 10, 3) := by decide +kernel
theorem dX10_building_63 : decode cX10_building 63 = .ok (.iload 7, 2) := by decide +kernel
theorem dX10_building_65 : decode cX10_building 65 = .ok (.invokevirtual 209, 3) := by decide +kernel
theorem dX10_building_68 : decode cX10_building 68 = .ok (.istore 8, 2) := by decide +kernel
theorem dX10_building_70 : decode cX10_building 70 = .ok (.iload 7, 2) := by decide +kernel
theorem dX10_building_72 : decode cX10_building 72 = .ok (.aload_n 0, 1) := by decide +kernel
theorem dX10_building_73 : decode cX10_building 73 = .ok (.getfield 10, 3) := by decide +kernel
theorem dX10_building_76 : decode cX10_building 76 = .ok (.getfield 212, 3) := by decide +kernel
theorem dX10_building_79 : decode cX10_building 79 = .ok (.iand, 1) := by decide +kernel
theorem dX10_building_80 : decode cX10_building 80 = .ok (.ifCond .ne 29, 3) := by decide +kernel
theorem dX10_building_83 : decode cX10_building 83 = .ok (.iload 8, 2) := by decide +kernel
theorem dX10_building_85 : decode cX10_building 85 = .ok (.iload 6, 2) := by decide +kernel
theorem dX10_building_87 : decode cX10_building 87 = .ok (.if_icmp .le 22, 3) := by decide +kernel
theorem dX10_building_90 : decode cX10_building 90 = .ok (.aload_n 0, 1) := by decide +kernel
theorem dX10_building_91 : decode cX10_building 91 = .ok (.iload 7, 2) := by decide +kernel
theorem dX10_building_93 : decode cX10_building 93 = .ok (.iload_n 1, 1) := by decide +kernel
theorem dX10_building_94 : decode cX10_building 94 = .ok (.iload_n 2, 1) := by decide +kernel
theorem dX10_building_95 : decode cX10_building 95 = .ok (.invokevirtual 215, 3) := by decide +kernel
theorem dX10_building_98 : decode cX10_building 98 = .ok (.ifCond .eq 11, 3) := by decide +kernel
theorem dX10_building_101 : decode cX10_building 101 = .ok (.iload 7, 2) := by decide +kernel
theorem dX10_building_103 : decode cX10_building 103 = .ok (.istore 5, 2) := by decide +kernel
theorem dX10_building_105 : decode cX10_building 105 = .ok (.iload 8, 2) := by decide +kernel
theorem dX10_building_107 : decode cX10_building 107 = .ok (.istore 6, 2) := by decide +kernel
theorem dX10_building_109 : decode cX10_building 109 = .ok (.iinc 7 1, 3) := by decide +kernel
theorem dX10_building_112 : decode cX10_building 112 = .ok (.goto (-65), 3) := by decide +kernel
theorem dX10_building_115 : decode cX10_building 115 = .ok (.iload_n 3, 1) := by decide +kernel
theorem dX10_building_116 : decode cX10_building 116 = .ok (.ifCond .ne 8, 3) := by decide +kernel
theorem dX10_building_119 : decode cX10_building 119 = .ok (.iload 5, 2) := by decide +kernel
theorem dX10_building_121 : decode cX10_building 121 = .ok (.goto 5, 3) := by decide +kernel
theorem dX10_building_124 : decode cX10_building 124 = .ok (.iload 6, 2) := by decide +kernel
theorem dX10_building_126 : decode cX10_building 126 = .ok (.ireturn, 1) := by decide +kernel
theorem dX10_oneMore_0 : decode cX10_oneMore 0 = .ok (.iload_n 1, 1) := by decide +kernel
theorem dX10_oneMore_1 : decode cX10_oneMore 1 = .ok (.invokestatic 178, 3) := by decide +kernel
theorem dX10_oneMore_4 : decode cX10_oneMore 4 = .ok (.istore_n 2, 1) := by decide +kernel
theorem dX10_oneMore_5 : decode cX10_oneMore 5 = .ok (.iload_n 2, 1) := by decide +kernel
theorem dX10_oneMore_6 : decode cX10_oneMore 6 = .ok (.ifCond .eq 9, 3) := by decide +kernel
theorem dX10_oneMore_9 : decode cX10_oneMore 9 = .ok (.aload_n 0, 1) := by decide +kernel
theorem dX10_oneMore_10 : decode cX10_oneMore 10 = .ok (.iload_n 2, 1) := by decide +kernel
theorem dX10_oneMore_11 : decode cX10_oneMore 11 = .ok (.invokevirtual 67, 3) := by decide +kernel
theorem dX10_oneMore_14 : decode cX10_oneMore 14 = .ok (.ireturn, 1) := by decide +kernel
theorem dX10_oneMore_15 : decode cX10_oneMore 15 = .ok (.bipush (-9), 2) := by decide +kernel
theorem dX10_oneMore_17 : decode cX10_oneMore 17 = .ok (.istore_n 3, 1) := by decide +kernel
theorem dX10_oneMore_18 : decode cX10_oneMore 18 = .ok (.ldc 219, 2) := by decide +kernel
theorem dX10_oneMore_20 : decode cX10_oneMore 20 = .ok (.istore 4, 2) := by decide +kernel
theorem dX10_oneMore_22 : decode cX10_oneMore 22 = .ok (.iconst 0, 1) := by decide +kernel
theorem dX10_oneMore_23 : decode cX10_oneMore 23 = .ok (.istore 5, 2) := by decide +kernel
theorem dX10_oneMore_25 : decode cX10_oneMore 25 = .ok (.iload 5, 2) := by decide +kernel
theorem dX10_oneMore_27 : decode cX10_oneMore 27 = .ok (.aload_n 0, 1) := by decide +kernel
theorem dX10_oneMore_28 : decode cX10_oneMore 28 = .ok (.getfield 10, 3) := by decide +kernel
theorem dX10_oneMore_31 : decode cX10_oneMore 31 = .ok (.getfield 220, 3) := by decide +kernel
theorem dX10_oneMore_34 : decode cX10_oneMore 34 = .ok (.if_icmp .ge 68, 3) := by decide +kernel
theorem dX10_oneMore_37 : decode cX10_oneMore 37 = .ok (.aload_n 0, 1) := by decide +kernel
theorem dX10_oneMore_38 : decode cX10_oneMore 38 = .ok (.getfield 10, 3) := by decide +kernel
theorem dX10_oneMore_41 : decode cX10_oneMore 41 = .ok (.iload 5, 2) := by decide +kernel
theorem dX10_oneMore_43 : decode cX10_oneMore 43 = .ok (.invokevirtual 143, 3) := by decide +kernel
theorem dX10_oneMore_46 : decode cX10_oneMore 46 = .ok (.ifCond .eq 6, 3) := by decide +kernel
theorem dX10_oneMore_49 : decode cX10_oneMore 49 = .ok (.goto 47, 3) := by decide +kernel
theorem dX10_oneMore_52 : decode cX10_oneMore 52 = .ok (.aload_n 0, 1) := by decide +kernel
theorem dX10_oneMore_53 : decode cX10_oneMore 53 = .ok (.getfield 16, 3) := by decide +kernel
theorem dX10_oneMore_56 : decode cX10_oneMore 56 = .ok (.aload_n 0, 1) := by decide +kernel
theorem dX10_oneMore_57 : decode cX10_oneMore 57 = .ok (.getfield 10, 3) := by decide +kernel
theorem dX10_oneMore_60 : decode cX10_oneMore 60 = .ok (.invokevirtual 74, 3) := by decide +kernel
theorem dX10_oneMore_63 : decode cX10_oneMore 63 = .ok (.aload_n 0, 1) := by decide +kernel
theorem dX10_oneMore_64 : decode cX10_oneMore 64 = .ok (.getfield 16, 3) := by decide +kernel
theorem dX10_oneMore_67 : decode cX10_oneMore 67 = .ok (.iload 5, 2) := by decide +kernel
theorem dX10_oneMore_69 : decode cX10_oneMore 69 = .ok (.invokevirtual 223, 3) := by decide +kernel
theorem dX10_oneMore_72 : decode cX10_oneMore 72 = .ok (.aload_n 0, 1) := by decide +kernel
theorem dX10_oneMore_73 : decode cX10_oneMore 73 = .ok (.getfield 16, 3) := by decide +kernel
theorem dX10_oneMore_76 : decode cX10_oneMore 76 = .ok (.iload_n 1, 1) := by decide +kernel
theorem dX10_oneMore_77 : decode cX10_oneMore 77 = .ok (.invokevirtual 181, 3) := by decide +kernel
theorem dX10_oneMore_80 : decode cX10_oneMore 80 = .ok (.istore 6, 2) := by decide +kernel
theorem dX10_oneMore_82 : decode cX10_oneMore 82 = .ok (.iload 6, 2) := by decide +kernel
theorem dX10_oneMore_84 : decode cX10_oneMore 84 = .ok (.iload 4, 2) := by decide +kernel
theorem dX10_oneMore_86 : decode cX10_oneMore 86 = .ok (.if_icmp .ge 10, 3) := by decide +kernel
theorem dX10_oneMore_89 : decode cX10_oneMore 89 = .ok (.iload 6, 2) := by decide +kernel
theorem dX10_oneMore_91 : decode cX10_oneMore 91 = .ok (.istore 4, 2) := by decide +kernel
theorem dX10_oneMore_93 : decode cX10_oneMore 93 = .ok (.iload 5, 2) := by decide +kernel
theorem dX10_oneMore_95 : decode cX10_oneMore 95 = .ok (.istore_n 3, 1) := by decide +kernel
theorem dX10_oneMore_96 : decode cX10_oneMore 96 = .ok (.iinc 5 1, 3) := by decide +kernel
theorem dX10_oneMore_99 : decode cX10_oneMore 99 = .ok (.goto (-74), 3) := by decide +kernel
theorem dX10_oneMore_102 : decode cX10_oneMore 102 = .ok (.iload_n 3, 1) := by decide +kernel
theorem dX10_oneMore_103 : decode cX10_oneMore 103 = .ok (.ireturn, 1) := by decide +kernel
theorem dX10_share_0 : decode cX10_share 0 = .ok (.aload_n 0, 1) := by decide +kernel
theorem dX10_share_1 : decode cX10_share 1 = .ok (.getfield 10, 3) := by decide +kernel
theorem dX10_share_4 : decode cX10_share 4 = .ok (.iload_n 1, 1) := by decide +kernel
theorem dX10_share_5 : decode cX10_share 5 = .ok (.iload_n 2, 1) := by decide +kernel
theorem dX10_share_6 : decode cX10_share 6 = .ok (.invokevirtual 227, 3) := by decide +kernel
theorem dX10_share_9 : decode cX10_share 9 = .ok (.istore_n 3, 1) := by decide +kernel
theorem dX10_share_10 : decode cX10_share 10 = .ok (.iload_n 3, 1) := by decide +kernel
theorem dX10_share_11 : decode cX10_share 11 = .ok (.ifCond .eq 11, 3) := by decide +kernel
theorem dX10_share_14 : decode cX10_share 14 = .ok (.aload_n 0, 1) := by decide +kernel
theorem dX10_share_15 : decode cX10_share 15 = .ok (.iload_n 3, 1) := by decide +kernel
theorem dX10_share_16 : decode cX10_share 16 = .ok (.invokevirtual 67, 3) := by decide +kernel
theorem dX10_share_19 : decode cX10_share 19 = .ok (.goto 12, 3) := by decide +kernel
theorem dX10_share_22 : decode cX10_share 22 = .ok (.aload_n 0, 1) := by decide +kernel
theorem dX10_share_23 : decode cX10_share 23 = .ok (.getfield 10, 3) := by decide +kernel
theorem dX10_share_26 : decode cX10_share 26 = .ok (.iload_n 1, 1) := by decide +kernel
theorem dX10_share_27 : decode cX10_share 27 = .ok (.iload_n 2, 1) := by decide +kernel
theorem dX10_share_28 : decode cX10_share 28 = .ok (.invokevirtual 230, 3) := by decide +kernel
theorem dX10_share_31 : decode cX10_share 31 = .ok (.ireturn, 1) := by decide +kernel
theorem dX10_pulledDown_0 : decode cX10_pulledDown 0 = .ok (.aload_n 0, 1) := by decide +kernel
theorem dX10_pulledDown_1 : decode cX10_pulledDown 1 = .ok (.getfield 10, 3) := by decide +kernel
theorem dX10_pulledDown_4 : decode cX10_pulledDown 4 = .ok (.iload_n 1, 1) := by decide +kernel
theorem dX10_pulledDown_5 : decode cX10_pulledDown 5 = .ok (.iload_n 2, 1) := by decide +kernel
theorem dX10_pulledDown_6 : decode cX10_pulledDown 6 = .ok (.invokevirtual 227, 3) := by decide +kernel
theorem dX10_pulledDown_9 : decode cX10_pulledDown 9 = .ok (.istore 4, 2) := by decide +kernel
theorem dX10_pulledDown_11 : decode cX10_pulledDown 11 = .ok (.iload 4, 2) := by decide +kernel
theorem dX10_pulledDown_13 : decode cX10_pulledDown 13 = .ok (.ifCond .ne 9, 3) := by decide +kernel
theorem dX10_pulledDown_16 : decode cX10_pulledDown 16 = .ok (.iload_n 3, 1) := by decide +kernel
theorem dX10_pulledDown_17 : decode cX10_pulledDown 17 = .ok (.invokestatic 178, 3) := by decide +kernel
theorem dX10_pulledDown_20 : decode cX10_pulledDown 20 = .ok (.istore 4, 2) := by decide +kernel
theorem dX10_pulledDown_22 : decode cX10_pulledDown 22 = .ok (.iload 4, 2) := by decide +kernel
theorem dX10_pulledDown_24 : decode cX10_pulledDown 24 = .ok (.ifCond .eq 10, 3) := by decide +kernel
theorem dX10_pulledDown_27 : decode cX10_pulledDown 27 = .ok (.aload_n 0, 1) := by decide +kernel
theorem dX10_pulledDown_28 : decode cX10_pulledDown 28 = .ok (.iload 4, 2) := by decide +kernel
theorem dX10_pulledDown_30 : decode cX10_pulledDown 30 = .ok (.invokevirtual 67, 3) := by decide +kernel
theorem dX10_pulledDown_33 : decode cX10_pulledDown 33 = .ok (.ireturn, 1) := by decide +kernel
theorem dX10_pulledDown_34 : decode cX10_pulledDown 34 = .ok (.aload_n 0, 1) := by decide +kernel
theorem dX10_pulledDown_35 : decode cX10_pulledDown 35 = .ok (.getfield 50, 3) := by decide +kernel
theorem dX10_pulledDown_38 : decode cX10_pulledDown 38 = .ok (.aload_n 0, 1) := by decide +kernel
theorem dX10_pulledDown_39 : decode cX10_pulledDown 39 = .ok (.getfield 10, 3) := by decide +kernel
theorem dX10_pulledDown_42 : decode cX10_pulledDown 42 = .ok (.iload_n 2, 1) := by decide +kernel
theorem dX10_pulledDown_43 : decode cX10_pulledDown 43 = .ok (.invokevirtual 106, 3) := by decide +kernel
theorem dX10_pulledDown_46 : decode cX10_pulledDown 46 = .ok (.invokevirtual 233, 3) := by decide +kernel
theorem dX10_pulledDown_49 : decode cX10_pulledDown 49 = .ok (.aload_n 0, 1) := by decide +kernel
theorem dX10_pulledDown_50 : decode cX10_pulledDown 50 = .ok (.getfield 50, 3) := by decide +kernel
theorem dX10_pulledDown_53 : decode cX10_pulledDown 53 = .ok (.aload_n 0, 1) := by decide +kernel
theorem dX10_pulledDown_54 : decode cX10_pulledDown 54 = .ok (.getfield 10, 3) := by decide +kernel
theorem dX10_pulledDown_57 : decode cX10_pulledDown 57 = .ok (.iload_n 1, 1) := by decide +kernel
theorem dX10_pulledDown_58 : decode cX10_pulledDown 58 = .ok (.iload_n 2, 1) := by decide +kernel
theorem dX10_pulledDown_59 : decode cX10_pulledDown 59 = .ok (.invokevirtual 230, 3) := by decide +kernel
theorem dX10_pulledDown_62 : decode cX10_pulledDown 62 = .ok (.invokevirtual 236, 3) := by decide +kernel
theorem dX10_pulledDown_65 : decode cX10_pulledDown 65 = .ok (.aload_n 0, 1) := by decide +kernel
theorem dX10_pulledDown_66 : decode cX10_pulledDown 66 = .ok (.getfield 50, 3) := by decide +kernel
theorem dX10_pulledDown_69 : decode cX10_pulledDown 69 = .ok (.aload_n 0, 1) := by decide +kernel
theorem dX10_pulledDown_70 : decode cX10_pulledDown 70 = .ok (.getfield 10, 3) := by decide +kernel
theorem dX10_pulledDown_73 : decode cX10_pulledDown 73 = .ok (.getfield 239, 3) := by decide +kernel
theorem dX10_pulledDown_76 : decode cX10_pulledDown 76 = .ok (.aload_n 0, 1) := by decide +kernel
theorem dX10_pulledDown_77 : decode cX10_pulledDown 77 = .ok (.getfield 10, 3) := by decide +kernel
theorem dX10_pulledDown_80 : decode cX10_pulledDown 80 = .ok (.getfield 242, 3) := by decide +kernel
theorem dX10_pulledDown_83 : decode cX10_pulledDown 83 = .ok (.iload_n 3, 1) := by decide +kernel
theorem dX10_pulledDown_84 : decode cX10_pulledDown 84 = .ok (.invokevirtual 245, 3) := by decide +kernel
theorem dX10_pulledDown_87 : decode cX10_pulledDown 87 = .ok (.aload_n 0, 1) := by decide +kernel
theorem dX10_pulledDown_88 : decode cX10_pulledDown 88 = .ok (.iload_n 2, 1) := by decide +kernel
theorem dX10_pulledDown_89 : decode cX10_pulledDown 89 = .ok (.iload_n 3, 1) := by decide +kernel
theorem dX10_pulledDown_90 : decode cX10_pulledDown 90 = .ok (.invokevirtual 174, 3) := by decide +kernel
theorem dX10_pulledDown_93 : decode cX10_pulledDown 93 = .ok (.aload_n 0, 1) := by decide +kernel
theorem dX10_pulledDown_94 : decode cX10_pulledDown 94 = .ok (.getfield 46, 3) := by decide +kernel
theorem dX10_pulledDown_97 : decode cX10_pulledDown 97 = .ok (.getfield 113, 3) := by decide +kernel
theorem dX10_pulledDown_100 : decode cX10_pulledDown 100 = .ok (.aload_n 0, 1) := by decide +kernel
theorem dX10_pulledDown_101 : decode cX10_pulledDown 101 = .ok (.getfield 50, 3) := by decide +kernel
theorem dX10_pulledDown_104 : decode cX10_pulledDown 104 = .ok (.getfield 113, 3) := by decide +kernel
theorem dX10_pulledDown_107 : decode cX10_pulledDown 107 = .ok (.isub, 1) := by decide +kernel
theorem dX10_pulledDown_108 : decode cX10_pulledDown 108 = .ok (.ireturn, 1) := by decide +kernel
theorem dX10_merger_0 : decode cX10_merger 0 = .ok (.aload_n 0, 1) := by decide +kernel
theorem dX10_merger_1 : decode cX10_merger 1 = .ok (.iload_n 1, 1) := by decide +kernel
theorem dX10_merger_2 : decode cX10_merger 2 = .ok (.iload_n 2, 1) := by decide +kernel
theorem dX10_merger_3 : decode cX10_merger 3 = .ok (.iload_n 3, 1) := by decide +kernel
theorem dX10_merger_4 : decode cX10_merger 4 = .ok (.invokevirtual 249, 3) := by decide +kernel
theorem dX10_merger_7 : decode cX10_merger 7 = .ok (.istore 4, 2) := by decide +kernel
theorem dX10_merger_9 : decode cX10_merger 9 = .ok (.iload 4, 2) := by decide +kernel
theorem dX10_merger_11 : decode cX10_merger 11 = .ok (.ifCond .eq 12, 3) := by decide +kernel
theorem dX10_merger_14 : decode cX10_merger 14 = .ok (.aload_n 0, 1) := by decide +kernel
theorem dX10_merger_15 : decode cX10_merger 15 = .ok (.iload 4, 2) := by decide +kernel
theorem dX10_merger_17 : decode cX10_merger 17 = .ok (.invokevirtual 67, 3) := by decide +kernel
theorem dX10_merger_20 : decode cX10_merger 20 = .ok (.goto 10, 3) := by decide +kernel
theorem dX10_merger_23 : decode cX10_merger 23 = .ok (.aload_n 0, 1) := by decide +kernel
theorem dX10_merger_24 : decode cX10_merger 24 = .ok (.iload_n 1, 1) := by decide +kernel
theorem dX10_merger_25 : decode cX10_merger 25 = .ok (.iload_n 2, 1) := by decide +kernel
theorem dX10_merger_26 : decode cX10_merger 26 = .ok (.iload_n 3, 1) := by decide +kernel
theorem dX10_merger_27 : decode cX10_merger 27 = .ok (.invokevirtual 252, 3) := by decide +kernel
theorem dX10_merger_30 : decode cX10_merger 30 = .ok (.ireturn, 1) := by decide +kernel
theorem dX10_bestMerger_0 : decode cX10_bestMerger 0 = .ok (.iload_n 1, 1) := by decide +kernel
theorem dX10_bestMerger_1 : decode cX10_bestMerger 1 = .ok (.invokestatic 178, 3) := by decide +kernel
theorem dX10_bestMerger_4 : decode cX10_bestMerger 4 = .ok (.istore_n 2, 1) := by decide +kernel
theorem dX10_bestMerger_5 : decode cX10_bestMerger 5 = .ok (.iload_n 2, 1) := by decide +kernel
theorem dX10_bestMerger_6 : decode cX10_bestMerger 6 = .ok (.ifCond .eq 9, 3) := by decide +kernel
theorem dX10_bestMerger_9 : decode cX10_bestMerger 9 = .ok (.aload_n 0, 1) := by decide +kernel
theorem dX10_bestMerger_10 : decode cX10_bestMerger 10 = .ok (.iload_n 2, 1) := by decide +kernel
theorem dX10_bestMerger_11 : decode cX10_bestMerger 11 = .ok (.invokevirtual 67, 3) := by decide +kernel
theorem dX10_bestMerger_14 : decode cX10_bestMerger 14 = .ok (.ireturn, 1) := by decide +kernel
theorem dX10_bestMerger_15 : decode cX10_bestMerger 15 = .ok (.bipush (-9), 2) := by decide +kernel
theorem dX10_bestMerger_17 : decode cX10_bestMerger 17 = .ok (.istore_n 3, 1) := by decide +kernel
theorem dX10_bestMerger_18 : decode cX10_bestMerger 18 = .ok (.ldc 219, 2) := by decide +kernel
theorem dX10_bestMerger_20 : decode cX10_bestMerger 20 = .ok (.istore 4, 2) := by decide +kernel
theorem dX10_bestMerger_22 : decode cX10_bestMerger 22 = .ok (.iconst 0, 1) := by decide +kernel
theorem dX10_bestMerger_23 : decode cX10_bestMerger 23 = .ok (.istore 5, 2) := by decide +kernel
theorem dX10_bestMerger_25 : decode cX10_bestMerger 25 = .ok (.iload 5, 2) := by decide +kernel
theorem dX10_bestMerger_27 : decode cX10_bestMerger 27 = .ok (.aload_n 0, 1) := by decide +kernel
theorem dX10_bestMerger_28 : decode cX10_bestMerger 28 = .ok (.getfield 10, 3) := by decide +kernel
theorem dX10_bestMerger_31 : decode cX10_bestMerger 31 = .ok (.getfield 255, 3) := by decide +kernel
theorem dX10_bestMerger_34 : decode cX10_bestMerger 34 = .ok (.if_icmp .ge 88, 3) := by decide +kernel
theorem dX10_bestMerger_37 : decode cX10_bestMerger 37 = .ok (.iload 5, 2) := by decide +kernel
theorem dX10_bestMerger_39 : decode cX10_bestMerger 39 = .ok (.iconst 1, 1) := by decide +kernel
theorem dX10_bestMerger_40 : decode cX10_bestMerger 40 = .ok (.iadd, 1) := by decide +kernel
theorem dX10_bestMerger_41 : decode cX10_bestMerger 41 = .ok (.istore 6, 2) := by decide +kernel
theorem dX10_bestMerger_43 : decode cX10_bestMerger 43 = .ok (.iload 6, 2) := by decide +kernel
theorem dX10_bestMerger_45 : decode cX10_bestMerger 45 = .ok (.aload_n 0, 1) := by decide +kernel
theorem dX10_bestMerger_46 : decode cX10_bestMerger 46 = .ok (.getfield 10, 3) := by decide +kernel
theorem dX10_bestMerger_49 : decode cX10_bestMerger 49 = .ok (.getfield 255, 3) := by decide +kernel
theorem dX10_bestMerger_52 : decode cX10_bestMerger 52 = .ok (.if_icmp .ge 64, 3) := by decide +kernel
theorem dX10_bestMerger_55 : decode cX10_bestMerger 55 = .ok (.aload_n 0, 1) := by decide +kernel
theorem dX10_bestMerger_56 : decode cX10_bestMerger 56 = .ok (.iload 5, 2) := by decide +kernel
theorem dX10_bestMerger_58 : decode cX10_bestMerger 58 = .ok (.iload 6, 2) := by decide +kernel
theorem dX10_bestMerger_60 : decode cX10_bestMerger 60 = .ok (.iload_n 1, 1) := by decide +kernel
theorem dX10_bestMerger_61 : decode cX10_bestMerger 61 = .ok (.invokevirtual 252, 3) := by decide +kernel
theorem dX10_bestMerger_64 : decode cX10_bestMerger 64 = .ok (.istore 7, 2) := by decide +kernel
theorem dX10_bestMerger_66 : decode cX10_bestMerger 66 = .ok (.iload 7, 2) := by decide +kernel
theorem dX10_bestMerger_68 : decode cX10_bestMerger 68 = .ok (.iload 4, 2) := by decide +kernel
theorem dX10_bestMerger_70 : decode cX10_bestMerger 70 = .ok (.if_icmp .ge 40, 3) := by decide +kernel
theorem dX10_bestMerger_73 : decode cX10_bestMerger 73 = .ok (.iload 7, 2) := by decide +kernel
theorem dX10_bestMerger_75 : decode cX10_bestMerger 75 = .ok (.aload_n 0, 1) := by decide +kernel
theorem dX10_bestMerger_76 : decode cX10_bestMerger 76 = .ok (.iload 5, 2) := by decide +kernel
theorem dX10_bestMerger_78 : decode cX10_bestMerger 78 = .ok (.iload_n 1, 1) := by decide +kernel
theorem dX10_bestMerger_79 : decode cX10_bestMerger 79 = .ok (.invokevirtual 258, 3) := by decide +kernel
theorem dX10_bestMerger_82 : decode cX10_bestMerger 82 = .ok (.if_icmp .ge 28, 3) := by decide +kernel
theorem dX10_bestMerger_85 : decode cX10_bestMerger 85 = .ok (.iload 7, 2) := by decide +kernel
theorem dX10_bestMerger_87 : decode cX10_bestMerger 87 = .ok (.aload_n 0, 1) := by decide +kernel
theorem dX10_bestMerger_88 : decode cX10_bestMerger 88 = .ok (.iload 6, 2) := by decide +kernel
theorem dX10_bestMerger_90 : decode cX10_bestMerger 90 = .ok (.iload_n 1, 1) := by decide +kernel
theorem dX10_bestMerger_91 : decode cX10_bestMerger 91 = .ok (.invokevirtual 258, 3) := by decide +kernel
theorem dX10_bestMerger_94 : decode cX10_bestMerger 94 = .ok (.if_icmp .ge 16, 3) := by decide +kernel
theorem dX10_bestMerger_97 : decode cX10_bestMerger 97 = .ok (.iload 7, 2) := by decide +kernel
theorem dX10_bestMerger_99 : decode cX10_bestMerger 99 = .ok (.istore 4, 2) := by decide +kernel
theorem dX10_bestMerger_101 : decode cX10_bestMerger 101 = .ok (.bipush 10, 2) := by decide +kernel
theorem dX10_bestMerger_103 : decode cX10_bestMerger 103 = .ok (.iload 5, 2) := by decide +kernel
theorem dX10_bestMerger_105 : decode cX10_bestMerger 105 = .ok (.imul, 1) := by decide +kernel
theorem dX10_bestMerger_106 : decode cX10_bestMerger 106 = .ok (.iload 6, 2) := by decide +kernel
theorem dX10_bestMerger_108 : decode cX10_bestMerger 108 = .ok (.iadd, 1) := by decide +kernel
theorem dX10_bestMerger_109 : decode cX10_bestMerger 109 = .ok (.istore_n 3, 1) := by decide +kernel
theorem dX10_bestMerger_110 : decode cX10_bestMerger 110 = .ok (.iinc 6 1, 3) := by decide +kernel
theorem dX10_bestMerger_113 : decode cX10_bestMerger 113 = .ok (.goto (-70), 3) := by decide +kernel
theorem dX10_bestMerger_116 : decode cX10_bestMerger 116 = .ok (.iinc 5 1, 3) := by decide +kernel
theorem dX10_bestMerger_119 : decode cX10_bestMerger 119 = .ok (.goto (-94), 3) := by decide +kernel
theorem dX10_bestMerger_122 : decode cX10_bestMerger 122 = .ok (.iload_n 3, 1) := by decide +kernel
theorem dX10_bestMerger_123 : decode cX10_bestMerger 123 = .ok (.ireturn, 1) := by decide +kernel
theorem dX10_child_0 : decode cX10_child 0 = .ok (.aload_n 0, 1) := by decide +kernel
theorem dX10_child_1 : decode cX10_child 1 = .ok (.getfield 10, 3) := by decide +kernel
theorem dX10_child_4 : decode cX10_child 4 = .ok (.iload_n 1, 1) := by decide +kernel
theorem dX10_child_5 : decode cX10_child 5 = .ok (.invokevirtual 99, 3) := by decide +kernel
theorem dX10_child_8 : decode cX10_child 8 = .ok (.istore_n 3, 1) := by decide +kernel
theorem dX10_child_9 : decode cX10_child 9 = .ok (.iload_n 3, 1) := by decide +kernel
theorem dX10_child_10 : decode cX10_child 10 = .ok (.ifCond .ne 9, 3) := by decide +kernel
theorem dX10_child_13 : decode cX10_child 13 = .ok (.iload_n 2, 1) := by decide +kernel
theorem dX10_child_14 : decode cX10_child 14 = .ok (.iconst 1, 1) := by decide +kernel
theorem dX10_child_15 : decode cX10_child 15 = .ok (.invokestatic 102, 3) := by decide +kernel
theorem dX10_child_18 : decode cX10_child 18 = .ok (.istore_n 3, 1) := by decide +kernel
theorem dX10_child_19 : decode cX10_child 19 = .ok (.iload_n 3, 1) := by decide +kernel
theorem dX10_child_20 : decode cX10_child 20 = .ok (.ifCond .eq 14, 3) := by decide +kernel
theorem dX10_child_23 : decode cX10_child 23 = .ok (.ldc2_w 261, 3) := by decide +kernel
theorem dX10_child_26 : decode cX10_child 26 = .ok (.aload_n 0, 1) := by decide +kernel
theorem dX10_child_27 : decode cX10_child 27 = .ok (.iload_n 3, 1) := by decide +kernel
theorem dX10_child_28 : decode cX10_child 28 = .ok (.invokevirtual 67, 3) := by decide +kernel
theorem dX10_child_31 : decode cX10_child 31 = .ok (.i2l, 1) := by decide +kernel
theorem dX10_child_32 : decode cX10_child 32 = .ok (.lsub, 1) := by decide +kernel
theorem dX10_child_33 : decode cX10_child 33 = .ok (.lreturn, 1) := by decide +kernel
theorem dX10_child_34 : decode cX10_child 34 = .ok (.aload_n 0, 1) := by decide +kernel
theorem dX10_child_35 : decode cX10_child 35 = .ok (.getfield 10, 3) := by decide +kernel
theorem dX10_child_38 : decode cX10_child 38 = .ok (.iload_n 1, 1) := by decide +kernel
theorem dX10_child_39 : decode cX10_child 39 = .ok (.invokevirtual 106, 3) := by decide +kernel
theorem dX10_child_42 : decode cX10_child 42 = .ok (.getfield 113, 3) := by decide +kernel
theorem dX10_child_45 : decode cX10_child 45 = .ok (.i2l, 1) := by decide +kernel
theorem dX10_child_46 : decode cX10_child 46 = .ok (.aload_n 0, 1) := by decide +kernel
theorem dX10_child_47 : decode cX10_child 47 = .ok (.getfield 10, 3) := by decide +kernel
theorem dX10_child_50 : decode cX10_child 50 = .ok (.iload_n 1, 1) := by decide +kernel
theorem dX10_child_51 : decode cX10_child 51 = .ok (.invokevirtual 106, 3) := by decide +kernel
theorem dX10_child_54 : decode cX10_child 54 = .ok (.getfield 110, 3) := by decide +kernel
theorem dX10_child_57 : decode cX10_child 57 = .ok (.i2l, 1) := by decide +kernel
theorem dX10_child_58 : decode cX10_child 58 = .ok (.iload_n 2, 1) := by decide +kernel
theorem dX10_child_59 : decode cX10_child 59 = .ok (.invokestatic 263, 3) := by decide +kernel
theorem dX10_child_62 : decode cX10_child 62 = .ok (.lreturn, 1) := by decide +kernel
theorem dX10_cheapest_0 : decode cX10_cheapest 0 = .ok (.iload_n 1, 1) := by decide +kernel
theorem dX10_cheapest_1 : decode cX10_cheapest 1 = .ok (.invokestatic 178, 3) := by decide +kernel
theorem dX10_cheapest_4 : decode cX10_cheapest 4 = .ok (.istore_n 3, 1) := by decide +kernel
theorem dX10_cheapest_5 : decode cX10_cheapest 5 = .ok (.iload_n 3, 1) := by decide +kernel
theorem dX10_cheapest_6 : decode cX10_cheapest 6 = .ok (.ifCond .ne 9, 3) := by decide +kernel
theorem dX10_cheapest_9 : decode cX10_cheapest 9 = .ok (.iload_n 2, 1) := by decide +kernel
theorem dX10_cheapest_10 : decode cX10_cheapest 10 = .ok (.iconst 1, 1) := by decide +kernel
theorem dX10_cheapest_11 : decode cX10_cheapest 11 = .ok (.invokestatic 102, 3) := by decide +kernel
theorem dX10_cheapest_14 : decode cX10_cheapest 14 = .ok (.istore_n 3, 1) := by decide +kernel
theorem dX10_cheapest_15 : decode cX10_cheapest 15 = .ok (.iload_n 3, 1) := by decide +kernel
theorem dX10_cheapest_16 : decode cX10_cheapest 16 = .ok (.ifCond .eq 9, 3) := by decide +kernel
theorem dX10_cheapest_19 : decode cX10_cheapest 19 = .ok (.aload_n 0, 1) := by decide +kernel
theorem dX10_cheapest_20 : decode cX10_cheapest 20 = .ok (.iload_n 3, 1) := by decide +kernel
theorem dX10_cheapest_21 : decode cX10_cheapest 21 = .ok (.invokevirtual 67, 3) := by decide +kernel
theorem dX10_cheapest_24 : decode cX10_cheapest 24 = .ok (.ireturn, 1) := by decide +kernel
theorem dX10_cheapest_25 : decode cX10_cheapest 25 = .ok (.iload_n 2, 1) := by decide +kernel
theorem dX10_cheapest_26 : decode cX10_cheapest 26 = .ok (.ifCond .ne 10, 3) := by decide +kernel
theorem dX10_cheapest_29 : decode cX10_cheapest 29 = .ok (.aload_n 0, 1) := by decide +kernel
theorem dX10_cheapest_30 : decode cX10_cheapest 30 = .ok (.invokevirtual 267, 3) := by decide +kernel
theorem dX10_cheapest_33 : decode cX10_cheapest 33 = .ok (.goto 8, 3) := by decide +kernel
theorem dX10_cheapest_36 : decode cX10_cheapest 36 = .ok (.aload_n 0, 1) := by decide +kernel
theorem dX10_cheapest_37 : decode cX10_cheapest 37 = .ok (.iload_n 1, 1) := by decide +kernel
theorem dX10_cheapest_38 : decode cX10_cheapest 38 = .ok (.invokevirtual 270, 3) := by decide +kernel
theorem dX10_cheapest_41 : decode cX10_cheapest 41 = .ok (.ireturn, 1) := by decide +kernel
theorem dX10_treaty_0 : decode cX10_treaty 0 = .ok (.aload_n 0, 1) := by decide +kernel
theorem dX10_treaty_1 : decode cX10_treaty 1 = .ok (.iload_n 1, 1) := by decide +kernel
theorem dX10_treaty_2 : decode cX10_treaty 2 = .ok (.iload_n 2, 1) := by decide +kernel
theorem dX10_treaty_3 : decode cX10_treaty 3 = .ok (.iload_n 3, 1) := by decide +kernel
theorem dX10_treaty_4 : decode cX10_treaty 4 = .ok (.invokevirtual 249, 3) := by decide +kernel
theorem dX10_treaty_7 : decode cX10_treaty 7 = .ok (.istore 4, 2) := by decide +kernel
theorem dX10_treaty_9 : decode cX10_treaty 9 = .ok (.iload 4, 2) := by decide +kernel
theorem dX10_treaty_11 : decode cX10_treaty 11 = .ok (.ifCond .eq 12, 3) := by decide +kernel
theorem dX10_treaty_14 : decode cX10_treaty 14 = .ok (.aload_n 0, 1) := by decide +kernel
theorem dX10_treaty_15 : decode cX10_treaty 15 = .ok (.iload 4, 2) := by decide +kernel
theorem dX10_treaty_17 : decode cX10_treaty 17 = .ok (.invokevirtual 67, 3) := by decide +kernel
theorem dX10_treaty_20 : decode cX10_treaty 20 = .ok (.goto 19, 3) := by decide +kernel
theorem dX10_treaty_23 : decode cX10_treaty 23 = .ok (.bipush 10, 2) := by decide +kernel
theorem dX10_treaty_25 : decode cX10_treaty 25 = .ok (.aload_n 0, 1) := by decide +kernel
theorem dX10_treaty_26 : decode cX10_treaty 26 = .ok (.iload_n 1, 1) := by decide +kernel
theorem dX10_treaty_27 : decode cX10_treaty 27 = .ok (.iload_n 3, 1) := by decide +kernel
theorem dX10_treaty_28 : decode cX10_treaty 28 = .ok (.invokevirtual 273, 3) := by decide +kernel
theorem dX10_treaty_31 : decode cX10_treaty 31 = .ok (.imul, 1) := by decide +kernel
theorem dX10_treaty_32 : decode cX10_treaty 32 = .ok (.aload_n 0, 1) := by decide +kernel
theorem dX10_treaty_33 : decode cX10_treaty 33 = .ok (.iload_n 2, 1) := by decide +kernel
theorem dX10_treaty_34 : decode cX10_treaty 34 = .ok (.iload_n 3, 1) := by decide +kernel
theorem dX10_treaty_35 : decode cX10_treaty 35 = .ok (.invokevirtual 273, 3) := by decide +kernel
theorem dX10_treaty_38 : decode cX10_treaty 38 = .ok (.iadd, 1) := by decide +kernel
theorem dX10_treaty_39 : decode cX10_treaty 39 = .ok (.ireturn, 1) := by decide +kernel
theorem dX10_signature_0 : decode cX10_signature 0 = .ok (.aload_n 0, 1) := by decide +kernel
theorem dX10_signature_1 : decode cX10_signature 1 = .ok (.getfield 10, 3) := by decide +kernel
theorem dX10_signature_4 : decode cX10_signature 4 = .ok (.iload_n 1, 1) := by decide +kernel
theorem dX10_signature_5 : decode cX10_signature 5 = .ok (.invokevirtual 125, 3) := by decide +kernel
theorem dX10_signature_8 : decode cX10_signature 8 = .ok (.astore_n 3, 1) := by decide +kernel
theorem dX10_signature_9 : decode cX10_signature 9 = .ok (.aload_n 3, 1) := by decide +kernel
theorem dX10_signature_10 : decode cX10_signature 10 = .ok (.ifnonnull 9, 3) := by decide +kernel
theorem dX10_signature_13 : decode cX10_signature 13 = .ok (.aload_n 0, 1) := by decide +kernel
theorem dX10_signature_14 : decode cX10_signature 14 = .ok (.iconst (-1), 1) := by decide +kernel
theorem dX10_signature_15 : decode cX10_signature 15 = .ok (.invokevirtual 67, 3) := by decide +kernel
theorem dX10_signature_18 : decode cX10_signature 18 = .ok (.ireturn, 1) := by decide +kernel
theorem dX10_signature_19 : decode cX10_signature 19 = .ok (.iload_n 2, 1) := by decide +kernel
theorem dX10_signature_20 : decode cX10_signature 20 = .ok (.iconst 1, 1) := by decide +kernel
theorem dX10_signature_21 : decode cX10_signature 21 = .ok (.invokestatic 102, 3) := by decide +kernel
theorem dX10_signature_24 : decode cX10_signature 24 = .ok (.ifCond .eq 10, 3) := by decide +kernel
theorem dX10_signature_27 : decode cX10_signature 27 = .ok (.aload_n 0, 1) := by decide +kernel
theorem dX10_signature_28 : decode cX10_signature 28 = .ok (.bipush (-2), 2) := by decide +kernel
theorem dX10_signature_30 : decode cX10_signature 30 = .ok (.invokevirtual 67, 3) := by decide +kernel
theorem dX10_signature_33 : decode cX10_signature 33 = .ok (.ireturn, 1) := by decide +kernel
theorem dX10_signature_34 : decode cX10_signature 34 = .ok (.aload_n 0, 1) := by decide +kernel
theorem dX10_signature_35 : decode cX10_signature 35 = .ok (.getfield 10, 3) := by decide +kernel
theorem dX10_signature_38 : decode cX10_signature 38 = .ok (.aload_n 0, 1) := by decide +kernel
theorem dX10_signature_39 : decode cX10_signature 39 = .ok (.getfield 10, 3) := by decide +kernel
theorem dX10_signature_42 : decode cX10_signature 42 = .ok (.invokevirtual 276, 3) := by decide +kernel
theorem dX10_signature_45 : decode cX10_signature 45 = .ok (.invokevirtual 279, 3) := by decide +kernel
theorem dX10_signature_48 : decode cX10_signature 48 = .ok (.istore 4, 2) := by decide +kernel
theorem dX10_signature_50 : decode cX10_signature 50 = .ok (.aload_n 3, 1) := by decide +kernel
theorem dX10_signature_51 : decode cX10_signature 51 = .ok (.getfield 137, 3) := by decide +kernel
theorem dX10_signature_54 : decode cX10_signature 54 = .ok (.iload 4, 2) := by decide +kernel
theorem dX10_signature_56 : decode cX10_signature 56 = .ok (.invokestatic 282, 3) := by decide +kernel
theorem dX10_signature_59 : decode cX10_signature 59 = .ok (.istore 5, 2) := by decide +kernel
theorem dX10_signature_61 : decode cX10_signature 61 = .ok (.iconst 0, 1) := by decide +kernel
theorem dX10_signature_62 : decode cX10_signature 62 = .ok (.istore 6, 2) := by decide +kernel
theorem dX10_signature_64 : decode cX10_signature 64 = .ok (.iconst 0, 1) := by decide +kernel
theorem dX10_signature_65 : decode cX10_signature 65 = .ok (.istore 7, 2) := by decide +kernel
theorem dX10_signature_67 : decode cX10_signature 67 = .ok (.iload 7, 2) := by decide +kernel
theorem dX10_signature_69 : decode cX10_signature 69 = .ok (.aload_n 0, 1) := by decide +kernel
theorem dX10_signature_70 : decode cX10_signature 70 = .ok (.getfield 10, 3) := by decide +kernel
theorem dX10_signature_73 : decode cX10_signature 73 = .ok (.getfield 255, 3) := by decide +kernel
theorem dX10_signature_76 : decode cX10_signature 76 = .ok (.if_icmp .ge 50, 3) := by decide +kernel
theorem dX10_signature_79 : decode cX10_signature 79 = .ok (.aload_n 0, 1) := by decide +kernel
theorem dX10_signature_80 : decode cX10_signature 80 = .ok (.getfield 10, 3) := by decide +kernel
theorem dX10_signature_83 : decode cX10_signature 83 = .ok (.iload 7, 2) := by decide +kernel
theorem dX10_signature_85 : decode cX10_signature 85 = .ok (.invokevirtual 106, 3) := by decide +kernel
theorem dX10_signature_88 : decode cX10_signature 88 = .ok (.getfield 110, 3) := by decide +kernel
theorem dX10_signature_91 : decode cX10_signature 91 = .ok (.istore 8, 2) := by decide +kernel
theorem dX10_signature_93 : decode cX10_signature 93 = .ok (.aload_n 0, 1) := by decide +kernel
theorem dX10_signature_94 : decode cX10_signature 94 = .ok (.getfield 10, 3) := by decide +kernel
theorem dX10_signature_97 : decode cX10_signature 97 = .ok (.iload_n 1, 1) := by decide +kernel
theorem dX10_signature_98 : decode cX10_signature 98 = .ok (.iload 7, 2) := by decide +kernel
theorem dX10_signature_100 : decode cX10_signature 100 = .ok (.invokevirtual 230, 3) := by decide +kernel
theorem dX10_signature_103 : decode cX10_signature 103 = .ok (.iload 8, 2) := by decide +kernel
theorem dX10_signature_105 : decode cX10_signature 105 = .ok (.invokestatic 282, 3) := by decide +kernel
theorem dX10_signature_108 : decode cX10_signature 108 = .ok (.iload 5, 2) := by decide +kernel
theorem dX10_signature_110 : decode cX10_signature 110 = .ok (.if_icmp .gt 10, 3) := by decide +kernel
theorem dX10_signature_113 : decode cX10_signature 113 = .ok (.iload 6, 2) := by decide +kernel
theorem dX10_signature_115 : decode cX10_signature 115 = .ok (.iload 8, 2) := by decide +kernel
theorem dX10_signature_117 : decode cX10_signature 117 = .ok (.iadd, 1) := by decide +kernel
theorem dX10_signature_118 : decode cX10_signature 118 = .ok (.istore 6, 2) := by decide +kernel
theorem dX10_signature_120 : decode cX10_signature 120 = .ok (.iinc 7 1, 3) := by decide +kernel
theorem dX10_signature_123 : decode cX10_signature 123 = .ok (.goto (-56), 3) := by decide +kernel
theorem dX10_signature_126 : decode cX10_signature 126 = .ok (.iload_n 2, 1) := by decide +kernel
theorem dX10_signature_127 : decode cX10_signature 127 = .ok (.ifCond .ne 6, 3) := by decide +kernel
theorem dX10_signature_130 : decode cX10_signature 130 = .ok (.iload 6, 2) := by decide +kernel
theorem dX10_signature_132 : decode cX10_signature 132 = .ok (.ireturn, 1) := by decide +kernel
theorem dX10_signature_133 : decode cX10_signature 133 = .ok (.iconst 2, 1) := by decide +kernel
theorem dX10_signature_134 : decode cX10_signature 134 = .ok (.iload 6, 2) := by decide +kernel
theorem dX10_signature_136 : decode cX10_signature 136 = .ok (.imul, 1) := by decide +kernel
theorem dX10_signature_137 : decode cX10_signature 137 = .ok (.iload 4, 2) := by decide +kernel
theorem dX10_signature_139 : decode cX10_signature 139 = .ok (.if_icmp .le 7, 3) := by decide +kernel
theorem dX10_signature_142 : decode cX10_signature 142 = .ok (.iconst 1, 1) := by decide +kernel
theorem dX10_signature_143 : decode cX10_signature 143 = .ok (.goto 4, 3) := by decide +kernel
theorem dX10_signature_146 : decode cX10_signature 146 = .ok (.iconst 0, 1) := by decide +kernel
theorem dX10_signature_147 : decode cX10_signature 147 = .ok (.ireturn, 1) := by decide +kernel
theorem dX10_whoBuilt_0 : decode cX10_whoBuilt 0 = .ok (.iload_n 1, 1) := by decide +kernel
theorem dX10_whoBuilt_1 : decode cX10_whoBuilt 1 = .ok (.iconst 1, 1) := by decide +kernel
theorem dX10_whoBuilt_2 : decode cX10_whoBuilt 2 = .ok (.invokestatic 102, 3) := by decide +kernel
theorem dX10_whoBuilt_5 : decode cX10_whoBuilt 5 = .ok (.ifCond .eq 10, 3) := by decide +kernel
theorem dX10_whoBuilt_8 : decode cX10_whoBuilt 8 = .ok (.aload_n 0, 1) := by decide +kernel
theorem dX10_whoBuilt_9 : decode cX10_whoBuilt 9 = .ok (.bipush (-2), 2) := by decide +kernel
theorem dX10_whoBuilt_11 : decode cX10_whoBuilt 11 = .ok (.invokevirtual 67, 3) := by decide +kernel
theorem dX10_whoBuilt_14 : decode cX10_whoBuilt 14 = .ok (.ireturn, 1) := by decide +kernel
theorem dX10_whoBuilt_15 : decode cX10_whoBuilt 15 = .ok (.aload_n 0, 1) := by decide +kernel
theorem dX10_whoBuilt_16 : decode cX10_whoBuilt 16 = .ok (.getfield 285, 3) := by decide +kernel
theorem dX10_whoBuilt_19 : decode cX10_whoBuilt 19 = .ok (.aload_n 0, 1) := by decide +kernel
theorem dX10_whoBuilt_20 : decode cX10_whoBuilt 20 = .ok (.getfield 10, 3) := by decide +kernel
theorem dX10_whoBuilt_23 : decode cX10_whoBuilt 23 = .ok (.getfield 255, 3) := by decide +kernel
theorem dX10_whoBuilt_26 : decode cX10_whoBuilt 26 = .ok (.if_icmp .eq 10, 3) := by decide +kernel
theorem dX10_whoBuilt_29 : decode cX10_whoBuilt 29 = .ok (.aload_n 0, 1) := by decide +kernel
theorem dX10_whoBuilt_30 : decode cX10_whoBuilt 30 = .ok (.bipush (-3), 2) := by decide +kernel
theorem dX10_whoBuilt_32 : decode cX10_whoBuilt 32 = .ok (.invokevirtual 67, 3) := by decide +kernel
theorem dX10_whoBuilt_35 : decode cX10_whoBuilt 35 = .ok (.ireturn, 1) := by decide +kernel
theorem dX10_whoBuilt_36 : decode cX10_whoBuilt 36 = .ok (.iconst 0, 1) := by decide +kernel
theorem dX10_whoBuilt_37 : decode cX10_whoBuilt 37 = .ok (.istore_n 2, 1) := by decide +kernel
theorem dX10_whoBuilt_38 : decode cX10_whoBuilt 38 = .ok (.bipush (-9), 2) := by decide +kernel
theorem dX10_whoBuilt_40 : decode cX10_whoBuilt 40 = .ok (.istore_n 3, 1) := by decide +kernel
theorem dX10_whoBuilt_41 : decode cX10_whoBuilt 41 = .ok (.iconst 0, 1) := by decide +kernel
theorem dX10_whoBuilt_42 : decode cX10_whoBuilt 42 = .ok (.istore 4, 2) := by decide +kernel
theorem dX10_whoBuilt_44 : decode cX10_whoBuilt 44 = .ok (.iload 4, 2) := by decide +kernel
theorem dX10_whoBuilt_46 : decode cX10_whoBuilt 46 = .ok (.aload_n 0, 1) := by decide +kernel
theorem dX10_whoBuilt_47 : decode cX10_whoBuilt 47 = .ok (.getfield 10, 3) := by decide +kernel
theorem dX10_whoBuilt_50 : decode cX10_whoBuilt 50 = .ok (.invokevirtual 206, 3) := by decide +kernel
theorem dX10_whoBuilt_53 : decode cX10_whoBuilt 53 = .ok (.if_icmp .ge 31, 3) := by decide +kernel
theorem dX10_whoBuilt_56 : decode cX10_whoBuilt 56 = .ok (.aload_n 0, 1) := by decide +kernel
theorem dX10_whoBuilt_57 : decode cX10_whoBuilt 57 = .ok (.iload 4, 2) := by decide +kernel
theorem dX10_whoBuilt_59 : decode cX10_whoBuilt 59 = .ok (.invokevirtual 288, 3) := by decide +kernel
theorem dX10_whoBuilt_62 : decode cX10_whoBuilt 62 = .ok (.ifCond .ne 6, 3) := by decide +kernel
theorem dX10_whoBuilt_65 : decode cX10_whoBuilt 65 = .ok (.goto 13, 3) := by decide +kernel
theorem dX10_whoBuilt_68 : decode cX10_whoBuilt 68 = .ok (.iload_n 2, 1) := by decide +kernel
theorem dX10_whoBuilt_69 : decode cX10_whoBuilt 69 = .ok (.ifCond .ne 6, 3) := by decide +kernel
theorem dX10_whoBuilt_72 : decode cX10_whoBuilt 72 = .ok (.iload 4, 2) := by decide +kernel
theorem dX10_whoBuilt_74 : decode cX10_whoBuilt 74 = .ok (.istore_n 3, 1) := by decide +kernel
theorem dX10_whoBuilt_75 : decode cX10_whoBuilt 75 = .ok (.iinc 2 1, 3) := by decide +kernel
theorem dX10_whoBuilt_78 : decode cX10_whoBuilt 78 = .ok (.iinc 4 1, 3) := by decide +kernel
theorem dX10_whoBuilt_81 : decode cX10_whoBuilt 81 = .ok (.goto (-37), 3) := by decide +kernel
theorem dX10_whoBuilt_84 : decode cX10_whoBuilt 84 = .ok (.iload_n 1, 1) := by decide +kernel
theorem dX10_whoBuilt_85 : decode cX10_whoBuilt 85 = .ok (.ifCond .ne 7, 3) := by decide +kernel
theorem dX10_whoBuilt_88 : decode cX10_whoBuilt 88 = .ok (.iload_n 2, 1) := by decide +kernel
theorem dX10_whoBuilt_89 : decode cX10_whoBuilt 89 = .ok (.goto 4, 3) := by decide +kernel
theorem dX10_whoBuilt_92 : decode cX10_whoBuilt 92 = .ok (.iload_n 3, 1) := by decide +kernel
theorem dX10_whoBuilt_93 : decode cX10_whoBuilt 93 = .ok (.ireturn, 1) := by decide +kernel
theorem dX10_births_0 : decode cX10_births 0 = .ok (.aload_n 0, 1) := by decide +kernel
theorem dX10_births_1 : decode cX10_births 1 = .ok (.getfield 10, 3) := by decide +kernel
theorem dX10_births_4 : decode cX10_births 4 = .ok (.iload_n 1, 1) := by decide +kernel
theorem dX10_births_5 : decode cX10_births 5 = .ok (.invokevirtual 99, 3) := by decide +kernel
theorem dX10_births_8 : decode cX10_births 8 = .ok (.istore 6, 2) := by decide +kernel
theorem dX10_births_10 : decode cX10_births 10 = .ok (.iload 6, 2) := by decide +kernel
theorem dX10_births_12 : decode cX10_births 12 = .ok (.ifCond .ne 21, 3) := by decide +kernel
theorem dX10_births_15 : decode cX10_births 15 = .ok (.iload_n 2, 1) := by decide +kernel
theorem dX10_births_16 : decode cX10_births 16 = .ok (.ifCond .lt 13, 3) := by decide +kernel
theorem dX10_births_19 : decode cX10_births 19 = .ok (.iload_n 3, 1) := by decide +kernel
theorem dX10_births_20 : decode cX10_births 20 = .ok (.ifCond .lt 9, 3) := by decide +kernel
theorem dX10_births_23 : decode cX10_births 23 = .ok (.iload 4, 2) := by decide +kernel
theorem dX10_births_25 : decode cX10_births 25 = .ok (.iconst 2, 1) := by decide +kernel
theorem dX10_births_26 : decode cX10_births 26 = .ok (.if_icmp .ge 7, 3) := by decide +kernel
theorem dX10_births_29 : decode cX10_births 29 = .ok (.bipush (-4), 2) := by decide +kernel
theorem dX10_births_31 : decode cX10_births 31 = .ok (.istore 6, 2) := by decide +kernel
theorem dX10_births_33 : decode cX10_births 33 = .ok (.iload 6, 2) := by decide +kernel
theorem dX10_births_35 : decode cX10_births 35 = .ok (.ifCond .ne 27, 3) := by decide +kernel
theorem dX10_births_38 : decode cX10_births 38 = .ok (.iload_n 2, 1) := by decide +kernel
theorem dX10_births_39 : decode cX10_births 39 = .ok (.bipush 8, 2) := by decide +kernel
theorem dX10_births_41 : decode cX10_births 41 = .ok (.if_icmp .gt 17, 3) := by decide +kernel
theorem dX10_births_44 : decode cX10_births 44 = .ok (.iload_n 3, 1) := by decide +kernel
theorem dX10_births_45 : decode cX10_births 45 = .ok (.sipush 999, 3) := by decide +kernel
theorem dX10_births_48 : decode cX10_births 48 = .ok (.if_icmp .gt 10, 3) := by decide +kernel
theorem dX10_births_51 : decode cX10_births 51 = .ok (.iload 4, 2) := by decide +kernel
theorem dX10_births_53 : decode cX10_births 53 = .ok (.bipush 20, 2) := by decide +kernel
theorem dX10_births_55 : decode cX10_births 55 = .ok (.if_icmp .le 7, 3) := by decide +kernel
theorem dX10_births_58 : decode cX10_births 58 = .ok (.bipush (-6), 2) := by decide +kernel
theorem dX10_births_60 : decode cX10_births 60 = .ok (.istore 6, 2) := by decide +kernel
theorem dX10_births_62 : decode cX10_births 62 = .ok (.iload 6, 2) := by decide +kernel
theorem dX10_births_64 : decode cX10_births 64 = .ok (.ifCond .ne 11, 3) := by decide +kernel
theorem dX10_births_67 : decode cX10_births 67 = .ok (.iload 5, 2) := by decide +kernel
theorem dX10_births_69 : decode cX10_births 69 = .ok (.iconst 1, 1) := by decide +kernel
theorem dX10_births_70 : decode cX10_births 70 = .ok (.invokestatic 102, 3) := by decide +kernel
theorem dX10_births_73 : decode cX10_births 73 = .ok (.istore 6, 2) := by decide +kernel
theorem dX10_births_75 : decode cX10_births 75 = .ok (.iload 6, 2) := by decide +kernel
theorem dX10_births_77 : decode cX10_births 77 = .ok (.ifCond .eq 15, 3) := by decide +kernel
theorem dX10_births_80 : decode cX10_births 80 = .ok (.ldc2_w 261, 3) := by decide +kernel
theorem dX10_births_83 : decode cX10_births 83 = .ok (.aload_n 0, 1) := by decide +kernel
theorem dX10_births_84 : decode cX10_births 84 = .ok (.iload 6, 2) := by decide +kernel
theorem dX10_births_86 : decode cX10_births 86 = .ok (.invokevirtual 67, 3) := by decide +kernel
theorem dX10_births_89 : decode cX10_births 89 = .ok (.i2l, 1) := by decide +kernel
theorem dX10_births_90 : decode cX10_births 90 = .ok (.lsub, 1) := by decide +kernel
theorem dX10_births_91 : decode cX10_births 91 = .ok (.lreturn, 1) := by decide +kernel
theorem dX10_births_92 : decode cX10_births 92 = .ok (.lconst 0, 1) := by decide +kernel
theorem dX10_births_93 : decode cX10_births 93 = .ok (.lstore 7, 2) := by decide +kernel
theorem dX10_births_95 : decode cX10_births 95 = .ok (.lconst 0, 1) := by decide +kernel
theorem dX10_births_96 : decode cX10_births 96 = .ok (.lstore 9, 2) := by decide +kernel
theorem dX10_births_98 : decode cX10_births 98 = .ok (.iconst 0, 1) := by decide +kernel
theorem dX10_births_99 : decode cX10_births 99 = .ok (.istore 11, 2) := by decide +kernel
theorem dX10_births_101 : decode cX10_births 101 = .ok (.iload 11, 2) := by decide +kernel
theorem dX10_births_103 : decode cX10_births 103 = .ok (.iconst 1, 1) := by decide +kernel
theorem dX10_births_104 : decode cX10_births 104 = .ok (.iload_n 2, 1) := by decide +kernel
theorem dX10_births_105 : decode cX10_births 105 = .ok (.ishl, 1) := by decide +kernel
theorem dX10_births_106 : decode cX10_births 106 = .ok (.if_icmp .ge 52, 3) := by decide +kernel
theorem dX10_births_109 : decode cX10_births 109 = .ok (.iload 11, 2) := by decide +kernel
theorem dX10_births_111 : decode cX10_births 111 = .ok (.iload_n 2, 1) := by decide +kernel
theorem dX10_births_112 : decode cX10_births 112 = .ok (.iload 4, 2) := by decide +kernel
theorem dX10_births_114 : decode cX10_births 114 = .ok (.invokestatic 291, 3) := by decide +kernel
theorem dX10_births_117 : decode cX10_births 117 = .ok (.lstore 12, 2) := by decide +kernel
theorem dX10_births_119 : decode cX10_births 119 = .ok (.lload 9, 2) := by decide +kernel
theorem dX10_births_121 : decode cX10_births 121 = .ok (.lload 12, 2) := by decide +kernel
theorem dX10_births_123 : decode cX10_births 123 = .ok (.ladd, 1) := by decide +kernel
theorem dX10_births_124 : decode cX10_births 124 = .ok (.lstore 9, 2) := by decide +kernel
end
section
theorem dX10_births_126 : decode cX10_births 126 = .ok (.aload_n 0, 1) := by decide +kernel
theorem dX10_births_127 : decode cX10_births 127 = .ok (.iload_n 1, 1) := by decide +kernel
theorem dX10_births_128 : decode cX10_births 128 = .ok (.iload 11, 2) := by decide +kernel
theorem dX10_births_130 : decode cX10_births 130 = .ok (.iload_n 2, 1) := by decide +kernel
theorem dX10_births_131 : decode cX10_births 131 = .ok (.invokevirtual 295, 3) := by decide +kernel
theorem dX10_births_134 : decode cX10_births 134 = .ok (.aload_n 0, 1) := by decide +kernel
theorem dX10_births_135 : decode cX10_births 135 = .ok (.getfield 46, 3) := by decide +kernel
theorem dX10_births_138 : decode cX10_births 138 = .ok (.invokevirtual 122, 3) := by decide +kernel
theorem dX10_births_141 : decode cX10_births 141 = .ok (.iload_n 3, 1) := by decide +kernel
theorem dX10_births_142 : decode cX10_births 142 = .ok (.if_icmp .gt 10, 3) := by decide +kernel
theorem dX10_births_145 : decode cX10_births 145 = .ok (.lload 7, 2) := by decide +kernel
theorem dX10_births_147 : decode cX10_births 147 = .ok (.lload 12, 2) := by decide +kernel
theorem dX10_births_149 : decode cX10_births 149 = .ok (.ladd, 1) := by decide +kernel
theorem dX10_births_150 : decode cX10_births 150 = .ok (.lstore 7, 2) := by decide +kernel
theorem dX10_births_152 : decode cX10_births 152 = .ok (.iinc 11 1, 3) := by decide +kernel
theorem dX10_births_155 : decode cX10_births 155 = .ok (.goto (-54), 3) := by decide +kernel
theorem dX10_births_158 : decode cX10_births 158 = .ok (.lload 7, 2) := by decide +kernel
theorem dX10_births_160 : decode cX10_births 160 = .ok (.lload 9, 2) := by decide +kernel
theorem dX10_births_162 : decode cX10_births 162 = .ok (.iload 5, 2) := by decide +kernel
theorem dX10_births_164 : decode cX10_births 164 = .ok (.invokestatic 263, 3) := by decide +kernel
theorem dX10_births_167 : decode cX10_births 167 = .ok (.lreturn, 1) := by decide +kernel
theorem dX10_back_0 : decode cX10_back 0 = .ok (.aload_n 0, 1) := by decide +kernel
theorem dX10_back_1 : decode cX10_back 1 = .ok (.getfield 25, 3) := by decide +kernel
theorem dX10_back_4 : decode cX10_back 4 = .ok (.getfield 298, 3) := by decide +kernel
theorem dX10_back_7 : decode cX10_back 7 = .ok (.ifCond .ne 10, 3) := by decide +kernel
theorem dX10_back_10 : decode cX10_back 10 = .ok (.aload_n 0, 1) := by decide +kernel
theorem dX10_back_11 : decode cX10_back 11 = .ok (.bipush (-3), 2) := by decide +kernel
theorem dX10_back_13 : decode cX10_back 13 = .ok (.invokevirtual 67, 3) := by decide +kernel
theorem dX10_back_16 : decode cX10_back 16 = .ok (.ireturn, 1) := by decide +kernel
theorem dX10_back_17 : decode cX10_back 17 = .ok (.aload_n 0, 1) := by decide +kernel
theorem dX10_back_18 : decode cX10_back 18 = .ok (.getfield 25, 3) := by decide +kernel
theorem dX10_back_21 : decode cX10_back 21 = .ok (.aload_n 0, 1) := by decide +kernel
theorem dX10_back_22 : decode cX10_back 22 = .ok (.getfield 10, 3) := by decide +kernel
theorem dX10_back_25 : decode cX10_back 25 = .ok (.invokevirtual 299, 3) := by decide +kernel
theorem dX10_back_28 : decode cX10_back 28 = .ok (.aload_n 0, 1) := by decide +kernel
theorem dX10_back_29 : decode cX10_back 29 = .ok (.getfield 25, 3) := by decide +kernel
theorem dX10_back_32 : decode cX10_back 32 = .ok (.getfield 298, 3) := by decide +kernel
theorem dX10_back_35 : decode cX10_back 35 = .ok (.ireturn, 1) := by decide +kernel
theorem dX10_oldest_0 : decode cX10_oldest 0 = .ok (.iload_n 1, 1) := by decide +kernel
theorem dX10_oldest_1 : decode cX10_oldest 1 = .ok (.iconst 1, 1) := by decide +kernel
theorem dX10_oldest_2 : decode cX10_oldest 2 = .ok (.invokestatic 102, 3) := by decide +kernel
theorem dX10_oldest_5 : decode cX10_oldest 5 = .ok (.ifCond .eq 10, 3) := by decide +kernel
theorem dX10_oldest_8 : decode cX10_oldest 8 = .ok (.aload_n 0, 1) := by decide +kernel
theorem dX10_oldest_9 : decode cX10_oldest 9 = .ok (.bipush (-2), 2) := by decide +kernel
theorem dX10_oldest_11 : decode cX10_oldest 11 = .ok (.invokevirtual 67, 3) := by decide +kernel
theorem dX10_oldest_14 : decode cX10_oldest 14 = .ok (.ireturn, 1) := by decide +kernel
theorem dX10_oldest_15 : decode cX10_oldest 15 = .ok (.aload_n 0, 1) := by decide +kernel
theorem dX10_oldest_16 : decode cX10_oldest 16 = .ok (.getfield 10, 3) := by decide +kernel
theorem dX10_oldest_19 : decode cX10_oldest 19 = .ok (.iload_n 1, 1) := by decide +kernel
theorem dX10_oldest_20 : decode cX10_oldest 20 = .ok (.ifCond .ne 7, 3) := by decide +kernel
theorem dX10_oldest_23 : decode cX10_oldest 23 = .ok (.iconst 0, 1) := by decide +kernel
theorem dX10_oldest_24 : decode cX10_oldest 24 = .ok (.goto 12, 3) := by decide +kernel
theorem dX10_oldest_27 : decode cX10_oldest 27 = .ok (.aload_n 0, 1) := by decide +kernel
theorem dX10_oldest_28 : decode cX10_oldest 28 = .ok (.getfield 10, 3) := by decide +kernel
theorem dX10_oldest_31 : decode cX10_oldest 31 = .ok (.getfield 302, 3) := by decide +kernel
theorem dX10_oldest_34 : decode cX10_oldest 34 = .ok (.iconst 1, 1) := by decide +kernel
theorem dX10_oldest_35 : decode cX10_oldest 35 = .ok (.isub, 1) := by decide +kernel
theorem dX10_oldest_36 : decode cX10_oldest 36 = .ok (.invokevirtual 305, 3) := by decide +kernel
theorem dX10_oldest_39 : decode cX10_oldest 39 = .ok (.ireturn, 1) := by decide +kernel
theorem dX10_order_0 : decode cX10_order 0 = .ok (.iload_n 1, 1) := by decide +kernel
theorem dX10_order_1 : decode cX10_order 1 = .ok (.iconst (-1), 1) := by decide +kernel
theorem dX10_order_2 : decode cX10_order 2 = .ok (.if_icmp .ge 10, 3) := by decide +kernel
theorem dX10_order_5 : decode cX10_order 5 = .ok (.aload_n 0, 1) := by decide +kernel
theorem dX10_order_6 : decode cX10_order 6 = .ok (.bipush (-4), 2) := by decide +kernel
theorem dX10_order_8 : decode cX10_order 8 = .ok (.invokevirtual 67, 3) := by decide +kernel
theorem dX10_order_11 : decode cX10_order 11 = .ok (.ireturn, 1) := by decide +kernel
theorem dX10_order_12 : decode cX10_order 12 = .ok (.aload_n 0, 1) := by decide +kernel
theorem dX10_order_13 : decode cX10_order 13 = .ok (.getfield 10, 3) := by decide +kernel
theorem dX10_order_16 : decode cX10_order 16 = .ok (.getfield 220, 3) := by decide +kernel
theorem dX10_order_19 : decode cX10_order 19 = .ok (.aload_n 0, 1) := by decide +kernel
theorem dX10_order_20 : decode cX10_order 20 = .ok (.getfield 10, 3) := by decide +kernel
theorem dX10_order_23 : decode cX10_order 23 = .ok (.getfield 302, 3) := by decide +kernel
theorem dX10_order_26 : decode cX10_order 26 = .ok (.isub, 1) := by decide +kernel
theorem dX10_order_27 : decode cX10_order 27 = .ok (.istore_n 2, 1) := by decide +kernel
theorem dX10_order_28 : decode cX10_order 28 = .ok (.iload_n 2, 1) := by decide +kernel
theorem dX10_order_29 : decode cX10_order 29 = .ok (.iconst 5, 1) := by decide +kernel
theorem dX10_order_30 : decode cX10_order 30 = .ok (.if_icmp .le 10, 3) := by decide +kernel
theorem dX10_order_33 : decode cX10_order 33 = .ok (.aload_n 0, 1) := by decide +kernel
theorem dX10_order_34 : decode cX10_order 34 = .ok (.bipush (-3), 2) := by decide +kernel
theorem dX10_order_36 : decode cX10_order 36 = .ok (.invokevirtual 67, 3) := by decide +kernel
theorem dX10_order_39 : decode cX10_order 39 = .ok (.ireturn, 1) := by decide +kernel
theorem dX10_order_40 : decode cX10_order 40 = .ok (.ldc 219, 2) := by decide +kernel
theorem dX10_order_42 : decode cX10_order 42 = .ok (.istore_n 3, 1) := by decide +kernel
theorem dX10_order_43 : decode cX10_order 43 = .ok (.iload_n 2, 1) := by decide +kernel
theorem dX10_order_44 : decode cX10_order 44 = .ok (.invokestatic 308, 3) := by decide +kernel
theorem dX10_order_47 : decode cX10_order 47 = .ok (.istore 4, 2) := by decide +kernel
theorem dX10_order_49 : decode cX10_order 49 = .ok (.iconst 0, 1) := by decide +kernel
theorem dX10_order_50 : decode cX10_order 50 = .ok (.istore 5, 2) := by decide +kernel
theorem dX10_order_52 : decode cX10_order 52 = .ok (.iload 5, 2) := by decide +kernel
theorem dX10_order_54 : decode cX10_order 54 = .ok (.iload 4, 2) := by decide +kernel
theorem dX10_order_56 : decode cX10_order 56 = .ok (.if_icmp .ge 50, 3) := by decide +kernel
theorem dX10_order_59 : decode cX10_order 59 = .ok (.aload_n 0, 1) := by decide +kernel
theorem dX10_order_60 : decode cX10_order 60 = .ok (.iload 5, 2) := by decide +kernel
theorem dX10_order_62 : decode cX10_order 62 = .ok (.iload_n 2, 1) := by decide +kernel
theorem dX10_order_63 : decode cX10_order 63 = .ok (.invokevirtual 311, 3) := by decide +kernel
theorem dX10_order_66 : decode cX10_order 66 = .ok (.aload_n 0, 1) := by decide +kernel
theorem dX10_order_67 : decode cX10_order 67 = .ok (.iload_n 2, 1) := by decide +kernel
theorem dX10_order_68 : decode cX10_order 68 = .ok (.invokevirtual 314, 3) := by decide +kernel
theorem dX10_order_71 : decode cX10_order 71 = .ok (.istore 6, 2) := by decide +kernel
theorem dX10_order_73 : decode cX10_order 73 = .ok (.iload 6, 2) := by decide +kernel
theorem dX10_order_75 : decode cX10_order 75 = .ok (.iload_n 3, 1) := by decide +kernel
theorem dX10_order_76 : decode cX10_order 76 = .ok (.if_icmp .ge 24, 3) := by decide +kernel
theorem dX10_order_79 : decode cX10_order 79 = .ok (.iload 6, 2) := by decide +kernel
theorem dX10_order_81 : decode cX10_order 81 = .ok (.istore_n 3, 1) := by decide +kernel
theorem dX10_order_82 : decode cX10_order 82 = .ok (.aload_n 0, 1) := by decide +kernel
theorem dX10_order_83 : decode cX10_order 83 = .ok (.getfield 53, 3) := by decide +kernel
theorem dX10_order_86 : decode cX10_order 86 = .ok (.iconst 0, 1) := by decide +kernel
theorem dX10_order_87 : decode cX10_order 87 = .ok (.aload_n 0, 1) := by decide +kernel
theorem dX10_order_88 : decode cX10_order 88 = .ok (.getfield 56, 3) := by decide +kernel
theorem dX10_order_91 : decode cX10_order 91 = .ok (.iconst 0, 1) := by decide +kernel
theorem dX10_order_92 : decode cX10_order 92 = .ok (.aload_n 0, 1) := by decide +kernel
theorem dX10_order_93 : decode cX10_order 93 = .ok (.getfield 56, 3) := by decide +kernel
theorem dX10_order_96 : decode cX10_order 96 = .ok (.arraylength, 1) := by decide +kernel
theorem dX10_order_97 : decode cX10_order 97 = .ok (.invokestatic 317, 3) := by decide +kernel
theorem dX10_order_100 : decode cX10_order 100 = .ok (.iinc 5 1, 3) := by decide +kernel
theorem dX10_order_103 : decode cX10_order 103 = .ok (.goto (-51), 3) := by decide +kernel
theorem dX10_order_106 : decode cX10_order 106 = .ok (.iload_n 1, 1) := by decide +kernel
theorem dX10_order_107 : decode cX10_order 107 = .ok (.iconst (-1), 1) := by decide +kernel
theorem dX10_order_108 : decode cX10_order 108 = .ok (.if_icmp .ne 5, 3) := by decide +kernel
theorem dX10_order_111 : decode cX10_order 111 = .ok (.iload_n 3, 1) := by decide +kernel
theorem dX10_order_112 : decode cX10_order 112 = .ok (.ireturn, 1) := by decide +kernel
theorem dX10_order_113 : decode cX10_order 113 = .ok (.iload_n 1, 1) := by decide +kernel
theorem dX10_order_114 : decode cX10_order 114 = .ok (.iload_n 2, 1) := by decide +kernel
theorem dX10_order_115 : decode cX10_order 115 = .ok (.if_icmp .ge 21, 3) := by decide +kernel
theorem dX10_order_118 : decode cX10_order 118 = .ok (.iload_n 1, 1) := by decide +kernel
theorem dX10_order_119 : decode cX10_order 119 = .ok (.aload_n 0, 1) := by decide +kernel
theorem dX10_order_120 : decode cX10_order 120 = .ok (.getfield 56, 3) := by decide +kernel
theorem dX10_order_123 : decode cX10_order 123 = .ok (.arraylength, 1) := by decide +kernel
theorem dX10_order_124 : decode cX10_order 124 = .ok (.if_icmp .ge 12, 3) := by decide +kernel
theorem dX10_order_127 : decode cX10_order 127 = .ok (.aload_n 0, 1) := by decide +kernel
theorem dX10_order_128 : decode cX10_order 128 = .ok (.getfield 56, 3) := by decide +kernel
theorem dX10_order_131 : decode cX10_order 131 = .ok (.iload_n 1, 1) := by decide +kernel
theorem dX10_order_132 : decode cX10_order 132 = .ok (.iaload, 1) := by decide +kernel
theorem dX10_order_133 : decode cX10_order 133 = .ok (.goto 5, 3) := by decide +kernel
theorem dX10_order_136 : decode cX10_order 136 = .ok (.bipush (-9), 2) := by decide +kernel
theorem dX10_order_138 : decode cX10_order 138 = .ok (.ireturn, 1) := by decide +kernel
theorem dX10_jubilee_0 : decode cX10_jubilee 0 = .ok (.iload_n 1, 1) := by decide +kernel
theorem dX10_jubilee_1 : decode cX10_jubilee 1 = .ok (.invokestatic 178, 3) := by decide +kernel
theorem dX10_jubilee_4 : decode cX10_jubilee 4 = .ok (.istore_n 2, 1) := by decide +kernel
theorem dX10_jubilee_5 : decode cX10_jubilee 5 = .ok (.iload_n 2, 1) := by decide +kernel
theorem dX10_jubilee_6 : decode cX10_jubilee 6 = .ok (.ifCond .eq 9, 3) := by decide +kernel
theorem dX10_jubilee_9 : decode cX10_jubilee 9 = .ok (.aload_n 0, 1) := by decide +kernel
theorem dX10_jubilee_10 : decode cX10_jubilee 10 = .ok (.iload_n 2, 1) := by decide +kernel
theorem dX10_jubilee_11 : decode cX10_jubilee 11 = .ok (.invokevirtual 67, 3) := by decide +kernel
theorem dX10_jubilee_14 : decode cX10_jubilee 14 = .ok (.ireturn, 1) := by decide +kernel
theorem dX10_jubilee_15 : decode cX10_jubilee 15 = .ok (.bipush (-9), 2) := by decide +kernel
theorem dX10_jubilee_17 : decode cX10_jubilee 17 = .ok (.istore_n 3, 1) := by decide +kernel
theorem dX10_jubilee_18 : decode cX10_jubilee 18 = .ok (.ldc 219, 2) := by decide +kernel
theorem dX10_jubilee_20 : decode cX10_jubilee 20 = .ok (.istore 4, 2) := by decide +kernel
theorem dX10_jubilee_22 : decode cX10_jubilee 22 = .ok (.iconst 0, 1) := by decide +kernel
theorem dX10_jubilee_23 : decode cX10_jubilee 23 = .ok (.istore 5, 2) := by decide +kernel
theorem dX10_jubilee_25 : decode cX10_jubilee 25 = .ok (.iload 5, 2) := by decide +kernel
theorem dX10_jubilee_27 : decode cX10_jubilee 27 = .ok (.aload_n 0, 1) := by decide +kernel
theorem dX10_jubilee_28 : decode cX10_jubilee 28 = .ok (.getfield 10, 3) := by decide +kernel
theorem dX10_jubilee_31 : decode cX10_jubilee 31 = .ok (.getfield 255, 3) := by decide +kernel
theorem dX10_jubilee_34 : decode cX10_jubilee 34 = .ok (.if_icmp .ge 57, 3) := by decide +kernel
theorem dX10_jubilee_37 : decode cX10_jubilee 37 = .ok (.aload_n 0, 1) := by decide +kernel
theorem dX10_jubilee_38 : decode cX10_jubilee 38 = .ok (.getfield 16, 3) := by decide +kernel
theorem dX10_jubilee_41 : decode cX10_jubilee 41 = .ok (.aload_n 0, 1) := by decide +kernel
theorem dX10_jubilee_42 : decode cX10_jubilee 42 = .ok (.getfield 10, 3) := by decide +kernel
theorem dX10_jubilee_45 : decode cX10_jubilee 45 = .ok (.invokevirtual 74, 3) := by decide +kernel
theorem dX10_jubilee_48 : decode cX10_jubilee 48 = .ok (.aload_n 0, 1) := by decide +kernel
theorem dX10_jubilee_49 : decode cX10_jubilee 49 = .ok (.getfield 16, 3) := by decide +kernel
theorem dX10_jubilee_52 : decode cX10_jubilee 52 = .ok (.iload 5, 2) := by decide +kernel
theorem dX10_jubilee_54 : decode cX10_jubilee 54 = .ok (.invokevirtual 106, 3) := by decide +kernel
theorem dX10_jubilee_57 : decode cX10_jubilee 57 = .ok (.iconst 0, 1) := by decide +kernel
theorem dX10_jubilee_58 : decode cX10_jubilee 58 = .ok (.putfield 113, 3) := by decide +kernel
theorem dX10_jubilee_61 : decode cX10_jubilee 61 = .ok (.aload_n 0, 1) := by decide +kernel
theorem dX10_jubilee_62 : decode cX10_jubilee 62 = .ok (.getfield 16, 3) := by decide +kernel
theorem dX10_jubilee_65 : decode cX10_jubilee 65 = .ok (.iload_n 1, 1) := by decide +kernel
theorem dX10_jubilee_66 : decode cX10_jubilee 66 = .ok (.invokevirtual 181, 3) := by decide +kernel
theorem dX10_jubilee_69 : decode cX10_jubilee 69 = .ok (.istore 6, 2) := by decide +kernel
theorem dX10_jubilee_71 : decode cX10_jubilee 71 = .ok (.iload 6, 2) := by decide +kernel
theorem dX10_jubilee_73 : decode cX10_jubilee 73 = .ok (.iload 4, 2) := by decide +kernel
theorem dX10_jubilee_75 : decode cX10_jubilee 75 = .ok (.if_icmp .ge 10, 3) := by decide +kernel
theorem dX10_jubilee_78 : decode cX10_jubilee 78 = .ok (.iload 6, 2) := by decide +kernel
theorem dX10_jubilee_80 : decode cX10_jubilee 80 = .ok (.istore 4, 2) := by decide +kernel
theorem dX10_jubilee_82 : decode cX10_jubilee 82 = .ok (.iload 5, 2) := by decide +kernel
theorem dX10_jubilee_84 : decode cX10_jubilee 84 = .ok (.istore_n 3, 1) := by decide +kernel
theorem dX10_jubilee_85 : decode cX10_jubilee 85 = .ok (.iinc 5 1, 3) := by decide +kernel
theorem dX10_jubilee_88 : decode cX10_jubilee 88 = .ok (.goto (-63), 3) := by decide +kernel
theorem dX10_jubilee_91 : decode cX10_jubilee 91 = .ok (.iload_n 3, 1) := by decide +kernel
theorem dX10_jubilee_92 : decode cX10_jubilee 92 = .ok (.ireturn, 1) := by decide +kernel
theorem dX10_fair_0 : decode cX10_fair 0 = .ok (.iload_n 1, 1) := by decide +kernel
theorem dX10_fair_1 : decode cX10_fair 1 = .ok (.iconst 1, 1) := by decide +kernel
theorem dX10_fair_2 : decode cX10_fair 2 = .ok (.invokestatic 102, 3) := by decide +kernel
theorem dX10_fair_5 : decode cX10_fair 5 = .ok (.ifCond .eq 10, 3) := by decide +kernel
theorem dX10_fair_8 : decode cX10_fair 8 = .ok (.aload_n 0, 1) := by decide +kernel
theorem dX10_fair_9 : decode cX10_fair 9 = .ok (.bipush (-2), 2) := by decide +kernel
theorem dX10_fair_11 : decode cX10_fair 11 = .ok (.invokevirtual 67, 3) := by decide +kernel
theorem dX10_fair_14 : decode cX10_fair 14 = .ok (.ireturn, 1) := by decide +kernel
theorem dX10_fair_15 : decode cX10_fair 15 = .ok (.aload_n 0, 1) := by decide +kernel
theorem dX10_fair_16 : decode cX10_fair 16 = .ok (.iconst 0, 1) := by decide +kernel
theorem dX10_fair_17 : decode cX10_fair 17 = .ok (.invokevirtual 323, 3) := by decide +kernel
theorem dX10_fair_20 : decode cX10_fair 20 = .ok (.istore_n 2, 1) := by decide +kernel
theorem dX10_fair_21 : decode cX10_fair 21 = .ok (.iload_n 1, 1) := by decide +kernel
theorem dX10_fair_22 : decode cX10_fair 22 = .ok (.iconst 1, 1) := by decide +kernel
theorem dX10_fair_23 : decode cX10_fair 23 = .ok (.if_icmp .eq 9, 3) := by decide +kernel
theorem dX10_fair_26 : decode cX10_fair 26 = .ok (.iload_n 2, 1) := by decide +kernel
theorem dX10_fair_27 : decode cX10_fair 27 = .ok (.bipush (-9), 2) := by decide +kernel
theorem dX10_fair_29 : decode cX10_fair 29 = .ok (.if_icmp .ne 14, 3) := by decide +kernel
theorem dX10_fair_32 : decode cX10_fair 32 = .ok (.iload_n 1, 1) := by decide +kernel
theorem dX10_fair_33 : decode cX10_fair 33 = .ok (.iconst 1, 1) := by decide +kernel
theorem dX10_fair_34 : decode cX10_fair 34 = .ok (.if_icmp .ne 7, 3) := by decide +kernel
theorem dX10_fair_37 : decode cX10_fair 37 = .ok (.iload_n 2, 1) := by decide +kernel
theorem dX10_fair_38 : decode cX10_fair 38 = .ok (.goto 4, 3) := by decide +kernel
theorem dX10_fair_41 : decode cX10_fair 41 = .ok (.iconst 0, 1) := by decide +kernel
theorem dX10_fair_42 : decode cX10_fair 42 = .ok (.ireturn, 1) := by decide +kernel
theorem dX10_fair_43 : decode cX10_fair 43 = .ok (.aload_n 0, 1) := by decide +kernel
theorem dX10_fair_44 : decode cX10_fair 44 = .ok (.aload_n 0, 1) := by decide +kernel
theorem dX10_fair_45 : decode cX10_fair 45 = .ok (.getfield 10, 3) := by decide +kernel
theorem dX10_fair_48 : decode cX10_fair 48 = .ok (.getfield 255, 3) := by decide +kernel
theorem dX10_fair_51 : decode cX10_fair 51 = .ok (.iconst 1, 1) := by decide +kernel
theorem dX10_fair_52 : decode cX10_fair 52 = .ok (.isub, 1) := by decide +kernel
theorem dX10_fair_53 : decode cX10_fair 53 = .ok (.invokevirtual 323, 3) := by decide +kernel
theorem dX10_fair_56 : decode cX10_fair 56 = .ok (.istore_n 3, 1) := by decide +kernel
theorem dX10_fair_57 : decode cX10_fair 57 = .ok (.aload_n 0, 1) := by decide +kernel
theorem dX10_fair_58 : decode cX10_fair 58 = .ok (.getfield 10, 3) := by decide +kernel
theorem dX10_fair_61 : decode cX10_fair 61 = .ok (.iload_n 2, 1) := by decide +kernel
theorem dX10_fair_62 : decode cX10_fair 62 = .ok (.invokevirtual 106, 3) := by decide +kernel
theorem dX10_fair_65 : decode cX10_fair 65 = .ok (.invokevirtual 122, 3) := by decide +kernel
theorem dX10_fair_68 : decode cX10_fair 68 = .ok (.aload_n 0, 1) := by decide +kernel
theorem dX10_fair_69 : decode cX10_fair 69 = .ok (.getfield 10, 3) := by decide +kernel
theorem dX10_fair_72 : decode cX10_fair 72 = .ok (.iload_n 3, 1) := by decide +kernel
theorem dX10_fair_73 : decode cX10_fair 73 = .ok (.invokevirtual 106, 3) := by decide +kernel
theorem dX10_fair_76 : decode cX10_fair 76 = .ok (.invokevirtual 122, 3) := by decide +kernel
theorem dX10_fair_79 : decode cX10_fair 79 = .ok (.isub, 1) := by decide +kernel
theorem dX10_fair_80 : decode cX10_fair 80 = .ok (.ireturn, 1) := by decide +kernel
theorem dX10_peak_0 : decode cX10_peak 0 = .ok (.aload_n 0, 1) := by decide +kernel
theorem dX10_peak_1 : decode cX10_peak 1 = .ok (.iload_n 1, 1) := by decide +kernel
theorem dX10_peak_2 : decode cX10_peak 2 = .ok (.iload_n 2, 1) := by decide +kernel
theorem dX10_peak_3 : decode cX10_peak 3 = .ok (.invokevirtual 171, 3) := by decide +kernel
theorem dX10_peak_6 : decode cX10_peak 6 = .ok (.istore 4, 2) := by decide +kernel
theorem dX10_peak_8 : decode cX10_peak 8 = .ok (.iload 4, 2) := by decide +kernel
theorem dX10_peak_10 : decode cX10_peak 10 = .ok (.ifCond .ne 10, 3) := by decide +kernel
theorem dX10_peak_13 : decode cX10_peak 13 = .ok (.iload_n 3, 1) := by decide +kernel
theorem dX10_peak_14 : decode cX10_peak 14 = .ok (.iconst 1, 1) := by decide +kernel
theorem dX10_peak_15 : decode cX10_peak 15 = .ok (.invokestatic 102, 3) := by decide +kernel
theorem dX10_peak_18 : decode cX10_peak 18 = .ok (.istore 4, 2) := by decide +kernel
theorem dX10_peak_20 : decode cX10_peak 20 = .ok (.iload 4, 2) := by decide +kernel
theorem dX10_peak_22 : decode cX10_peak 22 = .ok (.ifCond .eq 10, 3) := by decide +kernel
theorem dX10_peak_25 : decode cX10_peak 25 = .ok (.aload_n 0, 1) := by decide +kernel
theorem dX10_peak_26 : decode cX10_peak 26 = .ok (.iload 4, 2) := by decide +kernel
theorem dX10_peak_28 : decode cX10_peak 28 = .ok (.invokevirtual 67, 3) := by decide +kernel
theorem dX10_peak_31 : decode cX10_peak 31 = .ok (.ireturn, 1) := by decide +kernel
theorem dX10_peak_32 : decode cX10_peak 32 = .ok (.aload_n 0, 1) := by decide +kernel
theorem dX10_peak_33 : decode cX10_peak 33 = .ok (.getfield 46, 3) := by decide +kernel
theorem dX10_peak_36 : decode cX10_peak 36 = .ok (.aload_n 0, 1) := by decide +kernel
theorem dX10_peak_37 : decode cX10_peak 37 = .ok (.getfield 10, 3) := by decide +kernel
theorem dX10_peak_40 : decode cX10_peak 40 = .ok (.iload_n 1, 1) := by decide +kernel
theorem dX10_peak_41 : decode cX10_peak 41 = .ok (.invokevirtual 106, 3) := by decide +kernel
theorem dX10_peak_44 : decode cX10_peak 44 = .ok (.invokevirtual 233, 3) := by decide +kernel
theorem dX10_peak_47 : decode cX10_peak 47 = .ok (.aload_n 0, 1) := by decide +kernel
theorem dX10_peak_48 : decode cX10_peak 48 = .ok (.getfield 46, 3) := by decide +kernel
theorem dX10_peak_51 : decode cX10_peak 51 = .ok (.getfield 113, 3) := by decide +kernel
theorem dX10_peak_54 : decode cX10_peak 54 = .ok (.istore 5, 2) := by decide +kernel
theorem dX10_peak_56 : decode cX10_peak 56 = .ok (.iconst 0, 1) := by decide +kernel
theorem dX10_peak_57 : decode cX10_peak 57 = .ok (.istore 6, 2) := by decide +kernel
theorem dX10_peak_59 : decode cX10_peak 59 = .ok (.iconst 1, 1) := by decide +kernel
theorem dX10_peak_60 : decode cX10_peak 60 = .ok (.istore 7, 2) := by decide +kernel
theorem dX10_peak_62 : decode cX10_peak 62 = .ok (.iload 7, 2) := by decide +kernel
theorem dX10_peak_64 : decode cX10_peak 64 = .ok (.iload_n 2, 1) := by decide +kernel
theorem dX10_peak_65 : decode cX10_peak 65 = .ok (.if_icmp .gt 58, 3) := by decide +kernel
theorem dX10_peak_68 : decode cX10_peak 68 = .ok (.aload_n 0, 1) := by decide +kernel
theorem dX10_peak_69 : decode cX10_peak 69 = .ok (.getfield 46, 3) := by decide +kernel
theorem dX10_peak_72 : decode cX10_peak 72 = .ok (.aload_n 0, 1) := by decide +kernel
theorem dX10_peak_73 : decode cX10_peak 73 = .ok (.getfield 10, 3) := by decide +kernel
theorem dX10_peak_76 : decode cX10_peak 76 = .ok (.getfield 239, 3) := by decide +kernel
theorem dX10_peak_79 : decode cX10_peak 79 = .ok (.aload_n 0, 1) := by decide +kernel
theorem dX10_peak_80 : decode cX10_peak 80 = .ok (.getfield 10, 3) := by decide +kernel
theorem dX10_peak_83 : decode cX10_peak 83 = .ok (.getfield 242, 3) := by decide +kernel
theorem dX10_peak_86 : decode cX10_peak 86 = .ok (.iload 7, 2) := by decide +kernel
theorem dX10_peak_88 : decode cX10_peak 88 = .ok (.iadd, 1) := by decide +kernel
theorem dX10_peak_89 : decode cX10_peak 89 = .ok (.invokevirtual 326, 3) := by decide +kernel
theorem dX10_peak_92 : decode cX10_peak 92 = .ok (.aload_n 0, 1) := by decide +kernel
theorem dX10_peak_93 : decode cX10_peak 93 = .ok (.getfield 46, 3) := by decide +kernel
theorem dX10_peak_96 : decode cX10_peak 96 = .ok (.getfield 113, 3) := by decide +kernel
theorem dX10_peak_99 : decode cX10_peak 99 = .ok (.iload 5, 2) := by decide +kernel
theorem dX10_peak_101 : decode cX10_peak 101 = .ok (.if_icmp .le 16, 3) := by decide +kernel
theorem dX10_peak_104 : decode cX10_peak 104 = .ok (.aload_n 0, 1) := by decide +kernel
theorem dX10_peak_105 : decode cX10_peak 105 = .ok (.getfield 46, 3) := by decide +kernel
theorem dX10_peak_108 : decode cX10_peak 108 = .ok (.getfield 113, 3) := by decide +kernel
theorem dX10_peak_111 : decode cX10_peak 111 = .ok (.istore 5, 2) := by decide +kernel
theorem dX10_peak_113 : decode cX10_peak 113 = .ok (.iload 7, 2) := by decide +kernel
theorem dX10_peak_115 : decode cX10_peak 115 = .ok (.istore 6, 2) := by decide +kernel
theorem dX10_peak_117 : decode cX10_peak 117 = .ok (.iinc 7 1, 3) := by decide +kernel
theorem dX10_peak_120 : decode cX10_peak 120 = .ok (.goto (-58), 3) := by decide +kernel
theorem dX10_peak_123 : decode cX10_peak 123 = .ok (.iload_n 3, 1) := by decide +kernel
theorem dX10_peak_124 : decode cX10_peak 124 = .ok (.ifCond .ne 8, 3) := by decide +kernel
theorem dX10_peak_127 : decode cX10_peak 127 = .ok (.iload 5, 2) := by decide +kernel
theorem dX10_peak_129 : decode cX10_peak 129 = .ok (.goto 5, 3) := by decide +kernel
theorem dX10_peak_132 : decode cX10_peak 132 = .ok (.iload 6, 2) := by decide +kernel
theorem dX10_peak_134 : decode cX10_peak 134 = .ok (.ireturn, 1) := by decide +kernel
theorem dX10_interest_0 : decode cX10_interest 0 = .ok (.aload_n 0, 1) := by decide +kernel
theorem dX10_interest_1 : decode cX10_interest 1 = .ok (.iload_n 1, 1) := by decide +kernel
theorem dX10_interest_2 : decode cX10_interest 2 = .ok (.iload_n 2, 1) := by decide +kernel
theorem dX10_interest_3 : decode cX10_interest 3 = .ok (.invokevirtual 171, 3) := by decide +kernel
theorem dX10_interest_6 : decode cX10_interest 6 = .ok (.istore_n 3, 1) := by decide +kernel
theorem dX10_interest_7 : decode cX10_interest 7 = .ok (.iload_n 3, 1) := by decide +kernel
theorem dX10_interest_8 : decode cX10_interest 8 = .ok (.ifCond .eq 9, 3) := by decide +kernel
theorem dX10_interest_11 : decode cX10_interest 11 = .ok (.aload_n 0, 1) := by decide +kernel
theorem dX10_interest_12 : decode cX10_interest 12 = .ok (.iload_n 3, 1) := by decide +kernel
theorem dX10_interest_13 : decode cX10_interest 13 = .ok (.invokevirtual 67, 3) := by decide +kernel
theorem dX10_interest_16 : decode cX10_interest 16 = .ok (.ireturn, 1) := by decide +kernel
theorem dX10_interest_17 : decode cX10_interest 17 = .ok (.aload_n 0, 1) := by decide +kernel
theorem dX10_interest_18 : decode cX10_interest 18 = .ok (.iload_n 1, 1) := by decide +kernel
theorem dX10_interest_19 : decode cX10_interest 19 = .ok (.iload_n 2, 1) := by decide +kernel
theorem dX10_interest_20 : decode cX10_interest 20 = .ok (.invokevirtual 174, 3) := by decide +kernel
theorem dX10_interest_23 : decode cX10_interest 23 = .ok (.aload_n 0, 1) := by decide +kernel
theorem dX10_interest_24 : decode cX10_interest 24 = .ok (.getfield 46, 3) := by decide +kernel
theorem dX10_interest_27 : decode cX10_interest 27 = .ok (.getfield 329, 3) := by decide +kernel
theorem dX10_interest_30 : decode cX10_interest 30 = .ok (.ireturn, 1) := by decide +kernel
theorem dX10_doubled_0 : decode cX10_doubled 0 = .ok (.aload_n 0, 1) := by decide +kernel
theorem dX10_doubled_1 : decode cX10_doubled 1 = .ok (.getfield 10, 3) := by decide +kernel
theorem dX10_doubled_4 : decode cX10_doubled 4 = .ok (.iload_n 1, 1) := by decide +kernel
theorem dX10_doubled_5 : decode cX10_doubled 5 = .ok (.invokevirtual 99, 3) := by decide +kernel
theorem dX10_doubled_8 : decode cX10_doubled 8 = .ok (.istore_n 2, 1) := by decide +kernel
theorem dX10_doubled_9 : decode cX10_doubled 9 = .ok (.iload_n 2, 1) := by decide +kernel
theorem dX10_doubled_10 : decode cX10_doubled 10 = .ok (.ifCond .eq 9, 3) := by decide +kernel
theorem dX10_doubled_13 : decode cX10_doubled 13 = .ok (.aload_n 0, 1) := by decide +kernel
theorem dX10_doubled_14 : decode cX10_doubled 14 = .ok (.iload_n 2, 1) := by decide +kernel
theorem dX10_doubled_15 : decode cX10_doubled 15 = .ok (.invokevirtual 67, 3) := by decide +kernel
theorem dX10_doubled_18 : decode cX10_doubled 18 = .ok (.ireturn, 1) := by decide +kernel
theorem dX10_doubled_19 : decode cX10_doubled 19 = .ok (.aload_n 0, 1) := by decide +kernel
theorem dX10_doubled_20 : decode cX10_doubled 20 = .ok (.getfield 46, 3) := by decide +kernel
theorem dX10_doubled_23 : decode cX10_doubled 23 = .ok (.aload_n 0, 1) := by decide +kernel
theorem dX10_doubled_24 : decode cX10_doubled 24 = .ok (.getfield 10, 3) := by decide +kernel
theorem dX10_doubled_27 : decode cX10_doubled 27 = .ok (.iload_n 1, 1) := by decide +kernel
theorem dX10_doubled_28 : decode cX10_doubled 28 = .ok (.invokevirtual 106, 3) := by decide +kernel
theorem dX10_doubled_31 : decode cX10_doubled 31 = .ok (.invokevirtual 233, 3) := by decide +kernel
theorem dX10_doubled_34 : decode cX10_doubled 34 = .ok (.iconst 2, 1) := by decide +kernel
theorem dX10_doubled_35 : decode cX10_doubled 35 = .ok (.aload_n 0, 1) := by decide +kernel
theorem dX10_doubled_36 : decode cX10_doubled 36 = .ok (.getfield 46, 3) := by decide +kernel
theorem dX10_doubled_39 : decode cX10_doubled 39 = .ok (.getfield 113, 3) := by decide +kernel
theorem dX10_doubled_42 : decode cX10_doubled 42 = .ok (.imul, 1) := by decide +kernel
theorem dX10_doubled_43 : decode cX10_doubled 43 = .ok (.istore_n 3, 1) := by decide +kernel
theorem dX10_doubled_44 : decode cX10_doubled 44 = .ok (.iconst 1, 1) := by decide +kernel
theorem dX10_doubled_45 : decode cX10_doubled 45 = .ok (.istore 4, 2) := by decide +kernel
theorem dX10_doubled_47 : decode cX10_doubled 47 = .ok (.iload_n 3, 1) := by decide +kernel
theorem dX10_doubled_48 : decode cX10_doubled 48 = .ok (.ifCond .le 54, 3) := by decide +kernel
theorem dX10_doubled_51 : decode cX10_doubled 51 = .ok (.iload 4, 2) := by decide +kernel
theorem dX10_doubled_53 : decode cX10_doubled 53 = .ok (.bipush 100, 2) := by decide +kernel
theorem dX10_doubled_55 : decode cX10_doubled 55 = .ok (.if_icmp .gt 47, 3) := by decide +kernel
theorem dX10_doubled_58 : decode cX10_doubled 58 = .ok (.aload_n 0, 1) := by decide +kernel
theorem dX10_doubled_59 : decode cX10_doubled 59 = .ok (.getfield 46, 3) := by decide +kernel
theorem dX10_doubled_62 : decode cX10_doubled 62 = .ok (.aload_n 0, 1) := by decide +kernel
theorem dX10_doubled_63 : decode cX10_doubled 63 = .ok (.getfield 10, 3) := by decide +kernel
theorem dX10_doubled_66 : decode cX10_doubled 66 = .ok (.getfield 239, 3) := by decide +kernel
theorem dX10_doubled_69 : decode cX10_doubled 69 = .ok (.aload_n 0, 1) := by decide +kernel
theorem dX10_doubled_70 : decode cX10_doubled 70 = .ok (.getfield 10, 3) := by decide +kernel
theorem dX10_doubled_73 : decode cX10_doubled 73 = .ok (.getfield 242, 3) := by decide +kernel
theorem dX10_doubled_76 : decode cX10_doubled 76 = .ok (.iload 4, 2) := by decide +kernel
theorem dX10_doubled_78 : decode cX10_doubled 78 = .ok (.iadd, 1) := by decide +kernel
theorem dX10_doubled_79 : decode cX10_doubled 79 = .ok (.invokevirtual 326, 3) := by decide +kernel
theorem dX10_doubled_82 : decode cX10_doubled 82 = .ok (.aload_n 0, 1) := by decide +kernel
theorem dX10_doubled_83 : decode cX10_doubled 83 = .ok (.getfield 46, 3) := by decide +kernel
theorem dX10_doubled_86 : decode cX10_doubled 86 = .ok (.getfield 113, 3) := by decide +kernel
theorem dX10_doubled_89 : decode cX10_doubled 89 = .ok (.iload_n 3, 1) := by decide +kernel
theorem dX10_doubled_90 : decode cX10_doubled 90 = .ok (.if_icmp .lt 6, 3) := by decide +kernel
theorem dX10_doubled_93 : decode cX10_doubled 93 = .ok (.iload 4, 2) := by decide +kernel
theorem dX10_doubled_95 : decode cX10_doubled 95 = .ok (.ireturn, 1) := by decide +kernel
theorem dX10_doubled_96 : decode cX10_doubled 96 = .ok (.iinc 4 1, 3) := by decide +kernel
theorem dX10_doubled_99 : decode cX10_doubled 99 = .ok (.goto (-52), 3) := by decide +kernel
theorem dX10_doubled_102 : decode cX10_doubled 102 = .ok (.bipush (-9), 2) := by decide +kernel
theorem dX10_doubled_104 : decode cX10_doubled 104 = .ok (.ireturn, 1) := by decide +kernel
theorem dX10_commonPay_0 : decode cX10_commonPay 0 = .ok (.iload_n 1, 1) := by decide +kernel
theorem dX10_commonPay_1 : decode cX10_commonPay 1 = .ok (.bipush 100, 2) := by decide +kernel
theorem dX10_commonPay_3 : decode cX10_commonPay 3 = .ok (.iload_n 2, 1) := by decide +kernel
theorem dX10_commonPay_4 : decode cX10_commonPay 4 = .ok (.ldc_w 332, 3) := by decide +kernel
theorem dX10_commonPay_7 : decode cX10_commonPay 7 = .ok (.invokestatic 202, 3) := by decide +kernel
theorem dX10_commonPay_10 : decode cX10_commonPay 10 = .ok (.istore_n 3, 1) := by decide +kernel
theorem dX10_commonPay_11 : decode cX10_commonPay 11 = .ok (.iload_n 3, 1) := by decide +kernel
theorem dX10_commonPay_12 : decode cX10_commonPay 12 = .ok (.ifCond .eq 9, 3) := by decide +kernel
theorem dX10_commonPay_15 : decode cX10_commonPay 15 = .ok (.aload_n 0, 1) := by decide +kernel
theorem dX10_commonPay_16 : decode cX10_commonPay 16 = .ok (.iload_n 3, 1) := by decide +kernel
theorem dX10_commonPay_17 : decode cX10_commonPay 17 = .ok (.invokevirtual 67, 3) := by decide +kernel
theorem dX10_commonPay_20 : decode cX10_commonPay 20 = .ok (.ireturn, 1) := by decide +kernel
theorem dX10_commonPay_21 : decode cX10_commonPay 21 = .ok (.iconst 0, 1) := by decide +kernel
theorem dX10_commonPay_22 : decode cX10_commonPay 22 = .ok (.istore 4, 2) := by decide +kernel
theorem dX10_commonPay_24 : decode cX10_commonPay 24 = .ok (.iload 4, 2) := by decide +kernel
theorem dX10_commonPay_26 : decode cX10_commonPay 26 = .ok (.bipush 9, 2) := by decide +kernel
theorem dX10_commonPay_28 : decode cX10_commonPay 28 = .ok (.if_icmp .gt 70, 3) := by decide +kernel
theorem dX10_commonPay_31 : decode cX10_commonPay 31 = .ok (.aload_n 0, 1) := by decide +kernel
theorem dX10_commonPay_32 : decode cX10_commonPay 32 = .ok (.getfield 16, 3) := by decide +kernel
theorem dX10_commonPay_35 : decode cX10_commonPay 35 = .ok (.aload_n 0, 1) := by decide +kernel
theorem dX10_commonPay_36 : decode cX10_commonPay 36 = .ok (.getfield 10, 3) := by decide +kernel
theorem dX10_commonPay_39 : decode cX10_commonPay 39 = .ok (.invokevirtual 74, 3) := by decide +kernel
theorem dX10_commonPay_42 : decode cX10_commonPay 42 = .ok (.iconst 0, 1) := by decide +kernel
theorem dX10_commonPay_43 : decode cX10_commonPay 43 = .ok (.istore 5, 2) := by decide +kernel
theorem dX10_commonPay_45 : decode cX10_commonPay 45 = .ok (.iload 5, 2) := by decide +kernel
theorem dX10_commonPay_47 : decode cX10_commonPay 47 = .ok (.aload_n 0, 1) := by decide +kernel
theorem dX10_commonPay_48 : decode cX10_commonPay 48 = .ok (.getfield 16, 3) := by decide +kernel
theorem dX10_commonPay_51 : decode cX10_commonPay 51 = .ok (.getfield 255, 3) := by decide +kernel
theorem dX10_commonPay_54 : decode cX10_commonPay 54 = .ok (.if_icmp .ge 23, 3) := by decide +kernel
theorem dX10_commonPay_57 : decode cX10_commonPay 57 = .ok (.aload_n 0, 1) := by decide +kernel
theorem dX10_commonPay_58 : decode cX10_commonPay 58 = .ok (.getfield 16, 3) := by decide +kernel
theorem dX10_commonPay_61 : decode cX10_commonPay 61 = .ok (.iload 5, 2) := by decide +kernel
theorem dX10_commonPay_63 : decode cX10_commonPay 63 = .ok (.invokevirtual 106, 3) := by decide +kernel
theorem dX10_commonPay_66 : decode cX10_commonPay 66 = .ok (.iload 4, 2) := by decide +kernel
theorem dX10_commonPay_68 : decode cX10_commonPay 68 = .ok (.putfield 116, 3) := by decide +kernel
theorem dX10_commonPay_71 : decode cX10_commonPay 71 = .ok (.iinc 5 1, 3) := by decide +kernel
theorem dX10_commonPay_74 : decode cX10_commonPay 74 = .ok (.goto (-29), 3) := by decide +kernel
theorem dX10_commonPay_77 : decode cX10_commonPay 77 = .ok (.aload_n 0, 1) := by decide +kernel
theorem dX10_commonPay_78 : decode cX10_commonPay 78 = .ok (.getfield 16, 3) := by decide +kernel
theorem dX10_commonPay_81 : decode cX10_commonPay 81 = .ok (.iload_n 1, 1) := by decide +kernel
theorem dX10_commonPay_82 : decode cX10_commonPay 82 = .ok (.invokevirtual 181, 3) := by decide +kernel
theorem dX10_commonPay_85 : decode cX10_commonPay 85 = .ok (.iload_n 2, 1) := by decide +kernel
theorem dX10_commonPay_86 : decode cX10_commonPay 86 = .ok (.if_icmp .gt 6, 3) := by decide +kernel
theorem dX10_commonPay_89 : decode cX10_commonPay 89 = .ok (.iload 4, 2) := by decide +kernel
theorem dX10_commonPay_91 : decode cX10_commonPay 91 = .ok (.ireturn, 1) := by decide +kernel
theorem dX10_commonPay_92 : decode cX10_commonPay 92 = .ok (.iinc 4 1, 3) := by decide +kernel
theorem dX10_commonPay_95 : decode cX10_commonPay 95 = .ok (.goto (-71), 3) := by decide +kernel
theorem dX10_commonPay_98 : decode cX10_commonPay 98 = .ok (.bipush (-9), 2) := by decide +kernel
theorem dX10_commonPay_100 : decode cX10_commonPay 100 = .ok (.ireturn, 1) := by decide +kernel
theorem dX10_bestBirths_0 : decode cX10_bestBirths 0 = .ok (.aload_n 0, 1) := by decide +kernel
theorem dX10_bestBirths_1 : decode cX10_bestBirths 1 = .ok (.iload_n 1, 1) := by decide +kernel
theorem dX10_bestBirths_2 : decode cX10_bestBirths 2 = .ok (.iload_n 2, 1) := by decide +kernel
theorem dX10_bestBirths_3 : decode cX10_bestBirths 3 = .ok (.invokevirtual 171, 3) := by decide +kernel
theorem dX10_bestBirths_6 : decode cX10_bestBirths 6 = .ok (.istore_n 3, 1) := by decide +kernel
theorem dX10_bestBirths_7 : decode cX10_bestBirths 7 = .ok (.iload_n 3, 1) := by decide +kernel
theorem dX10_bestBirths_8 : decode cX10_bestBirths 8 = .ok (.ifCond .eq 9, 3) := by decide +kernel
theorem dX10_bestBirths_11 : decode cX10_bestBirths 11 = .ok (.aload_n 0, 1) := by decide +kernel
theorem dX10_bestBirths_12 : decode cX10_bestBirths 12 = .ok (.iload_n 3, 1) := by decide +kernel
theorem dX10_bestBirths_13 : decode cX10_bestBirths 13 = .ok (.invokevirtual 67, 3) := by decide +kernel
theorem dX10_bestBirths_16 : decode cX10_bestBirths 16 = .ok (.ireturn, 1) := by decide +kernel
theorem dX10_bestBirths_17 : decode cX10_bestBirths 17 = .ok (.iconst 0, 1) := by decide +kernel
theorem dX10_bestBirths_18 : decode cX10_bestBirths 18 = .ok (.istore 4, 2) := by decide +kernel
theorem dX10_bestBirths_20 : decode cX10_bestBirths 20 = .ok (.ldc 219, 2) := by decide +kernel
theorem dX10_bestBirths_22 : decode cX10_bestBirths 22 = .ok (.istore 5, 2) := by decide +kernel
theorem dX10_bestBirths_24 : decode cX10_bestBirths 24 = .ok (.iconst 0, 1) := by decide +kernel
theorem dX10_bestBirths_25 : decode cX10_bestBirths 25 = .ok (.istore 6, 2) := by decide +kernel
theorem dX10_bestBirths_27 : decode cX10_bestBirths 27 = .ok (.iload 6, 2) := by decide +kernel
theorem dX10_bestBirths_29 : decode cX10_bestBirths 29 = .ok (.bipush 9, 2) := by decide +kernel
theorem dX10_bestBirths_31 : decode cX10_bestBirths 31 = .ok (.if_icmp .gt 80, 3) := by decide +kernel
theorem dX10_bestBirths_34 : decode cX10_bestBirths 34 = .ok (.aload_n 0, 1) := by decide +kernel
theorem dX10_bestBirths_35 : decode cX10_bestBirths 35 = .ok (.getfield 46, 3) := by decide +kernel
theorem dX10_bestBirths_38 : decode cX10_bestBirths 38 = .ok (.aload_n 0, 1) := by decide +kernel
theorem dX10_bestBirths_39 : decode cX10_bestBirths 39 = .ok (.getfield 10, 3) := by decide +kernel
theorem dX10_bestBirths_42 : decode cX10_bestBirths 42 = .ok (.iload_n 1, 1) := by decide +kernel
theorem dX10_bestBirths_43 : decode cX10_bestBirths 43 = .ok (.invokevirtual 106, 3) := by decide +kernel
theorem dX10_bestBirths_46 : decode cX10_bestBirths 46 = .ok (.invokevirtual 233, 3) := by decide +kernel
theorem dX10_bestBirths_49 : decode cX10_bestBirths 49 = .ok (.aload_n 0, 1) := by decide +kernel
theorem dX10_bestBirths_50 : decode cX10_bestBirths 50 = .ok (.getfield 46, 3) := by decide +kernel
theorem dX10_bestBirths_53 : decode cX10_bestBirths 53 = .ok (.iload 6, 2) := by decide +kernel
theorem dX10_bestBirths_55 : decode cX10_bestBirths 55 = .ok (.putfield 119, 3) := by decide +kernel
theorem dX10_bestBirths_58 : decode cX10_bestBirths 58 = .ok (.aload_n 0, 1) := by decide +kernel
theorem dX10_bestBirths_59 : decode cX10_bestBirths 59 = .ok (.getfield 46, 3) := by decide +kernel
theorem dX10_bestBirths_62 : decode cX10_bestBirths 62 = .ok (.aload_n 0, 1) := by decide +kernel
theorem dX10_bestBirths_63 : decode cX10_bestBirths 63 = .ok (.getfield 10, 3) := by decide +kernel
theorem dX10_bestBirths_66 : decode cX10_bestBirths 66 = .ok (.getfield 239, 3) := by decide +kernel
theorem dX10_bestBirths_69 : decode cX10_bestBirths 69 = .ok (.aload_n 0, 1) := by decide +kernel
theorem dX10_bestBirths_70 : decode cX10_bestBirths 70 = .ok (.getfield 10, 3) := by decide +kernel
theorem dX10_bestBirths_73 : decode cX10_bestBirths 73 = .ok (.getfield 242, 3) := by decide +kernel
theorem dX10_bestBirths_76 : decode cX10_bestBirths 76 = .ok (.iload_n 2, 1) := by decide +kernel
theorem dX10_bestBirths_77 : decode cX10_bestBirths 77 = .ok (.invokevirtual 245, 3) := by decide +kernel
theorem dX10_bestBirths_80 : decode cX10_bestBirths 80 = .ok (.aload_n 0, 1) := by decide +kernel
theorem dX10_bestBirths_81 : decode cX10_bestBirths 81 = .ok (.getfield 46, 3) := by decide +kernel
theorem dX10_bestBirths_84 : decode cX10_bestBirths 84 = .ok (.invokevirtual 122, 3) := by decide +kernel
theorem dX10_bestBirths_87 : decode cX10_bestBirths 87 = .ok (.iload 5, 2) := by decide +kernel
theorem dX10_bestBirths_89 : decode cX10_bestBirths 89 = .ok (.if_icmp .ge 16, 3) := by decide +kernel
theorem dX10_bestBirths_92 : decode cX10_bestBirths 92 = .ok (.aload_n 0, 1) := by decide +kernel
theorem dX10_bestBirths_93 : decode cX10_bestBirths 93 = .ok (.getfield 46, 3) := by decide +kernel
theorem dX10_bestBirths_96 : decode cX10_bestBirths 96 = .ok (.invokevirtual 122, 3) := by decide +kernel
theorem dX10_bestBirths_99 : decode cX10_bestBirths 99 = .ok (.istore 5, 2) := by decide +kernel
theorem dX10_bestBirths_101 : decode cX10_bestBirths 101 = .ok (.iload 6, 2) := by decide +kernel
theorem dX10_bestBirths_103 : decode cX10_bestBirths 103 = .ok (.istore 4, 2) := by decide +kernel
theorem dX10_bestBirths_105 : decode cX10_bestBirths 105 = .ok (.iinc 6 1, 3) := by decide +kernel
theorem dX10_bestBirths_108 : decode cX10_bestBirths 108 = .ok (.goto (-81), 3) := by decide +kernel
theorem dX10_bestBirths_111 : decode cX10_bestBirths 111 = .ok (.iload 4, 2) := by decide +kernel
theorem dX10_bestBirths_113 : decode cX10_bestBirths 113 = .ok (.ireturn, 1) := by decide +kernel
theorem dX10_lump_0 : decode cX10_lump 0 = .ok (.aload_n 0, 1) := by decide +kernel
theorem dX10_lump_1 : decode cX10_lump 1 = .ok (.getfield 10, 3) := by decide +kernel
theorem dX10_lump_4 : decode cX10_lump 4 = .ok (.iload_n 1, 1) := by decide +kernel
theorem dX10_lump_5 : decode cX10_lump 5 = .ok (.invokevirtual 99, 3) := by decide +kernel
theorem dX10_lump_8 : decode cX10_lump 8 = .ok (.istore_n 3, 1) := by decide +kernel
theorem dX10_lump_9 : decode cX10_lump 9 = .ok (.iload_n 3, 1) := by decide +kernel
theorem dX10_lump_10 : decode cX10_lump 10 = .ok (.ifCond .ne 12, 3) := by decide +kernel
theorem dX10_lump_13 : decode cX10_lump 13 = .ok (.iload_n 2, 1) := by decide +kernel
theorem dX10_lump_14 : decode cX10_lump 14 = .ok (.iconst 0, 1) := by decide +kernel
theorem dX10_lump_15 : decode cX10_lump 15 = .ok (.sipush 9999, 3) := by decide +kernel
theorem dX10_lump_18 : decode cX10_lump 18 = .ok (.invokestatic 59, 3) := by decide +kernel
theorem dX10_lump_21 : decode cX10_lump 21 = .ok (.istore_n 3, 1) := by decide +kernel
theorem dX10_lump_22 : decode cX10_lump 22 = .ok (.iload_n 3, 1) := by decide +kernel
theorem dX10_lump_23 : decode cX10_lump 23 = .ok (.ifCond .eq 11, 3) := by decide +kernel
theorem dX10_lump_26 : decode cX10_lump 26 = .ok (.aload_n 0, 1) := by decide +kernel
theorem dX10_lump_27 : decode cX10_lump 27 = .ok (.iload_n 3, 1) := by decide +kernel
theorem dX10_lump_28 : decode cX10_lump 28 = .ok (.invokevirtual 67, 3) := by decide +kernel
theorem dX10_lump_31 : decode cX10_lump 31 = .ok (.goto 9, 3) := by decide +kernel
theorem dX10_lump_34 : decode cX10_lump 34 = .ok (.aload_n 0, 1) := by decide +kernel
theorem dX10_lump_35 : decode cX10_lump 35 = .ok (.iload_n 1, 1) := by decide +kernel
theorem dX10_lump_36 : decode cX10_lump 36 = .ok (.iload_n 2, 1) := by decide +kernel
theorem dX10_lump_37 : decode cX10_lump 37 = .ok (.invokevirtual 184, 3) := by decide +kernel
theorem dX10_lump_40 : decode cX10_lump 40 = .ok (.ireturn, 1) := by decide +kernel
theorem dX10_crosses_0 : decode cX10_crosses 0 = .ok (.aload_n 0, 1) := by decide +kernel
theorem dX10_crosses_1 : decode cX10_crosses 1 = .ok (.getfield 10, 3) := by decide +kernel
theorem dX10_crosses_4 : decode cX10_crosses 4 = .ok (.iload_n 1, 1) := by decide +kernel
theorem dX10_crosses_5 : decode cX10_crosses 5 = .ok (.iload_n 2, 1) := by decide +kernel
theorem dX10_crosses_6 : decode cX10_crosses 6 = .ok (.invokevirtual 333, 3) := by decide +kernel
theorem dX10_crosses_9 : decode cX10_crosses 9 = .ok (.istore_n 3, 1) := by decide +kernel
theorem dX10_crosses_10 : decode cX10_crosses 10 = .ok (.iload_n 3, 1) := by decide +kernel
theorem dX10_crosses_11 : decode cX10_crosses 11 = .ok (.ifCond .eq 9, 3) := by decide +kernel
theorem dX10_crosses_14 : decode cX10_crosses 14 = .ok (.aload_n 0, 1) := by decide +kernel
theorem dX10_crosses_15 : decode cX10_crosses 15 = .ok (.iload_n 3, 1) := by decide +kernel
theorem dX10_crosses_16 : decode cX10_crosses 16 = .ok (.invokevirtual 67, 3) := by decide +kernel
theorem dX10_crosses_19 : decode cX10_crosses 19 = .ok (.ireturn, 1) := by decide +kernel
theorem dX10_crosses_20 : decode cX10_crosses 20 = .ok (.aload_n 0, 1) := by decide +kernel
theorem dX10_crosses_21 : decode cX10_crosses 21 = .ok (.getfield 16, 3) := by decide +kernel
theorem dX10_crosses_24 : decode cX10_crosses 24 = .ok (.aload_n 0, 1) := by decide +kernel
theorem dX10_crosses_25 : decode cX10_crosses 25 = .ok (.getfield 10, 3) := by decide +kernel
theorem dX10_crosses_28 : decode cX10_crosses 28 = .ok (.invokevirtual 74, 3) := by decide +kernel
theorem dX10_crosses_31 : decode cX10_crosses 31 = .ok (.iconst 0, 1) := by decide +kernel
theorem dX10_crosses_32 : decode cX10_crosses 32 = .ok (.istore 4, 2) := by decide +kernel
theorem dX10_crosses_34 : decode cX10_crosses 34 = .ok (.iload 4, 2) := by decide +kernel
theorem dX10_crosses_36 : decode cX10_crosses 36 = .ok (.bipush 100, 2) := by decide +kernel
theorem dX10_crosses_38 : decode cX10_crosses 38 = .ok (.if_icmp .gt 44, 3) := by decide +kernel
theorem dX10_crosses_41 : decode cX10_crosses 41 = .ok (.aload_n 0, 1) := by decide +kernel
theorem dX10_crosses_42 : decode cX10_crosses 42 = .ok (.getfield 16, 3) := by decide +kernel
theorem dX10_crosses_45 : decode cX10_crosses 45 = .ok (.iload_n 1, 1) := by decide +kernel
theorem dX10_crosses_46 : decode cX10_crosses 46 = .ok (.invokevirtual 106, 3) := by decide +kernel
theorem dX10_crosses_49 : decode cX10_crosses 49 = .ok (.invokevirtual 122, 3) := by decide +kernel
theorem dX10_crosses_52 : decode cX10_crosses 52 = .ok (.aload_n 0, 1) := by decide +kernel
theorem dX10_crosses_53 : decode cX10_crosses 53 = .ok (.getfield 16, 3) := by decide +kernel
theorem dX10_crosses_56 : decode cX10_crosses 56 = .ok (.iload_n 2, 1) := by decide +kernel
theorem dX10_crosses_57 : decode cX10_crosses 57 = .ok (.invokevirtual 106, 3) := by decide +kernel
theorem dX10_crosses_60 : decode cX10_crosses 60 = .ok (.invokevirtual 122, 3) := by decide +kernel
theorem dX10_crosses_63 : decode cX10_crosses 63 = .ok (.if_icmp .ge 6, 3) := by decide +kernel
theorem dX10_crosses_66 : decode cX10_crosses 66 = .ok (.iload 4, 2) := by decide +kernel
theorem dX10_crosses_68 : decode cX10_crosses 68 = .ok (.ireturn, 1) := by decide +kernel
theorem dX10_crosses_69 : decode cX10_crosses 69 = .ok (.aload_n 0, 1) := by decide +kernel
theorem dX10_crosses_70 : decode cX10_crosses 70 = .ok (.getfield 16, 3) := by decide +kernel
theorem dX10_crosses_73 : decode cX10_crosses 73 = .ok (.invokevirtual 336, 3) := by decide +kernel
theorem dX10_crosses_76 : decode cX10_crosses 76 = .ok (.iinc 4 1, 3) := by decide +kernel
theorem dX10_crosses_79 : decode cX10_crosses 79 = .ok (.goto (-45), 3) := by decide +kernel
theorem dX10_crosses_82 : decode cX10_crosses 82 = .ok (.bipush (-9), 2) := by decide +kernel
theorem dX10_crosses_84 : decode cX10_crosses 84 = .ok (.ireturn, 1) := by decide +kernel
theorem dX10_heir_0 : decode cX10_heir 0 = .ok (.aload_n 0, 1) := by decide +kernel
theorem dX10_heir_1 : decode cX10_heir 1 = .ok (.getfield 10, 3) := by decide +kernel
theorem dX10_heir_4 : decode cX10_heir 4 = .ok (.iload_n 1, 1) := by decide +kernel
theorem dX10_heir_5 : decode cX10_heir 5 = .ok (.invokevirtual 99, 3) := by decide +kernel
theorem dX10_heir_8 : decode cX10_heir 8 = .ok (.istore_n 2, 1) := by decide +kernel
theorem dX10_heir_9 : decode cX10_heir 9 = .ok (.iload_n 2, 1) := by decide +kernel
theorem dX10_heir_10 : decode cX10_heir 10 = .ok (.ifCond .eq 9, 3) := by decide +kernel
theorem dX10_heir_13 : decode cX10_heir 13 = .ok (.aload_n 0, 1) := by decide +kernel
theorem dX10_heir_14 : decode cX10_heir 14 = .ok (.iload_n 2, 1) := by decide +kernel
theorem dX10_heir_15 : decode cX10_heir 15 = .ok (.invokevirtual 67, 3) := by decide +kernel
theorem dX10_heir_18 : decode cX10_heir 18 = .ok (.ireturn, 1) := by decide +kernel
theorem dX10_heir_19 : decode cX10_heir 19 = .ok (.aload_n 0, 1) := by decide +kernel
theorem dX10_heir_20 : decode cX10_heir 20 = .ok (.getfield 16, 3) := by decide +kernel
theorem dX10_heir_23 : decode cX10_heir 23 = .ok (.aload_n 0, 1) := by decide +kernel
theorem dX10_heir_24 : decode cX10_heir 24 = .ok (.getfield 10, 3) := by decide +kernel
theorem dX10_heir_27 : decode cX10_heir 27 = .ok (.invokevirtual 74, 3) := by decide +kernel
theorem dX10_heir_30 : decode cX10_heir 30 = .ok (.aload_n 0, 1) := by decide +kernel
theorem dX10_heir_31 : decode cX10_heir 31 = .ok (.getfield 16, 3) := by decide +kernel
theorem dX10_heir_34 : decode cX10_heir 34 = .ok (.invokevirtual 276, 3) := by decide +kernel
theorem dX10_heir_37 : decode cX10_heir 37 = .ok (.iconst 1, 1) := by decide +kernel
theorem dX10_heir_38 : decode cX10_heir 38 = .ok (.iload_n 1, 1) := by decide +kernel
theorem dX10_heir_39 : decode cX10_heir 39 = .ok (.ishl, 1) := by decide +kernel
theorem dX10_heir_40 : decode cX10_heir 40 = .ok (.iconst (-1), 1) := by decide +kernel
theorem dX10_heir_41 : decode cX10_heir 41 = .ok (.ixor, 1) := by decide +kernel
theorem dX10_heir_42 : decode cX10_heir 42 = .ok (.iand, 1) := by decide +kernel
theorem dX10_heir_43 : decode cX10_heir 43 = .ok (.istore_n 3, 1) := by decide +kernel
theorem dX10_heir_44 : decode cX10_heir 44 = .ok (.aload_n 0, 1) := by decide +kernel
theorem dX10_heir_45 : decode cX10_heir 45 = .ok (.getfield 16, 3) := by decide +kernel
theorem dX10_heir_48 : decode cX10_heir 48 = .ok (.aload_n 0, 1) := by decide +kernel
theorem dX10_heir_49 : decode cX10_heir 49 = .ok (.getfield 16, 3) := by decide +kernel
theorem dX10_heir_52 : decode cX10_heir 52 = .ok (.iload_n 1, 1) := by decide +kernel
theorem dX10_heir_53 : decode cX10_heir 53 = .ok (.invokevirtual 106, 3) := by decide +kernel
theorem dX10_heir_56 : decode cX10_heir 56 = .ok (.getfield 113, 3) := by decide +kernel
theorem dX10_heir_59 : decode cX10_heir 59 = .ok (.iload_n 3, 1) := by decide +kernel
theorem dX10_heir_60 : decode cX10_heir 60 = .ok (.invokevirtual 338, 3) := by decide +kernel
theorem dX10_heir_63 : decode cX10_heir 63 = .ok (.aload_n 0, 1) := by decide +kernel
theorem dX10_heir_64 : decode cX10_heir 64 = .ok (.getfield 16, 3) := by decide +kernel
theorem dX10_heir_67 : decode cX10_heir 67 = .ok (.invokevirtual 341, 3) := by decide +kernel
theorem dX10_heir_70 : decode cX10_heir 70 = .ok (.bipush (-9), 2) := by decide +kernel
theorem dX10_heir_72 : decode cX10_heir 72 = .ok (.istore 4, 2) := by decide +kernel
theorem dX10_heir_74 : decode cX10_heir 74 = .ok (.iconst 0, 1) := by decide +kernel
theorem dX10_heir_75 : decode cX10_heir 75 = .ok (.istore 5, 2) := by decide +kernel
theorem dX10_heir_77 : decode cX10_heir 77 = .ok (.iload 5, 2) := by decide +kernel
theorem dX10_heir_79 : decode cX10_heir 79 = .ok (.aload_n 0, 1) := by decide +kernel
theorem dX10_heir_80 : decode cX10_heir 80 = .ok (.getfield 16, 3) := by decide +kernel
theorem dX10_heir_83 : decode cX10_heir 83 = .ok (.getfield 255, 3) := by decide +kernel
theorem dX10_heir_86 : decode cX10_heir 86 = .ok (.if_icmp .ge 34, 3) := by decide +kernel
theorem dX10_heir_89 : decode cX10_heir 89 = .ok (.iload 5, 2) := by decide +kernel
theorem dX10_heir_91 : decode cX10_heir 91 = .ok (.iload_n 1, 1) := by decide +kernel
theorem dX10_heir_92 : decode cX10_heir 92 = .ok (.if_icmp .eq 22, 3) := by decide +kernel
theorem dX10_heir_95 : decode cX10_heir 95 = .ok (.iload 4, 2) := by decide +kernel
theorem dX10_heir_97 : decode cX10_heir 97 = .ok (.aload_n 0, 1) := by decide +kernel
theorem dX10_heir_98 : decode cX10_heir 98 = .ok (.getfield 16, 3) := by decide +kernel
theorem dX10_heir_101 : decode cX10_heir 101 = .ok (.iload 5, 2) := by decide +kernel
theorem dX10_heir_103 : decode cX10_heir 103 = .ok (.invokevirtual 106, 3) := by decide +kernel
theorem dX10_heir_106 : decode cX10_heir 106 = .ok (.invokevirtual 122, 3) := by decide +kernel
theorem dX10_heir_109 : decode cX10_heir 109 = .ok (.invokestatic 344, 3) := by decide +kernel
theorem dX10_heir_112 : decode cX10_heir 112 = .ok (.istore 4, 2) := by decide +kernel
theorem dX10_heir_114 : decode cX10_heir 114 = .ok (.iinc 5 1, 3) := by decide +kernel
theorem dX10_heir_117 : decode cX10_heir 117 = .ok (.goto (-40), 3) := by decide +kernel
theorem dX10_heir_120 : decode cX10_heir 120 = .ok (.iload 4, 2) := by decide +kernel
theorem dX10_heir_122 : decode cX10_heir 122 = .ok (.ireturn, 1) := by decide +kernel
theorem dX10_rank_0 : decode cX10_rank 0 = .ok (.iload_n 1, 1) := by decide +kernel
theorem dX10_rank_1 : decode cX10_rank 1 = .ok (.ifCond .ge 12, 3) := by decide +kernel
theorem dX10_rank_4 : decode cX10_rank 4 = .ok (.aload_n 0, 1) := by decide +kernel
theorem dX10_rank_5 : decode cX10_rank 5 = .ok (.bipush (-4), 2) := by decide +kernel
theorem dX10_rank_7 : decode cX10_rank 7 = .ok (.invokevirtual 67, 3) := by decide +kernel
theorem dX10_rank_10 : decode cX10_rank 10 = .ok (.goto 8, 3) := by decide +kernel
theorem dX10_rank_13 : decode cX10_rank 13 = .ok (.aload_n 0, 1) := by decide +kernel
theorem dX10_rank_14 : decode cX10_rank 14 = .ok (.iload_n 1, 1) := by decide +kernel
theorem dX10_rank_15 : decode cX10_rank 15 = .ok (.invokevirtual 323, 3) := by decide +kernel
theorem dX10_rank_18 : decode cX10_rank 18 = .ok (.ireturn, 1) := by decide +kernel
theorem dX10_half_0 : decode cX10_half 0 = .ok (.aload_n 0, 1) := by decide +kernel
theorem dX10_half_1 : decode cX10_half 1 = .ok (.getfield 16, 3) := by decide +kernel
theorem dX10_half_4 : decode cX10_half 4 = .ok (.aload_n 0, 1) := by decide +kernel
theorem dX10_half_5 : decode cX10_half 5 = .ok (.getfield 10, 3) := by decide +kernel
theorem dX10_half_8 : decode cX10_half 8 = .ok (.invokevirtual 74, 3) := by decide +kernel
theorem dX10_half_11 : decode cX10_half 11 = .ok (.aload_n 0, 1) := by decide +kernel
theorem dX10_half_12 : decode cX10_half 12 = .ok (.getfield 16, 3) := by decide +kernel
theorem dX10_half_15 : decode cX10_half 15 = .ok (.invokevirtual 349, 3) := by decide +kernel
theorem dX10_half_18 : decode cX10_half 18 = .ok (.istore_n 1, 1) := by decide +kernel
theorem dX10_half_19 : decode cX10_half 19 = .ok (.iconst 0, 1) := by decide +kernel
theorem dX10_half_20 : decode cX10_half 20 = .ok (.istore_n 2, 1) := by decide +kernel
theorem dX10_half_21 : decode cX10_half 21 = .ok (.iload_n 2, 1) := by decide +kernel
theorem dX10_half_22 : decode cX10_half 22 = .ok (.bipush 100, 2) := by decide +kernel
theorem dX10_half_24 : decode cX10_half 24 = .ok (.if_icmp .gt 31, 3) := by decide +kernel
theorem dX10_half_27 : decode cX10_half 27 = .ok (.iconst 2, 1) := by decide +kernel
theorem dX10_half_28 : decode cX10_half 28 = .ok (.aload_n 0, 1) := by decide +kernel
theorem dX10_half_29 : decode cX10_half 29 = .ok (.getfield 16, 3) := by decide +kernel
theorem dX10_half_32 : decode cX10_half 32 = .ok (.invokevirtual 349, 3) := by decide +kernel
theorem dX10_half_35 : decode cX10_half 35 = .ok (.imul, 1) := by decide +kernel
theorem dX10_half_36 : decode cX10_half 36 = .ok (.iload_n 1, 1) := by decide +kernel
theorem dX10_half_37 : decode cX10_half 37 = .ok (.if_icmp .gt 5, 3) := by decide +kernel
theorem dX10_half_40 : decode cX10_half 40 = .ok (.iload_n 2, 1) := by decide +kernel
theorem dX10_half_41 : decode cX10_half 41 = .ok (.ireturn, 1) := by decide +kernel
theorem dX10_half_42 : decode cX10_half 42 = .ok (.aload_n 0, 1) := by decide +kernel
theorem dX10_half_43 : decode cX10_half 43 = .ok (.getfield 16, 3) := by decide +kernel
theorem dX10_half_46 : decode cX10_half 46 = .ok (.invokevirtual 336, 3) := by decide +kernel
theorem dX10_half_49 : decode cX10_half 49 = .ok (.iinc 2 1, 3) := by decide +kernel
theorem dX10_half_52 : decode cX10_half 52 = .ok (.goto (-31), 3) := by decide +kernel
theorem dX10_half_55 : decode cX10_half 55 = .ok (.bipush (-9), 2) := by decide +kernel
theorem dX10_half_57 : decode cX10_half 57 = .ok (.ireturn, 1) := by decide +kernel
theorem dX10_row_0 : decode cX10_row 0 = .ok (.iload_n 1, 1) := by decide +kernel
theorem dX10_row_1 : decode cX10_row 1 = .ok (.iconst 0, 1) := by decide +kernel
theorem dX10_row_2 : decode cX10_row 2 = .ok (.bipush 99, 2) := by decide +kernel
theorem dX10_row_4 : decode cX10_row 4 = .ok (.invokestatic 59, 3) := by decide +kernel
theorem dX10_row_7 : decode cX10_row 7 = .ok (.istore_n 2, 1) := by decide +kernel
theorem dX10_row_8 : decode cX10_row 8 = .ok (.iload_n 2, 1) := by decide +kernel
theorem dX10_row_9 : decode cX10_row 9 = .ok (.ifCond .ne 18, 3) := by decide +kernel
theorem dX10_row_12 : decode cX10_row 12 = .ok (.aload_n 0, 1) := by decide +kernel
theorem dX10_row_13 : decode cX10_row 13 = .ok (.getfield 285, 3) := by decide +kernel
theorem dX10_row_16 : decode cX10_row 16 = .ok (.aload_n 0, 1) := by decide +kernel
theorem dX10_row_17 : decode cX10_row 17 = .ok (.getfield 36, 3) := by decide +kernel
theorem dX10_row_20 : decode cX10_row 20 = .ok (.arraylength, 1) := by decide +kernel
theorem dX10_row_21 : decode cX10_row 21 = .ok (.if_icmp .lt 6, 3) := by decide +kernel
theorem dX10_row_24 : decode cX10_row 24 = .ok (.bipush (-6), 2) := by decide +kernel
theorem dX10_row_26 : decode cX10_row 26 = .ok (.istore_n 2, 1) := by decide +kernel
theorem dX10_row_27 : decode cX10_row 27 = .ok (.iload_n 2, 1) := by decide +kernel
theorem dX10_row_28 : decode cX10_row 28 = .ok (.ifCond .eq 9, 3) := by decide +kernel
theorem dX10_row_31 : decode cX10_row 31 = .ok (.aload_n 0, 1) := by decide +kernel
theorem dX10_row_32 : decode cX10_row 32 = .ok (.iload_n 2, 1) := by decide +kernel
theorem dX10_row_33 : decode cX10_row 33 = .ok (.invokevirtual 67, 3) := by decide +kernel
theorem dX10_row_36 : decode cX10_row 36 = .ok (.ireturn, 1) := by decide +kernel
theorem dX10_row_37 : decode cX10_row 37 = .ok (.aload_n 0, 1) := by decide +kernel
theorem dX10_row_38 : decode cX10_row 38 = .ok (.getfield 285, 3) := by decide +kernel
theorem dX10_row_41 : decode cX10_row 41 = .ok (.aload_n 0, 1) := by decide +kernel
theorem dX10_row_42 : decode cX10_row 42 = .ok (.getfield 36, 3) := by decide +kernel
theorem dX10_row_45 : decode cX10_row 45 = .ok (.arraylength, 1) := by decide +kernel
theorem dX10_row_46 : decode cX10_row 46 = .ok (.if_icmp .ge 13, 3) := by decide +kernel
theorem dX10_row_49 : decode cX10_row 49 = .ok (.aload_n 0, 1) := by decide +kernel
theorem dX10_row_50 : decode cX10_row 50 = .ok (.getfield 36, 3) := by decide +kernel
theorem dX10_row_53 : decode cX10_row 53 = .ok (.aload_n 0, 1) := by decide +kernel
theorem dX10_row_54 : decode cX10_row 54 = .ok (.getfield 285, 3) := by decide +kernel
theorem dX10_row_57 : decode cX10_row 57 = .ok (.iload_n 1, 1) := by decide +kernel
theorem dX10_row_58 : decode cX10_row 58 = .ok (.iastore, 1) := by decide +kernel
theorem dX10_row_59 : decode cX10_row 59 = .ok (.aload_n 0, 1) := by decide +kernel
theorem dX10_row_60 : decode cX10_row 60 = .ok (.dup, 1) := by decide +kernel
theorem dX10_row_61 : decode cX10_row 61 = .ok (.getfield 285, 3) := by decide +kernel
theorem dX10_row_64 : decode cX10_row 64 = .ok (.iconst 1, 1) := by decide +kernel
theorem dX10_row_65 : decode cX10_row 65 = .ok (.iadd, 1) := by decide +kernel
theorem dX10_row_66 : decode cX10_row 66 = .ok (.putfield 285, 3) := by decide +kernel
theorem dX10_row_69 : decode cX10_row 69 = .ok (.aload_n 0, 1) := by decide +kernel
theorem dX10_row_70 : decode cX10_row 70 = .ok (.getfield 285, 3) := by decide +kernel
theorem dX10_row_73 : decode cX10_row 73 = .ok (.ireturn, 1) := by decide +kernel
theorem dX10_judge_0 : decode cX10_judge 0 = .ok (.aload_n 0, 1) := by decide +kernel
theorem dX10_judge_1 : decode cX10_judge 1 = .ok (.getfield 10, 3) := by decide +kernel
theorem dX10_judge_4 : decode cX10_judge 4 = .ok (.iload_n 1, 1) := by decide +kernel
theorem dX10_judge_5 : decode cX10_judge 5 = .ok (.invokevirtual 99, 3) := by decide +kernel
theorem dX10_judge_8 : decode cX10_judge 8 = .ok (.istore_n 2, 1) := by decide +kernel
theorem dX10_judge_9 : decode cX10_judge 9 = .ok (.iload_n 2, 1) := by decide +kernel
theorem dX10_judge_10 : decode cX10_judge 10 = .ok (.ifCond .eq 9, 3) := by decide +kernel
theorem dX10_judge_13 : decode cX10_judge 13 = .ok (.aload_n 0, 1) := by decide +kernel
theorem dX10_judge_14 : decode cX10_judge 14 = .ok (.iload_n 2, 1) := by decide +kernel
theorem dX10_judge_15 : decode cX10_judge 15 = .ok (.invokevirtual 67, 3) := by decide +kernel
theorem dX10_judge_18 : decode cX10_judge 18 = .ok (.ireturn, 1) := by decide +kernel
theorem dX10_judge_19 : decode cX10_judge 19 = .ok (.aload_n 0, 1) := by decide +kernel
theorem dX10_judge_20 : decode cX10_judge 20 = .ok (.invokevirtual 352, 3) := by decide +kernel
theorem dX10_judge_23 : decode cX10_judge 23 = .ok (.istore_n 3, 1) := by decide +kernel
theorem dX10_judge_24 : decode cX10_judge 24 = .ok (.aload_n 0, 1) := by decide +kernel
theorem dX10_judge_25 : decode cX10_judge 25 = .ok (.getfield 46, 3) := by decide +kernel
theorem dX10_judge_28 : decode cX10_judge 28 = .ok (.aload_n 0, 1) := by decide +kernel
theorem dX10_judge_29 : decode cX10_judge 29 = .ok (.getfield 10, 3) := by decide +kernel
theorem dX10_judge_32 : decode cX10_judge 32 = .ok (.iload_n 1, 1) := by decide +kernel
theorem dX10_judge_33 : decode cX10_judge 33 = .ok (.invokevirtual 106, 3) := by decide +kernel
theorem dX10_judge_36 : decode cX10_judge 36 = .ok (.invokevirtual 233, 3) := by decide +kernel
theorem dX10_judge_39 : decode cX10_judge 39 = .ok (.iconst 0, 1) := by decide +kernel
theorem dX10_judge_40 : decode cX10_judge 40 = .ok (.istore 4, 2) := by decide +kernel
theorem dX10_judge_42 : decode cX10_judge 42 = .ok (.iload 4, 2) := by decide +kernel
theorem dX10_judge_44 : decode cX10_judge 44 = .ok (.iload_n 3, 1) := by decide +kernel
theorem dX10_judge_45 : decode cX10_judge 45 = .ok (.if_icmp .ge 54, 3) := by decide +kernel
theorem dX10_judge_48 : decode cX10_judge 48 = .ok (.aload_n 0, 1) := by decide +kernel
theorem dX10_judge_49 : decode cX10_judge 49 = .ok (.iload 4, 2) := by decide +kernel
theorem dX10_judge_51 : decode cX10_judge 51 = .ok (.aload_n 0, 1) := by decide +kernel
theorem dX10_judge_52 : decode cX10_judge 52 = .ok (.getfield 46, 3) := by decide +kernel
theorem dX10_judge_55 : decode cX10_judge 55 = .ok (.invokevirtual 122, 3) := by decide +kernel
theorem dX10_judge_58 : decode cX10_judge 58 = .ok (.invokevirtual 355, 3) := by decide +kernel
theorem dX10_judge_61 : decode cX10_judge 61 = .ok (.ifCond .ne 6, 3) := by decide +kernel
theorem dX10_judge_64 : decode cX10_judge 64 = .ok (.iload 4, 2) := by decide +kernel
theorem dX10_judge_66 : decode cX10_judge 66 = .ok (.ireturn, 1) := by decide +kernel
theorem dX10_judge_67 : decode cX10_judge 67 = .ok (.aload_n 0, 1) := by decide +kernel
theorem dX10_judge_68 : decode cX10_judge 68 = .ok (.getfield 46, 3) := by decide +kernel
theorem dX10_judge_71 : decode cX10_judge 71 = .ok (.aload_n 0, 1) := by decide +kernel
theorem dX10_judge_72 : decode cX10_judge 72 = .ok (.getfield 10, 3) := by decide +kernel
theorem dX10_judge_75 : decode cX10_judge 75 = .ok (.getfield 239, 3) := by decide +kernel
theorem dX10_judge_78 : decode cX10_judge 78 = .ok (.aload_n 0, 1) := by decide +kernel
theorem dX10_judge_79 : decode cX10_judge 79 = .ok (.getfield 10, 3) := by decide +kernel
theorem dX10_judge_82 : decode cX10_judge 82 = .ok (.getfield 242, 3) := by decide +kernel
theorem dX10_judge_85 : decode cX10_judge 85 = .ok (.iload 4, 2) := by decide +kernel
theorem dX10_judge_87 : decode cX10_judge 87 = .ok (.iadd, 1) := by decide +kernel
theorem dX10_judge_88 : decode cX10_judge 88 = .ok (.iconst 1, 1) := by decide +kernel
theorem dX10_judge_89 : decode cX10_judge 89 = .ok (.iadd, 1) := by decide +kernel
theorem dX10_judge_90 : decode cX10_judge 90 = .ok (.invokevirtual 326, 3) := by decide +kernel
theorem dX10_judge_93 : decode cX10_judge 93 = .ok (.iinc 4 1, 3) := by decide +kernel
theorem dX10_judge_96 : decode cX10_judge 96 = .ok (.goto (-54), 3) := by decide +kernel
theorem dX10_judge_99 : decode cX10_judge 99 = .ok (.bipush (-9), 2) := by decide +kernel
theorem dX10_judge_101 : decode cX10_judge 101 = .ok (.ireturn, 1) := by decide +kernel
theorem dX10_clear_0 : decode cX10_clear 0 = .ok (.aload_n 0, 1) := by decide +kernel
theorem dX10_clear_1 : decode cX10_clear 1 = .ok (.getfield 285, 3) := by decide +kernel
theorem dX10_clear_4 : decode cX10_clear 4 = .ok (.istore_n 1, 1) := by decide +kernel
theorem dX10_clear_5 : decode cX10_clear 5 = .ok (.aload_n 0, 1) := by decide +kernel
theorem dX10_clear_6 : decode cX10_clear 6 = .ok (.iconst 0, 1) := by decide +kernel
theorem dX10_clear_7 : decode cX10_clear 7 = .ok (.putfield 285, 3) := by decide +kernel
theorem dX10_clear_10 : decode cX10_clear 10 = .ok (.iload_n 1, 1) := by decide +kernel
theorem dX10_clear_11 : decode cX10_clear 11 = .ok (.ireturn, 1) := by decide +kernel
theorem dX10_lots_0 : decode cX10_lots 0 = .ok (.iload_n 1, 1) := by decide +kernel
theorem dX10_lots_1 : decode cX10_lots 1 = .ok (.iconst 1, 1) := by decide +kernel
theorem dX10_lots_2 : decode cX10_lots 2 = .ok (.bipush 20, 2) := by decide +kernel
theorem dX10_lots_4 : decode cX10_lots 4 = .ok (.invokestatic 59, 3) := by decide +kernel
theorem dX10_lots_7 : decode cX10_lots 7 = .ok (.istore 4, 2) := by decide +kernel
theorem dX10_lots_9 : decode cX10_lots 9 = .ok (.iload 4, 2) := by decide +kernel
theorem dX10_lots_11 : decode cX10_lots 11 = .ok (.ifCond .ne 10, 3) := by decide +kernel
theorem dX10_lots_14 : decode cX10_lots 14 = .ok (.iload_n 3, 1) := by decide +kernel
theorem dX10_lots_15 : decode cX10_lots 15 = .ok (.iconst 1, 1) := by decide +kernel
theorem dX10_lots_16 : decode cX10_lots 16 = .ok (.invokestatic 102, 3) := by decide +kernel
theorem dX10_lots_19 : decode cX10_lots 19 = .ok (.istore 4, 2) := by decide +kernel
theorem dX10_lots_21 : decode cX10_lots 21 = .ok (.iload 4, 2) := by decide +kernel
theorem dX10_lots_23 : decode cX10_lots 23 = .ok (.ifCond .eq 10, 3) := by decide +kernel
theorem dX10_lots_26 : decode cX10_lots 26 = .ok (.aload_n 0, 1) := by decide +kernel
theorem dX10_lots_27 : decode cX10_lots 27 = .ok (.iload 4, 2) := by decide +kernel
theorem dX10_lots_29 : decode cX10_lots 29 = .ok (.invokevirtual 67, 3) := by decide +kernel
theorem dX10_lots_32 : decode cX10_lots 32 = .ok (.ireturn, 1) := by decide +kernel
theorem dX10_lots_33 : decode cX10_lots 33 = .ok (.iload_n 2, 1) := by decide +kernel
theorem dX10_lots_34 : decode cX10_lots 34 = .ok (.istore 5, 2) := by decide +kernel
theorem dX10_lots_36 : decode cX10_lots 36 = .ok (.iconst 0, 1) := by decide +kernel
theorem dX10_lots_37 : decode cX10_lots 37 = .ok (.istore 6, 2) := by decide +kernel
theorem dX10_lots_39 : decode cX10_lots 39 = .ok (.iconst 0, 1) := by decide +kernel
theorem dX10_lots_40 : decode cX10_lots 40 = .ok (.istore 7, 2) := by decide +kernel
theorem dX10_lots_42 : decode cX10_lots 42 = .ok (.iconst 0, 1) := by decide +kernel
theorem dX10_lots_43 : decode cX10_lots 43 = .ok (.istore 8, 2) := by decide +kernel
theorem dX10_lots_45 : decode cX10_lots 45 = .ok (.iload 8, 2) := by decide +kernel
theorem dX10_lots_47 : decode cX10_lots 47 = .ok (.iload_n 1, 1) := by decide +kernel
theorem dX10_lots_48 : decode cX10_lots 48 = .ok (.if_icmp .ge 114, 3) := by decide +kernel
theorem dX10_lots_51 : decode cX10_lots 51 = .ok (.aload_n 0, 1) := by decide +kernel
theorem dX10_lots_52 : decode cX10_lots 52 = .ok (.getfield 16, 3) := by decide +kernel
theorem dX10_lots_55 : decode cX10_lots 55 = .ok (.aload_n 0, 1) := by decide +kernel
theorem dX10_lots_56 : decode cX10_lots 56 = .ok (.getfield 10, 3) := by decide +kernel
theorem dX10_lots_59 : decode cX10_lots 59 = .ok (.invokevirtual 74, 3) := by decide +kernel
theorem dX10_lots_62 : decode cX10_lots 62 = .ok (.iload 5, 2) := by decide +kernel
theorem dX10_lots_64 : decode cX10_lots 64 = .ok (.invokestatic 359, 3) := by decide +kernel
theorem dX10_lots_67 : decode cX10_lots 67 = .ok (.istore 5, 2) := by decide +kernel
theorem dX10_lots_69 : decode cX10_lots 69 = .ok (.aload_n 0, 1) := by decide +kernel
theorem dX10_lots_70 : decode cX10_lots 70 = .ok (.getfield 16, 3) := by decide +kernel
theorem dX10_lots_73 : decode cX10_lots 73 = .ok (.bipush 10, 2) := by decide +kernel
theorem dX10_lots_75 : decode cX10_lots 75 = .ok (.iload 5, 2) := by decide +kernel
theorem dX10_lots_77 : decode cX10_lots 77 = .ok (.invokestatic 362, 3) := by decide +kernel
theorem dX10_lots_80 : decode cX10_lots 80 = .ok (.putfield 239, 3) := by decide +kernel
theorem dX10_lots_83 : decode cX10_lots 83 = .ok (.iconst 0, 1) := by decide +kernel
theorem dX10_lots_84 : decode cX10_lots 84 = .ok (.istore 9, 2) := by decide +kernel
theorem dX10_lots_86 : decode cX10_lots 86 = .ok (.iload 9, 2) := by decide +kernel
theorem dX10_lots_88 : decode cX10_lots 88 = .ok (.aload_n 0, 1) := by decide +kernel
theorem dX10_lots_89 : decode cX10_lots 89 = .ok (.getfield 16, 3) := by decide +kernel
theorem dX10_lots_92 : decode cX10_lots 92 = .ok (.getfield 255, 3) := by decide +kernel
theorem dX10_lots_95 : decode cX10_lots 95 = .ok (.if_icmp .ge 35, 3) := by decide +kernel
theorem dX10_lots_98 : decode cX10_lots 98 = .ok (.iload 5, 2) := by decide +kernel
theorem dX10_lots_100 : decode cX10_lots 100 = .ok (.invokestatic 359, 3) := by decide +kernel
theorem dX10_lots_103 : decode cX10_lots 103 = .ok (.istore 5, 2) := by decide +kernel
theorem dX10_lots_105 : decode cX10_lots 105 = .ok (.aload_n 0, 1) := by decide +kernel
theorem dX10_lots_106 : decode cX10_lots 106 = .ok (.getfield 16, 3) := by decide +kernel
theorem dX10_lots_109 : decode cX10_lots 109 = .ok (.iload 9, 2) := by decide +kernel
theorem dX10_lots_111 : decode cX10_lots 111 = .ok (.invokevirtual 106, 3) := by decide +kernel
theorem dX10_lots_114 : decode cX10_lots 114 = .ok (.bipush 10, 2) := by decide +kernel
theorem dX10_lots_116 : decode cX10_lots 116 = .ok (.iload 5, 2) := by decide +kernel
theorem dX10_lots_118 : decode cX10_lots 118 = .ok (.invokestatic 362, 3) := by decide +kernel
theorem dX10_lots_121 : decode cX10_lots 121 = .ok (.putfield 116, 3) := by decide +kernel
theorem dX10_lots_124 : decode cX10_lots 124 = .ok (.iinc 9 1, 3) := by decide +kernel
theorem dX10_lots_127 : decode cX10_lots 127 = .ok (.goto (-41), 3) := by decide +kernel
theorem dX10_lots_130 : decode cX10_lots 130 = .ok (.iload 6, 2) := by decide +kernel
theorem dX10_lots_132 : decode cX10_lots 132 = .ok (.aload_n 0, 1) := by decide +kernel
theorem dX10_lots_133 : decode cX10_lots 133 = .ok (.getfield 16, 3) := by decide +kernel
theorem dX10_lots_136 : decode cX10_lots 136 = .ok (.bipush 50, 2) := by decide +kernel
theorem dX10_lots_138 : decode cX10_lots 138 = .ok (.invokevirtual 181, 3) := by decide +kernel
theorem dX10_lots_141 : decode cX10_lots 141 = .ok (.iadd, 1) := by decide +kernel
theorem dX10_lots_142 : decode cX10_lots 142 = .ok (.istore 6, 2) := by decide +kernel
theorem dX10_lots_144 : decode cX10_lots 144 = .ok (.iload 7, 2) := by decide +kernel
theorem dX10_lots_146 : decode cX10_lots 146 = .ok (.aload_n 0, 1) := by decide +kernel
theorem dX10_lots_147 : decode cX10_lots 147 = .ok (.getfield 16, 3) := by decide +kernel
theorem dX10_lots_150 : decode cX10_lots 150 = .ok (.invokevirtual 365, 3) := by decide +kernel
theorem dX10_lots_153 : decode cX10_lots 153 = .ok (.iadd, 1) := by decide +kernel
theorem dX10_lots_154 : decode cX10_lots 154 = .ok (.istore 7, 2) := by decide +kernel
theorem dX10_lots_156 : decode cX10_lots 156 = .ok (.iinc 8 1, 3) := by decide +kernel
theorem dX10_lots_159 : decode cX10_lots 159 = .ok (.goto (-114), 3) := by decide +kernel
theorem dX10_lots_162 : decode cX10_lots 162 = .ok (.iload_n 3, 1) := by decide +kernel
theorem dX10_lots_163 : decode cX10_lots 163 = .ok (.ifCond .ne 8, 3) := by decide +kernel
theorem dX10_lots_166 : decode cX10_lots 166 = .ok (.iload 6, 2) := by decide +kernel
theorem dX10_lots_168 : decode cX10_lots 168 = .ok (.goto 5, 3) := by decide +kernel
theorem dX10_lots_171 : decode cX10_lots 171 = .ok (.iload 7, 2) := by decide +kernel
theorem dX10_lots_173 : decode cX10_lots 173 = .ok (.ireturn, 1) := by decide +kernel
theorem dX10_image_0 : decode cX10_image 0 = .ok (.aload_n 0, 1) := by decide +kernel
theorem dX10_image_1 : decode cX10_image 1 = .ok (.getfield 19, 3) := by decide +kernel
theorem dX10_image_4 : decode cX10_image 4 = .ok (.aload_n 0, 1) := by decide +kernel
theorem dX10_image_5 : decode cX10_image 5 = .ok (.getfield 10, 3) := by decide +kernel
theorem dX10_image_8 : decode cX10_image 8 = .ok (.invokevirtual 74, 3) := by decide +kernel
theorem dX10_image_11 : decode cX10_image 11 = .ok (.aload_n 0, 1) := by decide +kernel
theorem dX10_image_12 : decode cX10_image 12 = .ok (.iconst 1, 1) := by decide +kernel
theorem dX10_image_13 : decode cX10_image 13 = .ok (.putfield 368, 3) := by decide +kernel
theorem dX10_image_16 : decode cX10_image 16 = .ok (.aload_n 0, 1) := by decide +kernel
theorem dX10_image_17 : decode cX10_image 17 = .ok (.getfield 10, 3) := by decide +kernel
theorem dX10_image_20 : decode cX10_image 20 = .ok (.getfield 242, 3) := by decide +kernel
theorem dX10_image_23 : decode cX10_image 23 = .ok (.ireturn, 1) := by decide +kernel
theorem dX10_restore_0 : decode cX10_restore 0 = .ok (.aload_n 0, 1) := by decide +kernel
theorem dX10_restore_1 : decode cX10_restore 1 = .ok (.getfield 368, 3) := by decide +kernel
theorem dX10_restore_4 : decode cX10_restore 4 = .ok (.ifCond .ne 10, 3) := by decide +kernel
theorem dX10_restore_7 : decode cX10_restore 7 = .ok (.aload_n 0, 1) := by decide +kernel
theorem dX10_restore_8 : decode cX10_restore 8 = .ok (.bipush (-3), 2) := by decide +kernel
theorem dX10_restore_10 : decode cX10_restore 10 = .ok (.invokevirtual 67, 3) := by decide +kernel
theorem dX10_restore_13 : decode cX10_restore 13 = .ok (.ireturn, 1) := by decide +kernel
theorem dX10_restore_14 : decode cX10_restore 14 = .ok (.aload_n 0, 1) := by decide +kernel
theorem dX10_restore_15 : decode cX10_restore 15 = .ok (.getfield 10, 3) := by decide +kernel
theorem dX10_restore_18 : decode cX10_restore 18 = .ok (.aload_n 0, 1) := by decide +kernel
theorem dX10_restore_19 : decode cX10_restore 19 = .ok (.getfield 19, 3) := by decide +kernel
theorem dX10_restore_22 : decode cX10_restore 22 = .ok (.invokevirtual 74, 3) := by decide +kernel
theorem dX10_restore_25 : decode cX10_restore 25 = .ok (.aload_n 0, 1) := by decide +kernel
theorem dX10_restore_26 : decode cX10_restore 26 = .ok (.getfield 25, 3) := by decide +kernel
theorem dX10_restore_29 : decode cX10_restore 29 = .ok (.invokevirtual 96, 3) := by decide +kernel
theorem dX10_restore_32 : decode cX10_restore 32 = .ok (.aload_n 0, 1) := by decide +kernel
theorem dX10_restore_33 : decode cX10_restore 33 = .ok (.getfield 10, 3) := by decide +kernel
theorem dX10_restore_36 : decode cX10_restore 36 = .ok (.getfield 242, 3) := by decide +kernel
theorem dX10_restore_39 : decode cX10_restore 39 = .ok (.ireturn, 1) := by decide +kernel
theorem dX10_count_0 : decode cX10_count 0 = .ok (.iload_n 1, 1) := by decide +kernel
theorem dX10_count_1 : decode cX10_count 1 = .ok (.tableswitch 139 0 9 #[55, 63, 71, 79, 87, 102, 110, 118, 126, 131], 55) := by decide +kernel
theorem dX10_count_56 : decode cX10_count 56 = .ok (.aload_n 0, 1) := by decide +kernel
theorem dX10_count_57 : decode cX10_count 57 = .ok (.getfield 10, 3) := by decide +kernel
theorem dX10_count_60 : decode cX10_count 60 = .ok (.getfield 255, 3) := by decide +kernel
theorem dX10_count_63 : decode cX10_count 63 = .ok (.ireturn, 1) := by decide +kernel
theorem dX10_count_64 : decode cX10_count 64 = .ok (.aload_n 0, 1) := by decide +kernel
theorem dX10_count_65 : decode cX10_count 65 = .ok (.getfield 10, 3) := by decide +kernel
theorem dX10_count_68 : decode cX10_count 68 = .ok (.getfield 220, 3) := by decide +kernel
theorem dX10_count_71 : decode cX10_count 71 = .ok (.ireturn, 1) := by decide +kernel
theorem dX10_count_72 : decode cX10_count 72 = .ok (.aload_n 0, 1) := by decide +kernel
theorem dX10_count_73 : decode cX10_count 73 = .ok (.getfield 10, 3) := by decide +kernel
theorem dX10_count_76 : decode cX10_count 76 = .ok (.getfield 242, 3) := by decide +kernel
theorem dX10_count_79 : decode cX10_count 79 = .ok (.ireturn, 1) := by decide +kernel
theorem dX10_count_80 : decode cX10_count 80 = .ok (.aload_n 0, 1) := by decide +kernel
theorem dX10_count_81 : decode cX10_count 81 = .ok (.getfield 10, 3) := by decide +kernel
theorem dX10_count_84 : decode cX10_count 84 = .ok (.getfield 239, 3) := by decide +kernel
theorem dX10_count_87 : decode cX10_count 87 = .ok (.ireturn, 1) := by decide +kernel
theorem dX10_count_88 : decode cX10_count 88 = .ok (.aload_n 0, 1) := by decide +kernel
theorem dX10_count_89 : decode cX10_count 89 = .ok (.getfield 10, 3) := by decide +kernel
theorem dX10_count_92 : decode cX10_count 92 = .ok (.aload_n 0, 1) := by decide +kernel
theorem dX10_count_93 : decode cX10_count 93 = .ok (.getfield 10, 3) := by decide +kernel
theorem dX10_count_96 : decode cX10_count 96 = .ok (.invokevirtual 276, 3) := by decide +kernel
theorem dX10_count_99 : decode cX10_count 99 = .ok (.invokevirtual 279, 3) := by decide +kernel
theorem dX10_count_102 : decode cX10_count 102 = .ok (.ireturn, 1) := by decide +kernel
theorem dX10_count_103 : decode cX10_count 103 = .ok (.aload_n 0, 1) := by decide +kernel
theorem dX10_count_104 : decode cX10_count 104 = .ok (.getfield 10, 3) := by decide +kernel
theorem dX10_count_107 : decode cX10_count 107 = .ok (.invokevirtual 349, 3) := by decide +kernel
theorem dX10_count_110 : decode cX10_count 110 = .ok (.ireturn, 1) := by decide +kernel
theorem dX10_count_111 : decode cX10_count 111 = .ok (.aload_n 0, 1) := by decide +kernel
theorem dX10_count_112 : decode cX10_count 112 = .ok (.getfield 10, 3) := by decide +kernel
theorem dX10_count_115 : decode cX10_count 115 = .ok (.getfield 212, 3) := by decide +kernel
theorem dX10_count_118 : decode cX10_count 118 = .ok (.ireturn, 1) := by decide +kernel
theorem dX10_count_119 : decode cX10_count 119 = .ok (.aload_n 0, 1) := by decide +kernel
theorem dX10_count_120 : decode cX10_count 120 = .ok (.getfield 32, 3) := by decide +kernel
theorem dX10_count_123 : decode cX10_count 123 = .ok (.getfield 82, 3) := by decide +kernel
theorem dX10_count_126 : decode cX10_count 126 = .ok (.ireturn, 1) := by decide +kernel
theorem dX10_count_127 : decode cX10_count 127 = .ok (.aload_n 0, 1) := by decide +kernel
theorem dX10_count_128 : decode cX10_count 128 = .ok (.getfield 285, 3) := by decide +kernel
theorem dX10_count_131 : decode cX10_count 131 = .ok (.ireturn, 1) := by decide +kernel
theorem dX10_count_132 : decode cX10_count 132 = .ok (.aload_n 0, 1) := by decide +kernel
theorem dX10_count_133 : decode cX10_count 133 = .ok (.getfield 25, 3) := by decide +kernel
theorem dX10_count_136 : decode cX10_count 136 = .ok (.getfield 298, 3) := by decide +kernel
theorem dX10_count_139 : decode cX10_count 139 = .ok (.ireturn, 1) := by decide +kernel
theorem dX10_count_140 : decode cX10_count 140 = .ok (.iload_n 1, 1) := by decide +kernel
theorem dX10_count_141 : decode cX10_count 141 = .ok (.bipush 10, 2) := by decide +kernel
theorem dX10_count_143 : decode cX10_count 143 = .ok (.if_icmp .le 27, 3) := by decide +kernel
theorem dX10_count_146 : decode cX10_count 146 = .ok (.iload_n 1, 1) := by decide +kernel
theorem dX10_count_147 : decode cX10_count 147 = .ok (.bipush 10, 2) := by decide +kernel
theorem dX10_count_149 : decode cX10_count 149 = .ok (.isub, 1) := by decide +kernel
theorem dX10_count_150 : decode cX10_count 150 = .ok (.aload_n 0, 1) := by decide +kernel
theorem dX10_count_151 : decode cX10_count 151 = .ok (.getfield 40, 3) := by decide +kernel
theorem dX10_count_154 : decode cX10_count 154 = .ok (.arraylength, 1) := by decide +kernel
theorem dX10_count_155 : decode cX10_count 155 = .ok (.if_icmp .ge 15, 3) := by decide +kernel
theorem dX10_count_158 : decode cX10_count 158 = .ok (.aload_n 0, 1) := by decide +kernel
theorem dX10_count_159 : decode cX10_count 159 = .ok (.getfield 40, 3) := by decide +kernel
theorem dX10_count_162 : decode cX10_count 162 = .ok (.iload_n 1, 1) := by decide +kernel
theorem dX10_count_163 : decode cX10_count 163 = .ok (.bipush 10, 2) := by decide +kernel
theorem dX10_count_165 : decode cX10_count 165 = .ok (.isub, 1) := by decide +kernel
theorem dX10_count_166 : decode cX10_count 166 = .ok (.iaload, 1) := by decide +kernel
theorem dX10_count_167 : decode cX10_count 167 = .ok (.goto 5, 3) := by decide +kernel
theorem dX10_count_170 : decode cX10_count 170 = .ok (.bipush (-9), 2) := by decide +kernel
theorem dX10_count_172 : decode cX10_count 172 = .ok (.ireturn, 1) := by decide +kernel
theorem dX10_refused_0 : decode cX10_refused 0 = .ok (.iload_n 1, 1) := by decide +kernel
theorem dX10_refused_1 : decode cX10_refused 1 = .ok (.ineg, 1) := by decide +kernel
theorem dX10_refused_2 : decode cX10_refused 2 = .ok (.istore_n 2, 1) := by decide +kernel
theorem dX10_refused_3 : decode cX10_refused 3 = .ok (.iload_n 2, 1) := by decide +kernel
theorem dX10_refused_4 : decode cX10_refused 4 = .ok (.ifCond .lt 22, 3) := by decide +kernel
theorem dX10_refused_7 : decode cX10_refused 7 = .ok (.iload_n 2, 1) := by decide +kernel
theorem dX10_refused_8 : decode cX10_refused 8 = .ok (.aload_n 0, 1) := by decide +kernel
theorem dX10_refused_9 : decode cX10_refused 9 = .ok (.getfield 40, 3) := by decide +kernel
theorem dX10_refused_12 : decode cX10_refused 12 = .ok (.arraylength, 1) := by decide +kernel
theorem dX10_refused_13 : decode cX10_refused 13 = .ok (.if_icmp .ge 13, 3) := by decide +kernel
theorem dX10_refused_16 : decode cX10_refused 16 = .ok (.aload_n 0, 1) := by decide +kernel
theorem dX10_refused_17 : decode cX10_refused 17 = .ok (.getfield 40, 3) := by decide +kernel
theorem dX10_refused_20 : decode cX10_refused 20 = .ok (.iload_n 2, 1) := by decide +kernel
theorem dX10_refused_21 : decode cX10_refused 21 = .ok (.dup2, 1) := by decide +kernel
theorem dX10_refused_22 : decode cX10_refused 22 = .ok (.iaload, 1) := by decide +kernel
theorem dX10_refused_23 : decode cX10_refused 23 = .ok (.iconst 1, 1) := by decide +kernel
theorem dX10_refused_24 : decode cX10_refused 24 = .ok (.iadd, 1) := by decide +kernel
theorem dX10_refused_25 : decode cX10_refused 25 = .ok (.iastore, 1) := by decide +kernel
theorem dX10_refused_26 : decode cX10_refused 26 = .ok (.iload_n 1, 1) := by decide +kernel
theorem dX10_refused_27 : decode cX10_refused 27 = .ok (.ireturn, 1) := by decide +kernel
theorem dX10_withoutPast_0 : decode cX10_withoutPast 0 = .ok (.iload_n 1, 1) := by decide +kernel
theorem dX10_withoutPast_1 : decode cX10_withoutPast 1 = .ok (.ifCond .ge 9, 3) := by decide +kernel
theorem dX10_withoutPast_4 : decode cX10_withoutPast 4 = .ok (.aload_n 0, 1) := by decide +kernel
theorem dX10_withoutPast_5 : decode cX10_withoutPast 5 = .ok (.iload_n 1, 1) := by decide +kernel
theorem dX10_withoutPast_6 : decode cX10_withoutPast 6 = .ok (.invokevirtual 67, 3) := by decide +kernel
theorem dX10_withoutPast_9 : decode cX10_withoutPast 9 = .ok (.ireturn, 1) := by decide +kernel
theorem dX10_withoutPast_10 : decode cX10_withoutPast 10 = .ok (.aload_n 0, 1) := by decide +kernel
theorem dX10_withoutPast_11 : decode cX10_withoutPast 11 = .ok (.getfield 25, 3) := by decide +kernel
theorem dX10_withoutPast_14 : decode cX10_withoutPast 14 = .ok (.invokevirtual 96, 3) := by decide +kernel
theorem dX10_withoutPast_17 : decode cX10_withoutPast 17 = .ok (.iload_n 1, 1) := by decide +kernel
theorem dX10_withoutPast_18 : decode cX10_withoutPast 18 = .ok (.ireturn, 1) := by decide +kernel
theorem dX10_withPast_0 : decode cX10_withPast 0 = .ok (.iload_n 1, 1) := by decide +kernel
theorem dX10_withPast_1 : decode cX10_withPast 1 = .ok (.ifCond .ge 9, 3) := by decide +kernel
theorem dX10_withPast_4 : decode cX10_withPast 4 = .ok (.aload_n 0, 1) := by decide +kernel
theorem dX10_withPast_5 : decode cX10_withPast 5 = .ok (.iload_n 1, 1) := by decide +kernel
theorem dX10_withPast_6 : decode cX10_withPast 6 = .ok (.invokevirtual 67, 3) := by decide +kernel
theorem dX10_withPast_9 : decode cX10_withPast 9 = .ok (.ireturn, 1) := by decide +kernel
theorem dX10_withPast_10 : decode cX10_withPast 10 = .ok (.aload_n 0, 1) := by decide +kernel
theorem dX10_withPast_11 : decode cX10_withPast 11 = .ok (.getfield 25, 3) := by decide +kernel
theorem dX10_withPast_14 : decode cX10_withPast 14 = .ok (.aload_n 0, 1) := by decide +kernel
theorem dX10_withPast_15 : decode cX10_withPast 15 = .ok (.getfield 16, 3) := by decide +kernel
theorem dX10_withPast_18 : decode cX10_withPast 18 = .ok (.invokevirtual 372, 3) := by decide +kernel
theorem dX10_withPast_21 : decode cX10_withPast 21 = .ok (.iload_n 1, 1) := by decide +kernel
theorem dX10_withPast_22 : decode cX10_withPast 22 = .ok (.ireturn, 1) := by decide +kernel
theorem dX10_outside_0 : decode cX10_outside 0 = .ok (.iload_n 0, 1) := by decide +kernel
theorem dX10_outside_1 : decode cX10_outside 1 = .ok (.iload_n 1, 1) := by decide +kernel
theorem dX10_outside_2 : decode cX10_outside 2 = .ok (.if_icmp .ge 6, 3) := by decide +kernel
theorem dX10_outside_5 : decode cX10_outside 5 = .ok (.bipush (-4), 2) := by decide +kernel
theorem dX10_outside_7 : decode cX10_outside 7 = .ok (.ireturn, 1) := by decide +kernel
theorem dX10_outside_8 : decode cX10_outside 8 = .ok (.iload_n 0, 1) := by decide +kernel
theorem dX10_outside_9 : decode cX10_outside 9 = .ok (.iload_n 2, 1) := by decide +kernel
theorem dX10_outside_10 : decode cX10_outside 10 = .ok (.if_icmp .le 8, 3) := by decide +kernel
theorem dX10_outside_13 : decode cX10_outside 13 = .ok (.bipush (-6), 2) := by decide +kernel
theorem dX10_outside_15 : decode cX10_outside 15 = .ok (.goto 4, 3) := by decide +kernel
theorem dX10_outside_18 : decode cX10_outside 18 = .ok (.iconst 0, 1) := by decide +kernel
theorem dX10_outside_19 : decode cX10_outside 19 = .ok (.ireturn, 1) := by decide +kernel
theorem dX10_eitherOutside_0 : decode cX10_eitherOutside 0 = .ok (.iload_n 0, 1) := by decide +kernel
theorem dX10_eitherOutside_1 : decode cX10_eitherOutside 1 = .ok (.ifCond .lt 7, 3) := by decide +kernel
theorem dX10_eitherOutside_4 : decode cX10_eitherOutside 4 = .ok (.iload_n 2, 1) := by decide +kernel
theorem dX10_eitherOutside_5 : decode cX10_eitherOutside 5 = .ok (.ifCond .ge 6, 3) := by decide +kernel
theorem dX10_eitherOutside_8 : decode cX10_eitherOutside 8 = .ok (.bipush (-4), 2) := by decide +kernel
theorem dX10_eitherOutside_10 : decode cX10_eitherOutside 10 = .ok (.ireturn, 1) := by decide +kernel
theorem dX10_eitherOutside_11 : decode cX10_eitherOutside 11 = .ok (.iload_n 0, 1) := by decide +kernel
theorem dX10_eitherOutside_12 : decode cX10_eitherOutside 12 = .ok (.iload_n 1, 1) := by decide +kernel
theorem dX10_eitherOutside_13 : decode cX10_eitherOutside 13 = .ok (.if_icmp .gt 8, 3) := by decide +kernel
theorem dX10_eitherOutside_16 : decode cX10_eitherOutside 16 = .ok (.iload_n 2, 1) := by decide +kernel
theorem dX10_eitherOutside_17 : decode cX10_eitherOutside 17 = .ok (.iload_n 3, 1) := by decide +kernel
theorem dX10_eitherOutside_18 : decode cX10_eitherOutside 18 = .ok (.if_icmp .le 8, 3) := by decide +kernel
theorem dX10_eitherOutside_21 : decode cX10_eitherOutside 21 = .ok (.bipush (-6), 2) := by decide +kernel
theorem dX10_eitherOutside_23 : decode cX10_eitherOutside 23 = .ok (.goto 4, 3) := by decide +kernel
theorem dX10_eitherOutside_26 : decode cX10_eitherOutside 26 = .ok (.iconst 0, 1) := by decide +kernel
theorem dX10_eitherOutside_27 : decode cX10_eitherOutside 27 = .ok (.ireturn, 1) := by decide +kernel
theorem dX10_otherThan_0 : decode cX10_otherThan 0 = .ok (.iload_n 0, 1) := by decide +kernel
theorem dX10_otherThan_1 : decode cX10_otherThan 1 = .ok (.ifCond .lt 8, 3) := by decide +kernel
theorem dX10_otherThan_4 : decode cX10_otherThan 4 = .ok (.iload_n 0, 1) := by decide +kernel
theorem dX10_otherThan_5 : decode cX10_otherThan 5 = .ok (.iload_n 1, 1) := by decide +kernel
theorem dX10_otherThan_6 : decode cX10_otherThan 6 = .ok (.if_icmp .le 8, 3) := by decide +kernel
theorem dX10_otherThan_9 : decode cX10_otherThan 9 = .ok (.bipush (-2), 2) := by decide +kernel
theorem dX10_otherThan_11 : decode cX10_otherThan 11 = .ok (.goto 4, 3) := by decide +kernel
theorem dX10_otherThan_14 : decode cX10_otherThan 14 = .ok (.iconst 0, 1) := by decide +kernel
theorem dX10_otherThan_15 : decode cX10_otherThan 15 = .ok (.ireturn, 1) := by decide +kernel
theorem dX10_notAhead_0 : decode cX10_notAhead 0 = .ok (.iload_n 0, 1) := by decide +kernel
theorem dX10_notAhead_1 : decode cX10_notAhead 1 = .ok (.iconst 0, 1) := by decide +kernel
theorem dX10_notAhead_2 : decode cX10_notAhead 2 = .ok (.bipush 100, 2) := by decide +kernel
theorem dX10_notAhead_4 : decode cX10_notAhead 4 = .ok (.invokestatic 59, 3) := by decide +kernel
theorem dX10_notAhead_7 : decode cX10_notAhead 7 = .ok (.ireturn, 1) := by decide +kernel
theorem dX10_noFamilyAhead_0 : decode cX10_noFamilyAhead 0 = .ok (.aload_n 0, 1) := by decide +kernel
theorem dX10_noFamilyAhead_1 : decode cX10_noFamilyAhead 1 = .ok (.getfield 10, 3) := by decide +kernel
theorem dX10_noFamilyAhead_4 : decode cX10_noFamilyAhead 4 = .ok (.iload_n 1, 1) := by decide +kernel
theorem dX10_noFamilyAhead_5 : decode cX10_noFamilyAhead 5 = .ok (.invokevirtual 99, 3) := by decide +kernel
theorem dX10_noFamilyAhead_8 : decode cX10_noFamilyAhead 8 = .ok (.istore_n 3, 1) := by decide +kernel
theorem dX10_noFamilyAhead_9 : decode cX10_noFamilyAhead 9 = .ok (.iload_n 3, 1) := by decide +kernel
theorem dX10_noFamilyAhead_10 : decode cX10_noFamilyAhead 10 = .ok (.ifCond .eq 7, 3) := by decide +kernel
theorem dX10_noFamilyAhead_13 : decode cX10_noFamilyAhead 13 = .ok (.iload_n 3, 1) := by decide +kernel
theorem dX10_noFamilyAhead_14 : decode cX10_noFamilyAhead 14 = .ok (.goto 7, 3) := by decide +kernel
theorem dX10_noFamilyAhead_17 : decode cX10_noFamilyAhead 17 = .ok (.iload_n 2, 1) := by decide +kernel
theorem dX10_noFamilyAhead_18 : decode cX10_noFamilyAhead 18 = .ok (.invokestatic 178, 3) := by decide +kernel
theorem dX10_noFamilyAhead_21 : decode cX10_noFamilyAhead 21 = .ok (.ireturn, 1) := by decide +kernel
theorem dX10_noTwoAhead_0 : decode cX10_noTwoAhead 0 = .ok (.aload_n 0, 1) := by decide +kernel
theorem dX10_noTwoAhead_1 : decode cX10_noTwoAhead 1 = .ok (.getfield 10, 3) := by decide +kernel
theorem dX10_noTwoAhead_4 : decode cX10_noTwoAhead 4 = .ok (.iload_n 1, 1) := by decide +kernel
theorem dX10_noTwoAhead_5 : decode cX10_noTwoAhead 5 = .ok (.iload_n 2, 1) := by decide +kernel
theorem dX10_noTwoAhead_6 : decode cX10_noTwoAhead 6 = .ok (.invokevirtual 333, 3) := by decide +kernel
theorem dX10_noTwoAhead_9 : decode cX10_noTwoAhead 9 = .ok (.istore 4, 2) := by decide +kernel
theorem dX10_noTwoAhead_11 : decode cX10_noTwoAhead 11 = .ok (.iload 4, 2) := by decide +kernel
theorem dX10_noTwoAhead_13 : decode cX10_noTwoAhead 13 = .ok (.ifCond .eq 8, 3) := by decide +kernel
theorem dX10_noTwoAhead_16 : decode cX10_noTwoAhead 16 = .ok (.iload 4, 2) := by decide +kernel
theorem dX10_noTwoAhead_18 : decode cX10_noTwoAhead 18 = .ok (.goto 7, 3) := by decide +kernel
theorem dX10_noTwoAhead_21 : decode cX10_noTwoAhead 21 = .ok (.iload_n 3, 1) := by decide +kernel
theorem dX10_noTwoAhead_22 : decode cX10_noTwoAhead 22 = .ok (.invokestatic 178, 3) := by decide +kernel
theorem dX10_noTwoAhead_25 : decode cX10_noTwoAhead 25 = .ok (.ireturn, 1) := by decide +kernel
theorem dX10_ahead_0 : decode cX10_ahead 0 = .ok (.aload_n 0, 1) := by decide +kernel
theorem dX10_ahead_1 : decode cX10_ahead 1 = .ok (.getfield 46, 3) := by decide +kernel
theorem dX10_ahead_4 : decode cX10_ahead 4 = .ok (.aload_n 0, 1) := by decide +kernel
theorem dX10_ahead_5 : decode cX10_ahead 5 = .ok (.getfield 10, 3) := by decide +kernel
theorem dX10_ahead_8 : decode cX10_ahead 8 = .ok (.iload_n 1, 1) := by decide +kernel
theorem dX10_ahead_9 : decode cX10_ahead 9 = .ok (.invokevirtual 106, 3) := by decide +kernel
theorem dX10_ahead_12 : decode cX10_ahead 12 = .ok (.invokevirtual 233, 3) := by decide +kernel
theorem dX10_ahead_15 : decode cX10_ahead 15 = .ok (.aload_n 0, 1) := by decide +kernel
theorem dX10_ahead_16 : decode cX10_ahead 16 = .ok (.getfield 46, 3) := by decide +kernel
theorem dX10_ahead_19 : decode cX10_ahead 19 = .ok (.aload_n 0, 1) := by decide +kernel
theorem dX10_ahead_20 : decode cX10_ahead 20 = .ok (.getfield 10, 3) := by decide +kernel
theorem dX10_ahead_23 : decode cX10_ahead 23 = .ok (.getfield 239, 3) := by decide +kernel
theorem dX10_ahead_26 : decode cX10_ahead 26 = .ok (.aload_n 0, 1) := by decide +kernel
theorem dX10_ahead_27 : decode cX10_ahead 27 = .ok (.getfield 10, 3) := by decide +kernel
theorem dX10_ahead_30 : decode cX10_ahead 30 = .ok (.getfield 242, 3) := by decide +kernel
theorem dX10_ahead_33 : decode cX10_ahead 33 = .ok (.iload_n 2, 1) := by decide +kernel
theorem dX10_ahead_34 : decode cX10_ahead 34 = .ok (.invokevirtual 245, 3) := by decide +kernel
theorem dX10_ahead_37 : decode cX10_ahead 37 = .ok (.return_, 1) := by decide +kernel
theorem dX10_headOwesBehind_0 : decode cX10_headOwesBehind 0 = .ok (.aload_n 0, 1) := by decide +kernel
theorem dX10_headOwesBehind_1 : decode cX10_headOwesBehind 1 = .ok (.iload_n 1, 1) := by decide +kernel
theorem dX10_headOwesBehind_2 : decode cX10_headOwesBehind 2 = .ok (.iload_n 2, 1) := by decide +kernel
theorem dX10_headOwesBehind_3 : decode cX10_headOwesBehind 3 = .ok (.invokevirtual 174, 3) := by decide +kernel
theorem dX10_headOwesBehind_6 : decode cX10_headOwesBehind 6 = .ok (.aload_n 0, 1) := by decide +kernel
theorem dX10_headOwesBehind_7 : decode cX10_headOwesBehind 7 = .ok (.getfield 46, 3) := by decide +kernel
theorem dX10_headOwesBehind_10 : decode cX10_headOwesBehind 10 = .ok (.invokevirtual 122, 3) := by decide +kernel
theorem dX10_headOwesBehind_13 : decode cX10_headOwesBehind 13 = .ok (.ireturn, 1) := by decide +kernel
theorem dX10_freeBehind_0 : decode cX10_freeBehind 0 = .ok (.aload_n 0, 1) := by decide +kernel
theorem dX10_freeBehind_1 : decode cX10_freeBehind 1 = .ok (.getfield 46, 3) := by decide +kernel
theorem dX10_freeBehind_4 : decode cX10_freeBehind 4 = .ok (.aload_n 0, 1) := by decide +kernel
theorem dX10_freeBehind_5 : decode cX10_freeBehind 5 = .ok (.getfield 10, 3) := by decide +kernel
theorem dX10_freeBehind_8 : decode cX10_freeBehind 8 = .ok (.iload_n 1, 1) := by decide +kernel
theorem dX10_freeBehind_9 : decode cX10_freeBehind 9 = .ok (.invokevirtual 106, 3) := by decide +kernel
theorem dX10_freeBehind_12 : decode cX10_freeBehind 12 = .ok (.invokevirtual 233, 3) := by decide +kernel
theorem dX10_freeBehind_15 : decode cX10_freeBehind 15 = .ok (.iconst 0, 1) := by decide +kernel
theorem dX10_freeBehind_16 : decode cX10_freeBehind 16 = .ok (.istore_n 3, 1) := by decide +kernel
theorem dX10_freeBehind_17 : decode cX10_freeBehind 17 = .ok (.iload_n 3, 1) := by decide +kernel
theorem dX10_freeBehind_18 : decode cX10_freeBehind 18 = .ok (.bipush 100, 2) := by decide +kernel
theorem dX10_freeBehind_20 : decode cX10_freeBehind 20 = .ok (.if_icmp .gt 54, 3) := by decide +kernel
theorem dX10_freeBehind_23 : decode cX10_freeBehind 23 = .ok (.aload_n 0, 1) := by decide +kernel
theorem dX10_freeBehind_24 : decode cX10_freeBehind 24 = .ok (.getfield 46, 3) := by decide +kernel
theorem dX10_freeBehind_27 : decode cX10_freeBehind 27 = .ok (.getfield 113, 3) := by decide +kernel
theorem dX10_freeBehind_30 : decode cX10_freeBehind 30 = .ok (.ifCond .ne 5, 3) := by decide +kernel
theorem dX10_freeBehind_33 : decode cX10_freeBehind 33 = .ok (.iload_n 3, 1) := by decide +kernel
theorem dX10_freeBehind_34 : decode cX10_freeBehind 34 = .ok (.ireturn, 1) := by decide +kernel
theorem dX10_freeBehind_35 : decode cX10_freeBehind 35 = .ok (.aload_n 0, 1) := by decide +kernel
theorem dX10_freeBehind_36 : decode cX10_freeBehind 36 = .ok (.getfield 46, 3) := by decide +kernel
theorem dX10_freeBehind_39 : decode cX10_freeBehind 39 = .ok (.aload_n 0, 1) := by decide +kernel
theorem dX10_freeBehind_40 : decode cX10_freeBehind 40 = .ok (.getfield 10, 3) := by decide +kernel
theorem dX10_freeBehind_43 : decode cX10_freeBehind 43 = .ok (.getfield 239, 3) := by decide +kernel
theorem dX10_freeBehind_46 : decode cX10_freeBehind 46 = .ok (.aload_n 0, 1) := by decide +kernel
theorem dX10_freeBehind_47 : decode cX10_freeBehind 47 = .ok (.getfield 10, 3) := by decide +kernel
theorem dX10_freeBehind_50 : decode cX10_freeBehind 50 = .ok (.getfield 242, 3) := by decide +kernel
theorem dX10_freeBehind_53 : decode cX10_freeBehind 53 = .ok (.iload_n 3, 1) := by decide +kernel
theorem dX10_freeBehind_54 : decode cX10_freeBehind 54 = .ok (.iadd, 1) := by decide +kernel
theorem dX10_freeBehind_55 : decode cX10_freeBehind 55 = .ok (.iconst 1, 1) := by decide +kernel
theorem dX10_freeBehind_56 : decode cX10_freeBehind 56 = .ok (.iadd, 1) := by decide +kernel
theorem dX10_freeBehind_57 : decode cX10_freeBehind 57 = .ok (.invokevirtual 326, 3) := by decide +kernel
theorem dX10_freeBehind_60 : decode cX10_freeBehind 60 = .ok (.aload_n 0, 1) := by decide +kernel
theorem dX10_freeBehind_61 : decode cX10_freeBehind 61 = .ok (.getfield 46, 3) := by decide +kernel
theorem dX10_freeBehind_64 : decode cX10_freeBehind 64 = .ok (.iload_n 2, 1) := by decide +kernel
theorem dX10_freeBehind_65 : decode cX10_freeBehind 65 = .ok (.invokevirtual 236, 3) := by decide +kernel
theorem dX10_freeBehind_68 : decode cX10_freeBehind 68 = .ok (.iinc 3 1, 3) := by decide +kernel
theorem dX10_freeBehind_71 : decode cX10_freeBehind 71 = .ok (.goto (-54), 3) := by decide +kernel
theorem dX10_freeBehind_74 : decode cX10_freeBehind 74 = .ok (.bipush (-9), 2) := by decide +kernel
theorem dX10_freeBehind_76 : decode cX10_freeBehind 76 = .ok (.ireturn, 1) := by decide +kernel
theorem dX10_highestRate_0 : decode cX10_highestRate 0 = .ok (.bipush 20, 2) := by decide +kernel
theorem dX10_highestRate_2 : decode cX10_highestRate 2 = .ok (.istore_n 3, 1) := by decide +kernel
theorem dX10_highestRate_3 : decode cX10_highestRate 3 = .ok (.iload_n 3, 1) := by decide +kernel
theorem dX10_highestRate_4 : decode cX10_highestRate 4 = .ok (.ifCond .lt 52, 3) := by decide +kernel
theorem dX10_highestRate_7 : decode cX10_highestRate 7 = .ok (.aload_n 0, 1) := by decide +kernel
theorem dX10_highestRate_8 : decode cX10_highestRate 8 = .ok (.getfield 46, 3) := by decide +kernel
theorem dX10_highestRate_11 : decode cX10_highestRate 11 = .ok (.aload_n 0, 1) := by decide +kernel
theorem dX10_highestRate_12 : decode cX10_highestRate 12 = .ok (.getfield 10, 3) := by decide +kernel
theorem dX10_highestRate_15 : decode cX10_highestRate 15 = .ok (.iload_n 1, 1) := by decide +kernel
theorem dX10_highestRate_16 : decode cX10_highestRate 16 = .ok (.invokevirtual 106, 3) := by decide +kernel
theorem dX10_highestRate_19 : decode cX10_highestRate 19 = .ok (.invokevirtual 233, 3) := by decide +kernel
theorem dX10_highestRate_22 : decode cX10_highestRate 22 = .ok (.aload_n 0, 1) := by decide +kernel
theorem dX10_highestRate_23 : decode cX10_highestRate 23 = .ok (.getfield 46, 3) := by decide +kernel
theorem dX10_highestRate_26 : decode cX10_highestRate 26 = .ok (.iload_n 3, 1) := by decide +kernel
theorem dX10_highestRate_27 : decode cX10_highestRate 27 = .ok (.aload_n 0, 1) := by decide +kernel
theorem dX10_highestRate_28 : decode cX10_highestRate 28 = .ok (.getfield 10, 3) := by decide +kernel
theorem dX10_highestRate_31 : decode cX10_highestRate 31 = .ok (.getfield 242, 3) := by decide +kernel
theorem dX10_highestRate_34 : decode cX10_highestRate 34 = .ok (.iload_n 2, 1) := by decide +kernel
theorem dX10_highestRate_35 : decode cX10_highestRate 35 = .ok (.invokevirtual 245, 3) := by decide +kernel
theorem dX10_highestRate_38 : decode cX10_highestRate 38 = .ok (.aload_n 0, 1) := by decide +kernel
theorem dX10_highestRate_39 : decode cX10_highestRate 39 = .ok (.getfield 46, 3) := by decide +kernel
theorem dX10_highestRate_42 : decode cX10_highestRate 42 = .ok (.getfield 113, 3) := by decide +kernel
theorem dX10_highestRate_45 : decode cX10_highestRate 45 = .ok (.ifCond .ne 5, 3) := by decide +kernel
theorem dX10_highestRate_48 : decode cX10_highestRate 48 = .ok (.iload_n 3, 1) := by decide +kernel
theorem dX10_highestRate_49 : decode cX10_highestRate 49 = .ok (.ireturn, 1) := by decide +kernel
theorem dX10_highestRate_50 : decode cX10_highestRate 50 = .ok (.iinc 3 (-1), 3) := by decide +kernel
theorem dX10_highestRate_53 : decode cX10_highestRate 53 = .ok (.goto (-50), 3) := by decide +kernel
theorem dX10_highestRate_56 : decode cX10_highestRate 56 = .ok (.bipush (-9), 2) := by decide +kernel
theorem dX10_highestRate_58 : decode cX10_highestRate 58 = .ok (.ireturn, 1) := by decide +kernel
theorem dX10_leastPay_0 : decode cX10_leastPay 0 = .ok (.iconst 0, 1) := by decide +kernel
theorem dX10_leastPay_1 : decode cX10_leastPay 1 = .ok (.istore_n 3, 1) := by decide +kernel
theorem dX10_leastPay_2 : decode cX10_leastPay 2 = .ok (.iload_n 3, 1) := by decide +kernel
theorem dX10_leastPay_3 : decode cX10_leastPay 3 = .ok (.bipush 9, 2) := by decide +kernel
theorem dX10_leastPay_5 : decode cX10_leastPay 5 = .ok (.if_icmp .gt 66, 3) := by decide +kernel
theorem dX10_leastPay_8 : decode cX10_leastPay 8 = .ok (.aload_n 0, 1) := by decide +kernel
theorem dX10_leastPay_9 : decode cX10_leastPay 9 = .ok (.getfield 46, 3) := by decide +kernel
theorem dX10_leastPay_12 : decode cX10_leastPay 12 = .ok (.aload_n 0, 1) := by decide +kernel
theorem dX10_leastPay_13 : decode cX10_leastPay 13 = .ok (.getfield 10, 3) := by decide +kernel
theorem dX10_leastPay_16 : decode cX10_leastPay 16 = .ok (.iload_n 1, 1) := by decide +kernel
theorem dX10_leastPay_17 : decode cX10_leastPay 17 = .ok (.invokevirtual 106, 3) := by decide +kernel
theorem dX10_leastPay_20 : decode cX10_leastPay 20 = .ok (.invokevirtual 233, 3) := by decide +kernel
theorem dX10_leastPay_23 : decode cX10_leastPay 23 = .ok (.aload_n 0, 1) := by decide +kernel
theorem dX10_leastPay_24 : decode cX10_leastPay 24 = .ok (.getfield 46, 3) := by decide +kernel
theorem dX10_leastPay_27 : decode cX10_leastPay 27 = .ok (.iload_n 3, 1) := by decide +kernel
theorem dX10_leastPay_28 : decode cX10_leastPay 28 = .ok (.putfield 116, 3) := by decide +kernel
theorem dX10_leastPay_31 : decode cX10_leastPay 31 = .ok (.aload_n 0, 1) := by decide +kernel
theorem dX10_leastPay_32 : decode cX10_leastPay 32 = .ok (.getfield 46, 3) := by decide +kernel
theorem dX10_leastPay_35 : decode cX10_leastPay 35 = .ok (.aload_n 0, 1) := by decide +kernel
theorem dX10_leastPay_36 : decode cX10_leastPay 36 = .ok (.getfield 10, 3) := by decide +kernel
theorem dX10_leastPay_39 : decode cX10_leastPay 39 = .ok (.getfield 239, 3) := by decide +kernel
theorem dX10_leastPay_42 : decode cX10_leastPay 42 = .ok (.aload_n 0, 1) := by decide +kernel
theorem dX10_leastPay_43 : decode cX10_leastPay 43 = .ok (.getfield 10, 3) := by decide +kernel
theorem dX10_leastPay_46 : decode cX10_leastPay 46 = .ok (.getfield 242, 3) := by decide +kernel
theorem dX10_leastPay_49 : decode cX10_leastPay 49 = .ok (.iload_n 2, 1) := by decide +kernel
theorem dX10_leastPay_50 : decode cX10_leastPay 50 = .ok (.invokevirtual 245, 3) := by decide +kernel
theorem dX10_leastPay_53 : decode cX10_leastPay 53 = .ok (.aload_n 0, 1) := by decide +kernel
theorem dX10_leastPay_54 : decode cX10_leastPay 54 = .ok (.getfield 46, 3) := by decide +kernel
theorem dX10_leastPay_57 : decode cX10_leastPay 57 = .ok (.getfield 113, 3) := by decide +kernel
theorem dX10_leastPay_60 : decode cX10_leastPay 60 = .ok (.ifCond .ne 5, 3) := by decide +kernel
theorem dX10_leastPay_63 : decode cX10_leastPay 63 = .ok (.iload_n 3, 1) := by decide +kernel
theorem dX10_leastPay_64 : decode cX10_leastPay 64 = .ok (.ireturn, 1) := by decide +kernel
theorem dX10_leastPay_65 : decode cX10_leastPay 65 = .ok (.iinc 3 1, 3) := by decide +kernel
theorem dX10_leastPay_68 : decode cX10_leastPay 68 = .ok (.goto (-66), 3) := by decide +kernel
theorem dX10_leastPay_71 : decode cX10_leastPay 71 = .ok (.bipush (-9), 2) := by decide +kernel
theorem dX10_leastPay_73 : decode cX10_leastPay 73 = .ok (.ireturn, 1) := by decide +kernel
theorem dX10_mergedHeadOwes_0 : decode cX10_mergedHeadOwes 0 = .ok (.aload_n 0, 1) := by decide +kernel
theorem dX10_mergedHeadOwes_1 : decode cX10_mergedHeadOwes 1 = .ok (.getfield 10, 3) := by decide +kernel
theorem dX10_mergedHeadOwes_4 : decode cX10_mergedHeadOwes 4 = .ok (.iload_n 2, 1) := by decide +kernel
theorem dX10_mergedHeadOwes_5 : decode cX10_mergedHeadOwes 5 = .ok (.invokevirtual 106, 3) := by decide +kernel
theorem dX10_mergedHeadOwes_8 : decode cX10_mergedHeadOwes 8 = .ok (.astore 4, 2) := by decide +kernel
theorem dX10_mergedHeadOwes_10 : decode cX10_mergedHeadOwes 10 = .ok (.aload_n 0, 1) := by decide +kernel
theorem dX10_mergedHeadOwes_11 : decode cX10_mergedHeadOwes 11 = .ok (.getfield 46, 3) := by decide +kernel
theorem dX10_mergedHeadOwes_14 : decode cX10_mergedHeadOwes 14 = .ok (.aload_n 0, 1) := by decide +kernel
theorem dX10_mergedHeadOwes_15 : decode cX10_mergedHeadOwes 15 = .ok (.getfield 10, 3) := by decide +kernel
theorem dX10_mergedHeadOwes_18 : decode cX10_mergedHeadOwes 18 = .ok (.iload_n 1, 1) := by decide +kernel
theorem dX10_mergedHeadOwes_19 : decode cX10_mergedHeadOwes 19 = .ok (.invokevirtual 106, 3) := by decide +kernel
theorem dX10_mergedHeadOwes_22 : decode cX10_mergedHeadOwes 22 = .ok (.invokevirtual 233, 3) := by decide +kernel
theorem dX10_mergedHeadOwes_25 : decode cX10_mergedHeadOwes 25 = .ok (.aload_n 0, 1) := by decide +kernel
theorem dX10_mergedHeadOwes_26 : decode cX10_mergedHeadOwes 26 = .ok (.getfield 46, 3) := by decide +kernel
theorem dX10_mergedHeadOwes_29 : decode cX10_mergedHeadOwes 29 = .ok (.bipush 20, 2) := by decide +kernel
theorem dX10_mergedHeadOwes_31 : decode cX10_mergedHeadOwes 31 = .ok (.aload_n 0, 1) := by decide +kernel
theorem dX10_mergedHeadOwes_32 : decode cX10_mergedHeadOwes 32 = .ok (.getfield 46, 3) := by decide +kernel
theorem dX10_mergedHeadOwes_35 : decode cX10_mergedHeadOwes 35 = .ok (.getfield 110, 3) := by decide +kernel
theorem dX10_mergedHeadOwes_38 : decode cX10_mergedHeadOwes 38 = .ok (.aload 4, 2) := by decide +kernel
theorem dX10_mergedHeadOwes_40 : decode cX10_mergedHeadOwes 40 = .ok (.getfield 110, 3) := by decide +kernel
theorem dX10_mergedHeadOwes_43 : decode cX10_mergedHeadOwes 43 = .ok (.iadd, 1) := by decide +kernel
theorem dX10_mergedHeadOwes_44 : decode cX10_mergedHeadOwes 44 = .ok (.invokestatic 375, 3) := by decide +kernel
theorem dX10_mergedHeadOwes_47 : decode cX10_mergedHeadOwes 47 = .ok (.putfield 110, 3) := by decide +kernel
theorem dX10_mergedHeadOwes_50 : decode cX10_mergedHeadOwes 50 = .ok (.aload_n 0, 1) := by decide +kernel
theorem dX10_mergedHeadOwes_51 : decode cX10_mergedHeadOwes 51 = .ok (.getfield 46, 3) := by decide +kernel
theorem dX10_mergedHeadOwes_54 : decode cX10_mergedHeadOwes 54 = .ok (.aload 4, 2) := by decide +kernel
theorem dX10_mergedHeadOwes_56 : decode cX10_mergedHeadOwes 56 = .ok (.getfield 113, 3) := by decide +kernel
theorem dX10_mergedHeadOwes_59 : decode cX10_mergedHeadOwes 59 = .ok (.invokevirtual 378, 3) := by decide +kernel
theorem dX10_mergedHeadOwes_62 : decode cX10_mergedHeadOwes 62 = .ok (.aload_n 0, 1) := by decide +kernel
theorem dX10_mergedHeadOwes_63 : decode cX10_mergedHeadOwes 63 = .ok (.getfield 46, 3) := by decide +kernel
theorem dX10_mergedHeadOwes_66 : decode cX10_mergedHeadOwes 66 = .ok (.aload_n 0, 1) := by decide +kernel
theorem dX10_mergedHeadOwes_67 : decode cX10_mergedHeadOwes 67 = .ok (.getfield 10, 3) := by decide +kernel
theorem dX10_mergedHeadOwes_70 : decode cX10_mergedHeadOwes 70 = .ok (.getfield 239, 3) := by decide +kernel
theorem dX10_mergedHeadOwes_73 : decode cX10_mergedHeadOwes 73 = .ok (.aload_n 0, 1) := by decide +kernel
theorem dX10_mergedHeadOwes_74 : decode cX10_mergedHeadOwes 74 = .ok (.getfield 10, 3) := by decide +kernel
theorem dX10_mergedHeadOwes_77 : decode cX10_mergedHeadOwes 77 = .ok (.getfield 242, 3) := by decide +kernel
theorem dX10_mergedHeadOwes_80 : decode cX10_mergedHeadOwes 80 = .ok (.iload_n 3, 1) := by decide +kernel
theorem dX10_mergedHeadOwes_81 : decode cX10_mergedHeadOwes 81 = .ok (.invokevirtual 245, 3) := by decide +kernel
theorem dX10_mergedHeadOwes_84 : decode cX10_mergedHeadOwes 84 = .ok (.aload_n 0, 1) := by decide +kernel
theorem dX10_mergedHeadOwes_85 : decode cX10_mergedHeadOwes 85 = .ok (.getfield 46, 3) := by decide +kernel
theorem dX10_mergedHeadOwes_88 : decode cX10_mergedHeadOwes 88 = .ok (.invokevirtual 122, 3) := by decide +kernel
theorem dX10_mergedHeadOwes_91 : decode cX10_mergedHeadOwes 91 = .ok (.ireturn, 1) := by decide +kernel
theorem dX10_signedPay_0 : decode cX10_signedPay 0 = .ok (.aload_n 0, 1) := by decide +kernel
theorem dX10_signedPay_1 : decode cX10_signedPay 1 = .ok (.getfield 10, 3) := by decide +kernel
theorem dX10_signedPay_4 : decode cX10_signedPay 4 = .ok (.iload_n 1, 1) := by decide +kernel
theorem dX10_signedPay_5 : decode cX10_signedPay 5 = .ok (.invokevirtual 106, 3) := by decide +kernel
theorem dX10_signedPay_8 : decode cX10_signedPay 8 = .ok (.getfield 116, 3) := by decide +kernel
theorem dX10_signedPay_11 : decode cX10_signedPay 11 = .ok (.istore_n 3, 1) := by decide +kernel
theorem dX10_signedPay_12 : decode cX10_signedPay 12 = .ok (.aload_n 0, 1) := by decide +kernel
theorem dX10_signedPay_13 : decode cX10_signedPay 13 = .ok (.iload_n 3, 1) := by decide +kernel
theorem dX10_signedPay_14 : decode cX10_signedPay 14 = .ok (.iload_n 1, 1) := by decide +kernel
theorem dX10_signedPay_15 : decode cX10_signedPay 15 = .ok (.iload_n 2, 1) := by decide +kernel
theorem dX10_signedPay_16 : decode cX10_signedPay 16 = .ok (.invokevirtual 381, 3) := by decide +kernel
theorem dX10_signedPay_19 : decode cX10_signedPay 19 = .ok (.istore 4, 2) := by decide +kernel
theorem dX10_signedPay_21 : decode cX10_signedPay 21 = .ok (.aload_n 0, 1) := by decide +kernel
theorem dX10_signedPay_22 : decode cX10_signedPay 22 = .ok (.bipush 9, 2) := by decide +kernel
theorem dX10_signedPay_24 : decode cX10_signedPay 24 = .ok (.iload_n 3, 1) := by decide +kernel
theorem dX10_signedPay_25 : decode cX10_signedPay 25 = .ok (.iconst 1, 1) := by decide +kernel
theorem dX10_signedPay_26 : decode cX10_signedPay 26 = .ok (.iadd, 1) := by decide +kernel
theorem dX10_signedPay_27 : decode cX10_signedPay 27 = .ok (.invokestatic 375, 3) := by decide +kernel
theorem dX10_signedPay_30 : decode cX10_signedPay 30 = .ok (.iload_n 1, 1) := by decide +kernel
theorem dX10_signedPay_31 : decode cX10_signedPay 31 = .ok (.iload_n 2, 1) := by decide +kernel
theorem dX10_signedPay_32 : decode cX10_signedPay 32 = .ok (.invokevirtual 381, 3) := by decide +kernel
theorem dX10_signedPay_35 : decode cX10_signedPay 35 = .ok (.iload 4, 2) := by decide +kernel
theorem dX10_signedPay_37 : decode cX10_signedPay 37 = .ok (.if_icmp .ge 7, 3) := by decide +kernel
theorem dX10_signedPay_40 : decode cX10_signedPay 40 = .ok (.iconst 1, 1) := by decide +kernel
theorem dX10_signedPay_41 : decode cX10_signedPay 41 = .ok (.goto 4, 3) := by decide +kernel
theorem dX10_signedPay_44 : decode cX10_signedPay 44 = .ok (.iconst 0, 1) := by decide +kernel
theorem dX10_signedPay_45 : decode cX10_signedPay 45 = .ok (.ireturn, 1) := by decide +kernel
theorem dX10_costOfPaying_0 : decode cX10_costOfPaying 0 = .ok (.aload_n 0, 1) := by decide +kernel
theorem dX10_costOfPaying_1 : decode cX10_costOfPaying 1 = .ok (.getfield 46, 3) := by decide +kernel
theorem dX10_costOfPaying_4 : decode cX10_costOfPaying 4 = .ok (.aload_n 0, 1) := by decide +kernel
theorem dX10_costOfPaying_5 : decode cX10_costOfPaying 5 = .ok (.getfield 10, 3) := by decide +kernel
theorem dX10_costOfPaying_8 : decode cX10_costOfPaying 8 = .ok (.iload_n 2, 1) := by decide +kernel
theorem dX10_costOfPaying_9 : decode cX10_costOfPaying 9 = .ok (.invokevirtual 106, 3) := by decide +kernel
theorem dX10_costOfPaying_12 : decode cX10_costOfPaying 12 = .ok (.invokevirtual 233, 3) := by decide +kernel
theorem dX10_costOfPaying_15 : decode cX10_costOfPaying 15 = .ok (.aload_n 0, 1) := by decide +kernel
theorem dX10_costOfPaying_16 : decode cX10_costOfPaying 16 = .ok (.getfield 46, 3) := by decide +kernel
theorem dX10_costOfPaying_19 : decode cX10_costOfPaying 19 = .ok (.iload_n 1, 1) := by decide +kernel
theorem dX10_costOfPaying_20 : decode cX10_costOfPaying 20 = .ok (.putfield 116, 3) := by decide +kernel
theorem dX10_costOfPaying_23 : decode cX10_costOfPaying 23 = .ok (.aload_n 0, 1) := by decide +kernel
theorem dX10_costOfPaying_24 : decode cX10_costOfPaying 24 = .ok (.getfield 46, 3) := by decide +kernel
theorem dX10_costOfPaying_27 : decode cX10_costOfPaying 27 = .ok (.aload_n 0, 1) := by decide +kernel
theorem dX10_costOfPaying_28 : decode cX10_costOfPaying 28 = .ok (.getfield 10, 3) := by decide +kernel
theorem dX10_costOfPaying_31 : decode cX10_costOfPaying 31 = .ok (.getfield 239, 3) := by decide +kernel
theorem dX10_costOfPaying_34 : decode cX10_costOfPaying 34 = .ok (.aload_n 0, 1) := by decide +kernel
theorem dX10_costOfPaying_35 : decode cX10_costOfPaying 35 = .ok (.getfield 10, 3) := by decide +kernel
theorem dX10_costOfPaying_38 : decode cX10_costOfPaying 38 = .ok (.getfield 242, 3) := by decide +kernel
theorem dX10_costOfPaying_41 : decode cX10_costOfPaying 41 = .ok (.iload_n 3, 1) := by decide +kernel
theorem dX10_costOfPaying_42 : decode cX10_costOfPaying 42 = .ok (.invokevirtual 245, 3) := by decide +kernel
theorem dX10_costOfPaying_45 : decode cX10_costOfPaying 45 = .ok (.aload_n 0, 1) := by decide +kernel
theorem dX10_costOfPaying_46 : decode cX10_costOfPaying 46 = .ok (.getfield 46, 3) := by decide +kernel
theorem dX10_costOfPaying_49 : decode cX10_costOfPaying 49 = .ok (.getfield 384, 3) := by decide +kernel
theorem dX10_costOfPaying_52 : decode cX10_costOfPaying 52 = .ok (.aload_n 0, 1) := by decide +kernel
theorem dX10_costOfPaying_53 : decode cX10_costOfPaying 53 = .ok (.getfield 46, 3) := by decide +kernel
theorem dX10_costOfPaying_56 : decode cX10_costOfPaying 56 = .ok (.getfield 113, 3) := by decide +kernel
theorem dX10_costOfPaying_59 : decode cX10_costOfPaying 59 = .ok (.iadd, 1) := by decide +kernel
theorem dX10_costOfPaying_60 : decode cX10_costOfPaying 60 = .ok (.ireturn, 1) := by decide +kernel
theorem dX10_waysOf_0 : decode cX10_waysOf 0 = .ok (.lconst 1, 1) := by decide +kernel
theorem dX10_waysOf_1 : decode cX10_waysOf 1 = .ok (.lstore_n 3, 1) := by decide +kernel
theorem dX10_waysOf_2 : decode cX10_waysOf 2 = .ok (.iconst 0, 1) := by decide +kernel
theorem dX10_waysOf_3 : decode cX10_waysOf 3 = .ok (.istore 5, 2) := by decide +kernel
theorem dX10_waysOf_5 : decode cX10_waysOf 5 = .ok (.iload 5, 2) := by decide +kernel
theorem dX10_waysOf_7 : decode cX10_waysOf 7 = .ok (.iload_n 1, 1) := by decide +kernel
theorem dX10_waysOf_8 : decode cX10_waysOf 8 = .ok (.if_icmp .ge 25, 3) := by decide +kernel
theorem dX10_waysOf_11 : decode cX10_waysOf 11 = .ok (.iload_n 0, 1) := by decide +kernel
theorem dX10_waysOf_12 : decode cX10_waysOf 12 = .ok (.iload 5, 2) := by decide +kernel
theorem dX10_waysOf_14 : decode cX10_waysOf 14 = .ok (.ishr, 1) := by decide +kernel
theorem dX10_waysOf_15 : decode cX10_waysOf 15 = .ok (.iconst 1, 1) := by decide +kernel
theorem dX10_waysOf_16 : decode cX10_waysOf 16 = .ok (.iand, 1) := by decide +kernel
theorem dX10_waysOf_17 : decode cX10_waysOf 17 = .ok (.ifCond .ne 10, 3) := by decide +kernel
theorem dX10_waysOf_20 : decode cX10_waysOf 20 = .ok (.lload_n 3, 1) := by decide +kernel
theorem dX10_waysOf_21 : decode cX10_waysOf 21 = .ok (.iload_n 2, 1) := by decide +kernel
theorem dX10_waysOf_22 : decode cX10_waysOf 22 = .ok (.iconst 1, 1) := by decide +kernel
theorem dX10_waysOf_23 : decode cX10_waysOf 23 = .ok (.isub, 1) := by decide +kernel
theorem dX10_waysOf_24 : decode cX10_waysOf 24 = .ok (.i2l, 1) := by decide +kernel
theorem dX10_waysOf_25 : decode cX10_waysOf 25 = .ok (.lmul, 1) := by decide +kernel
theorem dX10_waysOf_26 : decode cX10_waysOf 26 = .ok (.lstore_n 3, 1) := by decide +kernel
theorem dX10_waysOf_27 : decode cX10_waysOf 27 = .ok (.iinc 5 1, 3) := by decide +kernel
theorem dX10_waysOf_30 : decode cX10_waysOf 30 = .ok (.goto (-25), 3) := by decide +kernel
theorem dX10_waysOf_33 : decode cX10_waysOf 33 = .ok (.lload_n 3, 1) := by decide +kernel
theorem dX10_waysOf_34 : decode cX10_waysOf 34 = .ok (.lreturn, 1) := by decide +kernel
theorem dX10_bearByChance_0 : decode cX10_bearByChance 0 = .ok (.aload_n 0, 1) := by decide +kernel
theorem dX10_bearByChance_1 : decode cX10_bearByChance 1 = .ok (.getfield 46, 3) := by decide +kernel
theorem dX10_bearByChance_4 : decode cX10_bearByChance 4 = .ok (.aload_n 0, 1) := by decide +kernel
theorem dX10_bearByChance_5 : decode cX10_bearByChance 5 = .ok (.getfield 10, 3) := by decide +kernel
theorem dX10_bearByChance_8 : decode cX10_bearByChance 8 = .ok (.iload_n 1, 1) := by decide +kernel
theorem dX10_bearByChance_9 : decode cX10_bearByChance 9 = .ok (.invokevirtual 106, 3) := by decide +kernel
theorem dX10_bearByChance_12 : decode cX10_bearByChance 12 = .ok (.invokevirtual 233, 3) := by decide +kernel
theorem dX10_bearByChance_15 : decode cX10_bearByChance 15 = .ok (.iconst 0, 1) := by decide +kernel
theorem dX10_bearByChance_16 : decode cX10_bearByChance 16 = .ok (.istore 4, 2) := by decide +kernel
theorem dX10_bearByChance_18 : decode cX10_bearByChance 18 = .ok (.iload 4, 2) := by decide +kernel
theorem dX10_bearByChance_20 : decode cX10_bearByChance 20 = .ok (.iload_n 3, 1) := by decide +kernel
theorem dX10_bearByChance_21 : decode cX10_bearByChance 21 = .ok (.if_icmp .ge 40, 3) := by decide +kernel
theorem dX10_bearByChance_24 : decode cX10_bearByChance 24 = .ok (.aload_n 0, 1) := by decide +kernel
theorem dX10_bearByChance_25 : decode cX10_bearByChance 25 = .ok (.getfield 46, 3) := by decide +kernel
theorem dX10_bearByChance_28 : decode cX10_bearByChance 28 = .ok (.aload_n 0, 1) := by decide +kernel
theorem dX10_bearByChance_29 : decode cX10_bearByChance 29 = .ok (.getfield 10, 3) := by decide +kernel
theorem dX10_bearByChance_32 : decode cX10_bearByChance 32 = .ok (.getfield 239, 3) := by decide +kernel
theorem dX10_bearByChance_35 : decode cX10_bearByChance 35 = .ok (.invokevirtual 387, 3) := by decide +kernel
theorem dX10_bearByChance_38 : decode cX10_bearByChance 38 = .ok (.iload_n 2, 1) := by decide +kernel
theorem dX10_bearByChance_39 : decode cX10_bearByChance 39 = .ok (.iload 4, 2) := by decide +kernel
theorem dX10_bearByChance_41 : decode cX10_bearByChance 41 = .ok (.ishr, 1) := by decide +kernel
theorem dX10_bearByChance_42 : decode cX10_bearByChance 42 = .ok (.iconst 1, 1) := by decide +kernel
theorem dX10_bearByChance_43 : decode cX10_bearByChance 43 = .ok (.iand, 1) := by decide +kernel
theorem dX10_bearByChance_44 : decode cX10_bearByChance 44 = .ok (.iconst 1, 1) := by decide +kernel
theorem dX10_bearByChance_45 : decode cX10_bearByChance 45 = .ok (.if_icmp .ne 10, 3) := by decide +kernel
theorem dX10_bearByChance_48 : decode cX10_bearByChance 48 = .ok (.aload_n 0, 1) := by decide +kernel
theorem dX10_bearByChance_49 : decode cX10_bearByChance 49 = .ok (.getfield 46, 3) := by decide +kernel
theorem dX10_bearByChance_52 : decode cX10_bearByChance 52 = .ok (.invokevirtual 390, 3) := by decide +kernel
theorem dX10_bearByChance_55 : decode cX10_bearByChance 55 = .ok (.iinc 4 1, 3) := by decide +kernel
theorem dX10_bearByChance_58 : decode cX10_bearByChance 58 = .ok (.goto (-40), 3) := by decide +kernel
theorem dX10_bearByChance_61 : decode cX10_bearByChance 61 = .ok (.return_, 1) := by decide +kernel
theorem dX10_firstFree_0 : decode cX10_firstFree 0 = .ok (.bipush (-9), 2) := by decide +kernel
theorem dX10_firstFree_2 : decode cX10_firstFree 2 = .ok (.istore_n 1, 1) := by decide +kernel
theorem dX10_firstFree_3 : decode cX10_firstFree 3 = .ok (.bipush 101, 2) := by decide +kernel
theorem dX10_firstFree_5 : decode cX10_firstFree 5 = .ok (.istore_n 2, 1) := by decide +kernel
theorem dX10_firstFree_6 : decode cX10_firstFree 6 = .ok (.iconst 0, 1) := by decide +kernel
theorem dX10_firstFree_7 : decode cX10_firstFree 7 = .ok (.istore_n 3, 1) := by decide +kernel
theorem dX10_firstFree_8 : decode cX10_firstFree 8 = .ok (.iload_n 3, 1) := by decide +kernel
theorem dX10_firstFree_9 : decode cX10_firstFree 9 = .ok (.aload_n 0, 1) := by decide +kernel
theorem dX10_firstFree_10 : decode cX10_firstFree 10 = .ok (.getfield 10, 3) := by decide +kernel
theorem dX10_firstFree_13 : decode cX10_firstFree 13 = .ok (.getfield 255, 3) := by decide +kernel
theorem dX10_firstFree_16 : decode cX10_firstFree 16 = .ok (.if_icmp .ge 35, 3) := by decide +kernel
theorem dX10_firstFree_19 : decode cX10_firstFree 19 = .ok (.aload_n 0, 1) := by decide +kernel
theorem dX10_firstFree_20 : decode cX10_firstFree 20 = .ok (.iload_n 3, 1) := by decide +kernel
theorem dX10_firstFree_21 : decode cX10_firstFree 21 = .ok (.iconst 0, 1) := by decide +kernel
theorem dX10_firstFree_22 : decode cX10_firstFree 22 = .ok (.invokevirtual 184, 3) := by decide +kernel
theorem dX10_firstFree_25 : decode cX10_firstFree 25 = .ok (.istore 4, 2) := by decide +kernel
theorem dX10_firstFree_27 : decode cX10_firstFree 27 = .ok (.iload 4, 2) := by decide +kernel
theorem dX10_firstFree_29 : decode cX10_firstFree 29 = .ok (.bipush (-9), 2) := by decide +kernel
theorem dX10_firstFree_31 : decode cX10_firstFree 31 = .ok (.if_icmp .eq 14, 3) := by decide +kernel
theorem dX10_firstFree_34 : decode cX10_firstFree 34 = .ok (.iload 4, 2) := by decide +kernel
theorem dX10_firstFree_36 : decode cX10_firstFree 36 = .ok (.iload_n 2, 1) := by decide +kernel
theorem dX10_firstFree_37 : decode cX10_firstFree 37 = .ok (.if_icmp .ge 8, 3) := by decide +kernel
theorem dX10_firstFree_40 : decode cX10_firstFree 40 = .ok (.iload 4, 2) := by decide +kernel
theorem dX10_firstFree_42 : decode cX10_firstFree 42 = .ok (.istore_n 2, 1) := by decide +kernel
theorem dX10_firstFree_43 : decode cX10_firstFree 43 = .ok (.iload_n 3, 1) := by decide +kernel
theorem dX10_firstFree_44 : decode cX10_firstFree 44 = .ok (.istore_n 1, 1) := by decide +kernel
theorem dX10_firstFree_45 : decode cX10_firstFree 45 = .ok (.iinc 3 1, 3) := by decide +kernel
theorem dX10_firstFree_48 : decode cX10_firstFree 48 = .ok (.goto (-40), 3) := by decide +kernel
theorem dX10_firstFree_51 : decode cX10_firstFree 51 = .ok (.iload_n 1, 1) := by decide +kernel
theorem dX10_firstFree_52 : decode cX10_firstFree 52 = .ok (.ireturn, 1) := by decide +kernel
theorem dX10_growing_0 : decode cX10_growing 0 = .ok (.iconst 0, 1) := by decide +kernel
theorem dX10_growing_1 : decode cX10_growing 1 = .ok (.istore_n 1, 1) := by decide +kernel
theorem dX10_growing_2 : decode cX10_growing 2 = .ok (.iconst 0, 1) := by decide +kernel
theorem dX10_growing_3 : decode cX10_growing 3 = .ok (.istore_n 2, 1) := by decide +kernel
theorem dX10_growing_4 : decode cX10_growing 4 = .ok (.iload_n 2, 1) := by decide +kernel
theorem dX10_growing_5 : decode cX10_growing 5 = .ok (.aload_n 0, 1) := by decide +kernel
theorem dX10_growing_6 : decode cX10_growing 6 = .ok (.getfield 10, 3) := by decide +kernel
theorem dX10_growing_9 : decode cX10_growing 9 = .ok (.getfield 255, 3) := by decide +kernel
theorem dX10_growing_12 : decode cX10_growing 12 = .ok (.if_icmp .ge 42, 3) := by decide +kernel
theorem dX10_growing_15 : decode cX10_growing 15 = .ok (.aload_n 0, 1) := by decide +kernel
theorem dX10_growing_16 : decode cX10_growing 16 = .ok (.iload_n 2, 1) := by decide +kernel
theorem dX10_growing_17 : decode cX10_growing 17 = .ok (.iconst 1, 1) := by decide +kernel
theorem dX10_growing_18 : decode cX10_growing 18 = .ok (.invokevirtual 174, 3) := by decide +kernel
theorem dX10_growing_21 : decode cX10_growing 21 = .ok (.aload_n 0, 1) := by decide +kernel
theorem dX10_growing_22 : decode cX10_growing 22 = .ok (.getfield 46, 3) := by decide +kernel
theorem dX10_growing_25 : decode cX10_growing 25 = .ok (.getfield 113, 3) := by decide +kernel
theorem dX10_growing_28 : decode cX10_growing 28 = .ok (.aload_n 0, 1) := by decide +kernel
theorem dX10_growing_29 : decode cX10_growing 29 = .ok (.getfield 10, 3) := by decide +kernel
theorem dX10_growing_32 : decode cX10_growing 32 = .ok (.iload_n 2, 1) := by decide +kernel
theorem dX10_growing_33 : decode cX10_growing 33 = .ok (.invokevirtual 106, 3) := by decide +kernel
theorem dX10_growing_36 : decode cX10_growing 36 = .ok (.getfield 113, 3) := by decide +kernel
theorem dX10_growing_39 : decode cX10_growing 39 = .ok (.if_icmp .le 9, 3) := by decide +kernel
theorem dX10_growing_42 : decode cX10_growing 42 = .ok (.iload_n 1, 1) := by decide +kernel
theorem dX10_growing_43 : decode cX10_growing 43 = .ok (.iconst 1, 1) := by decide +kernel
theorem dX10_growing_44 : decode cX10_growing 44 = .ok (.iload_n 2, 1) := by decide +kernel
theorem dX10_growing_45 : decode cX10_growing 45 = .ok (.ishl, 1) := by decide +kernel
theorem dX10_growing_46 : decode cX10_growing 46 = .ok (.ior, 1) := by decide +kernel
theorem dX10_growing_47 : decode cX10_growing 47 = .ok (.istore_n 1, 1) := by decide +kernel
theorem dX10_growing_48 : decode cX10_growing 48 = .ok (.iinc 2 1, 3) := by decide +kernel
theorem dX10_growing_51 : decode cX10_growing 51 = .ok (.goto (-47), 3) := by decide +kernel
theorem dX10_growing_54 : decode cX10_growing 54 = .ok (.iload_n 1, 1) := by decide +kernel
theorem dX10_growing_55 : decode cX10_growing 55 = .ok (.ireturn, 1) := by decide +kernel
theorem dX10_firstStuck_0 : decode cX10_firstStuck 0 = .ok (.aload_n 0, 1) := by decide +kernel
theorem dX10_firstStuck_1 : decode cX10_firstStuck 1 = .ok (.getfield 16, 3) := by decide +kernel
theorem dX10_firstStuck_4 : decode cX10_firstStuck 4 = .ok (.aload_n 0, 1) := by decide +kernel
theorem dX10_firstStuck_5 : decode cX10_firstStuck 5 = .ok (.getfield 10, 3) := by decide +kernel
theorem dX10_firstStuck_8 : decode cX10_firstStuck 8 = .ok (.invokevirtual 74, 3) := by decide +kernel
theorem dX10_firstStuck_11 : decode cX10_firstStuck 11 = .ok (.iconst 0, 1) := by decide +kernel
theorem dX10_firstStuck_12 : decode cX10_firstStuck 12 = .ok (.istore_n 1, 1) := by decide +kernel
theorem dX10_firstStuck_13 : decode cX10_firstStuck 13 = .ok (.iload_n 1, 1) := by decide +kernel
theorem dX10_firstStuck_14 : decode cX10_firstStuck 14 = .ok (.bipush 100, 2) := by decide +kernel
theorem dX10_firstStuck_16 : decode cX10_firstStuck 16 = .ok (.if_icmp .gt 28, 3) := by decide +kernel
theorem dX10_firstStuck_19 : decode cX10_firstStuck 19 = .ok (.aload_n 0, 1) := by decide +kernel
theorem dX10_firstStuck_20 : decode cX10_firstStuck 20 = .ok (.getfield 16, 3) := by decide +kernel
theorem dX10_firstStuck_23 : decode cX10_firstStuck 23 = .ok (.invokevirtual 393, 3) := by decide +kernel
theorem dX10_firstStuck_26 : decode cX10_firstStuck 26 = .ok (.ifCond .eq 5, 3) := by decide +kernel
theorem dX10_firstStuck_29 : decode cX10_firstStuck 29 = .ok (.iload_n 1, 1) := by decide +kernel
theorem dX10_firstStuck_30 : decode cX10_firstStuck 30 = .ok (.ireturn, 1) := by decide +kernel
theorem dX10_firstStuck_31 : decode cX10_firstStuck 31 = .ok (.aload_n 0, 1) := by decide +kernel
theorem dX10_firstStuck_32 : decode cX10_firstStuck 32 = .ok (.getfield 16, 3) := by decide +kernel
theorem dX10_firstStuck_35 : decode cX10_firstStuck 35 = .ok (.invokevirtual 336, 3) := by decide +kernel
theorem dX10_firstStuck_38 : decode cX10_firstStuck 38 = .ok (.iinc 1 1, 3) := by decide +kernel
theorem dX10_firstStuck_41 : decode cX10_firstStuck 41 = .ok (.goto (-28), 3) := by decide +kernel
theorem dX10_firstStuck_44 : decode cX10_firstStuck 44 = .ok (.bipush (-9), 2) := by decide +kernel
theorem dX10_firstStuck_46 : decode cX10_firstStuck 46 = .ok (.ireturn, 1) := by decide +kernel
theorem dX10_cheapestFamily_0 : decode cX10_cheapestFamily 0 = .ok (.bipush (-9), 2) := by decide +kernel
theorem dX10_cheapestFamily_2 : decode cX10_cheapestFamily 2 = .ok (.istore_n 1, 1) := by decide +kernel
theorem dX10_cheapestFamily_3 : decode cX10_cheapestFamily 3 = .ok (.iconst 0, 1) := by decide +kernel
theorem dX10_cheapestFamily_4 : decode cX10_cheapestFamily 4 = .ok (.istore_n 2, 1) := by decide +kernel
theorem dX10_cheapestFamily_5 : decode cX10_cheapestFamily 5 = .ok (.iload_n 2, 1) := by decide +kernel
theorem dX10_cheapestFamily_6 : decode cX10_cheapestFamily 6 = .ok (.aload_n 0, 1) := by decide +kernel
theorem dX10_cheapestFamily_7 : decode cX10_cheapestFamily 7 = .ok (.getfield 10, 3) := by decide +kernel
theorem dX10_cheapestFamily_10 : decode cX10_cheapestFamily 10 = .ok (.getfield 255, 3) := by decide +kernel
theorem dX10_cheapestFamily_13 : decode cX10_cheapestFamily 13 = .ok (.if_icmp .ge 39, 3) := by decide +kernel
theorem dX10_cheapestFamily_16 : decode cX10_cheapestFamily 16 = .ok (.iload_n 1, 1) := by decide +kernel
theorem dX10_cheapestFamily_17 : decode cX10_cheapestFamily 17 = .ok (.bipush (-9), 2) := by decide +kernel
theorem dX10_cheapestFamily_19 : decode cX10_cheapestFamily 19 = .ok (.if_icmp .eq 25, 3) := by decide +kernel
theorem dX10_cheapestFamily_22 : decode cX10_cheapestFamily 22 = .ok (.aload_n 0, 1) := by decide +kernel
theorem dX10_cheapestFamily_23 : decode cX10_cheapestFamily 23 = .ok (.getfield 10, 3) := by decide +kernel
theorem dX10_cheapestFamily_26 : decode cX10_cheapestFamily 26 = .ok (.iload_n 2, 1) := by decide +kernel
theorem dX10_cheapestFamily_27 : decode cX10_cheapestFamily 27 = .ok (.invokevirtual 106, 3) := by decide +kernel
theorem dX10_cheapestFamily_30 : decode cX10_cheapestFamily 30 = .ok (.aload_n 0, 1) := by decide +kernel
theorem dX10_cheapestFamily_31 : decode cX10_cheapestFamily 31 = .ok (.getfield 10, 3) := by decide +kernel
theorem dX10_cheapestFamily_34 : decode cX10_cheapestFamily 34 = .ok (.iload_n 1, 1) := by decide +kernel
theorem dX10_cheapestFamily_35 : decode cX10_cheapestFamily 35 = .ok (.invokevirtual 106, 3) := by decide +kernel
theorem dX10_cheapestFamily_38 : decode cX10_cheapestFamily 38 = .ok (.invokevirtual 396, 3) := by decide +kernel
theorem dX10_cheapestFamily_41 : decode cX10_cheapestFamily 41 = .ok (.ifCond .eq 5, 3) := by decide +kernel
theorem dX10_cheapestFamily_44 : decode cX10_cheapestFamily 44 = .ok (.iload_n 2, 1) := by decide +kernel
theorem dX10_cheapestFamily_45 : decode cX10_cheapestFamily 45 = .ok (.istore_n 1, 1) := by decide +kernel
theorem dX10_cheapestFamily_46 : decode cX10_cheapestFamily 46 = .ok (.iinc 2 1, 3) := by decide +kernel
theorem dX10_cheapestFamily_49 : decode cX10_cheapestFamily 49 = .ok (.goto (-44), 3) := by decide +kernel
theorem dX10_cheapestFamily_52 : decode cX10_cheapestFamily 52 = .ok (.iload_n 1, 1) := by decide +kernel
theorem dX10_cheapestFamily_53 : decode cX10_cheapestFamily 53 = .ok (.ireturn, 1) := by decide +kernel
theorem dX10_bornFree_0 : decode cX10_bornFree 0 = .ok (.iconst 0, 1) := by decide +kernel
theorem dX10_bornFree_1 : decode cX10_bornFree 1 = .ok (.istore_n 2, 1) := by decide +kernel
theorem dX10_bornFree_2 : decode cX10_bornFree 2 = .ok (.iconst 0, 1) := by decide +kernel
theorem dX10_bornFree_3 : decode cX10_bornFree 3 = .ok (.istore_n 3, 1) := by decide +kernel
theorem dX10_bornFree_4 : decode cX10_bornFree 4 = .ok (.iload_n 3, 1) := by decide +kernel
theorem dX10_bornFree_5 : decode cX10_bornFree 5 = .ok (.aload_n 0, 1) := by decide +kernel
theorem dX10_bornFree_6 : decode cX10_bornFree 6 = .ok (.getfield 10, 3) := by decide +kernel
theorem dX10_bornFree_9 : decode cX10_bornFree 9 = .ok (.getfield 255, 3) := by decide +kernel
theorem dX10_bornFree_12 : decode cX10_bornFree 12 = .ok (.if_icmp .ge 25, 3) := by decide +kernel
theorem dX10_bornFree_15 : decode cX10_bornFree 15 = .ok (.aload_n 0, 1) := by decide +kernel
theorem dX10_bornFree_16 : decode cX10_bornFree 16 = .ok (.iload_n 3, 1) := by decide +kernel
theorem dX10_bornFree_17 : decode cX10_bornFree 17 = .ok (.iload_n 1, 1) := by decide +kernel
theorem dX10_bornFree_18 : decode cX10_bornFree 18 = .ok (.invokevirtual 174, 3) := by decide +kernel
theorem dX10_bornFree_21 : decode cX10_bornFree 21 = .ok (.iload_n 2, 1) := by decide +kernel
theorem dX10_bornFree_22 : decode cX10_bornFree 22 = .ok (.aload_n 0, 1) := by decide +kernel
theorem dX10_bornFree_23 : decode cX10_bornFree 23 = .ok (.getfield 46, 3) := by decide +kernel
theorem dX10_bornFree_26 : decode cX10_bornFree 26 = .ok (.getfield 400, 3) := by decide +kernel
theorem dX10_bornFree_29 : decode cX10_bornFree 29 = .ok (.iadd, 1) := by decide +kernel
theorem dX10_bornFree_30 : decode cX10_bornFree 30 = .ok (.istore_n 2, 1) := by decide +kernel
theorem dX10_bornFree_31 : decode cX10_bornFree 31 = .ok (.iinc 3 1, 3) := by decide +kernel
theorem dX10_bornFree_34 : decode cX10_bornFree 34 = .ok (.goto (-30), 3) := by decide +kernel
theorem dX10_bornFree_37 : decode cX10_bornFree 37 = .ok (.iload_n 2, 1) := by decide +kernel
theorem dX10_bornFree_38 : decode cX10_bornFree 38 = .ok (.ireturn, 1) := by decide +kernel
theorem dX10_ranked_0 : decode cX10_ranked 0 = .ok (.iconst 0, 1) := by decide +kernel
theorem dX10_ranked_1 : decode cX10_ranked 1 = .ok (.istore_n 2, 1) := by decide +kernel
theorem dX10_ranked_2 : decode cX10_ranked 2 = .ok (.iload_n 2, 1) := by decide +kernel
theorem dX10_ranked_3 : decode cX10_ranked 3 = .ok (.aload_n 0, 1) := by decide +kernel
theorem dX10_ranked_4 : decode cX10_ranked 4 = .ok (.getfield 10, 3) := by decide +kernel
theorem dX10_ranked_7 : decode cX10_ranked 7 = .ok (.getfield 255, 3) := by decide +kernel
theorem dX10_ranked_10 : decode cX10_ranked 10 = .ok (.if_icmp .ge 20, 3) := by decide +kernel
theorem dX10_ranked_13 : decode cX10_ranked 13 = .ok (.aload_n 0, 1) := by decide +kernel
theorem dX10_ranked_14 : decode cX10_ranked 14 = .ok (.iload_n 2, 1) := by decide +kernel
theorem dX10_ranked_15 : decode cX10_ranked 15 = .ok (.invokevirtual 402, 3) := by decide +kernel
theorem dX10_ranked_18 : decode cX10_ranked 18 = .ok (.iload_n 1, 1) := by decide +kernel
theorem dX10_ranked_19 : decode cX10_ranked 19 = .ok (.if_icmp .ne 5, 3) := by decide +kernel
theorem dX10_ranked_22 : decode cX10_ranked 22 = .ok (.iload_n 2, 1) := by decide +kernel
theorem dX10_ranked_23 : decode cX10_ranked 23 = .ok (.ireturn, 1) := by decide +kernel
theorem dX10_ranked_24 : decode cX10_ranked 24 = .ok (.iinc 2 1, 3) := by decide +kernel
theorem dX10_ranked_27 : decode cX10_ranked 27 = .ok (.goto (-25), 3) := by decide +kernel
theorem dX10_ranked_30 : decode cX10_ranked 30 = .ok (.bipush (-9), 2) := by decide +kernel
theorem dX10_ranked_32 : decode cX10_ranked 32 = .ok (.ireturn, 1) := by decide +kernel
theorem dX10_ranksAbove_0 : decode cX10_ranksAbove 0 = .ok (.aload_n 0, 1) := by decide +kernel
theorem dX10_ranksAbove_1 : decode cX10_ranksAbove 1 = .ok (.getfield 10, 3) := by decide +kernel
theorem dX10_ranksAbove_4 : decode cX10_ranksAbove 4 = .ok (.iload_n 1, 1) := by decide +kernel
theorem dX10_ranksAbove_5 : decode cX10_ranksAbove 5 = .ok (.invokevirtual 106, 3) := by decide +kernel
theorem dX10_ranksAbove_8 : decode cX10_ranksAbove 8 = .ok (.invokevirtual 122, 3) := by decide +kernel
theorem dX10_ranksAbove_11 : decode cX10_ranksAbove 11 = .ok (.istore_n 2, 1) := by decide +kernel
theorem dX10_ranksAbove_12 : decode cX10_ranksAbove 12 = .ok (.iconst 0, 1) := by decide +kernel
theorem dX10_ranksAbove_13 : decode cX10_ranksAbove 13 = .ok (.istore_n 3, 1) := by decide +kernel
theorem dX10_ranksAbove_14 : decode cX10_ranksAbove 14 = .ok (.iconst 0, 1) := by decide +kernel
theorem dX10_ranksAbove_15 : decode cX10_ranksAbove 15 = .ok (.istore 4, 2) := by decide +kernel
theorem dX10_ranksAbove_17 : decode cX10_ranksAbove 17 = .ok (.iload 4, 2) := by decide +kernel
theorem dX10_ranksAbove_19 : decode cX10_ranksAbove 19 = .ok (.aload_n 0, 1) := by decide +kernel
theorem dX10_ranksAbove_20 : decode cX10_ranksAbove 20 = .ok (.getfield 10, 3) := by decide +kernel
theorem dX10_ranksAbove_23 : decode cX10_ranksAbove 23 = .ok (.getfield 255, 3) := by decide +kernel
theorem dX10_ranksAbove_26 : decode cX10_ranksAbove 26 = .ok (.if_icmp .ge 44, 3) := by decide +kernel
theorem dX10_ranksAbove_29 : decode cX10_ranksAbove 29 = .ok (.aload_n 0, 1) := by decide +kernel
theorem dX10_ranksAbove_30 : decode cX10_ranksAbove 30 = .ok (.getfield 10, 3) := by decide +kernel
theorem dX10_ranksAbove_33 : decode cX10_ranksAbove 33 = .ok (.iload 4, 2) := by decide +kernel
theorem dX10_ranksAbove_35 : decode cX10_ranksAbove 35 = .ok (.invokevirtual 106, 3) := by decide +kernel
theorem dX10_ranksAbove_38 : decode cX10_ranksAbove 38 = .ok (.invokevirtual 122, 3) := by decide +kernel
theorem dX10_ranksAbove_41 : decode cX10_ranksAbove 41 = .ok (.istore 5, 2) := by decide +kernel
theorem dX10_ranksAbove_43 : decode cX10_ranksAbove 43 = .ok (.iload 5, 2) := by decide +kernel
theorem dX10_ranksAbove_45 : decode cX10_ranksAbove 45 = .ok (.iload_n 2, 1) := by decide +kernel
theorem dX10_ranksAbove_46 : decode cX10_ranksAbove 46 = .ok (.if_icmp .gt 15, 3) := by decide +kernel
theorem dX10_ranksAbove_49 : decode cX10_ranksAbove 49 = .ok (.iload 5, 2) := by decide +kernel
theorem dX10_ranksAbove_51 : decode cX10_ranksAbove 51 = .ok (.iload_n 2, 1) := by decide +kernel
theorem dX10_ranksAbove_52 : decode cX10_ranksAbove 52 = .ok (.if_icmp .ne 12, 3) := by decide +kernel
theorem dX10_ranksAbove_55 : decode cX10_ranksAbove 55 = .ok (.iload 4, 2) := by decide +kernel
theorem dX10_ranksAbove_57 : decode cX10_ranksAbove 57 = .ok (.iload_n 1, 1) := by decide +kernel
theorem dX10_ranksAbove_58 : decode cX10_ranksAbove 58 = .ok (.if_icmp .ge 6, 3) := by decide +kernel
theorem dX10_ranksAbove_61 : decode cX10_ranksAbove 61 = .ok (.iinc 3 1, 3) := by decide +kernel
theorem dX10_ranksAbove_64 : decode cX10_ranksAbove 64 = .ok (.iinc 4 1, 3) := by decide +kernel
theorem dX10_ranksAbove_67 : decode cX10_ranksAbove 67 = .ok (.goto (-50), 3) := by decide +kernel
theorem dX10_ranksAbove_70 : decode cX10_ranksAbove 70 = .ok (.iload_n 3, 1) := by decide +kernel
theorem dX10_ranksAbove_71 : decode cX10_ranksAbove 71 = .ok (.ireturn, 1) := by decide +kernel
theorem dX10_isBearable_0 : decode cX10_isBearable 0 = .ok (.aload_n 0, 1) := by decide +kernel
theorem dX10_isBearable_1 : decode cX10_isBearable 1 = .ok (.getfield 16, 3) := by decide +kernel
theorem dX10_isBearable_4 : decode cX10_isBearable 4 = .ok (.aload_n 0, 1) := by decide +kernel
theorem dX10_isBearable_5 : decode cX10_isBearable 5 = .ok (.getfield 10, 3) := by decide +kernel
theorem dX10_isBearable_8 : decode cX10_isBearable 8 = .ok (.invokevirtual 74, 3) := by decide +kernel
theorem dX10_isBearable_11 : decode cX10_isBearable 11 = .ok (.aload_n 0, 1) := by decide +kernel
theorem dX10_isBearable_12 : decode cX10_isBearable 12 = .ok (.getfield 16, 3) := by decide +kernel
theorem dX10_isBearable_15 : decode cX10_isBearable 15 = .ok (.iload_n 1, 1) := by decide +kernel
theorem dX10_isBearable_16 : decode cX10_isBearable 16 = .ok (.invokevirtual 405, 3) := by decide +kernel
theorem dX10_isBearable_19 : decode cX10_isBearable 19 = .ok (.aload_n 0, 1) := by decide +kernel
theorem dX10_isBearable_20 : decode cX10_isBearable 20 = .ok (.getfield 16, 3) := by decide +kernel
theorem dX10_isBearable_23 : decode cX10_isBearable 23 = .ok (.iload_n 2, 1) := by decide +kernel
theorem dX10_isBearable_24 : decode cX10_isBearable 24 = .ok (.invokevirtual 408, 3) := by decide +kernel
theorem dX10_isBearable_27 : decode cX10_isBearable 27 = .ok (.iconst 0, 1) := by decide +kernel
theorem dX10_isBearable_28 : decode cX10_isBearable 28 = .ok (.istore 4, 2) := by decide +kernel
theorem dX10_isBearable_30 : decode cX10_isBearable 30 = .ok (.iload 4, 2) := by decide +kernel
theorem dX10_isBearable_32 : decode cX10_isBearable 32 = .ok (.aload_n 0, 1) := by decide +kernel
theorem dX10_isBearable_33 : decode cX10_isBearable 33 = .ok (.getfield 16, 3) := by decide +kernel
theorem dX10_isBearable_36 : decode cX10_isBearable 36 = .ok (.getfield 255, 3) := by decide +kernel
theorem dX10_isBearable_39 : decode cX10_isBearable 39 = .ok (.if_icmp .ge 27, 3) := by decide +kernel
theorem dX10_isBearable_42 : decode cX10_isBearable 42 = .ok (.aload_n 0, 1) := by decide +kernel
theorem dX10_isBearable_43 : decode cX10_isBearable 43 = .ok (.getfield 16, 3) := by decide +kernel
theorem dX10_isBearable_46 : decode cX10_isBearable 46 = .ok (.iload 4, 2) := by decide +kernel
theorem dX10_isBearable_48 : decode cX10_isBearable 48 = .ok (.invokevirtual 106, 3) := by decide +kernel
theorem dX10_isBearable_51 : decode cX10_isBearable 51 = .ok (.invokevirtual 122, 3) := by decide +kernel
theorem dX10_isBearable_54 : decode cX10_isBearable 54 = .ok (.iload_n 3, 1) := by decide +kernel
theorem dX10_isBearable_55 : decode cX10_isBearable 55 = .ok (.if_icmp .le 5, 3) := by decide +kernel
theorem dX10_isBearable_58 : decode cX10_isBearable 58 = .ok (.iconst 0, 1) := by decide +kernel
theorem dX10_isBearable_59 : decode cX10_isBearable 59 = .ok (.ireturn, 1) := by decide +kernel
theorem dX10_isBearable_60 : decode cX10_isBearable 60 = .ok (.iinc 4 1, 3) := by decide +kernel
theorem dX10_isBearable_63 : decode cX10_isBearable 63 = .ok (.goto (-33), 3) := by decide +kernel
theorem dX10_isBearable_66 : decode cX10_isBearable 66 = .ok (.iconst 1, 1) := by decide +kernel
theorem dX10_isBearable_67 : decode cX10_isBearable 67 = .ok (.ireturn, 1) := by decide +kernel
theorem dX10_isToldBy_0 : decode cX10_isToldBy 0 = .ok (.aload_n 0, 1) := by decide +kernel
theorem dX10_isToldBy_1 : decode cX10_isToldBy 1 = .ok (.getfield 16, 3) := by decide +kernel
theorem dX10_isToldBy_4 : decode cX10_isToldBy 4 = .ok (.aload_n 0, 1) := by decide +kernel
theorem dX10_isToldBy_5 : decode cX10_isToldBy 5 = .ok (.getfield 10, 3) := by decide +kernel
theorem dX10_isToldBy_8 : decode cX10_isToldBy 8 = .ok (.invokevirtual 74, 3) := by decide +kernel
theorem dX10_isToldBy_11 : decode cX10_isToldBy 11 = .ok (.iconst 0, 1) := by decide +kernel
theorem dX10_isToldBy_12 : decode cX10_isToldBy 12 = .ok (.istore_n 2, 1) := by decide +kernel
theorem dX10_isToldBy_13 : decode cX10_isToldBy 13 = .ok (.iload_n 2, 1) := by decide +kernel
theorem dX10_isToldBy_14 : decode cX10_isToldBy 14 = .ok (.aload_n 0, 1) := by decide +kernel
theorem dX10_isToldBy_15 : decode cX10_isToldBy 15 = .ok (.getfield 16, 3) := by decide +kernel
theorem dX10_isToldBy_18 : decode cX10_isToldBy 18 = .ok (.getfield 255, 3) := by decide +kernel
theorem dX10_isToldBy_21 : decode cX10_isToldBy 21 = .ok (.if_icmp .ge 21, 3) := by decide +kernel
theorem dX10_isToldBy_24 : decode cX10_isToldBy 24 = .ok (.aload_n 0, 1) := by decide +kernel
theorem dX10_isToldBy_25 : decode cX10_isToldBy 25 = .ok (.getfield 16, 3) := by decide +kernel
theorem dX10_isToldBy_28 : decode cX10_isToldBy 28 = .ok (.iload_n 2, 1) := by decide +kernel
theorem dX10_isToldBy_29 : decode cX10_isToldBy 29 = .ok (.invokevirtual 106, 3) := by decide +kernel
theorem dX10_isToldBy_32 : decode cX10_isToldBy 32 = .ok (.iconst 0, 1) := by decide +kernel
theorem dX10_isToldBy_33 : decode cX10_isToldBy 33 = .ok (.putfield 113, 3) := by decide +kernel
theorem dX10_isToldBy_36 : decode cX10_isToldBy 36 = .ok (.iinc 2 1, 3) := by decide +kernel
theorem dX10_isToldBy_39 : decode cX10_isToldBy 39 = .ok (.goto (-26), 3) := by decide +kernel
theorem dX10_isToldBy_42 : decode cX10_isToldBy 42 = .ok (.aload_n 0, 1) := by decide +kernel
theorem dX10_isToldBy_43 : decode cX10_isToldBy 43 = .ok (.getfield 16, 3) := by decide +kernel
theorem dX10_isToldBy_46 : decode cX10_isToldBy 46 = .ok (.iload_n 1, 1) := by decide +kernel
theorem dX10_isToldBy_47 : decode cX10_isToldBy 47 = .ok (.invokevirtual 405, 3) := by decide +kernel
theorem dX10_isToldBy_50 : decode cX10_isToldBy 50 = .ok (.iconst 0, 1) := by decide +kernel
theorem dX10_isToldBy_51 : decode cX10_isToldBy 51 = .ok (.istore_n 2, 1) := by decide +kernel
theorem dX10_isToldBy_52 : decode cX10_isToldBy 52 = .ok (.iload_n 2, 1) := by decide +kernel
theorem dX10_isToldBy_53 : decode cX10_isToldBy 53 = .ok (.aload_n 0, 1) := by decide +kernel
theorem dX10_isToldBy_54 : decode cX10_isToldBy 54 = .ok (.getfield 16, 3) := by decide +kernel
theorem dX10_isToldBy_57 : decode cX10_isToldBy 57 = .ok (.getfield 255, 3) := by decide +kernel
theorem dX10_isToldBy_60 : decode cX10_isToldBy 60 = .ok (.if_icmp .ge 30, 3) := by decide +kernel
theorem dX10_isToldBy_63 : decode cX10_isToldBy 63 = .ok (.aload_n 0, 1) := by decide +kernel
theorem dX10_isToldBy_64 : decode cX10_isToldBy 64 = .ok (.iload_n 2, 1) := by decide +kernel
theorem dX10_isToldBy_65 : decode cX10_isToldBy 65 = .ok (.aload_n 0, 1) := by decide +kernel
theorem dX10_isToldBy_66 : decode cX10_isToldBy 66 = .ok (.getfield 16, 3) := by decide +kernel
theorem dX10_isToldBy_69 : decode cX10_isToldBy 69 = .ok (.iload_n 2, 1) := by decide +kernel
theorem dX10_isToldBy_70 : decode cX10_isToldBy 70 = .ok (.invokevirtual 106, 3) := by decide +kernel
theorem dX10_isToldBy_73 : decode cX10_isToldBy 73 = .ok (.getfield 113, 3) := by decide +kernel
theorem dX10_isToldBy_76 : decode cX10_isToldBy 76 = .ok (.invokevirtual 355, 3) := by decide +kernel
theorem dX10_isToldBy_79 : decode cX10_isToldBy 79 = .ok (.ifCond .ne 5, 3) := by decide +kernel
theorem dX10_isToldBy_82 : decode cX10_isToldBy 82 = .ok (.iconst 0, 1) := by decide +kernel
theorem dX10_isToldBy_83 : decode cX10_isToldBy 83 = .ok (.ireturn, 1) := by decide +kernel
theorem dX10_isToldBy_84 : decode cX10_isToldBy 84 = .ok (.iinc 2 1, 3) := by decide +kernel
theorem dX10_isToldBy_87 : decode cX10_isToldBy 87 = .ok (.goto (-35), 3) := by decide +kernel
theorem dX10_isToldBy_90 : decode cX10_isToldBy 90 = .ok (.iconst 1, 1) := by decide +kernel
theorem dX10_isToldBy_91 : decode cX10_isToldBy 91 = .ok (.ireturn, 1) := by decide +kernel
theorem dX10_isTold_0 : decode cX10_isTold 0 = .ok (.iload_n 1, 1) := by decide +kernel
theorem dX10_isTold_1 : decode cX10_isTold 1 = .ok (.ifCond .lt 31, 3) := by decide +kernel
theorem dX10_isTold_4 : decode cX10_isTold 4 = .ok (.iload_n 1, 1) := by decide +kernel
theorem dX10_isTold_5 : decode cX10_isTold 5 = .ok (.aload_n 0, 1) := by decide +kernel
theorem dX10_isTold_6 : decode cX10_isTold 6 = .ok (.getfield 36, 3) := by decide +kernel
theorem dX10_isTold_9 : decode cX10_isTold 9 = .ok (.arraylength, 1) := by decide +kernel
theorem dX10_isTold_10 : decode cX10_isTold 10 = .ok (.if_icmp .ge 22, 3) := by decide +kernel
theorem dX10_isTold_13 : decode cX10_isTold 13 = .ok (.aload_n 0, 1) := by decide +kernel
theorem dX10_isTold_14 : decode cX10_isTold 14 = .ok (.getfield 36, 3) := by decide +kernel
theorem dX10_isTold_17 : decode cX10_isTold 17 = .ok (.iload_n 1, 1) := by decide +kernel
theorem dX10_isTold_18 : decode cX10_isTold 18 = .ok (.iaload, 1) := by decide +kernel
theorem dX10_isTold_19 : decode cX10_isTold 19 = .ok (.bipush 99, 2) := by decide +kernel
theorem dX10_isTold_21 : decode cX10_isTold 21 = .ok (.iload_n 2, 1) := by decide +kernel
theorem dX10_isTold_22 : decode cX10_isTold 22 = .ok (.invokestatic 375, 3) := by decide +kernel
theorem dX10_isTold_25 : decode cX10_isTold 25 = .ok (.if_icmp .ne 7, 3) := by decide +kernel
theorem dX10_isTold_28 : decode cX10_isTold 28 = .ok (.iconst 1, 1) := by decide +kernel
theorem dX10_isTold_29 : decode cX10_isTold 29 = .ok (.goto 4, 3) := by decide +kernel
theorem dX10_isTold_32 : decode cX10_isTold 32 = .ok (.iconst 0, 1) := by decide +kernel
theorem dX10_isTold_33 : decode cX10_isTold 33 = .ok (.ireturn, 1) := by decide +kernel
theorem dX10_factorial_0 : decode cX10_factorial 0 = .ok (.iconst 1, 1) := by decide +kernel
theorem dX10_factorial_1 : decode cX10_factorial 1 = .ok (.istore_n 1, 1) := by decide +kernel
theorem dX10_factorial_2 : decode cX10_factorial 2 = .ok (.iconst 2, 1) := by decide +kernel
theorem dX10_factorial_3 : decode cX10_factorial 3 = .ok (.istore_n 2, 1) := by decide +kernel
theorem dX10_factorial_4 : decode cX10_factorial 4 = .ok (.iload_n 2, 1) := by decide +kernel
theorem dX10_factorial_5 : decode cX10_factorial 5 = .ok (.iload_n 0, 1) := by decide +kernel
theorem dX10_factorial_6 : decode cX10_factorial 6 = .ok (.if_icmp .gt 13, 3) := by decide +kernel
theorem dX10_factorial_9 : decode cX10_factorial 9 = .ok (.iload_n 1, 1) := by decide +kernel
theorem dX10_factorial_10 : decode cX10_factorial 10 = .ok (.iload_n 2, 1) := by decide +kernel
theorem dX10_factorial_11 : decode cX10_factorial 11 = .ok (.imul, 1) := by decide +kernel
theorem dX10_factorial_12 : decode cX10_factorial 12 = .ok (.istore_n 1, 1) := by decide +kernel
theorem dX10_factorial_13 : decode cX10_factorial 13 = .ok (.iinc 2 1, 3) := by decide +kernel
theorem dX10_factorial_16 : decode cX10_factorial 16 = .ok (.goto (-12), 3) := by decide +kernel
theorem dX10_factorial_19 : decode cX10_factorial 19 = .ok (.iload_n 1, 1) := by decide +kernel
theorem dX10_factorial_20 : decode cX10_factorial 20 = .ok (.ireturn, 1) := by decide +kernel
theorem dX10_arrange_0 : decode cX10_arrange 0 = .ok (.iload_n 1, 1) := by decide +kernel
theorem dX10_arrange_1 : decode cX10_arrange 1 = .ok (.istore_n 3, 1) := by decide +kernel
theorem dX10_arrange_2 : decode cX10_arrange 2 = .ok (.aload_n 0, 1) := by decide +kernel
theorem dX10_arrange_3 : decode cX10_arrange 3 = .ok (.getfield 10, 3) := by decide +kernel
theorem dX10_arrange_6 : decode cX10_arrange 6 = .ok (.getfield 212, 3) := by decide +kernel
theorem dX10_arrange_9 : decode cX10_arrange 9 = .ok (.istore 4, 2) := by decide +kernel
theorem dX10_arrange_11 : decode cX10_arrange 11 = .ok (.iconst 0, 1) := by decide +kernel
theorem dX10_arrange_12 : decode cX10_arrange 12 = .ok (.istore 5, 2) := by decide +kernel
theorem dX10_arrange_14 : decode cX10_arrange 14 = .ok (.iload 5, 2) := by decide +kernel
theorem dX10_arrange_16 : decode cX10_arrange 16 = .ok (.iload_n 2, 1) := by decide +kernel
theorem dX10_arrange_17 : decode cX10_arrange 17 = .ok (.if_icmp .ge 85, 3) := by decide +kernel
theorem dX10_arrange_20 : decode cX10_arrange 20 = .ok (.iload 5, 2) := by decide +kernel
theorem dX10_arrange_22 : decode cX10_arrange 22 = .ok (.aload_n 0, 1) := by decide +kernel
theorem dX10_arrange_23 : decode cX10_arrange 23 = .ok (.getfield 53, 3) := by decide +kernel
theorem dX10_arrange_26 : decode cX10_arrange 26 = .ok (.arraylength, 1) := by decide +kernel
theorem dX10_arrange_27 : decode cX10_arrange 27 = .ok (.if_icmp .ge 75, 3) := by decide +kernel
theorem dX10_arrange_30 : decode cX10_arrange 30 = .ok (.iload_n 2, 1) := by decide +kernel
theorem dX10_arrange_31 : decode cX10_arrange 31 = .ok (.iconst 1, 1) := by decide +kernel
theorem dX10_arrange_32 : decode cX10_arrange 32 = .ok (.isub, 1) := by decide +kernel
theorem dX10_arrange_33 : decode cX10_arrange 33 = .ok (.iload 5, 2) := by decide +kernel
theorem dX10_arrange_35 : decode cX10_arrange 35 = .ok (.isub, 1) := by decide +kernel
theorem dX10_arrange_36 : decode cX10_arrange 36 = .ok (.invokestatic 308, 3) := by decide +kernel
theorem dX10_arrange_39 : decode cX10_arrange 39 = .ok (.istore 6, 2) := by decide +kernel
theorem dX10_arrange_41 : decode cX10_arrange 41 = .ok (.iload 6, 2) := by decide +kernel
theorem dX10_arrange_43 : decode cX10_arrange 43 = .ok (.iconst 1, 1) := by decide +kernel
theorem dX10_arrange_44 : decode cX10_arrange 44 = .ok (.if_icmp .ge 7, 3) := by decide +kernel
theorem dX10_arrange_47 : decode cX10_arrange 47 = .ok (.iconst 0, 1) := by decide +kernel
theorem dX10_arrange_48 : decode cX10_arrange 48 = .ok (.goto 7, 3) := by decide +kernel
theorem dX10_arrange_51 : decode cX10_arrange 51 = .ok (.iload_n 3, 1) := by decide +kernel
theorem dX10_arrange_52 : decode cX10_arrange 52 = .ok (.iload 6, 2) := by decide +kernel
theorem dX10_arrange_54 : decode cX10_arrange 54 = .ok (.idiv, 1) := by decide +kernel
theorem dX10_arrange_55 : decode cX10_arrange 55 = .ok (.istore 7, 2) := by decide +kernel
theorem dX10_arrange_57 : decode cX10_arrange 57 = .ok (.iload_n 3, 1) := by decide +kernel
theorem dX10_arrange_58 : decode cX10_arrange 58 = .ok (.iload 7, 2) := by decide +kernel
theorem dX10_arrange_60 : decode cX10_arrange 60 = .ok (.iload 6, 2) := by decide +kernel
theorem dX10_arrange_62 : decode cX10_arrange 62 = .ok (.imul, 1) := by decide +kernel
theorem dX10_arrange_63 : decode cX10_arrange 63 = .ok (.isub, 1) := by decide +kernel
theorem dX10_arrange_64 : decode cX10_arrange 64 = .ok (.istore_n 3, 1) := by decide +kernel
theorem dX10_arrange_65 : decode cX10_arrange 65 = .ok (.aload_n 0, 1) := by decide +kernel
theorem dX10_arrange_66 : decode cX10_arrange 66 = .ok (.getfield 10, 3) := by decide +kernel
theorem dX10_arrange_69 : decode cX10_arrange 69 = .ok (.iload 4, 2) := by decide +kernel
theorem dX10_arrange_71 : decode cX10_arrange 71 = .ok (.iload 7, 2) := by decide +kernel
theorem dX10_arrange_73 : decode cX10_arrange 73 = .ok (.invokevirtual 410, 3) := by decide +kernel
theorem dX10_arrange_76 : decode cX10_arrange 76 = .ok (.istore 8, 2) := by decide +kernel
theorem dX10_arrange_78 : decode cX10_arrange 78 = .ok (.iload 4, 2) := by decide +kernel
theorem dX10_arrange_80 : decode cX10_arrange 80 = .ok (.iconst 1, 1) := by decide +kernel
theorem dX10_arrange_81 : decode cX10_arrange 81 = .ok (.iload 8, 2) := by decide +kernel
theorem dX10_arrange_83 : decode cX10_arrange 83 = .ok (.ishl, 1) := by decide +kernel
theorem dX10_arrange_84 : decode cX10_arrange 84 = .ok (.ior, 1) := by decide +kernel
theorem dX10_arrange_85 : decode cX10_arrange 85 = .ok (.istore 4, 2) := by decide +kernel
theorem dX10_arrange_87 : decode cX10_arrange 87 = .ok (.aload_n 0, 1) := by decide +kernel
theorem dX10_arrange_88 : decode cX10_arrange 88 = .ok (.getfield 53, 3) := by decide +kernel
theorem dX10_arrange_91 : decode cX10_arrange 91 = .ok (.iload 5, 2) := by decide +kernel
theorem dX10_arrange_93 : decode cX10_arrange 93 = .ok (.iload 8, 2) := by decide +kernel
theorem dX10_arrange_95 : decode cX10_arrange 95 = .ok (.iastore, 1) := by decide +kernel
theorem dX10_arrange_96 : decode cX10_arrange 96 = .ok (.iinc 5 1, 3) := by decide +kernel
theorem dX10_arrange_99 : decode cX10_arrange 99 = .ok (.goto (-85), 3) := by decide +kernel
theorem dX10_arrange_102 : decode cX10_arrange 102 = .ok (.return_, 1) := by decide +kernel
theorem dX10_debtsAsTried_0 : decode cX10_debtsAsTried 0 = .ok (.aload_n 0, 1) := by decide +kernel
theorem dX10_debtsAsTried_1 : decode cX10_debtsAsTried 1 = .ok (.getfield 16, 3) := by decide +kernel
theorem dX10_debtsAsTried_4 : decode cX10_debtsAsTried 4 = .ok (.aload_n 0, 1) := by decide +kernel
theorem dX10_debtsAsTried_5 : decode cX10_debtsAsTried 5 = .ok (.getfield 10, 3) := by decide +kernel
theorem dX10_debtsAsTried_8 : decode cX10_debtsAsTried 8 = .ok (.invokevirtual 74, 3) := by decide +kernel
theorem dX10_debtsAsTried_11 : decode cX10_debtsAsTried 11 = .ok (.iconst 0, 1) := by decide +kernel
theorem dX10_debtsAsTried_12 : decode cX10_debtsAsTried 12 = .ok (.istore_n 2, 1) := by decide +kernel
theorem dX10_debtsAsTried_13 : decode cX10_debtsAsTried 13 = .ok (.iload_n 2, 1) := by decide +kernel
theorem dX10_debtsAsTried_14 : decode cX10_debtsAsTried 14 = .ok (.iload_n 1, 1) := by decide +kernel
theorem dX10_debtsAsTried_15 : decode cX10_debtsAsTried 15 = .ok (.if_icmp .ge 38, 3) := by decide +kernel
theorem dX10_debtsAsTried_18 : decode cX10_debtsAsTried 18 = .ok (.iload_n 2, 1) := by decide +kernel
theorem dX10_debtsAsTried_19 : decode cX10_debtsAsTried 19 = .ok (.aload_n 0, 1) := by decide +kernel
theorem dX10_debtsAsTried_20 : decode cX10_debtsAsTried 20 = .ok (.getfield 53, 3) := by decide +kernel
theorem dX10_debtsAsTried_23 : decode cX10_debtsAsTried 23 = .ok (.arraylength, 1) := by decide +kernel
theorem dX10_debtsAsTried_24 : decode cX10_debtsAsTried 24 = .ok (.if_icmp .ge 29, 3) := by decide +kernel
theorem dX10_debtsAsTried_27 : decode cX10_debtsAsTried 27 = .ok (.aload_n 0, 1) := by decide +kernel
theorem dX10_debtsAsTried_28 : decode cX10_debtsAsTried 28 = .ok (.getfield 16, 3) := by decide +kernel
theorem dX10_debtsAsTried_31 : decode cX10_debtsAsTried 31 = .ok (.aload_n 0, 1) := by decide +kernel
theorem dX10_debtsAsTried_32 : decode cX10_debtsAsTried 32 = .ok (.getfield 53, 3) := by decide +kernel
theorem dX10_debtsAsTried_35 : decode cX10_debtsAsTried 35 = .ok (.iload_n 2, 1) := by decide +kernel
theorem dX10_debtsAsTried_36 : decode cX10_debtsAsTried 36 = .ok (.iaload, 1) := by decide +kernel
theorem dX10_debtsAsTried_37 : decode cX10_debtsAsTried 37 = .ok (.invokevirtual 223, 3) := by decide +kernel
theorem dX10_debtsAsTried_40 : decode cX10_debtsAsTried 40 = .ok (.aload_n 0, 1) := by decide +kernel
theorem dX10_debtsAsTried_41 : decode cX10_debtsAsTried 41 = .ok (.getfield 16, 3) := by decide +kernel
theorem dX10_debtsAsTried_44 : decode cX10_debtsAsTried 44 = .ok (.invokevirtual 336, 3) := by decide +kernel
theorem dX10_debtsAsTried_47 : decode cX10_debtsAsTried 47 = .ok (.iinc 2 1, 3) := by decide +kernel
theorem dX10_debtsAsTried_50 : decode cX10_debtsAsTried 50 = .ok (.goto (-37), 3) := by decide +kernel
theorem dX10_debtsAsTried_53 : decode cX10_debtsAsTried 53 = .ok (.aload_n 0, 1) := by decide +kernel
theorem dX10_debtsAsTried_54 : decode cX10_debtsAsTried 54 = .ok (.getfield 16, 3) := by decide +kernel
theorem dX10_debtsAsTried_57 : decode cX10_debtsAsTried 57 = .ok (.invokevirtual 349, 3) := by decide +kernel
theorem dX10_debtsAsTried_60 : decode cX10_debtsAsTried 60 = .ok (.ireturn, 1) := by decide +kernel
theorem dX10_up_0 : decode cX10_up 0 = .ok (.iload_n 1, 1) := by decide +kernel
theorem dX10_up_1 : decode cX10_up 1 = .ok (.iconst 1, 1) := by decide +kernel
theorem dX10_up_2 : decode cX10_up 2 = .ok (.if_icmp .ge 7, 3) := by decide +kernel
theorem dX10_up_5 : decode cX10_up 5 = .ok (.iconst 0, 1) := by decide +kernel
theorem dX10_up_6 : decode cX10_up 6 = .ok (.goto 10, 3) := by decide +kernel
theorem dX10_up_9 : decode cX10_up 9 = .ok (.iload_n 0, 1) := by decide +kernel
theorem dX10_up_10 : decode cX10_up 10 = .ok (.iload_n 1, 1) := by decide +kernel
theorem dX10_up_11 : decode cX10_up 11 = .ok (.iadd, 1) := by decide +kernel
theorem dX10_up_12 : decode cX10_up 12 = .ok (.iconst 1, 1) := by decide +kernel
theorem dX10_up_13 : decode cX10_up 13 = .ok (.isub, 1) := by decide +kernel
theorem dX10_up_14 : decode cX10_up 14 = .ok (.iload_n 1, 1) := by decide +kernel
theorem dX10_up_15 : decode cX10_up 15 = .ok (.idiv, 1) := by decide +kernel
theorem dX10_up_16 : decode cX10_up 16 = .ok (.ireturn, 1) := by decide +kernel
theorem dX10_inLowestTerms_0 : decode cX10_inLowestTerms 0 = .ok (.lload_n 0, 1) := by decide +kernel
theorem dX10_inLowestTerms_1 : decode cX10_inLowestTerms 1 = .ok (.lload_n 2, 1) := by decide +kernel
theorem dX10_inLowestTerms_2 : decode cX10_inLowestTerms 2 = .ok (.invokestatic 413, 3) := by decide +kernel
theorem dX10_inLowestTerms_5 : decode cX10_inLowestTerms 5 = .ok (.lstore 5, 2) := by decide +kernel
theorem dX10_inLowestTerms_7 : decode cX10_inLowestTerms 7 = .ok (.lload 5, 2) := by decide +kernel
theorem dX10_inLowestTerms_9 : decode cX10_inLowestTerms 9 = .ok (.lconst 1, 1) := by decide +kernel
theorem dX10_inLowestTerms_10 : decode cX10_inLowestTerms 10 = .ok (.lcmp, 1) := by decide +kernel
theorem dX10_inLowestTerms_11 : decode cX10_inLowestTerms 11 = .ok (.ifCond .ge 14, 3) := by decide +kernel
theorem dX10_inLowestTerms_14 : decode cX10_inLowestTerms 14 = .ok (.iload 4, 2) := by decide +kernel
theorem dX10_inLowestTerms_16 : decode cX10_inLowestTerms 16 = .ok (.ifCond .ne 7, 3) := by decide +kernel
theorem dX10_inLowestTerms_19 : decode cX10_inLowestTerms 19 = .ok (.lconst 0, 1) := by decide +kernel
theorem dX10_inLowestTerms_20 : decode cX10_inLowestTerms 20 = .ok (.goto 4, 3) := by decide +kernel
theorem dX10_inLowestTerms_23 : decode cX10_inLowestTerms 23 = .ok (.lconst 1, 1) := by decide +kernel
theorem dX10_inLowestTerms_24 : decode cX10_inLowestTerms 24 = .ok (.lreturn, 1) := by decide +kernel
theorem dX10_inLowestTerms_25 : decode cX10_inLowestTerms 25 = .ok (.iload 4, 2) := by decide +kernel
theorem dX10_inLowestTerms_27 : decode cX10_inLowestTerms 27 = .ok (.ifCond .ne 7, 3) := by decide +kernel
theorem dX10_inLowestTerms_30 : decode cX10_inLowestTerms 30 = .ok (.lload_n 0, 1) := by decide +kernel
theorem dX10_inLowestTerms_31 : decode cX10_inLowestTerms 31 = .ok (.goto 4, 3) := by decide +kernel
theorem dX10_inLowestTerms_34 : decode cX10_inLowestTerms 34 = .ok (.lload_n 2, 1) := by decide +kernel
theorem dX10_inLowestTerms_35 : decode cX10_inLowestTerms 35 = .ok (.lload 5, 2) := by decide +kernel
theorem dX10_inLowestTerms_37 : decode cX10_inLowestTerms 37 = .ok (.ldiv, 1) := by decide +kernel
theorem dX10_inLowestTerms_38 : decode cX10_inLowestTerms 38 = .ok (.lreturn, 1) := by decide +kernel
theorem dX10_commonDivisor_0 : decode cX10_commonDivisor 0 = .ok (.lload_n 0, 1) := by decide +kernel
theorem dX10_commonDivisor_1 : decode cX10_commonDivisor 1 = .ok (.lstore 4, 2) := by decide +kernel
theorem dX10_commonDivisor_3 : decode cX10_commonDivisor 3 = .ok (.lload_n 2, 1) := by decide +kernel
theorem dX10_commonDivisor_4 : decode cX10_commonDivisor 4 = .ok (.lstore 6, 2) := by decide +kernel
theorem dX10_commonDivisor_6 : decode cX10_commonDivisor 6 = .ok (.iconst 0, 1) := by decide +kernel
theorem dX10_commonDivisor_7 : decode cX10_commonDivisor 7 = .ok (.istore 8, 2) := by decide +kernel
theorem dX10_commonDivisor_9 : decode cX10_commonDivisor 9 = .ok (.iload 8, 2) := by decide +kernel
theorem dX10_commonDivisor_11 : decode cX10_commonDivisor 11 = .ok (.sipush 1000, 3) := by decide +kernel
theorem dX10_commonDivisor_14 : decode cX10_commonDivisor 14 = .ok (.if_icmp .ge 31, 3) := by decide +kernel
theorem dX10_commonDivisor_17 : decode cX10_commonDivisor 17 = .ok (.lload 6, 2) := by decide +kernel
theorem dX10_commonDivisor_19 : decode cX10_commonDivisor 19 = .ok (.lconst 0, 1) := by decide +kernel
theorem dX10_commonDivisor_20 : decode cX10_commonDivisor 20 = .ok (.lcmp, 1) := by decide +kernel
theorem dX10_commonDivisor_21 : decode cX10_commonDivisor 21 = .ok (.ifCond .eq 24, 3) := by decide +kernel
theorem dX10_commonDivisor_24 : decode cX10_commonDivisor 24 = .ok (.lload 4, 2) := by decide +kernel
theorem dX10_commonDivisor_26 : decode cX10_commonDivisor 26 = .ok (.lload 6, 2) := by decide +kernel
theorem dX10_commonDivisor_28 : decode cX10_commonDivisor 28 = .ok (.lrem, 1) := by decide +kernel
theorem dX10_commonDivisor_29 : decode cX10_commonDivisor 29 = .ok (.lstore 9, 2) := by decide +kernel
theorem dX10_commonDivisor_31 : decode cX10_commonDivisor 31 = .ok (.lload 6, 2) := by decide +kernel
theorem dX10_commonDivisor_33 : decode cX10_commonDivisor 33 = .ok (.lstore 4, 2) := by decide +kernel
theorem dX10_commonDivisor_35 : decode cX10_commonDivisor 35 = .ok (.lload 9, 2) := by decide +kernel
theorem dX10_commonDivisor_37 : decode cX10_commonDivisor 37 = .ok (.lstore 6, 2) := by decide +kernel
theorem dX10_commonDivisor_39 : decode cX10_commonDivisor 39 = .ok (.iinc 8 1, 3) := by decide +kernel
theorem dX10_commonDivisor_42 : decode cX10_commonDivisor 42 = .ok (.goto (-33), 3) := by decide +kernel
theorem dX10_commonDivisor_45 : decode cX10_commonDivisor 45 = .ok (.lload 4, 2) := by decide +kernel
theorem dX10_commonDivisor_47 : decode cX10_commonDivisor 47 = .ok (.lreturn, 1) := by decide +kernel
theorem dX10_nextSeed_0 : decode cX10_nextSeed 0 = .ok (.iload_n 0, 1) := by decide +kernel
theorem dX10_nextSeed_1 : decode cX10_nextSeed 1 = .ok (.ldc_w 417, 3) := by decide +kernel
theorem dX10_nextSeed_4 : decode cX10_nextSeed 4 = .ok (.imul, 1) := by decide +kernel
theorem dX10_nextSeed_5 : decode cX10_nextSeed 5 = .ok (.sipush 12345, 3) := by decide +kernel
theorem dX10_nextSeed_8 : decode cX10_nextSeed 8 = .ok (.iadd, 1) := by decide +kernel
theorem dX10_nextSeed_9 : decode cX10_nextSeed 9 = .ok (.ireturn, 1) := by decide +kernel
theorem dX10_drawBelow_0 : decode cX10_drawBelow 0 = .ok (.iload_n 0, 1) := by decide +kernel
theorem dX10_drawBelow_1 : decode cX10_drawBelow 1 = .ok (.iconst 1, 1) := by decide +kernel
theorem dX10_drawBelow_2 : decode cX10_drawBelow 2 = .ok (.if_icmp .ge 7, 3) := by decide +kernel
theorem dX10_drawBelow_5 : decode cX10_drawBelow 5 = .ok (.iconst 0, 1) := by decide +kernel
theorem dX10_drawBelow_6 : decode cX10_drawBelow 6 = .ok (.goto 13, 3) := by decide +kernel
theorem dX10_drawBelow_9 : decode cX10_drawBelow 9 = .ok (.iload_n 1, 1) := by decide +kernel
theorem dX10_drawBelow_10 : decode cX10_drawBelow 10 = .ok (.ldc 219, 2) := by decide +kernel
theorem dX10_drawBelow_12 : decode cX10_drawBelow 12 = .ok (.iand, 1) := by decide +kernel
theorem dX10_drawBelow_13 : decode cX10_drawBelow 13 = .ok (.ldc_w 418, 3) := by decide +kernel
theorem dX10_drawBelow_16 : decode cX10_drawBelow 16 = .ok (.idiv, 1) := by decide +kernel
theorem dX10_drawBelow_17 : decode cX10_drawBelow 17 = .ok (.iload_n 0, 1) := by decide +kernel
theorem dX10_drawBelow_18 : decode cX10_drawBelow 18 = .ok (.irem, 1) := by decide +kernel
theorem dX10_drawBelow_19 : decode cX10_drawBelow 19 = .ok (.ireturn, 1) := by decide +kernel
theorem dX11_init_0 : decode cX11_init 0 = .ok (.aload_n 0, 1) := by decide +kernel
theorem dX11_init_1 : decode cX11_init 1 = .ok (.invokespecial 1, 3) := by decide +kernel
theorem dX11_init_4 : decode cX11_init 4 = .ok (.aload_n 0, 1) := by decide +kernel
theorem dX11_init_5 : decode cX11_init 5 = .ok (.iconst 5, 1) := by decide +kernel
theorem dX11_init_6 : decode cX11_init 6 = .ok (.newarray .int, 2) := by decide +kernel
theorem dX11_init_8 : decode cX11_init 8 = .ok (.putfield 7, 3) := by decide +kernel
theorem dX11_init_11 : decode cX11_init 11 = .ok (.aload_n 0, 1) := by decide +kernel
theorem dX11_init_12 : decode cX11_init 12 = .ok (.iconst 5, 1) := by decide +kernel
theorem dX11_init_13 : decode cX11_init 13 = .ok (.newarray .int, 2) := by decide +kernel
theorem dX11_init_15 : decode cX11_init 15 = .ok (.putfield 13, 3) := by decide +kernel
theorem dX11_init_18 : decode cX11_init 18 = .ok (.aload_n 0, 1) := by decide +kernel
theorem dX11_init_19 : decode cX11_init 19 = .ok (.iconst 5, 1) := by decide +kernel
theorem dX11_init_20 : decode cX11_init 20 = .ok (.newarray .int, 2) := by decide +kernel
theorem dX11_init_22 : decode cX11_init 22 = .ok (.putfield 16, 3) := by decide +kernel
theorem dX11_init_25 : decode cX11_init 25 = .ok (.aload_n 0, 1) := by decide +kernel
theorem dX11_init_26 : decode cX11_init 26 = .ok (.iconst 5, 1) := by decide +kernel
theorem dX11_init_27 : decode cX11_init 27 = .ok (.newarray .int, 2) := by decide +kernel
theorem dX11_init_29 : decode cX11_init 29 = .ok (.putfield 19, 3) := by decide +kernel
theorem dX11_init_32 : decode cX11_init 32 = .ok (.aload_n 0, 1) := by decide +kernel
theorem dX11_init_33 : decode cX11_init 33 = .ok (.iconst 5, 1) := by decide +kernel
theorem dX11_init_34 : decode cX11_init 34 = .ok (.putfield 22, 3) := by decide +kernel
theorem dX11_init_37 : decode cX11_init 37 = .ok (.aload_n 0, 1) := by decide +kernel
theorem dX11_init_38 : decode cX11_init 38 = .ok (.bipush 6, 2) := by decide +kernel
theorem dX11_init_40 : decode cX11_init 40 = .ok (.newarray .int, 2) := by decide +kernel
theorem dX11_init_42 : decode cX11_init 42 = .ok (.putfield 26, 3) := by decide +kernel
theorem dX11_init_45 : decode cX11_init 45 = .ok (.aload_n 0, 1) := by decide +kernel
theorem dX11_init_46 : decode cX11_init 46 = .ok (.bipush 6, 2) := by decide +kernel
theorem dX11_init_48 : decode cX11_init 48 = .ok (.newarray .int, 2) := by decide +kernel
theorem dX11_init_50 : decode cX11_init 50 = .ok (.putfield 29, 3) := by decide +kernel
theorem dX11_init_53 : decode cX11_init 53 = .ok (.aload_n 0, 1) := by decide +kernel
theorem dX11_init_54 : decode cX11_init 54 = .ok (.bipush 6, 2) := by decide +kernel
theorem dX11_init_56 : decode cX11_init 56 = .ok (.newarray .int, 2) := by decide +kernel
theorem dX11_init_58 : decode cX11_init 58 = .ok (.putfield 32, 3) := by decide +kernel
theorem dX11_init_61 : decode cX11_init 61 = .ok (.aload_n 0, 1) := by decide +kernel
theorem dX11_init_62 : decode cX11_init 62 = .ok (.bipush 6, 2) := by decide +kernel
theorem dX11_init_64 : decode cX11_init 64 = .ok (.newarray .int, 2) := by decide +kernel
theorem dX11_init_66 : decode cX11_init 66 = .ok (.putfield 35, 3) := by decide +kernel
theorem dX11_init_69 : decode cX11_init 69 = .ok (.aload_n 0, 1) := by decide +kernel
theorem dX11_init_70 : decode cX11_init 70 = .ok (.bipush 7, 2) := by decide +kernel
theorem dX11_init_72 : decode cX11_init 72 = .ok (.newarray .int, 2) := by decide +kernel
theorem dX11_init_74 : decode cX11_init 74 = .ok (.putfield 38, 3) := by decide +kernel
theorem dX11_init_77 : decode cX11_init 77 = .ok (.aload_n 0, 1) := by decide +kernel
theorem dX11_init_78 : decode cX11_init 78 = .ok (.iconst 5, 1) := by decide +kernel
theorem dX11_init_79 : decode cX11_init 79 = .ok (.newarray .int, 2) := by decide +kernel
theorem dX11_init_81 : decode cX11_init 81 = .ok (.putfield 41, 3) := by decide +kernel
theorem dX11_init_84 : decode cX11_init 84 = .ok (.aload_n 0, 1) := by decide +kernel
theorem dX11_init_85 : decode cX11_init 85 = .ok (.iconst 5, 1) := by decide +kernel
theorem dX11_init_86 : decode cX11_init 86 = .ok (.newarray .int, 2) := by decide +kernel
theorem dX11_init_88 : decode cX11_init 88 = .ok (.putfield 44, 3) := by decide +kernel
theorem dX11_init_91 : decode cX11_init 91 = .ok (.aload_n 0, 1) := by decide +kernel
theorem dX11_init_92 : decode cX11_init 92 = .ok (.iconst 5, 1) := by decide +kernel
theorem dX11_init_93 : decode cX11_init 93 = .ok (.newarray .int, 2) := by decide +kernel
theorem dX11_init_95 : decode cX11_init 95 = .ok (.putfield 47, 3) := by decide +kernel
theorem dX11_init_98 : decode cX11_init 98 = .ok (.aload_n 0, 1) := by decide +kernel
theorem dX11_init_99 : decode cX11_init 99 = .ok (.bipush 96, 2) := by decide +kernel
theorem dX11_init_101 : decode cX11_init 101 = .ok (.newarray .int, 2) := by decide +kernel
theorem dX11_init_103 : decode cX11_init 103 = .ok (.putfield 50, 3) := by decide +kernel
theorem dX11_init_106 : decode cX11_init 106 = .ok (.aload_n 0, 1) := by decide +kernel
theorem dX11_init_107 : decode cX11_init 107 = .ok (.bipush 49, 2) := by decide +kernel
theorem dX11_init_109 : decode cX11_init 109 = .ok (.newarray .int, 2) := by decide +kernel
theorem dX11_init_111 : decode cX11_init 111 = .ok (.putfield 53, 3) := by decide +kernel
theorem dX11_init_114 : decode cX11_init 114 = .ok (.aload_n 0, 1) := by decide +kernel
theorem dX11_init_115 : decode cX11_init 115 = .ok (.bipush 49, 2) := by decide +kernel
theorem dX11_init_117 : decode cX11_init 117 = .ok (.newarray .int, 2) := by decide +kernel
theorem dX11_init_119 : decode cX11_init 119 = .ok (.putfield 56, 3) := by decide +kernel
theorem dX11_init_122 : decode cX11_init 122 = .ok (.aload_n 0, 1) := by decide +kernel
theorem dX11_init_123 : decode cX11_init 123 = .ok (.sipush 147, 3) := by decide +kernel
theorem dX11_init_126 : decode cX11_init 126 = .ok (.newarray .int, 2) := by decide +kernel
theorem dX11_init_128 : decode cX11_init 128 = .ok (.putfield 59, 3) := by decide +kernel
theorem dX11_init_131 : decode cX11_init 131 = .ok (.aload_n 0, 1) := by decide +kernel
theorem dX11_init_132 : decode cX11_init 132 = .ok (.bipush 48, 2) := by decide +kernel
theorem dX11_init_134 : decode cX11_init 134 = .ok (.newarray .int, 2) := by decide +kernel
theorem dX11_init_136 : decode cX11_init 136 = .ok (.putfield 62, 3) := by decide +kernel
theorem dX11_init_139 : decode cX11_init 139 = .ok (.aload_n 0, 1) := by decide +kernel
theorem dX11_init_140 : decode cX11_init 140 = .ok (.bipush 48, 2) := by decide +kernel
theorem dX11_init_142 : decode cX11_init 142 = .ok (.newarray .int, 2) := by decide +kernel
theorem dX11_init_144 : decode cX11_init 144 = .ok (.putfield 65, 3) := by decide +kernel
theorem dX11_init_147 : decode cX11_init 147 = .ok (.aload_n 0, 1) := by decide +kernel
theorem dX11_init_148 : decode cX11_init 148 = .ok (.sipush 384, 3) := by decide +kernel
theorem dX11_init_151 : decode cX11_init 151 = .ok (.newarray .int, 2) := by decide +kernel
theorem dX11_init_153 : decode cX11_init 153 = .ok (.putfield 68, 3) := by decide +kernel
theorem dX11_init_156 : decode cX11_init 156 = .ok (.aload_n 0, 1) := by decide +kernel
theorem dX11_init_157 : decode cX11_init 157 = .ok (.bipush 48, 2) := by decide +kernel
theorem dX11_init_159 : decode cX11_init 159 = .ok (.newarray .int, 2) := by decide +kernel
theorem dX11_init_161 : decode cX11_init 161 = .ok (.putfield 71, 3) := by decide +kernel
theorem dX11_init_164 : decode cX11_init 164 = .ok (.aload_n 0, 1) := by decide +kernel
theorem dX11_init_165 : decode cX11_init 165 = .ok (.bipush 12, 2) := by decide +kernel
theorem dX11_init_167 : decode cX11_init 167 = .ok (.newarray .int, 2) := by decide +kernel
theorem dX11_init_169 : decode cX11_init 169 = .ok (.putfield 74, 3) := by decide +kernel
theorem dX11_init_172 : decode cX11_init 172 = .ok (.aload_n 0, 1) := by decide +kernel
theorem dX11_init_173 : decode cX11_init 173 = .ok (.bipush 6, 2) := by decide +kernel
theorem dX11_init_175 : decode cX11_init 175 = .ok (.newarray .int, 2) := by decide +kernel
theorem dX11_init_177 : decode cX11_init 177 = .ok (.putfield 77, 3) := by decide +kernel
theorem dX11_init_180 : decode cX11_init 180 = .ok (.aload_n 0, 1) := by decide +kernel
theorem dX11_init_181 : decode cX11_init 181 = .ok (.bipush 6, 2) := by decide +kernel
theorem dX11_init_183 : decode cX11_init 183 = .ok (.newarray .int, 2) := by decide +kernel
theorem dX11_init_185 : decode cX11_init 185 = .ok (.putfield 80, 3) := by decide +kernel
theorem dX11_init_188 : decode cX11_init 188 = .ok (.aload_n 0, 1) := by decide +kernel
theorem dX11_init_189 : decode cX11_init 189 = .ok (.iconst 0, 1) := by decide +kernel
theorem dX11_init_190 : decode cX11_init 190 = .ok (.putfield 83, 3) := by decide +kernel
theorem dX11_init_193 : decode cX11_init 193 = .ok (.return_, 1) := by decide +kernel
theorem dX11_in_0 : decode cX11_in 0 = .ok (.lload_n 0, 1) := by decide +kernel
theorem dX11_in_1 : decode cX11_in 1 = .ok (.lload_n 2, 1) := by decide +kernel
theorem dX11_in_2 : decode cX11_in 2 = .ok (.lcmp, 1) := by decide +kernel
theorem dX11_in_3 : decode cX11_in 3 = .ok (.ifCond .lt 14, 3) := by decide +kernel
theorem dX11_in_6 : decode cX11_in 6 = .ok (.lload_n 0, 1) := by decide +kernel
theorem dX11_in_7 : decode cX11_in 7 = .ok (.lload 4, 2) := by decide +kernel
theorem dX11_in_9 : decode cX11_in 9 = .ok (.lcmp, 1) := by decide +kernel
theorem dX11_in_10 : decode cX11_in 10 = .ok (.ifCond .gt 7, 3) := by decide +kernel
theorem dX11_in_13 : decode cX11_in 13 = .ok (.iconst 1, 1) := by decide +kernel
theorem dX11_in_14 : decode cX11_in 14 = .ok (.goto 4, 3) := by decide +kernel
theorem dX11_in_17 : decode cX11_in 17 = .ok (.iconst 0, 1) := by decide +kernel
theorem dX11_in_18 : decode cX11_in 18 = .ok (.ireturn, 1) := by decide +kernel
theorem dX11_refuse_0 : decode cX11_refuse 0 = .ok (.aload_n 0, 1) := by decide +kernel
theorem dX11_refuse_1 : decode cX11_refuse 1 = .ok (.getfield 38, 3) := by decide +kernel
theorem dX11_refuse_4 : decode cX11_refuse 4 = .ok (.iload_n 1, 1) := by decide +kernel
theorem dX11_refuse_5 : decode cX11_refuse 5 = .ok (.ineg, 1) := by decide +kernel
theorem dX11_refuse_6 : decode cX11_refuse 6 = .ok (.dup2, 1) := by decide +kernel
theorem dX11_refuse_7 : decode cX11_refuse 7 = .ok (.iaload, 1) := by decide +kernel
theorem dX11_refuse_8 : decode cX11_refuse 8 = .ok (.iconst 1, 1) := by decide +kernel
theorem dX11_refuse_9 : decode cX11_refuse 9 = .ok (.iadd, 1) := by decide +kernel
theorem dX11_refuse_10 : decode cX11_refuse 10 = .ok (.iastore, 1) := by decide +kernel
theorem dX11_refuse_11 : decode cX11_refuse 11 = .ok (.iload_n 1, 1) := by decide +kernel
theorem dX11_refuse_12 : decode cX11_refuse 12 = .ok (.ireturn, 1) := by decide +kernel
theorem dX11_isFamily_0 : decode cX11_isFamily 0 = .ok (.iload_n 1, 1) := by decide +kernel
theorem dX11_isFamily_1 : decode cX11_isFamily 1 = .ok (.i2l, 1) := by decide +kernel
theorem dX11_isFamily_2 : decode cX11_isFamily 2 = .ok (.lconst 0, 1) := by decide +kernel
theorem dX11_isFamily_3 : decode cX11_isFamily 3 = .ok (.aload_n 0, 1) := by decide +kernel
theorem dX11_isFamily_4 : decode cX11_isFamily 4 = .ok (.getfield 86, 3) := by decide +kernel
theorem dX11_isFamily_7 : decode cX11_isFamily 7 = .ok (.iconst 1, 1) := by decide +kernel
theorem dX11_isFamily_8 : decode cX11_isFamily 8 = .ok (.isub, 1) := by decide +kernel
theorem dX11_isFamily_9 : decode cX11_isFamily 9 = .ok (.i2l, 1) := by decide +kernel
theorem dX11_isFamily_10 : decode cX11_isFamily 10 = .ok (.invokestatic 89, 3) := by decide +kernel
theorem dX11_isFamily_13 : decode cX11_isFamily 13 = .ok (.ireturn, 1) := by decide +kernel
theorem dX11_isWork_0 : decode cX11_isWork 0 = .ok (.iload_n 1, 1) := by decide +kernel
theorem dX11_isWork_1 : decode cX11_isWork 1 = .ok (.i2l, 1) := by decide +kernel
theorem dX11_isWork_2 : decode cX11_isWork 2 = .ok (.lconst 0, 1) := by decide +kernel
theorem dX11_isWork_3 : decode cX11_isWork 3 = .ok (.aload_n 0, 1) := by decide +kernel
theorem dX11_isWork_4 : decode cX11_isWork 4 = .ok (.getfield 93, 3) := by decide +kernel
theorem dX11_isWork_7 : decode cX11_isWork 7 = .ok (.iconst 1, 1) := by decide +kernel
theorem dX11_isWork_8 : decode cX11_isWork 8 = .ok (.isub, 1) := by decide +kernel
theorem dX11_isWork_9 : decode cX11_isWork 9 = .ok (.i2l, 1) := by decide +kernel
theorem dX11_isWork_10 : decode cX11_isWork 10 = .ok (.invokestatic 89, 3) := by decide +kernel
theorem dX11_isWork_13 : decode cX11_isWork 13 = .ok (.ireturn, 1) := by decide +kernel
theorem dX11_wrongNumber_0 : decode cX11_wrongNumber 0 = .ok (.iload_n 0, 1) := by decide +kernel
theorem dX11_wrongNumber_1 : decode cX11_wrongNumber 1 = .ok (.iload_n 1, 1) := by decide +kernel
theorem dX11_wrongNumber_2 : decode cX11_wrongNumber 2 = .ok (.if_icmp .ge 8, 3) := by decide +kernel
theorem dX11_wrongNumber_5 : decode cX11_wrongNumber 5 = .ok (.bipush (-4), 2) := by decide +kernel
theorem dX11_wrongNumber_7 : decode cX11_wrongNumber 7 = .ok (.goto 14, 3) := by decide +kernel
theorem dX11_wrongNumber_10 : decode cX11_wrongNumber 10 = .ok (.iload_n 0, 1) := by decide +kernel
theorem dX11_wrongNumber_11 : decode cX11_wrongNumber 11 = .ok (.iload_n 2, 1) := by decide +kernel
theorem dX11_wrongNumber_12 : decode cX11_wrongNumber 12 = .ok (.if_icmp .le 8, 3) := by decide +kernel
theorem dX11_wrongNumber_15 : decode cX11_wrongNumber 15 = .ok (.bipush (-6), 2) := by decide +kernel
theorem dX11_wrongNumber_17 : decode cX11_wrongNumber 17 = .ok (.goto 4, 3) := by decide +kernel
theorem dX11_wrongNumber_20 : decode cX11_wrongNumber 20 = .ok (.iconst 0, 1) := by decide +kernel
theorem dX11_wrongNumber_21 : decode cX11_wrongNumber 21 = .ok (.ireturn, 1) := by decide +kernel
theorem dX11_wrongBit_0 : decode cX11_wrongBit 0 = .ok (.iload_n 0, 1) := by decide +kernel
theorem dX11_wrongBit_1 : decode cX11_wrongBit 1 = .ok (.ifCond .ne 19, 3) := by decide +kernel
theorem dX11_wrongBit_4 : decode cX11_wrongBit 4 = .ok (.iload_n 1, 1) := by decide +kernel
theorem dX11_wrongBit_5 : decode cX11_wrongBit 5 = .ok (.i2l, 1) := by decide +kernel
theorem dX11_wrongBit_6 : decode cX11_wrongBit 6 = .ok (.lconst 0, 1) := by decide +kernel
theorem dX11_wrongBit_7 : decode cX11_wrongBit 7 = .ok (.iload_n 2, 1) := by decide +kernel
theorem dX11_wrongBit_8 : decode cX11_wrongBit 8 = .ok (.i2l, 1) := by decide +kernel
theorem dX11_wrongBit_9 : decode cX11_wrongBit 9 = .ok (.invokestatic 89, 3) := by decide +kernel
theorem dX11_wrongBit_12 : decode cX11_wrongBit 12 = .ok (.ifCond .ne 8, 3) := by decide +kernel
theorem dX11_wrongBit_15 : decode cX11_wrongBit 15 = .ok (.bipush (-2), 2) := by decide +kernel
theorem dX11_wrongBit_17 : decode cX11_wrongBit 17 = .ok (.goto 4, 3) := by decide +kernel
theorem dX11_wrongBit_20 : decode cX11_wrongBit 20 = .ok (.iload_n 0, 1) := by decide +kernel
theorem dX11_wrongBit_21 : decode cX11_wrongBit 21 = .ok (.ireturn, 1) := by decide +kernel
theorem dX11_hasBit_0 : decode cX11_hasBit 0 = .ok (.iload_n 0, 1) := by decide +kernel
theorem dX11_hasBit_1 : decode cX11_hasBit 1 = .ok (.iload_n 1, 1) := by decide +kernel
theorem dX11_hasBit_2 : decode cX11_hasBit 2 = .ok (.ishr, 1) := by decide +kernel
theorem dX11_hasBit_3 : decode cX11_hasBit 3 = .ok (.iconst 1, 1) := by decide +kernel
theorem dX11_hasBit_4 : decode cX11_hasBit 4 = .ok (.iand, 1) := by decide +kernel
theorem dX11_hasBit_5 : decode cX11_hasBit 5 = .ok (.iconst 1, 1) := by decide +kernel
theorem dX11_hasBit_6 : decode cX11_hasBit 6 = .ok (.if_icmp .ne 7, 3) := by decide +kernel
theorem dX11_hasBit_9 : decode cX11_hasBit 9 = .ok (.iconst 1, 1) := by decide +kernel
theorem dX11_hasBit_10 : decode cX11_hasBit 10 = .ok (.goto 4, 3) := by decide +kernel
theorem dX11_hasBit_13 : decode cX11_hasBit 13 = .ok (.iconst 0, 1) := by decide +kernel
theorem dX11_hasBit_14 : decode cX11_hasBit 14 = .ok (.ireturn, 1) := by decide +kernel
theorem dX11_held_0 : decode cX11_held 0 = .ok (.iload_n 0, 1) := by decide +kernel
theorem dX11_held_1 : decode cX11_held 1 = .ok (.iload_n 1, 1) := by decide +kernel
theorem dX11_held_2 : decode cX11_held 2 = .ok (.if_icmp .ge 7, 3) := by decide +kernel
theorem dX11_held_5 : decode cX11_held 5 = .ok (.iload_n 1, 1) := by decide +kernel
theorem dX11_held_6 : decode cX11_held 6 = .ok (.goto 13, 3) := by decide +kernel
theorem dX11_held_9 : decode cX11_held 9 = .ok (.iload_n 0, 1) := by decide +kernel
theorem dX11_held_10 : decode cX11_held 10 = .ok (.iload_n 2, 1) := by decide +kernel
theorem dX11_held_11 : decode cX11_held 11 = .ok (.if_icmp .le 7, 3) := by decide +kernel
theorem dX11_held_14 : decode cX11_held 14 = .ok (.iload_n 2, 1) := by decide +kernel
theorem dX11_held_15 : decode cX11_held 15 = .ok (.goto 4, 3) := by decide +kernel
theorem dX11_held_18 : decode cX11_held 18 = .ok (.iload_n 0, 1) := by decide +kernel
theorem dX11_held_19 : decode cX11_held 19 = .ok (.ireturn, 1) := by decide +kernel
theorem dX11_allHeads_0 : decode cX11_allHeads 0 = .ok (.iconst 0, 1) := by decide +kernel
theorem dX11_allHeads_1 : decode cX11_allHeads 1 = .ok (.istore_n 1, 1) := by decide +kernel
theorem dX11_allHeads_2 : decode cX11_allHeads 2 = .ok (.iconst 0, 1) := by decide +kernel
theorem dX11_allHeads_3 : decode cX11_allHeads 3 = .ok (.istore_n 2, 1) := by decide +kernel
theorem dX11_allHeads_4 : decode cX11_allHeads 4 = .ok (.iload_n 2, 1) := by decide +kernel
theorem dX11_allHeads_5 : decode cX11_allHeads 5 = .ok (.aload_n 0, 1) := by decide +kernel
theorem dX11_allHeads_6 : decode cX11_allHeads 6 = .ok (.getfield 86, 3) := by decide +kernel
theorem dX11_allHeads_9 : decode cX11_allHeads 9 = .ok (.if_icmp .ge 18, 3) := by decide +kernel
theorem dX11_allHeads_12 : decode cX11_allHeads 12 = .ok (.iload_n 1, 1) := by decide +kernel
theorem dX11_allHeads_13 : decode cX11_allHeads 13 = .ok (.aload_n 0, 1) := by decide +kernel
theorem dX11_allHeads_14 : decode cX11_allHeads 14 = .ok (.getfield 7, 3) := by decide +kernel
theorem dX11_allHeads_17 : decode cX11_allHeads 17 = .ok (.iload_n 2, 1) := by decide +kernel
theorem dX11_allHeads_18 : decode cX11_allHeads 18 = .ok (.iaload, 1) := by decide +kernel
theorem dX11_allHeads_19 : decode cX11_allHeads 19 = .ok (.iadd, 1) := by decide +kernel
theorem dX11_allHeads_20 : decode cX11_allHeads 20 = .ok (.istore_n 1, 1) := by decide +kernel
theorem dX11_allHeads_21 : decode cX11_allHeads 21 = .ok (.iinc 2 1, 3) := by decide +kernel
theorem dX11_allHeads_24 : decode cX11_allHeads 24 = .ok (.goto (-20), 3) := by decide +kernel
theorem dX11_allHeads_27 : decode cX11_allHeads 27 = .ok (.iload_n 1, 1) := by decide +kernel
theorem dX11_allHeads_28 : decode cX11_allHeads 28 = .ok (.ireturn, 1) := by decide +kernel
theorem dX11_allDebts_0 : decode cX11_allDebts 0 = .ok (.iconst 0, 1) := by decide +kernel
theorem dX11_allDebts_1 : decode cX11_allDebts 1 = .ok (.istore_n 1, 1) := by decide +kernel
theorem dX11_allDebts_2 : decode cX11_allDebts 2 = .ok (.iconst 0, 1) := by decide +kernel
theorem dX11_allDebts_3 : decode cX11_allDebts 3 = .ok (.istore_n 2, 1) := by decide +kernel
theorem dX11_allDebts_4 : decode cX11_allDebts 4 = .ok (.iload_n 2, 1) := by decide +kernel
theorem dX11_allDebts_5 : decode cX11_allDebts 5 = .ok (.aload_n 0, 1) := by decide +kernel
theorem dX11_allDebts_6 : decode cX11_allDebts 6 = .ok (.getfield 86, 3) := by decide +kernel
theorem dX11_allDebts_9 : decode cX11_allDebts 9 = .ok (.if_icmp .ge 18, 3) := by decide +kernel
theorem dX11_allDebts_12 : decode cX11_allDebts 12 = .ok (.iload_n 1, 1) := by decide +kernel
theorem dX11_allDebts_13 : decode cX11_allDebts 13 = .ok (.aload_n 0, 1) := by decide +kernel
theorem dX11_allDebts_14 : decode cX11_allDebts 14 = .ok (.getfield 13, 3) := by decide +kernel
theorem dX11_allDebts_17 : decode cX11_allDebts 17 = .ok (.iload_n 2, 1) := by decide +kernel
theorem dX11_allDebts_18 : decode cX11_allDebts 18 = .ok (.iaload, 1) := by decide +kernel
theorem dX11_allDebts_19 : decode cX11_allDebts 19 = .ok (.iadd, 1) := by decide +kernel
theorem dX11_allDebts_20 : decode cX11_allDebts 20 = .ok (.istore_n 1, 1) := by decide +kernel
theorem dX11_allDebts_21 : decode cX11_allDebts 21 = .ok (.iinc 2 1, 3) := by decide +kernel
theorem dX11_allDebts_24 : decode cX11_allDebts 24 = .ok (.goto (-20), 3) := by decide +kernel
theorem dX11_allDebts_27 : decode cX11_allDebts 27 = .ok (.iload_n 1, 1) := by decide +kernel
theorem dX11_allDebts_28 : decode cX11_allDebts 28 = .ok (.ireturn, 1) := by decide +kernel
theorem dX11_headOwes_0 : decode cX11_headOwes 0 = .ok (.aload_n 0, 1) := by decide +kernel
theorem dX11_headOwes_1 : decode cX11_headOwes 1 = .ok (.getfield 13, 3) := by decide +kernel
theorem dX11_headOwes_4 : decode cX11_headOwes 4 = .ok (.iload_n 1, 1) := by decide +kernel
theorem dX11_headOwes_5 : decode cX11_headOwes 5 = .ok (.iaload, 1) := by decide +kernel
theorem dX11_headOwes_6 : decode cX11_headOwes 6 = .ok (.aload_n 0, 1) := by decide +kernel
theorem dX11_headOwes_7 : decode cX11_headOwes 7 = .ok (.getfield 7, 3) := by decide +kernel
theorem dX11_headOwes_10 : decode cX11_headOwes 10 = .ok (.iload_n 1, 1) := by decide +kernel
theorem dX11_headOwes_11 : decode cX11_headOwes 11 = .ok (.iaload, 1) := by decide +kernel
theorem dX11_headOwes_12 : decode cX11_headOwes 12 = .ok (.iadd, 1) := by decide +kernel
theorem dX11_headOwes_13 : decode cX11_headOwes 13 = .ok (.iconst 1, 1) := by decide +kernel
theorem dX11_headOwes_14 : decode cX11_headOwes 14 = .ok (.isub, 1) := by decide +kernel
theorem dX11_headOwes_15 : decode cX11_headOwes 15 = .ok (.aload_n 0, 1) := by decide +kernel
theorem dX11_headOwes_16 : decode cX11_headOwes 16 = .ok (.getfield 7, 3) := by decide +kernel
theorem dX11_headOwes_19 : decode cX11_headOwes 19 = .ok (.iload_n 1, 1) := by decide +kernel
theorem dX11_headOwes_20 : decode cX11_headOwes 20 = .ok (.iaload, 1) := by decide +kernel
theorem dX11_headOwes_21 : decode cX11_headOwes 21 = .ok (.idiv, 1) := by decide +kernel
theorem dX11_headOwes_22 : decode cX11_headOwes 22 = .ok (.ireturn, 1) := by decide +kernel
theorem dX11_dueOf_0 : decode cX11_dueOf 0 = .ok (.aload_n 0, 1) := by decide +kernel
theorem dX11_dueOf_1 : decode cX11_dueOf 1 = .ok (.getfield 32, 3) := by decide +kernel
theorem dX11_dueOf_4 : decode cX11_dueOf 4 = .ok (.iload_n 1, 1) := by decide +kernel
theorem dX11_dueOf_5 : decode cX11_dueOf 5 = .ok (.iaload, 1) := by decide +kernel
theorem dX11_dueOf_6 : decode cX11_dueOf 6 = .ok (.istore_n 2, 1) := by decide +kernel
theorem dX11_dueOf_7 : decode cX11_dueOf 7 = .ok (.iload_n 2, 1) := by decide +kernel
theorem dX11_dueOf_8 : decode cX11_dueOf 8 = .ok (.aload_n 0, 1) := by decide +kernel
theorem dX11_dueOf_9 : decode cX11_dueOf 9 = .ok (.getfield 29, 3) := by decide +kernel
theorem dX11_dueOf_12 : decode cX11_dueOf 12 = .ok (.iload_n 1, 1) := by decide +kernel
theorem dX11_dueOf_13 : decode cX11_dueOf 13 = .ok (.iaload, 1) := by decide +kernel
theorem dX11_dueOf_14 : decode cX11_dueOf 14 = .ok (.iadd, 1) := by decide +kernel
theorem dX11_dueOf_15 : decode cX11_dueOf 15 = .ok (.istore_n 3, 1) := by decide +kernel
theorem dX11_dueOf_16 : decode cX11_dueOf 16 = .ok (.aload_n 0, 1) := by decide +kernel
theorem dX11_dueOf_17 : decode cX11_dueOf 17 = .ok (.getfield 26, 3) := by decide +kernel
theorem dX11_dueOf_20 : decode cX11_dueOf 20 = .ok (.iload_n 1, 1) := by decide +kernel
theorem dX11_dueOf_21 : decode cX11_dueOf 21 = .ok (.iaload, 1) := by decide +kernel
theorem dX11_dueOf_22 : decode cX11_dueOf 22 = .ok (.tableswitch 65 1 5 #[34, 36, 40, 44, 61], 34) := by decide +kernel
theorem dX11_dueOf_56 : decode cX11_dueOf 56 = .ok (.iload_n 3, 1) := by decide +kernel
theorem dX11_dueOf_57 : decode cX11_dueOf 57 = .ok (.ireturn, 1) := by decide +kernel
theorem dX11_dueOf_58 : decode cX11_dueOf 58 = .ok (.iconst 2, 1) := by decide +kernel
theorem dX11_dueOf_59 : decode cX11_dueOf 59 = .ok (.iload_n 2, 1) := by decide +kernel
theorem dX11_dueOf_60 : decode cX11_dueOf 60 = .ok (.imul, 1) := by decide +kernel
theorem dX11_dueOf_61 : decode cX11_dueOf 61 = .ok (.ireturn, 1) := by decide +kernel
theorem dX11_dueOf_62 : decode cX11_dueOf 62 = .ok (.iload_n 3, 1) := by decide +kernel
theorem dX11_dueOf_63 : decode cX11_dueOf 63 = .ok (.iconst 2, 1) := by decide +kernel
theorem dX11_dueOf_64 : decode cX11_dueOf 64 = .ok (.idiv, 1) := by decide +kernel
theorem dX11_dueOf_65 : decode cX11_dueOf 65 = .ok (.ireturn, 1) := by decide +kernel
theorem dX11_dueOf_66 : decode cX11_dueOf 66 = .ok (.iconst 2, 1) := by decide +kernel
theorem dX11_dueOf_67 : decode cX11_dueOf 67 = .ok (.iload_n 2, 1) := by decide +kernel
theorem dX11_dueOf_68 : decode cX11_dueOf 68 = .ok (.imul, 1) := by decide +kernel
theorem dX11_dueOf_69 : decode cX11_dueOf 69 = .ok (.aload_n 0, 1) := by decide +kernel
theorem dX11_dueOf_70 : decode cX11_dueOf 70 = .ok (.getfield 29, 3) := by decide +kernel
theorem dX11_dueOf_73 : decode cX11_dueOf 73 = .ok (.iload_n 1, 1) := by decide +kernel
theorem dX11_dueOf_74 : decode cX11_dueOf 74 = .ok (.iaload, 1) := by decide +kernel
theorem dX11_dueOf_75 : decode cX11_dueOf 75 = .ok (.isub, 1) := by decide +kernel
theorem dX11_dueOf_76 : decode cX11_dueOf 76 = .ok (.iconst 1, 1) := by decide +kernel
theorem dX11_dueOf_77 : decode cX11_dueOf 77 = .ok (.ldc 96, 2) := by decide +kernel
theorem dX11_dueOf_79 : decode cX11_dueOf 79 = .ok (.invokestatic 97, 3) := by decide +kernel
theorem dX11_dueOf_82 : decode cX11_dueOf 82 = .ok (.ireturn, 1) := by decide +kernel
theorem dX11_dueOf_83 : decode cX11_dueOf 83 = .ok (.iload_n 3, 1) := by decide +kernel
theorem dX11_dueOf_84 : decode cX11_dueOf 84 = .ok (.iload_n 2, 1) := by decide +kernel
theorem dX11_dueOf_85 : decode cX11_dueOf 85 = .ok (.iadd, 1) := by decide +kernel
theorem dX11_dueOf_86 : decode cX11_dueOf 86 = .ok (.ireturn, 1) := by decide +kernel
theorem dX11_dueOf_87 : decode cX11_dueOf 87 = .ok (.iload_n 2, 1) := by decide +kernel
theorem dX11_dueOf_88 : decode cX11_dueOf 88 = .ok (.ireturn, 1) := by decide +kernel
theorem dX11_mostHeads_0 : decode cX11_mostHeads 0 = .ok (.iconst 0, 1) := by decide +kernel
theorem dX11_mostHeads_1 : decode cX11_mostHeads 1 = .ok (.istore_n 1, 1) := by decide +kernel
theorem dX11_mostHeads_2 : decode cX11_mostHeads 2 = .ok (.iconst 1, 1) := by decide +kernel
theorem dX11_mostHeads_3 : decode cX11_mostHeads 3 = .ok (.istore_n 2, 1) := by decide +kernel
theorem dX11_mostHeads_4 : decode cX11_mostHeads 4 = .ok (.iload_n 2, 1) := by decide +kernel
theorem dX11_mostHeads_5 : decode cX11_mostHeads 5 = .ok (.aload_n 0, 1) := by decide +kernel
theorem dX11_mostHeads_6 : decode cX11_mostHeads 6 = .ok (.getfield 86, 3) := by decide +kernel
theorem dX11_mostHeads_9 : decode cX11_mostHeads 9 = .ok (.if_icmp .ge 30, 3) := by decide +kernel
theorem dX11_mostHeads_12 : decode cX11_mostHeads 12 = .ok (.aload_n 0, 1) := by decide +kernel
theorem dX11_mostHeads_13 : decode cX11_mostHeads 13 = .ok (.getfield 7, 3) := by decide +kernel
theorem dX11_mostHeads_16 : decode cX11_mostHeads 16 = .ok (.iload_n 2, 1) := by decide +kernel
theorem dX11_mostHeads_17 : decode cX11_mostHeads 17 = .ok (.iaload, 1) := by decide +kernel
theorem dX11_mostHeads_18 : decode cX11_mostHeads 18 = .ok (.aload_n 0, 1) := by decide +kernel
theorem dX11_mostHeads_19 : decode cX11_mostHeads 19 = .ok (.getfield 7, 3) := by decide +kernel
theorem dX11_mostHeads_22 : decode cX11_mostHeads 22 = .ok (.iload_n 1, 1) := by decide +kernel
theorem dX11_mostHeads_23 : decode cX11_mostHeads 23 = .ok (.iaload, 1) := by decide +kernel
theorem dX11_mostHeads_24 : decode cX11_mostHeads 24 = .ok (.if_icmp .le 7, 3) := by decide +kernel
theorem dX11_mostHeads_27 : decode cX11_mostHeads 27 = .ok (.iload_n 2, 1) := by decide +kernel
theorem dX11_mostHeads_28 : decode cX11_mostHeads 28 = .ok (.goto 4, 3) := by decide +kernel
theorem dX11_mostHeads_31 : decode cX11_mostHeads 31 = .ok (.iload_n 1, 1) := by decide +kernel
theorem dX11_mostHeads_32 : decode cX11_mostHeads 32 = .ok (.istore_n 1, 1) := by decide +kernel
theorem dX11_mostHeads_33 : decode cX11_mostHeads 33 = .ok (.iinc 2 1, 3) := by decide +kernel
theorem dX11_mostHeads_36 : decode cX11_mostHeads 36 = .ok (.goto (-32), 3) := by decide +kernel
theorem dX11_mostHeads_39 : decode cX11_mostHeads 39 = .ok (.iload_n 1, 1) := by decide +kernel
theorem dX11_mostHeads_40 : decode cX11_mostHeads 40 = .ok (.ireturn, 1) := by decide +kernel
theorem dX11_leastDebt_0 : decode cX11_leastDebt 0 = .ok (.iconst 0, 1) := by decide +kernel
theorem dX11_leastDebt_1 : decode cX11_leastDebt 1 = .ok (.istore_n 1, 1) := by decide +kernel
theorem dX11_leastDebt_2 : decode cX11_leastDebt 2 = .ok (.iconst 1, 1) := by decide +kernel
theorem dX11_leastDebt_3 : decode cX11_leastDebt 3 = .ok (.istore_n 2, 1) := by decide +kernel
theorem dX11_leastDebt_4 : decode cX11_leastDebt 4 = .ok (.iload_n 2, 1) := by decide +kernel
theorem dX11_leastDebt_5 : decode cX11_leastDebt 5 = .ok (.aload_n 0, 1) := by decide +kernel
theorem dX11_leastDebt_6 : decode cX11_leastDebt 6 = .ok (.getfield 86, 3) := by decide +kernel
theorem dX11_leastDebt_9 : decode cX11_leastDebt 9 = .ok (.if_icmp .ge 30, 3) := by decide +kernel
theorem dX11_leastDebt_12 : decode cX11_leastDebt 12 = .ok (.aload_n 0, 1) := by decide +kernel
theorem dX11_leastDebt_13 : decode cX11_leastDebt 13 = .ok (.getfield 13, 3) := by decide +kernel
theorem dX11_leastDebt_16 : decode cX11_leastDebt 16 = .ok (.iload_n 2, 1) := by decide +kernel
theorem dX11_leastDebt_17 : decode cX11_leastDebt 17 = .ok (.iaload, 1) := by decide +kernel
theorem dX11_leastDebt_18 : decode cX11_leastDebt 18 = .ok (.aload_n 0, 1) := by decide +kernel
theorem dX11_leastDebt_19 : decode cX11_leastDebt 19 = .ok (.getfield 13, 3) := by decide +kernel
theorem dX11_leastDebt_22 : decode cX11_leastDebt 22 = .ok (.iload_n 1, 1) := by decide +kernel
theorem dX11_leastDebt_23 : decode cX11_leastDebt 23 = .ok (.iaload, 1) := by decide +kernel
theorem dX11_leastDebt_24 : decode cX11_leastDebt 24 = .ok (.if_icmp .ge 7, 3) := by decide +kernel
theorem dX11_leastDebt_27 : decode cX11_leastDebt 27 = .ok (.iload_n 2, 1) := by decide +kernel
theorem dX11_leastDebt_28 : decode cX11_leastDebt 28 = .ok (.goto 4, 3) := by decide +kernel
theorem dX11_leastDebt_31 : decode cX11_leastDebt 31 = .ok (.iload_n 1, 1) := by decide +kernel
theorem dX11_leastDebt_32 : decode cX11_leastDebt 32 = .ok (.istore_n 1, 1) := by decide +kernel
theorem dX11_leastDebt_33 : decode cX11_leastDebt 33 = .ok (.iinc 2 1, 3) := by decide +kernel
theorem dX11_leastDebt_36 : decode cX11_leastDebt 36 = .ok (.goto (-32), 3) := by decide +kernel
theorem dX11_leastDebt_39 : decode cX11_leastDebt 39 = .ok (.iload_n 1, 1) := by decide +kernel
theorem dX11_leastDebt_40 : decode cX11_leastDebt 40 = .ok (.ireturn, 1) := by decide +kernel
theorem dX11_layParts_0 : decode cX11_layParts 0 = .ok (.aload_n 0, 1) := by decide +kernel
theorem dX11_layParts_1 : decode cX11_layParts 1 = .ok (.getfield 26, 3) := by decide +kernel
theorem dX11_layParts_4 : decode cX11_layParts 4 = .ok (.iload_n 1, 1) := by decide +kernel
theorem dX11_layParts_5 : decode cX11_layParts 5 = .ok (.iaload, 1) := by decide +kernel
theorem dX11_layParts_6 : decode cX11_layParts 6 = .ok (.istore_n 2, 1) := by decide +kernel
theorem dX11_layParts_7 : decode cX11_layParts 7 = .ok (.iconst 0, 1) := by decide +kernel
theorem dX11_layParts_8 : decode cX11_layParts 8 = .ok (.istore_n 3, 1) := by decide +kernel
theorem dX11_layParts_9 : decode cX11_layParts 9 = .ok (.iconst 0, 1) := by decide +kernel
theorem dX11_layParts_10 : decode cX11_layParts 10 = .ok (.istore 4, 2) := by decide +kernel
theorem dX11_layParts_12 : decode cX11_layParts 12 = .ok (.iload 4, 2) := by decide +kernel
theorem dX11_layParts_14 : decode cX11_layParts 14 = .ok (.aload_n 0, 1) := by decide +kernel
theorem dX11_layParts_15 : decode cX11_layParts 15 = .ok (.getfield 86, 3) := by decide +kernel
theorem dX11_layParts_18 : decode cX11_layParts 18 = .ok (.if_icmp .ge 33, 3) := by decide +kernel
theorem dX11_layParts_21 : decode cX11_layParts 21 = .ok (.iload_n 3, 1) := by decide +kernel
theorem dX11_layParts_22 : decode cX11_layParts 22 = .ok (.aload_n 0, 1) := by decide +kernel
theorem dX11_layParts_23 : decode cX11_layParts 23 = .ok (.getfield 19, 3) := by decide +kernel
theorem dX11_layParts_26 : decode cX11_layParts 26 = .ok (.iload 4, 2) := by decide +kernel
theorem dX11_layParts_28 : decode cX11_layParts 28 = .ok (.iaload, 1) := by decide +kernel
theorem dX11_layParts_29 : decode cX11_layParts 29 = .ok (.ifCond .le 13, 3) := by decide +kernel
theorem dX11_layParts_32 : decode cX11_layParts 32 = .ok (.aload_n 0, 1) := by decide +kernel
theorem dX11_layParts_33 : decode cX11_layParts 33 = .ok (.getfield 7, 3) := by decide +kernel
theorem dX11_layParts_36 : decode cX11_layParts 36 = .ok (.iload 4, 2) := by decide +kernel
theorem dX11_layParts_38 : decode cX11_layParts 38 = .ok (.iaload, 1) := by decide +kernel
theorem dX11_layParts_39 : decode cX11_layParts 39 = .ok (.goto 4, 3) := by decide +kernel
theorem dX11_layParts_42 : decode cX11_layParts 42 = .ok (.iconst 0, 1) := by decide +kernel
theorem dX11_layParts_43 : decode cX11_layParts 43 = .ok (.iadd, 1) := by decide +kernel
theorem dX11_layParts_44 : decode cX11_layParts 44 = .ok (.istore_n 3, 1) := by decide +kernel
theorem dX11_layParts_45 : decode cX11_layParts 45 = .ok (.iinc 4 1, 3) := by decide +kernel
theorem dX11_layParts_48 : decode cX11_layParts 48 = .ok (.goto (-36), 3) := by decide +kernel
theorem dX11_layParts_51 : decode cX11_layParts 51 = .ok (.iconst 0, 1) := by decide +kernel
theorem dX11_layParts_52 : decode cX11_layParts 52 = .ok (.istore 4, 2) := by decide +kernel
theorem dX11_layParts_54 : decode cX11_layParts 54 = .ok (.iload 4, 2) := by decide +kernel
theorem dX11_layParts_56 : decode cX11_layParts 56 = .ok (.iconst 5, 1) := by decide +kernel
theorem dX11_layParts_57 : decode cX11_layParts 57 = .ok (.if_icmp .ge 165, 3) := by decide +kernel
theorem dX11_layParts_60 : decode cX11_layParts 60 = .ok (.iload_n 2, 1) := by decide +kernel
theorem dX11_layParts_61 : decode cX11_layParts 61 = .ok (.iconst 3, 1) := by decide +kernel
theorem dX11_layParts_62 : decode cX11_layParts 62 = .ok (.if_icmp .ne 17, 3) := by decide +kernel
theorem dX11_layParts_65 : decode cX11_layParts 65 = .ok (.iload_n 3, 1) := by decide +kernel
theorem dX11_layParts_66 : decode cX11_layParts 66 = .ok (.ifCond .eq 13, 3) := by decide +kernel
theorem dX11_layParts_69 : decode cX11_layParts 69 = .ok (.aload_n 0, 1) := by decide +kernel
theorem dX11_layParts_70 : decode cX11_layParts 70 = .ok (.getfield 19, 3) := by decide +kernel
theorem dX11_layParts_73 : decode cX11_layParts 73 = .ok (.iload 4, 2) := by decide +kernel
theorem dX11_layParts_75 : decode cX11_layParts 75 = .ok (.iaload, 1) := by decide +kernel
theorem dX11_layParts_76 : decode cX11_layParts 76 = .ok (.ifCond .le 7, 3) := by decide +kernel
theorem dX11_layParts_79 : decode cX11_layParts 79 = .ok (.iconst 1, 1) := by decide +kernel
theorem dX11_layParts_80 : decode cX11_layParts 80 = .ok (.goto 4, 3) := by decide +kernel
theorem dX11_layParts_83 : decode cX11_layParts 83 = .ok (.iconst 0, 1) := by decide +kernel
theorem dX11_layParts_84 : decode cX11_layParts 84 = .ok (.istore 5, 2) := by decide +kernel
theorem dX11_layParts_86 : decode cX11_layParts 86 = .ok (.aload_n 0, 1) := by decide +kernel
theorem dX11_layParts_87 : decode cX11_layParts 87 = .ok (.getfield 44, 3) := by decide +kernel
theorem dX11_layParts_90 : decode cX11_layParts 90 = .ok (.iload 4, 2) := by decide +kernel
theorem dX11_layParts_92 : decode cX11_layParts 92 = .ok (.iload 4, 2) := by decide +kernel
theorem dX11_layParts_94 : decode cX11_layParts 94 = .ok (.aload_n 0, 1) := by decide +kernel
theorem dX11_layParts_95 : decode cX11_layParts 95 = .ok (.getfield 86, 3) := by decide +kernel
theorem dX11_layParts_98 : decode cX11_layParts 98 = .ok (.if_icmp .lt 7, 3) := by decide +kernel
theorem dX11_layParts_101 : decode cX11_layParts 101 = .ok (.iconst 0, 1) := by decide +kernel
theorem dX11_layParts_102 : decode cX11_layParts 102 = .ok (.goto 27, 3) := by decide +kernel
theorem dX11_layParts_105 : decode cX11_layParts 105 = .ok (.iload_n 2, 1) := by decide +kernel
theorem dX11_layParts_106 : decode cX11_layParts 106 = .ok (.ifCond .ne 7, 3) := by decide +kernel
theorem dX11_layParts_109 : decode cX11_layParts 109 = .ok (.iconst 1, 1) := by decide +kernel
theorem dX11_layParts_110 : decode cX11_layParts 110 = .ok (.goto 19, 3) := by decide +kernel
theorem dX11_layParts_113 : decode cX11_layParts 113 = .ok (.iload 5, 2) := by decide +kernel
theorem dX11_layParts_115 : decode cX11_layParts 115 = .ok (.ifCond .eq 13, 3) := by decide +kernel
theorem dX11_layParts_118 : decode cX11_layParts 118 = .ok (.aload_n 0, 1) := by decide +kernel
theorem dX11_layParts_119 : decode cX11_layParts 119 = .ok (.getfield 7, 3) := by decide +kernel
theorem dX11_layParts_122 : decode cX11_layParts 122 = .ok (.iload 4, 2) := by decide +kernel
theorem dX11_layParts_124 : decode cX11_layParts 124 = .ok (.iaload, 1) := by decide +kernel
theorem dX11_layParts_125 : decode cX11_layParts 125 = .ok (.goto 4, 3) := by decide +kernel
theorem dX11_layParts_128 : decode cX11_layParts 128 = .ok (.iconst 0, 1) := by decide +kernel
theorem dX11_layParts_129 : decode cX11_layParts 129 = .ok (.iastore, 1) := by decide +kernel
theorem dX11_layParts_130 : decode cX11_layParts 130 = .ok (.aload_n 0, 1) := by decide +kernel
theorem dX11_layParts_131 : decode cX11_layParts 131 = .ok (.getfield 44, 3) := by decide +kernel
theorem dX11_layParts_134 : decode cX11_layParts 134 = .ok (.iload 4, 2) := by decide +kernel
theorem dX11_layParts_136 : decode cX11_layParts 136 = .ok (.iload_n 2, 1) := by decide +kernel
theorem dX11_layParts_137 : decode cX11_layParts 137 = .ok (.iconst 2, 1) := by decide +kernel
theorem dX11_layParts_138 : decode cX11_layParts 138 = .ok (.if_icmp .ne 27, 3) := by decide +kernel
theorem dX11_layParts_141 : decode cX11_layParts 141 = .ok (.iload 4, 2) := by decide +kernel
theorem dX11_layParts_143 : decode cX11_layParts 143 = .ok (.aload_n 0, 1) := by decide +kernel
theorem dX11_layParts_144 : decode cX11_layParts 144 = .ok (.invokevirtual 101, 3) := by decide +kernel
theorem dX11_layParts_147 : decode cX11_layParts 147 = .ok (.if_icmp .ne 14, 3) := by decide +kernel
theorem dX11_layParts_150 : decode cX11_layParts 150 = .ok (.aload_n 0, 1) := by decide +kernel
theorem dX11_layParts_151 : decode cX11_layParts 151 = .ok (.getfield 86, 3) := by decide +kernel
theorem dX11_layParts_154 : decode cX11_layParts 154 = .ok (.ifCond .le 7, 3) := by decide +kernel
theorem dX11_layParts_157 : decode cX11_layParts 157 = .ok (.iconst 1, 1) := by decide +kernel
theorem dX11_layParts_158 : decode cX11_layParts 158 = .ok (.goto 14, 3) := by decide +kernel
theorem dX11_layParts_161 : decode cX11_layParts 161 = .ok (.iconst 0, 1) := by decide +kernel
theorem dX11_layParts_162 : decode cX11_layParts 162 = .ok (.goto 10, 3) := by decide +kernel
theorem dX11_layParts_165 : decode cX11_layParts 165 = .ok (.aload_n 0, 1) := by decide +kernel
theorem dX11_layParts_166 : decode cX11_layParts 166 = .ok (.getfield 44, 3) := by decide +kernel
theorem dX11_layParts_169 : decode cX11_layParts 169 = .ok (.iload 4, 2) := by decide +kernel
theorem dX11_layParts_171 : decode cX11_layParts 171 = .ok (.iaload, 1) := by decide +kernel
theorem dX11_layParts_172 : decode cX11_layParts 172 = .ok (.iastore, 1) := by decide +kernel
theorem dX11_layParts_173 : decode cX11_layParts 173 = .ok (.aload_n 0, 1) := by decide +kernel
theorem dX11_layParts_174 : decode cX11_layParts 174 = .ok (.getfield 44, 3) := by decide +kernel
theorem dX11_layParts_177 : decode cX11_layParts 177 = .ok (.iload 4, 2) := by decide +kernel
theorem dX11_layParts_179 : decode cX11_layParts 179 = .ok (.iload_n 2, 1) := by decide +kernel
theorem dX11_layParts_180 : decode cX11_layParts 180 = .ok (.iconst 4, 1) := by decide +kernel
theorem dX11_layParts_181 : decode cX11_layParts 181 = .ok (.if_icmp .ne 27, 3) := by decide +kernel
theorem dX11_layParts_184 : decode cX11_layParts 184 = .ok (.iload 4, 2) := by decide +kernel
theorem dX11_layParts_186 : decode cX11_layParts 186 = .ok (.aload_n 0, 1) := by decide +kernel
theorem dX11_layParts_187 : decode cX11_layParts 187 = .ok (.invokevirtual 105, 3) := by decide +kernel
theorem dX11_layParts_190 : decode cX11_layParts 190 = .ok (.if_icmp .ne 14, 3) := by decide +kernel
theorem dX11_layParts_193 : decode cX11_layParts 193 = .ok (.aload_n 0, 1) := by decide +kernel
theorem dX11_layParts_194 : decode cX11_layParts 194 = .ok (.getfield 86, 3) := by decide +kernel
theorem dX11_layParts_197 : decode cX11_layParts 197 = .ok (.ifCond .le 7, 3) := by decide +kernel
theorem dX11_layParts_200 : decode cX11_layParts 200 = .ok (.iconst 1, 1) := by decide +kernel
theorem dX11_layParts_201 : decode cX11_layParts 201 = .ok (.goto 14, 3) := by decide +kernel
theorem dX11_layParts_204 : decode cX11_layParts 204 = .ok (.iconst 0, 1) := by decide +kernel
theorem dX11_layParts_205 : decode cX11_layParts 205 = .ok (.goto 10, 3) := by decide +kernel
theorem dX11_layParts_208 : decode cX11_layParts 208 = .ok (.aload_n 0, 1) := by decide +kernel
theorem dX11_layParts_209 : decode cX11_layParts 209 = .ok (.getfield 44, 3) := by decide +kernel
theorem dX11_layParts_212 : decode cX11_layParts 212 = .ok (.iload 4, 2) := by decide +kernel
theorem dX11_layParts_214 : decode cX11_layParts 214 = .ok (.iaload, 1) := by decide +kernel
theorem dX11_layParts_215 : decode cX11_layParts 215 = .ok (.iastore, 1) := by decide +kernel
theorem dX11_layParts_216 : decode cX11_layParts 216 = .ok (.iinc 4 1, 3) := by decide +kernel
theorem dX11_layParts_219 : decode cX11_layParts 219 = .ok (.goto (-165), 3) := by decide +kernel
theorem dX11_layParts_222 : decode cX11_layParts 222 = .ok (.return_, 1) := by decide +kernel
theorem dX11_layShares_0 : decode cX11_layShares 0 = .ok (.aload_n 0, 1) := by decide +kernel
theorem dX11_layShares_1 : decode cX11_layShares 1 = .ok (.iload_n 1, 1) := by decide +kernel
theorem dX11_layShares_2 : decode cX11_layShares 2 = .ok (.invokevirtual 108, 3) := by decide +kernel
theorem dX11_layShares_5 : decode cX11_layShares 5 = .ok (.aload_n 0, 1) := by decide +kernel
theorem dX11_layShares_6 : decode cX11_layShares 6 = .ok (.iload_n 1, 1) := by decide +kernel
theorem dX11_layShares_7 : decode cX11_layShares 7 = .ok (.invokevirtual 112, 3) := by decide +kernel
theorem dX11_layShares_10 : decode cX11_layShares 10 = .ok (.istore_n 2, 1) := by decide +kernel
theorem dX11_layShares_11 : decode cX11_layShares 11 = .ok (.iconst 0, 1) := by decide +kernel
theorem dX11_layShares_12 : decode cX11_layShares 12 = .ok (.istore_n 3, 1) := by decide +kernel
theorem dX11_layShares_13 : decode cX11_layShares 13 = .ok (.iconst 0, 1) := by decide +kernel
theorem dX11_layShares_14 : decode cX11_layShares 14 = .ok (.istore 4, 2) := by decide +kernel
theorem dX11_layShares_16 : decode cX11_layShares 16 = .ok (.iload 4, 2) := by decide +kernel
theorem dX11_layShares_18 : decode cX11_layShares 18 = .ok (.iconst 5, 1) := by decide +kernel
theorem dX11_layShares_19 : decode cX11_layShares 19 = .ok (.if_icmp .ge 19, 3) := by decide +kernel
theorem dX11_layShares_22 : decode cX11_layShares 22 = .ok (.iload_n 3, 1) := by decide +kernel
theorem dX11_layShares_23 : decode cX11_layShares 23 = .ok (.aload_n 0, 1) := by decide +kernel
theorem dX11_layShares_24 : decode cX11_layShares 24 = .ok (.getfield 44, 3) := by decide +kernel
theorem dX11_layShares_27 : decode cX11_layShares 27 = .ok (.iload 4, 2) := by decide +kernel
theorem dX11_layShares_29 : decode cX11_layShares 29 = .ok (.iaload, 1) := by decide +kernel
theorem dX11_layShares_30 : decode cX11_layShares 30 = .ok (.iadd, 1) := by decide +kernel
theorem dX11_layShares_31 : decode cX11_layShares 31 = .ok (.istore_n 3, 1) := by decide +kernel
theorem dX11_layShares_32 : decode cX11_layShares 32 = .ok (.iinc 4 1, 3) := by decide +kernel
theorem dX11_layShares_35 : decode cX11_layShares 35 = .ok (.goto (-19), 3) := by decide +kernel
theorem dX11_layShares_38 : decode cX11_layShares 38 = .ok (.iload_n 2, 1) := by decide +kernel
theorem dX11_layShares_39 : decode cX11_layShares 39 = .ok (.istore 4, 2) := by decide +kernel
theorem dX11_layShares_41 : decode cX11_layShares 41 = .ok (.iconst 0, 1) := by decide +kernel
theorem dX11_layShares_42 : decode cX11_layShares 42 = .ok (.istore 5, 2) := by decide +kernel
theorem dX11_layShares_44 : decode cX11_layShares 44 = .ok (.iload 5, 2) := by decide +kernel
theorem dX11_layShares_46 : decode cX11_layShares 46 = .ok (.iconst 5, 1) := by decide +kernel
theorem dX11_layShares_47 : decode cX11_layShares 47 = .ok (.if_icmp .ge 47, 3) := by decide +kernel
theorem dX11_layShares_50 : decode cX11_layShares 50 = .ok (.aload_n 0, 1) := by decide +kernel
theorem dX11_layShares_51 : decode cX11_layShares 51 = .ok (.getfield 41, 3) := by decide +kernel
theorem dX11_layShares_54 : decode cX11_layShares 54 = .ok (.iload 5, 2) := by decide +kernel
theorem dX11_layShares_56 : decode cX11_layShares 56 = .ok (.iload_n 3, 1) := by decide +kernel
theorem dX11_layShares_57 : decode cX11_layShares 57 = .ok (.ifCond .ne 7, 3) := by decide +kernel
theorem dX11_layShares_60 : decode cX11_layShares 60 = .ok (.iconst 0, 1) := by decide +kernel
theorem dX11_layShares_61 : decode cX11_layShares 61 = .ok (.goto 14, 3) := by decide +kernel
theorem dX11_layShares_64 : decode cX11_layShares 64 = .ok (.iload_n 2, 1) := by decide +kernel
theorem dX11_layShares_65 : decode cX11_layShares 65 = .ok (.aload_n 0, 1) := by decide +kernel
theorem dX11_layShares_66 : decode cX11_layShares 66 = .ok (.getfield 44, 3) := by decide +kernel
theorem dX11_layShares_69 : decode cX11_layShares 69 = .ok (.iload 5, 2) := by decide +kernel
theorem dX11_layShares_71 : decode cX11_layShares 71 = .ok (.iaload, 1) := by decide +kernel
theorem dX11_layShares_72 : decode cX11_layShares 72 = .ok (.imul, 1) := by decide +kernel
theorem dX11_layShares_73 : decode cX11_layShares 73 = .ok (.iload_n 3, 1) := by decide +kernel
theorem dX11_layShares_74 : decode cX11_layShares 74 = .ok (.idiv, 1) := by decide +kernel
theorem dX11_layShares_75 : decode cX11_layShares 75 = .ok (.iastore, 1) := by decide +kernel
theorem dX11_layShares_76 : decode cX11_layShares 76 = .ok (.iload 4, 2) := by decide +kernel
theorem dX11_layShares_78 : decode cX11_layShares 78 = .ok (.aload_n 0, 1) := by decide +kernel
theorem dX11_layShares_79 : decode cX11_layShares 79 = .ok (.getfield 41, 3) := by decide +kernel
theorem dX11_layShares_82 : decode cX11_layShares 82 = .ok (.iload 5, 2) := by decide +kernel
theorem dX11_layShares_84 : decode cX11_layShares 84 = .ok (.iaload, 1) := by decide +kernel
theorem dX11_layShares_85 : decode cX11_layShares 85 = .ok (.isub, 1) := by decide +kernel
theorem dX11_layShares_86 : decode cX11_layShares 86 = .ok (.istore 4, 2) := by decide +kernel
theorem dX11_layShares_88 : decode cX11_layShares 88 = .ok (.iinc 5 1, 3) := by decide +kernel
theorem dX11_layShares_91 : decode cX11_layShares 91 = .ok (.goto (-47), 3) := by decide +kernel
theorem dX11_layShares_94 : decode cX11_layShares 94 = .ok (.iconst 0, 1) := by decide +kernel
theorem dX11_layShares_95 : decode cX11_layShares 95 = .ok (.istore 5, 2) := by decide +kernel
theorem dX11_layShares_97 : decode cX11_layShares 97 = .ok (.iload 5, 2) := by decide +kernel
theorem dX11_layShares_99 : decode cX11_layShares 99 = .ok (.iconst 5, 1) := by decide +kernel
theorem dX11_layShares_100 : decode cX11_layShares 100 = .ok (.if_icmp .ge 70, 3) := by decide +kernel
theorem dX11_layShares_103 : decode cX11_layShares 103 = .ok (.iload_n 3, 1) := by decide +kernel
theorem dX11_layShares_104 : decode cX11_layShares 104 = .ok (.ifCond .le 22, 3) := by decide +kernel
theorem dX11_layShares_107 : decode cX11_layShares 107 = .ok (.iload 4, 2) := by decide +kernel
theorem dX11_layShares_109 : decode cX11_layShares 109 = .ok (.ifCond .le 17, 3) := by decide +kernel
theorem dX11_layShares_112 : decode cX11_layShares 112 = .ok (.aload_n 0, 1) := by decide +kernel
theorem dX11_layShares_113 : decode cX11_layShares 113 = .ok (.getfield 44, 3) := by decide +kernel
theorem dX11_layShares_116 : decode cX11_layShares 116 = .ok (.iload 5, 2) := by decide +kernel
theorem dX11_layShares_118 : decode cX11_layShares 118 = .ok (.iaload, 1) := by decide +kernel
theorem dX11_layShares_119 : decode cX11_layShares 119 = .ok (.ifCond .le 7, 3) := by decide +kernel
theorem dX11_layShares_122 : decode cX11_layShares 122 = .ok (.iconst 1, 1) := by decide +kernel
theorem dX11_layShares_123 : decode cX11_layShares 123 = .ok (.goto 4, 3) := by decide +kernel
theorem dX11_layShares_126 : decode cX11_layShares 126 = .ok (.iconst 0, 1) := by decide +kernel
theorem dX11_layShares_127 : decode cX11_layShares 127 = .ok (.istore 6, 2) := by decide +kernel
theorem dX11_layShares_129 : decode cX11_layShares 129 = .ok (.aload_n 0, 1) := by decide +kernel
theorem dX11_layShares_130 : decode cX11_layShares 130 = .ok (.getfield 41, 3) := by decide +kernel
theorem dX11_layShares_133 : decode cX11_layShares 133 = .ok (.iload 5, 2) := by decide +kernel
theorem dX11_layShares_135 : decode cX11_layShares 135 = .ok (.dup2, 1) := by decide +kernel
theorem dX11_layShares_136 : decode cX11_layShares 136 = .ok (.iaload, 1) := by decide +kernel
theorem dX11_layShares_137 : decode cX11_layShares 137 = .ok (.iload 6, 2) := by decide +kernel
theorem dX11_layShares_139 : decode cX11_layShares 139 = .ok (.ifCond .eq 7, 3) := by decide +kernel
theorem dX11_layShares_142 : decode cX11_layShares 142 = .ok (.iconst 1, 1) := by decide +kernel
theorem dX11_layShares_143 : decode cX11_layShares 143 = .ok (.goto 4, 3) := by decide +kernel
theorem dX11_layShares_146 : decode cX11_layShares 146 = .ok (.iconst 0, 1) := by decide +kernel
theorem dX11_layShares_147 : decode cX11_layShares 147 = .ok (.iadd, 1) := by decide +kernel
theorem dX11_layShares_148 : decode cX11_layShares 148 = .ok (.iastore, 1) := by decide +kernel
theorem dX11_layShares_149 : decode cX11_layShares 149 = .ok (.iload 4, 2) := by decide +kernel
theorem dX11_layShares_151 : decode cX11_layShares 151 = .ok (.iload 6, 2) := by decide +kernel
theorem dX11_layShares_153 : decode cX11_layShares 153 = .ok (.ifCond .eq 7, 3) := by decide +kernel
theorem dX11_layShares_156 : decode cX11_layShares 156 = .ok (.iconst 1, 1) := by decide +kernel
theorem dX11_layShares_157 : decode cX11_layShares 157 = .ok (.goto 4, 3) := by decide +kernel
theorem dX11_layShares_160 : decode cX11_layShares 160 = .ok (.iconst 0, 1) := by decide +kernel
theorem dX11_layShares_161 : decode cX11_layShares 161 = .ok (.isub, 1) := by decide +kernel
theorem dX11_layShares_162 : decode cX11_layShares 162 = .ok (.istore 4, 2) := by decide +kernel
theorem dX11_layShares_164 : decode cX11_layShares 164 = .ok (.iinc 5 1, 3) := by decide +kernel
theorem dX11_layShares_167 : decode cX11_layShares 167 = .ok (.goto (-70), 3) := by decide +kernel
theorem dX11_layShares_170 : decode cX11_layShares 170 = .ok (.return_, 1) := by decide +kernel
theorem dX11_lastBuilt_0 : decode cX11_lastBuilt 0 = .ok (.iconst 0, 1) := by decide +kernel
theorem dX11_lastBuilt_1 : decode cX11_lastBuilt 1 = .ok (.istore_n 1, 1) := by decide +kernel
theorem dX11_lastBuilt_2 : decode cX11_lastBuilt 2 = .ok (.iconst 0, 1) := by decide +kernel
theorem dX11_lastBuilt_3 : decode cX11_lastBuilt 3 = .ok (.istore_n 2, 1) := by decide +kernel
theorem dX11_lastBuilt_4 : decode cX11_lastBuilt 4 = .ok (.iload_n 2, 1) := by decide +kernel
theorem dX11_lastBuilt_5 : decode cX11_lastBuilt 5 = .ok (.aload_n 0, 1) := by decide +kernel
theorem dX11_lastBuilt_6 : decode cX11_lastBuilt 6 = .ok (.getfield 93, 3) := by decide +kernel
theorem dX11_lastBuilt_9 : decode cX11_lastBuilt 9 = .ok (.if_icmp .ge 30, 3) := by decide +kernel
theorem dX11_lastBuilt_12 : decode cX11_lastBuilt 12 = .ok (.aload_n 0, 1) := by decide +kernel
theorem dX11_lastBuilt_13 : decode cX11_lastBuilt 13 = .ok (.getfield 35, 3) := by decide +kernel
theorem dX11_lastBuilt_16 : decode cX11_lastBuilt 16 = .ok (.iload_n 2, 1) := by decide +kernel
theorem dX11_lastBuilt_17 : decode cX11_lastBuilt 17 = .ok (.iaload, 1) := by decide +kernel
theorem dX11_lastBuilt_18 : decode cX11_lastBuilt 18 = .ok (.iload_n 1, 1) := by decide +kernel
theorem dX11_lastBuilt_19 : decode cX11_lastBuilt 19 = .ok (.if_icmp .le 12, 3) := by decide +kernel
theorem dX11_lastBuilt_22 : decode cX11_lastBuilt 22 = .ok (.aload_n 0, 1) := by decide +kernel
theorem dX11_lastBuilt_23 : decode cX11_lastBuilt 23 = .ok (.getfield 35, 3) := by decide +kernel
theorem dX11_lastBuilt_26 : decode cX11_lastBuilt 26 = .ok (.iload_n 2, 1) := by decide +kernel
theorem dX11_lastBuilt_27 : decode cX11_lastBuilt 27 = .ok (.iaload, 1) := by decide +kernel
theorem dX11_lastBuilt_28 : decode cX11_lastBuilt 28 = .ok (.goto 4, 3) := by decide +kernel
theorem dX11_lastBuilt_31 : decode cX11_lastBuilt 31 = .ok (.iload_n 1, 1) := by decide +kernel
theorem dX11_lastBuilt_32 : decode cX11_lastBuilt 32 = .ok (.istore_n 1, 1) := by decide +kernel
theorem dX11_lastBuilt_33 : decode cX11_lastBuilt 33 = .ok (.iinc 2 1, 3) := by decide +kernel
theorem dX11_lastBuilt_36 : decode cX11_lastBuilt 36 = .ok (.goto (-32), 3) := by decide +kernel
theorem dX11_lastBuilt_39 : decode cX11_lastBuilt 39 = .ok (.iload_n 1, 1) := by decide +kernel
theorem dX11_lastBuilt_40 : decode cX11_lastBuilt 40 = .ok (.ireturn, 1) := by decide +kernel
theorem dX11_build_0 : decode cX11_build 0 = .ok (.aload_n 0, 1) := by decide +kernel
theorem dX11_build_1 : decode cX11_build 1 = .ok (.iload_n 1, 1) := by decide +kernel
theorem dX11_build_2 : decode cX11_build 2 = .ok (.invokevirtual 116, 3) := by decide +kernel
theorem dX11_build_5 : decode cX11_build 5 = .ok (.iconst 0, 1) := by decide +kernel
theorem dX11_build_6 : decode cX11_build 6 = .ok (.istore_n 2, 1) := by decide +kernel
theorem dX11_build_7 : decode cX11_build 7 = .ok (.iload_n 2, 1) := by decide +kernel
theorem dX11_build_8 : decode cX11_build 8 = .ok (.aload_n 0, 1) := by decide +kernel
theorem dX11_build_9 : decode cX11_build 9 = .ok (.getfield 86, 3) := by decide +kernel
theorem dX11_build_12 : decode cX11_build 12 = .ok (.if_icmp .ge 34, 3) := by decide +kernel
theorem dX11_build_15 : decode cX11_build 15 = .ok (.aload_n 0, 1) := by decide +kernel
theorem dX11_build_16 : decode cX11_build 16 = .ok (.getfield 13, 3) := by decide +kernel
theorem dX11_build_19 : decode cX11_build 19 = .ok (.iload_n 2, 1) := by decide +kernel
theorem dX11_build_20 : decode cX11_build 20 = .ok (.aload_n 0, 1) := by decide +kernel
theorem dX11_build_21 : decode cX11_build 21 = .ok (.getfield 13, 3) := by decide +kernel
theorem dX11_build_24 : decode cX11_build 24 = .ok (.iload_n 2, 1) := by decide +kernel
theorem dX11_build_25 : decode cX11_build 25 = .ok (.iaload, 1) := by decide +kernel
theorem dX11_build_26 : decode cX11_build 26 = .ok (.aload_n 0, 1) := by decide +kernel
theorem dX11_build_27 : decode cX11_build 27 = .ok (.getfield 41, 3) := by decide +kernel
theorem dX11_build_30 : decode cX11_build 30 = .ok (.iload_n 2, 1) := by decide +kernel
theorem dX11_build_31 : decode cX11_build 31 = .ok (.iaload, 1) := by decide +kernel
theorem dX11_build_32 : decode cX11_build 32 = .ok (.iadd, 1) := by decide +kernel
theorem dX11_build_33 : decode cX11_build 33 = .ok (.iconst 0, 1) := by decide +kernel
theorem dX11_build_34 : decode cX11_build 34 = .ok (.ldc 96, 2) := by decide +kernel
theorem dX11_build_36 : decode cX11_build 36 = .ok (.invokestatic 97, 3) := by decide +kernel
theorem dX11_build_39 : decode cX11_build 39 = .ok (.iastore, 1) := by decide +kernel
theorem dX11_build_40 : decode cX11_build 40 = .ok (.iinc 2 1, 3) := by decide +kernel
theorem dX11_build_43 : decode cX11_build 43 = .ok (.goto (-36), 3) := by decide +kernel
theorem dX11_build_46 : decode cX11_build 46 = .ok (.aload_n 0, 1) := by decide +kernel
theorem dX11_build_47 : decode cX11_build 47 = .ok (.getfield 35, 3) := by decide +kernel
theorem dX11_build_50 : decode cX11_build 50 = .ok (.iload_n 1, 1) := by decide +kernel
theorem dX11_build_51 : decode cX11_build 51 = .ok (.aload_n 0, 1) := by decide +kernel
theorem dX11_build_52 : decode cX11_build 52 = .ok (.invokevirtual 119, 3) := by decide +kernel
theorem dX11_build_55 : decode cX11_build 55 = .ok (.iconst 1, 1) := by decide +kernel
theorem dX11_build_56 : decode cX11_build 56 = .ok (.iadd, 1) := by decide +kernel
theorem dX11_build_57 : decode cX11_build 57 = .ok (.iastore, 1) := by decide +kernel
theorem dX11_build_58 : decode cX11_build 58 = .ok (.return_, 1) := by decide +kernel
theorem dX11_owes_0 : decode cX11_owes 0 = .ok (.aload_n 0, 1) := by decide +kernel
theorem dX11_owes_1 : decode cX11_owes 1 = .ok (.getfield 13, 3) := by decide +kernel
theorem dX11_owes_4 : decode cX11_owes 4 = .ok (.iload_n 1, 1) := by decide +kernel
theorem dX11_owes_5 : decode cX11_owes 5 = .ok (.iaload, 1) := by decide +kernel
theorem dX11_owes_6 : decode cX11_owes 6 = .ok (.aload_n 0, 1) := by decide +kernel
theorem dX11_owes_7 : decode cX11_owes 7 = .ok (.getfield 13, 3) := by decide +kernel
theorem dX11_owes_10 : decode cX11_owes 10 = .ok (.iload_n 1, 1) := by decide +kernel
theorem dX11_owes_11 : decode cX11_owes 11 = .ok (.iaload, 1) := by decide +kernel
theorem dX11_owes_12 : decode cX11_owes 12 = .ok (.aload_n 0, 1) := by decide +kernel
theorem dX11_owes_13 : decode cX11_owes 13 = .ok (.getfield 22, 3) := by decide +kernel
theorem dX11_owes_16 : decode cX11_owes 16 = .ok (.imul, 1) := by decide +kernel
theorem dX11_owes_17 : decode cX11_owes 17 = .ok (.bipush 100, 2) := by decide +kernel
theorem dX11_owes_19 : decode cX11_owes 19 = .ok (.idiv, 1) := by decide +kernel
theorem dX11_owes_20 : decode cX11_owes 20 = .ok (.iadd, 1) := by decide +kernel
theorem dX11_owes_21 : decode cX11_owes 21 = .ok (.istore_n 2, 1) := by decide +kernel
theorem dX11_owes_22 : decode cX11_owes 22 = .ok (.iload_n 2, 1) := by decide +kernel
theorem dX11_owes_23 : decode cX11_owes 23 = .ok (.ldc 96, 2) := by decide +kernel
theorem dX11_owes_25 : decode cX11_owes 25 = .ok (.if_icmp .le 8, 3) := by decide +kernel
theorem dX11_owes_28 : decode cX11_owes 28 = .ok (.ldc 96, 2) := by decide +kernel
theorem dX11_owes_30 : decode cX11_owes 30 = .ok (.goto 4, 3) := by decide +kernel
theorem dX11_owes_33 : decode cX11_owes 33 = .ok (.iload_n 2, 1) := by decide +kernel
theorem dX11_owes_34 : decode cX11_owes 34 = .ok (.istore_n 2, 1) := by decide +kernel
theorem dX11_owes_35 : decode cX11_owes 35 = .ok (.aload_n 0, 1) := by decide +kernel
theorem dX11_owes_36 : decode cX11_owes 36 = .ok (.getfield 16, 3) := by decide +kernel
theorem dX11_owes_39 : decode cX11_owes 39 = .ok (.iload_n 1, 1) := by decide +kernel
theorem dX11_owes_40 : decode cX11_owes 40 = .ok (.iaload, 1) := by decide +kernel
theorem dX11_owes_41 : decode cX11_owes 41 = .ok (.aload_n 0, 1) := by decide +kernel
theorem dX11_owes_42 : decode cX11_owes 42 = .ok (.getfield 7, 3) := by decide +kernel
theorem dX11_owes_45 : decode cX11_owes 45 = .ok (.iload_n 1, 1) := by decide +kernel
theorem dX11_owes_46 : decode cX11_owes 46 = .ok (.iaload, 1) := by decide +kernel
theorem dX11_owes_47 : decode cX11_owes 47 = .ok (.imul, 1) := by decide +kernel
theorem dX11_owes_48 : decode cX11_owes 48 = .ok (.istore_n 3, 1) := by decide +kernel
theorem dX11_owes_49 : decode cX11_owes 49 = .ok (.iload_n 3, 1) := by decide +kernel
theorem dX11_owes_50 : decode cX11_owes 50 = .ok (.iload_n 2, 1) := by decide +kernel
theorem dX11_owes_51 : decode cX11_owes 51 = .ok (.if_icmp .le 7, 3) := by decide +kernel
theorem dX11_owes_54 : decode cX11_owes 54 = .ok (.iload_n 2, 1) := by decide +kernel
theorem dX11_owes_55 : decode cX11_owes 55 = .ok (.goto 4, 3) := by decide +kernel
theorem dX11_owes_58 : decode cX11_owes 58 = .ok (.iload_n 3, 1) := by decide +kernel
theorem dX11_owes_59 : decode cX11_owes 59 = .ok (.istore_n 3, 1) := by decide +kernel
theorem dX11_owes_60 : decode cX11_owes 60 = .ok (.aload_n 0, 1) := by decide +kernel
theorem dX11_owes_61 : decode cX11_owes 61 = .ok (.getfield 13, 3) := by decide +kernel
theorem dX11_owes_64 : decode cX11_owes 64 = .ok (.iload_n 1, 1) := by decide +kernel
theorem dX11_owes_65 : decode cX11_owes 65 = .ok (.iload_n 2, 1) := by decide +kernel
theorem dX11_owes_66 : decode cX11_owes 66 = .ok (.iload_n 3, 1) := by decide +kernel
theorem dX11_owes_67 : decode cX11_owes 67 = .ok (.isub, 1) := by decide +kernel
theorem dX11_owes_68 : decode cX11_owes 68 = .ok (.iastore, 1) := by decide +kernel
theorem dX11_owes_69 : decode cX11_owes 69 = .ok (.aload_n 0, 1) := by decide +kernel
theorem dX11_owes_70 : decode cX11_owes 70 = .ok (.getfield 47, 3) := by decide +kernel
theorem dX11_owes_73 : decode cX11_owes 73 = .ok (.iload_n 1, 1) := by decide +kernel
theorem dX11_owes_74 : decode cX11_owes 74 = .ok (.dup2, 1) := by decide +kernel
theorem dX11_owes_75 : decode cX11_owes 75 = .ok (.iaload, 1) := by decide +kernel
theorem dX11_owes_76 : decode cX11_owes 76 = .ok (.iload_n 3, 1) := by decide +kernel
theorem dX11_owes_77 : decode cX11_owes 77 = .ok (.iadd, 1) := by decide +kernel
theorem dX11_owes_78 : decode cX11_owes 78 = .ok (.iastore, 1) := by decide +kernel
theorem dX11_owes_79 : decode cX11_owes 79 = .ok (.return_, 1) := by decide +kernel
theorem dX11_yearOn_0 : decode cX11_yearOn 0 = .ok (.aload_n 0, 1) := by decide +kernel
theorem dX11_yearOn_1 : decode cX11_yearOn 1 = .ok (.dup, 1) := by decide +kernel
theorem dX11_yearOn_2 : decode cX11_yearOn 2 = .ok (.getfield 122, 3) := by decide +kernel
theorem dX11_yearOn_5 : decode cX11_yearOn 5 = .ok (.iconst 1, 1) := by decide +kernel
theorem dX11_yearOn_6 : decode cX11_yearOn 6 = .ok (.iadd, 1) := by decide +kernel
theorem dX11_yearOn_7 : decode cX11_yearOn 7 = .ok (.putfield 122, 3) := by decide +kernel
theorem dX11_yearOn_10 : decode cX11_yearOn 10 = .ok (.iconst 0, 1) := by decide +kernel
theorem dX11_yearOn_11 : decode cX11_yearOn 11 = .ok (.istore_n 1, 1) := by decide +kernel
theorem dX11_yearOn_12 : decode cX11_yearOn 12 = .ok (.iload_n 1, 1) := by decide +kernel
theorem dX11_yearOn_13 : decode cX11_yearOn 13 = .ok (.aload_n 0, 1) := by decide +kernel
theorem dX11_yearOn_14 : decode cX11_yearOn 14 = .ok (.getfield 86, 3) := by decide +kernel
theorem dX11_yearOn_17 : decode cX11_yearOn 17 = .ok (.if_icmp .ge 81, 3) := by decide +kernel
theorem dX11_yearOn_20 : decode cX11_yearOn 20 = .ok (.aload_n 0, 1) := by decide +kernel
theorem dX11_yearOn_21 : decode cX11_yearOn 21 = .ok (.iload_n 1, 1) := by decide +kernel
theorem dX11_yearOn_22 : decode cX11_yearOn 22 = .ok (.invokevirtual 125, 3) := by decide +kernel
theorem dX11_yearOn_25 : decode cX11_yearOn 25 = .ok (.aload_n 0, 1) := by decide +kernel
theorem dX11_yearOn_26 : decode cX11_yearOn 26 = .ok (.getfield 19, 3) := by decide +kernel
theorem dX11_yearOn_29 : decode cX11_yearOn 29 = .ok (.iload_n 1, 1) := by decide +kernel
theorem dX11_yearOn_30 : decode cX11_yearOn 30 = .ok (.iaload, 1) := by decide +kernel
theorem dX11_yearOn_31 : decode cX11_yearOn 31 = .ok (.ifCond .le 61, 3) := by decide +kernel
theorem dX11_yearOn_34 : decode cX11_yearOn 34 = .ok (.aload_n 0, 1) := by decide +kernel
theorem dX11_yearOn_35 : decode cX11_yearOn 35 = .ok (.getfield 122, 3) := by decide +kernel
theorem dX11_yearOn_38 : decode cX11_yearOn 38 = .ok (.aload_n 0, 1) := by decide +kernel
theorem dX11_yearOn_39 : decode cX11_yearOn 39 = .ok (.getfield 19, 3) := by decide +kernel
theorem dX11_yearOn_42 : decode cX11_yearOn 42 = .ok (.iload_n 1, 1) := by decide +kernel
theorem dX11_yearOn_43 : decode cX11_yearOn 43 = .ok (.iaload, 1) := by decide +kernel
theorem dX11_yearOn_44 : decode cX11_yearOn 44 = .ok (.irem, 1) := by decide +kernel
theorem dX11_yearOn_45 : decode cX11_yearOn 45 = .ok (.ifCond .ne 47, 3) := by decide +kernel
theorem dX11_yearOn_48 : decode cX11_yearOn 48 = .ok (.aload_n 0, 1) := by decide +kernel
theorem dX11_yearOn_49 : decode cX11_yearOn 49 = .ok (.getfield 7, 3) := by decide +kernel
theorem dX11_yearOn_52 : decode cX11_yearOn 52 = .ok (.iload_n 1, 1) := by decide +kernel
theorem dX11_yearOn_53 : decode cX11_yearOn 53 = .ok (.iaload, 1) := by decide +kernel
theorem dX11_yearOn_54 : decode cX11_yearOn 54 = .ok (.bipush 20, 2) := by decide +kernel
theorem dX11_yearOn_56 : decode cX11_yearOn 56 = .ok (.if_icmp .ge 36, 3) := by decide +kernel
theorem dX11_yearOn_59 : decode cX11_yearOn 59 = .ok (.aload_n 0, 1) := by decide +kernel
theorem dX11_yearOn_60 : decode cX11_yearOn 60 = .ok (.getfield 7, 3) := by decide +kernel
theorem dX11_yearOn_63 : decode cX11_yearOn 63 = .ok (.iload_n 1, 1) := by decide +kernel
theorem dX11_yearOn_64 : decode cX11_yearOn 64 = .ok (.dup2, 1) := by decide +kernel
theorem dX11_yearOn_65 : decode cX11_yearOn 65 = .ok (.iaload, 1) := by decide +kernel
theorem dX11_yearOn_66 : decode cX11_yearOn 66 = .ok (.iconst 1, 1) := by decide +kernel
theorem dX11_yearOn_67 : decode cX11_yearOn 67 = .ok (.iadd, 1) := by decide +kernel
theorem dX11_yearOn_68 : decode cX11_yearOn 68 = .ok (.iastore, 1) := by decide +kernel
theorem dX11_yearOn_69 : decode cX11_yearOn 69 = .ok (.aload_n 0, 1) := by decide +kernel
theorem dX11_yearOn_70 : decode cX11_yearOn 70 = .ok (.dup, 1) := by decide +kernel
theorem dX11_yearOn_71 : decode cX11_yearOn 71 = .ok (.getfield 128, 3) := by decide +kernel
theorem dX11_yearOn_74 : decode cX11_yearOn 74 = .ok (.aload_n 0, 1) := by decide +kernel
theorem dX11_yearOn_75 : decode cX11_yearOn 75 = .ok (.getfield 13, 3) := by decide +kernel
theorem dX11_yearOn_78 : decode cX11_yearOn 78 = .ok (.iload_n 1, 1) := by decide +kernel
theorem dX11_yearOn_79 : decode cX11_yearOn 79 = .ok (.iaload, 1) := by decide +kernel
theorem dX11_yearOn_80 : decode cX11_yearOn 80 = .ok (.ifCond .ne 7, 3) := by decide +kernel
theorem dX11_yearOn_83 : decode cX11_yearOn 83 = .ok (.iconst 1, 1) := by decide +kernel
theorem dX11_yearOn_84 : decode cX11_yearOn 84 = .ok (.goto 4, 3) := by decide +kernel
theorem dX11_yearOn_87 : decode cX11_yearOn 87 = .ok (.iconst 0, 1) := by decide +kernel
theorem dX11_yearOn_88 : decode cX11_yearOn 88 = .ok (.iadd, 1) := by decide +kernel
theorem dX11_yearOn_89 : decode cX11_yearOn 89 = .ok (.putfield 128, 3) := by decide +kernel
theorem dX11_yearOn_92 : decode cX11_yearOn 92 = .ok (.iinc 1 1, 3) := by decide +kernel
theorem dX11_yearOn_95 : decode cX11_yearOn 95 = .ok (.goto (-83), 3) := by decide +kernel
theorem dX11_yearOn_98 : decode cX11_yearOn 98 = .ok (.return_, 1) := by decide +kernel
theorem dX11_goYears_0 : decode cX11_goYears 0 = .ok (.aload_n 0, 1) := by decide +kernel
theorem dX11_goYears_1 : decode cX11_goYears 1 = .ok (.iconst 0, 1) := by decide +kernel
theorem dX11_goYears_2 : decode cX11_goYears 2 = .ok (.putfield 128, 3) := by decide +kernel
theorem dX11_goYears_5 : decode cX11_goYears 5 = .ok (.iconst 0, 1) := by decide +kernel
theorem dX11_goYears_6 : decode cX11_goYears 6 = .ok (.istore_n 2, 1) := by decide +kernel
theorem dX11_goYears_7 : decode cX11_goYears 7 = .ok (.iload_n 2, 1) := by decide +kernel
theorem dX11_goYears_8 : decode cX11_goYears 8 = .ok (.iconst 5, 1) := by decide +kernel
theorem dX11_goYears_9 : decode cX11_goYears 9 = .ok (.if_icmp .ge 16, 3) := by decide +kernel
theorem dX11_goYears_12 : decode cX11_goYears 12 = .ok (.aload_n 0, 1) := by decide +kernel
theorem dX11_goYears_13 : decode cX11_goYears 13 = .ok (.getfield 47, 3) := by decide +kernel
theorem dX11_goYears_16 : decode cX11_goYears 16 = .ok (.iload_n 2, 1) := by decide +kernel
theorem dX11_goYears_17 : decode cX11_goYears 17 = .ok (.iconst 0, 1) := by decide +kernel
theorem dX11_goYears_18 : decode cX11_goYears 18 = .ok (.iastore, 1) := by decide +kernel
theorem dX11_goYears_19 : decode cX11_goYears 19 = .ok (.iinc 2 1, 3) := by decide +kernel
theorem dX11_goYears_22 : decode cX11_goYears 22 = .ok (.goto (-15), 3) := by decide +kernel
theorem dX11_goYears_25 : decode cX11_goYears 25 = .ok (.iconst 0, 1) := by decide +kernel
theorem dX11_goYears_26 : decode cX11_goYears 26 = .ok (.istore_n 2, 1) := by decide +kernel
theorem dX11_goYears_27 : decode cX11_goYears 27 = .ok (.iload_n 2, 1) := by decide +kernel
theorem dX11_goYears_28 : decode cX11_goYears 28 = .ok (.iload_n 1, 1) := by decide +kernel
theorem dX11_goYears_29 : decode cX11_goYears 29 = .ok (.if_icmp .ge 13, 3) := by decide +kernel
theorem dX11_goYears_32 : decode cX11_goYears 32 = .ok (.aload_n 0, 1) := by decide +kernel
theorem dX11_goYears_33 : decode cX11_goYears 33 = .ok (.invokevirtual 131, 3) := by decide +kernel
theorem dX11_goYears_36 : decode cX11_goYears 36 = .ok (.iinc 2 1, 3) := by decide +kernel
theorem dX11_goYears_39 : decode cX11_goYears 39 = .ok (.goto (-12), 3) := by decide +kernel
theorem dX11_goYears_42 : decode cX11_goYears 42 = .ok (.return_, 1) := by decide +kernel
theorem dX11_feed_0 : decode cX11_feed 0 = .ok (.aload_n 0, 1) := by decide +kernel
theorem dX11_feed_1 : decode cX11_feed 1 = .ok (.iconst 0, 1) := by decide +kernel
end
section
theorem dX11_feed_2 : decode cX11_feed 2 = .ok (.putfield 83, 3) := by decide +kernel
theorem dX11_feed_5 : decode cX11_feed 5 = .ok (.iload_n 1, 1) := by decide +kernel
theorem dX11_feed_6 : decode cX11_feed 6 = .ok (.ifCond .ge 10, 3) := by decide +kernel
theorem dX11_feed_9 : decode cX11_feed 9 = .ok (.aload_n 0, 1) := by decide +kernel
theorem dX11_feed_10 : decode cX11_feed 10 = .ok (.bipush (-4), 2) := by decide +kernel
theorem dX11_feed_12 : decode cX11_feed 12 = .ok (.invokevirtual 134, 3) := by decide +kernel
theorem dX11_feed_15 : decode cX11_feed 15 = .ok (.ireturn, 1) := by decide +kernel
theorem dX11_feed_16 : decode cX11_feed 16 = .ok (.iload_n 1, 1) := by decide +kernel
theorem dX11_feed_17 : decode cX11_feed 17 = .ok (.sipush 255, 3) := by decide +kernel
theorem dX11_feed_20 : decode cX11_feed 20 = .ok (.if_icmp .gt 12, 3) := by decide +kernel
theorem dX11_feed_23 : decode cX11_feed 23 = .ok (.aload_n 0, 1) := by decide +kernel
theorem dX11_feed_24 : decode cX11_feed 24 = .ok (.getfield 137, 3) := by decide +kernel
theorem dX11_feed_27 : decode cX11_feed 27 = .ok (.bipush 96, 2) := by decide +kernel
theorem dX11_feed_29 : decode cX11_feed 29 = .ok (.if_icmp .ne 10, 3) := by decide +kernel
theorem dX11_feed_32 : decode cX11_feed 32 = .ok (.aload_n 0, 1) := by decide +kernel
theorem dX11_feed_33 : decode cX11_feed 33 = .ok (.bipush (-6), 2) := by decide +kernel
theorem dX11_feed_35 : decode cX11_feed 35 = .ok (.invokevirtual 134, 3) := by decide +kernel
theorem dX11_feed_38 : decode cX11_feed 38 = .ok (.ireturn, 1) := by decide +kernel
theorem dX11_feed_39 : decode cX11_feed 39 = .ok (.aload_n 0, 1) := by decide +kernel
theorem dX11_feed_40 : decode cX11_feed 40 = .ok (.getfield 50, 3) := by decide +kernel
theorem dX11_feed_43 : decode cX11_feed 43 = .ok (.aload_n 0, 1) := by decide +kernel
theorem dX11_feed_44 : decode cX11_feed 44 = .ok (.getfield 137, 3) := by decide +kernel
theorem dX11_feed_47 : decode cX11_feed 47 = .ok (.iload_n 1, 1) := by decide +kernel
theorem dX11_feed_48 : decode cX11_feed 48 = .ok (.iastore, 1) := by decide +kernel
theorem dX11_feed_49 : decode cX11_feed 49 = .ok (.aload_n 0, 1) := by decide +kernel
theorem dX11_feed_50 : decode cX11_feed 50 = .ok (.dup, 1) := by decide +kernel
theorem dX11_feed_51 : decode cX11_feed 51 = .ok (.getfield 137, 3) := by decide +kernel
theorem dX11_feed_54 : decode cX11_feed 54 = .ok (.iconst 1, 1) := by decide +kernel
theorem dX11_feed_55 : decode cX11_feed 55 = .ok (.iadd, 1) := by decide +kernel
theorem dX11_feed_56 : decode cX11_feed 56 = .ok (.putfield 137, 3) := by decide +kernel
theorem dX11_feed_59 : decode cX11_feed 59 = .ok (.aload_n 0, 1) := by decide +kernel
theorem dX11_feed_60 : decode cX11_feed 60 = .ok (.getfield 137, 3) := by decide +kernel
theorem dX11_feed_63 : decode cX11_feed 63 = .ok (.ireturn, 1) := by decide +kernel
theorem dX11_here_0 : decode cX11_here 0 = .ok (.aload_n 0, 1) := by decide +kernel
theorem dX11_here_1 : decode cX11_here 1 = .ok (.getfield 140, 3) := by decide +kernel
theorem dX11_here_4 : decode cX11_here 4 = .ok (.aload_n 0, 1) := by decide +kernel
theorem dX11_here_5 : decode cX11_here 5 = .ok (.getfield 137, 3) := by decide +kernel
theorem dX11_here_8 : decode cX11_here 8 = .ok (.if_icmp .ge 15, 3) := by decide +kernel
theorem dX11_here_11 : decode cX11_here 11 = .ok (.aload_n 0, 1) := by decide +kernel
theorem dX11_here_12 : decode cX11_here 12 = .ok (.getfield 50, 3) := by decide +kernel
theorem dX11_here_15 : decode cX11_here 15 = .ok (.aload_n 0, 1) := by decide +kernel
theorem dX11_here_16 : decode cX11_here 16 = .ok (.getfield 140, 3) := by decide +kernel
theorem dX11_here_19 : decode cX11_here 19 = .ok (.iaload, 1) := by decide +kernel
theorem dX11_here_20 : decode cX11_here 20 = .ok (.goto 4, 3) := by decide +kernel
theorem dX11_here_23 : decode cX11_here 23 = .ok (.iconst (-1), 1) := by decide +kernel
theorem dX11_here_24 : decode cX11_here 24 = .ok (.ireturn, 1) := by decide +kernel
theorem dX11_readDigits_0 : decode cX11_readDigits 0 = .ok (.iconst 0, 1) := by decide +kernel
theorem dX11_readDigits_1 : decode cX11_readDigits 1 = .ok (.istore_n 2, 1) := by decide +kernel
theorem dX11_readDigits_2 : decode cX11_readDigits 2 = .ok (.iconst 0, 1) := by decide +kernel
theorem dX11_readDigits_3 : decode cX11_readDigits 3 = .ok (.istore_n 3, 1) := by decide +kernel
theorem dX11_readDigits_4 : decode cX11_readDigits 4 = .ok (.iload_n 3, 1) := by decide +kernel
theorem dX11_readDigits_5 : decode cX11_readDigits 5 = .ok (.iload_n 1, 1) := by decide +kernel
theorem dX11_readDigits_6 : decode cX11_readDigits 6 = .ok (.if_icmp .ge 92, 3) := by decide +kernel
theorem dX11_readDigits_9 : decode cX11_readDigits 9 = .ok (.aload_n 0, 1) := by decide +kernel
theorem dX11_readDigits_10 : decode cX11_readDigits 10 = .ok (.aload_n 0, 1) := by decide +kernel
theorem dX11_readDigits_11 : decode cX11_readDigits 11 = .ok (.getfield 143, 3) := by decide +kernel
theorem dX11_readDigits_14 : decode cX11_readDigits 14 = .ok (.ifCond .ne 20, 3) := by decide +kernel
theorem dX11_readDigits_17 : decode cX11_readDigits 17 = .ok (.aload_n 0, 1) := by decide +kernel
theorem dX11_readDigits_18 : decode cX11_readDigits 18 = .ok (.invokevirtual 147, 3) := by decide +kernel
theorem dX11_readDigits_21 : decode cX11_readDigits 21 = .ok (.i2l, 1) := by decide +kernel
theorem dX11_readDigits_22 : decode cX11_readDigits 22 = .ok (.ldc2_w 150, 3) := by decide +kernel
theorem dX11_readDigits_25 : decode cX11_readDigits 25 = .ok (.ldc2_w 152, 3) := by decide +kernel
theorem dX11_readDigits_28 : decode cX11_readDigits 28 = .ok (.invokestatic 89, 3) := by decide +kernel
theorem dX11_readDigits_31 : decode cX11_readDigits 31 = .ok (.ifCond .ne 7, 3) := by decide +kernel
theorem dX11_readDigits_34 : decode cX11_readDigits 34 = .ok (.iconst 1, 1) := by decide +kernel
theorem dX11_readDigits_35 : decode cX11_readDigits 35 = .ok (.goto 4, 3) := by decide +kernel
theorem dX11_readDigits_38 : decode cX11_readDigits 38 = .ok (.iconst 0, 1) := by decide +kernel
theorem dX11_readDigits_39 : decode cX11_readDigits 39 = .ok (.putfield 143, 3) := by decide +kernel
theorem dX11_readDigits_42 : decode cX11_readDigits 42 = .ok (.aload_n 0, 1) := by decide +kernel
theorem dX11_readDigits_43 : decode cX11_readDigits 43 = .ok (.getfield 143, 3) := by decide +kernel
theorem dX11_readDigits_46 : decode cX11_readDigits 46 = .ok (.ifCond .eq 7, 3) := by decide +kernel
theorem dX11_readDigits_49 : decode cX11_readDigits 49 = .ok (.iconst 0, 1) := by decide +kernel
theorem dX11_readDigits_50 : decode cX11_readDigits 50 = .ok (.goto 20, 3) := by decide +kernel
theorem dX11_readDigits_53 : decode cX11_readDigits 53 = .ok (.bipush 10, 2) := by decide +kernel
theorem dX11_readDigits_55 : decode cX11_readDigits 55 = .ok (.iload_n 2, 1) := by decide +kernel
theorem dX11_readDigits_56 : decode cX11_readDigits 56 = .ok (.imul, 1) := by decide +kernel
theorem dX11_readDigits_57 : decode cX11_readDigits 57 = .ok (.aload_n 0, 1) := by decide +kernel
theorem dX11_readDigits_58 : decode cX11_readDigits 58 = .ok (.getfield 50, 3) := by decide +kernel
theorem dX11_readDigits_61 : decode cX11_readDigits 61 = .ok (.aload_n 0, 1) := by decide +kernel
theorem dX11_readDigits_62 : decode cX11_readDigits 62 = .ok (.getfield 140, 3) := by decide +kernel
theorem dX11_readDigits_65 : decode cX11_readDigits 65 = .ok (.iaload, 1) := by decide +kernel
theorem dX11_readDigits_66 : decode cX11_readDigits 66 = .ok (.iadd, 1) := by decide +kernel
theorem dX11_readDigits_67 : decode cX11_readDigits 67 = .ok (.bipush 48, 2) := by decide +kernel
theorem dX11_readDigits_69 : decode cX11_readDigits 69 = .ok (.isub, 1) := by decide +kernel
theorem dX11_readDigits_70 : decode cX11_readDigits 70 = .ok (.istore_n 2, 1) := by decide +kernel
theorem dX11_readDigits_71 : decode cX11_readDigits 71 = .ok (.aload_n 0, 1) := by decide +kernel
theorem dX11_readDigits_72 : decode cX11_readDigits 72 = .ok (.dup, 1) := by decide +kernel
theorem dX11_readDigits_73 : decode cX11_readDigits 73 = .ok (.getfield 140, 3) := by decide +kernel
theorem dX11_readDigits_76 : decode cX11_readDigits 76 = .ok (.aload_n 0, 1) := by decide +kernel
theorem dX11_readDigits_77 : decode cX11_readDigits 77 = .ok (.getfield 143, 3) := by decide +kernel
theorem dX11_readDigits_80 : decode cX11_readDigits 80 = .ok (.ifCond .eq 7, 3) := by decide +kernel
theorem dX11_readDigits_83 : decode cX11_readDigits 83 = .ok (.iconst 0, 1) := by decide +kernel
theorem dX11_readDigits_84 : decode cX11_readDigits 84 = .ok (.goto 4, 3) := by decide +kernel
theorem dX11_readDigits_87 : decode cX11_readDigits 87 = .ok (.iconst 1, 1) := by decide +kernel
theorem dX11_readDigits_88 : decode cX11_readDigits 88 = .ok (.iadd, 1) := by decide +kernel
theorem dX11_readDigits_89 : decode cX11_readDigits 89 = .ok (.putfield 140, 3) := by decide +kernel
theorem dX11_readDigits_92 : decode cX11_readDigits 92 = .ok (.iinc 3 1, 3) := by decide +kernel
theorem dX11_readDigits_95 : decode cX11_readDigits 95 = .ok (.goto (-91), 3) := by decide +kernel
theorem dX11_readDigits_98 : decode cX11_readDigits 98 = .ok (.iload_n 2, 1) := by decide +kernel
theorem dX11_readDigits_99 : decode cX11_readDigits 99 = .ok (.ireturn, 1) := by decide +kernel
theorem dX11_isLetter_0 : decode cX11_isLetter 0 = .ok (.iload_n 0, 1) := by decide +kernel
theorem dX11_isLetter_1 : decode cX11_isLetter 1 = .ok (.bipush 102, 2) := by decide +kernel
theorem dX11_isLetter_3 : decode cX11_isLetter 3 = .ok (.if_icmp .eq 33, 3) := by decide +kernel
theorem dX11_isLetter_6 : decode cX11_isLetter 6 = .ok (.iload_n 0, 1) := by decide +kernel
theorem dX11_isLetter_7 : decode cX11_isLetter 7 = .ok (.bipush 119, 2) := by decide +kernel
theorem dX11_isLetter_9 : decode cX11_isLetter 9 = .ok (.if_icmp .eq 27, 3) := by decide +kernel
theorem dX11_isLetter_12 : decode cX11_isLetter 12 = .ok (.iload_n 0, 1) := by decide +kernel
theorem dX11_isLetter_13 : decode cX11_isLetter 13 = .ok (.bipush 98, 2) := by decide +kernel
theorem dX11_isLetter_15 : decode cX11_isLetter 15 = .ok (.if_icmp .eq 21, 3) := by decide +kernel
theorem dX11_isLetter_18 : decode cX11_isLetter 18 = .ok (.iload_n 0, 1) := by decide +kernel
theorem dX11_isLetter_19 : decode cX11_isLetter 19 = .ok (.bipush 114, 2) := by decide +kernel
theorem dX11_isLetter_21 : decode cX11_isLetter 21 = .ok (.if_icmp .eq 15, 3) := by decide +kernel
theorem dX11_isLetter_24 : decode cX11_isLetter 24 = .ok (.iload_n 0, 1) := by decide +kernel
theorem dX11_isLetter_25 : decode cX11_isLetter 25 = .ok (.bipush 121, 2) := by decide +kernel
theorem dX11_isLetter_27 : decode cX11_isLetter 27 = .ok (.if_icmp .eq 9, 3) := by decide +kernel
theorem dX11_isLetter_30 : decode cX11_isLetter 30 = .ok (.iload_n 0, 1) := by decide +kernel
theorem dX11_isLetter_31 : decode cX11_isLetter 31 = .ok (.bipush 100, 2) := by decide +kernel
theorem dX11_isLetter_33 : decode cX11_isLetter 33 = .ok (.if_icmp .ne 7, 3) := by decide +kernel
theorem dX11_isLetter_36 : decode cX11_isLetter 36 = .ok (.iconst 1, 1) := by decide +kernel
theorem dX11_isLetter_37 : decode cX11_isLetter 37 = .ok (.goto 4, 3) := by decide +kernel
theorem dX11_isLetter_40 : decode cX11_isLetter 40 = .ok (.iconst 0, 1) := by decide +kernel
theorem dX11_isLetter_41 : decode cX11_isLetter 41 = .ok (.ireturn, 1) := by decide +kernel
theorem dX11_readNumbers_0 : decode cX11_readNumbers 0 = .ok (.iload_n 1, 1) := by decide +kernel
theorem dX11_readNumbers_1 : decode cX11_readNumbers 1 = .ok (.lookupswitch 164 #[(98, 150), (100, 123), (102, 43), (119, 83)], 43) := by decide +kernel
theorem dX11_readNumbers_44 : decode cX11_readNumbers 44 = .ok (.aload_n 0, 1) := by decide +kernel
theorem dX11_readNumbers_45 : decode cX11_readNumbers 45 = .ok (.getfield 59, 3) := by decide +kernel
theorem dX11_readNumbers_48 : decode cX11_readNumbers 48 = .ok (.iload_n 2, 1) := by decide +kernel
theorem dX11_readNumbers_49 : decode cX11_readNumbers 49 = .ok (.aload_n 0, 1) := by decide +kernel
theorem dX11_readNumbers_50 : decode cX11_readNumbers 50 = .ok (.iconst 2, 1) := by decide +kernel
theorem dX11_readNumbers_51 : decode cX11_readNumbers 51 = .ok (.invokevirtual 154, 3) := by decide +kernel
theorem dX11_readNumbers_54 : decode cX11_readNumbers 54 = .ok (.iastore, 1) := by decide +kernel
theorem dX11_readNumbers_55 : decode cX11_readNumbers 55 = .ok (.aload_n 0, 1) := by decide +kernel
theorem dX11_readNumbers_56 : decode cX11_readNumbers 56 = .ok (.getfield 59, 3) := by decide +kernel
theorem dX11_readNumbers_59 : decode cX11_readNumbers 59 = .ok (.iload_n 2, 1) := by decide +kernel
theorem dX11_readNumbers_60 : decode cX11_readNumbers 60 = .ok (.iconst 1, 1) := by decide +kernel
theorem dX11_readNumbers_61 : decode cX11_readNumbers 61 = .ok (.iadd, 1) := by decide +kernel
theorem dX11_readNumbers_62 : decode cX11_readNumbers 62 = .ok (.aload_n 0, 1) := by decide +kernel
theorem dX11_readNumbers_63 : decode cX11_readNumbers 63 = .ok (.iconst 1, 1) := by decide +kernel
theorem dX11_readNumbers_64 : decode cX11_readNumbers 64 = .ok (.invokevirtual 154, 3) := by decide +kernel
theorem dX11_readNumbers_67 : decode cX11_readNumbers 67 = .ok (.iastore, 1) := by decide +kernel
theorem dX11_readNumbers_68 : decode cX11_readNumbers 68 = .ok (.aload_n 0, 1) := by decide +kernel
theorem dX11_readNumbers_69 : decode cX11_readNumbers 69 = .ok (.getfield 59, 3) := by decide +kernel
theorem dX11_readNumbers_72 : decode cX11_readNumbers 72 = .ok (.iload_n 2, 1) := by decide +kernel
theorem dX11_readNumbers_73 : decode cX11_readNumbers 73 = .ok (.iconst 2, 1) := by decide +kernel
theorem dX11_readNumbers_74 : decode cX11_readNumbers 74 = .ok (.iadd, 1) := by decide +kernel
theorem dX11_readNumbers_75 : decode cX11_readNumbers 75 = .ok (.aload_n 0, 1) := by decide +kernel
theorem dX11_readNumbers_76 : decode cX11_readNumbers 76 = .ok (.iconst 1, 1) := by decide +kernel
theorem dX11_readNumbers_77 : decode cX11_readNumbers 77 = .ok (.invokevirtual 154, 3) := by decide +kernel
theorem dX11_readNumbers_80 : decode cX11_readNumbers 80 = .ok (.iastore, 1) := by decide +kernel
theorem dX11_readNumbers_81 : decode cX11_readNumbers 81 = .ok (.goto 95, 3) := by decide +kernel
theorem dX11_readNumbers_84 : decode cX11_readNumbers 84 = .ok (.aload_n 0, 1) := by decide +kernel
theorem dX11_readNumbers_85 : decode cX11_readNumbers 85 = .ok (.getfield 59, 3) := by decide +kernel
theorem dX11_readNumbers_88 : decode cX11_readNumbers 88 = .ok (.iload_n 2, 1) := by decide +kernel
theorem dX11_readNumbers_89 : decode cX11_readNumbers 89 = .ok (.aload_n 0, 1) := by decide +kernel
theorem dX11_readNumbers_90 : decode cX11_readNumbers 90 = .ok (.iconst 1, 1) := by decide +kernel
theorem dX11_readNumbers_91 : decode cX11_readNumbers 91 = .ok (.invokevirtual 154, 3) := by decide +kernel
theorem dX11_readNumbers_94 : decode cX11_readNumbers 94 = .ok (.iastore, 1) := by decide +kernel
theorem dX11_readNumbers_95 : decode cX11_readNumbers 95 = .ok (.aload_n 0, 1) := by decide +kernel
theorem dX11_readNumbers_96 : decode cX11_readNumbers 96 = .ok (.getfield 59, 3) := by decide +kernel
theorem dX11_readNumbers_99 : decode cX11_readNumbers 99 = .ok (.iload_n 2, 1) := by decide +kernel
theorem dX11_readNumbers_100 : decode cX11_readNumbers 100 = .ok (.iconst 1, 1) := by decide +kernel
theorem dX11_readNumbers_101 : decode cX11_readNumbers 101 = .ok (.iadd, 1) := by decide +kernel
theorem dX11_readNumbers_102 : decode cX11_readNumbers 102 = .ok (.aload_n 0, 1) := by decide +kernel
theorem dX11_readNumbers_103 : decode cX11_readNumbers 103 = .ok (.iconst 1, 1) := by decide +kernel
theorem dX11_readNumbers_104 : decode cX11_readNumbers 104 = .ok (.invokevirtual 154, 3) := by decide +kernel
theorem dX11_readNumbers_107 : decode cX11_readNumbers 107 = .ok (.iastore, 1) := by decide +kernel
theorem dX11_readNumbers_108 : decode cX11_readNumbers 108 = .ok (.aload_n 0, 1) := by decide +kernel
theorem dX11_readNumbers_109 : decode cX11_readNumbers 109 = .ok (.getfield 59, 3) := by decide +kernel
theorem dX11_readNumbers_112 : decode cX11_readNumbers 112 = .ok (.iload_n 2, 1) := by decide +kernel
theorem dX11_readNumbers_113 : decode cX11_readNumbers 113 = .ok (.iconst 2, 1) := by decide +kernel
theorem dX11_readNumbers_114 : decode cX11_readNumbers 114 = .ok (.iadd, 1) := by decide +kernel
theorem dX11_readNumbers_115 : decode cX11_readNumbers 115 = .ok (.aload_n 0, 1) := by decide +kernel
theorem dX11_readNumbers_116 : decode cX11_readNumbers 116 = .ok (.iconst 3, 1) := by decide +kernel
theorem dX11_readNumbers_117 : decode cX11_readNumbers 117 = .ok (.invokevirtual 154, 3) := by decide +kernel
theorem dX11_readNumbers_120 : decode cX11_readNumbers 120 = .ok (.iastore, 1) := by decide +kernel
theorem dX11_readNumbers_121 : decode cX11_readNumbers 121 = .ok (.goto 55, 3) := by decide +kernel
theorem dX11_readNumbers_124 : decode cX11_readNumbers 124 = .ok (.aload_n 0, 1) := by decide +kernel
theorem dX11_readNumbers_125 : decode cX11_readNumbers 125 = .ok (.getfield 59, 3) := by decide +kernel
theorem dX11_readNumbers_128 : decode cX11_readNumbers 128 = .ok (.iload_n 2, 1) := by decide +kernel
theorem dX11_readNumbers_129 : decode cX11_readNumbers 129 = .ok (.aload_n 0, 1) := by decide +kernel
theorem dX11_readNumbers_130 : decode cX11_readNumbers 130 = .ok (.iconst 1, 1) := by decide +kernel
theorem dX11_readNumbers_131 : decode cX11_readNumbers 131 = .ok (.invokevirtual 154, 3) := by decide +kernel
theorem dX11_readNumbers_134 : decode cX11_readNumbers 134 = .ok (.iastore, 1) := by decide +kernel
theorem dX11_readNumbers_135 : decode cX11_readNumbers 135 = .ok (.aload_n 0, 1) := by decide +kernel
theorem dX11_readNumbers_136 : decode cX11_readNumbers 136 = .ok (.getfield 59, 3) := by decide +kernel
theorem dX11_readNumbers_139 : decode cX11_readNumbers 139 = .ok (.iload_n 2, 1) := by decide +kernel
theorem dX11_readNumbers_140 : decode cX11_readNumbers 140 = .ok (.iconst 1, 1) := by decide +kernel
theorem dX11_readNumbers_141 : decode cX11_readNumbers 141 = .ok (.iadd, 1) := by decide +kernel
theorem dX11_readNumbers_142 : decode cX11_readNumbers 142 = .ok (.aload_n 0, 1) := by decide +kernel
theorem dX11_readNumbers_143 : decode cX11_readNumbers 143 = .ok (.iconst 5, 1) := by decide +kernel
theorem dX11_readNumbers_144 : decode cX11_readNumbers 144 = .ok (.invokevirtual 154, 3) := by decide +kernel
theorem dX11_readNumbers_147 : decode cX11_readNumbers 147 = .ok (.iastore, 1) := by decide +kernel
theorem dX11_readNumbers_148 : decode cX11_readNumbers 148 = .ok (.goto 28, 3) := by decide +kernel
theorem dX11_readNumbers_151 : decode cX11_readNumbers 151 = .ok (.aload_n 0, 1) := by decide +kernel
theorem dX11_readNumbers_152 : decode cX11_readNumbers 152 = .ok (.getfield 59, 3) := by decide +kernel
theorem dX11_readNumbers_155 : decode cX11_readNumbers 155 = .ok (.iload_n 2, 1) := by decide +kernel
theorem dX11_readNumbers_156 : decode cX11_readNumbers 156 = .ok (.aload_n 0, 1) := by decide +kernel
theorem dX11_readNumbers_157 : decode cX11_readNumbers 157 = .ok (.iconst 1, 1) := by decide +kernel
theorem dX11_readNumbers_158 : decode cX11_readNumbers 158 = .ok (.invokevirtual 154, 3) := by decide +kernel
theorem dX11_readNumbers_161 : decode cX11_readNumbers 161 = .ok (.iastore, 1) := by decide +kernel
theorem dX11_readNumbers_162 : decode cX11_readNumbers 162 = .ok (.goto 14, 3) := by decide +kernel
theorem dX11_readNumbers_165 : decode cX11_readNumbers 165 = .ok (.aload_n 0, 1) := by decide +kernel
theorem dX11_readNumbers_166 : decode cX11_readNumbers 166 = .ok (.getfield 59, 3) := by decide +kernel
theorem dX11_readNumbers_169 : decode cX11_readNumbers 169 = .ok (.iload_n 2, 1) := by decide +kernel
theorem dX11_readNumbers_170 : decode cX11_readNumbers 170 = .ok (.aload_n 0, 1) := by decide +kernel
theorem dX11_readNumbers_171 : decode cX11_readNumbers 171 = .ok (.iconst 2, 1) := by decide +kernel
theorem dX11_readNumbers_172 : decode cX11_readNumbers 172 = .ok (.invokevirtual 154, 3) := by decide +kernel
theorem dX11_readNumbers_175 : decode cX11_readNumbers 175 = .ok (.iastore, 1) := by decide +kernel
theorem dX11_readNumbers_176 : decode cX11_readNumbers 176 = .ok (.return_, 1) := by decide +kernel
theorem dX11_readStatement_0 : decode cX11_readStatement 0 = .ok (.aload_n 0, 1) := by decide +kernel
theorem dX11_readStatement_1 : decode cX11_readStatement 1 = .ok (.getfield 157, 3) := by decide +kernel
theorem dX11_readStatement_4 : decode cX11_readStatement 4 = .ok (.istore_n 1, 1) := by decide +kernel
theorem dX11_readStatement_5 : decode cX11_readStatement 5 = .ok (.aload_n 0, 1) := by decide +kernel
theorem dX11_readStatement_6 : decode cX11_readStatement 6 = .ok (.invokevirtual 147, 3) := by decide +kernel
theorem dX11_readStatement_9 : decode cX11_readStatement 9 = .ok (.istore_n 2, 1) := by decide +kernel
theorem dX11_readStatement_10 : decode cX11_readStatement 10 = .ok (.aload_n 0, 1) := by decide +kernel
theorem dX11_readStatement_11 : decode cX11_readStatement 11 = .ok (.getfield 53, 3) := by decide +kernel
theorem dX11_readStatement_14 : decode cX11_readStatement 14 = .ok (.iload_n 1, 1) := by decide +kernel
theorem dX11_readStatement_15 : decode cX11_readStatement 15 = .ok (.aload_n 0, 1) := by decide +kernel
theorem dX11_readStatement_16 : decode cX11_readStatement 16 = .ok (.getfield 140, 3) := by decide +kernel
theorem dX11_readStatement_19 : decode cX11_readStatement 19 = .ok (.iastore, 1) := by decide +kernel
theorem dX11_readStatement_20 : decode cX11_readStatement 20 = .ok (.aload_n 0, 1) := by decide +kernel
theorem dX11_readStatement_21 : decode cX11_readStatement 21 = .ok (.getfield 56, 3) := by decide +kernel
theorem dX11_readStatement_24 : decode cX11_readStatement 24 = .ok (.iload_n 1, 1) := by decide +kernel
theorem dX11_readStatement_25 : decode cX11_readStatement 25 = .ok (.iload_n 2, 1) := by decide +kernel
theorem dX11_readStatement_26 : decode cX11_readStatement 26 = .ok (.iastore, 1) := by decide +kernel
theorem dX11_readStatement_27 : decode cX11_readStatement 27 = .ok (.aload_n 0, 1) := by decide +kernel
theorem dX11_readStatement_28 : decode cX11_readStatement 28 = .ok (.aload_n 0, 1) := by decide +kernel
theorem dX11_readStatement_29 : decode cX11_readStatement 29 = .ok (.getfield 143, 3) := by decide +kernel
theorem dX11_readStatement_32 : decode cX11_readStatement 32 = .ok (.ifCond .ne 10, 3) := by decide +kernel
theorem dX11_readStatement_35 : decode cX11_readStatement 35 = .ok (.iload_n 2, 1) := by decide +kernel
theorem dX11_readStatement_36 : decode cX11_readStatement 36 = .ok (.invokestatic 160, 3) := by decide +kernel
theorem dX11_readStatement_39 : decode cX11_readStatement 39 = .ok (.ifCond .ne 7, 3) := by decide +kernel
theorem dX11_readStatement_42 : decode cX11_readStatement 42 = .ok (.iconst 1, 1) := by decide +kernel
theorem dX11_readStatement_43 : decode cX11_readStatement 43 = .ok (.goto 4, 3) := by decide +kernel
theorem dX11_readStatement_46 : decode cX11_readStatement 46 = .ok (.iconst 0, 1) := by decide +kernel
theorem dX11_readStatement_47 : decode cX11_readStatement 47 = .ok (.putfield 143, 3) := by decide +kernel
theorem dX11_readStatement_50 : decode cX11_readStatement 50 = .ok (.aload_n 0, 1) := by decide +kernel
theorem dX11_readStatement_51 : decode cX11_readStatement 51 = .ok (.dup, 1) := by decide +kernel
theorem dX11_readStatement_52 : decode cX11_readStatement 52 = .ok (.getfield 140, 3) := by decide +kernel
theorem dX11_readStatement_55 : decode cX11_readStatement 55 = .ok (.aload_n 0, 1) := by decide +kernel
theorem dX11_readStatement_56 : decode cX11_readStatement 56 = .ok (.getfield 143, 3) := by decide +kernel
theorem dX11_readStatement_59 : decode cX11_readStatement 59 = .ok (.ifCond .eq 7, 3) := by decide +kernel
theorem dX11_readStatement_62 : decode cX11_readStatement 62 = .ok (.iconst 0, 1) := by decide +kernel
theorem dX11_readStatement_63 : decode cX11_readStatement 63 = .ok (.goto 4, 3) := by decide +kernel
theorem dX11_readStatement_66 : decode cX11_readStatement 66 = .ok (.iconst 1, 1) := by decide +kernel
theorem dX11_readStatement_67 : decode cX11_readStatement 67 = .ok (.iadd, 1) := by decide +kernel
theorem dX11_readStatement_68 : decode cX11_readStatement 68 = .ok (.putfield 140, 3) := by decide +kernel
theorem dX11_readStatement_71 : decode cX11_readStatement 71 = .ok (.aload_n 0, 1) := by decide +kernel
theorem dX11_readStatement_72 : decode cX11_readStatement 72 = .ok (.getfield 143, 3) := by decide +kernel
theorem dX11_readStatement_75 : decode cX11_readStatement 75 = .ok (.ifCond .ne 11, 3) := by decide +kernel
theorem dX11_readStatement_78 : decode cX11_readStatement 78 = .ok (.aload_n 0, 1) := by decide +kernel
theorem dX11_readStatement_79 : decode cX11_readStatement 79 = .ok (.iload_n 2, 1) := by decide +kernel
theorem dX11_readStatement_80 : decode cX11_readStatement 80 = .ok (.iconst 3, 1) := by decide +kernel
theorem dX11_readStatement_81 : decode cX11_readStatement 81 = .ok (.iload_n 1, 1) := by decide +kernel
theorem dX11_readStatement_82 : decode cX11_readStatement 82 = .ok (.imul, 1) := by decide +kernel
theorem dX11_readStatement_83 : decode cX11_readStatement 83 = .ok (.invokevirtual 164, 3) := by decide +kernel
theorem dX11_readStatement_86 : decode cX11_readStatement 86 = .ok (.aload_n 0, 1) := by decide +kernel
theorem dX11_readStatement_87 : decode cX11_readStatement 87 = .ok (.aload_n 0, 1) := by decide +kernel
theorem dX11_readStatement_88 : decode cX11_readStatement 88 = .ok (.getfield 143, 3) := by decide +kernel
theorem dX11_readStatement_91 : decode cX11_readStatement 91 = .ok (.ifCond .ne 12, 3) := by decide +kernel
theorem dX11_readStatement_94 : decode cX11_readStatement 94 = .ok (.aload_n 0, 1) := by decide +kernel
theorem dX11_readStatement_95 : decode cX11_readStatement 95 = .ok (.invokevirtual 147, 3) := by decide +kernel
theorem dX11_readStatement_98 : decode cX11_readStatement 98 = .ok (.bipush 59, 2) := by decide +kernel
theorem dX11_readStatement_100 : decode cX11_readStatement 100 = .ok (.if_icmp .eq 7, 3) := by decide +kernel
theorem dX11_readStatement_103 : decode cX11_readStatement 103 = .ok (.iconst 1, 1) := by decide +kernel
theorem dX11_readStatement_104 : decode cX11_readStatement 104 = .ok (.goto 4, 3) := by decide +kernel
theorem dX11_readStatement_107 : decode cX11_readStatement 107 = .ok (.iconst 0, 1) := by decide +kernel
theorem dX11_readStatement_108 : decode cX11_readStatement 108 = .ok (.putfield 143, 3) := by decide +kernel
theorem dX11_readStatement_111 : decode cX11_readStatement 111 = .ok (.aload_n 0, 1) := by decide +kernel
theorem dX11_readStatement_112 : decode cX11_readStatement 112 = .ok (.dup, 1) := by decide +kernel
theorem dX11_readStatement_113 : decode cX11_readStatement 113 = .ok (.getfield 140, 3) := by decide +kernel
theorem dX11_readStatement_116 : decode cX11_readStatement 116 = .ok (.aload_n 0, 1) := by decide +kernel
theorem dX11_readStatement_117 : decode cX11_readStatement 117 = .ok (.getfield 143, 3) := by decide +kernel
theorem dX11_readStatement_120 : decode cX11_readStatement 120 = .ok (.ifCond .eq 7, 3) := by decide +kernel
theorem dX11_readStatement_123 : decode cX11_readStatement 123 = .ok (.iconst 0, 1) := by decide +kernel
theorem dX11_readStatement_124 : decode cX11_readStatement 124 = .ok (.goto 4, 3) := by decide +kernel
theorem dX11_readStatement_127 : decode cX11_readStatement 127 = .ok (.iconst 1, 1) := by decide +kernel
theorem dX11_readStatement_128 : decode cX11_readStatement 128 = .ok (.iadd, 1) := by decide +kernel
theorem dX11_readStatement_129 : decode cX11_readStatement 129 = .ok (.putfield 140, 3) := by decide +kernel
theorem dX11_readStatement_132 : decode cX11_readStatement 132 = .ok (.aload_n 0, 1) := by decide +kernel
theorem dX11_readStatement_133 : decode cX11_readStatement 133 = .ok (.dup, 1) := by decide +kernel
theorem dX11_readStatement_134 : decode cX11_readStatement 134 = .ok (.getfield 157, 3) := by decide +kernel
theorem dX11_readStatement_137 : decode cX11_readStatement 137 = .ok (.iconst 1, 1) := by decide +kernel
theorem dX11_readStatement_138 : decode cX11_readStatement 138 = .ok (.iadd, 1) := by decide +kernel
theorem dX11_readStatement_139 : decode cX11_readStatement 139 = .ok (.putfield 157, 3) := by decide +kernel
theorem dX11_readStatement_142 : decode cX11_readStatement 142 = .ok (.return_, 1) := by decide +kernel
theorem dX11_familyComes_0 : decode cX11_familyComes 0 = .ok (.aload_n 0, 1) := by decide +kernel
theorem dX11_familyComes_1 : decode cX11_familyComes 1 = .ok (.getfield 7, 3) := by decide +kernel
theorem dX11_familyComes_4 : decode cX11_familyComes 4 = .ok (.aload_n 0, 1) := by decide +kernel
theorem dX11_familyComes_5 : decode cX11_familyComes 5 = .ok (.getfield 86, 3) := by decide +kernel
theorem dX11_familyComes_8 : decode cX11_familyComes 8 = .ok (.iload_n 1, 1) := by decide +kernel
theorem dX11_familyComes_9 : decode cX11_familyComes 9 = .ok (.iastore, 1) := by decide +kernel
theorem dX11_familyComes_10 : decode cX11_familyComes 10 = .ok (.aload_n 0, 1) := by decide +kernel
theorem dX11_familyComes_11 : decode cX11_familyComes 11 = .ok (.getfield 13, 3) := by decide +kernel
theorem dX11_familyComes_14 : decode cX11_familyComes 14 = .ok (.aload_n 0, 1) := by decide +kernel
theorem dX11_familyComes_15 : decode cX11_familyComes 15 = .ok (.getfield 86, 3) := by decide +kernel
theorem dX11_familyComes_18 : decode cX11_familyComes 18 = .ok (.iconst 0, 1) := by decide +kernel
theorem dX11_familyComes_19 : decode cX11_familyComes 19 = .ok (.iastore, 1) := by decide +kernel
theorem dX11_familyComes_20 : decode cX11_familyComes 20 = .ok (.aload_n 0, 1) := by decide +kernel
theorem dX11_familyComes_21 : decode cX11_familyComes 21 = .ok (.getfield 16, 3) := by decide +kernel
theorem dX11_familyComes_24 : decode cX11_familyComes 24 = .ok (.aload_n 0, 1) := by decide +kernel
theorem dX11_familyComes_25 : decode cX11_familyComes 25 = .ok (.getfield 86, 3) := by decide +kernel
theorem dX11_familyComes_28 : decode cX11_familyComes 28 = .ok (.iload_n 2, 1) := by decide +kernel
theorem dX11_familyComes_29 : decode cX11_familyComes 29 = .ok (.iastore, 1) := by decide +kernel
theorem dX11_familyComes_30 : decode cX11_familyComes 30 = .ok (.aload_n 0, 1) := by decide +kernel
theorem dX11_familyComes_31 : decode cX11_familyComes 31 = .ok (.getfield 19, 3) := by decide +kernel
theorem dX11_familyComes_34 : decode cX11_familyComes 34 = .ok (.aload_n 0, 1) := by decide +kernel
theorem dX11_familyComes_35 : decode cX11_familyComes 35 = .ok (.getfield 86, 3) := by decide +kernel
theorem dX11_familyComes_38 : decode cX11_familyComes 38 = .ok (.iload_n 3, 1) := by decide +kernel
theorem dX11_familyComes_39 : decode cX11_familyComes 39 = .ok (.iastore, 1) := by decide +kernel
theorem dX11_familyComes_40 : decode cX11_familyComes 40 = .ok (.aload_n 0, 1) := by decide +kernel
theorem dX11_familyComes_41 : decode cX11_familyComes 41 = .ok (.dup, 1) := by decide +kernel
theorem dX11_familyComes_42 : decode cX11_familyComes 42 = .ok (.getfield 86, 3) := by decide +kernel
theorem dX11_familyComes_45 : decode cX11_familyComes 45 = .ok (.iconst 1, 1) := by decide +kernel
theorem dX11_familyComes_46 : decode cX11_familyComes 46 = .ok (.iadd, 1) := by decide +kernel
theorem dX11_familyComes_47 : decode cX11_familyComes 47 = .ok (.putfield 86, 3) := by decide +kernel
theorem dX11_familyComes_50 : decode cX11_familyComes 50 = .ok (.return_, 1) := by decide +kernel
theorem dX11_workComes_0 : decode cX11_workComes 0 = .ok (.aload_n 0, 1) := by decide +kernel
theorem dX11_workComes_1 : decode cX11_workComes 1 = .ok (.getfield 26, 3) := by decide +kernel
theorem dX11_workComes_4 : decode cX11_workComes 4 = .ok (.aload_n 0, 1) := by decide +kernel
theorem dX11_workComes_5 : decode cX11_workComes 5 = .ok (.getfield 93, 3) := by decide +kernel
theorem dX11_workComes_8 : decode cX11_workComes 8 = .ok (.iload_n 1, 1) := by decide +kernel
theorem dX11_workComes_9 : decode cX11_workComes 9 = .ok (.iastore, 1) := by decide +kernel
theorem dX11_workComes_10 : decode cX11_workComes 10 = .ok (.aload_n 0, 1) := by decide +kernel
theorem dX11_workComes_11 : decode cX11_workComes 11 = .ok (.getfield 29, 3) := by decide +kernel
theorem dX11_workComes_14 : decode cX11_workComes 14 = .ok (.aload_n 0, 1) := by decide +kernel
theorem dX11_workComes_15 : decode cX11_workComes 15 = .ok (.getfield 93, 3) := by decide +kernel
theorem dX11_workComes_18 : decode cX11_workComes 18 = .ok (.iload_n 2, 1) := by decide +kernel
theorem dX11_workComes_19 : decode cX11_workComes 19 = .ok (.iastore, 1) := by decide +kernel
theorem dX11_workComes_20 : decode cX11_workComes 20 = .ok (.aload_n 0, 1) := by decide +kernel
theorem dX11_workComes_21 : decode cX11_workComes 21 = .ok (.getfield 32, 3) := by decide +kernel
theorem dX11_workComes_24 : decode cX11_workComes 24 = .ok (.aload_n 0, 1) := by decide +kernel
theorem dX11_workComes_25 : decode cX11_workComes 25 = .ok (.getfield 93, 3) := by decide +kernel
theorem dX11_workComes_28 : decode cX11_workComes 28 = .ok (.iload_n 3, 1) := by decide +kernel
theorem dX11_workComes_29 : decode cX11_workComes 29 = .ok (.iastore, 1) := by decide +kernel
theorem dX11_workComes_30 : decode cX11_workComes 30 = .ok (.aload_n 0, 1) := by decide +kernel
theorem dX11_workComes_31 : decode cX11_workComes 31 = .ok (.getfield 35, 3) := by decide +kernel
theorem dX11_workComes_34 : decode cX11_workComes 34 = .ok (.aload_n 0, 1) := by decide +kernel
theorem dX11_workComes_35 : decode cX11_workComes 35 = .ok (.getfield 93, 3) := by decide +kernel
theorem dX11_workComes_38 : decode cX11_workComes 38 = .ok (.iconst 0, 1) := by decide +kernel
theorem dX11_workComes_39 : decode cX11_workComes 39 = .ok (.iastore, 1) := by decide +kernel
theorem dX11_workComes_40 : decode cX11_workComes 40 = .ok (.aload_n 0, 1) := by decide +kernel
theorem dX11_workComes_41 : decode cX11_workComes 41 = .ok (.dup, 1) := by decide +kernel
theorem dX11_workComes_42 : decode cX11_workComes 42 = .ok (.getfield 93, 3) := by decide +kernel
theorem dX11_workComes_45 : decode cX11_workComes 45 = .ok (.iconst 1, 1) := by decide +kernel
theorem dX11_workComes_46 : decode cX11_workComes 46 = .ok (.iadd, 1) := by decide +kernel
theorem dX11_workComes_47 : decode cX11_workComes 47 = .ok (.putfield 93, 3) := by decide +kernel
theorem dX11_workComes_50 : decode cX11_workComes 50 = .ok (.return_, 1) := by decide +kernel
theorem dX11_comesTold_0 : decode cX11_comesTold 0 = .ok (.aload_n 0, 1) := by decide +kernel
theorem dX11_comesTold_1 : decode cX11_comesTold 1 = .ok (.getfield 59, 3) := by decide +kernel
theorem dX11_comesTold_4 : decode cX11_comesTold 4 = .ok (.iconst 3, 1) := by decide +kernel
theorem dX11_comesTold_5 : decode cX11_comesTold 5 = .ok (.iload_n 1, 1) := by decide +kernel
theorem dX11_comesTold_6 : decode cX11_comesTold 6 = .ok (.imul, 1) := by decide +kernel
theorem dX11_comesTold_7 : decode cX11_comesTold 7 = .ok (.iaload, 1) := by decide +kernel
theorem dX11_comesTold_8 : decode cX11_comesTold 8 = .ok (.istore_n 2, 1) := by decide +kernel
theorem dX11_comesTold_9 : decode cX11_comesTold 9 = .ok (.aload_n 0, 1) := by decide +kernel
theorem dX11_comesTold_10 : decode cX11_comesTold 10 = .ok (.getfield 59, 3) := by decide +kernel
theorem dX11_comesTold_13 : decode cX11_comesTold 13 = .ok (.iconst 3, 1) := by decide +kernel
theorem dX11_comesTold_14 : decode cX11_comesTold 14 = .ok (.iload_n 1, 1) := by decide +kernel
theorem dX11_comesTold_15 : decode cX11_comesTold 15 = .ok (.imul, 1) := by decide +kernel
theorem dX11_comesTold_16 : decode cX11_comesTold 16 = .ok (.iconst 1, 1) := by decide +kernel
theorem dX11_comesTold_17 : decode cX11_comesTold 17 = .ok (.iadd, 1) := by decide +kernel
theorem dX11_comesTold_18 : decode cX11_comesTold 18 = .ok (.iaload, 1) := by decide +kernel
theorem dX11_comesTold_19 : decode cX11_comesTold 19 = .ok (.istore_n 3, 1) := by decide +kernel
theorem dX11_comesTold_20 : decode cX11_comesTold 20 = .ok (.aload_n 0, 1) := by decide +kernel
theorem dX11_comesTold_21 : decode cX11_comesTold 21 = .ok (.getfield 59, 3) := by decide +kernel
theorem dX11_comesTold_24 : decode cX11_comesTold 24 = .ok (.iconst 3, 1) := by decide +kernel
theorem dX11_comesTold_25 : decode cX11_comesTold 25 = .ok (.iload_n 1, 1) := by decide +kernel
theorem dX11_comesTold_26 : decode cX11_comesTold 26 = .ok (.imul, 1) := by decide +kernel
theorem dX11_comesTold_27 : decode cX11_comesTold 27 = .ok (.iconst 2, 1) := by decide +kernel
theorem dX11_comesTold_28 : decode cX11_comesTold 28 = .ok (.iadd, 1) := by decide +kernel
theorem dX11_comesTold_29 : decode cX11_comesTold 29 = .ok (.iaload, 1) := by decide +kernel
theorem dX11_comesTold_30 : decode cX11_comesTold 30 = .ok (.istore 4, 2) := by decide +kernel
theorem dX11_comesTold_32 : decode cX11_comesTold 32 = .ok (.iconst 1, 1) := by decide +kernel
theorem dX11_comesTold_33 : decode cX11_comesTold 33 = .ok (.istore 5, 2) := by decide +kernel
theorem dX11_comesTold_35 : decode cX11_comesTold 35 = .ok (.aload_n 0, 1) := by decide +kernel
theorem dX11_comesTold_36 : decode cX11_comesTold 36 = .ok (.getfield 56, 3) := by decide +kernel
theorem dX11_comesTold_39 : decode cX11_comesTold 39 = .ok (.iload_n 1, 1) := by decide +kernel
theorem dX11_comesTold_40 : decode cX11_comesTold 40 = .ok (.iaload, 1) := by decide +kernel
theorem dX11_comesTold_41 : decode cX11_comesTold 41 = .ok (.lookupswitch 235 #[(98, 137), (102, 51), (114, 174), (119, 94), (121, 191)], 51) := by decide +kernel
theorem dX11_comesTold_92 : decode cX11_comesTold 92 = .ok (.iload_n 2, 1) := by decide +kernel
theorem dX11_comesTold_93 : decode cX11_comesTold 93 = .ok (.i2l, 1) := by decide +kernel
theorem dX11_comesTold_94 : decode cX11_comesTold 94 = .ok (.lconst 1, 1) := by decide +kernel
theorem dX11_comesTold_95 : decode cX11_comesTold 95 = .ok (.ldc2_w 168, 3) := by decide +kernel
theorem dX11_comesTold_98 : decode cX11_comesTold 98 = .ok (.invokestatic 89, 3) := by decide +kernel
theorem dX11_comesTold_101 : decode cX11_comesTold 101 = .ok (.ifCond .eq 15, 3) := by decide +kernel
theorem dX11_comesTold_104 : decode cX11_comesTold 104 = .ok (.aload_n 0, 1) := by decide +kernel
theorem dX11_comesTold_105 : decode cX11_comesTold 105 = .ok (.getfield 86, 3) := by decide +kernel
theorem dX11_comesTold_108 : decode cX11_comesTold 108 = .ok (.iconst 5, 1) := by decide +kernel
theorem dX11_comesTold_109 : decode cX11_comesTold 109 = .ok (.if_icmp .ge 7, 3) := by decide +kernel
theorem dX11_comesTold_112 : decode cX11_comesTold 112 = .ok (.iconst 1, 1) := by decide +kernel
theorem dX11_comesTold_113 : decode cX11_comesTold 113 = .ok (.goto 4, 3) := by decide +kernel
theorem dX11_comesTold_116 : decode cX11_comesTold 116 = .ok (.iconst 0, 1) := by decide +kernel
theorem dX11_comesTold_117 : decode cX11_comesTold 117 = .ok (.istore 5, 2) := by decide +kernel
theorem dX11_comesTold_119 : decode cX11_comesTold 119 = .ok (.iload 5, 2) := by decide +kernel
theorem dX11_comesTold_121 : decode cX11_comesTold 121 = .ok (.ifCond .eq 11, 3) := by decide +kernel
theorem dX11_comesTold_124 : decode cX11_comesTold 124 = .ok (.aload_n 0, 1) := by decide +kernel
theorem dX11_comesTold_125 : decode cX11_comesTold 125 = .ok (.iload_n 2, 1) := by decide +kernel
theorem dX11_comesTold_126 : decode cX11_comesTold 126 = .ok (.iload_n 3, 1) := by decide +kernel
theorem dX11_comesTold_127 : decode cX11_comesTold 127 = .ok (.iload 4, 2) := by decide +kernel
theorem dX11_comesTold_129 : decode cX11_comesTold 129 = .ok (.invokevirtual 170, 3) := by decide +kernel
theorem dX11_comesTold_132 : decode cX11_comesTold 132 = .ok (.iload 5, 2) := by decide +kernel
theorem dX11_comesTold_134 : decode cX11_comesTold 134 = .ok (.ireturn, 1) := by decide +kernel
theorem dX11_comesTold_135 : decode cX11_comesTold 135 = .ok (.iload_n 2, 1) := by decide +kernel
theorem dX11_comesTold_136 : decode cX11_comesTold 136 = .ok (.bipush 6, 2) := by decide +kernel
theorem dX11_comesTold_138 : decode cX11_comesTold 138 = .ok (.if_icmp .ge 21, 3) := by decide +kernel
theorem dX11_comesTold_141 : decode cX11_comesTold 141 = .ok (.iload 4, 2) := by decide +kernel
theorem dX11_comesTold_143 : decode cX11_comesTold 143 = .ok (.ifCond .le 16, 3) := by decide +kernel
theorem dX11_comesTold_146 : decode cX11_comesTold 146 = .ok (.aload_n 0, 1) := by decide +kernel
theorem dX11_comesTold_147 : decode cX11_comesTold 147 = .ok (.getfield 93, 3) := by decide +kernel
theorem dX11_comesTold_150 : decode cX11_comesTold 150 = .ok (.bipush 6, 2) := by decide +kernel
theorem dX11_comesTold_152 : decode cX11_comesTold 152 = .ok (.if_icmp .ge 7, 3) := by decide +kernel
theorem dX11_comesTold_155 : decode cX11_comesTold 155 = .ok (.iconst 1, 1) := by decide +kernel
theorem dX11_comesTold_156 : decode cX11_comesTold 156 = .ok (.goto 4, 3) := by decide +kernel
theorem dX11_comesTold_159 : decode cX11_comesTold 159 = .ok (.iconst 0, 1) := by decide +kernel
theorem dX11_comesTold_160 : decode cX11_comesTold 160 = .ok (.istore 5, 2) := by decide +kernel
theorem dX11_comesTold_162 : decode cX11_comesTold 162 = .ok (.iload 5, 2) := by decide +kernel
theorem dX11_comesTold_164 : decode cX11_comesTold 164 = .ok (.ifCond .eq 11, 3) := by decide +kernel
theorem dX11_comesTold_167 : decode cX11_comesTold 167 = .ok (.aload_n 0, 1) := by decide +kernel
theorem dX11_comesTold_168 : decode cX11_comesTold 168 = .ok (.iload_n 2, 1) := by decide +kernel
theorem dX11_comesTold_169 : decode cX11_comesTold 169 = .ok (.iload_n 3, 1) := by decide +kernel
theorem dX11_comesTold_170 : decode cX11_comesTold 170 = .ok (.iload 4, 2) := by decide +kernel
theorem dX11_comesTold_172 : decode cX11_comesTold 172 = .ok (.invokevirtual 174, 3) := by decide +kernel
theorem dX11_comesTold_175 : decode cX11_comesTold 175 = .ok (.iload 5, 2) := by decide +kernel
theorem dX11_comesTold_177 : decode cX11_comesTold 177 = .ok (.ireturn, 1) := by decide +kernel
theorem dX11_comesTold_178 : decode cX11_comesTold 178 = .ok (.aload_n 0, 1) := by decide +kernel
theorem dX11_comesTold_179 : decode cX11_comesTold 179 = .ok (.iload_n 2, 1) := by decide +kernel
theorem dX11_comesTold_180 : decode cX11_comesTold 180 = .ok (.invokevirtual 177, 3) := by decide +kernel
theorem dX11_comesTold_183 : decode cX11_comesTold 183 = .ok (.ifCond .eq 16, 3) := by decide +kernel
theorem dX11_comesTold_186 : decode cX11_comesTold 186 = .ok (.aload_n 0, 1) := by decide +kernel
theorem dX11_comesTold_187 : decode cX11_comesTold 187 = .ok (.getfield 35, 3) := by decide +kernel
theorem dX11_comesTold_190 : decode cX11_comesTold 190 = .ok (.iload_n 2, 1) := by decide +kernel
theorem dX11_comesTold_191 : decode cX11_comesTold 191 = .ok (.iaload, 1) := by decide +kernel
theorem dX11_comesTold_192 : decode cX11_comesTold 192 = .ok (.ifCond .ne 7, 3) := by decide +kernel
theorem dX11_comesTold_195 : decode cX11_comesTold 195 = .ok (.iconst 1, 1) := by decide +kernel
theorem dX11_comesTold_196 : decode cX11_comesTold 196 = .ok (.goto 4, 3) := by decide +kernel
theorem dX11_comesTold_199 : decode cX11_comesTold 199 = .ok (.iconst 0, 1) := by decide +kernel
theorem dX11_comesTold_200 : decode cX11_comesTold 200 = .ok (.istore 5, 2) := by decide +kernel
theorem dX11_comesTold_202 : decode cX11_comesTold 202 = .ok (.iload 5, 2) := by decide +kernel
theorem dX11_comesTold_204 : decode cX11_comesTold 204 = .ok (.ifCond .eq 8, 3) := by decide +kernel
theorem dX11_comesTold_207 : decode cX11_comesTold 207 = .ok (.aload_n 0, 1) := by decide +kernel
theorem dX11_comesTold_208 : decode cX11_comesTold 208 = .ok (.iload_n 2, 1) := by decide +kernel
theorem dX11_comesTold_209 : decode cX11_comesTold 209 = .ok (.invokevirtual 180, 3) := by decide +kernel
theorem dX11_comesTold_212 : decode cX11_comesTold 212 = .ok (.iload 5, 2) := by decide +kernel
theorem dX11_comesTold_214 : decode cX11_comesTold 214 = .ok (.ireturn, 1) := by decide +kernel
theorem dX11_comesTold_215 : decode cX11_comesTold 215 = .ok (.aload_n 0, 1) := by decide +kernel
theorem dX11_comesTold_216 : decode cX11_comesTold 216 = .ok (.iload_n 2, 1) := by decide +kernel
theorem dX11_comesTold_217 : decode cX11_comesTold 217 = .ok (.putfield 22, 3) := by decide +kernel
theorem dX11_comesTold_220 : decode cX11_comesTold 220 = .ok (.iload_n 2, 1) := by decide +kernel
theorem dX11_comesTold_221 : decode cX11_comesTold 221 = .ok (.bipush 20, 2) := by decide +kernel
theorem dX11_comesTold_223 : decode cX11_comesTold 223 = .ok (.if_icmp .gt 7, 3) := by decide +kernel
theorem dX11_comesTold_226 : decode cX11_comesTold 226 = .ok (.iconst 1, 1) := by decide +kernel
theorem dX11_comesTold_227 : decode cX11_comesTold 227 = .ok (.goto 4, 3) := by decide +kernel
theorem dX11_comesTold_230 : decode cX11_comesTold 230 = .ok (.iconst 0, 1) := by decide +kernel
theorem dX11_comesTold_231 : decode cX11_comesTold 231 = .ok (.ireturn, 1) := by decide +kernel
theorem dX11_comesTold_232 : decode cX11_comesTold 232 = .ok (.iload_n 2, 1) := by decide +kernel
theorem dX11_comesTold_233 : decode cX11_comesTold 233 = .ok (.i2l, 1) := by decide +kernel
theorem dX11_comesTold_234 : decode cX11_comesTold 234 = .ok (.lconst 1, 1) := by decide +kernel
theorem dX11_comesTold_235 : decode cX11_comesTold 235 = .ok (.ldc2_w 183, 3) := by decide +kernel
theorem dX11_comesTold_238 : decode cX11_comesTold 238 = .ok (.invokestatic 89, 3) := by decide +kernel
theorem dX11_comesTold_241 : decode cX11_comesTold 241 = .ok (.ifCond .eq 19, 3) := by decide +kernel
theorem dX11_comesTold_244 : decode cX11_comesTold 244 = .ok (.aload_n 0, 1) := by decide +kernel
theorem dX11_comesTold_245 : decode cX11_comesTold 245 = .ok (.getfield 122, 3) := by decide +kernel
theorem dX11_comesTold_248 : decode cX11_comesTold 248 = .ok (.iload_n 2, 1) := by decide +kernel
theorem dX11_comesTold_249 : decode cX11_comesTold 249 = .ok (.iadd, 1) := by decide +kernel
theorem dX11_comesTold_250 : decode cX11_comesTold 250 = .ok (.sipush 999, 3) := by decide +kernel
theorem dX11_comesTold_253 : decode cX11_comesTold 253 = .ok (.if_icmp .gt 7, 3) := by decide +kernel
theorem dX11_comesTold_256 : decode cX11_comesTold 256 = .ok (.iconst 1, 1) := by decide +kernel
theorem dX11_comesTold_257 : decode cX11_comesTold 257 = .ok (.goto 4, 3) := by decide +kernel
theorem dX11_comesTold_260 : decode cX11_comesTold 260 = .ok (.iconst 0, 1) := by decide +kernel
theorem dX11_comesTold_261 : decode cX11_comesTold 261 = .ok (.istore 5, 2) := by decide +kernel
theorem dX11_comesTold_263 : decode cX11_comesTold 263 = .ok (.iload 5, 2) := by decide +kernel
theorem dX11_comesTold_265 : decode cX11_comesTold 265 = .ok (.ifCond .eq 8, 3) := by decide +kernel
theorem dX11_comesTold_268 : decode cX11_comesTold 268 = .ok (.aload_n 0, 1) := by decide +kernel
theorem dX11_comesTold_269 : decode cX11_comesTold 269 = .ok (.iload_n 2, 1) := by decide +kernel
theorem dX11_comesTold_270 : decode cX11_comesTold 270 = .ok (.invokevirtual 185, 3) := by decide +kernel
theorem dX11_comesTold_273 : decode cX11_comesTold 273 = .ok (.iload 5, 2) := by decide +kernel
theorem dX11_comesTold_275 : decode cX11_comesTold 275 = .ok (.ireturn, 1) := by decide +kernel
theorem dX11_comesTold_276 : decode cX11_comesTold 276 = .ok (.aload_n 0, 1) := by decide +kernel
theorem dX11_comesTold_277 : decode cX11_comesTold 277 = .ok (.iload_n 2, 1) := by decide +kernel
theorem dX11_comesTold_278 : decode cX11_comesTold 278 = .ok (.invokevirtual 188, 3) := by decide +kernel
theorem dX11_comesTold_281 : decode cX11_comesTold 281 = .ok (.istore 5, 2) := by decide +kernel
theorem dX11_comesTold_283 : decode cX11_comesTold 283 = .ok (.iload 5, 2) := by decide +kernel
theorem dX11_comesTold_285 : decode cX11_comesTold 285 = .ok (.ifCond .eq 10, 3) := by decide +kernel
theorem dX11_comesTold_288 : decode cX11_comesTold 288 = .ok (.aload_n 0, 1) := by decide +kernel
theorem dX11_comesTold_289 : decode cX11_comesTold 289 = .ok (.getfield 13, 3) := by decide +kernel
theorem dX11_comesTold_292 : decode cX11_comesTold 292 = .ok (.iload_n 2, 1) := by decide +kernel
theorem dX11_comesTold_293 : decode cX11_comesTold 293 = .ok (.iload_n 3, 1) := by decide +kernel
theorem dX11_comesTold_294 : decode cX11_comesTold 294 = .ok (.iastore, 1) := by decide +kernel
theorem dX11_comesTold_295 : decode cX11_comesTold 295 = .ok (.iload 5, 2) := by decide +kernel
theorem dX11_comesTold_297 : decode cX11_comesTold 297 = .ok (.ireturn, 1) := by decide +kernel
theorem dX11_treasury_0 : decode cX11_treasury 0 = .ok (.aload_n 0, 1) := by decide +kernel
theorem dX11_treasury_1 : decode cX11_treasury 1 = .ok (.iconst 0, 1) := by decide +kernel
theorem dX11_treasury_2 : decode cX11_treasury 2 = .ok (.putfield 83, 3) := by decide +kernel
theorem dX11_treasury_5 : decode cX11_treasury 5 = .ok (.aload_n 0, 1) := by decide +kernel
theorem dX11_treasury_6 : decode cX11_treasury 6 = .ok (.iconst 0, 1) := by decide +kernel
theorem dX11_treasury_7 : decode cX11_treasury 7 = .ok (.putfield 140, 3) := by decide +kernel
theorem dX11_treasury_10 : decode cX11_treasury 10 = .ok (.aload_n 0, 1) := by decide +kernel
theorem dX11_treasury_11 : decode cX11_treasury 11 = .ok (.iconst 0, 1) := by decide +kernel
theorem dX11_treasury_12 : decode cX11_treasury 12 = .ok (.putfield 143, 3) := by decide +kernel
theorem dX11_treasury_15 : decode cX11_treasury 15 = .ok (.aload_n 0, 1) := by decide +kernel
theorem dX11_treasury_16 : decode cX11_treasury 16 = .ok (.iconst 0, 1) := by decide +kernel
theorem dX11_treasury_17 : decode cX11_treasury 17 = .ok (.putfield 157, 3) := by decide +kernel
theorem dX11_treasury_20 : decode cX11_treasury 20 = .ok (.aload_n 0, 1) := by decide +kernel
theorem dX11_treasury_21 : decode cX11_treasury 21 = .ok (.getfield 143, 3) := by decide +kernel
theorem dX11_treasury_24 : decode cX11_treasury 24 = .ok (.ifCond .ne 28, 3) := by decide +kernel
theorem dX11_treasury_27 : decode cX11_treasury 27 = .ok (.aload_n 0, 1) := by decide +kernel
theorem dX11_treasury_28 : decode cX11_treasury 28 = .ok (.getfield 157, 3) := by decide +kernel
theorem dX11_treasury_31 : decode cX11_treasury 31 = .ok (.ifCond .eq 14, 3) := by decide +kernel
theorem dX11_treasury_34 : decode cX11_treasury 34 = .ok (.aload_n 0, 1) := by decide +kernel
theorem dX11_treasury_35 : decode cX11_treasury 35 = .ok (.getfield 140, 3) := by decide +kernel
theorem dX11_treasury_38 : decode cX11_treasury 38 = .ok (.aload_n 0, 1) := by decide +kernel
theorem dX11_treasury_39 : decode cX11_treasury 39 = .ok (.getfield 137, 3) := by decide +kernel
theorem dX11_treasury_42 : decode cX11_treasury 42 = .ok (.if_icmp .ge 10, 3) := by decide +kernel
theorem dX11_treasury_45 : decode cX11_treasury 45 = .ok (.aload_n 0, 1) := by decide +kernel
theorem dX11_treasury_46 : decode cX11_treasury 46 = .ok (.invokevirtual 191, 3) := by decide +kernel
theorem dX11_treasury_49 : decode cX11_treasury 49 = .ok (.goto (-29), 3) := by decide +kernel
theorem dX11_treasury_52 : decode cX11_treasury 52 = .ok (.aload_n 0, 1) := by decide +kernel
theorem dX11_treasury_53 : decode cX11_treasury 53 = .ok (.iconst 0, 1) := by decide +kernel
theorem dX11_treasury_54 : decode cX11_treasury 54 = .ok (.putfield 137, 3) := by decide +kernel
theorem dX11_treasury_57 : decode cX11_treasury 57 = .ok (.aload_n 0, 1) := by decide +kernel
theorem dX11_treasury_58 : decode cX11_treasury 58 = .ok (.getfield 143, 3) := by decide +kernel
theorem dX11_treasury_61 : decode cX11_treasury 61 = .ok (.ifCond .eq 12, 3) := by decide +kernel
theorem dX11_treasury_64 : decode cX11_treasury 64 = .ok (.sipush (-1000), 3) := by decide +kernel
theorem dX11_treasury_67 : decode cX11_treasury 67 = .ok (.aload_n 0, 1) := by decide +kernel
theorem dX11_treasury_68 : decode cX11_treasury 68 = .ok (.getfield 140, 3) := by decide +kernel
theorem dX11_treasury_71 : decode cX11_treasury 71 = .ok (.isub, 1) := by decide +kernel
theorem dX11_treasury_72 : decode cX11_treasury 72 = .ok (.ireturn, 1) := by decide +kernel
theorem dX11_treasury_73 : decode cX11_treasury 73 = .ok (.aload_n 0, 1) := by decide +kernel
theorem dX11_treasury_74 : decode cX11_treasury 74 = .ok (.invokevirtual 194, 3) := by decide +kernel
theorem dX11_treasury_77 : decode cX11_treasury 77 = .ok (.iconst 0, 1) := by decide +kernel
theorem dX11_treasury_78 : decode cX11_treasury 78 = .ok (.istore_n 1, 1) := by decide +kernel
theorem dX11_treasury_79 : decode cX11_treasury 79 = .ok (.iload_n 1, 1) := by decide +kernel
theorem dX11_treasury_80 : decode cX11_treasury 80 = .ok (.aload_n 0, 1) := by decide +kernel
theorem dX11_treasury_81 : decode cX11_treasury 81 = .ok (.getfield 157, 3) := by decide +kernel
theorem dX11_treasury_84 : decode cX11_treasury 84 = .ok (.if_icmp .ge 32, 3) := by decide +kernel
theorem dX11_treasury_87 : decode cX11_treasury 87 = .ok (.aload_n 0, 1) := by decide +kernel
theorem dX11_treasury_88 : decode cX11_treasury 88 = .ok (.iload_n 1, 1) := by decide +kernel
theorem dX11_treasury_89 : decode cX11_treasury 89 = .ok (.invokevirtual 197, 3) := by decide +kernel
theorem dX11_treasury_92 : decode cX11_treasury 92 = .ok (.ifCond .ne 18, 3) := by decide +kernel
theorem dX11_treasury_95 : decode cX11_treasury 95 = .ok (.aload_n 0, 1) := by decide +kernel
theorem dX11_treasury_96 : decode cX11_treasury 96 = .ok (.invokevirtual 200, 3) := by decide +kernel
theorem dX11_treasury_99 : decode cX11_treasury 99 = .ok (.sipush (-2000), 3) := by decide +kernel
theorem dX11_treasury_102 : decode cX11_treasury 102 = .ok (.aload_n 0, 1) := by decide +kernel
theorem dX11_treasury_103 : decode cX11_treasury 103 = .ok (.getfield 53, 3) := by decide +kernel
theorem dX11_treasury_106 : decode cX11_treasury 106 = .ok (.iload_n 1, 1) := by decide +kernel
theorem dX11_treasury_107 : decode cX11_treasury 107 = .ok (.iaload, 1) := by decide +kernel
theorem dX11_treasury_108 : decode cX11_treasury 108 = .ok (.isub, 1) := by decide +kernel
theorem dX11_treasury_109 : decode cX11_treasury 109 = .ok (.ireturn, 1) := by decide +kernel
theorem dX11_treasury_110 : decode cX11_treasury 110 = .ok (.iinc 1 1, 3) := by decide +kernel
theorem dX11_treasury_113 : decode cX11_treasury 113 = .ok (.goto (-34), 3) := by decide +kernel
theorem dX11_treasury_116 : decode cX11_treasury 116 = .ok (.aload_n 0, 1) := by decide +kernel
theorem dX11_treasury_117 : decode cX11_treasury 117 = .ok (.iconst 0, 1) := by decide +kernel
theorem dX11_treasury_118 : decode cX11_treasury 118 = .ok (.putfield 203, 3) := by decide +kernel
theorem dX11_treasury_121 : decode cX11_treasury 121 = .ok (.aload_n 0, 1) := by decide +kernel
theorem dX11_treasury_122 : decode cX11_treasury 122 = .ok (.getfield 157, 3) := by decide +kernel
theorem dX11_treasury_125 : decode cX11_treasury 125 = .ok (.ireturn, 1) := by decide +kernel
theorem dX11_carry_0 : decode cX11_carry 0 = .ok (.aload_n 0, 1) := by decide +kernel
theorem dX11_carry_1 : decode cX11_carry 1 = .ok (.getfield 206, 3) := by decide +kernel
theorem dX11_carry_4 : decode cX11_carry 4 = .ok (.ifCond .eq 13, 3) := by decide +kernel
theorem dX11_carry_7 : decode cX11_carry 7 = .ok (.aload_n 0, 1) := by decide +kernel
theorem dX11_carry_8 : decode cX11_carry 8 = .ok (.getfield 209, 3) := by decide +kernel
theorem dX11_carry_11 : decode cX11_carry 11 = .ok (.aload_n 0, 1) := by decide +kernel
theorem dX11_carry_12 : decode cX11_carry 12 = .ok (.getfield 212, 3) := by decide +kernel
theorem dX11_carry_15 : decode cX11_carry 15 = .ok (.iload_n 1, 1) := by decide +kernel
theorem dX11_carry_16 : decode cX11_carry 16 = .ok (.iastore, 1) := by decide +kernel
theorem dX11_carry_17 : decode cX11_carry 17 = .ok (.aload_n 0, 1) := by decide +kernel
theorem dX11_carry_18 : decode cX11_carry 18 = .ok (.dup, 1) := by decide +kernel
theorem dX11_carry_19 : decode cX11_carry 19 = .ok (.getfield 212, 3) := by decide +kernel
theorem dX11_carry_22 : decode cX11_carry 22 = .ok (.iconst 1, 1) := by decide +kernel
theorem dX11_carry_23 : decode cX11_carry 23 = .ok (.iadd, 1) := by decide +kernel
theorem dX11_carry_24 : decode cX11_carry 24 = .ok (.putfield 212, 3) := by decide +kernel
theorem dX11_carry_27 : decode cX11_carry 27 = .ok (.aload_n 0, 1) := by decide +kernel
theorem dX11_carry_28 : decode cX11_carry 28 = .ok (.getfield 209, 3) := by decide +kernel
theorem dX11_carry_31 : decode cX11_carry 31 = .ok (.aload_n 0, 1) := by decide +kernel
theorem dX11_carry_32 : decode cX11_carry 32 = .ok (.getfield 212, 3) := by decide +kernel
theorem dX11_carry_35 : decode cX11_carry 35 = .ok (.iconst 1, 1) := by decide +kernel
theorem dX11_carry_36 : decode cX11_carry 36 = .ok (.isub, 1) := by decide +kernel
theorem dX11_carry_37 : decode cX11_carry 37 = .ok (.iaload, 1) := by decide +kernel
theorem dX11_carry_38 : decode cX11_carry 38 = .ok (.ireturn, 1) := by decide +kernel
theorem dX11_carryAll_0 : decode cX11_carryAll 0 = .ok (.aload_n 0, 1) := by decide +kernel
theorem dX11_carryAll_1 : decode cX11_carryAll 1 = .ok (.aload_n 1, 1) := by decide +kernel
theorem dX11_carryAll_2 : decode cX11_carryAll 2 = .ok (.putfield 209, 3) := by decide +kernel
theorem dX11_carryAll_5 : decode cX11_carryAll 5 = .ok (.aload_n 0, 1) := by decide +kernel
theorem dX11_carryAll_6 : decode cX11_carryAll 6 = .ok (.iload_n 2, 1) := by decide +kernel
theorem dX11_carryAll_7 : decode cX11_carryAll 7 = .ok (.putfield 206, 3) := by decide +kernel
theorem dX11_carryAll_10 : decode cX11_carryAll 10 = .ok (.aload_n 0, 1) := by decide +kernel
theorem dX11_carryAll_11 : decode cX11_carryAll 11 = .ok (.iconst 0, 1) := by decide +kernel
theorem dX11_carryAll_12 : decode cX11_carryAll 12 = .ok (.putfield 212, 3) := by decide +kernel
theorem dX11_carryAll_15 : decode cX11_carryAll 15 = .ok (.aload_n 0, 1) := by decide +kernel
theorem dX11_carryAll_16 : decode cX11_carryAll 16 = .ok (.aload_n 0, 1) := by decide +kernel
theorem dX11_carryAll_17 : decode cX11_carryAll 17 = .ok (.aload_n 0, 1) := by decide +kernel
theorem dX11_carryAll_18 : decode cX11_carryAll 18 = .ok (.getfield 86, 3) := by decide +kernel
theorem dX11_carryAll_21 : decode cX11_carryAll 21 = .ok (.invokevirtual 215, 3) := by decide +kernel
theorem dX11_carryAll_24 : decode cX11_carryAll 24 = .ok (.putfield 86, 3) := by decide +kernel
theorem dX11_carryAll_27 : decode cX11_carryAll 27 = .ok (.aload_n 0, 1) := by decide +kernel
theorem dX11_carryAll_28 : decode cX11_carryAll 28 = .ok (.aload_n 0, 1) := by decide +kernel
theorem dX11_carryAll_29 : decode cX11_carryAll 29 = .ok (.aload_n 0, 1) := by decide +kernel
theorem dX11_carryAll_30 : decode cX11_carryAll 30 = .ok (.getfield 93, 3) := by decide +kernel
theorem dX11_carryAll_33 : decode cX11_carryAll 33 = .ok (.invokevirtual 215, 3) := by decide +kernel
theorem dX11_carryAll_36 : decode cX11_carryAll 36 = .ok (.putfield 93, 3) := by decide +kernel
theorem dX11_carryAll_39 : decode cX11_carryAll 39 = .ok (.aload_n 0, 1) := by decide +kernel
theorem dX11_carryAll_40 : decode cX11_carryAll 40 = .ok (.aload_n 0, 1) := by decide +kernel
theorem dX11_carryAll_41 : decode cX11_carryAll 41 = .ok (.aload_n 0, 1) := by decide +kernel
theorem dX11_carryAll_42 : decode cX11_carryAll 42 = .ok (.getfield 22, 3) := by decide +kernel
theorem dX11_carryAll_45 : decode cX11_carryAll 45 = .ok (.invokevirtual 215, 3) := by decide +kernel
theorem dX11_carryAll_48 : decode cX11_carryAll 48 = .ok (.putfield 22, 3) := by decide +kernel
theorem dX11_carryAll_51 : decode cX11_carryAll 51 = .ok (.aload_n 0, 1) := by decide +kernel
theorem dX11_carryAll_52 : decode cX11_carryAll 52 = .ok (.aload_n 0, 1) := by decide +kernel
theorem dX11_carryAll_53 : decode cX11_carryAll 53 = .ok (.aload_n 0, 1) := by decide +kernel
theorem dX11_carryAll_54 : decode cX11_carryAll 54 = .ok (.getfield 122, 3) := by decide +kernel
theorem dX11_carryAll_57 : decode cX11_carryAll 57 = .ok (.invokevirtual 215, 3) := by decide +kernel
theorem dX11_carryAll_60 : decode cX11_carryAll 60 = .ok (.putfield 122, 3) := by decide +kernel
theorem dX11_carryAll_63 : decode cX11_carryAll 63 = .ok (.iconst 0, 1) := by decide +kernel
theorem dX11_carryAll_64 : decode cX11_carryAll 64 = .ok (.istore_n 3, 1) := by decide +kernel
theorem dX11_carryAll_65 : decode cX11_carryAll 65 = .ok (.iload_n 3, 1) := by decide +kernel
theorem dX11_carryAll_66 : decode cX11_carryAll 66 = .ok (.iconst 5, 1) := by decide +kernel
theorem dX11_carryAll_67 : decode cX11_carryAll 67 = .ok (.if_icmp .ge 73, 3) := by decide +kernel
theorem dX11_carryAll_70 : decode cX11_carryAll 70 = .ok (.aload_n 0, 1) := by decide +kernel
theorem dX11_carryAll_71 : decode cX11_carryAll 71 = .ok (.getfield 7, 3) := by decide +kernel
theorem dX11_carryAll_74 : decode cX11_carryAll 74 = .ok (.iload_n 3, 1) := by decide +kernel
theorem dX11_carryAll_75 : decode cX11_carryAll 75 = .ok (.aload_n 0, 1) := by decide +kernel
theorem dX11_carryAll_76 : decode cX11_carryAll 76 = .ok (.aload_n 0, 1) := by decide +kernel
theorem dX11_carryAll_77 : decode cX11_carryAll 77 = .ok (.getfield 7, 3) := by decide +kernel
theorem dX11_carryAll_80 : decode cX11_carryAll 80 = .ok (.iload_n 3, 1) := by decide +kernel
theorem dX11_carryAll_81 : decode cX11_carryAll 81 = .ok (.iaload, 1) := by decide +kernel
theorem dX11_carryAll_82 : decode cX11_carryAll 82 = .ok (.invokevirtual 215, 3) := by decide +kernel
theorem dX11_carryAll_85 : decode cX11_carryAll 85 = .ok (.iastore, 1) := by decide +kernel
theorem dX11_carryAll_86 : decode cX11_carryAll 86 = .ok (.aload_n 0, 1) := by decide +kernel
theorem dX11_carryAll_87 : decode cX11_carryAll 87 = .ok (.getfield 13, 3) := by decide +kernel
theorem dX11_carryAll_90 : decode cX11_carryAll 90 = .ok (.iload_n 3, 1) := by decide +kernel
theorem dX11_carryAll_91 : decode cX11_carryAll 91 = .ok (.aload_n 0, 1) := by decide +kernel
theorem dX11_carryAll_92 : decode cX11_carryAll 92 = .ok (.aload_n 0, 1) := by decide +kernel
theorem dX11_carryAll_93 : decode cX11_carryAll 93 = .ok (.getfield 13, 3) := by decide +kernel
theorem dX11_carryAll_96 : decode cX11_carryAll 96 = .ok (.iload_n 3, 1) := by decide +kernel
theorem dX11_carryAll_97 : decode cX11_carryAll 97 = .ok (.iaload, 1) := by decide +kernel
theorem dX11_carryAll_98 : decode cX11_carryAll 98 = .ok (.invokevirtual 215, 3) := by decide +kernel
theorem dX11_carryAll_101 : decode cX11_carryAll 101 = .ok (.iastore, 1) := by decide +kernel
theorem dX11_carryAll_102 : decode cX11_carryAll 102 = .ok (.aload_n 0, 1) := by decide +kernel
theorem dX11_carryAll_103 : decode cX11_carryAll 103 = .ok (.getfield 16, 3) := by decide +kernel
theorem dX11_carryAll_106 : decode cX11_carryAll 106 = .ok (.iload_n 3, 1) := by decide +kernel
theorem dX11_carryAll_107 : decode cX11_carryAll 107 = .ok (.aload_n 0, 1) := by decide +kernel
theorem dX11_carryAll_108 : decode cX11_carryAll 108 = .ok (.aload_n 0, 1) := by decide +kernel
theorem dX11_carryAll_109 : decode cX11_carryAll 109 = .ok (.getfield 16, 3) := by decide +kernel
theorem dX11_carryAll_112 : decode cX11_carryAll 112 = .ok (.iload_n 3, 1) := by decide +kernel
theorem dX11_carryAll_113 : decode cX11_carryAll 113 = .ok (.iaload, 1) := by decide +kernel
theorem dX11_carryAll_114 : decode cX11_carryAll 114 = .ok (.invokevirtual 215, 3) := by decide +kernel
theorem dX11_carryAll_117 : decode cX11_carryAll 117 = .ok (.iastore, 1) := by decide +kernel
theorem dX11_carryAll_118 : decode cX11_carryAll 118 = .ok (.aload_n 0, 1) := by decide +kernel
theorem dX11_carryAll_119 : decode cX11_carryAll 119 = .ok (.getfield 19, 3) := by decide +kernel
theorem dX11_carryAll_122 : decode cX11_carryAll 122 = .ok (.iload_n 3, 1) := by decide +kernel
theorem dX11_carryAll_123 : decode cX11_carryAll 123 = .ok (.aload_n 0, 1) := by decide +kernel
theorem dX11_carryAll_124 : decode cX11_carryAll 124 = .ok (.aload_n 0, 1) := by decide +kernel
theorem dX11_carryAll_125 : decode cX11_carryAll 125 = .ok (.getfield 19, 3) := by decide +kernel
theorem dX11_carryAll_128 : decode cX11_carryAll 128 = .ok (.iload_n 3, 1) := by decide +kernel
theorem dX11_carryAll_129 : decode cX11_carryAll 129 = .ok (.iaload, 1) := by decide +kernel
theorem dX11_carryAll_130 : decode cX11_carryAll 130 = .ok (.invokevirtual 215, 3) := by decide +kernel
theorem dX11_carryAll_133 : decode cX11_carryAll 133 = .ok (.iastore, 1) := by decide +kernel
theorem dX11_carryAll_134 : decode cX11_carryAll 134 = .ok (.iinc 3 1, 3) := by decide +kernel
theorem dX11_carryAll_137 : decode cX11_carryAll 137 = .ok (.goto (-72), 3) := by decide +kernel
theorem dX11_carryAll_140 : decode cX11_carryAll 140 = .ok (.iconst 0, 1) := by decide +kernel
theorem dX11_carryAll_141 : decode cX11_carryAll 141 = .ok (.istore_n 3, 1) := by decide +kernel
theorem dX11_carryAll_142 : decode cX11_carryAll 142 = .ok (.iload_n 3, 1) := by decide +kernel
theorem dX11_carryAll_143 : decode cX11_carryAll 143 = .ok (.bipush 6, 2) := by decide +kernel
theorem dX11_carryAll_145 : decode cX11_carryAll 145 = .ok (.if_icmp .ge 73, 3) := by decide +kernel
theorem dX11_carryAll_148 : decode cX11_carryAll 148 = .ok (.aload_n 0, 1) := by decide +kernel
theorem dX11_carryAll_149 : decode cX11_carryAll 149 = .ok (.getfield 26, 3) := by decide +kernel
theorem dX11_carryAll_152 : decode cX11_carryAll 152 = .ok (.iload_n 3, 1) := by decide +kernel
theorem dX11_carryAll_153 : decode cX11_carryAll 153 = .ok (.aload_n 0, 1) := by decide +kernel
theorem dX11_carryAll_154 : decode cX11_carryAll 154 = .ok (.aload_n 0, 1) := by decide +kernel
theorem dX11_carryAll_155 : decode cX11_carryAll 155 = .ok (.getfield 26, 3) := by decide +kernel
theorem dX11_carryAll_158 : decode cX11_carryAll 158 = .ok (.iload_n 3, 1) := by decide +kernel
theorem dX11_carryAll_159 : decode cX11_carryAll 159 = .ok (.iaload, 1) := by decide +kernel
theorem dX11_carryAll_160 : decode cX11_carryAll 160 = .ok (.invokevirtual 215, 3) := by decide +kernel
theorem dX11_carryAll_163 : decode cX11_carryAll 163 = .ok (.iastore, 1) := by decide +kernel
theorem dX11_carryAll_164 : decode cX11_carryAll 164 = .ok (.aload_n 0, 1) := by decide +kernel
theorem dX11_carryAll_165 : decode cX11_carryAll 165 = .ok (.getfield 29, 3) := by decide +kernel
theorem dX11_carryAll_168 : decode cX11_carryAll 168 = .ok (.iload_n 3, 1) := by decide +kernel
theorem dX11_carryAll_169 : decode cX11_carryAll 169 = .ok (.aload_n 0, 1) := by decide +kernel
theorem dX11_carryAll_170 : decode cX11_carryAll 170 = .ok (.aload_n 0, 1) := by decide +kernel
theorem dX11_carryAll_171 : decode cX11_carryAll 171 = .ok (.getfield 29, 3) := by decide +kernel
theorem dX11_carryAll_174 : decode cX11_carryAll 174 = .ok (.iload_n 3, 1) := by decide +kernel
theorem dX11_carryAll_175 : decode cX11_carryAll 175 = .ok (.iaload, 1) := by decide +kernel
theorem dX11_carryAll_176 : decode cX11_carryAll 176 = .ok (.invokevirtual 215, 3) := by decide +kernel
theorem dX11_carryAll_179 : decode cX11_carryAll 179 = .ok (.iastore, 1) := by decide +kernel
theorem dX11_carryAll_180 : decode cX11_carryAll 180 = .ok (.aload_n 0, 1) := by decide +kernel
theorem dX11_carryAll_181 : decode cX11_carryAll 181 = .ok (.getfield 32, 3) := by decide +kernel
theorem dX11_carryAll_184 : decode cX11_carryAll 184 = .ok (.iload_n 3, 1) := by decide +kernel
theorem dX11_carryAll_185 : decode cX11_carryAll 185 = .ok (.aload_n 0, 1) := by decide +kernel
theorem dX11_carryAll_186 : decode cX11_carryAll 186 = .ok (.aload_n 0, 1) := by decide +kernel
theorem dX11_carryAll_187 : decode cX11_carryAll 187 = .ok (.getfield 32, 3) := by decide +kernel
theorem dX11_carryAll_190 : decode cX11_carryAll 190 = .ok (.iload_n 3, 1) := by decide +kernel
theorem dX11_carryAll_191 : decode cX11_carryAll 191 = .ok (.iaload, 1) := by decide +kernel
theorem dX11_carryAll_192 : decode cX11_carryAll 192 = .ok (.invokevirtual 215, 3) := by decide +kernel
theorem dX11_carryAll_195 : decode cX11_carryAll 195 = .ok (.iastore, 1) := by decide +kernel
theorem dX11_carryAll_196 : decode cX11_carryAll 196 = .ok (.aload_n 0, 1) := by decide +kernel
theorem dX11_carryAll_197 : decode cX11_carryAll 197 = .ok (.getfield 35, 3) := by decide +kernel
theorem dX11_carryAll_200 : decode cX11_carryAll 200 = .ok (.iload_n 3, 1) := by decide +kernel
theorem dX11_carryAll_201 : decode cX11_carryAll 201 = .ok (.aload_n 0, 1) := by decide +kernel
theorem dX11_carryAll_202 : decode cX11_carryAll 202 = .ok (.aload_n 0, 1) := by decide +kernel
theorem dX11_carryAll_203 : decode cX11_carryAll 203 = .ok (.getfield 35, 3) := by decide +kernel
theorem dX11_carryAll_206 : decode cX11_carryAll 206 = .ok (.iload_n 3, 1) := by decide +kernel
theorem dX11_carryAll_207 : decode cX11_carryAll 207 = .ok (.iaload, 1) := by decide +kernel
theorem dX11_carryAll_208 : decode cX11_carryAll 208 = .ok (.invokevirtual 215, 3) := by decide +kernel
theorem dX11_carryAll_211 : decode cX11_carryAll 211 = .ok (.iastore, 1) := by decide +kernel
theorem dX11_carryAll_212 : decode cX11_carryAll 212 = .ok (.iinc 3 1, 3) := by decide +kernel
theorem dX11_carryAll_215 : decode cX11_carryAll 215 = .ok (.goto (-73), 3) := by decide +kernel
theorem dX11_carryAll_218 : decode cX11_carryAll 218 = .ok (.return_, 1) := by decide +kernel
theorem dX11_think_0 : decode cX11_think 0 = .ok (.aload_n 0, 1) := by decide +kernel
theorem dX11_think_1 : decode cX11_think 1 = .ok (.aload_n 0, 1) := by decide +kernel
theorem dX11_think_2 : decode cX11_think 2 = .ok (.getfield 62, 3) := by decide +kernel
theorem dX11_think_5 : decode cX11_think 5 = .ok (.iconst 1, 1) := by decide +kernel
theorem dX11_think_6 : decode cX11_think 6 = .ok (.invokevirtual 218, 3) := by decide +kernel
theorem dX11_think_9 : decode cX11_think 9 = .ok (.return_, 1) := by decide +kernel
theorem dX11_again_0 : decode cX11_again 0 = .ok (.aload_n 0, 1) := by decide +kernel
theorem dX11_again_1 : decode cX11_again 1 = .ok (.aload_n 0, 1) := by decide +kernel
theorem dX11_again_2 : decode cX11_again 2 = .ok (.getfield 62, 3) := by decide +kernel
theorem dX11_again_5 : decode cX11_again 5 = .ok (.iconst 0, 1) := by decide +kernel
theorem dX11_again_6 : decode cX11_again 6 = .ok (.invokevirtual 218, 3) := by decide +kernel
theorem dX11_again_9 : decode cX11_again 9 = .ok (.return_, 1) := by decide +kernel
theorem dX11_image_0 : decode cX11_image 0 = .ok (.aload_n 0, 1) := by decide +kernel
theorem dX11_image_1 : decode cX11_image 1 = .ok (.iconst 0, 1) := by decide +kernel
theorem dX11_image_2 : decode cX11_image 2 = .ok (.putfield 83, 3) := by decide +kernel
theorem dX11_image_5 : decode cX11_image 5 = .ok (.aload_n 0, 1) := by decide +kernel
theorem dX11_image_6 : decode cX11_image 6 = .ok (.iconst 1, 1) := by decide +kernel
theorem dX11_image_7 : decode cX11_image 7 = .ok (.putfield 222, 3) := by decide +kernel
theorem dX11_image_10 : decode cX11_image 10 = .ok (.aload_n 0, 1) := by decide +kernel
theorem dX11_image_11 : decode cX11_image 11 = .ok (.aload_n 0, 1) := by decide +kernel
theorem dX11_image_12 : decode cX11_image 12 = .ok (.getfield 65, 3) := by decide +kernel
theorem dX11_image_15 : decode cX11_image 15 = .ok (.iconst 1, 1) := by decide +kernel
theorem dX11_image_16 : decode cX11_image 16 = .ok (.invokevirtual 218, 3) := by decide +kernel
theorem dX11_image_19 : decode cX11_image 19 = .ok (.aload_n 0, 1) := by decide +kernel
theorem dX11_image_20 : decode cX11_image 20 = .ok (.getfield 122, 3) := by decide +kernel
theorem dX11_image_23 : decode cX11_image 23 = .ok (.ireturn, 1) := by decide +kernel
theorem dX11_restore_0 : decode cX11_restore 0 = .ok (.aload_n 0, 1) := by decide +kernel
theorem dX11_restore_1 : decode cX11_restore 1 = .ok (.iconst 0, 1) := by decide +kernel
theorem dX11_restore_2 : decode cX11_restore 2 = .ok (.putfield 83, 3) := by decide +kernel
theorem dX11_restore_5 : decode cX11_restore 5 = .ok (.aload_n 0, 1) := by decide +kernel
theorem dX11_restore_6 : decode cX11_restore 6 = .ok (.getfield 222, 3) := by decide +kernel
theorem dX11_restore_9 : decode cX11_restore 9 = .ok (.ifCond .ne 10, 3) := by decide +kernel
theorem dX11_restore_12 : decode cX11_restore 12 = .ok (.aload_n 0, 1) := by decide +kernel
theorem dX11_restore_13 : decode cX11_restore 13 = .ok (.bipush (-3), 2) := by decide +kernel
theorem dX11_restore_15 : decode cX11_restore 15 = .ok (.invokevirtual 134, 3) := by decide +kernel
theorem dX11_restore_18 : decode cX11_restore 18 = .ok (.ireturn, 1) := by decide +kernel
theorem dX11_restore_19 : decode cX11_restore 19 = .ok (.aload_n 0, 1) := by decide +kernel
theorem dX11_restore_20 : decode cX11_restore 20 = .ok (.aload_n 0, 1) := by decide +kernel
theorem dX11_restore_21 : decode cX11_restore 21 = .ok (.getfield 65, 3) := by decide +kernel
theorem dX11_restore_24 : decode cX11_restore 24 = .ok (.iconst 0, 1) := by decide +kernel
theorem dX11_restore_25 : decode cX11_restore 25 = .ok (.invokevirtual 218, 3) := by decide +kernel
theorem dX11_restore_28 : decode cX11_restore 28 = .ok (.aload_n 0, 1) := by decide +kernel
theorem dX11_restore_29 : decode cX11_restore 29 = .ok (.iconst 0, 1) := by decide +kernel
theorem dX11_restore_30 : decode cX11_restore 30 = .ok (.putfield 203, 3) := by decide +kernel
theorem dX11_restore_33 : decode cX11_restore 33 = .ok (.aload_n 0, 1) := by decide +kernel
theorem dX11_restore_34 : decode cX11_restore 34 = .ok (.getfield 122, 3) := by decide +kernel
theorem dX11_restore_37 : decode cX11_restore 37 = .ok (.ireturn, 1) := by decide +kernel
theorem dX11_keepTurn_0 : decode cX11_keepTurn 0 = .ok (.aload_n 0, 1) := by decide +kernel
theorem dX11_keepTurn_1 : decode cX11_keepTurn 1 = .ok (.getfield 203, 3) := by decide +kernel
theorem dX11_keepTurn_4 : decode cX11_keepTurn 4 = .ok (.bipush 8, 2) := by decide +kernel
theorem dX11_keepTurn_6 : decode cX11_keepTurn 6 = .ok (.if_icmp .ne 44, 3) := by decide +kernel
theorem dX11_keepTurn_9 : decode cX11_keepTurn 9 = .ok (.bipush 48, 2) := by decide +kernel
theorem dX11_keepTurn_11 : decode cX11_keepTurn 11 = .ok (.istore_n 1, 1) := by decide +kernel
theorem dX11_keepTurn_12 : decode cX11_keepTurn 12 = .ok (.iload_n 1, 1) := by decide +kernel
theorem dX11_keepTurn_13 : decode cX11_keepTurn 13 = .ok (.sipush 384, 3) := by decide +kernel
theorem dX11_keepTurn_16 : decode cX11_keepTurn 16 = .ok (.if_icmp .ge 24, 3) := by decide +kernel
theorem dX11_keepTurn_19 : decode cX11_keepTurn 19 = .ok (.aload_n 0, 1) := by decide +kernel
theorem dX11_keepTurn_20 : decode cX11_keepTurn 20 = .ok (.getfield 68, 3) := by decide +kernel
theorem dX11_keepTurn_23 : decode cX11_keepTurn 23 = .ok (.iload_n 1, 1) := by decide +kernel
theorem dX11_keepTurn_24 : decode cX11_keepTurn 24 = .ok (.bipush 48, 2) := by decide +kernel
theorem dX11_keepTurn_26 : decode cX11_keepTurn 26 = .ok (.isub, 1) := by decide +kernel
theorem dX11_keepTurn_27 : decode cX11_keepTurn 27 = .ok (.aload_n 0, 1) := by decide +kernel
theorem dX11_keepTurn_28 : decode cX11_keepTurn 28 = .ok (.getfield 68, 3) := by decide +kernel
theorem dX11_keepTurn_31 : decode cX11_keepTurn 31 = .ok (.iload_n 1, 1) := by decide +kernel
theorem dX11_keepTurn_32 : decode cX11_keepTurn 32 = .ok (.iaload, 1) := by decide +kernel
theorem dX11_keepTurn_33 : decode cX11_keepTurn 33 = .ok (.iastore, 1) := by decide +kernel
theorem dX11_keepTurn_34 : decode cX11_keepTurn 34 = .ok (.iinc 1 1, 3) := by decide +kernel
theorem dX11_keepTurn_37 : decode cX11_keepTurn 37 = .ok (.goto (-25), 3) := by decide +kernel
theorem dX11_keepTurn_40 : decode cX11_keepTurn 40 = .ok (.aload_n 0, 1) := by decide +kernel
theorem dX11_keepTurn_41 : decode cX11_keepTurn 41 = .ok (.dup, 1) := by decide +kernel
theorem dX11_keepTurn_42 : decode cX11_keepTurn 42 = .ok (.getfield 203, 3) := by decide +kernel
theorem dX11_keepTurn_45 : decode cX11_keepTurn 45 = .ok (.iconst 1, 1) := by decide +kernel
theorem dX11_keepTurn_46 : decode cX11_keepTurn 46 = .ok (.isub, 1) := by decide +kernel
theorem dX11_keepTurn_47 : decode cX11_keepTurn 47 = .ok (.putfield 203, 3) := by decide +kernel
theorem dX11_keepTurn_50 : decode cX11_keepTurn 50 = .ok (.aload_n 0, 1) := by decide +kernel
theorem dX11_keepTurn_51 : decode cX11_keepTurn 51 = .ok (.aload_n 0, 1) := by decide +kernel
theorem dX11_keepTurn_52 : decode cX11_keepTurn 52 = .ok (.getfield 71, 3) := by decide +kernel
theorem dX11_keepTurn_55 : decode cX11_keepTurn 55 = .ok (.iconst 1, 1) := by decide +kernel
theorem dX11_keepTurn_56 : decode cX11_keepTurn 56 = .ok (.invokevirtual 218, 3) := by decide +kernel
theorem dX11_keepTurn_59 : decode cX11_keepTurn 59 = .ok (.iconst 0, 1) := by decide +kernel
theorem dX11_keepTurn_60 : decode cX11_keepTurn 60 = .ok (.istore_n 1, 1) := by decide +kernel
theorem dX11_keepTurn_61 : decode cX11_keepTurn 61 = .ok (.iload_n 1, 1) := by decide +kernel
theorem dX11_keepTurn_62 : decode cX11_keepTurn 62 = .ok (.bipush 48, 2) := by decide +kernel
theorem dX11_keepTurn_64 : decode cX11_keepTurn 64 = .ok (.if_icmp .ge 29, 3) := by decide +kernel
theorem dX11_keepTurn_67 : decode cX11_keepTurn 67 = .ok (.aload_n 0, 1) := by decide +kernel
theorem dX11_keepTurn_68 : decode cX11_keepTurn 68 = .ok (.getfield 68, 3) := by decide +kernel
theorem dX11_keepTurn_71 : decode cX11_keepTurn 71 = .ok (.bipush 48, 2) := by decide +kernel
theorem dX11_keepTurn_73 : decode cX11_keepTurn 73 = .ok (.aload_n 0, 1) := by decide +kernel
theorem dX11_keepTurn_74 : decode cX11_keepTurn 74 = .ok (.getfield 203, 3) := by decide +kernel
theorem dX11_keepTurn_77 : decode cX11_keepTurn 77 = .ok (.imul, 1) := by decide +kernel
theorem dX11_keepTurn_78 : decode cX11_keepTurn 78 = .ok (.iload_n 1, 1) := by decide +kernel
theorem dX11_keepTurn_79 : decode cX11_keepTurn 79 = .ok (.iadd, 1) := by decide +kernel
theorem dX11_keepTurn_80 : decode cX11_keepTurn 80 = .ok (.aload_n 0, 1) := by decide +kernel
theorem dX11_keepTurn_81 : decode cX11_keepTurn 81 = .ok (.getfield 71, 3) := by decide +kernel
theorem dX11_keepTurn_84 : decode cX11_keepTurn 84 = .ok (.iload_n 1, 1) := by decide +kernel
theorem dX11_keepTurn_85 : decode cX11_keepTurn 85 = .ok (.iaload, 1) := by decide +kernel
theorem dX11_keepTurn_86 : decode cX11_keepTurn 86 = .ok (.iastore, 1) := by decide +kernel
theorem dX11_keepTurn_87 : decode cX11_keepTurn 87 = .ok (.iinc 1 1, 3) := by decide +kernel
theorem dX11_keepTurn_90 : decode cX11_keepTurn 90 = .ok (.goto (-29), 3) := by decide +kernel
theorem dX11_keepTurn_93 : decode cX11_keepTurn 93 = .ok (.aload_n 0, 1) := by decide +kernel
theorem dX11_keepTurn_94 : decode cX11_keepTurn 94 = .ok (.dup, 1) := by decide +kernel
theorem dX11_keepTurn_95 : decode cX11_keepTurn 95 = .ok (.getfield 203, 3) := by decide +kernel
theorem dX11_keepTurn_98 : decode cX11_keepTurn 98 = .ok (.iconst 1, 1) := by decide +kernel
theorem dX11_keepTurn_99 : decode cX11_keepTurn 99 = .ok (.iadd, 1) := by decide +kernel
theorem dX11_keepTurn_100 : decode cX11_keepTurn 100 = .ok (.putfield 203, 3) := by decide +kernel
theorem dX11_keepTurn_103 : decode cX11_keepTurn 103 = .ok (.return_, 1) := by decide +kernel
theorem dX11_back_0 : decode cX11_back 0 = .ok (.aload_n 0, 1) := by decide +kernel
theorem dX11_back_1 : decode cX11_back 1 = .ok (.iconst 0, 1) := by decide +kernel
theorem dX11_back_2 : decode cX11_back 2 = .ok (.putfield 83, 3) := by decide +kernel
theorem dX11_back_5 : decode cX11_back 5 = .ok (.aload_n 0, 1) := by decide +kernel
theorem dX11_back_6 : decode cX11_back 6 = .ok (.getfield 203, 3) := by decide +kernel
theorem dX11_back_9 : decode cX11_back 9 = .ok (.ifCond .ne 10, 3) := by decide +kernel
theorem dX11_back_12 : decode cX11_back 12 = .ok (.aload_n 0, 1) := by decide +kernel
theorem dX11_back_13 : decode cX11_back 13 = .ok (.bipush (-3), 2) := by decide +kernel
theorem dX11_back_15 : decode cX11_back 15 = .ok (.invokevirtual 134, 3) := by decide +kernel
theorem dX11_back_18 : decode cX11_back 18 = .ok (.ireturn, 1) := by decide +kernel
theorem dX11_back_19 : decode cX11_back 19 = .ok (.aload_n 0, 1) := by decide +kernel
theorem dX11_back_20 : decode cX11_back 20 = .ok (.dup, 1) := by decide +kernel
theorem dX11_back_21 : decode cX11_back 21 = .ok (.getfield 203, 3) := by decide +kernel
theorem dX11_back_24 : decode cX11_back 24 = .ok (.iconst 1, 1) := by decide +kernel
theorem dX11_back_25 : decode cX11_back 25 = .ok (.isub, 1) := by decide +kernel
theorem dX11_back_26 : decode cX11_back 26 = .ok (.putfield 203, 3) := by decide +kernel
theorem dX11_back_29 : decode cX11_back 29 = .ok (.iconst 0, 1) := by decide +kernel
theorem dX11_back_30 : decode cX11_back 30 = .ok (.istore_n 1, 1) := by decide +kernel
theorem dX11_back_31 : decode cX11_back 31 = .ok (.iload_n 1, 1) := by decide +kernel
theorem dX11_back_32 : decode cX11_back 32 = .ok (.bipush 48, 2) := by decide +kernel
theorem dX11_back_34 : decode cX11_back 34 = .ok (.if_icmp .ge 29, 3) := by decide +kernel
theorem dX11_back_37 : decode cX11_back 37 = .ok (.aload_n 0, 1) := by decide +kernel
theorem dX11_back_38 : decode cX11_back 38 = .ok (.getfield 71, 3) := by decide +kernel
theorem dX11_back_41 : decode cX11_back 41 = .ok (.iload_n 1, 1) := by decide +kernel
theorem dX11_back_42 : decode cX11_back 42 = .ok (.aload_n 0, 1) := by decide +kernel
theorem dX11_back_43 : decode cX11_back 43 = .ok (.getfield 68, 3) := by decide +kernel
theorem dX11_back_46 : decode cX11_back 46 = .ok (.bipush 48, 2) := by decide +kernel
theorem dX11_back_48 : decode cX11_back 48 = .ok (.aload_n 0, 1) := by decide +kernel
theorem dX11_back_49 : decode cX11_back 49 = .ok (.getfield 203, 3) := by decide +kernel
theorem dX11_back_52 : decode cX11_back 52 = .ok (.imul, 1) := by decide +kernel
theorem dX11_back_53 : decode cX11_back 53 = .ok (.iload_n 1, 1) := by decide +kernel
theorem dX11_back_54 : decode cX11_back 54 = .ok (.iadd, 1) := by decide +kernel
theorem dX11_back_55 : decode cX11_back 55 = .ok (.iaload, 1) := by decide +kernel
theorem dX11_back_56 : decode cX11_back 56 = .ok (.iastore, 1) := by decide +kernel
theorem dX11_back_57 : decode cX11_back 57 = .ok (.iinc 1 1, 3) := by decide +kernel
theorem dX11_back_60 : decode cX11_back 60 = .ok (.goto (-29), 3) := by decide +kernel
theorem dX11_back_63 : decode cX11_back 63 = .ok (.aload_n 0, 1) := by decide +kernel
theorem dX11_back_64 : decode cX11_back 64 = .ok (.aload_n 0, 1) := by decide +kernel
theorem dX11_back_65 : decode cX11_back 65 = .ok (.getfield 71, 3) := by decide +kernel
theorem dX11_back_68 : decode cX11_back 68 = .ok (.iconst 0, 1) := by decide +kernel
theorem dX11_back_69 : decode cX11_back 69 = .ok (.invokevirtual 218, 3) := by decide +kernel
theorem dX11_back_72 : decode cX11_back 72 = .ok (.aload_n 0, 1) := by decide +kernel
theorem dX11_back_73 : decode cX11_back 73 = .ok (.getfield 203, 3) := by decide +kernel
theorem dX11_back_76 : decode cX11_back 76 = .ok (.ireturn, 1) := by decide +kernel
theorem dX11_familyOf_0 : decode cX11_familyOf 0 = .ok (.aload_n 0, 1) := by decide +kernel
theorem dX11_familyOf_1 : decode cX11_familyOf 1 = .ok (.iconst 0, 1) := by decide +kernel
theorem dX11_familyOf_2 : decode cX11_familyOf 2 = .ok (.putfield 83, 3) := by decide +kernel
theorem dX11_familyOf_5 : decode cX11_familyOf 5 = .ok (.aload_n 0, 1) := by decide +kernel
theorem dX11_familyOf_6 : decode cX11_familyOf 6 = .ok (.iload_n 1, 1) := by decide +kernel
theorem dX11_familyOf_7 : decode cX11_familyOf 7 = .ok (.invokevirtual 188, 3) := by decide +kernel
theorem dX11_familyOf_10 : decode cX11_familyOf 10 = .ok (.ifCond .eq 15, 3) := by decide +kernel
theorem dX11_familyOf_13 : decode cX11_familyOf 13 = .ok (.iload_n 2, 1) := by decide +kernel
theorem dX11_familyOf_14 : decode cX11_familyOf 14 = .ok (.i2l, 1) := by decide +kernel
theorem dX11_familyOf_15 : decode cX11_familyOf 15 = .ok (.lconst 0, 1) := by decide +kernel
theorem dX11_familyOf_16 : decode cX11_familyOf 16 = .ok (.ldc2_w 225, 3) := by decide +kernel
theorem dX11_familyOf_19 : decode cX11_familyOf 19 = .ok (.invokestatic 89, 3) := by decide +kernel
theorem dX11_familyOf_22 : decode cX11_familyOf 22 = .ok (.ifCond .ne 22, 3) := by decide +kernel
theorem dX11_familyOf_25 : decode cX11_familyOf 25 = .ok (.aload_n 0, 1) := by decide +kernel
theorem dX11_familyOf_26 : decode cX11_familyOf 26 = .ok (.aload_n 0, 1) := by decide +kernel
theorem dX11_familyOf_27 : decode cX11_familyOf 27 = .ok (.iload_n 1, 1) := by decide +kernel
theorem dX11_familyOf_28 : decode cX11_familyOf 28 = .ok (.invokevirtual 188, 3) := by decide +kernel
theorem dX11_familyOf_31 : decode cX11_familyOf 31 = .ok (.ifCond .eq 8, 3) := by decide +kernel
theorem dX11_familyOf_34 : decode cX11_familyOf 34 = .ok (.bipush (-2), 2) := by decide +kernel
theorem dX11_familyOf_36 : decode cX11_familyOf 36 = .ok (.goto 4, 3) := by decide +kernel
theorem dX11_familyOf_39 : decode cX11_familyOf 39 = .ok (.iconst (-1), 1) := by decide +kernel
theorem dX11_familyOf_40 : decode cX11_familyOf 40 = .ok (.invokevirtual 134, 3) := by decide +kernel
theorem dX11_familyOf_43 : decode cX11_familyOf 43 = .ok (.ireturn, 1) := by decide +kernel
theorem dX11_familyOf_44 : decode cX11_familyOf 44 = .ok (.iload_n 2, 1) := by decide +kernel
theorem dX11_familyOf_45 : decode cX11_familyOf 45 = .ok (.ifCond .ne 12, 3) := by decide +kernel
theorem dX11_familyOf_48 : decode cX11_familyOf 48 = .ok (.aload_n 0, 1) := by decide +kernel
theorem dX11_familyOf_49 : decode cX11_familyOf 49 = .ok (.getfield 7, 3) := by decide +kernel
theorem dX11_familyOf_52 : decode cX11_familyOf 52 = .ok (.iload_n 1, 1) := by decide +kernel
theorem dX11_familyOf_53 : decode cX11_familyOf 53 = .ok (.iaload, 1) := by decide +kernel
theorem dX11_familyOf_54 : decode cX11_familyOf 54 = .ok (.goto 50, 3) := by decide +kernel
theorem dX11_familyOf_57 : decode cX11_familyOf 57 = .ok (.iload_n 2, 1) := by decide +kernel
theorem dX11_familyOf_58 : decode cX11_familyOf 58 = .ok (.iconst 1, 1) := by decide +kernel
theorem dX11_familyOf_59 : decode cX11_familyOf 59 = .ok (.if_icmp .ne 12, 3) := by decide +kernel
theorem dX11_familyOf_62 : decode cX11_familyOf 62 = .ok (.aload_n 0, 1) := by decide +kernel
theorem dX11_familyOf_63 : decode cX11_familyOf 63 = .ok (.getfield 13, 3) := by decide +kernel
theorem dX11_familyOf_66 : decode cX11_familyOf 66 = .ok (.iload_n 1, 1) := by decide +kernel
theorem dX11_familyOf_67 : decode cX11_familyOf 67 = .ok (.iaload, 1) := by decide +kernel
theorem dX11_familyOf_68 : decode cX11_familyOf 68 = .ok (.goto 36, 3) := by decide +kernel
theorem dX11_familyOf_71 : decode cX11_familyOf 71 = .ok (.iload_n 2, 1) := by decide +kernel
theorem dX11_familyOf_72 : decode cX11_familyOf 72 = .ok (.iconst 2, 1) := by decide +kernel
theorem dX11_familyOf_73 : decode cX11_familyOf 73 = .ok (.if_icmp .ne 12, 3) := by decide +kernel
theorem dX11_familyOf_76 : decode cX11_familyOf 76 = .ok (.aload_n 0, 1) := by decide +kernel
theorem dX11_familyOf_77 : decode cX11_familyOf 77 = .ok (.getfield 16, 3) := by decide +kernel
theorem dX11_familyOf_80 : decode cX11_familyOf 80 = .ok (.iload_n 1, 1) := by decide +kernel
theorem dX11_familyOf_81 : decode cX11_familyOf 81 = .ok (.iaload, 1) := by decide +kernel
theorem dX11_familyOf_82 : decode cX11_familyOf 82 = .ok (.goto 22, 3) := by decide +kernel
theorem dX11_familyOf_85 : decode cX11_familyOf 85 = .ok (.iload_n 2, 1) := by decide +kernel
theorem dX11_familyOf_86 : decode cX11_familyOf 86 = .ok (.iconst 3, 1) := by decide +kernel
theorem dX11_familyOf_87 : decode cX11_familyOf 87 = .ok (.if_icmp .ne 12, 3) := by decide +kernel
theorem dX11_familyOf_90 : decode cX11_familyOf 90 = .ok (.aload_n 0, 1) := by decide +kernel
theorem dX11_familyOf_91 : decode cX11_familyOf 91 = .ok (.getfield 19, 3) := by decide +kernel
theorem dX11_familyOf_94 : decode cX11_familyOf 94 = .ok (.iload_n 1, 1) := by decide +kernel
theorem dX11_familyOf_95 : decode cX11_familyOf 95 = .ok (.iaload, 1) := by decide +kernel
theorem dX11_familyOf_96 : decode cX11_familyOf 96 = .ok (.goto 8, 3) := by decide +kernel
theorem dX11_familyOf_99 : decode cX11_familyOf 99 = .ok (.aload_n 0, 1) := by decide +kernel
theorem dX11_familyOf_100 : decode cX11_familyOf 100 = .ok (.iload_n 1, 1) := by decide +kernel
theorem dX11_familyOf_101 : decode cX11_familyOf 101 = .ok (.invokevirtual 227, 3) := by decide +kernel
theorem dX11_familyOf_104 : decode cX11_familyOf 104 = .ok (.ireturn, 1) := by decide +kernel
theorem dX11_workOf_0 : decode cX11_workOf 0 = .ok (.aload_n 0, 1) := by decide +kernel
theorem dX11_workOf_1 : decode cX11_workOf 1 = .ok (.iconst 0, 1) := by decide +kernel
theorem dX11_workOf_2 : decode cX11_workOf 2 = .ok (.putfield 83, 3) := by decide +kernel
theorem dX11_workOf_5 : decode cX11_workOf 5 = .ok (.aload_n 0, 1) := by decide +kernel
theorem dX11_workOf_6 : decode cX11_workOf 6 = .ok (.iload_n 1, 1) := by decide +kernel
theorem dX11_workOf_7 : decode cX11_workOf 7 = .ok (.invokevirtual 177, 3) := by decide +kernel
theorem dX11_workOf_10 : decode cX11_workOf 10 = .ok (.ifCond .eq 15, 3) := by decide +kernel
theorem dX11_workOf_13 : decode cX11_workOf 13 = .ok (.iload_n 2, 1) := by decide +kernel
theorem dX11_workOf_14 : decode cX11_workOf 14 = .ok (.i2l, 1) := by decide +kernel
theorem dX11_workOf_15 : decode cX11_workOf 15 = .ok (.lconst 0, 1) := by decide +kernel
theorem dX11_workOf_16 : decode cX11_workOf 16 = .ok (.ldc2_w 225, 3) := by decide +kernel
theorem dX11_workOf_19 : decode cX11_workOf 19 = .ok (.invokestatic 89, 3) := by decide +kernel
theorem dX11_workOf_22 : decode cX11_workOf 22 = .ok (.ifCond .ne 22, 3) := by decide +kernel
theorem dX11_workOf_25 : decode cX11_workOf 25 = .ok (.aload_n 0, 1) := by decide +kernel
theorem dX11_workOf_26 : decode cX11_workOf 26 = .ok (.aload_n 0, 1) := by decide +kernel
theorem dX11_workOf_27 : decode cX11_workOf 27 = .ok (.iload_n 1, 1) := by decide +kernel
theorem dX11_workOf_28 : decode cX11_workOf 28 = .ok (.invokevirtual 177, 3) := by decide +kernel
theorem dX11_workOf_31 : decode cX11_workOf 31 = .ok (.ifCond .eq 8, 3) := by decide +kernel
theorem dX11_workOf_34 : decode cX11_workOf 34 = .ok (.bipush (-2), 2) := by decide +kernel
theorem dX11_workOf_36 : decode cX11_workOf 36 = .ok (.goto 4, 3) := by decide +kernel
theorem dX11_workOf_39 : decode cX11_workOf 39 = .ok (.iconst (-1), 1) := by decide +kernel
theorem dX11_workOf_40 : decode cX11_workOf 40 = .ok (.invokevirtual 134, 3) := by decide +kernel
theorem dX11_workOf_43 : decode cX11_workOf 43 = .ok (.ireturn, 1) := by decide +kernel
theorem dX11_workOf_44 : decode cX11_workOf 44 = .ok (.iload_n 2, 1) := by decide +kernel
theorem dX11_workOf_45 : decode cX11_workOf 45 = .ok (.ifCond .ne 12, 3) := by decide +kernel
theorem dX11_workOf_48 : decode cX11_workOf 48 = .ok (.aload_n 0, 1) := by decide +kernel
theorem dX11_workOf_49 : decode cX11_workOf 49 = .ok (.getfield 26, 3) := by decide +kernel
theorem dX11_workOf_52 : decode cX11_workOf 52 = .ok (.iload_n 1, 1) := by decide +kernel
theorem dX11_workOf_53 : decode cX11_workOf 53 = .ok (.iaload, 1) := by decide +kernel
theorem dX11_workOf_54 : decode cX11_workOf 54 = .ok (.goto 58, 3) := by decide +kernel
theorem dX11_workOf_57 : decode cX11_workOf 57 = .ok (.iload_n 2, 1) := by decide +kernel
theorem dX11_workOf_58 : decode cX11_workOf 58 = .ok (.iconst 1, 1) := by decide +kernel
theorem dX11_workOf_59 : decode cX11_workOf 59 = .ok (.if_icmp .ne 12, 3) := by decide +kernel
theorem dX11_workOf_62 : decode cX11_workOf 62 = .ok (.aload_n 0, 1) := by decide +kernel
theorem dX11_workOf_63 : decode cX11_workOf 63 = .ok (.getfield 29, 3) := by decide +kernel
theorem dX11_workOf_66 : decode cX11_workOf 66 = .ok (.iload_n 1, 1) := by decide +kernel
theorem dX11_workOf_67 : decode cX11_workOf 67 = .ok (.iaload, 1) := by decide +kernel
theorem dX11_workOf_68 : decode cX11_workOf 68 = .ok (.goto 44, 3) := by decide +kernel
theorem dX11_workOf_71 : decode cX11_workOf 71 = .ok (.iload_n 2, 1) := by decide +kernel
theorem dX11_workOf_72 : decode cX11_workOf 72 = .ok (.iconst 2, 1) := by decide +kernel
theorem dX11_workOf_73 : decode cX11_workOf 73 = .ok (.if_icmp .ne 12, 3) := by decide +kernel
theorem dX11_workOf_76 : decode cX11_workOf 76 = .ok (.aload_n 0, 1) := by decide +kernel
theorem dX11_workOf_77 : decode cX11_workOf 77 = .ok (.getfield 32, 3) := by decide +kernel
theorem dX11_workOf_80 : decode cX11_workOf 80 = .ok (.iload_n 1, 1) := by decide +kernel
theorem dX11_workOf_81 : decode cX11_workOf 81 = .ok (.iaload, 1) := by decide +kernel
theorem dX11_workOf_82 : decode cX11_workOf 82 = .ok (.goto 30, 3) := by decide +kernel
theorem dX11_workOf_85 : decode cX11_workOf 85 = .ok (.iload_n 2, 1) := by decide +kernel
theorem dX11_workOf_86 : decode cX11_workOf 86 = .ok (.iconst 3, 1) := by decide +kernel
theorem dX11_workOf_87 : decode cX11_workOf 87 = .ok (.if_icmp .ne 11, 3) := by decide +kernel
theorem dX11_workOf_90 : decode cX11_workOf 90 = .ok (.aload_n 0, 1) := by decide +kernel
theorem dX11_workOf_91 : decode cX11_workOf 91 = .ok (.iload_n 1, 1) := by decide +kernel
theorem dX11_workOf_92 : decode cX11_workOf 92 = .ok (.invokevirtual 112, 3) := by decide +kernel
theorem dX11_workOf_95 : decode cX11_workOf 95 = .ok (.goto 17, 3) := by decide +kernel
theorem dX11_workOf_98 : decode cX11_workOf 98 = .ok (.aload_n 0, 1) := by decide +kernel
theorem dX11_workOf_99 : decode cX11_workOf 99 = .ok (.getfield 35, 3) := by decide +kernel
theorem dX11_workOf_102 : decode cX11_workOf 102 = .ok (.iload_n 1, 1) := by decide +kernel
theorem dX11_workOf_103 : decode cX11_workOf 103 = .ok (.iaload, 1) := by decide +kernel
theorem dX11_workOf_104 : decode cX11_workOf 104 = .ok (.ifCond .le 7, 3) := by decide +kernel
theorem dX11_workOf_107 : decode cX11_workOf 107 = .ok (.iconst 1, 1) := by decide +kernel
theorem dX11_workOf_108 : decode cX11_workOf 108 = .ok (.goto 4, 3) := by decide +kernel
theorem dX11_workOf_111 : decode cX11_workOf 111 = .ok (.iconst 0, 1) := by decide +kernel
theorem dX11_workOf_112 : decode cX11_workOf 112 = .ok (.ireturn, 1) := by decide +kernel
theorem dX11_family_0 : decode cX11_family 0 = .ok (.aload_n 0, 1) := by decide +kernel
theorem dX11_family_1 : decode cX11_family 1 = .ok (.iconst 0, 1) := by decide +kernel
theorem dX11_family_2 : decode cX11_family 2 = .ok (.putfield 83, 3) := by decide +kernel
theorem dX11_family_5 : decode cX11_family 5 = .ok (.iconst 0, 1) := by decide +kernel
theorem dX11_family_6 : decode cX11_family 6 = .ok (.istore 4, 2) := by decide +kernel
theorem dX11_family_8 : decode cX11_family 8 = .ok (.iload_n 1, 1) := by decide +kernel
theorem dX11_family_9 : decode cX11_family 9 = .ok (.iconst 1, 1) := by decide +kernel
theorem dX11_family_10 : decode cX11_family 10 = .ok (.if_icmp .lt 11, 3) := by decide +kernel
theorem dX11_family_13 : decode cX11_family 13 = .ok (.iload_n 2, 1) := by decide +kernel
theorem dX11_family_14 : decode cX11_family 14 = .ok (.ifCond .lt 7, 3) := by decide +kernel
theorem dX11_family_17 : decode cX11_family 17 = .ok (.iload_n 3, 1) := by decide +kernel
theorem dX11_family_18 : decode cX11_family 18 = .ok (.ifCond .ge 10, 3) := by decide +kernel
theorem dX11_family_21 : decode cX11_family 21 = .ok (.bipush (-4), 2) := by decide +kernel
theorem dX11_family_23 : decode cX11_family 23 = .ok (.istore 4, 2) := by decide +kernel
theorem dX11_family_25 : decode cX11_family 25 = .ok (.goto 33, 3) := by decide +kernel
theorem dX11_family_28 : decode cX11_family 28 = .ok (.iload_n 1, 1) := by decide +kernel
theorem dX11_family_29 : decode cX11_family 29 = .ok (.bipush 20, 2) := by decide +kernel
theorem dX11_family_31 : decode cX11_family 31 = .ok (.if_icmp .gt 23, 3) := by decide +kernel
theorem dX11_family_34 : decode cX11_family 34 = .ok (.iload_n 2, 1) := by decide +kernel
theorem dX11_family_35 : decode cX11_family 35 = .ok (.bipush 9, 2) := by decide +kernel
theorem dX11_family_37 : decode cX11_family 37 = .ok (.if_icmp .gt 17, 3) := by decide +kernel
theorem dX11_family_40 : decode cX11_family 40 = .ok (.iload_n 3, 1) := by decide +kernel
theorem dX11_family_41 : decode cX11_family 41 = .ok (.bipush 9, 2) := by decide +kernel
theorem dX11_family_43 : decode cX11_family 43 = .ok (.if_icmp .gt 11, 3) := by decide +kernel
theorem dX11_family_46 : decode cX11_family 46 = .ok (.aload_n 0, 1) := by decide +kernel
theorem dX11_family_47 : decode cX11_family 47 = .ok (.getfield 86, 3) := by decide +kernel
theorem dX11_family_50 : decode cX11_family 50 = .ok (.iconst 5, 1) := by decide +kernel
theorem dX11_family_51 : decode cX11_family 51 = .ok (.if_icmp .ne 7, 3) := by decide +kernel
theorem dX11_family_54 : decode cX11_family 54 = .ok (.bipush (-6), 2) := by decide +kernel
theorem dX11_family_56 : decode cX11_family 56 = .ok (.istore 4, 2) := by decide +kernel
theorem dX11_family_58 : decode cX11_family 58 = .ok (.iload 4, 2) := by decide +kernel
theorem dX11_family_60 : decode cX11_family 60 = .ok (.ifCond .ge 10, 3) := by decide +kernel
theorem dX11_family_63 : decode cX11_family 63 = .ok (.aload_n 0, 1) := by decide +kernel
theorem dX11_family_64 : decode cX11_family 64 = .ok (.iload 4, 2) := by decide +kernel
theorem dX11_family_66 : decode cX11_family 66 = .ok (.invokevirtual 134, 3) := by decide +kernel
theorem dX11_family_69 : decode cX11_family 69 = .ok (.ireturn, 1) := by decide +kernel
theorem dX11_family_70 : decode cX11_family 70 = .ok (.aload_n 0, 1) := by decide +kernel
theorem dX11_family_71 : decode cX11_family 71 = .ok (.iload_n 1, 1) := by decide +kernel
theorem dX11_family_72 : decode cX11_family 72 = .ok (.iload_n 2, 1) := by decide +kernel
theorem dX11_family_73 : decode cX11_family 73 = .ok (.iload_n 3, 1) := by decide +kernel
theorem dX11_family_74 : decode cX11_family 74 = .ok (.invokevirtual 170, 3) := by decide +kernel
theorem dX11_family_77 : decode cX11_family 77 = .ok (.aload_n 0, 1) := by decide +kernel
theorem dX11_family_78 : decode cX11_family 78 = .ok (.iconst 0, 1) := by decide +kernel
theorem dX11_family_79 : decode cX11_family 79 = .ok (.putfield 203, 3) := by decide +kernel
theorem dX11_family_82 : decode cX11_family 82 = .ok (.aload_n 0, 1) := by decide +kernel
theorem dX11_family_83 : decode cX11_family 83 = .ok (.getfield 86, 3) := by decide +kernel
theorem dX11_family_86 : decode cX11_family 86 = .ok (.iconst 1, 1) := by decide +kernel
theorem dX11_family_87 : decode cX11_family 87 = .ok (.isub, 1) := by decide +kernel
theorem dX11_family_88 : decode cX11_family 88 = .ok (.ireturn, 1) := by decide +kernel
theorem dX11_work_0 : decode cX11_work 0 = .ok (.aload_n 0, 1) := by decide +kernel
theorem dX11_work_1 : decode cX11_work 1 = .ok (.iconst 0, 1) := by decide +kernel
theorem dX11_work_2 : decode cX11_work 2 = .ok (.putfield 83, 3) := by decide +kernel
theorem dX11_work_5 : decode cX11_work 5 = .ok (.iconst 0, 1) := by decide +kernel
theorem dX11_work_6 : decode cX11_work 6 = .ok (.istore 4, 2) := by decide +kernel
theorem dX11_work_8 : decode cX11_work 8 = .ok (.iload_n 1, 1) := by decide +kernel
theorem dX11_work_9 : decode cX11_work 9 = .ok (.i2l, 1) := by decide +kernel
theorem dX11_work_10 : decode cX11_work 10 = .ok (.lconst 0, 1) := by decide +kernel
theorem dX11_work_11 : decode cX11_work 11 = .ok (.ldc2_w 230, 3) := by decide +kernel
theorem dX11_work_14 : decode cX11_work 14 = .ok (.invokestatic 89, 3) := by decide +kernel
theorem dX11_work_17 : decode cX11_work 17 = .ok (.ifCond .ne 10, 3) := by decide +kernel
theorem dX11_work_20 : decode cX11_work 20 = .ok (.bipush (-2), 2) := by decide +kernel
theorem dX11_work_22 : decode cX11_work 22 = .ok (.istore 4, 2) := by decide +kernel
theorem dX11_work_24 : decode cX11_work 24 = .ok (.goto 45, 3) := by decide +kernel
theorem dX11_work_27 : decode cX11_work 27 = .ok (.iload_n 2, 1) := by decide +kernel
theorem dX11_work_28 : decode cX11_work 28 = .ok (.ifCond .lt 8, 3) := by decide +kernel
theorem dX11_work_31 : decode cX11_work 31 = .ok (.iload_n 3, 1) := by decide +kernel
theorem dX11_work_32 : decode cX11_work 32 = .ok (.iconst 1, 1) := by decide +kernel
theorem dX11_work_33 : decode cX11_work 33 = .ok (.if_icmp .ge 10, 3) := by decide +kernel
theorem dX11_work_36 : decode cX11_work 36 = .ok (.bipush (-4), 2) := by decide +kernel
theorem dX11_work_38 : decode cX11_work 38 = .ok (.istore 4, 2) := by decide +kernel
theorem dX11_work_40 : decode cX11_work 40 = .ok (.goto 29, 3) := by decide +kernel
theorem dX11_work_43 : decode cX11_work 43 = .ok (.iload_n 2, 1) := by decide +kernel
theorem dX11_work_44 : decode cX11_work 44 = .ok (.bipush 9, 2) := by decide +kernel
theorem dX11_work_46 : decode cX11_work 46 = .ok (.if_icmp .gt 19, 3) := by decide +kernel
theorem dX11_work_49 : decode cX11_work 49 = .ok (.iload_n 3, 1) := by decide +kernel
theorem dX11_work_50 : decode cX11_work 50 = .ok (.sipush 999, 3) := by decide +kernel
theorem dX11_work_53 : decode cX11_work 53 = .ok (.if_icmp .gt 12, 3) := by decide +kernel
theorem dX11_work_56 : decode cX11_work 56 = .ok (.aload_n 0, 1) := by decide +kernel
theorem dX11_work_57 : decode cX11_work 57 = .ok (.getfield 93, 3) := by decide +kernel
theorem dX11_work_60 : decode cX11_work 60 = .ok (.bipush 6, 2) := by decide +kernel
theorem dX11_work_62 : decode cX11_work 62 = .ok (.if_icmp .ne 7, 3) := by decide +kernel
theorem dX11_work_65 : decode cX11_work 65 = .ok (.bipush (-6), 2) := by decide +kernel
theorem dX11_work_67 : decode cX11_work 67 = .ok (.istore 4, 2) := by decide +kernel
theorem dX11_work_69 : decode cX11_work 69 = .ok (.iload 4, 2) := by decide +kernel
theorem dX11_work_71 : decode cX11_work 71 = .ok (.ifCond .ge 10, 3) := by decide +kernel
theorem dX11_work_74 : decode cX11_work 74 = .ok (.aload_n 0, 1) := by decide +kernel
theorem dX11_work_75 : decode cX11_work 75 = .ok (.iload 4, 2) := by decide +kernel
theorem dX11_work_77 : decode cX11_work 77 = .ok (.invokevirtual 134, 3) := by decide +kernel
theorem dX11_work_80 : decode cX11_work 80 = .ok (.ireturn, 1) := by decide +kernel
theorem dX11_work_81 : decode cX11_work 81 = .ok (.aload_n 0, 1) := by decide +kernel
theorem dX11_work_82 : decode cX11_work 82 = .ok (.iload_n 1, 1) := by decide +kernel
theorem dX11_work_83 : decode cX11_work 83 = .ok (.iload_n 2, 1) := by decide +kernel
theorem dX11_work_84 : decode cX11_work 84 = .ok (.iload_n 3, 1) := by decide +kernel
theorem dX11_work_85 : decode cX11_work 85 = .ok (.invokevirtual 174, 3) := by decide +kernel
theorem dX11_work_88 : decode cX11_work 88 = .ok (.aload_n 0, 1) := by decide +kernel
theorem dX11_work_89 : decode cX11_work 89 = .ok (.iconst 0, 1) := by decide +kernel
theorem dX11_work_90 : decode cX11_work 90 = .ok (.putfield 203, 3) := by decide +kernel
theorem dX11_work_93 : decode cX11_work 93 = .ok (.aload_n 0, 1) := by decide +kernel
theorem dX11_work_94 : decode cX11_work 94 = .ok (.getfield 93, 3) := by decide +kernel
theorem dX11_work_97 : decode cX11_work 97 = .ok (.iconst 1, 1) := by decide +kernel
theorem dX11_work_98 : decode cX11_work 98 = .ok (.isub, 1) := by decide +kernel
theorem dX11_work_99 : decode cX11_work 99 = .ok (.ireturn, 1) := by decide +kernel
theorem dX11_builds_0 : decode cX11_builds 0 = .ok (.aload_n 0, 1) := by decide +kernel
theorem dX11_builds_1 : decode cX11_builds 1 = .ok (.iconst 0, 1) := by decide +kernel
theorem dX11_builds_2 : decode cX11_builds 2 = .ok (.putfield 83, 3) := by decide +kernel
theorem dX11_builds_5 : decode cX11_builds 5 = .ok (.aload_n 0, 1) := by decide +kernel
theorem dX11_builds_6 : decode cX11_builds 6 = .ok (.iload_n 1, 1) := by decide +kernel
theorem dX11_builds_7 : decode cX11_builds 7 = .ok (.invokevirtual 177, 3) := by decide +kernel
theorem dX11_builds_10 : decode cX11_builds 10 = .ok (.ifCond .ne 7, 3) := by decide +kernel
theorem dX11_builds_13 : decode cX11_builds 13 = .ok (.iconst (-1), 1) := by decide +kernel
theorem dX11_builds_14 : decode cX11_builds 14 = .ok (.goto 18, 3) := by decide +kernel
theorem dX11_builds_17 : decode cX11_builds 17 = .ok (.aload_n 0, 1) := by decide +kernel
theorem dX11_builds_18 : decode cX11_builds 18 = .ok (.getfield 35, 3) := by decide +kernel
theorem dX11_builds_21 : decode cX11_builds 21 = .ok (.iload_n 1, 1) := by decide +kernel
theorem dX11_builds_22 : decode cX11_builds 22 = .ok (.iaload, 1) := by decide +kernel
theorem dX11_builds_23 : decode cX11_builds 23 = .ok (.ifCond .le 8, 3) := by decide +kernel
theorem dX11_builds_26 : decode cX11_builds 26 = .ok (.bipush (-3), 2) := by decide +kernel
theorem dX11_builds_28 : decode cX11_builds 28 = .ok (.goto 4, 3) := by decide +kernel
theorem dX11_builds_31 : decode cX11_builds 31 = .ok (.iconst 0, 1) := by decide +kernel
theorem dX11_builds_32 : decode cX11_builds 32 = .ok (.istore_n 2, 1) := by decide +kernel
theorem dX11_builds_33 : decode cX11_builds 33 = .ok (.iload_n 2, 1) := by decide +kernel
theorem dX11_builds_34 : decode cX11_builds 34 = .ok (.ifCond .ge 9, 3) := by decide +kernel
theorem dX11_builds_37 : decode cX11_builds 37 = .ok (.aload_n 0, 1) := by decide +kernel
theorem dX11_builds_38 : decode cX11_builds 38 = .ok (.iload_n 2, 1) := by decide +kernel
theorem dX11_builds_39 : decode cX11_builds 39 = .ok (.invokevirtual 134, 3) := by decide +kernel
theorem dX11_builds_42 : decode cX11_builds 42 = .ok (.ireturn, 1) := by decide +kernel
theorem dX11_builds_43 : decode cX11_builds 43 = .ok (.aload_n 0, 1) := by decide +kernel
theorem dX11_builds_44 : decode cX11_builds 44 = .ok (.invokevirtual 232, 3) := by decide +kernel
theorem dX11_builds_47 : decode cX11_builds 47 = .ok (.aload_n 0, 1) := by decide +kernel
theorem dX11_builds_48 : decode cX11_builds 48 = .ok (.iload_n 1, 1) := by decide +kernel
theorem dX11_builds_49 : decode cX11_builds 49 = .ok (.invokevirtual 180, 3) := by decide +kernel
theorem dX11_builds_52 : decode cX11_builds 52 = .ok (.aload_n 0, 1) := by decide +kernel
theorem dX11_builds_53 : decode cX11_builds 53 = .ok (.invokevirtual 235, 3) := by decide +kernel
theorem dX11_builds_56 : decode cX11_builds 56 = .ok (.ireturn, 1) := by decide +kernel
theorem dX11_years_0 : decode cX11_years 0 = .ok (.aload_n 0, 1) := by decide +kernel
theorem dX11_years_1 : decode cX11_years 1 = .ok (.iconst 0, 1) := by decide +kernel
theorem dX11_years_2 : decode cX11_years 2 = .ok (.putfield 83, 3) := by decide +kernel
theorem dX11_years_5 : decode cX11_years 5 = .ok (.iload_n 1, 1) := by decide +kernel
theorem dX11_years_6 : decode cX11_years 6 = .ok (.iconst 1, 1) := by decide +kernel
theorem dX11_years_7 : decode cX11_years 7 = .ok (.bipush 60, 2) := by decide +kernel
theorem dX11_years_9 : decode cX11_years 9 = .ok (.invokestatic 238, 3) := by decide +kernel
theorem dX11_years_12 : decode cX11_years 12 = .ok (.istore_n 2, 1) := by decide +kernel
theorem dX11_years_13 : decode cX11_years 13 = .ok (.iload_n 2, 1) := by decide +kernel
theorem dX11_years_14 : decode cX11_years 14 = .ok (.ifCond .ne 20, 3) := by decide +kernel
theorem dX11_years_17 : decode cX11_years 17 = .ok (.aload_n 0, 1) := by decide +kernel
theorem dX11_years_18 : decode cX11_years 18 = .ok (.getfield 122, 3) := by decide +kernel
theorem dX11_years_21 : decode cX11_years 21 = .ok (.iload_n 1, 1) := by decide +kernel
theorem dX11_years_22 : decode cX11_years 22 = .ok (.iadd, 1) := by decide +kernel
theorem dX11_years_23 : decode cX11_years 23 = .ok (.sipush 999, 3) := by decide +kernel
theorem dX11_years_26 : decode cX11_years 26 = .ok (.if_icmp .le 8, 3) := by decide +kernel
theorem dX11_years_29 : decode cX11_years 29 = .ok (.bipush (-6), 2) := by decide +kernel
theorem dX11_years_31 : decode cX11_years 31 = .ok (.goto 4, 3) := by decide +kernel
theorem dX11_years_34 : decode cX11_years 34 = .ok (.iload_n 2, 1) := by decide +kernel
theorem dX11_years_35 : decode cX11_years 35 = .ok (.istore_n 2, 1) := by decide +kernel
theorem dX11_years_36 : decode cX11_years 36 = .ok (.iload_n 2, 1) := by decide +kernel
theorem dX11_years_37 : decode cX11_years 37 = .ok (.ifCond .ge 9, 3) := by decide +kernel
theorem dX11_years_40 : decode cX11_years 40 = .ok (.aload_n 0, 1) := by decide +kernel
theorem dX11_years_41 : decode cX11_years 41 = .ok (.iload_n 2, 1) := by decide +kernel
theorem dX11_years_42 : decode cX11_years 42 = .ok (.invokevirtual 134, 3) := by decide +kernel
theorem dX11_years_45 : decode cX11_years 45 = .ok (.ireturn, 1) := by decide +kernel
theorem dX11_years_46 : decode cX11_years 46 = .ok (.aload_n 0, 1) := by decide +kernel
theorem dX11_years_47 : decode cX11_years 47 = .ok (.invokevirtual 232, 3) := by decide +kernel
theorem dX11_years_50 : decode cX11_years 50 = .ok (.aload_n 0, 1) := by decide +kernel
theorem dX11_years_51 : decode cX11_years 51 = .ok (.iload_n 1, 1) := by decide +kernel
theorem dX11_years_52 : decode cX11_years 52 = .ok (.invokevirtual 185, 3) := by decide +kernel
theorem dX11_years_55 : decode cX11_years 55 = .ok (.aload_n 0, 1) := by decide +kernel
theorem dX11_years_56 : decode cX11_years 56 = .ok (.invokevirtual 235, 3) := by decide +kernel
theorem dX11_years_59 : decode cX11_years 59 = .ok (.ireturn, 1) := by decide +kernel
theorem dX11_debt_0 : decode cX11_debt 0 = .ok (.aload_n 0, 1) := by decide +kernel
theorem dX11_debt_1 : decode cX11_debt 1 = .ok (.iconst 0, 1) := by decide +kernel
theorem dX11_debt_2 : decode cX11_debt 2 = .ok (.putfield 83, 3) := by decide +kernel
theorem dX11_debt_5 : decode cX11_debt 5 = .ok (.aload_n 0, 1) := by decide +kernel
theorem dX11_debt_6 : decode cX11_debt 6 = .ok (.iload_n 1, 1) := by decide +kernel
theorem dX11_debt_7 : decode cX11_debt 7 = .ok (.invokevirtual 188, 3) := by decide +kernel
theorem dX11_debt_10 : decode cX11_debt 10 = .ok (.ifCond .eq 13, 3) := by decide +kernel
theorem dX11_debt_13 : decode cX11_debt 13 = .ok (.iload_n 2, 1) := by decide +kernel
theorem dX11_debt_14 : decode cX11_debt 14 = .ok (.iconst 0, 1) := by decide +kernel
theorem dX11_debt_15 : decode cX11_debt 15 = .ok (.ldc 96, 2) := by decide +kernel
theorem dX11_debt_17 : decode cX11_debt 17 = .ok (.invokestatic 238, 3) := by decide +kernel
theorem dX11_debt_20 : decode cX11_debt 20 = .ok (.goto 4, 3) := by decide +kernel
theorem dX11_debt_23 : decode cX11_debt 23 = .ok (.iconst (-1), 1) := by decide +kernel
theorem dX11_debt_24 : decode cX11_debt 24 = .ok (.istore_n 3, 1) := by decide +kernel
theorem dX11_debt_25 : decode cX11_debt 25 = .ok (.iload_n 3, 1) := by decide +kernel
theorem dX11_debt_26 : decode cX11_debt 26 = .ok (.ifCond .ge 9, 3) := by decide +kernel
theorem dX11_debt_29 : decode cX11_debt 29 = .ok (.aload_n 0, 1) := by decide +kernel
theorem dX11_debt_30 : decode cX11_debt 30 = .ok (.iload_n 3, 1) := by decide +kernel
theorem dX11_debt_31 : decode cX11_debt 31 = .ok (.invokevirtual 134, 3) := by decide +kernel
theorem dX11_debt_34 : decode cX11_debt 34 = .ok (.ireturn, 1) := by decide +kernel
theorem dX11_debt_35 : decode cX11_debt 35 = .ok (.aload_n 0, 1) := by decide +kernel
theorem dX11_debt_36 : decode cX11_debt 36 = .ok (.invokevirtual 232, 3) := by decide +kernel
theorem dX11_debt_39 : decode cX11_debt 39 = .ok (.aload_n 0, 1) := by decide +kernel
theorem dX11_debt_40 : decode cX11_debt 40 = .ok (.getfield 13, 3) := by decide +kernel
theorem dX11_debt_43 : decode cX11_debt 43 = .ok (.iload_n 1, 1) := by decide +kernel
theorem dX11_debt_44 : decode cX11_debt 44 = .ok (.iaload, 1) := by decide +kernel
theorem dX11_debt_45 : decode cX11_debt 45 = .ok (.istore 4, 2) := by decide +kernel
theorem dX11_debt_47 : decode cX11_debt 47 = .ok (.aload_n 0, 1) := by decide +kernel
theorem dX11_debt_48 : decode cX11_debt 48 = .ok (.getfield 13, 3) := by decide +kernel
theorem dX11_debt_51 : decode cX11_debt 51 = .ok (.iload_n 1, 1) := by decide +kernel
theorem dX11_debt_52 : decode cX11_debt 52 = .ok (.iload_n 2, 1) := by decide +kernel
theorem dX11_debt_53 : decode cX11_debt 53 = .ok (.iastore, 1) := by decide +kernel
theorem dX11_debt_54 : decode cX11_debt 54 = .ok (.iload 4, 2) := by decide +kernel
theorem dX11_debt_56 : decode cX11_debt 56 = .ok (.ireturn, 1) := by decide +kernel
theorem dX11_rate_0 : decode cX11_rate 0 = .ok (.aload_n 0, 1) := by decide +kernel
theorem dX11_rate_1 : decode cX11_rate 1 = .ok (.iconst 0, 1) := by decide +kernel
theorem dX11_rate_2 : decode cX11_rate 2 = .ok (.putfield 83, 3) := by decide +kernel
theorem dX11_rate_5 : decode cX11_rate 5 = .ok (.iload_n 1, 1) := by decide +kernel
theorem dX11_rate_6 : decode cX11_rate 6 = .ok (.iconst 0, 1) := by decide +kernel
theorem dX11_rate_7 : decode cX11_rate 7 = .ok (.bipush 20, 2) := by decide +kernel
theorem dX11_rate_9 : decode cX11_rate 9 = .ok (.invokestatic 238, 3) := by decide +kernel
theorem dX11_rate_12 : decode cX11_rate 12 = .ok (.ifCond .ge 15, 3) := by decide +kernel
theorem dX11_rate_15 : decode cX11_rate 15 = .ok (.aload_n 0, 1) := by decide +kernel
theorem dX11_rate_16 : decode cX11_rate 16 = .ok (.iload_n 1, 1) := by decide +kernel
theorem dX11_rate_17 : decode cX11_rate 17 = .ok (.iconst 0, 1) := by decide +kernel
theorem dX11_rate_18 : decode cX11_rate 18 = .ok (.bipush 20, 2) := by decide +kernel
theorem dX11_rate_20 : decode cX11_rate 20 = .ok (.invokestatic 238, 3) := by decide +kernel
theorem dX11_rate_23 : decode cX11_rate 23 = .ok (.invokevirtual 134, 3) := by decide +kernel
theorem dX11_rate_26 : decode cX11_rate 26 = .ok (.ireturn, 1) := by decide +kernel
theorem dX11_rate_27 : decode cX11_rate 27 = .ok (.aload_n 0, 1) := by decide +kernel
theorem dX11_rate_28 : decode cX11_rate 28 = .ok (.invokevirtual 232, 3) := by decide +kernel
theorem dX11_rate_31 : decode cX11_rate 31 = .ok (.aload_n 0, 1) := by decide +kernel
theorem dX11_rate_32 : decode cX11_rate 32 = .ok (.getfield 22, 3) := by decide +kernel
theorem dX11_rate_35 : decode cX11_rate 35 = .ok (.istore_n 2, 1) := by decide +kernel
theorem dX11_rate_36 : decode cX11_rate 36 = .ok (.aload_n 0, 1) := by decide +kernel
theorem dX11_rate_37 : decode cX11_rate 37 = .ok (.iload_n 1, 1) := by decide +kernel
theorem dX11_rate_38 : decode cX11_rate 38 = .ok (.putfield 22, 3) := by decide +kernel
theorem dX11_rate_41 : decode cX11_rate 41 = .ok (.iload_n 2, 1) := by decide +kernel
theorem dX11_rate_42 : decode cX11_rate 42 = .ok (.ireturn, 1) := by decide +kernel
theorem dX11_behind_0 : decode cX11_behind 0 = .ok (.aload_n 0, 1) := by decide +kernel
theorem dX11_behind_1 : decode cX11_behind 1 = .ok (.iconst 0, 1) := by decide +kernel
theorem dX11_behind_2 : decode cX11_behind 2 = .ok (.putfield 83, 3) := by decide +kernel
theorem dX11_behind_5 : decode cX11_behind 5 = .ok (.aload_n 0, 1) := by decide +kernel
theorem dX11_behind_6 : decode cX11_behind 6 = .ok (.iload_n 1, 1) := by decide +kernel
theorem dX11_behind_7 : decode cX11_behind 7 = .ok (.invokevirtual 188, 3) := by decide +kernel
theorem dX11_behind_10 : decode cX11_behind 10 = .ok (.ifCond .eq 13, 3) := by decide +kernel
theorem dX11_behind_13 : decode cX11_behind 13 = .ok (.iload_n 2, 1) := by decide +kernel
theorem dX11_behind_14 : decode cX11_behind 14 = .ok (.iconst 0, 1) := by decide +kernel
theorem dX11_behind_15 : decode cX11_behind 15 = .ok (.bipush 100, 2) := by decide +kernel
theorem dX11_behind_17 : decode cX11_behind 17 = .ok (.invokestatic 238, 3) := by decide +kernel
theorem dX11_behind_20 : decode cX11_behind 20 = .ok (.goto 4, 3) := by decide +kernel
theorem dX11_behind_23 : decode cX11_behind 23 = .ok (.iconst (-1), 1) := by decide +kernel
theorem dX11_behind_24 : decode cX11_behind 24 = .ok (.iload_n 3, 1) := by decide +kernel
theorem dX11_behind_25 : decode cX11_behind 25 = .ok (.iconst 2, 1) := by decide +kernel
theorem dX11_behind_26 : decode cX11_behind 26 = .ok (.invokestatic 241, 3) := by decide +kernel
theorem dX11_behind_29 : decode cX11_behind 29 = .ok (.istore 4, 2) := by decide +kernel
theorem dX11_behind_31 : decode cX11_behind 31 = .ok (.iload 4, 2) := by decide +kernel
theorem dX11_behind_33 : decode cX11_behind 33 = .ok (.ifCond .ge 10, 3) := by decide +kernel
theorem dX11_behind_36 : decode cX11_behind 36 = .ok (.aload_n 0, 1) := by decide +kernel
theorem dX11_behind_37 : decode cX11_behind 37 = .ok (.iload 4, 2) := by decide +kernel
theorem dX11_behind_39 : decode cX11_behind 39 = .ok (.invokevirtual 134, 3) := by decide +kernel
theorem dX11_behind_42 : decode cX11_behind 42 = .ok (.ireturn, 1) := by decide +kernel
theorem dX11_behind_43 : decode cX11_behind 43 = .ok (.aload_n 0, 1) := by decide +kernel
theorem dX11_behind_44 : decode cX11_behind 44 = .ok (.invokevirtual 194, 3) := by decide +kernel
theorem dX11_behind_47 : decode cX11_behind 47 = .ok (.aload_n 0, 1) := by decide +kernel
theorem dX11_behind_48 : decode cX11_behind 48 = .ok (.iload_n 2, 1) := by decide +kernel
theorem dX11_behind_49 : decode cX11_behind 49 = .ok (.invokevirtual 185, 3) := by decide +kernel
theorem dX11_behind_52 : decode cX11_behind 52 = .ok (.iload_n 3, 1) := by decide +kernel
theorem dX11_behind_53 : decode cX11_behind 53 = .ok (.ifCond .ne 12, 3) := by decide +kernel
theorem dX11_behind_56 : decode cX11_behind 56 = .ok (.aload_n 0, 1) := by decide +kernel
theorem dX11_behind_57 : decode cX11_behind 57 = .ok (.getfield 13, 3) := by decide +kernel
theorem dX11_behind_60 : decode cX11_behind 60 = .ok (.iload_n 1, 1) := by decide +kernel
theorem dX11_behind_61 : decode cX11_behind 61 = .ok (.iaload, 1) := by decide +kernel
theorem dX11_behind_62 : decode cX11_behind 62 = .ok (.goto 22, 3) := by decide +kernel
theorem dX11_behind_65 : decode cX11_behind 65 = .ok (.iload_n 3, 1) := by decide +kernel
theorem dX11_behind_66 : decode cX11_behind 66 = .ok (.iconst 1, 1) := by decide +kernel
theorem dX11_behind_67 : decode cX11_behind 67 = .ok (.if_icmp .ne 12, 3) := by decide +kernel
theorem dX11_behind_70 : decode cX11_behind 70 = .ok (.aload_n 0, 1) := by decide +kernel
theorem dX11_behind_71 : decode cX11_behind 71 = .ok (.getfield 7, 3) := by decide +kernel
theorem dX11_behind_74 : decode cX11_behind 74 = .ok (.iload_n 1, 1) := by decide +kernel
theorem dX11_behind_75 : decode cX11_behind 75 = .ok (.iaload, 1) := by decide +kernel
theorem dX11_behind_76 : decode cX11_behind 76 = .ok (.goto 8, 3) := by decide +kernel
theorem dX11_behind_79 : decode cX11_behind 79 = .ok (.aload_n 0, 1) := by decide +kernel
theorem dX11_behind_80 : decode cX11_behind 80 = .ok (.iload_n 1, 1) := by decide +kernel
theorem dX11_behind_81 : decode cX11_behind 81 = .ok (.invokevirtual 227, 3) := by decide +kernel
theorem dX11_behind_84 : decode cX11_behind 84 = .ok (.istore 5, 2) := by decide +kernel
theorem dX11_behind_86 : decode cX11_behind 86 = .ok (.aload_n 0, 1) := by decide +kernel
theorem dX11_behind_87 : decode cX11_behind 87 = .ok (.invokevirtual 200, 3) := by decide +kernel
theorem dX11_behind_90 : decode cX11_behind 90 = .ok (.iload 5, 2) := by decide +kernel
theorem dX11_behind_92 : decode cX11_behind 92 = .ok (.ireturn, 1) := by decide +kernel
theorem dX11_allIn_0 : decode cX11_allIn 0 = .ok (.aload_n 0, 1) := by decide +kernel
theorem dX11_allIn_1 : decode cX11_allIn 1 = .ok (.iload_n 1, 1) := by decide +kernel
theorem dX11_allIn_2 : decode cX11_allIn 2 = .ok (.invokevirtual 185, 3) := by decide +kernel
theorem dX11_allIn_5 : decode cX11_allIn 5 = .ok (.aload_n 0, 1) := by decide +kernel
theorem dX11_allIn_6 : decode cX11_allIn 6 = .ok (.invokevirtual 235, 3) := by decide +kernel
theorem dX11_allIn_9 : decode cX11_allIn 9 = .ok (.istore_n 2, 1) := by decide +kernel
theorem dX11_allIn_10 : decode cX11_allIn 10 = .ok (.aload_n 0, 1) := by decide +kernel
theorem dX11_allIn_11 : decode cX11_allIn 11 = .ok (.invokevirtual 200, 3) := by decide +kernel
theorem dX11_allIn_14 : decode cX11_allIn 14 = .ok (.iload_n 2, 1) := by decide +kernel
theorem dX11_allIn_15 : decode cX11_allIn 15 = .ok (.ireturn, 1) := by decide +kernel
theorem dX11_all_0 : decode cX11_all 0 = .ok (.aload_n 0, 1) := by decide +kernel
theorem dX11_all_1 : decode cX11_all 1 = .ok (.iconst 0, 1) := by decide +kernel
theorem dX11_all_2 : decode cX11_all 2 = .ok (.putfield 83, 3) := by decide +kernel
theorem dX11_all_5 : decode cX11_all 5 = .ok (.iload_n 1, 1) := by decide +kernel
theorem dX11_all_6 : decode cX11_all 6 = .ok (.iconst 0, 1) := by decide +kernel
theorem dX11_all_7 : decode cX11_all 7 = .ok (.bipush 100, 2) := by decide +kernel
theorem dX11_all_9 : decode cX11_all 9 = .ok (.invokestatic 238, 3) := by decide +kernel
theorem dX11_all_12 : decode cX11_all 12 = .ok (.ifCond .ge 15, 3) := by decide +kernel
theorem dX11_all_15 : decode cX11_all 15 = .ok (.aload_n 0, 1) := by decide +kernel
theorem dX11_all_16 : decode cX11_all 16 = .ok (.iload_n 1, 1) := by decide +kernel
theorem dX11_all_17 : decode cX11_all 17 = .ok (.iconst 0, 1) := by decide +kernel
theorem dX11_all_18 : decode cX11_all 18 = .ok (.bipush 100, 2) := by decide +kernel
theorem dX11_all_20 : decode cX11_all 20 = .ok (.invokestatic 238, 3) := by decide +kernel
theorem dX11_all_23 : decode cX11_all 23 = .ok (.invokevirtual 134, 3) := by decide +kernel
theorem dX11_all_26 : decode cX11_all 26 = .ok (.ireturn, 1) := by decide +kernel
theorem dX11_all_27 : decode cX11_all 27 = .ok (.aload_n 0, 1) := by decide +kernel
theorem dX11_all_28 : decode cX11_all 28 = .ok (.invokevirtual 194, 3) := by decide +kernel
theorem dX11_all_31 : decode cX11_all 31 = .ok (.aload_n 0, 1) := by decide +kernel
theorem dX11_all_32 : decode cX11_all 32 = .ok (.iload_n 1, 1) := by decide +kernel
theorem dX11_all_33 : decode cX11_all 33 = .ok (.invokevirtual 244, 3) := by decide +kernel
theorem dX11_all_36 : decode cX11_all 36 = .ok (.ireturn, 1) := by decide +kernel
theorem dX11_solventIn_0 : decode cX11_solventIn 0 = .ok (.iconst 0, 1) := by decide +kernel
theorem dX11_solventIn_1 : decode cX11_solventIn 1 = .ok (.istore_n 2, 1) := by decide +kernel
theorem dX11_solventIn_2 : decode cX11_solventIn 2 = .ok (.aload_n 0, 1) := by decide +kernel
theorem dX11_solventIn_3 : decode cX11_solventIn 3 = .ok (.invokevirtual 194, 3) := by decide +kernel
theorem dX11_solventIn_6 : decode cX11_solventIn 6 = .ok (.iload_n 2, 1) := by decide +kernel
theorem dX11_solventIn_7 : decode cX11_solventIn 7 = .ok (.bipush 100, 2) := by decide +kernel
theorem dX11_solventIn_9 : decode cX11_solventIn 9 = .ok (.if_icmp .gt 22, 3) := by decide +kernel
theorem dX11_solventIn_12 : decode cX11_solventIn 12 = .ok (.aload_n 0, 1) := by decide +kernel
theorem dX11_solventIn_13 : decode cX11_solventIn 13 = .ok (.getfield 13, 3) := by decide +kernel
theorem dX11_solventIn_16 : decode cX11_solventIn 16 = .ok (.iload_n 1, 1) := by decide +kernel
theorem dX11_solventIn_17 : decode cX11_solventIn 17 = .ok (.iaload, 1) := by decide +kernel
theorem dX11_solventIn_18 : decode cX11_solventIn 18 = .ok (.ifCond .le 13, 3) := by decide +kernel
theorem dX11_solventIn_21 : decode cX11_solventIn 21 = .ok (.aload_n 0, 1) := by decide +kernel
theorem dX11_solventIn_22 : decode cX11_solventIn 22 = .ok (.invokevirtual 131, 3) := by decide +kernel
theorem dX11_solventIn_25 : decode cX11_solventIn 25 = .ok (.iinc 2 1, 3) := by decide +kernel
theorem dX11_solventIn_28 : decode cX11_solventIn 28 = .ok (.goto (-22), 3) := by decide +kernel
theorem dX11_solventIn_31 : decode cX11_solventIn 31 = .ok (.aload_n 0, 1) := by decide +kernel
theorem dX11_solventIn_32 : decode cX11_solventIn 32 = .ok (.invokevirtual 200, 3) := by decide +kernel
theorem dX11_solventIn_35 : decode cX11_solventIn 35 = .ok (.iload_n 2, 1) := by decide +kernel
theorem dX11_solventIn_36 : decode cX11_solventIn 36 = .ok (.bipush 100, 2) := by decide +kernel
theorem dX11_solventIn_38 : decode cX11_solventIn 38 = .ok (.if_icmp .le 8, 3) := by decide +kernel
theorem dX11_solventIn_41 : decode cX11_solventIn 41 = .ok (.bipush (-9), 2) := by decide +kernel
theorem dX11_solventIn_43 : decode cX11_solventIn 43 = .ok (.goto 4, 3) := by decide +kernel
theorem dX11_solventIn_46 : decode cX11_solventIn 46 = .ok (.iload_n 2, 1) := by decide +kernel
theorem dX11_solventIn_47 : decode cX11_solventIn 47 = .ok (.ireturn, 1) := by decide +kernel
theorem dX11_solvent_0 : decode cX11_solvent 0 = .ok (.aload_n 0, 1) := by decide +kernel
theorem dX11_solvent_1 : decode cX11_solvent 1 = .ok (.iconst 0, 1) := by decide +kernel
theorem dX11_solvent_2 : decode cX11_solvent 2 = .ok (.putfield 83, 3) := by decide +kernel
theorem dX11_solvent_5 : decode cX11_solvent 5 = .ok (.aload_n 0, 1) := by decide +kernel
theorem dX11_solvent_6 : decode cX11_solvent 6 = .ok (.iload_n 1, 1) := by decide +kernel
theorem dX11_solvent_7 : decode cX11_solvent 7 = .ok (.invokevirtual 188, 3) := by decide +kernel
theorem dX11_solvent_10 : decode cX11_solvent 10 = .ok (.ifCond .eq 11, 3) := by decide +kernel
theorem dX11_solvent_13 : decode cX11_solvent 13 = .ok (.aload_n 0, 1) := by decide +kernel
theorem dX11_solvent_14 : decode cX11_solvent 14 = .ok (.iload_n 1, 1) := by decide +kernel
theorem dX11_solvent_15 : decode cX11_solvent 15 = .ok (.invokevirtual 247, 3) := by decide +kernel
theorem dX11_solvent_18 : decode cX11_solvent 18 = .ok (.goto 8, 3) := by decide +kernel
theorem dX11_solvent_21 : decode cX11_solvent 21 = .ok (.aload_n 0, 1) := by decide +kernel
theorem dX11_solvent_22 : decode cX11_solvent 22 = .ok (.iconst (-1), 1) := by decide +kernel
theorem dX11_solvent_23 : decode cX11_solvent 23 = .ok (.invokevirtual 134, 3) := by decide +kernel
theorem dX11_solvent_26 : decode cX11_solvent 26 = .ok (.ireturn, 1) := by decide +kernel
theorem dX11_stuckIn_0 : decode cX11_stuckIn 0 = .ok (.bipush (-9), 2) := by decide +kernel
theorem dX11_stuckIn_2 : decode cX11_stuckIn 2 = .ok (.istore_n 1, 1) := by decide +kernel
theorem dX11_stuckIn_3 : decode cX11_stuckIn 3 = .ok (.aload_n 0, 1) := by decide +kernel
theorem dX11_stuckIn_4 : decode cX11_stuckIn 4 = .ok (.invokevirtual 194, 3) := by decide +kernel
theorem dX11_stuckIn_7 : decode cX11_stuckIn 7 = .ok (.iconst 0, 1) := by decide +kernel
theorem dX11_stuckIn_8 : decode cX11_stuckIn 8 = .ok (.istore_n 2, 1) := by decide +kernel
theorem dX11_stuckIn_9 : decode cX11_stuckIn 9 = .ok (.iload_n 2, 1) := by decide +kernel
theorem dX11_stuckIn_10 : decode cX11_stuckIn 10 = .ok (.bipush 100, 2) := by decide +kernel
theorem dX11_stuckIn_12 : decode cX11_stuckIn 12 = .ok (.if_icmp .gt 50, 3) := by decide +kernel
theorem dX11_stuckIn_15 : decode cX11_stuckIn 15 = .ok (.iload_n 1, 1) := by decide +kernel
theorem dX11_stuckIn_16 : decode cX11_stuckIn 16 = .ok (.ifCond .ge 46, 3) := by decide +kernel
theorem dX11_stuckIn_19 : decode cX11_stuckIn 19 = .ok (.iconst 0, 1) := by decide +kernel
theorem dX11_stuckIn_20 : decode cX11_stuckIn 20 = .ok (.istore_n 3, 1) := by decide +kernel
theorem dX11_stuckIn_21 : decode cX11_stuckIn 21 = .ok (.iload_n 3, 1) := by decide +kernel
theorem dX11_stuckIn_22 : decode cX11_stuckIn 22 = .ok (.aload_n 0, 1) := by decide +kernel
theorem dX11_stuckIn_23 : decode cX11_stuckIn 23 = .ok (.getfield 86, 3) := by decide +kernel
theorem dX11_stuckIn_26 : decode cX11_stuckIn 26 = .ok (.if_icmp .ge 26, 3) := by decide +kernel
theorem dX11_stuckIn_29 : decode cX11_stuckIn 29 = .ok (.aload_n 0, 1) := by decide +kernel
theorem dX11_stuckIn_30 : decode cX11_stuckIn 30 = .ok (.getfield 13, 3) := by decide +kernel
theorem dX11_stuckIn_33 : decode cX11_stuckIn 33 = .ok (.iload_n 3, 1) := by decide +kernel
theorem dX11_stuckIn_34 : decode cX11_stuckIn 34 = .ok (.iaload, 1) := by decide +kernel
theorem dX11_stuckIn_35 : decode cX11_stuckIn 35 = .ok (.ldc 96, 2) := by decide +kernel
theorem dX11_stuckIn_37 : decode cX11_stuckIn 37 = .ok (.if_icmp .ne 7, 3) := by decide +kernel
theorem dX11_stuckIn_40 : decode cX11_stuckIn 40 = .ok (.iload_n 2, 1) := by decide +kernel
theorem dX11_stuckIn_41 : decode cX11_stuckIn 41 = .ok (.goto 4, 3) := by decide +kernel
theorem dX11_stuckIn_44 : decode cX11_stuckIn 44 = .ok (.iload_n 1, 1) := by decide +kernel
theorem dX11_stuckIn_45 : decode cX11_stuckIn 45 = .ok (.istore_n 1, 1) := by decide +kernel
theorem dX11_stuckIn_46 : decode cX11_stuckIn 46 = .ok (.iinc 3 1, 3) := by decide +kernel
theorem dX11_stuckIn_49 : decode cX11_stuckIn 49 = .ok (.goto (-28), 3) := by decide +kernel
theorem dX11_stuckIn_52 : decode cX11_stuckIn 52 = .ok (.aload_n 0, 1) := by decide +kernel
theorem dX11_stuckIn_53 : decode cX11_stuckIn 53 = .ok (.invokevirtual 131, 3) := by decide +kernel
theorem dX11_stuckIn_56 : decode cX11_stuckIn 56 = .ok (.iinc 2 1, 3) := by decide +kernel
theorem dX11_stuckIn_59 : decode cX11_stuckIn 59 = .ok (.goto (-50), 3) := by decide +kernel
theorem dX11_stuckIn_62 : decode cX11_stuckIn 62 = .ok (.aload_n 0, 1) := by decide +kernel
theorem dX11_stuckIn_63 : decode cX11_stuckIn 63 = .ok (.invokevirtual 200, 3) := by decide +kernel
theorem dX11_stuckIn_66 : decode cX11_stuckIn 66 = .ok (.iload_n 1, 1) := by decide +kernel
theorem dX11_stuckIn_67 : decode cX11_stuckIn 67 = .ok (.ireturn, 1) := by decide +kernel
theorem dX11_growBits_0 : decode cX11_growBits 0 = .ok (.iconst 0, 1) := by decide +kernel
theorem dX11_growBits_1 : decode cX11_growBits 1 = .ok (.istore_n 1, 1) := by decide +kernel
theorem dX11_growBits_2 : decode cX11_growBits 2 = .ok (.aload_n 0, 1) := by decide +kernel
theorem dX11_growBits_3 : decode cX11_growBits 3 = .ok (.invokevirtual 194, 3) := by decide +kernel
theorem dX11_growBits_6 : decode cX11_growBits 6 = .ok (.aload_n 0, 1) := by decide +kernel
theorem dX11_growBits_7 : decode cX11_growBits 7 = .ok (.invokevirtual 131, 3) := by decide +kernel
theorem dX11_growBits_10 : decode cX11_growBits 10 = .ok (.iconst 0, 1) := by decide +kernel
theorem dX11_growBits_11 : decode cX11_growBits 11 = .ok (.istore_n 2, 1) := by decide +kernel
theorem dX11_growBits_12 : decode cX11_growBits 12 = .ok (.iload_n 2, 1) := by decide +kernel
theorem dX11_growBits_13 : decode cX11_growBits 13 = .ok (.aload_n 0, 1) := by decide +kernel
theorem dX11_growBits_14 : decode cX11_growBits 14 = .ok (.getfield 86, 3) := by decide +kernel
theorem dX11_growBits_17 : decode cX11_growBits 17 = .ok (.if_icmp .ge 40, 3) := by decide +kernel
theorem dX11_growBits_20 : decode cX11_growBits 20 = .ok (.aload_n 0, 1) := by decide +kernel
theorem dX11_growBits_21 : decode cX11_growBits 21 = .ok (.getfield 13, 3) := by decide +kernel
theorem dX11_growBits_24 : decode cX11_growBits 24 = .ok (.iload_n 2, 1) := by decide +kernel
theorem dX11_growBits_25 : decode cX11_growBits 25 = .ok (.iaload, 1) := by decide +kernel
theorem dX11_growBits_26 : decode cX11_growBits 26 = .ok (.istore_n 3, 1) := by decide +kernel
theorem dX11_growBits_27 : decode cX11_growBits 27 = .ok (.iload_n 1, 1) := by decide +kernel
theorem dX11_growBits_28 : decode cX11_growBits 28 = .ok (.iload_n 3, 1) := by decide +kernel
theorem dX11_growBits_29 : decode cX11_growBits 29 = .ok (.aload_n 0, 1) := by decide +kernel
theorem dX11_growBits_30 : decode cX11_growBits 30 = .ok (.getfield 62, 3) := by decide +kernel
theorem dX11_growBits_33 : decode cX11_growBits 33 = .ok (.iconst 5, 1) := by decide +kernel
theorem dX11_growBits_34 : decode cX11_growBits 34 = .ok (.iconst 4, 1) := by decide +kernel
theorem dX11_growBits_35 : decode cX11_growBits 35 = .ok (.iload_n 2, 1) := by decide +kernel
theorem dX11_growBits_36 : decode cX11_growBits 36 = .ok (.imul, 1) := by decide +kernel
theorem dX11_growBits_37 : decode cX11_growBits 37 = .ok (.iadd, 1) := by decide +kernel
theorem dX11_growBits_38 : decode cX11_growBits 38 = .ok (.iaload, 1) := by decide +kernel
theorem dX11_growBits_39 : decode cX11_growBits 39 = .ok (.if_icmp .le 9, 3) := by decide +kernel
theorem dX11_growBits_42 : decode cX11_growBits 42 = .ok (.iconst 1, 1) := by decide +kernel
theorem dX11_growBits_43 : decode cX11_growBits 43 = .ok (.iload_n 2, 1) := by decide +kernel
theorem dX11_growBits_44 : decode cX11_growBits 44 = .ok (.ishl, 1) := by decide +kernel
theorem dX11_growBits_45 : decode cX11_growBits 45 = .ok (.goto 4, 3) := by decide +kernel
theorem dX11_growBits_48 : decode cX11_growBits 48 = .ok (.iconst 0, 1) := by decide +kernel
theorem dX11_growBits_49 : decode cX11_growBits 49 = .ok (.ior, 1) := by decide +kernel
theorem dX11_growBits_50 : decode cX11_growBits 50 = .ok (.istore_n 1, 1) := by decide +kernel
theorem dX11_growBits_51 : decode cX11_growBits 51 = .ok (.iinc 2 1, 3) := by decide +kernel
theorem dX11_growBits_54 : decode cX11_growBits 54 = .ok (.goto (-42), 3) := by decide +kernel
theorem dX11_growBits_57 : decode cX11_growBits 57 = .ok (.aload_n 0, 1) := by decide +kernel
theorem dX11_growBits_58 : decode cX11_growBits 58 = .ok (.invokevirtual 200, 3) := by decide +kernel
theorem dX11_growBits_61 : decode cX11_growBits 61 = .ok (.iload_n 1, 1) := by decide +kernel
theorem dX11_growBits_62 : decode cX11_growBits 62 = .ok (.ireturn, 1) := by decide +kernel
theorem dX11_first_0 : decode cX11_first 0 = .ok (.aload_n 0, 1) := by decide +kernel
theorem dX11_first_1 : decode cX11_first 1 = .ok (.iconst 0, 1) := by decide +kernel
theorem dX11_first_2 : decode cX11_first 2 = .ok (.putfield 83, 3) := by decide +kernel
theorem dX11_first_5 : decode cX11_first 5 = .ok (.iload_n 1, 1) := by decide +kernel
theorem dX11_first_6 : decode cX11_first 6 = .ok (.i2l, 1) := by decide +kernel
theorem dX11_first_7 : decode cX11_first 7 = .ok (.lconst 0, 1) := by decide +kernel
theorem dX11_first_8 : decode cX11_first 8 = .ok (.ldc2_w 250, 3) := by decide +kernel
theorem dX11_first_11 : decode cX11_first 11 = .ok (.invokestatic 89, 3) := by decide +kernel
theorem dX11_first_14 : decode cX11_first 14 = .ok (.ifCond .ne 10, 3) := by decide +kernel
theorem dX11_first_17 : decode cX11_first 17 = .ok (.aload_n 0, 1) := by decide +kernel
theorem dX11_first_18 : decode cX11_first 18 = .ok (.bipush (-2), 2) := by decide +kernel
theorem dX11_first_20 : decode cX11_first 20 = .ok (.invokevirtual 134, 3) := by decide +kernel
theorem dX11_first_23 : decode cX11_first 23 = .ok (.ireturn, 1) := by decide +kernel
theorem dX11_first_24 : decode cX11_first 24 = .ok (.iload_n 1, 1) := by decide +kernel
theorem dX11_first_25 : decode cX11_first 25 = .ok (.ifCond .le 20, 3) := by decide +kernel
theorem dX11_first_28 : decode cX11_first 28 = .ok (.iload_n 1, 1) := by decide +kernel
theorem dX11_first_29 : decode cX11_first 29 = .ok (.iconst 1, 1) := by decide +kernel
theorem dX11_first_30 : decode cX11_first 30 = .ok (.if_icmp .ne 10, 3) := by decide +kernel
theorem dX11_first_33 : decode cX11_first 33 = .ok (.aload_n 0, 1) := by decide +kernel
theorem dX11_first_34 : decode cX11_first 34 = .ok (.invokevirtual 252, 3) := by decide +kernel
theorem dX11_first_37 : decode cX11_first 37 = .ok (.goto 7, 3) := by decide +kernel
theorem dX11_first_40 : decode cX11_first 40 = .ok (.aload_n 0, 1) := by decide +kernel
theorem dX11_first_41 : decode cX11_first 41 = .ok (.invokevirtual 255, 3) := by decide +kernel
theorem dX11_first_44 : decode cX11_first 44 = .ok (.ireturn, 1) := by decide +kernel
theorem dX11_first_45 : decode cX11_first 45 = .ok (.bipush (-9), 2) := by decide +kernel
theorem dX11_first_47 : decode cX11_first 47 = .ok (.istore_n 2, 1) := by decide +kernel
theorem dX11_first_48 : decode cX11_first 48 = .ok (.sipush 999, 3) := by decide +kernel
theorem dX11_first_51 : decode cX11_first 51 = .ok (.istore_n 3, 1) := by decide +kernel
theorem dX11_first_52 : decode cX11_first 52 = .ok (.iconst 0, 1) := by decide +kernel
theorem dX11_first_53 : decode cX11_first 53 = .ok (.istore 4, 2) := by decide +kernel
theorem dX11_first_55 : decode cX11_first 55 = .ok (.iload 4, 2) := by decide +kernel
theorem dX11_first_57 : decode cX11_first 57 = .ok (.aload_n 0, 1) := by decide +kernel
theorem dX11_first_58 : decode cX11_first 58 = .ok (.getfield 86, 3) := by decide +kernel
theorem dX11_first_61 : decode cX11_first 61 = .ok (.if_icmp .ge 53, 3) := by decide +kernel
theorem dX11_first_64 : decode cX11_first 64 = .ok (.aload_n 0, 1) := by decide +kernel
theorem dX11_first_65 : decode cX11_first 65 = .ok (.iload 4, 2) := by decide +kernel
theorem dX11_first_67 : decode cX11_first 67 = .ok (.invokevirtual 247, 3) := by decide +kernel
theorem dX11_first_70 : decode cX11_first 70 = .ok (.istore 5, 2) := by decide +kernel
theorem dX11_first_72 : decode cX11_first 72 = .ok (.iload 5, 2) := by decide +kernel
theorem dX11_first_74 : decode cX11_first 74 = .ok (.ifCond .lt 14, 3) := by decide +kernel
theorem dX11_first_77 : decode cX11_first 77 = .ok (.iload 5, 2) := by decide +kernel
theorem dX11_first_79 : decode cX11_first 79 = .ok (.iload_n 3, 1) := by decide +kernel
theorem dX11_first_80 : decode cX11_first 80 = .ok (.if_icmp .ge 8, 3) := by decide +kernel
theorem dX11_first_83 : decode cX11_first 83 = .ok (.iload 4, 2) := by decide +kernel
theorem dX11_first_85 : decode cX11_first 85 = .ok (.goto 4, 3) := by decide +kernel
theorem dX11_first_88 : decode cX11_first 88 = .ok (.iload_n 2, 1) := by decide +kernel
theorem dX11_first_89 : decode cX11_first 89 = .ok (.istore_n 2, 1) := by decide +kernel
theorem dX11_first_90 : decode cX11_first 90 = .ok (.iload 5, 2) := by decide +kernel
theorem dX11_first_92 : decode cX11_first 92 = .ok (.ifCond .lt 14, 3) := by decide +kernel
theorem dX11_first_95 : decode cX11_first 95 = .ok (.iload 5, 2) := by decide +kernel
theorem dX11_first_97 : decode cX11_first 97 = .ok (.iload_n 3, 1) := by decide +kernel
theorem dX11_first_98 : decode cX11_first 98 = .ok (.if_icmp .ge 8, 3) := by decide +kernel
theorem dX11_first_101 : decode cX11_first 101 = .ok (.iload 5, 2) := by decide +kernel
theorem dX11_first_103 : decode cX11_first 103 = .ok (.goto 4, 3) := by decide +kernel
theorem dX11_first_106 : decode cX11_first 106 = .ok (.iload_n 3, 1) := by decide +kernel
theorem dX11_first_107 : decode cX11_first 107 = .ok (.istore_n 3, 1) := by decide +kernel
theorem dX11_first_108 : decode cX11_first 108 = .ok (.iinc 4 1, 3) := by decide +kernel
theorem dX11_first_111 : decode cX11_first 111 = .ok (.goto (-56), 3) := by decide +kernel
theorem dX11_first_114 : decode cX11_first 114 = .ok (.iload_n 2, 1) := by decide +kernel
theorem dX11_first_115 : decode cX11_first 115 = .ok (.ireturn, 1) := by decide +kernel
theorem dX11_highest_0 : decode cX11_highest 0 = .ok (.aload_n 0, 1) := by decide +kernel
theorem dX11_highest_1 : decode cX11_highest 1 = .ok (.iconst 0, 1) := by decide +kernel
theorem dX11_highest_2 : decode cX11_highest 2 = .ok (.putfield 83, 3) := by decide +kernel
theorem dX11_highest_5 : decode cX11_highest 5 = .ok (.aload_n 0, 1) := by decide +kernel
theorem dX11_highest_6 : decode cX11_highest 6 = .ok (.iload_n 1, 1) := by decide +kernel
theorem dX11_highest_7 : decode cX11_highest 7 = .ok (.invokevirtual 188, 3) := by decide +kernel
theorem dX11_highest_10 : decode cX11_highest 10 = .ok (.ifCond .eq 13, 3) := by decide +kernel
theorem dX11_highest_13 : decode cX11_highest 13 = .ok (.iload_n 2, 1) := by decide +kernel
theorem dX11_highest_14 : decode cX11_highest 14 = .ok (.iconst 0, 1) := by decide +kernel
theorem dX11_highest_15 : decode cX11_highest 15 = .ok (.bipush 100, 2) := by decide +kernel
theorem dX11_highest_17 : decode cX11_highest 17 = .ok (.invokestatic 238, 3) := by decide +kernel
theorem dX11_highest_20 : decode cX11_highest 20 = .ok (.goto 4, 3) := by decide +kernel
theorem dX11_highest_23 : decode cX11_highest 23 = .ok (.iconst (-1), 1) := by decide +kernel
theorem dX11_highest_24 : decode cX11_highest 24 = .ok (.iload_n 3, 1) := by decide +kernel
theorem dX11_highest_25 : decode cX11_highest 25 = .ok (.iconst 1, 1) := by decide +kernel
theorem dX11_highest_26 : decode cX11_highest 26 = .ok (.invokestatic 241, 3) := by decide +kernel
theorem dX11_highest_29 : decode cX11_highest 29 = .ok (.istore 4, 2) := by decide +kernel
theorem dX11_highest_31 : decode cX11_highest 31 = .ok (.iload 4, 2) := by decide +kernel
theorem dX11_highest_33 : decode cX11_highest 33 = .ok (.ifCond .ge 10, 3) := by decide +kernel
theorem dX11_highest_36 : decode cX11_highest 36 = .ok (.aload_n 0, 1) := by decide +kernel
theorem dX11_highest_37 : decode cX11_highest 37 = .ok (.iload 4, 2) := by decide +kernel
theorem dX11_highest_39 : decode cX11_highest 39 = .ok (.invokevirtual 134, 3) := by decide +kernel
theorem dX11_highest_42 : decode cX11_highest 42 = .ok (.ireturn, 1) := by decide +kernel
theorem dX11_highest_43 : decode cX11_highest 43 = .ok (.bipush (-9), 2) := by decide +kernel
theorem dX11_highest_45 : decode cX11_highest 45 = .ok (.istore 5, 2) := by decide +kernel
theorem dX11_highest_47 : decode cX11_highest 47 = .ok (.aload_n 0, 1) := by decide +kernel
theorem dX11_highest_48 : decode cX11_highest 48 = .ok (.invokevirtual 194, 3) := by decide +kernel
theorem dX11_highest_51 : decode cX11_highest 51 = .ok (.iconst 0, 1) := by decide +kernel
theorem dX11_highest_52 : decode cX11_highest 52 = .ok (.istore 6, 2) := by decide +kernel
theorem dX11_highest_54 : decode cX11_highest 54 = .ok (.iload 6, 2) := by decide +kernel
theorem dX11_highest_56 : decode cX11_highest 56 = .ok (.iload_n 3, 1) := by decide +kernel
theorem dX11_highest_57 : decode cX11_highest 57 = .ok (.ifCond .ne 8, 3) := by decide +kernel
theorem dX11_highest_60 : decode cX11_highest 60 = .ok (.bipush 20, 2) := by decide +kernel
theorem dX11_highest_62 : decode cX11_highest 62 = .ok (.goto 5, 3) := by decide +kernel
theorem dX11_highest_65 : decode cX11_highest 65 = .ok (.bipush 9, 2) := by decide +kernel
theorem dX11_highest_67 : decode cX11_highest 67 = .ok (.if_icmp .gt 96, 3) := by decide +kernel
theorem dX11_highest_70 : decode cX11_highest 70 = .ok (.aload_n 0, 1) := by decide +kernel
theorem dX11_highest_71 : decode cX11_highest 71 = .ok (.iload_n 3, 1) := by decide +kernel
theorem dX11_highest_72 : decode cX11_highest 72 = .ok (.ifCond .ne 8, 3) := by decide +kernel
theorem dX11_highest_75 : decode cX11_highest 75 = .ok (.iload 6, 2) := by decide +kernel
theorem dX11_highest_77 : decode cX11_highest 77 = .ok (.goto 7, 3) := by decide +kernel
theorem dX11_highest_80 : decode cX11_highest 80 = .ok (.aload_n 0, 1) := by decide +kernel
theorem dX11_highest_81 : decode cX11_highest 81 = .ok (.getfield 22, 3) := by decide +kernel
theorem dX11_highest_84 : decode cX11_highest 84 = .ok (.putfield 22, 3) := by decide +kernel
theorem dX11_highest_87 : decode cX11_highest 87 = .ok (.aload_n 0, 1) := by decide +kernel
theorem dX11_highest_88 : decode cX11_highest 88 = .ok (.getfield 16, 3) := by decide +kernel
theorem dX11_highest_91 : decode cX11_highest 91 = .ok (.iload_n 1, 1) := by decide +kernel
theorem dX11_highest_92 : decode cX11_highest 92 = .ok (.iload_n 3, 1) := by decide +kernel
theorem dX11_highest_93 : decode cX11_highest 93 = .ok (.iconst 1, 1) := by decide +kernel
theorem dX11_highest_94 : decode cX11_highest 94 = .ok (.if_icmp .ne 8, 3) := by decide +kernel
theorem dX11_highest_97 : decode cX11_highest 97 = .ok (.iload 6, 2) := by decide +kernel
theorem dX11_highest_99 : decode cX11_highest 99 = .ok (.goto 9, 3) := by decide +kernel
theorem dX11_highest_102 : decode cX11_highest 102 = .ok (.aload_n 0, 1) := by decide +kernel
theorem dX11_highest_103 : decode cX11_highest 103 = .ok (.getfield 16, 3) := by decide +kernel
theorem dX11_highest_106 : decode cX11_highest 106 = .ok (.iload_n 1, 1) := by decide +kernel
theorem dX11_highest_107 : decode cX11_highest 107 = .ok (.iaload, 1) := by decide +kernel
theorem dX11_highest_108 : decode cX11_highest 108 = .ok (.iastore, 1) := by decide +kernel
theorem dX11_highest_109 : decode cX11_highest 109 = .ok (.aload_n 0, 1) := by decide +kernel
theorem dX11_highest_110 : decode cX11_highest 110 = .ok (.iload_n 2, 1) := by decide +kernel
theorem dX11_highest_111 : decode cX11_highest 111 = .ok (.invokevirtual 185, 3) := by decide +kernel
theorem dX11_highest_114 : decode cX11_highest 114 = .ok (.aload_n 0, 1) := by decide +kernel
theorem dX11_highest_115 : decode cX11_highest 115 = .ok (.getfield 13, 3) := by decide +kernel
theorem dX11_highest_118 : decode cX11_highest 118 = .ok (.iload_n 1, 1) := by decide +kernel
theorem dX11_highest_119 : decode cX11_highest 119 = .ok (.iaload, 1) := by decide +kernel
theorem dX11_highest_120 : decode cX11_highest 120 = .ok (.ifCond .ne 16, 3) := by decide +kernel
theorem dX11_highest_123 : decode cX11_highest 123 = .ok (.iload_n 3, 1) := by decide +kernel
theorem dX11_highest_124 : decode cX11_highest 124 = .ok (.ifCond .eq 8, 3) := by decide +kernel
theorem dX11_highest_127 : decode cX11_highest 127 = .ok (.iload 5, 2) := by decide +kernel
theorem dX11_highest_129 : decode cX11_highest 129 = .ok (.ifCond .ge 7, 3) := by decide +kernel
theorem dX11_highest_132 : decode cX11_highest 132 = .ok (.iconst 1, 1) := by decide +kernel
theorem dX11_highest_133 : decode cX11_highest 133 = .ok (.goto 4, 3) := by decide +kernel
theorem dX11_highest_136 : decode cX11_highest 136 = .ok (.iconst 0, 1) := by decide +kernel
theorem dX11_highest_137 : decode cX11_highest 137 = .ok (.istore 7, 2) := by decide +kernel
theorem dX11_highest_139 : decode cX11_highest 139 = .ok (.aload_n 0, 1) := by decide +kernel
theorem dX11_highest_140 : decode cX11_highest 140 = .ok (.invokevirtual 200, 3) := by decide +kernel
theorem dX11_highest_143 : decode cX11_highest 143 = .ok (.iload 7, 2) := by decide +kernel
theorem dX11_highest_145 : decode cX11_highest 145 = .ok (.ifCond .eq 8, 3) := by decide +kernel
theorem dX11_highest_148 : decode cX11_highest 148 = .ok (.iload 6, 2) := by decide +kernel
theorem dX11_highest_150 : decode cX11_highest 150 = .ok (.goto 5, 3) := by decide +kernel
theorem dX11_highest_153 : decode cX11_highest 153 = .ok (.iload 5, 2) := by decide +kernel
theorem dX11_highest_155 : decode cX11_highest 155 = .ok (.istore 5, 2) := by decide +kernel
theorem dX11_highest_157 : decode cX11_highest 157 = .ok (.iinc 6 1, 3) := by decide +kernel
theorem dX11_highest_160 : decode cX11_highest 160 = .ok (.goto (-106), 3) := by decide +kernel
theorem dX11_highest_163 : decode cX11_highest 163 = .ok (.iload 5, 2) := by decide +kernel
theorem dX11_highest_165 : decode cX11_highest 165 = .ok (.ireturn, 1) := by decide +kernel
theorem dX11_noneOwes_0 : decode cX11_noneOwes 0 = .ok (.iconst 1, 1) := by decide +kernel
theorem dX11_noneOwes_1 : decode cX11_noneOwes 1 = .ok (.istore_n 2, 1) := by decide +kernel
theorem dX11_noneOwes_2 : decode cX11_noneOwes 2 = .ok (.iconst 0, 1) := by decide +kernel
theorem dX11_noneOwes_3 : decode cX11_noneOwes 3 = .ok (.istore_n 3, 1) := by decide +kernel
theorem dX11_noneOwes_4 : decode cX11_noneOwes 4 = .ok (.iload_n 3, 1) := by decide +kernel
theorem dX11_noneOwes_5 : decode cX11_noneOwes 5 = .ok (.aload_n 0, 1) := by decide +kernel
theorem dX11_noneOwes_6 : decode cX11_noneOwes 6 = .ok (.getfield 86, 3) := by decide +kernel
theorem dX11_noneOwes_9 : decode cX11_noneOwes 9 = .ok (.if_icmp .ge 28, 3) := by decide +kernel
theorem dX11_noneOwes_12 : decode cX11_noneOwes 12 = .ok (.iload_n 2, 1) := by decide +kernel
theorem dX11_noneOwes_13 : decode cX11_noneOwes 13 = .ok (.ifCond .eq 16, 3) := by decide +kernel
theorem dX11_noneOwes_16 : decode cX11_noneOwes 16 = .ok (.aload_n 0, 1) := by decide +kernel
theorem dX11_noneOwes_17 : decode cX11_noneOwes 17 = .ok (.iload_n 3, 1) := by decide +kernel
theorem dX11_noneOwes_18 : decode cX11_noneOwes 18 = .ok (.invokevirtual 227, 3) := by decide +kernel
theorem dX11_noneOwes_21 : decode cX11_noneOwes 21 = .ok (.iload_n 1, 1) := by decide +kernel
theorem dX11_noneOwes_22 : decode cX11_noneOwes 22 = .ok (.if_icmp .gt 7, 3) := by decide +kernel
theorem dX11_noneOwes_25 : decode cX11_noneOwes 25 = .ok (.iconst 1, 1) := by decide +kernel
theorem dX11_noneOwes_26 : decode cX11_noneOwes 26 = .ok (.goto 4, 3) := by decide +kernel
theorem dX11_noneOwes_29 : decode cX11_noneOwes 29 = .ok (.iconst 0, 1) := by decide +kernel
theorem dX11_noneOwes_30 : decode cX11_noneOwes 30 = .ok (.istore_n 2, 1) := by decide +kernel
theorem dX11_noneOwes_31 : decode cX11_noneOwes 31 = .ok (.iinc 3 1, 3) := by decide +kernel
theorem dX11_noneOwes_34 : decode cX11_noneOwes 34 = .ok (.goto (-30), 3) := by decide +kernel
theorem dX11_noneOwes_37 : decode cX11_noneOwes 37 = .ok (.iload_n 2, 1) := by decide +kernel
theorem dX11_noneOwes_38 : decode cX11_noneOwes 38 = .ok (.ireturn, 1) := by decide +kernel
theorem dX11_builtBits_0 : decode cX11_builtBits 0 = .ok (.iconst 0, 1) := by decide +kernel
theorem dX11_builtBits_1 : decode cX11_builtBits 1 = .ok (.istore_n 1, 1) := by decide +kernel
theorem dX11_builtBits_2 : decode cX11_builtBits 2 = .ok (.iconst 0, 1) := by decide +kernel
theorem dX11_builtBits_3 : decode cX11_builtBits 3 = .ok (.istore_n 2, 1) := by decide +kernel
theorem dX11_builtBits_4 : decode cX11_builtBits 4 = .ok (.iload_n 2, 1) := by decide +kernel
theorem dX11_builtBits_5 : decode cX11_builtBits 5 = .ok (.aload_n 0, 1) := by decide +kernel
theorem dX11_builtBits_6 : decode cX11_builtBits 6 = .ok (.getfield 93, 3) := by decide +kernel
theorem dX11_builtBits_9 : decode cX11_builtBits 9 = .ok (.if_icmp .ge 28, 3) := by decide +kernel
theorem dX11_builtBits_12 : decode cX11_builtBits 12 = .ok (.iload_n 1, 1) := by decide +kernel
theorem dX11_builtBits_13 : decode cX11_builtBits 13 = .ok (.aload_n 0, 1) := by decide +kernel
theorem dX11_builtBits_14 : decode cX11_builtBits 14 = .ok (.getfield 35, 3) := by decide +kernel
theorem dX11_builtBits_17 : decode cX11_builtBits 17 = .ok (.iload_n 2, 1) := by decide +kernel
theorem dX11_builtBits_18 : decode cX11_builtBits 18 = .ok (.iaload, 1) := by decide +kernel
theorem dX11_builtBits_19 : decode cX11_builtBits 19 = .ok (.ifCond .le 9, 3) := by decide +kernel
theorem dX11_builtBits_22 : decode cX11_builtBits 22 = .ok (.iconst 1, 1) := by decide +kernel
theorem dX11_builtBits_23 : decode cX11_builtBits 23 = .ok (.iload_n 2, 1) := by decide +kernel
theorem dX11_builtBits_24 : decode cX11_builtBits 24 = .ok (.ishl, 1) := by decide +kernel
theorem dX11_builtBits_25 : decode cX11_builtBits 25 = .ok (.goto 4, 3) := by decide +kernel
theorem dX11_builtBits_28 : decode cX11_builtBits 28 = .ok (.iconst 0, 1) := by decide +kernel
theorem dX11_builtBits_29 : decode cX11_builtBits 29 = .ok (.ior, 1) := by decide +kernel
theorem dX11_builtBits_30 : decode cX11_builtBits 30 = .ok (.istore_n 1, 1) := by decide +kernel
theorem dX11_builtBits_31 : decode cX11_builtBits 31 = .ok (.iinc 2 1, 3) := by decide +kernel
theorem dX11_builtBits_34 : decode cX11_builtBits 34 = .ok (.goto (-30), 3) := by decide +kernel
theorem dX11_builtBits_37 : decode cX11_builtBits 37 = .ok (.iload_n 1, 1) := by decide +kernel
theorem dX11_builtBits_38 : decode cX11_builtBits 38 = .ok (.ireturn, 1) := by decide +kernel
theorem dX11_buildAll_0 : decode cX11_buildAll 0 = .ok (.iconst 0, 1) := by decide +kernel
theorem dX11_buildAll_1 : decode cX11_buildAll 1 = .ok (.istore_n 2, 1) := by decide +kernel
theorem dX11_buildAll_2 : decode cX11_buildAll 2 = .ok (.iload_n 2, 1) := by decide +kernel
theorem dX11_buildAll_3 : decode cX11_buildAll 3 = .ok (.aload_n 0, 1) := by decide +kernel
theorem dX11_buildAll_4 : decode cX11_buildAll 4 = .ok (.getfield 93, 3) := by decide +kernel
theorem dX11_buildAll_7 : decode cX11_buildAll 7 = .ok (.if_icmp .ge 22, 3) := by decide +kernel
theorem dX11_buildAll_10 : decode cX11_buildAll 10 = .ok (.iload_n 1, 1) := by decide +kernel
theorem dX11_buildAll_11 : decode cX11_buildAll 11 = .ok (.iload_n 2, 1) := by decide +kernel
theorem dX11_buildAll_12 : decode cX11_buildAll 12 = .ok (.invokestatic 258, 3) := by decide +kernel
theorem dX11_buildAll_15 : decode cX11_buildAll 15 = .ok (.ifCond .eq 8, 3) := by decide +kernel
theorem dX11_buildAll_18 : decode cX11_buildAll 18 = .ok (.aload_n 0, 1) := by decide +kernel
theorem dX11_buildAll_19 : decode cX11_buildAll 19 = .ok (.iload_n 2, 1) := by decide +kernel
theorem dX11_buildAll_20 : decode cX11_buildAll 20 = .ok (.invokevirtual 180, 3) := by decide +kernel
theorem dX11_buildAll_23 : decode cX11_buildAll 23 = .ok (.iinc 2 1, 3) := by decide +kernel
theorem dX11_buildAll_26 : decode cX11_buildAll 26 = .ok (.goto (-24), 3) := by decide +kernel
theorem dX11_buildAll_29 : decode cX11_buildAll 29 = .ok (.return_, 1) := by decide +kernel
theorem dX11_building_0 : decode cX11_building 0 = .ok (.aload_n 0, 1) := by decide +kernel
theorem dX11_building_1 : decode cX11_building 1 = .ok (.iconst 0, 1) := by decide +kernel
theorem dX11_building_2 : decode cX11_building 2 = .ok (.putfield 83, 3) := by decide +kernel
theorem dX11_building_5 : decode cX11_building 5 = .ok (.iload_n 1, 1) := by decide +kernel
theorem dX11_building_6 : decode cX11_building 6 = .ok (.ifCond .lt 7, 3) := by decide +kernel
theorem dX11_building_9 : decode cX11_building 9 = .ok (.iload_n 2, 1) := by decide +kernel
theorem dX11_building_10 : decode cX11_building 10 = .ok (.ifCond .ge 8, 3) := by decide +kernel
theorem dX11_building_13 : decode cX11_building 13 = .ok (.bipush (-4), 2) := by decide +kernel
theorem dX11_building_15 : decode cX11_building 15 = .ok (.goto 27, 3) := by decide +kernel
theorem dX11_building_18 : decode cX11_building 18 = .ok (.iload_n 1, 1) := by decide +kernel
theorem dX11_building_19 : decode cX11_building 19 = .ok (.bipush 100, 2) := by decide +kernel
theorem dX11_building_21 : decode cX11_building 21 = .ok (.if_icmp .gt 10, 3) := by decide +kernel
theorem dX11_building_24 : decode cX11_building 24 = .ok (.iload_n 2, 1) := by decide +kernel
theorem dX11_building_25 : decode cX11_building 25 = .ok (.sipush 999, 3) := by decide +kernel
theorem dX11_building_28 : decode cX11_building 28 = .ok (.if_icmp .le 8, 3) := by decide +kernel
theorem dX11_building_31 : decode cX11_building 31 = .ok (.bipush (-6), 2) := by decide +kernel
theorem dX11_building_33 : decode cX11_building 33 = .ok (.goto 9, 3) := by decide +kernel
theorem dX11_building_36 : decode cX11_building 36 = .ok (.iconst 0, 1) := by decide +kernel
theorem dX11_building_37 : decode cX11_building 37 = .ok (.iload_n 3, 1) := by decide +kernel
theorem dX11_building_38 : decode cX11_building 38 = .ok (.iconst 1, 1) := by decide +kernel
theorem dX11_building_39 : decode cX11_building 39 = .ok (.invokestatic 241, 3) := by decide +kernel
theorem dX11_building_42 : decode cX11_building 42 = .ok (.istore 4, 2) := by decide +kernel
theorem dX11_building_44 : decode cX11_building 44 = .ok (.iload 4, 2) := by decide +kernel
theorem dX11_building_46 : decode cX11_building 46 = .ok (.ifCond .ge 10, 3) := by decide +kernel
theorem dX11_building_49 : decode cX11_building 49 = .ok (.aload_n 0, 1) := by decide +kernel
theorem dX11_building_50 : decode cX11_building 50 = .ok (.iload 4, 2) := by decide +kernel
theorem dX11_building_52 : decode cX11_building 52 = .ok (.invokevirtual 134, 3) := by decide +kernel
theorem dX11_building_55 : decode cX11_building 55 = .ok (.ireturn, 1) := by decide +kernel
theorem dX11_building_56 : decode cX11_building 56 = .ok (.aload_n 0, 1) := by decide +kernel
theorem dX11_building_57 : decode cX11_building 57 = .ok (.invokevirtual 262, 3) := by decide +kernel
theorem dX11_building_60 : decode cX11_building 60 = .ok (.istore 5, 2) := by decide +kernel
theorem dX11_building_62 : decode cX11_building 62 = .ok (.bipush (-9), 2) := by decide +kernel
theorem dX11_building_64 : decode cX11_building 64 = .ok (.istore 6, 2) := by decide +kernel
theorem dX11_building_66 : decode cX11_building 66 = .ok (.bipush (-9), 2) := by decide +kernel
theorem dX11_building_68 : decode cX11_building 68 = .ok (.istore 7, 2) := by decide +kernel
theorem dX11_building_70 : decode cX11_building 70 = .ok (.aload_n 0, 1) := by decide +kernel
theorem dX11_building_71 : decode cX11_building 71 = .ok (.invokevirtual 194, 3) := by decide +kernel
theorem dX11_building_74 : decode cX11_building 74 = .ok (.iconst 0, 1) := by decide +kernel
theorem dX11_building_75 : decode cX11_building 75 = .ok (.istore 8, 2) := by decide +kernel
theorem dX11_building_77 : decode cX11_building 77 = .ok (.iload 8, 2) := by decide +kernel
theorem dX11_building_79 : decode cX11_building 79 = .ok (.iconst 1, 1) := by decide +kernel
theorem dX11_building_80 : decode cX11_building 80 = .ok (.aload_n 0, 1) := by decide +kernel
theorem dX11_building_81 : decode cX11_building 81 = .ok (.getfield 93, 3) := by decide +kernel
theorem dX11_building_84 : decode cX11_building 84 = .ok (.ishl, 1) := by decide +kernel
theorem dX11_building_85 : decode cX11_building 85 = .ok (.if_icmp .ge 129, 3) := by decide +kernel
theorem dX11_building_88 : decode cX11_building 88 = .ok (.iload 8, 2) := by decide +kernel
theorem dX11_building_90 : decode cX11_building 90 = .ok (.iload 5, 2) := by decide +kernel
theorem dX11_building_92 : decode cX11_building 92 = .ok (.iand, 1) := by decide +kernel
theorem dX11_building_93 : decode cX11_building 93 = .ok (.ifCond .ne 115, 3) := by decide +kernel
theorem dX11_building_96 : decode cX11_building 96 = .ok (.iconst 0, 1) := by decide +kernel
theorem dX11_building_97 : decode cX11_building 97 = .ok (.istore 9, 2) := by decide +kernel
theorem dX11_building_99 : decode cX11_building 99 = .ok (.iconst 0, 1) := by decide +kernel
theorem dX11_building_100 : decode cX11_building 100 = .ok (.istore 10, 2) := by decide +kernel
theorem dX11_building_102 : decode cX11_building 102 = .ok (.iload 10, 2) := by decide +kernel
theorem dX11_building_104 : decode cX11_building 104 = .ok (.aload_n 0, 1) := by decide +kernel
theorem dX11_building_105 : decode cX11_building 105 = .ok (.getfield 93, 3) := by decide +kernel
theorem dX11_building_108 : decode cX11_building 108 = .ok (.if_icmp .ge 35, 3) := by decide +kernel
theorem dX11_building_111 : decode cX11_building 111 = .ok (.iload 9, 2) := by decide +kernel
theorem dX11_building_113 : decode cX11_building 113 = .ok (.iload 8, 2) := by decide +kernel
theorem dX11_building_115 : decode cX11_building 115 = .ok (.iload 10, 2) := by decide +kernel
theorem dX11_building_117 : decode cX11_building 117 = .ok (.invokestatic 258, 3) := by decide +kernel
theorem dX11_building_120 : decode cX11_building 120 = .ok (.ifCond .eq 13, 3) := by decide +kernel
theorem dX11_building_123 : decode cX11_building 123 = .ok (.aload_n 0, 1) := by decide +kernel
theorem dX11_building_124 : decode cX11_building 124 = .ok (.getfield 32, 3) := by decide +kernel
theorem dX11_building_127 : decode cX11_building 127 = .ok (.iload 10, 2) := by decide +kernel
theorem dX11_building_129 : decode cX11_building 129 = .ok (.iaload, 1) := by decide +kernel
theorem dX11_building_130 : decode cX11_building 130 = .ok (.goto 4, 3) := by decide +kernel
theorem dX11_building_133 : decode cX11_building 133 = .ok (.iconst 0, 1) := by decide +kernel
theorem dX11_building_134 : decode cX11_building 134 = .ok (.iadd, 1) := by decide +kernel
theorem dX11_building_135 : decode cX11_building 135 = .ok (.istore 9, 2) := by decide +kernel
theorem dX11_building_137 : decode cX11_building 137 = .ok (.iinc 10 1, 3) := by decide +kernel
theorem dX11_building_140 : decode cX11_building 140 = .ok (.goto (-38), 3) := by decide +kernel
theorem dX11_building_143 : decode cX11_building 143 = .ok (.aload_n 0, 1) := by decide +kernel
theorem dX11_building_144 : decode cX11_building 144 = .ok (.iload 8, 2) := by decide +kernel
theorem dX11_building_146 : decode cX11_building 146 = .ok (.invokevirtual 265, 3) := by decide +kernel
theorem dX11_building_149 : decode cX11_building 149 = .ok (.aload_n 0, 1) := by decide +kernel
theorem dX11_building_150 : decode cX11_building 150 = .ok (.iload_n 1, 1) := by decide +kernel
theorem dX11_building_151 : decode cX11_building 151 = .ok (.invokevirtual 185, 3) := by decide +kernel
theorem dX11_building_154 : decode cX11_building 154 = .ok (.aload_n 0, 1) := by decide +kernel
theorem dX11_building_155 : decode cX11_building 155 = .ok (.iload_n 2, 1) := by decide +kernel
theorem dX11_building_156 : decode cX11_building 156 = .ok (.invokevirtual 268, 3) := by decide +kernel
theorem dX11_building_159 : decode cX11_building 159 = .ok (.ifCond .eq 14, 3) := by decide +kernel
theorem dX11_building_162 : decode cX11_building 162 = .ok (.iload 9, 2) := by decide +kernel
theorem dX11_building_164 : decode cX11_building 164 = .ok (.iload 7, 2) := by decide +kernel
theorem dX11_building_166 : decode cX11_building 166 = .ok (.if_icmp .le 7, 3) := by decide +kernel
theorem dX11_building_169 : decode cX11_building 169 = .ok (.iconst 1, 1) := by decide +kernel
theorem dX11_building_170 : decode cX11_building 170 = .ok (.goto 4, 3) := by decide +kernel
theorem dX11_building_173 : decode cX11_building 173 = .ok (.iconst 0, 1) := by decide +kernel
theorem dX11_building_174 : decode cX11_building 174 = .ok (.istore 10, 2) := by decide +kernel
theorem dX11_building_176 : decode cX11_building 176 = .ok (.aload_n 0, 1) := by decide +kernel
theorem dX11_building_177 : decode cX11_building 177 = .ok (.invokevirtual 200, 3) := by decide +kernel
theorem dX11_building_180 : decode cX11_building 180 = .ok (.iload 10, 2) := by decide +kernel
theorem dX11_building_182 : decode cX11_building 182 = .ok (.ifCond .eq 8, 3) := by decide +kernel
theorem dX11_building_185 : decode cX11_building 185 = .ok (.iload 8, 2) := by decide +kernel
theorem dX11_building_187 : decode cX11_building 187 = .ok (.goto 5, 3) := by decide +kernel
theorem dX11_building_190 : decode cX11_building 190 = .ok (.iload 6, 2) := by decide +kernel
theorem dX11_building_192 : decode cX11_building 192 = .ok (.istore 6, 2) := by decide +kernel
theorem dX11_building_194 : decode cX11_building 194 = .ok (.iload 10, 2) := by decide +kernel
theorem dX11_building_196 : decode cX11_building 196 = .ok (.ifCond .eq 8, 3) := by decide +kernel
theorem dX11_building_199 : decode cX11_building 199 = .ok (.iload 9, 2) := by decide +kernel
theorem dX11_building_201 : decode cX11_building 201 = .ok (.goto 5, 3) := by decide +kernel
theorem dX11_building_204 : decode cX11_building 204 = .ok (.iload 7, 2) := by decide +kernel
theorem dX11_building_206 : decode cX11_building 206 = .ok (.istore 7, 2) := by decide +kernel
theorem dX11_building_208 : decode cX11_building 208 = .ok (.iinc 8 1, 3) := by decide +kernel
theorem dX11_building_211 : decode cX11_building 211 = .ok (.goto (-134), 3) := by decide +kernel
theorem dX11_building_214 : decode cX11_building 214 = .ok (.iload_n 3, 1) := by decide +kernel
theorem dX11_building_215 : decode cX11_building 215 = .ok (.ifCond .ne 8, 3) := by decide +kernel
theorem dX11_building_218 : decode cX11_building 218 = .ok (.iload 6, 2) := by decide +kernel
theorem dX11_building_220 : decode cX11_building 220 = .ok (.goto 5, 3) := by decide +kernel
theorem dX11_building_223 : decode cX11_building 223 = .ok (.iload 7, 2) := by decide +kernel
theorem dX11_building_225 : decode cX11_building 225 = .ok (.ireturn, 1) := by decide +kernel
theorem dX11_oneMore_0 : decode cX11_oneMore 0 = .ok (.aload_n 0, 1) := by decide +kernel
theorem dX11_oneMore_1 : decode cX11_oneMore 1 = .ok (.iconst 0, 1) := by decide +kernel
theorem dX11_oneMore_2 : decode cX11_oneMore 2 = .ok (.putfield 83, 3) := by decide +kernel
theorem dX11_oneMore_5 : decode cX11_oneMore 5 = .ok (.iload_n 1, 1) := by decide +kernel
theorem dX11_oneMore_6 : decode cX11_oneMore 6 = .ok (.iconst 0, 1) := by decide +kernel
theorem dX11_oneMore_7 : decode cX11_oneMore 7 = .ok (.bipush 100, 2) := by decide +kernel
theorem dX11_oneMore_9 : decode cX11_oneMore 9 = .ok (.invokestatic 238, 3) := by decide +kernel
theorem dX11_oneMore_12 : decode cX11_oneMore 12 = .ok (.ifCond .ge 15, 3) := by decide +kernel
theorem dX11_oneMore_15 : decode cX11_oneMore 15 = .ok (.aload_n 0, 1) := by decide +kernel
theorem dX11_oneMore_16 : decode cX11_oneMore 16 = .ok (.iload_n 1, 1) := by decide +kernel
theorem dX11_oneMore_17 : decode cX11_oneMore 17 = .ok (.iconst 0, 1) := by decide +kernel
theorem dX11_oneMore_18 : decode cX11_oneMore 18 = .ok (.bipush 100, 2) := by decide +kernel
theorem dX11_oneMore_20 : decode cX11_oneMore 20 = .ok (.invokestatic 238, 3) := by decide +kernel
theorem dX11_oneMore_23 : decode cX11_oneMore 23 = .ok (.invokevirtual 134, 3) := by decide +kernel
theorem dX11_oneMore_26 : decode cX11_oneMore 26 = .ok (.ireturn, 1) := by decide +kernel
theorem dX11_oneMore_27 : decode cX11_oneMore 27 = .ok (.bipush (-9), 2) := by decide +kernel
theorem dX11_oneMore_29 : decode cX11_oneMore 29 = .ok (.istore_n 2, 1) := by decide +kernel
theorem dX11_oneMore_30 : decode cX11_oneMore 30 = .ok (.ldc_w 271, 3) := by decide +kernel
theorem dX11_oneMore_33 : decode cX11_oneMore 33 = .ok (.istore_n 3, 1) := by decide +kernel
theorem dX11_oneMore_34 : decode cX11_oneMore 34 = .ok (.aload_n 0, 1) := by decide +kernel
theorem dX11_oneMore_35 : decode cX11_oneMore 35 = .ok (.invokevirtual 194, 3) := by decide +kernel
theorem dX11_oneMore_38 : decode cX11_oneMore 38 = .ok (.iconst 0, 1) := by decide +kernel
theorem dX11_oneMore_39 : decode cX11_oneMore 39 = .ok (.istore 4, 2) := by decide +kernel
theorem dX11_oneMore_41 : decode cX11_oneMore 41 = .ok (.iload 4, 2) := by decide +kernel
theorem dX11_oneMore_43 : decode cX11_oneMore 43 = .ok (.aload_n 0, 1) := by decide +kernel
theorem dX11_oneMore_44 : decode cX11_oneMore 44 = .ok (.getfield 93, 3) := by decide +kernel
theorem dX11_oneMore_47 : decode cX11_oneMore 47 = .ok (.if_icmp .ge 58, 3) := by decide +kernel
theorem dX11_oneMore_50 : decode cX11_oneMore 50 = .ok (.aload_n 0, 1) := by decide +kernel
theorem dX11_oneMore_51 : decode cX11_oneMore 51 = .ok (.getfield 35, 3) := by decide +kernel
theorem dX11_oneMore_54 : decode cX11_oneMore 54 = .ok (.iload 4, 2) := by decide +kernel
theorem dX11_oneMore_56 : decode cX11_oneMore 56 = .ok (.iaload, 1) := by decide +kernel
theorem dX11_oneMore_57 : decode cX11_oneMore 57 = .ok (.ifCond .ne 42, 3) := by decide +kernel
theorem dX11_oneMore_60 : decode cX11_oneMore 60 = .ok (.aload_n 0, 1) := by decide +kernel
theorem dX11_oneMore_61 : decode cX11_oneMore 61 = .ok (.iload 4, 2) := by decide +kernel
theorem dX11_oneMore_63 : decode cX11_oneMore 63 = .ok (.invokevirtual 180, 3) := by decide +kernel
theorem dX11_oneMore_66 : decode cX11_oneMore 66 = .ok (.aload_n 0, 1) := by decide +kernel
theorem dX11_oneMore_67 : decode cX11_oneMore 67 = .ok (.iload_n 1, 1) := by decide +kernel
theorem dX11_oneMore_68 : decode cX11_oneMore 68 = .ok (.invokevirtual 244, 3) := by decide +kernel
theorem dX11_oneMore_71 : decode cX11_oneMore 71 = .ok (.istore 5, 2) := by decide +kernel
theorem dX11_oneMore_73 : decode cX11_oneMore 73 = .ok (.iload 5, 2) := by decide +kernel
theorem dX11_oneMore_75 : decode cX11_oneMore 75 = .ok (.iload_n 3, 1) := by decide +kernel
theorem dX11_oneMore_76 : decode cX11_oneMore 76 = .ok (.if_icmp .ge 8, 3) := by decide +kernel
theorem dX11_oneMore_79 : decode cX11_oneMore 79 = .ok (.iload 4, 2) := by decide +kernel
theorem dX11_oneMore_81 : decode cX11_oneMore 81 = .ok (.goto 4, 3) := by decide +kernel
theorem dX11_oneMore_84 : decode cX11_oneMore 84 = .ok (.iload_n 2, 1) := by decide +kernel
theorem dX11_oneMore_85 : decode cX11_oneMore 85 = .ok (.istore_n 2, 1) := by decide +kernel
theorem dX11_oneMore_86 : decode cX11_oneMore 86 = .ok (.iload 5, 2) := by decide +kernel
theorem dX11_oneMore_88 : decode cX11_oneMore 88 = .ok (.iload_n 3, 1) := by decide +kernel
theorem dX11_oneMore_89 : decode cX11_oneMore 89 = .ok (.if_icmp .ge 8, 3) := by decide +kernel
theorem dX11_oneMore_92 : decode cX11_oneMore 92 = .ok (.iload 5, 2) := by decide +kernel
theorem dX11_oneMore_94 : decode cX11_oneMore 94 = .ok (.goto 4, 3) := by decide +kernel
theorem dX11_oneMore_97 : decode cX11_oneMore 97 = .ok (.iload_n 3, 1) := by decide +kernel
theorem dX11_oneMore_98 : decode cX11_oneMore 98 = .ok (.istore_n 3, 1) := by decide +kernel
theorem dX11_oneMore_99 : decode cX11_oneMore 99 = .ok (.iinc 4 1, 3) := by decide +kernel
theorem dX11_oneMore_102 : decode cX11_oneMore 102 = .ok (.goto (-61), 3) := by decide +kernel
theorem dX11_oneMore_105 : decode cX11_oneMore 105 = .ok (.iload_n 2, 1) := by decide +kernel
theorem dX11_oneMore_106 : decode cX11_oneMore 106 = .ok (.ireturn, 1) := by decide +kernel
theorem dX11_share_0 : decode cX11_share 0 = .ok (.aload_n 0, 1) := by decide +kernel
theorem dX11_share_1 : decode cX11_share 1 = .ok (.iconst 0, 1) := by decide +kernel
theorem dX11_share_2 : decode cX11_share 2 = .ok (.putfield 83, 3) := by decide +kernel
theorem dX11_share_5 : decode cX11_share 5 = .ok (.aload_n 0, 1) := by decide +kernel
theorem dX11_share_6 : decode cX11_share 6 = .ok (.iload_n 1, 1) := by decide +kernel
theorem dX11_share_7 : decode cX11_share 7 = .ok (.invokevirtual 177, 3) := by decide +kernel
theorem dX11_share_10 : decode cX11_share 10 = .ok (.ifCond .eq 11, 3) := by decide +kernel
theorem dX11_share_13 : decode cX11_share 13 = .ok (.aload_n 0, 1) := by decide +kernel
theorem dX11_share_14 : decode cX11_share 14 = .ok (.iload_n 2, 1) := by decide +kernel
theorem dX11_share_15 : decode cX11_share 15 = .ok (.invokevirtual 188, 3) := by decide +kernel
theorem dX11_share_18 : decode cX11_share 18 = .ok (.ifCond .ne 9, 3) := by decide +kernel
theorem dX11_share_21 : decode cX11_share 21 = .ok (.aload_n 0, 1) := by decide +kernel
theorem dX11_share_22 : decode cX11_share 22 = .ok (.iconst (-1), 1) := by decide +kernel
theorem dX11_share_23 : decode cX11_share 23 = .ok (.invokevirtual 134, 3) := by decide +kernel
theorem dX11_share_26 : decode cX11_share 26 = .ok (.ireturn, 1) := by decide +kernel
theorem dX11_share_27 : decode cX11_share 27 = .ok (.aload_n 0, 1) := by decide +kernel
theorem dX11_share_28 : decode cX11_share 28 = .ok (.iload_n 1, 1) := by decide +kernel
theorem dX11_share_29 : decode cX11_share 29 = .ok (.invokevirtual 116, 3) := by decide +kernel
theorem dX11_share_32 : decode cX11_share 32 = .ok (.aload_n 0, 1) := by decide +kernel
theorem dX11_share_33 : decode cX11_share 33 = .ok (.getfield 41, 3) := by decide +kernel
theorem dX11_share_36 : decode cX11_share 36 = .ok (.iload_n 2, 1) := by decide +kernel
theorem dX11_share_37 : decode cX11_share 37 = .ok (.iaload, 1) := by decide +kernel
theorem dX11_share_38 : decode cX11_share 38 = .ok (.ireturn, 1) := by decide +kernel
theorem dX11_pulledDown_0 : decode cX11_pulledDown 0 = .ok (.aload_n 0, 1) := by decide +kernel
theorem dX11_pulledDown_1 : decode cX11_pulledDown 1 = .ok (.iconst 0, 1) := by decide +kernel
theorem dX11_pulledDown_2 : decode cX11_pulledDown 2 = .ok (.putfield 83, 3) := by decide +kernel
theorem dX11_pulledDown_5 : decode cX11_pulledDown 5 = .ok (.aload_n 0, 1) := by decide +kernel
theorem dX11_pulledDown_6 : decode cX11_pulledDown 6 = .ok (.iload_n 1, 1) := by decide +kernel
theorem dX11_pulledDown_7 : decode cX11_pulledDown 7 = .ok (.invokevirtual 177, 3) := by decide +kernel
theorem dX11_pulledDown_10 : decode cX11_pulledDown 10 = .ok (.ifCond .eq 21, 3) := by decide +kernel
theorem dX11_pulledDown_13 : decode cX11_pulledDown 13 = .ok (.aload_n 0, 1) := by decide +kernel
theorem dX11_pulledDown_14 : decode cX11_pulledDown 14 = .ok (.iload_n 2, 1) := by decide +kernel
theorem dX11_pulledDown_15 : decode cX11_pulledDown 15 = .ok (.invokevirtual 188, 3) := by decide +kernel
theorem dX11_pulledDown_18 : decode cX11_pulledDown 18 = .ok (.ifCond .eq 13, 3) := by decide +kernel
theorem dX11_pulledDown_21 : decode cX11_pulledDown 21 = .ok (.iload_n 3, 1) := by decide +kernel
theorem dX11_pulledDown_22 : decode cX11_pulledDown 22 = .ok (.iconst 0, 1) := by decide +kernel
theorem dX11_pulledDown_23 : decode cX11_pulledDown 23 = .ok (.bipush 100, 2) := by decide +kernel
theorem dX11_pulledDown_25 : decode cX11_pulledDown 25 = .ok (.invokestatic 238, 3) := by decide +kernel
theorem dX11_pulledDown_28 : decode cX11_pulledDown 28 = .ok (.goto 4, 3) := by decide +kernel
theorem dX11_pulledDown_31 : decode cX11_pulledDown 31 = .ok (.iconst (-1), 1) := by decide +kernel
theorem dX11_pulledDown_32 : decode cX11_pulledDown 32 = .ok (.istore 4, 2) := by decide +kernel
theorem dX11_pulledDown_34 : decode cX11_pulledDown 34 = .ok (.iload 4, 2) := by decide +kernel
theorem dX11_pulledDown_36 : decode cX11_pulledDown 36 = .ok (.ifCond .ge 10, 3) := by decide +kernel
theorem dX11_pulledDown_39 : decode cX11_pulledDown 39 = .ok (.aload_n 0, 1) := by decide +kernel
theorem dX11_pulledDown_40 : decode cX11_pulledDown 40 = .ok (.iload 4, 2) := by decide +kernel
theorem dX11_pulledDown_42 : decode cX11_pulledDown 42 = .ok (.invokevirtual 134, 3) := by decide +kernel
theorem dX11_pulledDown_45 : decode cX11_pulledDown 45 = .ok (.ireturn, 1) := by decide +kernel
theorem dX11_pulledDown_46 : decode cX11_pulledDown 46 = .ok (.aload_n 0, 1) := by decide +kernel
theorem dX11_pulledDown_47 : decode cX11_pulledDown 47 = .ok (.iload_n 1, 1) := by decide +kernel
theorem dX11_pulledDown_48 : decode cX11_pulledDown 48 = .ok (.invokevirtual 116, 3) := by decide +kernel
theorem dX11_pulledDown_51 : decode cX11_pulledDown 51 = .ok (.aload_n 0, 1) := by decide +kernel
theorem dX11_pulledDown_52 : decode cX11_pulledDown 52 = .ok (.getfield 41, 3) := by decide +kernel
theorem dX11_pulledDown_55 : decode cX11_pulledDown 55 = .ok (.iload_n 2, 1) := by decide +kernel
theorem dX11_pulledDown_56 : decode cX11_pulledDown 56 = .ok (.iaload, 1) := by decide +kernel
theorem dX11_pulledDown_57 : decode cX11_pulledDown 57 = .ok (.istore 5, 2) := by decide +kernel
theorem dX11_pulledDown_59 : decode cX11_pulledDown 59 = .ok (.aload_n 0, 1) := by decide +kernel
theorem dX11_pulledDown_60 : decode cX11_pulledDown 60 = .ok (.invokevirtual 194, 3) := by decide +kernel
theorem dX11_pulledDown_63 : decode cX11_pulledDown 63 = .ok (.aload_n 0, 1) := by decide +kernel
theorem dX11_pulledDown_64 : decode cX11_pulledDown 64 = .ok (.iload_n 3, 1) := by decide +kernel
theorem dX11_pulledDown_65 : decode cX11_pulledDown 65 = .ok (.invokevirtual 185, 3) := by decide +kernel
theorem dX11_pulledDown_68 : decode cX11_pulledDown 68 = .ok (.aload_n 0, 1) := by decide +kernel
theorem dX11_pulledDown_69 : decode cX11_pulledDown 69 = .ok (.getfield 13, 3) := by decide +kernel
theorem dX11_pulledDown_72 : decode cX11_pulledDown 72 = .ok (.iload_n 2, 1) := by decide +kernel
theorem dX11_pulledDown_73 : decode cX11_pulledDown 73 = .ok (.iaload, 1) := by decide +kernel
theorem dX11_pulledDown_74 : decode cX11_pulledDown 74 = .ok (.istore 6, 2) := by decide +kernel
theorem dX11_pulledDown_76 : decode cX11_pulledDown 76 = .ok (.aload_n 0, 1) := by decide +kernel
theorem dX11_pulledDown_77 : decode cX11_pulledDown 77 = .ok (.invokevirtual 200, 3) := by decide +kernel
theorem dX11_pulledDown_80 : decode cX11_pulledDown 80 = .ok (.aload_n 0, 1) := by decide +kernel
theorem dX11_pulledDown_81 : decode cX11_pulledDown 81 = .ok (.getfield 13, 3) := by decide +kernel
theorem dX11_pulledDown_84 : decode cX11_pulledDown 84 = .ok (.iload_n 2, 1) := by decide +kernel
theorem dX11_pulledDown_85 : decode cX11_pulledDown 85 = .ok (.aload_n 0, 1) := by decide +kernel
theorem dX11_pulledDown_86 : decode cX11_pulledDown 86 = .ok (.getfield 13, 3) := by decide +kernel
theorem dX11_pulledDown_89 : decode cX11_pulledDown 89 = .ok (.iload_n 2, 1) := by decide +kernel
theorem dX11_pulledDown_90 : decode cX11_pulledDown 90 = .ok (.iaload, 1) := by decide +kernel
theorem dX11_pulledDown_91 : decode cX11_pulledDown 91 = .ok (.iload 5, 2) := by decide +kernel
theorem dX11_pulledDown_93 : decode cX11_pulledDown 93 = .ok (.isub, 1) := by decide +kernel
theorem dX11_pulledDown_94 : decode cX11_pulledDown 94 = .ok (.iconst 0, 1) := by decide +kernel
theorem dX11_pulledDown_95 : decode cX11_pulledDown 95 = .ok (.ldc 96, 2) := by decide +kernel
theorem dX11_pulledDown_97 : decode cX11_pulledDown 97 = .ok (.invokestatic 97, 3) := by decide +kernel
theorem dX11_pulledDown_100 : decode cX11_pulledDown 100 = .ok (.iastore, 1) := by decide +kernel
theorem dX11_pulledDown_101 : decode cX11_pulledDown 101 = .ok (.aload_n 0, 1) := by decide +kernel
theorem dX11_pulledDown_102 : decode cX11_pulledDown 102 = .ok (.iload_n 3, 1) := by decide +kernel
theorem dX11_pulledDown_103 : decode cX11_pulledDown 103 = .ok (.invokevirtual 185, 3) := by decide +kernel
theorem dX11_pulledDown_106 : decode cX11_pulledDown 106 = .ok (.aload_n 0, 1) := by decide +kernel
theorem dX11_pulledDown_107 : decode cX11_pulledDown 107 = .ok (.getfield 13, 3) := by decide +kernel
theorem dX11_pulledDown_110 : decode cX11_pulledDown 110 = .ok (.iload_n 2, 1) := by decide +kernel
theorem dX11_pulledDown_111 : decode cX11_pulledDown 111 = .ok (.iaload, 1) := by decide +kernel
theorem dX11_pulledDown_112 : decode cX11_pulledDown 112 = .ok (.istore 7, 2) := by decide +kernel
theorem dX11_pulledDown_114 : decode cX11_pulledDown 114 = .ok (.aload_n 0, 1) := by decide +kernel
theorem dX11_pulledDown_115 : decode cX11_pulledDown 115 = .ok (.invokevirtual 200, 3) := by decide +kernel
theorem dX11_pulledDown_118 : decode cX11_pulledDown 118 = .ok (.iload 6, 2) := by decide +kernel
theorem dX11_pulledDown_120 : decode cX11_pulledDown 120 = .ok (.iload 7, 2) := by decide +kernel
theorem dX11_pulledDown_122 : decode cX11_pulledDown 122 = .ok (.isub, 1) := by decide +kernel
theorem dX11_pulledDown_123 : decode cX11_pulledDown 123 = .ok (.ireturn, 1) := by decide +kernel
theorem dX11_headIn_0 : decode cX11_headIn 0 = .ok (.aload_n 0, 1) := by decide +kernel
theorem dX11_headIn_1 : decode cX11_headIn 1 = .ok (.invokevirtual 194, 3) := by decide +kernel
theorem dX11_headIn_4 : decode cX11_headIn 4 = .ok (.aload_n 0, 1) := by decide +kernel
theorem dX11_headIn_5 : decode cX11_headIn 5 = .ok (.iload_n 2, 1) := by decide +kernel
theorem dX11_headIn_6 : decode cX11_headIn 6 = .ok (.invokevirtual 185, 3) := by decide +kernel
theorem dX11_headIn_9 : decode cX11_headIn 9 = .ok (.aload_n 0, 1) := by decide +kernel
theorem dX11_headIn_10 : decode cX11_headIn 10 = .ok (.iload_n 1, 1) := by decide +kernel
theorem dX11_headIn_11 : decode cX11_headIn 11 = .ok (.invokevirtual 227, 3) := by decide +kernel
theorem dX11_headIn_14 : decode cX11_headIn 14 = .ok (.istore_n 3, 1) := by decide +kernel
theorem dX11_headIn_15 : decode cX11_headIn 15 = .ok (.aload_n 0, 1) := by decide +kernel
theorem dX11_headIn_16 : decode cX11_headIn 16 = .ok (.invokevirtual 200, 3) := by decide +kernel
theorem dX11_headIn_19 : decode cX11_headIn 19 = .ok (.iload_n 3, 1) := by decide +kernel
theorem dX11_headIn_20 : decode cX11_headIn 20 = .ok (.ireturn, 1) := by decide +kernel
theorem dX11_mergedIn_0 : decode cX11_mergedIn 0 = .ok (.aload_n 0, 1) := by decide +kernel
theorem dX11_mergedIn_1 : decode cX11_mergedIn 1 = .ok (.invokevirtual 194, 3) := by decide +kernel
theorem dX11_mergedIn_4 : decode cX11_mergedIn 4 = .ok (.aload_n 0, 1) := by decide +kernel
theorem dX11_mergedIn_5 : decode cX11_mergedIn 5 = .ok (.getfield 7, 3) := by decide +kernel
theorem dX11_mergedIn_8 : decode cX11_mergedIn 8 = .ok (.iload_n 1, 1) := by decide +kernel
theorem dX11_mergedIn_9 : decode cX11_mergedIn 9 = .ok (.aload_n 0, 1) := by decide +kernel
theorem dX11_mergedIn_10 : decode cX11_mergedIn 10 = .ok (.getfield 7, 3) := by decide +kernel
theorem dX11_mergedIn_13 : decode cX11_mergedIn 13 = .ok (.iload_n 1, 1) := by decide +kernel
theorem dX11_mergedIn_14 : decode cX11_mergedIn 14 = .ok (.iaload, 1) := by decide +kernel
theorem dX11_mergedIn_15 : decode cX11_mergedIn 15 = .ok (.aload_n 0, 1) := by decide +kernel
theorem dX11_mergedIn_16 : decode cX11_mergedIn 16 = .ok (.getfield 7, 3) := by decide +kernel
theorem dX11_mergedIn_19 : decode cX11_mergedIn 19 = .ok (.iload_n 2, 1) := by decide +kernel
theorem dX11_mergedIn_20 : decode cX11_mergedIn 20 = .ok (.iaload, 1) := by decide +kernel
theorem dX11_mergedIn_21 : decode cX11_mergedIn 21 = .ok (.iadd, 1) := by decide +kernel
theorem dX11_mergedIn_22 : decode cX11_mergedIn 22 = .ok (.iconst 1, 1) := by decide +kernel
theorem dX11_mergedIn_23 : decode cX11_mergedIn 23 = .ok (.bipush 20, 2) := by decide +kernel
theorem dX11_mergedIn_25 : decode cX11_mergedIn 25 = .ok (.invokestatic 97, 3) := by decide +kernel
theorem dX11_mergedIn_28 : decode cX11_mergedIn 28 = .ok (.iastore, 1) := by decide +kernel
theorem dX11_mergedIn_29 : decode cX11_mergedIn 29 = .ok (.aload_n 0, 1) := by decide +kernel
theorem dX11_mergedIn_30 : decode cX11_mergedIn 30 = .ok (.getfield 13, 3) := by decide +kernel
theorem dX11_mergedIn_33 : decode cX11_mergedIn 33 = .ok (.iload_n 1, 1) := by decide +kernel
theorem dX11_mergedIn_34 : decode cX11_mergedIn 34 = .ok (.aload_n 0, 1) := by decide +kernel
theorem dX11_mergedIn_35 : decode cX11_mergedIn 35 = .ok (.getfield 13, 3) := by decide +kernel
theorem dX11_mergedIn_38 : decode cX11_mergedIn 38 = .ok (.iload_n 1, 1) := by decide +kernel
theorem dX11_mergedIn_39 : decode cX11_mergedIn 39 = .ok (.iaload, 1) := by decide +kernel
theorem dX11_mergedIn_40 : decode cX11_mergedIn 40 = .ok (.aload_n 0, 1) := by decide +kernel
theorem dX11_mergedIn_41 : decode cX11_mergedIn 41 = .ok (.getfield 13, 3) := by decide +kernel
theorem dX11_mergedIn_44 : decode cX11_mergedIn 44 = .ok (.iload_n 2, 1) := by decide +kernel
theorem dX11_mergedIn_45 : decode cX11_mergedIn 45 = .ok (.iaload, 1) := by decide +kernel
theorem dX11_mergedIn_46 : decode cX11_mergedIn 46 = .ok (.iadd, 1) := by decide +kernel
theorem dX11_mergedIn_47 : decode cX11_mergedIn 47 = .ok (.iconst 0, 1) := by decide +kernel
theorem dX11_mergedIn_48 : decode cX11_mergedIn 48 = .ok (.ldc 96, 2) := by decide +kernel
theorem dX11_mergedIn_50 : decode cX11_mergedIn 50 = .ok (.invokestatic 97, 3) := by decide +kernel
theorem dX11_mergedIn_53 : decode cX11_mergedIn 53 = .ok (.iastore, 1) := by decide +kernel
theorem dX11_mergedIn_54 : decode cX11_mergedIn 54 = .ok (.aload_n 0, 1) := by decide +kernel
theorem dX11_mergedIn_55 : decode cX11_mergedIn 55 = .ok (.iload_n 3, 1) := by decide +kernel
theorem dX11_mergedIn_56 : decode cX11_mergedIn 56 = .ok (.invokevirtual 185, 3) := by decide +kernel
theorem dX11_mergedIn_59 : decode cX11_mergedIn 59 = .ok (.aload_n 0, 1) := by decide +kernel
theorem dX11_mergedIn_60 : decode cX11_mergedIn 60 = .ok (.iload_n 1, 1) := by decide +kernel
theorem dX11_mergedIn_61 : decode cX11_mergedIn 61 = .ok (.invokevirtual 227, 3) := by decide +kernel
theorem dX11_mergedIn_64 : decode cX11_mergedIn 64 = .ok (.istore 4, 2) := by decide +kernel
theorem dX11_mergedIn_66 : decode cX11_mergedIn 66 = .ok (.aload_n 0, 1) := by decide +kernel
theorem dX11_mergedIn_67 : decode cX11_mergedIn 67 = .ok (.invokevirtual 200, 3) := by decide +kernel
theorem dX11_mergedIn_70 : decode cX11_mergedIn 70 = .ok (.iload 4, 2) := by decide +kernel
theorem dX11_mergedIn_72 : decode cX11_mergedIn 72 = .ok (.ireturn, 1) := by decide +kernel
theorem dX11_merger_0 : decode cX11_merger 0 = .ok (.aload_n 0, 1) := by decide +kernel
theorem dX11_merger_1 : decode cX11_merger 1 = .ok (.iconst 0, 1) := by decide +kernel
theorem dX11_merger_2 : decode cX11_merger 2 = .ok (.putfield 83, 3) := by decide +kernel
theorem dX11_merger_5 : decode cX11_merger 5 = .ok (.aload_n 0, 1) := by decide +kernel
theorem dX11_merger_6 : decode cX11_merger 6 = .ok (.iload_n 1, 1) := by decide +kernel
theorem dX11_merger_7 : decode cX11_merger 7 = .ok (.invokevirtual 188, 3) := by decide +kernel
theorem dX11_merger_10 : decode cX11_merger 10 = .ok (.ifCond .eq 26, 3) := by decide +kernel
theorem dX11_merger_13 : decode cX11_merger 13 = .ok (.aload_n 0, 1) := by decide +kernel
theorem dX11_merger_14 : decode cX11_merger 14 = .ok (.iload_n 2, 1) := by decide +kernel
theorem dX11_merger_15 : decode cX11_merger 15 = .ok (.invokevirtual 188, 3) := by decide +kernel
theorem dX11_merger_18 : decode cX11_merger 18 = .ok (.ifCond .eq 18, 3) := by decide +kernel
theorem dX11_merger_21 : decode cX11_merger 21 = .ok (.iload_n 1, 1) := by decide +kernel
theorem dX11_merger_22 : decode cX11_merger 22 = .ok (.iload_n 2, 1) := by decide +kernel
theorem dX11_merger_23 : decode cX11_merger 23 = .ok (.if_icmp .eq 13, 3) := by decide +kernel
theorem dX11_merger_26 : decode cX11_merger 26 = .ok (.iload_n 3, 1) := by decide +kernel
theorem dX11_merger_27 : decode cX11_merger 27 = .ok (.iconst 0, 1) := by decide +kernel
theorem dX11_merger_28 : decode cX11_merger 28 = .ok (.bipush 100, 2) := by decide +kernel
theorem dX11_merger_30 : decode cX11_merger 30 = .ok (.invokestatic 238, 3) := by decide +kernel
theorem dX11_merger_33 : decode cX11_merger 33 = .ok (.goto 4, 3) := by decide +kernel
theorem dX11_merger_36 : decode cX11_merger 36 = .ok (.iconst (-1), 1) := by decide +kernel
theorem dX11_merger_37 : decode cX11_merger 37 = .ok (.istore 4, 2) := by decide +kernel
theorem dX11_merger_39 : decode cX11_merger 39 = .ok (.iload 4, 2) := by decide +kernel
theorem dX11_merger_41 : decode cX11_merger 41 = .ok (.ifCond .ge 12, 3) := by decide +kernel
theorem dX11_merger_44 : decode cX11_merger 44 = .ok (.aload_n 0, 1) := by decide +kernel
theorem dX11_merger_45 : decode cX11_merger 45 = .ok (.iload 4, 2) := by decide +kernel
theorem dX11_merger_47 : decode cX11_merger 47 = .ok (.invokevirtual 134, 3) := by decide +kernel
theorem dX11_merger_50 : decode cX11_merger 50 = .ok (.goto 10, 3) := by decide +kernel
theorem dX11_merger_53 : decode cX11_merger 53 = .ok (.aload_n 0, 1) := by decide +kernel
theorem dX11_merger_54 : decode cX11_merger 54 = .ok (.iload_n 1, 1) := by decide +kernel
theorem dX11_merger_55 : decode cX11_merger 55 = .ok (.iload_n 2, 1) := by decide +kernel
theorem dX11_merger_56 : decode cX11_merger 56 = .ok (.iload_n 3, 1) := by decide +kernel
theorem dX11_merger_57 : decode cX11_merger 57 = .ok (.invokevirtual 272, 3) := by decide +kernel
theorem dX11_merger_60 : decode cX11_merger 60 = .ok (.ireturn, 1) := by decide +kernel
theorem dX11_bestMerger_0 : decode cX11_bestMerger 0 = .ok (.aload_n 0, 1) := by decide +kernel
theorem dX11_bestMerger_1 : decode cX11_bestMerger 1 = .ok (.iconst 0, 1) := by decide +kernel
theorem dX11_bestMerger_2 : decode cX11_bestMerger 2 = .ok (.putfield 83, 3) := by decide +kernel
theorem dX11_bestMerger_5 : decode cX11_bestMerger 5 = .ok (.iload_n 1, 1) := by decide +kernel
theorem dX11_bestMerger_6 : decode cX11_bestMerger 6 = .ok (.iconst 0, 1) := by decide +kernel
theorem dX11_bestMerger_7 : decode cX11_bestMerger 7 = .ok (.bipush 100, 2) := by decide +kernel
theorem dX11_bestMerger_9 : decode cX11_bestMerger 9 = .ok (.invokestatic 238, 3) := by decide +kernel
theorem dX11_bestMerger_12 : decode cX11_bestMerger 12 = .ok (.ifCond .ge 15, 3) := by decide +kernel
theorem dX11_bestMerger_15 : decode cX11_bestMerger 15 = .ok (.aload_n 0, 1) := by decide +kernel
theorem dX11_bestMerger_16 : decode cX11_bestMerger 16 = .ok (.iload_n 1, 1) := by decide +kernel
theorem dX11_bestMerger_17 : decode cX11_bestMerger 17 = .ok (.iconst 0, 1) := by decide +kernel
theorem dX11_bestMerger_18 : decode cX11_bestMerger 18 = .ok (.bipush 100, 2) := by decide +kernel
theorem dX11_bestMerger_20 : decode cX11_bestMerger 20 = .ok (.invokestatic 238, 3) := by decide +kernel
theorem dX11_bestMerger_23 : decode cX11_bestMerger 23 = .ok (.invokevirtual 134, 3) := by decide +kernel
theorem dX11_bestMerger_26 : decode cX11_bestMerger 26 = .ok (.ireturn, 1) := by decide +kernel
theorem dX11_bestMerger_27 : decode cX11_bestMerger 27 = .ok (.bipush (-9), 2) := by decide +kernel
theorem dX11_bestMerger_29 : decode cX11_bestMerger 29 = .ok (.istore_n 2, 1) := by decide +kernel
theorem dX11_bestMerger_30 : decode cX11_bestMerger 30 = .ok (.ldc_w 271, 3) := by decide +kernel
theorem dX11_bestMerger_33 : decode cX11_bestMerger 33 = .ok (.istore_n 3, 1) := by decide +kernel
theorem dX11_bestMerger_34 : decode cX11_bestMerger 34 = .ok (.iconst 0, 1) := by decide +kernel
theorem dX11_bestMerger_35 : decode cX11_bestMerger 35 = .ok (.istore 4, 2) := by decide +kernel
theorem dX11_bestMerger_37 : decode cX11_bestMerger 37 = .ok (.iload 4, 2) := by decide +kernel
theorem dX11_bestMerger_39 : decode cX11_bestMerger 39 = .ok (.aload_n 0, 1) := by decide +kernel
theorem dX11_bestMerger_40 : decode cX11_bestMerger 40 = .ok (.getfield 86, 3) := by decide +kernel
theorem dX11_bestMerger_43 : decode cX11_bestMerger 43 = .ok (.if_icmp .ge 108, 3) := by decide +kernel
theorem dX11_bestMerger_46 : decode cX11_bestMerger 46 = .ok (.iload 4, 2) := by decide +kernel
theorem dX11_bestMerger_48 : decode cX11_bestMerger 48 = .ok (.iconst 1, 1) := by decide +kernel
theorem dX11_bestMerger_49 : decode cX11_bestMerger 49 = .ok (.iadd, 1) := by decide +kernel
theorem dX11_bestMerger_50 : decode cX11_bestMerger 50 = .ok (.istore 5, 2) := by decide +kernel
theorem dX11_bestMerger_52 : decode cX11_bestMerger 52 = .ok (.iload 5, 2) := by decide +kernel
theorem dX11_bestMerger_54 : decode cX11_bestMerger 54 = .ok (.aload_n 0, 1) := by decide +kernel
theorem dX11_bestMerger_55 : decode cX11_bestMerger 55 = .ok (.getfield 86, 3) := by decide +kernel
theorem dX11_bestMerger_58 : decode cX11_bestMerger 58 = .ok (.if_icmp .ge 87, 3) := by decide +kernel
theorem dX11_bestMerger_61 : decode cX11_bestMerger 61 = .ok (.aload_n 0, 1) := by decide +kernel
theorem dX11_bestMerger_62 : decode cX11_bestMerger 62 = .ok (.iload 4, 2) := by decide +kernel
theorem dX11_bestMerger_64 : decode cX11_bestMerger 64 = .ok (.iload 5, 2) := by decide +kernel
theorem dX11_bestMerger_66 : decode cX11_bestMerger 66 = .ok (.iload_n 1, 1) := by decide +kernel
theorem dX11_bestMerger_67 : decode cX11_bestMerger 67 = .ok (.invokevirtual 272, 3) := by decide +kernel
theorem dX11_bestMerger_70 : decode cX11_bestMerger 70 = .ok (.istore 6, 2) := by decide +kernel
theorem dX11_bestMerger_72 : decode cX11_bestMerger 72 = .ok (.iload 6, 2) := by decide +kernel
theorem dX11_bestMerger_74 : decode cX11_bestMerger 74 = .ok (.aload_n 0, 1) := by decide +kernel
theorem dX11_bestMerger_75 : decode cX11_bestMerger 75 = .ok (.iload 4, 2) := by decide +kernel
theorem dX11_bestMerger_77 : decode cX11_bestMerger 77 = .ok (.iload_n 1, 1) := by decide +kernel
theorem dX11_bestMerger_78 : decode cX11_bestMerger 78 = .ok (.invokevirtual 275, 3) := by decide +kernel
theorem dX11_bestMerger_81 : decode cX11_bestMerger 81 = .ok (.if_icmp .ge 25, 3) := by decide +kernel
theorem dX11_bestMerger_84 : decode cX11_bestMerger 84 = .ok (.iload 6, 2) := by decide +kernel
theorem dX11_bestMerger_86 : decode cX11_bestMerger 86 = .ok (.aload_n 0, 1) := by decide +kernel
theorem dX11_bestMerger_87 : decode cX11_bestMerger 87 = .ok (.iload 5, 2) := by decide +kernel
theorem dX11_bestMerger_89 : decode cX11_bestMerger 89 = .ok (.iload_n 1, 1) := by decide +kernel
theorem dX11_bestMerger_90 : decode cX11_bestMerger 90 = .ok (.invokevirtual 275, 3) := by decide +kernel
theorem dX11_bestMerger_93 : decode cX11_bestMerger 93 = .ok (.if_icmp .ge 13, 3) := by decide +kernel
theorem dX11_bestMerger_96 : decode cX11_bestMerger 96 = .ok (.iload 6, 2) := by decide +kernel
theorem dX11_bestMerger_98 : decode cX11_bestMerger 98 = .ok (.iload_n 3, 1) := by decide +kernel
theorem dX11_bestMerger_99 : decode cX11_bestMerger 99 = .ok (.if_icmp .ge 7, 3) := by decide +kernel
theorem dX11_bestMerger_102 : decode cX11_bestMerger 102 = .ok (.iconst 1, 1) := by decide +kernel
theorem dX11_bestMerger_103 : decode cX11_bestMerger 103 = .ok (.goto 4, 3) := by decide +kernel
theorem dX11_bestMerger_106 : decode cX11_bestMerger 106 = .ok (.iconst 0, 1) := by decide +kernel
theorem dX11_bestMerger_107 : decode cX11_bestMerger 107 = .ok (.istore 7, 2) := by decide +kernel
theorem dX11_bestMerger_109 : decode cX11_bestMerger 109 = .ok (.iload 7, 2) := by decide +kernel
theorem dX11_bestMerger_111 : decode cX11_bestMerger 111 = .ok (.ifCond .eq 14, 3) := by decide +kernel
theorem dX11_bestMerger_114 : decode cX11_bestMerger 114 = .ok (.bipush 10, 2) := by decide +kernel
theorem dX11_bestMerger_116 : decode cX11_bestMerger 116 = .ok (.iload 4, 2) := by decide +kernel
theorem dX11_bestMerger_118 : decode cX11_bestMerger 118 = .ok (.imul, 1) := by decide +kernel
theorem dX11_bestMerger_119 : decode cX11_bestMerger 119 = .ok (.iload 5, 2) := by decide +kernel
theorem dX11_bestMerger_121 : decode cX11_bestMerger 121 = .ok (.iadd, 1) := by decide +kernel
theorem dX11_bestMerger_122 : decode cX11_bestMerger 122 = .ok (.goto 4, 3) := by decide +kernel
theorem dX11_bestMerger_125 : decode cX11_bestMerger 125 = .ok (.iload_n 2, 1) := by decide +kernel
theorem dX11_bestMerger_126 : decode cX11_bestMerger 126 = .ok (.istore_n 2, 1) := by decide +kernel
theorem dX11_bestMerger_127 : decode cX11_bestMerger 127 = .ok (.iload 7, 2) := by decide +kernel
theorem dX11_bestMerger_129 : decode cX11_bestMerger 129 = .ok (.ifCond .eq 8, 3) := by decide +kernel
theorem dX11_bestMerger_132 : decode cX11_bestMerger 132 = .ok (.iload 6, 2) := by decide +kernel
theorem dX11_bestMerger_134 : decode cX11_bestMerger 134 = .ok (.goto 4, 3) := by decide +kernel
theorem dX11_bestMerger_137 : decode cX11_bestMerger 137 = .ok (.iload_n 3, 1) := by decide +kernel
theorem dX11_bestMerger_138 : decode cX11_bestMerger 138 = .ok (.istore_n 3, 1) := by decide +kernel
theorem dX11_bestMerger_139 : decode cX11_bestMerger 139 = .ok (.iinc 5 1, 3) := by decide +kernel
theorem dX11_bestMerger_142 : decode cX11_bestMerger 142 = .ok (.goto (-90), 3) := by decide +kernel
theorem dX11_bestMerger_145 : decode cX11_bestMerger 145 = .ok (.iinc 4 1, 3) := by decide +kernel
theorem dX11_bestMerger_148 : decode cX11_bestMerger 148 = .ok (.goto (-111), 3) := by decide +kernel
theorem dX11_bestMerger_151 : decode cX11_bestMerger 151 = .ok (.iload_n 2, 1) := by decide +kernel
theorem dX11_bestMerger_152 : decode cX11_bestMerger 152 = .ok (.ireturn, 1) := by decide +kernel
theorem dX11_divisor_0 : decode cX11_divisor 0 = .ok (.lload_n 0, 1) := by decide +kernel
theorem dX11_divisor_1 : decode cX11_divisor 1 = .ok (.lstore 4, 2) := by decide +kernel
theorem dX11_divisor_3 : decode cX11_divisor 3 = .ok (.lload_n 2, 1) := by decide +kernel
theorem dX11_divisor_4 : decode cX11_divisor 4 = .ok (.lstore 6, 2) := by decide +kernel
theorem dX11_divisor_6 : decode cX11_divisor 6 = .ok (.lload 6, 2) := by decide +kernel
theorem dX11_divisor_8 : decode cX11_divisor 8 = .ok (.lconst 0, 1) := by decide +kernel
theorem dX11_divisor_9 : decode cX11_divisor 9 = .ok (.lcmp, 1) := by decide +kernel
theorem dX11_divisor_10 : decode cX11_divisor 10 = .ok (.ifCond .eq 21, 3) := by decide +kernel
theorem dX11_divisor_13 : decode cX11_divisor 13 = .ok (.lload 4, 2) := by decide +kernel
theorem dX11_divisor_15 : decode cX11_divisor 15 = .ok (.lload 6, 2) := by decide +kernel
theorem dX11_divisor_17 : decode cX11_divisor 17 = .ok (.lrem, 1) := by decide +kernel
theorem dX11_divisor_18 : decode cX11_divisor 18 = .ok (.lstore 8, 2) := by decide +kernel
theorem dX11_divisor_20 : decode cX11_divisor 20 = .ok (.lload 6, 2) := by decide +kernel
theorem dX11_divisor_22 : decode cX11_divisor 22 = .ok (.lstore 4, 2) := by decide +kernel
theorem dX11_divisor_24 : decode cX11_divisor 24 = .ok (.lload 8, 2) := by decide +kernel
theorem dX11_divisor_26 : decode cX11_divisor 26 = .ok (.lstore 6, 2) := by decide +kernel
theorem dX11_divisor_28 : decode cX11_divisor 28 = .ok (.goto (-22), 3) := by decide +kernel
theorem dX11_divisor_31 : decode cX11_divisor 31 = .ok (.lload 4, 2) := by decide +kernel
theorem dX11_divisor_33 : decode cX11_divisor 33 = .ok (.lreturn, 1) := by decide +kernel
theorem dX11_partOf_0 : decode cX11_partOf 0 = .ok (.lload_n 0, 1) := by decide +kernel
theorem dX11_partOf_1 : decode cX11_partOf 1 = .ok (.lconst 0, 1) := by decide +kernel
theorem dX11_partOf_2 : decode cX11_partOf 2 = .ok (.lcmp, 1) := by decide +kernel
theorem dX11_partOf_3 : decode cX11_partOf 3 = .ok (.ifCond .ne 7, 3) := by decide +kernel
theorem dX11_partOf_6 : decode cX11_partOf 6 = .ok (.iload 4, 2) := by decide +kernel
theorem dX11_partOf_8 : decode cX11_partOf 8 = .ok (.i2l, 1) := by decide +kernel
theorem dX11_partOf_9 : decode cX11_partOf 9 = .ok (.lreturn, 1) := by decide +kernel
theorem dX11_partOf_10 : decode cX11_partOf 10 = .ok (.lload_n 0, 1) := by decide +kernel
theorem dX11_partOf_11 : decode cX11_partOf 11 = .ok (.lload_n 2, 1) := by decide +kernel
theorem dX11_partOf_12 : decode cX11_partOf 12 = .ok (.invokestatic 279, 3) := by decide +kernel
theorem dX11_partOf_15 : decode cX11_partOf 15 = .ok (.lstore 5, 2) := by decide +kernel
theorem dX11_partOf_17 : decode cX11_partOf 17 = .ok (.iload 4, 2) := by decide +kernel
theorem dX11_partOf_19 : decode cX11_partOf 19 = .ok (.ifCond .ne 10, 3) := by decide +kernel
theorem dX11_partOf_22 : decode cX11_partOf 22 = .ok (.lload_n 0, 1) := by decide +kernel
theorem dX11_partOf_23 : decode cX11_partOf 23 = .ok (.lload 5, 2) := by decide +kernel
theorem dX11_partOf_25 : decode cX11_partOf 25 = .ok (.ldiv, 1) := by decide +kernel
theorem dX11_partOf_26 : decode cX11_partOf 26 = .ok (.goto 7, 3) := by decide +kernel
theorem dX11_partOf_29 : decode cX11_partOf 29 = .ok (.lload_n 2, 1) := by decide +kernel
theorem dX11_partOf_30 : decode cX11_partOf 30 = .ok (.lload 5, 2) := by decide +kernel
theorem dX11_partOf_32 : decode cX11_partOf 32 = .ok (.ldiv, 1) := by decide +kernel
theorem dX11_partOf_33 : decode cX11_partOf 33 = .ok (.lreturn, 1) := by decide +kernel
theorem dX11_child_0 : decode cX11_child 0 = .ok (.aload_n 0, 1) := by decide +kernel
theorem dX11_child_1 : decode cX11_child 1 = .ok (.iconst 0, 1) := by decide +kernel
theorem dX11_child_2 : decode cX11_child 2 = .ok (.putfield 83, 3) := by decide +kernel
theorem dX11_child_5 : decode cX11_child 5 = .ok (.aload_n 0, 1) := by decide +kernel
theorem dX11_child_6 : decode cX11_child 6 = .ok (.iload_n 1, 1) := by decide +kernel
theorem dX11_child_7 : decode cX11_child 7 = .ok (.invokevirtual 188, 3) := by decide +kernel
theorem dX11_child_10 : decode cX11_child 10 = .ok (.ifCond .eq 12, 3) := by decide +kernel
theorem dX11_child_13 : decode cX11_child 13 = .ok (.iconst 0, 1) := by decide +kernel
theorem dX11_child_14 : decode cX11_child 14 = .ok (.iload_n 2, 1) := by decide +kernel
theorem dX11_child_15 : decode cX11_child 15 = .ok (.iconst 1, 1) := by decide +kernel
theorem dX11_child_16 : decode cX11_child 16 = .ok (.invokestatic 241, 3) := by decide +kernel
theorem dX11_child_19 : decode cX11_child 19 = .ok (.goto 4, 3) := by decide +kernel
theorem dX11_child_22 : decode cX11_child 22 = .ok (.iconst (-1), 1) := by decide +kernel
theorem dX11_child_23 : decode cX11_child 23 = .ok (.istore_n 3, 1) := by decide +kernel
theorem dX11_child_24 : decode cX11_child 24 = .ok (.iload_n 3, 1) := by decide +kernel
theorem dX11_child_25 : decode cX11_child 25 = .ok (.ifCond .ge 16, 3) := by decide +kernel
theorem dX11_child_28 : decode cX11_child 28 = .ok (.ldc2_w 283, 3) := by decide +kernel
theorem dX11_child_31 : decode cX11_child 31 = .ok (.aload_n 0, 1) := by decide +kernel
theorem dX11_child_32 : decode cX11_child 32 = .ok (.iload_n 3, 1) := by decide +kernel
theorem dX11_child_33 : decode cX11_child 33 = .ok (.invokevirtual 134, 3) := by decide +kernel
theorem dX11_child_36 : decode cX11_child 36 = .ok (.i2l, 1) := by decide +kernel
theorem dX11_child_37 : decode cX11_child 37 = .ok (.lsub, 1) := by decide +kernel
theorem dX11_child_38 : decode cX11_child 38 = .ok (.goto 21, 3) := by decide +kernel
theorem dX11_child_41 : decode cX11_child 41 = .ok (.aload_n 0, 1) := by decide +kernel
theorem dX11_child_42 : decode cX11_child 42 = .ok (.getfield 13, 3) := by decide +kernel
theorem dX11_child_45 : decode cX11_child 45 = .ok (.iload_n 1, 1) := by decide +kernel
theorem dX11_child_46 : decode cX11_child 46 = .ok (.iaload, 1) := by decide +kernel
theorem dX11_child_47 : decode cX11_child 47 = .ok (.i2l, 1) := by decide +kernel
theorem dX11_child_48 : decode cX11_child 48 = .ok (.aload_n 0, 1) := by decide +kernel
theorem dX11_child_49 : decode cX11_child 49 = .ok (.getfield 7, 3) := by decide +kernel
theorem dX11_child_52 : decode cX11_child 52 = .ok (.iload_n 1, 1) := by decide +kernel
theorem dX11_child_53 : decode cX11_child 53 = .ok (.iaload, 1) := by decide +kernel
theorem dX11_child_54 : decode cX11_child 54 = .ok (.i2l, 1) := by decide +kernel
theorem dX11_child_55 : decode cX11_child 55 = .ok (.iload_n 2, 1) := by decide +kernel
theorem dX11_child_56 : decode cX11_child 56 = .ok (.invokestatic 285, 3) := by decide +kernel
theorem dX11_child_59 : decode cX11_child 59 = .ok (.lreturn, 1) := by decide +kernel
theorem dX11_cheapest_0 : decode cX11_cheapest 0 = .ok (.aload_n 0, 1) := by decide +kernel
theorem dX11_cheapest_1 : decode cX11_cheapest 1 = .ok (.iconst 0, 1) := by decide +kernel
theorem dX11_cheapest_2 : decode cX11_cheapest 2 = .ok (.putfield 83, 3) := by decide +kernel
theorem dX11_cheapest_5 : decode cX11_cheapest 5 = .ok (.iload_n 1, 1) := by decide +kernel
theorem dX11_cheapest_6 : decode cX11_cheapest 6 = .ok (.iconst 0, 1) := by decide +kernel
theorem dX11_cheapest_7 : decode cX11_cheapest 7 = .ok (.bipush 100, 2) := by decide +kernel
theorem dX11_cheapest_9 : decode cX11_cheapest 9 = .ok (.invokestatic 238, 3) := by decide +kernel
theorem dX11_cheapest_12 : decode cX11_cheapest 12 = .ok (.iload_n 2, 1) := by decide +kernel
theorem dX11_cheapest_13 : decode cX11_cheapest 13 = .ok (.iconst 1, 1) := by decide +kernel
theorem dX11_cheapest_14 : decode cX11_cheapest 14 = .ok (.invokestatic 241, 3) := by decide +kernel
theorem dX11_cheapest_17 : decode cX11_cheapest 17 = .ok (.istore_n 3, 1) := by decide +kernel
theorem dX11_cheapest_18 : decode cX11_cheapest 18 = .ok (.iload_n 3, 1) := by decide +kernel
theorem dX11_cheapest_19 : decode cX11_cheapest 19 = .ok (.ifCond .ge 9, 3) := by decide +kernel
theorem dX11_cheapest_22 : decode cX11_cheapest 22 = .ok (.aload_n 0, 1) := by decide +kernel
theorem dX11_cheapest_23 : decode cX11_cheapest 23 = .ok (.iload_n 3, 1) := by decide +kernel
theorem dX11_cheapest_24 : decode cX11_cheapest 24 = .ok (.invokevirtual 134, 3) := by decide +kernel
theorem dX11_cheapest_27 : decode cX11_cheapest 27 = .ok (.ireturn, 1) := by decide +kernel
theorem dX11_cheapest_28 : decode cX11_cheapest 28 = .ok (.bipush (-9), 2) := by decide +kernel
theorem dX11_cheapest_30 : decode cX11_cheapest 30 = .ok (.istore 4, 2) := by decide +kernel
theorem dX11_cheapest_32 : decode cX11_cheapest 32 = .ok (.iconst 0, 1) := by decide +kernel
theorem dX11_cheapest_33 : decode cX11_cheapest 33 = .ok (.istore 5, 2) := by decide +kernel
theorem dX11_cheapest_35 : decode cX11_cheapest 35 = .ok (.iload 5, 2) := by decide +kernel
theorem dX11_cheapest_37 : decode cX11_cheapest 37 = .ok (.aload_n 0, 1) := by decide +kernel
theorem dX11_cheapest_38 : decode cX11_cheapest 38 = .ok (.getfield 86, 3) := by decide +kernel
theorem dX11_cheapest_41 : decode cX11_cheapest 41 = .ok (.if_icmp .ge 56, 3) := by decide +kernel
theorem dX11_cheapest_44 : decode cX11_cheapest 44 = .ok (.iload 4, 2) := by decide +kernel
theorem dX11_cheapest_46 : decode cX11_cheapest 46 = .ok (.ifCond .lt 36, 3) := by decide +kernel
theorem dX11_cheapest_49 : decode cX11_cheapest 49 = .ok (.aload_n 0, 1) := by decide +kernel
theorem dX11_cheapest_50 : decode cX11_cheapest 50 = .ok (.getfield 13, 3) := by decide +kernel
theorem dX11_cheapest_53 : decode cX11_cheapest 53 = .ok (.iload 5, 2) := by decide +kernel
theorem dX11_cheapest_55 : decode cX11_cheapest 55 = .ok (.iaload, 1) := by decide +kernel
theorem dX11_cheapest_56 : decode cX11_cheapest 56 = .ok (.aload_n 0, 1) := by decide +kernel
theorem dX11_cheapest_57 : decode cX11_cheapest 57 = .ok (.getfield 7, 3) := by decide +kernel
theorem dX11_cheapest_60 : decode cX11_cheapest 60 = .ok (.iload 4, 2) := by decide +kernel
theorem dX11_cheapest_62 : decode cX11_cheapest 62 = .ok (.iaload, 1) := by decide +kernel
theorem dX11_cheapest_63 : decode cX11_cheapest 63 = .ok (.imul, 1) := by decide +kernel
theorem dX11_cheapest_64 : decode cX11_cheapest 64 = .ok (.aload_n 0, 1) := by decide +kernel
theorem dX11_cheapest_65 : decode cX11_cheapest 65 = .ok (.getfield 13, 3) := by decide +kernel
theorem dX11_cheapest_68 : decode cX11_cheapest 68 = .ok (.iload 4, 2) := by decide +kernel
theorem dX11_cheapest_70 : decode cX11_cheapest 70 = .ok (.iaload, 1) := by decide +kernel
theorem dX11_cheapest_71 : decode cX11_cheapest 71 = .ok (.aload_n 0, 1) := by decide +kernel
theorem dX11_cheapest_72 : decode cX11_cheapest 72 = .ok (.getfield 7, 3) := by decide +kernel
theorem dX11_cheapest_75 : decode cX11_cheapest 75 = .ok (.iload 5, 2) := by decide +kernel
theorem dX11_cheapest_77 : decode cX11_cheapest 77 = .ok (.iaload, 1) := by decide +kernel
theorem dX11_cheapest_78 : decode cX11_cheapest 78 = .ok (.imul, 1) := by decide +kernel
theorem dX11_cheapest_79 : decode cX11_cheapest 79 = .ok (.if_icmp .ge 8, 3) := by decide +kernel
theorem dX11_cheapest_82 : decode cX11_cheapest 82 = .ok (.iload 5, 2) := by decide +kernel
theorem dX11_cheapest_84 : decode cX11_cheapest 84 = .ok (.goto 5, 3) := by decide +kernel
theorem dX11_cheapest_87 : decode cX11_cheapest 87 = .ok (.iload 4, 2) := by decide +kernel
theorem dX11_cheapest_89 : decode cX11_cheapest 89 = .ok (.istore 4, 2) := by decide +kernel
theorem dX11_cheapest_91 : decode cX11_cheapest 91 = .ok (.iinc 5 1, 3) := by decide +kernel
theorem dX11_cheapest_94 : decode cX11_cheapest 94 = .ok (.goto (-59), 3) := by decide +kernel
theorem dX11_cheapest_97 : decode cX11_cheapest 97 = .ok (.aload_n 0, 1) := by decide +kernel
theorem dX11_cheapest_98 : decode cX11_cheapest 98 = .ok (.invokevirtual 194, 3) := by decide +kernel
theorem dX11_cheapest_101 : decode cX11_cheapest 101 = .ok (.aload_n 0, 1) := by decide +kernel
theorem dX11_cheapest_102 : decode cX11_cheapest 102 = .ok (.iload_n 1, 1) := by decide +kernel
theorem dX11_cheapest_103 : decode cX11_cheapest 103 = .ok (.invokevirtual 185, 3) := by decide +kernel
theorem dX11_cheapest_106 : decode cX11_cheapest 106 = .ok (.aload_n 0, 1) := by decide +kernel
theorem dX11_cheapest_107 : decode cX11_cheapest 107 = .ok (.invokevirtual 200, 3) := by decide +kernel
theorem dX11_cheapest_110 : decode cX11_cheapest 110 = .ok (.iload_n 2, 1) := by decide +kernel
theorem dX11_cheapest_111 : decode cX11_cheapest 111 = .ok (.ifCond .ne 8, 3) := by decide +kernel
theorem dX11_cheapest_114 : decode cX11_cheapest 114 = .ok (.iload 4, 2) := by decide +kernel
theorem dX11_cheapest_116 : decode cX11_cheapest 116 = .ok (.goto 7, 3) := by decide +kernel
theorem dX11_cheapest_119 : decode cX11_cheapest 119 = .ok (.aload_n 0, 1) := by decide +kernel
theorem dX11_cheapest_120 : decode cX11_cheapest 120 = .ok (.getfield 128, 3) := by decide +kernel
theorem dX11_cheapest_123 : decode cX11_cheapest 123 = .ok (.ireturn, 1) := by decide +kernel
theorem dX11_burden_0 : decode cX11_burden 0 = .ok (.aload_n 0, 1) := by decide +kernel
theorem dX11_burden_1 : decode cX11_burden 1 = .ok (.invokevirtual 194, 3) := by decide +kernel
theorem dX11_burden_4 : decode cX11_burden 4 = .ok (.aload_n 0, 1) := by decide +kernel
theorem dX11_burden_5 : decode cX11_burden 5 = .ok (.getfield 16, 3) := by decide +kernel
theorem dX11_burden_8 : decode cX11_burden 8 = .ok (.iload_n 1, 1) := by decide +kernel
theorem dX11_burden_9 : decode cX11_burden 9 = .ok (.aload_n 0, 1) := by decide +kernel
theorem dX11_burden_10 : decode cX11_burden 10 = .ok (.getfield 16, 3) := by decide +kernel
theorem dX11_burden_13 : decode cX11_burden 13 = .ok (.iload_n 1, 1) := by decide +kernel
theorem dX11_burden_14 : decode cX11_burden 14 = .ok (.iaload, 1) := by decide +kernel
theorem dX11_burden_15 : decode cX11_burden 15 = .ok (.iload_n 2, 1) := by decide +kernel
theorem dX11_burden_16 : decode cX11_burden 16 = .ok (.iadd, 1) := by decide +kernel
theorem dX11_burden_17 : decode cX11_burden 17 = .ok (.iconst 0, 1) := by decide +kernel
theorem dX11_burden_18 : decode cX11_burden 18 = .ok (.bipush 9, 2) := by decide +kernel
theorem dX11_burden_20 : decode cX11_burden 20 = .ok (.invokestatic 97, 3) := by decide +kernel
theorem dX11_burden_23 : decode cX11_burden 23 = .ok (.iastore, 1) := by decide +kernel
theorem dX11_burden_24 : decode cX11_burden 24 = .ok (.aload_n 0, 1) := by decide +kernel
theorem dX11_burden_25 : decode cX11_burden 25 = .ok (.iload_n 3, 1) := by decide +kernel
theorem dX11_burden_26 : decode cX11_burden 26 = .ok (.invokevirtual 185, 3) := by decide +kernel
theorem dX11_burden_29 : decode cX11_burden 29 = .ok (.aload_n 0, 1) := by decide +kernel
theorem dX11_burden_30 : decode cX11_burden 30 = .ok (.getfield 47, 3) := by decide +kernel
theorem dX11_burden_33 : decode cX11_burden 33 = .ok (.iload_n 1, 1) := by decide +kernel
theorem dX11_burden_34 : decode cX11_burden 34 = .ok (.iaload, 1) := by decide +kernel
theorem dX11_burden_35 : decode cX11_burden 35 = .ok (.aload_n 0, 1) := by decide +kernel
theorem dX11_burden_36 : decode cX11_burden 36 = .ok (.getfield 13, 3) := by decide +kernel
theorem dX11_burden_39 : decode cX11_burden 39 = .ok (.iload_n 1, 1) := by decide +kernel
theorem dX11_burden_40 : decode cX11_burden 40 = .ok (.iaload, 1) := by decide +kernel
theorem dX11_burden_41 : decode cX11_burden 41 = .ok (.iadd, 1) := by decide +kernel
theorem dX11_burden_42 : decode cX11_burden 42 = .ok (.istore 4, 2) := by decide +kernel
theorem dX11_burden_44 : decode cX11_burden 44 = .ok (.aload_n 0, 1) := by decide +kernel
theorem dX11_burden_45 : decode cX11_burden 45 = .ok (.invokevirtual 200, 3) := by decide +kernel
theorem dX11_burden_48 : decode cX11_burden 48 = .ok (.iload 4, 2) := by decide +kernel
theorem dX11_burden_50 : decode cX11_burden 50 = .ok (.ireturn, 1) := by decide +kernel
theorem dX11_treaty_0 : decode cX11_treaty 0 = .ok (.aload_n 0, 1) := by decide +kernel
theorem dX11_treaty_1 : decode cX11_treaty 1 = .ok (.iconst 0, 1) := by decide +kernel
theorem dX11_treaty_2 : decode cX11_treaty 2 = .ok (.putfield 83, 3) := by decide +kernel
theorem dX11_treaty_5 : decode cX11_treaty 5 = .ok (.aload_n 0, 1) := by decide +kernel
theorem dX11_treaty_6 : decode cX11_treaty 6 = .ok (.iload_n 1, 1) := by decide +kernel
theorem dX11_treaty_7 : decode cX11_treaty 7 = .ok (.invokevirtual 188, 3) := by decide +kernel
theorem dX11_treaty_10 : decode cX11_treaty 10 = .ok (.ifCond .eq 26, 3) := by decide +kernel
theorem dX11_treaty_13 : decode cX11_treaty 13 = .ok (.aload_n 0, 1) := by decide +kernel
theorem dX11_treaty_14 : decode cX11_treaty 14 = .ok (.iload_n 2, 1) := by decide +kernel
theorem dX11_treaty_15 : decode cX11_treaty 15 = .ok (.invokevirtual 188, 3) := by decide +kernel
theorem dX11_treaty_18 : decode cX11_treaty 18 = .ok (.ifCond .eq 18, 3) := by decide +kernel
theorem dX11_treaty_21 : decode cX11_treaty 21 = .ok (.iload_n 1, 1) := by decide +kernel
theorem dX11_treaty_22 : decode cX11_treaty 22 = .ok (.iload_n 2, 1) := by decide +kernel
theorem dX11_treaty_23 : decode cX11_treaty 23 = .ok (.if_icmp .eq 13, 3) := by decide +kernel
theorem dX11_treaty_26 : decode cX11_treaty 26 = .ok (.iload_n 3, 1) := by decide +kernel
theorem dX11_treaty_27 : decode cX11_treaty 27 = .ok (.iconst 0, 1) := by decide +kernel
theorem dX11_treaty_28 : decode cX11_treaty 28 = .ok (.bipush 100, 2) := by decide +kernel
theorem dX11_treaty_30 : decode cX11_treaty 30 = .ok (.invokestatic 238, 3) := by decide +kernel
theorem dX11_treaty_33 : decode cX11_treaty 33 = .ok (.goto 4, 3) := by decide +kernel
theorem dX11_treaty_36 : decode cX11_treaty 36 = .ok (.iconst (-1), 1) := by decide +kernel
theorem dX11_treaty_37 : decode cX11_treaty 37 = .ok (.istore 4, 2) := by decide +kernel
theorem dX11_treaty_39 : decode cX11_treaty 39 = .ok (.iload 4, 2) := by decide +kernel
theorem dX11_treaty_41 : decode cX11_treaty 41 = .ok (.ifCond .ge 10, 3) := by decide +kernel
theorem dX11_treaty_44 : decode cX11_treaty 44 = .ok (.aload_n 0, 1) := by decide +kernel
theorem dX11_treaty_45 : decode cX11_treaty 45 = .ok (.iload 4, 2) := by decide +kernel
theorem dX11_treaty_47 : decode cX11_treaty 47 = .ok (.invokevirtual 134, 3) := by decide +kernel
theorem dX11_treaty_50 : decode cX11_treaty 50 = .ok (.ireturn, 1) := by decide +kernel
theorem dX11_treaty_51 : decode cX11_treaty 51 = .ok (.aload_n 0, 1) := by decide +kernel
theorem dX11_treaty_52 : decode cX11_treaty 52 = .ok (.iload_n 1, 1) := by decide +kernel
theorem dX11_treaty_53 : decode cX11_treaty 53 = .ok (.iconst 1, 1) := by decide +kernel
theorem dX11_treaty_54 : decode cX11_treaty 54 = .ok (.iload_n 3, 1) := by decide +kernel
theorem dX11_treaty_55 : decode cX11_treaty 55 = .ok (.invokevirtual 289, 3) := by decide +kernel
theorem dX11_treaty_58 : decode cX11_treaty 58 = .ok (.aload_n 0, 1) := by decide +kernel
theorem dX11_treaty_59 : decode cX11_treaty 59 = .ok (.iload_n 1, 1) := by decide +kernel
theorem dX11_treaty_60 : decode cX11_treaty 60 = .ok (.iconst 0, 1) := by decide +kernel
theorem dX11_treaty_61 : decode cX11_treaty 61 = .ok (.iload_n 3, 1) := by decide +kernel
theorem dX11_treaty_62 : decode cX11_treaty 62 = .ok (.invokevirtual 289, 3) := by decide +kernel
theorem dX11_treaty_65 : decode cX11_treaty 65 = .ok (.if_icmp .ge 7, 3) := by decide +kernel
theorem dX11_treaty_68 : decode cX11_treaty 68 = .ok (.iconst 1, 1) := by decide +kernel
theorem dX11_treaty_69 : decode cX11_treaty 69 = .ok (.goto 4, 3) := by decide +kernel
theorem dX11_treaty_72 : decode cX11_treaty 72 = .ok (.iconst 0, 1) := by decide +kernel
theorem dX11_treaty_73 : decode cX11_treaty 73 = .ok (.istore 5, 2) := by decide +kernel
theorem dX11_treaty_75 : decode cX11_treaty 75 = .ok (.aload_n 0, 1) := by decide +kernel
theorem dX11_treaty_76 : decode cX11_treaty 76 = .ok (.iload_n 2, 1) := by decide +kernel
theorem dX11_treaty_77 : decode cX11_treaty 77 = .ok (.iconst 1, 1) := by decide +kernel
theorem dX11_treaty_78 : decode cX11_treaty 78 = .ok (.iload_n 3, 1) := by decide +kernel
theorem dX11_treaty_79 : decode cX11_treaty 79 = .ok (.invokevirtual 289, 3) := by decide +kernel
theorem dX11_treaty_82 : decode cX11_treaty 82 = .ok (.aload_n 0, 1) := by decide +kernel
theorem dX11_treaty_83 : decode cX11_treaty 83 = .ok (.iload_n 2, 1) := by decide +kernel
theorem dX11_treaty_84 : decode cX11_treaty 84 = .ok (.iconst 0, 1) := by decide +kernel
theorem dX11_treaty_85 : decode cX11_treaty 85 = .ok (.iload_n 3, 1) := by decide +kernel
theorem dX11_treaty_86 : decode cX11_treaty 86 = .ok (.invokevirtual 289, 3) := by decide +kernel
theorem dX11_treaty_89 : decode cX11_treaty 89 = .ok (.if_icmp .ge 7, 3) := by decide +kernel
theorem dX11_treaty_92 : decode cX11_treaty 92 = .ok (.iconst 1, 1) := by decide +kernel
theorem dX11_treaty_93 : decode cX11_treaty 93 = .ok (.goto 4, 3) := by decide +kernel
theorem dX11_treaty_96 : decode cX11_treaty 96 = .ok (.iconst 0, 1) := by decide +kernel
theorem dX11_treaty_97 : decode cX11_treaty 97 = .ok (.istore 6, 2) := by decide +kernel
theorem dX11_treaty_99 : decode cX11_treaty 99 = .ok (.bipush 10, 2) := by decide +kernel
theorem dX11_treaty_101 : decode cX11_treaty 101 = .ok (.iload 5, 2) := by decide +kernel
theorem dX11_treaty_103 : decode cX11_treaty 103 = .ok (.imul, 1) := by decide +kernel
theorem dX11_treaty_104 : decode cX11_treaty 104 = .ok (.iload 6, 2) := by decide +kernel
theorem dX11_treaty_106 : decode cX11_treaty 106 = .ok (.iadd, 1) := by decide +kernel
theorem dX11_treaty_107 : decode cX11_treaty 107 = .ok (.ireturn, 1) := by decide +kernel
theorem dX11_signature_0 : decode cX11_signature 0 = .ok (.aload_n 0, 1) := by decide +kernel
theorem dX11_signature_1 : decode cX11_signature 1 = .ok (.iconst 0, 1) := by decide +kernel
theorem dX11_signature_2 : decode cX11_signature 2 = .ok (.putfield 83, 3) := by decide +kernel
theorem dX11_signature_5 : decode cX11_signature 5 = .ok (.aload_n 0, 1) := by decide +kernel
theorem dX11_signature_6 : decode cX11_signature 6 = .ok (.iload_n 1, 1) := by decide +kernel
theorem dX11_signature_7 : decode cX11_signature 7 = .ok (.invokevirtual 177, 3) := by decide +kernel
theorem dX11_signature_10 : decode cX11_signature 10 = .ok (.ifCond .eq 12, 3) := by decide +kernel
theorem dX11_signature_13 : decode cX11_signature 13 = .ok (.iconst 0, 1) := by decide +kernel
theorem dX11_signature_14 : decode cX11_signature 14 = .ok (.iload_n 2, 1) := by decide +kernel
theorem dX11_signature_15 : decode cX11_signature 15 = .ok (.iconst 1, 1) := by decide +kernel
theorem dX11_signature_16 : decode cX11_signature 16 = .ok (.invokestatic 241, 3) := by decide +kernel
theorem dX11_signature_19 : decode cX11_signature 19 = .ok (.goto 4, 3) := by decide +kernel
theorem dX11_signature_22 : decode cX11_signature 22 = .ok (.iconst (-1), 1) := by decide +kernel
theorem dX11_signature_23 : decode cX11_signature 23 = .ok (.istore_n 3, 1) := by decide +kernel
theorem dX11_signature_24 : decode cX11_signature 24 = .ok (.iload_n 3, 1) := by decide +kernel
theorem dX11_signature_25 : decode cX11_signature 25 = .ok (.ifCond .ge 9, 3) := by decide +kernel
theorem dX11_signature_28 : decode cX11_signature 28 = .ok (.aload_n 0, 1) := by decide +kernel
theorem dX11_signature_29 : decode cX11_signature 29 = .ok (.iload_n 3, 1) := by decide +kernel
theorem dX11_signature_30 : decode cX11_signature 30 = .ok (.invokevirtual 134, 3) := by decide +kernel
theorem dX11_signature_33 : decode cX11_signature 33 = .ok (.ireturn, 1) := by decide +kernel
theorem dX11_signature_34 : decode cX11_signature 34 = .ok (.aload_n 0, 1) := by decide +kernel
theorem dX11_signature_35 : decode cX11_signature 35 = .ok (.invokevirtual 292, 3) := by decide +kernel
theorem dX11_signature_38 : decode cX11_signature 38 = .ok (.istore 4, 2) := by decide +kernel
theorem dX11_signature_40 : decode cX11_signature 40 = .ok (.iconst 0, 1) := by decide +kernel
theorem dX11_signature_41 : decode cX11_signature 41 = .ok (.istore 5, 2) := by decide +kernel
theorem dX11_signature_43 : decode cX11_signature 43 = .ok (.aload_n 0, 1) := by decide +kernel
theorem dX11_signature_44 : decode cX11_signature 44 = .ok (.iload_n 1, 1) := by decide +kernel
theorem dX11_signature_45 : decode cX11_signature 45 = .ok (.invokevirtual 116, 3) := by decide +kernel
theorem dX11_signature_48 : decode cX11_signature 48 = .ok (.iconst 0, 1) := by decide +kernel
theorem dX11_signature_49 : decode cX11_signature 49 = .ok (.istore 6, 2) := by decide +kernel
theorem dX11_signature_51 : decode cX11_signature 51 = .ok (.iload 6, 2) := by decide +kernel
theorem dX11_signature_53 : decode cX11_signature 53 = .ok (.aload_n 0, 1) := by decide +kernel
theorem dX11_signature_54 : decode cX11_signature 54 = .ok (.getfield 86, 3) := by decide +kernel
theorem dX11_signature_57 : decode cX11_signature 57 = .ok (.if_icmp .ge 79, 3) := by decide +kernel
theorem dX11_signature_60 : decode cX11_signature 60 = .ok (.aload_n 0, 1) := by decide +kernel
theorem dX11_signature_61 : decode cX11_signature 61 = .ok (.getfield 41, 3) := by decide +kernel
theorem dX11_signature_64 : decode cX11_signature 64 = .ok (.iload 6, 2) := by decide +kernel
theorem dX11_signature_66 : decode cX11_signature 66 = .ok (.iaload, 1) := by decide +kernel
theorem dX11_signature_67 : decode cX11_signature 67 = .ok (.aload_n 0, 1) := by decide +kernel
theorem dX11_signature_68 : decode cX11_signature 68 = .ok (.getfield 7, 3) := by decide +kernel
theorem dX11_signature_71 : decode cX11_signature 71 = .ok (.iload 6, 2) := by decide +kernel
theorem dX11_signature_73 : decode cX11_signature 73 = .ok (.iaload, 1) := by decide +kernel
theorem dX11_signature_74 : decode cX11_signature 74 = .ok (.iadd, 1) := by decide +kernel
theorem dX11_signature_75 : decode cX11_signature 75 = .ok (.iconst 1, 1) := by decide +kernel
theorem dX11_signature_76 : decode cX11_signature 76 = .ok (.isub, 1) := by decide +kernel
theorem dX11_signature_77 : decode cX11_signature 77 = .ok (.aload_n 0, 1) := by decide +kernel
theorem dX11_signature_78 : decode cX11_signature 78 = .ok (.getfield 7, 3) := by decide +kernel
theorem dX11_signature_81 : decode cX11_signature 81 = .ok (.iload 6, 2) := by decide +kernel
theorem dX11_signature_83 : decode cX11_signature 83 = .ok (.iaload, 1) := by decide +kernel
theorem dX11_signature_84 : decode cX11_signature 84 = .ok (.idiv, 1) := by decide +kernel
theorem dX11_signature_85 : decode cX11_signature 85 = .ok (.aload_n 0, 1) := by decide +kernel
theorem dX11_signature_86 : decode cX11_signature 86 = .ok (.getfield 32, 3) := by decide +kernel
theorem dX11_signature_89 : decode cX11_signature 89 = .ok (.iload_n 1, 1) := by decide +kernel
theorem dX11_signature_90 : decode cX11_signature 90 = .ok (.iaload, 1) := by decide +kernel
theorem dX11_signature_91 : decode cX11_signature 91 = .ok (.iload 4, 2) := by decide +kernel
theorem dX11_signature_93 : decode cX11_signature 93 = .ok (.iadd, 1) := by decide +kernel
theorem dX11_signature_94 : decode cX11_signature 94 = .ok (.iconst 1, 1) := by decide +kernel
theorem dX11_signature_95 : decode cX11_signature 95 = .ok (.isub, 1) := by decide +kernel
theorem dX11_signature_96 : decode cX11_signature 96 = .ok (.iload 4, 2) := by decide +kernel
theorem dX11_signature_98 : decode cX11_signature 98 = .ok (.idiv, 1) := by decide +kernel
theorem dX11_signature_99 : decode cX11_signature 99 = .ok (.if_icmp .gt 7, 3) := by decide +kernel
theorem dX11_signature_102 : decode cX11_signature 102 = .ok (.iconst 1, 1) := by decide +kernel
theorem dX11_signature_103 : decode cX11_signature 103 = .ok (.goto 4, 3) := by decide +kernel
theorem dX11_signature_106 : decode cX11_signature 106 = .ok (.iconst 0, 1) := by decide +kernel
theorem dX11_signature_107 : decode cX11_signature 107 = .ok (.istore 7, 2) := by decide +kernel
theorem dX11_signature_109 : decode cX11_signature 109 = .ok (.iload 5, 2) := by decide +kernel
theorem dX11_signature_111 : decode cX11_signature 111 = .ok (.iload 7, 2) := by decide +kernel
theorem dX11_signature_113 : decode cX11_signature 113 = .ok (.ifCond .eq 13, 3) := by decide +kernel
theorem dX11_signature_116 : decode cX11_signature 116 = .ok (.aload_n 0, 1) := by decide +kernel
theorem dX11_signature_117 : decode cX11_signature 117 = .ok (.getfield 7, 3) := by decide +kernel
theorem dX11_signature_120 : decode cX11_signature 120 = .ok (.iload 6, 2) := by decide +kernel
theorem dX11_signature_122 : decode cX11_signature 122 = .ok (.iaload, 1) := by decide +kernel
theorem dX11_signature_123 : decode cX11_signature 123 = .ok (.goto 4, 3) := by decide +kernel
theorem dX11_signature_126 : decode cX11_signature 126 = .ok (.iconst 0, 1) := by decide +kernel
theorem dX11_signature_127 : decode cX11_signature 127 = .ok (.iadd, 1) := by decide +kernel
theorem dX11_signature_128 : decode cX11_signature 128 = .ok (.istore 5, 2) := by decide +kernel
theorem dX11_signature_130 : decode cX11_signature 130 = .ok (.iinc 6 1, 3) := by decide +kernel
theorem dX11_signature_133 : decode cX11_signature 133 = .ok (.goto (-82), 3) := by decide +kernel
theorem dX11_signature_136 : decode cX11_signature 136 = .ok (.iload_n 2, 1) := by decide +kernel
theorem dX11_signature_137 : decode cX11_signature 137 = .ok (.ifCond .ne 8, 3) := by decide +kernel
theorem dX11_signature_140 : decode cX11_signature 140 = .ok (.iload 5, 2) := by decide +kernel
theorem dX11_signature_142 : decode cX11_signature 142 = .ok (.goto 17, 3) := by decide +kernel
theorem dX11_signature_145 : decode cX11_signature 145 = .ok (.iconst 2, 1) := by decide +kernel
theorem dX11_signature_146 : decode cX11_signature 146 = .ok (.iload 5, 2) := by decide +kernel
theorem dX11_signature_148 : decode cX11_signature 148 = .ok (.imul, 1) := by decide +kernel
theorem dX11_signature_149 : decode cX11_signature 149 = .ok (.iload 4, 2) := by decide +kernel
theorem dX11_signature_151 : decode cX11_signature 151 = .ok (.if_icmp .le 7, 3) := by decide +kernel
theorem dX11_signature_154 : decode cX11_signature 154 = .ok (.iconst 1, 1) := by decide +kernel
theorem dX11_signature_155 : decode cX11_signature 155 = .ok (.goto 4, 3) := by decide +kernel
theorem dX11_signature_158 : decode cX11_signature 158 = .ok (.iconst 0, 1) := by decide +kernel
theorem dX11_signature_159 : decode cX11_signature 159 = .ok (.ireturn, 1) := by decide +kernel
theorem dX11_whoBuilt_0 : decode cX11_whoBuilt 0 = .ok (.aload_n 0, 1) := by decide +kernel
theorem dX11_whoBuilt_1 : decode cX11_whoBuilt 1 = .ok (.iconst 0, 1) := by decide +kernel
theorem dX11_whoBuilt_2 : decode cX11_whoBuilt 2 = .ok (.putfield 83, 3) := by decide +kernel
theorem dX11_whoBuilt_5 : decode cX11_whoBuilt 5 = .ok (.iload_n 1, 1) := by decide +kernel
theorem dX11_whoBuilt_6 : decode cX11_whoBuilt 6 = .ok (.i2l, 1) := by decide +kernel
theorem dX11_whoBuilt_7 : decode cX11_whoBuilt 7 = .ok (.lconst 0, 1) := by decide +kernel
theorem dX11_whoBuilt_8 : decode cX11_whoBuilt 8 = .ok (.lconst 1, 1) := by decide +kernel
theorem dX11_whoBuilt_9 : decode cX11_whoBuilt 9 = .ok (.invokestatic 89, 3) := by decide +kernel
theorem dX11_whoBuilt_12 : decode cX11_whoBuilt 12 = .ok (.ifCond .ne 8, 3) := by decide +kernel
theorem dX11_whoBuilt_15 : decode cX11_whoBuilt 15 = .ok (.bipush (-2), 2) := by decide +kernel
theorem dX11_whoBuilt_17 : decode cX11_whoBuilt 17 = .ok (.goto 20, 3) := by decide +kernel
theorem dX11_whoBuilt_20 : decode cX11_whoBuilt 20 = .ok (.aload_n 0, 1) := by decide +kernel
theorem dX11_whoBuilt_21 : decode cX11_whoBuilt 21 = .ok (.getfield 295, 3) := by decide +kernel
theorem dX11_whoBuilt_24 : decode cX11_whoBuilt 24 = .ok (.aload_n 0, 1) := by decide +kernel
theorem dX11_whoBuilt_25 : decode cX11_whoBuilt 25 = .ok (.getfield 86, 3) := by decide +kernel
theorem dX11_whoBuilt_28 : decode cX11_whoBuilt 28 = .ok (.if_icmp .eq 8, 3) := by decide +kernel
theorem dX11_whoBuilt_31 : decode cX11_whoBuilt 31 = .ok (.bipush (-3), 2) := by decide +kernel
theorem dX11_whoBuilt_33 : decode cX11_whoBuilt 33 = .ok (.goto 4, 3) := by decide +kernel
theorem dX11_whoBuilt_36 : decode cX11_whoBuilt 36 = .ok (.iconst 0, 1) := by decide +kernel
theorem dX11_whoBuilt_37 : decode cX11_whoBuilt 37 = .ok (.istore_n 2, 1) := by decide +kernel
theorem dX11_whoBuilt_38 : decode cX11_whoBuilt 38 = .ok (.iload_n 2, 1) := by decide +kernel
theorem dX11_whoBuilt_39 : decode cX11_whoBuilt 39 = .ok (.ifCond .ge 9, 3) := by decide +kernel
theorem dX11_whoBuilt_42 : decode cX11_whoBuilt 42 = .ok (.aload_n 0, 1) := by decide +kernel
theorem dX11_whoBuilt_43 : decode cX11_whoBuilt 43 = .ok (.iload_n 2, 1) := by decide +kernel
theorem dX11_whoBuilt_44 : decode cX11_whoBuilt 44 = .ok (.invokevirtual 134, 3) := by decide +kernel
theorem dX11_whoBuilt_47 : decode cX11_whoBuilt 47 = .ok (.ireturn, 1) := by decide +kernel
theorem dX11_whoBuilt_48 : decode cX11_whoBuilt 48 = .ok (.iconst 0, 1) := by decide +kernel
theorem dX11_whoBuilt_49 : decode cX11_whoBuilt 49 = .ok (.istore_n 3, 1) := by decide +kernel
theorem dX11_whoBuilt_50 : decode cX11_whoBuilt 50 = .ok (.bipush (-9), 2) := by decide +kernel
theorem dX11_whoBuilt_52 : decode cX11_whoBuilt 52 = .ok (.istore 4, 2) := by decide +kernel
theorem dX11_whoBuilt_54 : decode cX11_whoBuilt 54 = .ok (.aload_n 0, 1) := by decide +kernel
theorem dX11_whoBuilt_55 : decode cX11_whoBuilt 55 = .ok (.invokevirtual 194, 3) := by decide +kernel
theorem dX11_whoBuilt_58 : decode cX11_whoBuilt 58 = .ok (.iconst 0, 1) := by decide +kernel
theorem dX11_whoBuilt_59 : decode cX11_whoBuilt 59 = .ok (.istore 5, 2) := by decide +kernel
theorem dX11_whoBuilt_61 : decode cX11_whoBuilt 61 = .ok (.iload 5, 2) := by decide +kernel
theorem dX11_whoBuilt_63 : decode cX11_whoBuilt 63 = .ok (.iconst 1, 1) := by decide +kernel
theorem dX11_whoBuilt_64 : decode cX11_whoBuilt 64 = .ok (.aload_n 0, 1) := by decide +kernel
theorem dX11_whoBuilt_65 : decode cX11_whoBuilt 65 = .ok (.getfield 93, 3) := by decide +kernel
theorem dX11_whoBuilt_68 : decode cX11_whoBuilt 68 = .ok (.ishl, 1) := by decide +kernel
theorem dX11_whoBuilt_69 : decode cX11_whoBuilt 69 = .ok (.if_icmp .ge 133, 3) := by decide +kernel
theorem dX11_whoBuilt_72 : decode cX11_whoBuilt 72 = .ok (.iconst 0, 1) := by decide +kernel
theorem dX11_whoBuilt_73 : decode cX11_whoBuilt 73 = .ok (.istore 6, 2) := by decide +kernel
theorem dX11_whoBuilt_75 : decode cX11_whoBuilt 75 = .ok (.iload 6, 2) := by decide +kernel
theorem dX11_whoBuilt_77 : decode cX11_whoBuilt 77 = .ok (.aload_n 0, 1) := by decide +kernel
theorem dX11_whoBuilt_78 : decode cX11_whoBuilt 78 = .ok (.getfield 86, 3) := by decide +kernel
theorem dX11_whoBuilt_81 : decode cX11_whoBuilt 81 = .ok (.if_icmp .ge 17, 3) := by decide +kernel
theorem dX11_whoBuilt_84 : decode cX11_whoBuilt 84 = .ok (.aload_n 0, 1) := by decide +kernel
theorem dX11_whoBuilt_85 : decode cX11_whoBuilt 85 = .ok (.getfield 13, 3) := by decide +kernel
theorem dX11_whoBuilt_88 : decode cX11_whoBuilt 88 = .ok (.iload 6, 2) := by decide +kernel
theorem dX11_whoBuilt_90 : decode cX11_whoBuilt 90 = .ok (.iconst 0, 1) := by decide +kernel
theorem dX11_whoBuilt_91 : decode cX11_whoBuilt 91 = .ok (.iastore, 1) := by decide +kernel
theorem dX11_whoBuilt_92 : decode cX11_whoBuilt 92 = .ok (.iinc 6 1, 3) := by decide +kernel
theorem dX11_whoBuilt_95 : decode cX11_whoBuilt 95 = .ok (.goto (-20), 3) := by decide +kernel
theorem dX11_whoBuilt_98 : decode cX11_whoBuilt 98 = .ok (.aload_n 0, 1) := by decide +kernel
theorem dX11_whoBuilt_99 : decode cX11_whoBuilt 99 = .ok (.iload 5, 2) := by decide +kernel
theorem dX11_whoBuilt_101 : decode cX11_whoBuilt 101 = .ok (.invokevirtual 265, 3) := by decide +kernel
theorem dX11_whoBuilt_104 : decode cX11_whoBuilt 104 = .ok (.iconst 1, 1) := by decide +kernel
theorem dX11_whoBuilt_105 : decode cX11_whoBuilt 105 = .ok (.istore 6, 2) := by decide +kernel
theorem dX11_whoBuilt_107 : decode cX11_whoBuilt 107 = .ok (.iconst 0, 1) := by decide +kernel
theorem dX11_whoBuilt_108 : decode cX11_whoBuilt 108 = .ok (.istore 7, 2) := by decide +kernel
theorem dX11_whoBuilt_110 : decode cX11_whoBuilt 110 = .ok (.iload 7, 2) := by decide +kernel
theorem dX11_whoBuilt_112 : decode cX11_whoBuilt 112 = .ok (.aload_n 0, 1) := by decide +kernel
theorem dX11_whoBuilt_113 : decode cX11_whoBuilt 113 = .ok (.getfield 86, 3) := by decide +kernel
theorem dX11_whoBuilt_116 : decode cX11_whoBuilt 116 = .ok (.if_icmp .ge 44, 3) := by decide +kernel
theorem dX11_whoBuilt_119 : decode cX11_whoBuilt 119 = .ok (.iload 6, 2) := by decide +kernel
theorem dX11_whoBuilt_121 : decode cX11_whoBuilt 121 = .ok (.ifCond .eq 30, 3) := by decide +kernel
theorem dX11_whoBuilt_124 : decode cX11_whoBuilt 124 = .ok (.aload_n 0, 1) := by decide +kernel
theorem dX11_whoBuilt_125 : decode cX11_whoBuilt 125 = .ok (.getfield 13, 3) := by decide +kernel
theorem dX11_whoBuilt_128 : decode cX11_whoBuilt 128 = .ok (.iload 7, 2) := by decide +kernel
theorem dX11_whoBuilt_130 : decode cX11_whoBuilt 130 = .ok (.iaload, 1) := by decide +kernel
theorem dX11_whoBuilt_131 : decode cX11_whoBuilt 131 = .ok (.iconst 0, 1) := by decide +kernel
theorem dX11_whoBuilt_132 : decode cX11_whoBuilt 132 = .ok (.bipush 99, 2) := by decide +kernel
theorem dX11_whoBuilt_134 : decode cX11_whoBuilt 134 = .ok (.invokestatic 97, 3) := by decide +kernel
theorem dX11_whoBuilt_137 : decode cX11_whoBuilt 137 = .ok (.aload_n 0, 1) := by decide +kernel
theorem dX11_whoBuilt_138 : decode cX11_whoBuilt 138 = .ok (.getfield 74, 3) := by decide +kernel
theorem dX11_whoBuilt_141 : decode cX11_whoBuilt 141 = .ok (.iload 7, 2) := by decide +kernel
theorem dX11_whoBuilt_143 : decode cX11_whoBuilt 143 = .ok (.iaload, 1) := by decide +kernel
theorem dX11_whoBuilt_144 : decode cX11_whoBuilt 144 = .ok (.if_icmp .ne 7, 3) := by decide +kernel
theorem dX11_whoBuilt_147 : decode cX11_whoBuilt 147 = .ok (.iconst 1, 1) := by decide +kernel
theorem dX11_whoBuilt_148 : decode cX11_whoBuilt 148 = .ok (.goto 4, 3) := by decide +kernel
theorem dX11_whoBuilt_151 : decode cX11_whoBuilt 151 = .ok (.iconst 0, 1) := by decide +kernel
theorem dX11_whoBuilt_152 : decode cX11_whoBuilt 152 = .ok (.istore 6, 2) := by decide +kernel
theorem dX11_whoBuilt_154 : decode cX11_whoBuilt 154 = .ok (.iinc 7 1, 3) := by decide +kernel
theorem dX11_whoBuilt_157 : decode cX11_whoBuilt 157 = .ok (.goto (-47), 3) := by decide +kernel
theorem dX11_whoBuilt_160 : decode cX11_whoBuilt 160 = .ok (.aload_n 0, 1) := by decide +kernel
theorem dX11_whoBuilt_161 : decode cX11_whoBuilt 161 = .ok (.invokevirtual 200, 3) := by decide +kernel
theorem dX11_whoBuilt_164 : decode cX11_whoBuilt 164 = .ok (.iload_n 3, 1) := by decide +kernel
theorem dX11_whoBuilt_165 : decode cX11_whoBuilt 165 = .ok (.iload 6, 2) := by decide +kernel
theorem dX11_whoBuilt_167 : decode cX11_whoBuilt 167 = .ok (.ifCond .eq 7, 3) := by decide +kernel
theorem dX11_whoBuilt_170 : decode cX11_whoBuilt 170 = .ok (.iconst 1, 1) := by decide +kernel
theorem dX11_whoBuilt_171 : decode cX11_whoBuilt 171 = .ok (.goto 4, 3) := by decide +kernel
theorem dX11_whoBuilt_174 : decode cX11_whoBuilt 174 = .ok (.iconst 0, 1) := by decide +kernel
theorem dX11_whoBuilt_175 : decode cX11_whoBuilt 175 = .ok (.iadd, 1) := by decide +kernel
theorem dX11_whoBuilt_176 : decode cX11_whoBuilt 176 = .ok (.istore_n 3, 1) := by decide +kernel
theorem dX11_whoBuilt_177 : decode cX11_whoBuilt 177 = .ok (.iload 6, 2) := by decide +kernel
theorem dX11_whoBuilt_179 : decode cX11_whoBuilt 179 = .ok (.ifCond .eq 13, 3) := by decide +kernel
theorem dX11_whoBuilt_182 : decode cX11_whoBuilt 182 = .ok (.iload 4, 2) := by decide +kernel
theorem dX11_whoBuilt_184 : decode cX11_whoBuilt 184 = .ok (.ifCond .ge 8, 3) := by decide +kernel
theorem dX11_whoBuilt_187 : decode cX11_whoBuilt 187 = .ok (.iload 5, 2) := by decide +kernel
theorem dX11_whoBuilt_189 : decode cX11_whoBuilt 189 = .ok (.goto 5, 3) := by decide +kernel
theorem dX11_whoBuilt_192 : decode cX11_whoBuilt 192 = .ok (.iload 4, 2) := by decide +kernel
theorem dX11_whoBuilt_194 : decode cX11_whoBuilt 194 = .ok (.istore 4, 2) := by decide +kernel
theorem dX11_whoBuilt_196 : decode cX11_whoBuilt 196 = .ok (.iinc 5 1, 3) := by decide +kernel
theorem dX11_whoBuilt_199 : decode cX11_whoBuilt 199 = .ok (.goto (-138), 3) := by decide +kernel
theorem dX11_whoBuilt_202 : decode cX11_whoBuilt 202 = .ok (.iload_n 1, 1) := by decide +kernel
theorem dX11_whoBuilt_203 : decode cX11_whoBuilt 203 = .ok (.ifCond .ne 7, 3) := by decide +kernel
theorem dX11_whoBuilt_206 : decode cX11_whoBuilt 206 = .ok (.iload_n 3, 1) := by decide +kernel
theorem dX11_whoBuilt_207 : decode cX11_whoBuilt 207 = .ok (.goto 5, 3) := by decide +kernel
theorem dX11_whoBuilt_210 : decode cX11_whoBuilt 210 = .ok (.iload 4, 2) := by decide +kernel
theorem dX11_whoBuilt_212 : decode cX11_whoBuilt 212 = .ok (.ireturn, 1) := by decide +kernel
theorem dX11_births_0 : decode cX11_births 0 = .ok (.aload_n 0, 1) := by decide +kernel
theorem dX11_births_1 : decode cX11_births 1 = .ok (.iconst 0, 1) := by decide +kernel
theorem dX11_births_2 : decode cX11_births 2 = .ok (.putfield 83, 3) := by decide +kernel
theorem dX11_births_5 : decode cX11_births 5 = .ok (.iconst 0, 1) := by decide +kernel
theorem dX11_births_6 : decode cX11_births 6 = .ok (.istore 6, 2) := by decide +kernel
theorem dX11_births_8 : decode cX11_births 8 = .ok (.aload_n 0, 1) := by decide +kernel
theorem dX11_births_9 : decode cX11_births 9 = .ok (.iload_n 1, 1) := by decide +kernel
theorem dX11_births_10 : decode cX11_births 10 = .ok (.invokevirtual 188, 3) := by decide +kernel
theorem dX11_births_13 : decode cX11_births 13 = .ok (.ifCond .ne 9, 3) := by decide +kernel
theorem dX11_births_16 : decode cX11_births 16 = .ok (.iconst (-1), 1) := by decide +kernel
theorem dX11_births_17 : decode cX11_births 17 = .ok (.istore 6, 2) := by decide +kernel
theorem dX11_births_19 : decode cX11_births 19 = .ok (.goto 48, 3) := by decide +kernel
theorem dX11_births_22 : decode cX11_births 22 = .ok (.iload_n 2, 1) := by decide +kernel
theorem dX11_births_23 : decode cX11_births 23 = .ok (.ifCond .lt 13, 3) := by decide +kernel
theorem dX11_births_26 : decode cX11_births 26 = .ok (.iload_n 3, 1) := by decide +kernel
theorem dX11_births_27 : decode cX11_births 27 = .ok (.ifCond .lt 9, 3) := by decide +kernel
theorem dX11_births_30 : decode cX11_births 30 = .ok (.iload 4, 2) := by decide +kernel
theorem dX11_births_32 : decode cX11_births 32 = .ok (.iconst 2, 1) := by decide +kernel
theorem dX11_births_33 : decode cX11_births 33 = .ok (.if_icmp .ge 10, 3) := by decide +kernel
theorem dX11_births_36 : decode cX11_births 36 = .ok (.bipush (-4), 2) := by decide +kernel
theorem dX11_births_38 : decode cX11_births 38 = .ok (.istore 6, 2) := by decide +kernel
theorem dX11_births_40 : decode cX11_births 40 = .ok (.goto 27, 3) := by decide +kernel
theorem dX11_births_43 : decode cX11_births 43 = .ok (.iload_n 2, 1) := by decide +kernel
theorem dX11_births_44 : decode cX11_births 44 = .ok (.bipush 8, 2) := by decide +kernel
theorem dX11_births_46 : decode cX11_births 46 = .ok (.if_icmp .gt 17, 3) := by decide +kernel
theorem dX11_births_49 : decode cX11_births 49 = .ok (.iload_n 3, 1) := by decide +kernel
theorem dX11_births_50 : decode cX11_births 50 = .ok (.sipush 999, 3) := by decide +kernel
theorem dX11_births_53 : decode cX11_births 53 = .ok (.if_icmp .gt 10, 3) := by decide +kernel
theorem dX11_births_56 : decode cX11_births 56 = .ok (.iload 4, 2) := by decide +kernel
theorem dX11_births_58 : decode cX11_births 58 = .ok (.bipush 20, 2) := by decide +kernel
theorem dX11_births_60 : decode cX11_births 60 = .ok (.if_icmp .le 7, 3) := by decide +kernel
theorem dX11_births_63 : decode cX11_births 63 = .ok (.bipush (-6), 2) := by decide +kernel
theorem dX11_births_65 : decode cX11_births 65 = .ok (.istore 6, 2) := by decide +kernel
theorem dX11_births_67 : decode cX11_births 67 = .ok (.iload 6, 2) := by decide +kernel
theorem dX11_births_69 : decode cX11_births 69 = .ok (.iload 5, 2) := by decide +kernel
theorem dX11_births_71 : decode cX11_births 71 = .ok (.iconst 1, 1) := by decide +kernel
theorem dX11_births_72 : decode cX11_births 72 = .ok (.invokestatic 241, 3) := by decide +kernel
theorem dX11_births_75 : decode cX11_births 75 = .ok (.istore 6, 2) := by decide +kernel
theorem dX11_births_77 : decode cX11_births 77 = .ok (.iload 6, 2) := by decide +kernel
theorem dX11_births_79 : decode cX11_births 79 = .ok (.ifCond .ge 15, 3) := by decide +kernel
theorem dX11_births_82 : decode cX11_births 82 = .ok (.ldc2_w 283, 3) := by decide +kernel
theorem dX11_births_85 : decode cX11_births 85 = .ok (.aload_n 0, 1) := by decide +kernel
theorem dX11_births_86 : decode cX11_births 86 = .ok (.iload 6, 2) := by decide +kernel
theorem dX11_births_88 : decode cX11_births 88 = .ok (.invokevirtual 134, 3) := by decide +kernel
theorem dX11_births_91 : decode cX11_births 91 = .ok (.i2l, 1) := by decide +kernel
theorem dX11_births_92 : decode cX11_births 92 = .ok (.lsub, 1) := by decide +kernel
theorem dX11_births_93 : decode cX11_births 93 = .ok (.lreturn, 1) := by decide +kernel
theorem dX11_births_94 : decode cX11_births 94 = .ok (.lconst 0, 1) := by decide +kernel
theorem dX11_births_95 : decode cX11_births 95 = .ok (.lstore 7, 2) := by decide +kernel
theorem dX11_births_97 : decode cX11_births 97 = .ok (.lconst 1, 1) := by decide +kernel
end
section
theorem dX11_births_98 : decode cX11_births 98 = .ok (.lstore 9, 2) := by decide +kernel
theorem dX11_births_100 : decode cX11_births 100 = .ok (.iconst 0, 1) := by decide +kernel
theorem dX11_births_101 : decode cX11_births 101 = .ok (.istore 11, 2) := by decide +kernel
theorem dX11_births_103 : decode cX11_births 103 = .ok (.iload 11, 2) := by decide +kernel
theorem dX11_births_105 : decode cX11_births 105 = .ok (.iload_n 2, 1) := by decide +kernel
theorem dX11_births_106 : decode cX11_births 106 = .ok (.if_icmp .ge 17, 3) := by decide +kernel
theorem dX11_births_109 : decode cX11_births 109 = .ok (.lload 9, 2) := by decide +kernel
theorem dX11_births_111 : decode cX11_births 111 = .ok (.iload 4, 2) := by decide +kernel
theorem dX11_births_113 : decode cX11_births 113 = .ok (.i2l, 1) := by decide +kernel
theorem dX11_births_114 : decode cX11_births 114 = .ok (.lmul, 1) := by decide +kernel
theorem dX11_births_115 : decode cX11_births 115 = .ok (.lstore 9, 2) := by decide +kernel
theorem dX11_births_117 : decode cX11_births 117 = .ok (.iinc 11 1, 3) := by decide +kernel
theorem dX11_births_120 : decode cX11_births 120 = .ok (.goto (-17), 3) := by decide +kernel
theorem dX11_births_123 : decode cX11_births 123 = .ok (.aload_n 0, 1) := by decide +kernel
theorem dX11_births_124 : decode cX11_births 124 = .ok (.invokevirtual 194, 3) := by decide +kernel
theorem dX11_births_127 : decode cX11_births 127 = .ok (.iconst 0, 1) := by decide +kernel
theorem dX11_births_128 : decode cX11_births 128 = .ok (.istore 11, 2) := by decide +kernel
theorem dX11_births_130 : decode cX11_births 130 = .ok (.iload 11, 2) := by decide +kernel
theorem dX11_births_132 : decode cX11_births 132 = .ok (.iconst 1, 1) := by decide +kernel
theorem dX11_births_133 : decode cX11_births 133 = .ok (.iload_n 2, 1) := by decide +kernel
theorem dX11_births_134 : decode cX11_births 134 = .ok (.ishl, 1) := by decide +kernel
theorem dX11_births_135 : decode cX11_births 135 = .ok (.if_icmp .ge 106, 3) := by decide +kernel
theorem dX11_births_138 : decode cX11_births 138 = .ok (.lconst 1, 1) := by decide +kernel
theorem dX11_births_139 : decode cX11_births 139 = .ok (.lstore 12, 2) := by decide +kernel
theorem dX11_births_141 : decode cX11_births 141 = .ok (.iconst 0, 1) := by decide +kernel
theorem dX11_births_142 : decode cX11_births 142 = .ok (.istore 14, 2) := by decide +kernel
theorem dX11_births_144 : decode cX11_births 144 = .ok (.iload 14, 2) := by decide +kernel
theorem dX11_births_146 : decode cX11_births 146 = .ok (.iload_n 2, 1) := by decide +kernel
theorem dX11_births_147 : decode cX11_births 147 = .ok (.if_icmp .ge 64, 3) := by decide +kernel
theorem dX11_births_150 : decode cX11_births 150 = .ok (.aload_n 0, 1) := by decide +kernel
theorem dX11_births_151 : decode cX11_births 151 = .ok (.iload_n 1, 1) := by decide +kernel
theorem dX11_births_152 : decode cX11_births 152 = .ok (.invokevirtual 125, 3) := by decide +kernel
theorem dX11_births_155 : decode cX11_births 155 = .ok (.aload_n 0, 1) := by decide +kernel
theorem dX11_births_156 : decode cX11_births 156 = .ok (.getfield 7, 3) := by decide +kernel
theorem dX11_births_159 : decode cX11_births 159 = .ok (.iload_n 1, 1) := by decide +kernel
theorem dX11_births_160 : decode cX11_births 160 = .ok (.aload_n 0, 1) := by decide +kernel
theorem dX11_births_161 : decode cX11_births 161 = .ok (.getfield 7, 3) := by decide +kernel
theorem dX11_births_164 : decode cX11_births 164 = .ok (.iload_n 1, 1) := by decide +kernel
theorem dX11_births_165 : decode cX11_births 165 = .ok (.iaload, 1) := by decide +kernel
theorem dX11_births_166 : decode cX11_births 166 = .ok (.iload 11, 2) := by decide +kernel
theorem dX11_births_168 : decode cX11_births 168 = .ok (.iload 14, 2) := by decide +kernel
theorem dX11_births_170 : decode cX11_births 170 = .ok (.ishr, 1) := by decide +kernel
theorem dX11_births_171 : decode cX11_births 171 = .ok (.iconst 1, 1) := by decide +kernel
theorem dX11_births_172 : decode cX11_births 172 = .ok (.iand, 1) := by decide +kernel
theorem dX11_births_173 : decode cX11_births 173 = .ok (.iadd, 1) := by decide +kernel
theorem dX11_births_174 : decode cX11_births 174 = .ok (.iconst 1, 1) := by decide +kernel
theorem dX11_births_175 : decode cX11_births 175 = .ok (.bipush 20, 2) := by decide +kernel
theorem dX11_births_177 : decode cX11_births 177 = .ok (.invokestatic 97, 3) := by decide +kernel
theorem dX11_births_180 : decode cX11_births 180 = .ok (.iastore, 1) := by decide +kernel
theorem dX11_births_181 : decode cX11_births 181 = .ok (.lload 12, 2) := by decide +kernel
theorem dX11_births_183 : decode cX11_births 183 = .ok (.iload 11, 2) := by decide +kernel
theorem dX11_births_185 : decode cX11_births 185 = .ok (.iload 14, 2) := by decide +kernel
theorem dX11_births_187 : decode cX11_births 187 = .ok (.invokestatic 258, 3) := by decide +kernel
theorem dX11_births_190 : decode cX11_births 190 = .ok (.ifCond .eq 7, 3) := by decide +kernel
theorem dX11_births_193 : decode cX11_births 193 = .ok (.lconst 1, 1) := by decide +kernel
theorem dX11_births_194 : decode cX11_births 194 = .ok (.goto 8, 3) := by decide +kernel
theorem dX11_births_197 : decode cX11_births 197 = .ok (.iload 4, 2) := by decide +kernel
theorem dX11_births_199 : decode cX11_births 199 = .ok (.iconst 1, 1) := by decide +kernel
theorem dX11_births_200 : decode cX11_births 200 = .ok (.isub, 1) := by decide +kernel
theorem dX11_births_201 : decode cX11_births 201 = .ok (.i2l, 1) := by decide +kernel
theorem dX11_births_202 : decode cX11_births 202 = .ok (.lmul, 1) := by decide +kernel
theorem dX11_births_203 : decode cX11_births 203 = .ok (.lstore 12, 2) := by decide +kernel
theorem dX11_births_205 : decode cX11_births 205 = .ok (.iinc 14 1, 3) := by decide +kernel
theorem dX11_births_208 : decode cX11_births 208 = .ok (.goto (-64), 3) := by decide +kernel
theorem dX11_births_211 : decode cX11_births 211 = .ok (.lload 7, 2) := by decide +kernel
theorem dX11_births_213 : decode cX11_births 213 = .ok (.aload_n 0, 1) := by decide +kernel
theorem dX11_births_214 : decode cX11_births 214 = .ok (.iload_n 1, 1) := by decide +kernel
theorem dX11_births_215 : decode cX11_births 215 = .ok (.invokevirtual 227, 3) := by decide +kernel
theorem dX11_births_218 : decode cX11_births 218 = .ok (.iload_n 3, 1) := by decide +kernel
theorem dX11_births_219 : decode cX11_births 219 = .ok (.if_icmp .gt 8, 3) := by decide +kernel
theorem dX11_births_222 : decode cX11_births 222 = .ok (.lload 12, 2) := by decide +kernel
theorem dX11_births_224 : decode cX11_births 224 = .ok (.goto 4, 3) := by decide +kernel
theorem dX11_births_227 : decode cX11_births 227 = .ok (.lconst 0, 1) := by decide +kernel
theorem dX11_births_228 : decode cX11_births 228 = .ok (.ladd, 1) := by decide +kernel
theorem dX11_births_229 : decode cX11_births 229 = .ok (.lstore 7, 2) := by decide +kernel
theorem dX11_births_231 : decode cX11_births 231 = .ok (.aload_n 0, 1) := by decide +kernel
theorem dX11_births_232 : decode cX11_births 232 = .ok (.invokevirtual 200, 3) := by decide +kernel
theorem dX11_births_235 : decode cX11_births 235 = .ok (.iinc 11 1, 3) := by decide +kernel
theorem dX11_births_238 : decode cX11_births 238 = .ok (.goto (-108), 3) := by decide +kernel
theorem dX11_births_241 : decode cX11_births 241 = .ok (.lload 7, 2) := by decide +kernel
theorem dX11_births_243 : decode cX11_births 243 = .ok (.lload 9, 2) := by decide +kernel
theorem dX11_births_245 : decode cX11_births 245 = .ok (.iload 5, 2) := by decide +kernel
theorem dX11_births_247 : decode cX11_births 247 = .ok (.invokestatic 285, 3) := by decide +kernel
theorem dX11_births_250 : decode cX11_births 250 = .ok (.lreturn, 1) := by decide +kernel
theorem dX11_oldest_0 : decode cX11_oldest 0 = .ok (.aload_n 0, 1) := by decide +kernel
theorem dX11_oldest_1 : decode cX11_oldest 1 = .ok (.iconst 0, 1) := by decide +kernel
theorem dX11_oldest_2 : decode cX11_oldest 2 = .ok (.putfield 83, 3) := by decide +kernel
theorem dX11_oldest_5 : decode cX11_oldest 5 = .ok (.iload_n 1, 1) := by decide +kernel
theorem dX11_oldest_6 : decode cX11_oldest 6 = .ok (.i2l, 1) := by decide +kernel
theorem dX11_oldest_7 : decode cX11_oldest 7 = .ok (.lconst 0, 1) := by decide +kernel
theorem dX11_oldest_8 : decode cX11_oldest 8 = .ok (.lconst 1, 1) := by decide +kernel
theorem dX11_oldest_9 : decode cX11_oldest 9 = .ok (.invokestatic 89, 3) := by decide +kernel
theorem dX11_oldest_12 : decode cX11_oldest 12 = .ok (.ifCond .ne 10, 3) := by decide +kernel
theorem dX11_oldest_15 : decode cX11_oldest 15 = .ok (.aload_n 0, 1) := by decide +kernel
theorem dX11_oldest_16 : decode cX11_oldest 16 = .ok (.bipush (-2), 2) := by decide +kernel
theorem dX11_oldest_18 : decode cX11_oldest 18 = .ok (.invokevirtual 134, 3) := by decide +kernel
theorem dX11_oldest_21 : decode cX11_oldest 21 = .ok (.ireturn, 1) := by decide +kernel
theorem dX11_oldest_22 : decode cX11_oldest 22 = .ok (.bipush (-9), 2) := by decide +kernel
theorem dX11_oldest_24 : decode cX11_oldest 24 = .ok (.istore_n 2, 1) := by decide +kernel
theorem dX11_oldest_25 : decode cX11_oldest 25 = .ok (.iconst 0, 1) := by decide +kernel
theorem dX11_oldest_26 : decode cX11_oldest 26 = .ok (.istore_n 3, 1) := by decide +kernel
theorem dX11_oldest_27 : decode cX11_oldest 27 = .ok (.iload_n 3, 1) := by decide +kernel
theorem dX11_oldest_28 : decode cX11_oldest 28 = .ok (.aload_n 0, 1) := by decide +kernel
theorem dX11_oldest_29 : decode cX11_oldest 29 = .ok (.getfield 93, 3) := by decide +kernel
theorem dX11_oldest_32 : decode cX11_oldest 32 = .ok (.if_icmp .ge 89, 3) := by decide +kernel
theorem dX11_oldest_35 : decode cX11_oldest 35 = .ok (.aload_n 0, 1) := by decide +kernel
theorem dX11_oldest_36 : decode cX11_oldest 36 = .ok (.getfield 35, 3) := by decide +kernel
theorem dX11_oldest_39 : decode cX11_oldest 39 = .ok (.iload_n 3, 1) := by decide +kernel
theorem dX11_oldest_40 : decode cX11_oldest 40 = .ok (.iaload, 1) := by decide +kernel
theorem dX11_oldest_41 : decode cX11_oldest 41 = .ok (.ifCond .le 7, 3) := by decide +kernel
theorem dX11_oldest_44 : decode cX11_oldest 44 = .ok (.iconst 1, 1) := by decide +kernel
theorem dX11_oldest_45 : decode cX11_oldest 45 = .ok (.goto 4, 3) := by decide +kernel
theorem dX11_oldest_48 : decode cX11_oldest 48 = .ok (.iconst 0, 1) := by decide +kernel
theorem dX11_oldest_49 : decode cX11_oldest 49 = .ok (.istore 4, 2) := by decide +kernel
theorem dX11_oldest_51 : decode cX11_oldest 51 = .ok (.iload 4, 2) := by decide +kernel
theorem dX11_oldest_53 : decode cX11_oldest 53 = .ok (.ifCond .eq 48, 3) := by decide +kernel
theorem dX11_oldest_56 : decode cX11_oldest 56 = .ok (.iload_n 2, 1) := by decide +kernel
theorem dX11_oldest_57 : decode cX11_oldest 57 = .ok (.ifCond .lt 40, 3) := by decide +kernel
theorem dX11_oldest_60 : decode cX11_oldest 60 = .ok (.iload_n 1, 1) := by decide +kernel
theorem dX11_oldest_61 : decode cX11_oldest 61 = .ok (.ifCond .ne 21, 3) := by decide +kernel
theorem dX11_oldest_64 : decode cX11_oldest 64 = .ok (.aload_n 0, 1) := by decide +kernel
theorem dX11_oldest_65 : decode cX11_oldest 65 = .ok (.getfield 35, 3) := by decide +kernel
theorem dX11_oldest_68 : decode cX11_oldest 68 = .ok (.iload_n 3, 1) := by decide +kernel
theorem dX11_oldest_69 : decode cX11_oldest 69 = .ok (.iaload, 1) := by decide +kernel
theorem dX11_oldest_70 : decode cX11_oldest 70 = .ok (.aload_n 0, 1) := by decide +kernel
theorem dX11_oldest_71 : decode cX11_oldest 71 = .ok (.getfield 35, 3) := by decide +kernel
theorem dX11_oldest_74 : decode cX11_oldest 74 = .ok (.iload_n 2, 1) := by decide +kernel
theorem dX11_oldest_75 : decode cX11_oldest 75 = .ok (.iaload, 1) := by decide +kernel
theorem dX11_oldest_76 : decode cX11_oldest 76 = .ok (.if_icmp .ge 25, 3) := by decide +kernel
theorem dX11_oldest_79 : decode cX11_oldest 79 = .ok (.goto 18, 3) := by decide +kernel
theorem dX11_oldest_82 : decode cX11_oldest 82 = .ok (.aload_n 0, 1) := by decide +kernel
theorem dX11_oldest_83 : decode cX11_oldest 83 = .ok (.getfield 35, 3) := by decide +kernel
theorem dX11_oldest_86 : decode cX11_oldest 86 = .ok (.iload_n 3, 1) := by decide +kernel
theorem dX11_oldest_87 : decode cX11_oldest 87 = .ok (.iaload, 1) := by decide +kernel
theorem dX11_oldest_88 : decode cX11_oldest 88 = .ok (.aload_n 0, 1) := by decide +kernel
theorem dX11_oldest_89 : decode cX11_oldest 89 = .ok (.getfield 35, 3) := by decide +kernel
theorem dX11_oldest_92 : decode cX11_oldest 92 = .ok (.iload_n 2, 1) := by decide +kernel
theorem dX11_oldest_93 : decode cX11_oldest 93 = .ok (.iaload, 1) := by decide +kernel
theorem dX11_oldest_94 : decode cX11_oldest 94 = .ok (.if_icmp .le 7, 3) := by decide +kernel
theorem dX11_oldest_97 : decode cX11_oldest 97 = .ok (.iconst 1, 1) := by decide +kernel
theorem dX11_oldest_98 : decode cX11_oldest 98 = .ok (.goto 4, 3) := by decide +kernel
theorem dX11_oldest_101 : decode cX11_oldest 101 = .ok (.iconst 0, 1) := by decide +kernel
theorem dX11_oldest_102 : decode cX11_oldest 102 = .ok (.istore 4, 2) := by decide +kernel
theorem dX11_oldest_104 : decode cX11_oldest 104 = .ok (.iload 4, 2) := by decide +kernel
theorem dX11_oldest_106 : decode cX11_oldest 106 = .ok (.ifCond .eq 7, 3) := by decide +kernel
theorem dX11_oldest_109 : decode cX11_oldest 109 = .ok (.iload_n 3, 1) := by decide +kernel
theorem dX11_oldest_110 : decode cX11_oldest 110 = .ok (.goto 4, 3) := by decide +kernel
theorem dX11_oldest_113 : decode cX11_oldest 113 = .ok (.iload_n 2, 1) := by decide +kernel
theorem dX11_oldest_114 : decode cX11_oldest 114 = .ok (.istore_n 2, 1) := by decide +kernel
theorem dX11_oldest_115 : decode cX11_oldest 115 = .ok (.iinc 3 1, 3) := by decide +kernel
theorem dX11_oldest_118 : decode cX11_oldest 118 = .ok (.goto (-91), 3) := by decide +kernel
theorem dX11_oldest_121 : decode cX11_oldest 121 = .ok (.iload_n 2, 1) := by decide +kernel
theorem dX11_oldest_122 : decode cX11_oldest 122 = .ok (.ireturn, 1) := by decide +kernel
theorem dX11_ordersOf_0 : decode cX11_ordersOf 0 = .ok (.iconst 1, 1) := by decide +kernel
theorem dX11_ordersOf_1 : decode cX11_ordersOf 1 = .ok (.istore_n 1, 1) := by decide +kernel
theorem dX11_ordersOf_2 : decode cX11_ordersOf 2 = .ok (.iconst 2, 1) := by decide +kernel
theorem dX11_ordersOf_3 : decode cX11_ordersOf 3 = .ok (.istore_n 2, 1) := by decide +kernel
theorem dX11_ordersOf_4 : decode cX11_ordersOf 4 = .ok (.iload_n 2, 1) := by decide +kernel
theorem dX11_ordersOf_5 : decode cX11_ordersOf 5 = .ok (.iload_n 0, 1) := by decide +kernel
theorem dX11_ordersOf_6 : decode cX11_ordersOf 6 = .ok (.if_icmp .gt 13, 3) := by decide +kernel
theorem dX11_ordersOf_9 : decode cX11_ordersOf 9 = .ok (.iload_n 1, 1) := by decide +kernel
theorem dX11_ordersOf_10 : decode cX11_ordersOf 10 = .ok (.iload_n 2, 1) := by decide +kernel
theorem dX11_ordersOf_11 : decode cX11_ordersOf 11 = .ok (.imul, 1) := by decide +kernel
theorem dX11_ordersOf_12 : decode cX11_ordersOf 12 = .ok (.istore_n 1, 1) := by decide +kernel
theorem dX11_ordersOf_13 : decode cX11_ordersOf 13 = .ok (.iinc 2 1, 3) := by decide +kernel
theorem dX11_ordersOf_16 : decode cX11_ordersOf 16 = .ok (.goto (-12), 3) := by decide +kernel
theorem dX11_ordersOf_19 : decode cX11_ordersOf 19 = .ok (.iload_n 1, 1) := by decide +kernel
theorem dX11_ordersOf_20 : decode cX11_ordersOf 20 = .ok (.ireturn, 1) := by decide +kernel
theorem dX11_layOrder_0 : decode cX11_layOrder 0 = .ok (.iload_n 1, 1) := by decide +kernel
theorem dX11_layOrder_1 : decode cX11_layOrder 1 = .ok (.istore_n 3, 1) := by decide +kernel
theorem dX11_layOrder_2 : decode cX11_layOrder 2 = .ok (.iconst 0, 1) := by decide +kernel
theorem dX11_layOrder_3 : decode cX11_layOrder 3 = .ok (.istore 4, 2) := by decide +kernel
theorem dX11_layOrder_5 : decode cX11_layOrder 5 = .ok (.iconst 0, 1) := by decide +kernel
theorem dX11_layOrder_6 : decode cX11_layOrder 6 = .ok (.istore 5, 2) := by decide +kernel
theorem dX11_layOrder_8 : decode cX11_layOrder 8 = .ok (.iload 5, 2) := by decide +kernel
theorem dX11_layOrder_10 : decode cX11_layOrder 10 = .ok (.iload_n 2, 1) := by decide +kernel
theorem dX11_layOrder_11 : decode cX11_layOrder 11 = .ok (.if_icmp .ge 93, 3) := by decide +kernel
theorem dX11_layOrder_14 : decode cX11_layOrder 14 = .ok (.iload_n 2, 1) := by decide +kernel
theorem dX11_layOrder_15 : decode cX11_layOrder 15 = .ok (.iconst 1, 1) := by decide +kernel
theorem dX11_layOrder_16 : decode cX11_layOrder 16 = .ok (.isub, 1) := by decide +kernel
theorem dX11_layOrder_17 : decode cX11_layOrder 17 = .ok (.iload 5, 2) := by decide +kernel
theorem dX11_layOrder_19 : decode cX11_layOrder 19 = .ok (.isub, 1) := by decide +kernel
theorem dX11_layOrder_20 : decode cX11_layOrder 20 = .ok (.invokestatic 298, 3) := by decide +kernel
theorem dX11_layOrder_23 : decode cX11_layOrder 23 = .ok (.istore 6, 2) := by decide +kernel
theorem dX11_layOrder_25 : decode cX11_layOrder 25 = .ok (.iload_n 3, 1) := by decide +kernel
theorem dX11_layOrder_26 : decode cX11_layOrder 26 = .ok (.iload 6, 2) := by decide +kernel
theorem dX11_layOrder_28 : decode cX11_layOrder 28 = .ok (.idiv, 1) := by decide +kernel
theorem dX11_layOrder_29 : decode cX11_layOrder 29 = .ok (.istore 7, 2) := by decide +kernel
theorem dX11_layOrder_31 : decode cX11_layOrder 31 = .ok (.iload_n 3, 1) := by decide +kernel
theorem dX11_layOrder_32 : decode cX11_layOrder 32 = .ok (.iload 6, 2) := by decide +kernel
theorem dX11_layOrder_34 : decode cX11_layOrder 34 = .ok (.irem, 1) := by decide +kernel
theorem dX11_layOrder_35 : decode cX11_layOrder 35 = .ok (.istore_n 3, 1) := by decide +kernel
theorem dX11_layOrder_36 : decode cX11_layOrder 36 = .ok (.iconst 0, 1) := by decide +kernel
theorem dX11_layOrder_37 : decode cX11_layOrder 37 = .ok (.istore 8, 2) := by decide +kernel
theorem dX11_layOrder_39 : decode cX11_layOrder 39 = .ok (.iload 4, 2) := by decide +kernel
theorem dX11_layOrder_41 : decode cX11_layOrder 41 = .ok (.iload 8, 2) := by decide +kernel
theorem dX11_layOrder_43 : decode cX11_layOrder 43 = .ok (.invokestatic 258, 3) := by decide +kernel
theorem dX11_layOrder_46 : decode cX11_layOrder 46 = .ok (.ifCond .ne 8, 3) := by decide +kernel
theorem dX11_layOrder_49 : decode cX11_layOrder 49 = .ok (.iload 7, 2) := by decide +kernel
theorem dX11_layOrder_51 : decode cX11_layOrder 51 = .ok (.ifCond .le 29, 3) := by decide +kernel
theorem dX11_layOrder_54 : decode cX11_layOrder 54 = .ok (.iload 7, 2) := by decide +kernel
theorem dX11_layOrder_56 : decode cX11_layOrder 56 = .ok (.iload 4, 2) := by decide +kernel
theorem dX11_layOrder_58 : decode cX11_layOrder 58 = .ok (.iload 8, 2) := by decide +kernel
theorem dX11_layOrder_60 : decode cX11_layOrder 60 = .ok (.invokestatic 258, 3) := by decide +kernel
theorem dX11_layOrder_63 : decode cX11_layOrder 63 = .ok (.ifCond .eq 7, 3) := by decide +kernel
theorem dX11_layOrder_66 : decode cX11_layOrder 66 = .ok (.iconst 0, 1) := by decide +kernel
theorem dX11_layOrder_67 : decode cX11_layOrder 67 = .ok (.goto 4, 3) := by decide +kernel
theorem dX11_layOrder_70 : decode cX11_layOrder 70 = .ok (.iconst 1, 1) := by decide +kernel
theorem dX11_layOrder_71 : decode cX11_layOrder 71 = .ok (.isub, 1) := by decide +kernel
theorem dX11_layOrder_72 : decode cX11_layOrder 72 = .ok (.istore 7, 2) := by decide +kernel
theorem dX11_layOrder_74 : decode cX11_layOrder 74 = .ok (.iinc 8 1, 3) := by decide +kernel
theorem dX11_layOrder_77 : decode cX11_layOrder 77 = .ok (.goto (-38), 3) := by decide +kernel
theorem dX11_layOrder_80 : decode cX11_layOrder 80 = .ok (.aload_n 0, 1) := by decide +kernel
theorem dX11_layOrder_81 : decode cX11_layOrder 81 = .ok (.getfield 77, 3) := by decide +kernel
theorem dX11_layOrder_84 : decode cX11_layOrder 84 = .ok (.iload 5, 2) := by decide +kernel
theorem dX11_layOrder_86 : decode cX11_layOrder 86 = .ok (.iload 8, 2) := by decide +kernel
theorem dX11_layOrder_88 : decode cX11_layOrder 88 = .ok (.iastore, 1) := by decide +kernel
theorem dX11_layOrder_89 : decode cX11_layOrder 89 = .ok (.iload 4, 2) := by decide +kernel
theorem dX11_layOrder_91 : decode cX11_layOrder 91 = .ok (.iconst 1, 1) := by decide +kernel
theorem dX11_layOrder_92 : decode cX11_layOrder 92 = .ok (.iload 8, 2) := by decide +kernel
theorem dX11_layOrder_94 : decode cX11_layOrder 94 = .ok (.ishl, 1) := by decide +kernel
theorem dX11_layOrder_95 : decode cX11_layOrder 95 = .ok (.ior, 1) := by decide +kernel
theorem dX11_layOrder_96 : decode cX11_layOrder 96 = .ok (.istore 4, 2) := by decide +kernel
theorem dX11_layOrder_98 : decode cX11_layOrder 98 = .ok (.iinc 5 1, 3) := by decide +kernel
theorem dX11_layOrder_101 : decode cX11_layOrder 101 = .ok (.goto (-93), 3) := by decide +kernel
theorem dX11_layOrder_104 : decode cX11_layOrder 104 = .ok (.return_, 1) := by decide +kernel
theorem dX11_order_0 : decode cX11_order 0 = .ok (.aload_n 0, 1) := by decide +kernel
theorem dX11_order_1 : decode cX11_order 1 = .ok (.iconst 0, 1) := by decide +kernel
theorem dX11_order_2 : decode cX11_order 2 = .ok (.putfield 83, 3) := by decide +kernel
theorem dX11_order_5 : decode cX11_order 5 = .ok (.iconst 0, 1) := by decide +kernel
theorem dX11_order_6 : decode cX11_order 6 = .ok (.istore_n 2, 1) := by decide +kernel
theorem dX11_order_7 : decode cX11_order 7 = .ok (.iconst 0, 1) := by decide +kernel
theorem dX11_order_8 : decode cX11_order 8 = .ok (.istore_n 3, 1) := by decide +kernel
theorem dX11_order_9 : decode cX11_order 9 = .ok (.iload_n 3, 1) := by decide +kernel
theorem dX11_order_10 : decode cX11_order 10 = .ok (.aload_n 0, 1) := by decide +kernel
theorem dX11_order_11 : decode cX11_order 11 = .ok (.getfield 93, 3) := by decide +kernel
theorem dX11_order_14 : decode cX11_order 14 = .ok (.if_icmp .ge 28, 3) := by decide +kernel
theorem dX11_order_17 : decode cX11_order 17 = .ok (.aload_n 0, 1) := by decide +kernel
theorem dX11_order_18 : decode cX11_order 18 = .ok (.getfield 35, 3) := by decide +kernel
theorem dX11_order_21 : decode cX11_order 21 = .ok (.iload_n 3, 1) := by decide +kernel
theorem dX11_order_22 : decode cX11_order 22 = .ok (.iaload, 1) := by decide +kernel
theorem dX11_order_23 : decode cX11_order 23 = .ok (.ifCond .ne 13, 3) := by decide +kernel
theorem dX11_order_26 : decode cX11_order 26 = .ok (.aload_n 0, 1) := by decide +kernel
theorem dX11_order_27 : decode cX11_order 27 = .ok (.getfield 80, 3) := by decide +kernel
theorem dX11_order_30 : decode cX11_order 30 = .ok (.iload_n 2, 1) := by decide +kernel
theorem dX11_order_31 : decode cX11_order 31 = .ok (.iload_n 3, 1) := by decide +kernel
theorem dX11_order_32 : decode cX11_order 32 = .ok (.iastore, 1) := by decide +kernel
theorem dX11_order_33 : decode cX11_order 33 = .ok (.iinc 2 1, 3) := by decide +kernel
theorem dX11_order_36 : decode cX11_order 36 = .ok (.iinc 3 1, 3) := by decide +kernel
theorem dX11_order_39 : decode cX11_order 39 = .ok (.goto (-30), 3) := by decide +kernel
theorem dX11_order_42 : decode cX11_order 42 = .ok (.iload_n 1, 1) := by decide +kernel
theorem dX11_order_43 : decode cX11_order 43 = .ok (.iconst (-1), 1) := by decide +kernel
theorem dX11_order_44 : decode cX11_order 44 = .ok (.if_icmp .ge 8, 3) := by decide +kernel
theorem dX11_order_47 : decode cX11_order 47 = .ok (.bipush (-4), 2) := by decide +kernel
theorem dX11_order_49 : decode cX11_order 49 = .ok (.goto 14, 3) := by decide +kernel
theorem dX11_order_52 : decode cX11_order 52 = .ok (.iload_n 2, 1) := by decide +kernel
theorem dX11_order_53 : decode cX11_order 53 = .ok (.iconst 5, 1) := by decide +kernel
theorem dX11_order_54 : decode cX11_order 54 = .ok (.if_icmp .le 8, 3) := by decide +kernel
theorem dX11_order_57 : decode cX11_order 57 = .ok (.bipush (-3), 2) := by decide +kernel
theorem dX11_order_59 : decode cX11_order 59 = .ok (.goto 4, 3) := by decide +kernel
theorem dX11_order_62 : decode cX11_order 62 = .ok (.iconst 0, 1) := by decide +kernel
theorem dX11_order_63 : decode cX11_order 63 = .ok (.istore_n 3, 1) := by decide +kernel
theorem dX11_order_64 : decode cX11_order 64 = .ok (.iload_n 3, 1) := by decide +kernel
theorem dX11_order_65 : decode cX11_order 65 = .ok (.ifCond .ge 9, 3) := by decide +kernel
theorem dX11_order_68 : decode cX11_order 68 = .ok (.aload_n 0, 1) := by decide +kernel
theorem dX11_order_69 : decode cX11_order 69 = .ok (.iload_n 3, 1) := by decide +kernel
theorem dX11_order_70 : decode cX11_order 70 = .ok (.invokevirtual 134, 3) := by decide +kernel
theorem dX11_order_73 : decode cX11_order 73 = .ok (.ireturn, 1) := by decide +kernel
theorem dX11_order_74 : decode cX11_order 74 = .ok (.iconst 0, 1) := by decide +kernel
theorem dX11_order_75 : decode cX11_order 75 = .ok (.istore 4, 2) := by decide +kernel
theorem dX11_order_77 : decode cX11_order 77 = .ok (.iconst (-1), 1) := by decide +kernel
theorem dX11_order_78 : decode cX11_order 78 = .ok (.istore 5, 2) := by decide +kernel
theorem dX11_order_80 : decode cX11_order 80 = .ok (.iload_n 2, 1) := by decide +kernel
theorem dX11_order_81 : decode cX11_order 81 = .ok (.invokestatic 298, 3) := by decide +kernel
theorem dX11_order_84 : decode cX11_order 84 = .ok (.istore 6, 2) := by decide +kernel
theorem dX11_order_86 : decode cX11_order 86 = .ok (.aload_n 0, 1) := by decide +kernel
theorem dX11_order_87 : decode cX11_order 87 = .ok (.invokevirtual 194, 3) := by decide +kernel
theorem dX11_order_90 : decode cX11_order 90 = .ok (.iconst 0, 1) := by decide +kernel
theorem dX11_order_91 : decode cX11_order 91 = .ok (.istore 7, 2) := by decide +kernel
theorem dX11_order_93 : decode cX11_order 93 = .ok (.iload 7, 2) := by decide +kernel
theorem dX11_order_95 : decode cX11_order 95 = .ok (.iload 6, 2) := by decide +kernel
theorem dX11_order_97 : decode cX11_order 97 = .ok (.if_icmp .ge 103, 3) := by decide +kernel
theorem dX11_order_100 : decode cX11_order 100 = .ok (.aload_n 0, 1) := by decide +kernel
theorem dX11_order_101 : decode cX11_order 101 = .ok (.iload 7, 2) := by decide +kernel
theorem dX11_order_103 : decode cX11_order 103 = .ok (.iload_n 2, 1) := by decide +kernel
theorem dX11_order_104 : decode cX11_order 104 = .ok (.invokevirtual 301, 3) := by decide +kernel
theorem dX11_order_107 : decode cX11_order 107 = .ok (.iconst 0, 1) := by decide +kernel
theorem dX11_order_108 : decode cX11_order 108 = .ok (.istore 8, 2) := by decide +kernel
theorem dX11_order_110 : decode cX11_order 110 = .ok (.iload 8, 2) := by decide +kernel
theorem dX11_order_112 : decode cX11_order 112 = .ok (.iload_n 2, 1) := by decide +kernel
theorem dX11_order_113 : decode cX11_order 113 = .ok (.if_icmp .ge 29, 3) := by decide +kernel
theorem dX11_order_116 : decode cX11_order 116 = .ok (.aload_n 0, 1) := by decide +kernel
theorem dX11_order_117 : decode cX11_order 117 = .ok (.aload_n 0, 1) := by decide +kernel
theorem dX11_order_118 : decode cX11_order 118 = .ok (.getfield 80, 3) := by decide +kernel
theorem dX11_order_121 : decode cX11_order 121 = .ok (.aload_n 0, 1) := by decide +kernel
theorem dX11_order_122 : decode cX11_order 122 = .ok (.getfield 77, 3) := by decide +kernel
theorem dX11_order_125 : decode cX11_order 125 = .ok (.iload 8, 2) := by decide +kernel
theorem dX11_order_127 : decode cX11_order 127 = .ok (.iaload, 1) := by decide +kernel
theorem dX11_order_128 : decode cX11_order 128 = .ok (.iaload, 1) := by decide +kernel
theorem dX11_order_129 : decode cX11_order 129 = .ok (.invokevirtual 180, 3) := by decide +kernel
theorem dX11_order_132 : decode cX11_order 132 = .ok (.aload_n 0, 1) := by decide +kernel
theorem dX11_order_133 : decode cX11_order 133 = .ok (.invokevirtual 131, 3) := by decide +kernel
theorem dX11_order_136 : decode cX11_order 136 = .ok (.iinc 8 1, 3) := by decide +kernel
theorem dX11_order_139 : decode cX11_order 139 = .ok (.goto (-29), 3) := by decide +kernel
theorem dX11_order_142 : decode cX11_order 142 = .ok (.aload_n 0, 1) := by decide +kernel
theorem dX11_order_143 : decode cX11_order 143 = .ok (.invokevirtual 235, 3) := by decide +kernel
theorem dX11_order_146 : decode cX11_order 146 = .ok (.istore 8, 2) := by decide +kernel
theorem dX11_order_148 : decode cX11_order 148 = .ok (.aload_n 0, 1) := by decide +kernel
theorem dX11_order_149 : decode cX11_order 149 = .ok (.invokevirtual 200, 3) := by decide +kernel
theorem dX11_order_152 : decode cX11_order 152 = .ok (.iload 5, 2) := by decide +kernel
theorem dX11_order_154 : decode cX11_order 154 = .ok (.ifCond .lt 10, 3) := by decide +kernel
theorem dX11_order_157 : decode cX11_order 157 = .ok (.iload 8, 2) := by decide +kernel
theorem dX11_order_159 : decode cX11_order 159 = .ok (.iload 5, 2) := by decide +kernel
theorem dX11_order_161 : decode cX11_order 161 = .ok (.if_icmp .ge 8, 3) := by decide +kernel
theorem dX11_order_164 : decode cX11_order 164 = .ok (.iload 7, 2) := by decide +kernel
theorem dX11_order_166 : decode cX11_order 166 = .ok (.goto 5, 3) := by decide +kernel
theorem dX11_order_169 : decode cX11_order 169 = .ok (.iload 4, 2) := by decide +kernel
theorem dX11_order_171 : decode cX11_order 171 = .ok (.istore 4, 2) := by decide +kernel
theorem dX11_order_173 : decode cX11_order 173 = .ok (.iload 5, 2) := by decide +kernel
theorem dX11_order_175 : decode cX11_order 175 = .ok (.ifCond .lt 10, 3) := by decide +kernel
theorem dX11_order_178 : decode cX11_order 178 = .ok (.iload 8, 2) := by decide +kernel
theorem dX11_order_180 : decode cX11_order 180 = .ok (.iload 5, 2) := by decide +kernel
theorem dX11_order_182 : decode cX11_order 182 = .ok (.if_icmp .ge 8, 3) := by decide +kernel
theorem dX11_order_185 : decode cX11_order 185 = .ok (.iload 8, 2) := by decide +kernel
theorem dX11_order_187 : decode cX11_order 187 = .ok (.goto 5, 3) := by decide +kernel
theorem dX11_order_190 : decode cX11_order 190 = .ok (.iload 5, 2) := by decide +kernel
theorem dX11_order_192 : decode cX11_order 192 = .ok (.istore 5, 2) := by decide +kernel
theorem dX11_order_194 : decode cX11_order 194 = .ok (.iinc 7 1, 3) := by decide +kernel
theorem dX11_order_197 : decode cX11_order 197 = .ok (.goto (-104), 3) := by decide +kernel
theorem dX11_order_200 : decode cX11_order 200 = .ok (.iload_n 1, 1) := by decide +kernel
theorem dX11_order_201 : decode cX11_order 201 = .ok (.ifCond .ge 6, 3) := by decide +kernel
theorem dX11_order_204 : decode cX11_order 204 = .ok (.iload 5, 2) := by decide +kernel
theorem dX11_order_206 : decode cX11_order 206 = .ok (.ireturn, 1) := by decide +kernel
theorem dX11_order_207 : decode cX11_order 207 = .ok (.aload_n 0, 1) := by decide +kernel
theorem dX11_order_208 : decode cX11_order 208 = .ok (.iload 4, 2) := by decide +kernel
theorem dX11_order_210 : decode cX11_order 210 = .ok (.iload_n 2, 1) := by decide +kernel
theorem dX11_order_211 : decode cX11_order 211 = .ok (.invokevirtual 301, 3) := by decide +kernel
theorem dX11_order_214 : decode cX11_order 214 = .ok (.iload_n 1, 1) := by decide +kernel
theorem dX11_order_215 : decode cX11_order 215 = .ok (.iload_n 2, 1) := by decide +kernel
theorem dX11_order_216 : decode cX11_order 216 = .ok (.if_icmp .ge 17, 3) := by decide +kernel
theorem dX11_order_219 : decode cX11_order 219 = .ok (.aload_n 0, 1) := by decide +kernel
theorem dX11_order_220 : decode cX11_order 220 = .ok (.getfield 80, 3) := by decide +kernel
theorem dX11_order_223 : decode cX11_order 223 = .ok (.aload_n 0, 1) := by decide +kernel
theorem dX11_order_224 : decode cX11_order 224 = .ok (.getfield 77, 3) := by decide +kernel
theorem dX11_order_227 : decode cX11_order 227 = .ok (.iload_n 1, 1) := by decide +kernel
theorem dX11_order_228 : decode cX11_order 228 = .ok (.iaload, 1) := by decide +kernel
theorem dX11_order_229 : decode cX11_order 229 = .ok (.iaload, 1) := by decide +kernel
theorem dX11_order_230 : decode cX11_order 230 = .ok (.goto 5, 3) := by decide +kernel
theorem dX11_order_233 : decode cX11_order 233 = .ok (.bipush (-9), 2) := by decide +kernel
theorem dX11_order_235 : decode cX11_order 235 = .ok (.ireturn, 1) := by decide +kernel
theorem dX11_jubilee_0 : decode cX11_jubilee 0 = .ok (.aload_n 0, 1) := by decide +kernel
theorem dX11_jubilee_1 : decode cX11_jubilee 1 = .ok (.iconst 0, 1) := by decide +kernel
theorem dX11_jubilee_2 : decode cX11_jubilee 2 = .ok (.putfield 83, 3) := by decide +kernel
theorem dX11_jubilee_5 : decode cX11_jubilee 5 = .ok (.iload_n 1, 1) := by decide +kernel
theorem dX11_jubilee_6 : decode cX11_jubilee 6 = .ok (.iconst 0, 1) := by decide +kernel
theorem dX11_jubilee_7 : decode cX11_jubilee 7 = .ok (.bipush 100, 2) := by decide +kernel
theorem dX11_jubilee_9 : decode cX11_jubilee 9 = .ok (.invokestatic 238, 3) := by decide +kernel
theorem dX11_jubilee_12 : decode cX11_jubilee 12 = .ok (.ifCond .ge 15, 3) := by decide +kernel
theorem dX11_jubilee_15 : decode cX11_jubilee 15 = .ok (.aload_n 0, 1) := by decide +kernel
theorem dX11_jubilee_16 : decode cX11_jubilee 16 = .ok (.iload_n 1, 1) := by decide +kernel
theorem dX11_jubilee_17 : decode cX11_jubilee 17 = .ok (.iconst 0, 1) := by decide +kernel
theorem dX11_jubilee_18 : decode cX11_jubilee 18 = .ok (.bipush 100, 2) := by decide +kernel
theorem dX11_jubilee_20 : decode cX11_jubilee 20 = .ok (.invokestatic 238, 3) := by decide +kernel
theorem dX11_jubilee_23 : decode cX11_jubilee 23 = .ok (.invokevirtual 134, 3) := by decide +kernel
theorem dX11_jubilee_26 : decode cX11_jubilee 26 = .ok (.ireturn, 1) := by decide +kernel
theorem dX11_jubilee_27 : decode cX11_jubilee 27 = .ok (.bipush (-9), 2) := by decide +kernel
theorem dX11_jubilee_29 : decode cX11_jubilee 29 = .ok (.istore_n 2, 1) := by decide +kernel
theorem dX11_jubilee_30 : decode cX11_jubilee 30 = .ok (.ldc_w 271, 3) := by decide +kernel
theorem dX11_jubilee_33 : decode cX11_jubilee 33 = .ok (.istore_n 3, 1) := by decide +kernel
theorem dX11_jubilee_34 : decode cX11_jubilee 34 = .ok (.aload_n 0, 1) := by decide +kernel
theorem dX11_jubilee_35 : decode cX11_jubilee 35 = .ok (.invokevirtual 194, 3) := by decide +kernel
theorem dX11_jubilee_38 : decode cX11_jubilee 38 = .ok (.iconst 0, 1) := by decide +kernel
theorem dX11_jubilee_39 : decode cX11_jubilee 39 = .ok (.istore 4, 2) := by decide +kernel
theorem dX11_jubilee_41 : decode cX11_jubilee 41 = .ok (.iload 4, 2) := by decide +kernel
theorem dX11_jubilee_43 : decode cX11_jubilee 43 = .ok (.aload_n 0, 1) := by decide +kernel
theorem dX11_jubilee_44 : decode cX11_jubilee 44 = .ok (.getfield 86, 3) := by decide +kernel
theorem dX11_jubilee_47 : decode cX11_jubilee 47 = .ok (.if_icmp .ge 50, 3) := by decide +kernel
theorem dX11_jubilee_50 : decode cX11_jubilee 50 = .ok (.aload_n 0, 1) := by decide +kernel
theorem dX11_jubilee_51 : decode cX11_jubilee 51 = .ok (.getfield 13, 3) := by decide +kernel
theorem dX11_jubilee_54 : decode cX11_jubilee 54 = .ok (.iload 4, 2) := by decide +kernel
theorem dX11_jubilee_56 : decode cX11_jubilee 56 = .ok (.iconst 0, 1) := by decide +kernel
theorem dX11_jubilee_57 : decode cX11_jubilee 57 = .ok (.iastore, 1) := by decide +kernel
theorem dX11_jubilee_58 : decode cX11_jubilee 58 = .ok (.aload_n 0, 1) := by decide +kernel
theorem dX11_jubilee_59 : decode cX11_jubilee 59 = .ok (.iload_n 1, 1) := by decide +kernel
theorem dX11_jubilee_60 : decode cX11_jubilee 60 = .ok (.invokevirtual 244, 3) := by decide +kernel
theorem dX11_jubilee_63 : decode cX11_jubilee 63 = .ok (.istore 5, 2) := by decide +kernel
theorem dX11_jubilee_65 : decode cX11_jubilee 65 = .ok (.iload 5, 2) := by decide +kernel
theorem dX11_jubilee_67 : decode cX11_jubilee 67 = .ok (.iload_n 3, 1) := by decide +kernel
theorem dX11_jubilee_68 : decode cX11_jubilee 68 = .ok (.if_icmp .ge 8, 3) := by decide +kernel
theorem dX11_jubilee_71 : decode cX11_jubilee 71 = .ok (.iload 4, 2) := by decide +kernel
theorem dX11_jubilee_73 : decode cX11_jubilee 73 = .ok (.goto 4, 3) := by decide +kernel
theorem dX11_jubilee_76 : decode cX11_jubilee 76 = .ok (.iload_n 2, 1) := by decide +kernel
theorem dX11_jubilee_77 : decode cX11_jubilee 77 = .ok (.istore_n 2, 1) := by decide +kernel
theorem dX11_jubilee_78 : decode cX11_jubilee 78 = .ok (.iload 5, 2) := by decide +kernel
theorem dX11_jubilee_80 : decode cX11_jubilee 80 = .ok (.iload_n 3, 1) := by decide +kernel
theorem dX11_jubilee_81 : decode cX11_jubilee 81 = .ok (.if_icmp .ge 8, 3) := by decide +kernel
theorem dX11_jubilee_84 : decode cX11_jubilee 84 = .ok (.iload 5, 2) := by decide +kernel
theorem dX11_jubilee_86 : decode cX11_jubilee 86 = .ok (.goto 4, 3) := by decide +kernel
theorem dX11_jubilee_89 : decode cX11_jubilee 89 = .ok (.iload_n 3, 1) := by decide +kernel
theorem dX11_jubilee_90 : decode cX11_jubilee 90 = .ok (.istore_n 3, 1) := by decide +kernel
theorem dX11_jubilee_91 : decode cX11_jubilee 91 = .ok (.iinc 4 1, 3) := by decide +kernel
theorem dX11_jubilee_94 : decode cX11_jubilee 94 = .ok (.goto (-53), 3) := by decide +kernel
theorem dX11_jubilee_97 : decode cX11_jubilee 97 = .ok (.iload_n 2, 1) := by decide +kernel
theorem dX11_jubilee_98 : decode cX11_jubilee 98 = .ok (.ireturn, 1) := by decide +kernel
theorem dX11_fair_0 : decode cX11_fair 0 = .ok (.aload_n 0, 1) := by decide +kernel
theorem dX11_fair_1 : decode cX11_fair 1 = .ok (.iconst 0, 1) := by decide +kernel
theorem dX11_fair_2 : decode cX11_fair 2 = .ok (.putfield 83, 3) := by decide +kernel
theorem dX11_fair_5 : decode cX11_fair 5 = .ok (.iload_n 1, 1) := by decide +kernel
theorem dX11_fair_6 : decode cX11_fair 6 = .ok (.i2l, 1) := by decide +kernel
theorem dX11_fair_7 : decode cX11_fair 7 = .ok (.lconst 0, 1) := by decide +kernel
theorem dX11_fair_8 : decode cX11_fair 8 = .ok (.lconst 1, 1) := by decide +kernel
theorem dX11_fair_9 : decode cX11_fair 9 = .ok (.invokestatic 89, 3) := by decide +kernel
theorem dX11_fair_12 : decode cX11_fair 12 = .ok (.ifCond .ne 10, 3) := by decide +kernel
theorem dX11_fair_15 : decode cX11_fair 15 = .ok (.aload_n 0, 1) := by decide +kernel
theorem dX11_fair_16 : decode cX11_fair 16 = .ok (.bipush (-2), 2) := by decide +kernel
theorem dX11_fair_18 : decode cX11_fair 18 = .ok (.invokevirtual 134, 3) := by decide +kernel
theorem dX11_fair_21 : decode cX11_fair 21 = .ok (.ireturn, 1) := by decide +kernel
theorem dX11_fair_22 : decode cX11_fair 22 = .ok (.bipush (-9), 2) := by decide +kernel
theorem dX11_fair_24 : decode cX11_fair 24 = .ok (.istore_n 2, 1) := by decide +kernel
theorem dX11_fair_25 : decode cX11_fair 25 = .ok (.iconst 0, 1) := by decide +kernel
theorem dX11_fair_26 : decode cX11_fair 26 = .ok (.istore_n 3, 1) := by decide +kernel
theorem dX11_fair_27 : decode cX11_fair 27 = .ok (.iconst 0, 1) := by decide +kernel
theorem dX11_fair_28 : decode cX11_fair 28 = .ok (.istore 4, 2) := by decide +kernel
theorem dX11_fair_30 : decode cX11_fair 30 = .ok (.iload 4, 2) := by decide +kernel
theorem dX11_fair_32 : decode cX11_fair 32 = .ok (.aload_n 0, 1) := by decide +kernel
theorem dX11_fair_33 : decode cX11_fair 33 = .ok (.getfield 86, 3) := by decide +kernel
theorem dX11_fair_36 : decode cX11_fair 36 = .ok (.if_icmp .ge 60, 3) := by decide +kernel
theorem dX11_fair_39 : decode cX11_fair 39 = .ok (.iload 4, 2) := by decide +kernel
theorem dX11_fair_41 : decode cX11_fair 41 = .ok (.ifCond .eq 13, 3) := by decide +kernel
theorem dX11_fair_44 : decode cX11_fair 44 = .ok (.aload_n 0, 1) := by decide +kernel
theorem dX11_fair_45 : decode cX11_fair 45 = .ok (.iload 4, 2) := by decide +kernel
theorem dX11_fair_47 : decode cX11_fair 47 = .ok (.invokevirtual 227, 3) := by decide +kernel
theorem dX11_fair_50 : decode cX11_fair 50 = .ok (.iload_n 3, 1) := by decide +kernel
theorem dX11_fair_51 : decode cX11_fair 51 = .ok (.if_icmp .ge 12, 3) := by decide +kernel
theorem dX11_fair_54 : decode cX11_fair 54 = .ok (.aload_n 0, 1) := by decide +kernel
theorem dX11_fair_55 : decode cX11_fair 55 = .ok (.iload 4, 2) := by decide +kernel
theorem dX11_fair_57 : decode cX11_fair 57 = .ok (.invokevirtual 227, 3) := by decide +kernel
theorem dX11_fair_60 : decode cX11_fair 60 = .ok (.goto 4, 3) := by decide +kernel
theorem dX11_fair_63 : decode cX11_fair 63 = .ok (.iload_n 3, 1) := by decide +kernel
theorem dX11_fair_64 : decode cX11_fair 64 = .ok (.istore_n 3, 1) := by decide +kernel
theorem dX11_fair_65 : decode cX11_fair 65 = .ok (.iload_n 2, 1) := by decide +kernel
theorem dX11_fair_66 : decode cX11_fair 66 = .ok (.ifCond .lt 17, 3) := by decide +kernel
theorem dX11_fair_69 : decode cX11_fair 69 = .ok (.aload_n 0, 1) := by decide +kernel
theorem dX11_fair_70 : decode cX11_fair 70 = .ok (.iload 4, 2) := by decide +kernel
theorem dX11_fair_72 : decode cX11_fair 72 = .ok (.invokevirtual 227, 3) := by decide +kernel
theorem dX11_fair_75 : decode cX11_fair 75 = .ok (.aload_n 0, 1) := by decide +kernel
theorem dX11_fair_76 : decode cX11_fair 76 = .ok (.iload_n 2, 1) := by decide +kernel
theorem dX11_fair_77 : decode cX11_fair 77 = .ok (.invokevirtual 227, 3) := by decide +kernel
theorem dX11_fair_80 : decode cX11_fair 80 = .ok (.if_icmp .le 8, 3) := by decide +kernel
theorem dX11_fair_83 : decode cX11_fair 83 = .ok (.iload 4, 2) := by decide +kernel
theorem dX11_fair_85 : decode cX11_fair 85 = .ok (.goto 4, 3) := by decide +kernel
theorem dX11_fair_88 : decode cX11_fair 88 = .ok (.iload_n 2, 1) := by decide +kernel
theorem dX11_fair_89 : decode cX11_fair 89 = .ok (.istore_n 2, 1) := by decide +kernel
theorem dX11_fair_90 : decode cX11_fair 90 = .ok (.iinc 4 1, 3) := by decide +kernel
theorem dX11_fair_93 : decode cX11_fair 93 = .ok (.goto (-63), 3) := by decide +kernel
theorem dX11_fair_96 : decode cX11_fair 96 = .ok (.iload_n 1, 1) := by decide +kernel
theorem dX11_fair_97 : decode cX11_fair 97 = .ok (.iconst 1, 1) := by decide +kernel
theorem dX11_fair_98 : decode cX11_fair 98 = .ok (.if_icmp .ne 7, 3) := by decide +kernel
theorem dX11_fair_101 : decode cX11_fair 101 = .ok (.iload_n 2, 1) := by decide +kernel
theorem dX11_fair_102 : decode cX11_fair 102 = .ok (.goto 18, 3) := by decide +kernel
theorem dX11_fair_105 : decode cX11_fair 105 = .ok (.iload_n 2, 1) := by decide +kernel
theorem dX11_fair_106 : decode cX11_fair 106 = .ok (.ifCond .ge 7, 3) := by decide +kernel
theorem dX11_fair_109 : decode cX11_fair 109 = .ok (.iconst 0, 1) := by decide +kernel
theorem dX11_fair_110 : decode cX11_fair 110 = .ok (.goto 10, 3) := by decide +kernel
theorem dX11_fair_113 : decode cX11_fair 113 = .ok (.aload_n 0, 1) := by decide +kernel
theorem dX11_fair_114 : decode cX11_fair 114 = .ok (.iload_n 2, 1) := by decide +kernel
theorem dX11_fair_115 : decode cX11_fair 115 = .ok (.invokevirtual 227, 3) := by decide +kernel
theorem dX11_fair_118 : decode cX11_fair 118 = .ok (.iload_n 3, 1) := by decide +kernel
theorem dX11_fair_119 : decode cX11_fair 119 = .ok (.isub, 1) := by decide +kernel
theorem dX11_fair_120 : decode cX11_fair 120 = .ok (.ireturn, 1) := by decide +kernel
theorem dX11_peak_0 : decode cX11_peak 0 = .ok (.aload_n 0, 1) := by decide +kernel
theorem dX11_peak_1 : decode cX11_peak 1 = .ok (.iconst 0, 1) := by decide +kernel
theorem dX11_peak_2 : decode cX11_peak 2 = .ok (.putfield 83, 3) := by decide +kernel
theorem dX11_peak_5 : decode cX11_peak 5 = .ok (.aload_n 0, 1) := by decide +kernel
theorem dX11_peak_6 : decode cX11_peak 6 = .ok (.iload_n 1, 1) := by decide +kernel
theorem dX11_peak_7 : decode cX11_peak 7 = .ok (.invokevirtual 188, 3) := by decide +kernel
theorem dX11_peak_10 : decode cX11_peak 10 = .ok (.ifCond .eq 13, 3) := by decide +kernel
theorem dX11_peak_13 : decode cX11_peak 13 = .ok (.iload_n 2, 1) := by decide +kernel
theorem dX11_peak_14 : decode cX11_peak 14 = .ok (.iconst 0, 1) := by decide +kernel
theorem dX11_peak_15 : decode cX11_peak 15 = .ok (.bipush 100, 2) := by decide +kernel
theorem dX11_peak_17 : decode cX11_peak 17 = .ok (.invokestatic 238, 3) := by decide +kernel
theorem dX11_peak_20 : decode cX11_peak 20 = .ok (.goto 4, 3) := by decide +kernel
theorem dX11_peak_23 : decode cX11_peak 23 = .ok (.iconst (-1), 1) := by decide +kernel
theorem dX11_peak_24 : decode cX11_peak 24 = .ok (.iload_n 3, 1) := by decide +kernel
theorem dX11_peak_25 : decode cX11_peak 25 = .ok (.iconst 1, 1) := by decide +kernel
theorem dX11_peak_26 : decode cX11_peak 26 = .ok (.invokestatic 241, 3) := by decide +kernel
theorem dX11_peak_29 : decode cX11_peak 29 = .ok (.istore 4, 2) := by decide +kernel
theorem dX11_peak_31 : decode cX11_peak 31 = .ok (.iload 4, 2) := by decide +kernel
theorem dX11_peak_33 : decode cX11_peak 33 = .ok (.ifCond .ge 10, 3) := by decide +kernel
theorem dX11_peak_36 : decode cX11_peak 36 = .ok (.aload_n 0, 1) := by decide +kernel
theorem dX11_peak_37 : decode cX11_peak 37 = .ok (.iload 4, 2) := by decide +kernel
theorem dX11_peak_39 : decode cX11_peak 39 = .ok (.invokevirtual 134, 3) := by decide +kernel
theorem dX11_peak_42 : decode cX11_peak 42 = .ok (.ireturn, 1) := by decide +kernel
theorem dX11_peak_43 : decode cX11_peak 43 = .ok (.aload_n 0, 1) := by decide +kernel
theorem dX11_peak_44 : decode cX11_peak 44 = .ok (.invokevirtual 194, 3) := by decide +kernel
theorem dX11_peak_47 : decode cX11_peak 47 = .ok (.aload_n 0, 1) := by decide +kernel
theorem dX11_peak_48 : decode cX11_peak 48 = .ok (.getfield 13, 3) := by decide +kernel
theorem dX11_peak_51 : decode cX11_peak 51 = .ok (.iload_n 1, 1) := by decide +kernel
theorem dX11_peak_52 : decode cX11_peak 52 = .ok (.iaload, 1) := by decide +kernel
theorem dX11_peak_53 : decode cX11_peak 53 = .ok (.istore 5, 2) := by decide +kernel
theorem dX11_peak_55 : decode cX11_peak 55 = .ok (.iconst 0, 1) := by decide +kernel
theorem dX11_peak_56 : decode cX11_peak 56 = .ok (.istore 6, 2) := by decide +kernel
theorem dX11_peak_58 : decode cX11_peak 58 = .ok (.iconst 1, 1) := by decide +kernel
theorem dX11_peak_59 : decode cX11_peak 59 = .ok (.istore 7, 2) := by decide +kernel
theorem dX11_peak_61 : decode cX11_peak 61 = .ok (.iload 7, 2) := by decide +kernel
theorem dX11_peak_63 : decode cX11_peak 63 = .ok (.iload_n 2, 1) := by decide +kernel
theorem dX11_peak_64 : decode cX11_peak 64 = .ok (.if_icmp .gt 57, 3) := by decide +kernel
theorem dX11_peak_67 : decode cX11_peak 67 = .ok (.aload_n 0, 1) := by decide +kernel
theorem dX11_peak_68 : decode cX11_peak 68 = .ok (.invokevirtual 131, 3) := by decide +kernel
theorem dX11_peak_71 : decode cX11_peak 71 = .ok (.aload_n 0, 1) := by decide +kernel
theorem dX11_peak_72 : decode cX11_peak 72 = .ok (.getfield 13, 3) := by decide +kernel
theorem dX11_peak_75 : decode cX11_peak 75 = .ok (.iload_n 1, 1) := by decide +kernel
theorem dX11_peak_76 : decode cX11_peak 76 = .ok (.iaload, 1) := by decide +kernel
theorem dX11_peak_77 : decode cX11_peak 77 = .ok (.iload 5, 2) := by decide +kernel
theorem dX11_peak_79 : decode cX11_peak 79 = .ok (.if_icmp .le 8, 3) := by decide +kernel
theorem dX11_peak_82 : decode cX11_peak 82 = .ok (.iload 7, 2) := by decide +kernel
theorem dX11_peak_84 : decode cX11_peak 84 = .ok (.goto 5, 3) := by decide +kernel
theorem dX11_peak_87 : decode cX11_peak 87 = .ok (.iload 6, 2) := by decide +kernel
theorem dX11_peak_89 : decode cX11_peak 89 = .ok (.istore 6, 2) := by decide +kernel
theorem dX11_peak_91 : decode cX11_peak 91 = .ok (.aload_n 0, 1) := by decide +kernel
theorem dX11_peak_92 : decode cX11_peak 92 = .ok (.getfield 13, 3) := by decide +kernel
theorem dX11_peak_95 : decode cX11_peak 95 = .ok (.iload_n 1, 1) := by decide +kernel
theorem dX11_peak_96 : decode cX11_peak 96 = .ok (.iaload, 1) := by decide +kernel
theorem dX11_peak_97 : decode cX11_peak 97 = .ok (.iload 5, 2) := by decide +kernel
theorem dX11_peak_99 : decode cX11_peak 99 = .ok (.if_icmp .le 12, 3) := by decide +kernel
theorem dX11_peak_102 : decode cX11_peak 102 = .ok (.aload_n 0, 1) := by decide +kernel
theorem dX11_peak_103 : decode cX11_peak 103 = .ok (.getfield 13, 3) := by decide +kernel
theorem dX11_peak_106 : decode cX11_peak 106 = .ok (.iload_n 1, 1) := by decide +kernel
theorem dX11_peak_107 : decode cX11_peak 107 = .ok (.iaload, 1) := by decide +kernel
theorem dX11_peak_108 : decode cX11_peak 108 = .ok (.goto 5, 3) := by decide +kernel
theorem dX11_peak_111 : decode cX11_peak 111 = .ok (.iload 5, 2) := by decide +kernel
theorem dX11_peak_113 : decode cX11_peak 113 = .ok (.istore 5, 2) := by decide +kernel
theorem dX11_peak_115 : decode cX11_peak 115 = .ok (.iinc 7 1, 3) := by decide +kernel
theorem dX11_peak_118 : decode cX11_peak 118 = .ok (.goto (-57), 3) := by decide +kernel
theorem dX11_peak_121 : decode cX11_peak 121 = .ok (.aload_n 0, 1) := by decide +kernel
theorem dX11_peak_122 : decode cX11_peak 122 = .ok (.invokevirtual 200, 3) := by decide +kernel
theorem dX11_peak_125 : decode cX11_peak 125 = .ok (.iload_n 3, 1) := by decide +kernel
theorem dX11_peak_126 : decode cX11_peak 126 = .ok (.ifCond .ne 8, 3) := by decide +kernel
theorem dX11_peak_129 : decode cX11_peak 129 = .ok (.iload 5, 2) := by decide +kernel
theorem dX11_peak_131 : decode cX11_peak 131 = .ok (.goto 5, 3) := by decide +kernel
theorem dX11_peak_134 : decode cX11_peak 134 = .ok (.iload 6, 2) := by decide +kernel
theorem dX11_peak_136 : decode cX11_peak 136 = .ok (.ireturn, 1) := by decide +kernel
theorem dX11_interest_0 : decode cX11_interest 0 = .ok (.aload_n 0, 1) := by decide +kernel
theorem dX11_interest_1 : decode cX11_interest 1 = .ok (.iconst 0, 1) := by decide +kernel
theorem dX11_interest_2 : decode cX11_interest 2 = .ok (.putfield 83, 3) := by decide +kernel
theorem dX11_interest_5 : decode cX11_interest 5 = .ok (.aload_n 0, 1) := by decide +kernel
theorem dX11_interest_6 : decode cX11_interest 6 = .ok (.iload_n 1, 1) := by decide +kernel
theorem dX11_interest_7 : decode cX11_interest 7 = .ok (.invokevirtual 188, 3) := by decide +kernel
theorem dX11_interest_10 : decode cX11_interest 10 = .ok (.ifCond .eq 13, 3) := by decide +kernel
theorem dX11_interest_13 : decode cX11_interest 13 = .ok (.iload_n 2, 1) := by decide +kernel
theorem dX11_interest_14 : decode cX11_interest 14 = .ok (.iconst 0, 1) := by decide +kernel
theorem dX11_interest_15 : decode cX11_interest 15 = .ok (.bipush 100, 2) := by decide +kernel
theorem dX11_interest_17 : decode cX11_interest 17 = .ok (.invokestatic 238, 3) := by decide +kernel
theorem dX11_interest_20 : decode cX11_interest 20 = .ok (.goto 4, 3) := by decide +kernel
theorem dX11_interest_23 : decode cX11_interest 23 = .ok (.iconst (-1), 1) := by decide +kernel
theorem dX11_interest_24 : decode cX11_interest 24 = .ok (.istore_n 3, 1) := by decide +kernel
theorem dX11_interest_25 : decode cX11_interest 25 = .ok (.iload_n 3, 1) := by decide +kernel
theorem dX11_interest_26 : decode cX11_interest 26 = .ok (.ifCond .ge 9, 3) := by decide +kernel
theorem dX11_interest_29 : decode cX11_interest 29 = .ok (.aload_n 0, 1) := by decide +kernel
theorem dX11_interest_30 : decode cX11_interest 30 = .ok (.iload_n 3, 1) := by decide +kernel
theorem dX11_interest_31 : decode cX11_interest 31 = .ok (.invokevirtual 134, 3) := by decide +kernel
theorem dX11_interest_34 : decode cX11_interest 34 = .ok (.ireturn, 1) := by decide +kernel
theorem dX11_interest_35 : decode cX11_interest 35 = .ok (.aload_n 0, 1) := by decide +kernel
theorem dX11_interest_36 : decode cX11_interest 36 = .ok (.invokevirtual 194, 3) := by decide +kernel
theorem dX11_interest_39 : decode cX11_interest 39 = .ok (.iconst 0, 1) := by decide +kernel
theorem dX11_interest_40 : decode cX11_interest 40 = .ok (.istore 4, 2) := by decide +kernel
theorem dX11_interest_42 : decode cX11_interest 42 = .ok (.iconst 0, 1) := by decide +kernel
theorem dX11_interest_43 : decode cX11_interest 43 = .ok (.istore 5, 2) := by decide +kernel
theorem dX11_interest_45 : decode cX11_interest 45 = .ok (.iload 5, 2) := by decide +kernel
theorem dX11_interest_47 : decode cX11_interest 47 = .ok (.iload_n 2, 1) := by decide +kernel
theorem dX11_interest_48 : decode cX11_interest 48 = .ok (.if_icmp .ge 52, 3) := by decide +kernel
theorem dX11_interest_51 : decode cX11_interest 51 = .ok (.iload 4, 2) := by decide +kernel
theorem dX11_interest_53 : decode cX11_interest 53 = .ok (.aload_n 0, 1) := by decide +kernel
theorem dX11_interest_54 : decode cX11_interest 54 = .ok (.getfield 13, 3) := by decide +kernel
theorem dX11_interest_57 : decode cX11_interest 57 = .ok (.iload_n 1, 1) := by decide +kernel
theorem dX11_interest_58 : decode cX11_interest 58 = .ok (.iaload, 1) := by decide +kernel
theorem dX11_interest_59 : decode cX11_interest 59 = .ok (.aload_n 0, 1) := by decide +kernel
theorem dX11_interest_60 : decode cX11_interest 60 = .ok (.getfield 13, 3) := by decide +kernel
theorem dX11_interest_63 : decode cX11_interest 63 = .ok (.iload_n 1, 1) := by decide +kernel
theorem dX11_interest_64 : decode cX11_interest 64 = .ok (.iaload, 1) := by decide +kernel
theorem dX11_interest_65 : decode cX11_interest 65 = .ok (.aload_n 0, 1) := by decide +kernel
theorem dX11_interest_66 : decode cX11_interest 66 = .ok (.getfield 22, 3) := by decide +kernel
theorem dX11_interest_69 : decode cX11_interest 69 = .ok (.imul, 1) := by decide +kernel
theorem dX11_interest_70 : decode cX11_interest 70 = .ok (.bipush 100, 2) := by decide +kernel
theorem dX11_interest_72 : decode cX11_interest 72 = .ok (.idiv, 1) := by decide +kernel
theorem dX11_interest_73 : decode cX11_interest 73 = .ok (.iadd, 1) := by decide +kernel
theorem dX11_interest_74 : decode cX11_interest 74 = .ok (.iconst 0, 1) := by decide +kernel
theorem dX11_interest_75 : decode cX11_interest 75 = .ok (.ldc 96, 2) := by decide +kernel
theorem dX11_interest_77 : decode cX11_interest 77 = .ok (.invokestatic 97, 3) := by decide +kernel
theorem dX11_interest_80 : decode cX11_interest 80 = .ok (.aload_n 0, 1) := by decide +kernel
theorem dX11_interest_81 : decode cX11_interest 81 = .ok (.getfield 13, 3) := by decide +kernel
theorem dX11_interest_84 : decode cX11_interest 84 = .ok (.iload_n 1, 1) := by decide +kernel
theorem dX11_interest_85 : decode cX11_interest 85 = .ok (.iaload, 1) := by decide +kernel
theorem dX11_interest_86 : decode cX11_interest 86 = .ok (.isub, 1) := by decide +kernel
theorem dX11_interest_87 : decode cX11_interest 87 = .ok (.iadd, 1) := by decide +kernel
theorem dX11_interest_88 : decode cX11_interest 88 = .ok (.istore 4, 2) := by decide +kernel
theorem dX11_interest_90 : decode cX11_interest 90 = .ok (.aload_n 0, 1) := by decide +kernel
theorem dX11_interest_91 : decode cX11_interest 91 = .ok (.invokevirtual 131, 3) := by decide +kernel
theorem dX11_interest_94 : decode cX11_interest 94 = .ok (.iinc 5 1, 3) := by decide +kernel
theorem dX11_interest_97 : decode cX11_interest 97 = .ok (.goto (-52), 3) := by decide +kernel
theorem dX11_interest_100 : decode cX11_interest 100 = .ok (.aload_n 0, 1) := by decide +kernel
theorem dX11_interest_101 : decode cX11_interest 101 = .ok (.invokevirtual 200, 3) := by decide +kernel
theorem dX11_interest_104 : decode cX11_interest 104 = .ok (.iload 4, 2) := by decide +kernel
theorem dX11_interest_106 : decode cX11_interest 106 = .ok (.ireturn, 1) := by decide +kernel
theorem dX11_doubled_0 : decode cX11_doubled 0 = .ok (.aload_n 0, 1) := by decide +kernel
theorem dX11_doubled_1 : decode cX11_doubled 1 = .ok (.iconst 0, 1) := by decide +kernel
theorem dX11_doubled_2 : decode cX11_doubled 2 = .ok (.putfield 83, 3) := by decide +kernel
theorem dX11_doubled_5 : decode cX11_doubled 5 = .ok (.aload_n 0, 1) := by decide +kernel
theorem dX11_doubled_6 : decode cX11_doubled 6 = .ok (.iload_n 1, 1) := by decide +kernel
theorem dX11_doubled_7 : decode cX11_doubled 7 = .ok (.invokevirtual 188, 3) := by decide +kernel
theorem dX11_doubled_10 : decode cX11_doubled 10 = .ok (.ifCond .ne 9, 3) := by decide +kernel
theorem dX11_doubled_13 : decode cX11_doubled 13 = .ok (.aload_n 0, 1) := by decide +kernel
theorem dX11_doubled_14 : decode cX11_doubled 14 = .ok (.iconst (-1), 1) := by decide +kernel
theorem dX11_doubled_15 : decode cX11_doubled 15 = .ok (.invokevirtual 134, 3) := by decide +kernel
theorem dX11_doubled_18 : decode cX11_doubled 18 = .ok (.ireturn, 1) := by decide +kernel
theorem dX11_doubled_19 : decode cX11_doubled 19 = .ok (.aload_n 0, 1) := by decide +kernel
theorem dX11_doubled_20 : decode cX11_doubled 20 = .ok (.getfield 13, 3) := by decide +kernel
theorem dX11_doubled_23 : decode cX11_doubled 23 = .ok (.iload_n 1, 1) := by decide +kernel
theorem dX11_doubled_24 : decode cX11_doubled 24 = .ok (.iaload, 1) := by decide +kernel
theorem dX11_doubled_25 : decode cX11_doubled 25 = .ok (.istore_n 2, 1) := by decide +kernel
theorem dX11_doubled_26 : decode cX11_doubled 26 = .ok (.bipush (-9), 2) := by decide +kernel
theorem dX11_doubled_28 : decode cX11_doubled 28 = .ok (.istore_n 3, 1) := by decide +kernel
theorem dX11_doubled_29 : decode cX11_doubled 29 = .ok (.aload_n 0, 1) := by decide +kernel
theorem dX11_doubled_30 : decode cX11_doubled 30 = .ok (.invokevirtual 194, 3) := by decide +kernel
theorem dX11_doubled_33 : decode cX11_doubled 33 = .ok (.iconst 1, 1) := by decide +kernel
theorem dX11_doubled_34 : decode cX11_doubled 34 = .ok (.istore 4, 2) := by decide +kernel
theorem dX11_doubled_36 : decode cX11_doubled 36 = .ok (.iload 4, 2) := by decide +kernel
theorem dX11_doubled_38 : decode cX11_doubled 38 = .ok (.bipush 100, 2) := by decide +kernel
theorem dX11_doubled_40 : decode cX11_doubled 40 = .ok (.if_icmp .gt 41, 3) := by decide +kernel
theorem dX11_doubled_43 : decode cX11_doubled 43 = .ok (.iload_n 3, 1) := by decide +kernel
theorem dX11_doubled_44 : decode cX11_doubled 44 = .ok (.ifCond .ge 37, 3) := by decide +kernel
theorem dX11_doubled_47 : decode cX11_doubled 47 = .ok (.iload_n 2, 1) := by decide +kernel
theorem dX11_doubled_48 : decode cX11_doubled 48 = .ok (.ifCond .le 33, 3) := by decide +kernel
theorem dX11_doubled_51 : decode cX11_doubled 51 = .ok (.aload_n 0, 1) := by decide +kernel
theorem dX11_doubled_52 : decode cX11_doubled 52 = .ok (.invokevirtual 131, 3) := by decide +kernel
theorem dX11_doubled_55 : decode cX11_doubled 55 = .ok (.aload_n 0, 1) := by decide +kernel
theorem dX11_doubled_56 : decode cX11_doubled 56 = .ok (.getfield 13, 3) := by decide +kernel
theorem dX11_doubled_59 : decode cX11_doubled 59 = .ok (.iload_n 1, 1) := by decide +kernel
theorem dX11_doubled_60 : decode cX11_doubled 60 = .ok (.iaload, 1) := by decide +kernel
theorem dX11_doubled_61 : decode cX11_doubled 61 = .ok (.iconst 2, 1) := by decide +kernel
theorem dX11_doubled_62 : decode cX11_doubled 62 = .ok (.iload_n 2, 1) := by decide +kernel
theorem dX11_doubled_63 : decode cX11_doubled 63 = .ok (.imul, 1) := by decide +kernel
theorem dX11_doubled_64 : decode cX11_doubled 64 = .ok (.if_icmp .lt 8, 3) := by decide +kernel
theorem dX11_doubled_67 : decode cX11_doubled 67 = .ok (.iload 4, 2) := by decide +kernel
theorem dX11_doubled_69 : decode cX11_doubled 69 = .ok (.goto 5, 3) := by decide +kernel
theorem dX11_doubled_72 : decode cX11_doubled 72 = .ok (.bipush (-9), 2) := by decide +kernel
theorem dX11_doubled_74 : decode cX11_doubled 74 = .ok (.istore_n 3, 1) := by decide +kernel
theorem dX11_doubled_75 : decode cX11_doubled 75 = .ok (.iinc 4 1, 3) := by decide +kernel
theorem dX11_doubled_78 : decode cX11_doubled 78 = .ok (.goto (-42), 3) := by decide +kernel
theorem dX11_doubled_81 : decode cX11_doubled 81 = .ok (.aload_n 0, 1) := by decide +kernel
theorem dX11_doubled_82 : decode cX11_doubled 82 = .ok (.invokevirtual 200, 3) := by decide +kernel
theorem dX11_doubled_85 : decode cX11_doubled 85 = .ok (.iload_n 3, 1) := by decide +kernel
theorem dX11_doubled_86 : decode cX11_doubled 86 = .ok (.ireturn, 1) := by decide +kernel
theorem dX11_commonPay_0 : decode cX11_commonPay 0 = .ok (.aload_n 0, 1) := by decide +kernel
theorem dX11_commonPay_1 : decode cX11_commonPay 1 = .ok (.iconst 0, 1) := by decide +kernel
theorem dX11_commonPay_2 : decode cX11_commonPay 2 = .ok (.putfield 83, 3) := by decide +kernel
theorem dX11_commonPay_5 : decode cX11_commonPay 5 = .ok (.iload_n 1, 1) := by decide +kernel
theorem dX11_commonPay_6 : decode cX11_commonPay 6 = .ok (.ifCond .lt 7, 3) := by decide +kernel
theorem dX11_commonPay_9 : decode cX11_commonPay 9 = .ok (.iload_n 2, 1) := by decide +kernel
theorem dX11_commonPay_10 : decode cX11_commonPay 10 = .ok (.ifCond .ge 8, 3) := by decide +kernel
theorem dX11_commonPay_13 : decode cX11_commonPay 13 = .ok (.bipush (-4), 2) := by decide +kernel
theorem dX11_commonPay_15 : decode cX11_commonPay 15 = .ok (.goto 21, 3) := by decide +kernel
theorem dX11_commonPay_18 : decode cX11_commonPay 18 = .ok (.iload_n 1, 1) := by decide +kernel
theorem dX11_commonPay_19 : decode cX11_commonPay 19 = .ok (.bipush 100, 2) := by decide +kernel
theorem dX11_commonPay_21 : decode cX11_commonPay 21 = .ok (.if_icmp .gt 9, 3) := by decide +kernel
theorem dX11_commonPay_24 : decode cX11_commonPay 24 = .ok (.iload_n 2, 1) := by decide +kernel
theorem dX11_commonPay_25 : decode cX11_commonPay 25 = .ok (.ldc 96, 2) := by decide +kernel
theorem dX11_commonPay_27 : decode cX11_commonPay 27 = .ok (.if_icmp .le 8, 3) := by decide +kernel
theorem dX11_commonPay_30 : decode cX11_commonPay 30 = .ok (.bipush (-6), 2) := by decide +kernel
theorem dX11_commonPay_32 : decode cX11_commonPay 32 = .ok (.goto 4, 3) := by decide +kernel
theorem dX11_commonPay_35 : decode cX11_commonPay 35 = .ok (.iconst 0, 1) := by decide +kernel
theorem dX11_commonPay_36 : decode cX11_commonPay 36 = .ok (.istore_n 3, 1) := by decide +kernel
theorem dX11_commonPay_37 : decode cX11_commonPay 37 = .ok (.iload_n 3, 1) := by decide +kernel
theorem dX11_commonPay_38 : decode cX11_commonPay 38 = .ok (.ifCond .ge 9, 3) := by decide +kernel
theorem dX11_commonPay_41 : decode cX11_commonPay 41 = .ok (.aload_n 0, 1) := by decide +kernel
theorem dX11_commonPay_42 : decode cX11_commonPay 42 = .ok (.iload_n 3, 1) := by decide +kernel
theorem dX11_commonPay_43 : decode cX11_commonPay 43 = .ok (.invokevirtual 134, 3) := by decide +kernel
theorem dX11_commonPay_46 : decode cX11_commonPay 46 = .ok (.ireturn, 1) := by decide +kernel
theorem dX11_commonPay_47 : decode cX11_commonPay 47 = .ok (.bipush (-9), 2) := by decide +kernel
theorem dX11_commonPay_49 : decode cX11_commonPay 49 = .ok (.istore 4, 2) := by decide +kernel
theorem dX11_commonPay_51 : decode cX11_commonPay 51 = .ok (.aload_n 0, 1) := by decide +kernel
theorem dX11_commonPay_52 : decode cX11_commonPay 52 = .ok (.invokevirtual 194, 3) := by decide +kernel
theorem dX11_commonPay_55 : decode cX11_commonPay 55 = .ok (.bipush 9, 2) := by decide +kernel
theorem dX11_commonPay_57 : decode cX11_commonPay 57 = .ok (.istore 5, 2) := by decide +kernel
theorem dX11_commonPay_59 : decode cX11_commonPay 59 = .ok (.iload 5, 2) := by decide +kernel
theorem dX11_commonPay_61 : decode cX11_commonPay 61 = .ok (.ifCond .lt 54, 3) := by decide +kernel
theorem dX11_commonPay_64 : decode cX11_commonPay 64 = .ok (.iconst 0, 1) := by decide +kernel
theorem dX11_commonPay_65 : decode cX11_commonPay 65 = .ok (.istore 6, 2) := by decide +kernel
theorem dX11_commonPay_67 : decode cX11_commonPay 67 = .ok (.iload 6, 2) := by decide +kernel
theorem dX11_commonPay_69 : decode cX11_commonPay 69 = .ok (.aload_n 0, 1) := by decide +kernel
theorem dX11_commonPay_70 : decode cX11_commonPay 70 = .ok (.getfield 86, 3) := by decide +kernel
theorem dX11_commonPay_73 : decode cX11_commonPay 73 = .ok (.if_icmp .ge 18, 3) := by decide +kernel
theorem dX11_commonPay_76 : decode cX11_commonPay 76 = .ok (.aload_n 0, 1) := by decide +kernel
theorem dX11_commonPay_77 : decode cX11_commonPay 77 = .ok (.getfield 16, 3) := by decide +kernel
theorem dX11_commonPay_80 : decode cX11_commonPay 80 = .ok (.iload 6, 2) := by decide +kernel
theorem dX11_commonPay_82 : decode cX11_commonPay 82 = .ok (.iload 5, 2) := by decide +kernel
theorem dX11_commonPay_84 : decode cX11_commonPay 84 = .ok (.iastore, 1) := by decide +kernel
theorem dX11_commonPay_85 : decode cX11_commonPay 85 = .ok (.iinc 6 1, 3) := by decide +kernel
theorem dX11_commonPay_88 : decode cX11_commonPay 88 = .ok (.goto (-21), 3) := by decide +kernel
theorem dX11_commonPay_91 : decode cX11_commonPay 91 = .ok (.aload_n 0, 1) := by decide +kernel
theorem dX11_commonPay_92 : decode cX11_commonPay 92 = .ok (.iload_n 1, 1) := by decide +kernel
theorem dX11_commonPay_93 : decode cX11_commonPay 93 = .ok (.invokevirtual 244, 3) := by decide +kernel
theorem dX11_commonPay_96 : decode cX11_commonPay 96 = .ok (.iload_n 2, 1) := by decide +kernel
theorem dX11_commonPay_97 : decode cX11_commonPay 97 = .ok (.if_icmp .gt 8, 3) := by decide +kernel
theorem dX11_commonPay_100 : decode cX11_commonPay 100 = .ok (.iload 5, 2) := by decide +kernel
theorem dX11_commonPay_102 : decode cX11_commonPay 102 = .ok (.goto 5, 3) := by decide +kernel
theorem dX11_commonPay_105 : decode cX11_commonPay 105 = .ok (.iload 4, 2) := by decide +kernel
theorem dX11_commonPay_107 : decode cX11_commonPay 107 = .ok (.istore 4, 2) := by decide +kernel
theorem dX11_commonPay_109 : decode cX11_commonPay 109 = .ok (.iinc 5 (-1), 3) := by decide +kernel
theorem dX11_commonPay_112 : decode cX11_commonPay 112 = .ok (.goto (-53), 3) := by decide +kernel
theorem dX11_commonPay_115 : decode cX11_commonPay 115 = .ok (.iload 4, 2) := by decide +kernel
theorem dX11_commonPay_117 : decode cX11_commonPay 117 = .ok (.ireturn, 1) := by decide +kernel
theorem dX11_bestBirths_0 : decode cX11_bestBirths 0 = .ok (.aload_n 0, 1) := by decide +kernel
theorem dX11_bestBirths_1 : decode cX11_bestBirths 1 = .ok (.iconst 0, 1) := by decide +kernel
theorem dX11_bestBirths_2 : decode cX11_bestBirths 2 = .ok (.putfield 83, 3) := by decide +kernel
theorem dX11_bestBirths_5 : decode cX11_bestBirths 5 = .ok (.aload_n 0, 1) := by decide +kernel
theorem dX11_bestBirths_6 : decode cX11_bestBirths 6 = .ok (.iload_n 1, 1) := by decide +kernel
theorem dX11_bestBirths_7 : decode cX11_bestBirths 7 = .ok (.invokevirtual 188, 3) := by decide +kernel
theorem dX11_bestBirths_10 : decode cX11_bestBirths 10 = .ok (.ifCond .eq 13, 3) := by decide +kernel
theorem dX11_bestBirths_13 : decode cX11_bestBirths 13 = .ok (.iload_n 2, 1) := by decide +kernel
theorem dX11_bestBirths_14 : decode cX11_bestBirths 14 = .ok (.iconst 0, 1) := by decide +kernel
theorem dX11_bestBirths_15 : decode cX11_bestBirths 15 = .ok (.bipush 100, 2) := by decide +kernel
theorem dX11_bestBirths_17 : decode cX11_bestBirths 17 = .ok (.invokestatic 238, 3) := by decide +kernel
theorem dX11_bestBirths_20 : decode cX11_bestBirths 20 = .ok (.goto 4, 3) := by decide +kernel
theorem dX11_bestBirths_23 : decode cX11_bestBirths 23 = .ok (.iconst (-1), 1) := by decide +kernel
theorem dX11_bestBirths_24 : decode cX11_bestBirths 24 = .ok (.istore_n 3, 1) := by decide +kernel
theorem dX11_bestBirths_25 : decode cX11_bestBirths 25 = .ok (.iload_n 3, 1) := by decide +kernel
theorem dX11_bestBirths_26 : decode cX11_bestBirths 26 = .ok (.ifCond .ge 9, 3) := by decide +kernel
theorem dX11_bestBirths_29 : decode cX11_bestBirths 29 = .ok (.aload_n 0, 1) := by decide +kernel
theorem dX11_bestBirths_30 : decode cX11_bestBirths 30 = .ok (.iload_n 3, 1) := by decide +kernel
theorem dX11_bestBirths_31 : decode cX11_bestBirths 31 = .ok (.invokevirtual 134, 3) := by decide +kernel
theorem dX11_bestBirths_34 : decode cX11_bestBirths 34 = .ok (.ireturn, 1) := by decide +kernel
theorem dX11_bestBirths_35 : decode cX11_bestBirths 35 = .ok (.iconst 0, 1) := by decide +kernel
theorem dX11_bestBirths_36 : decode cX11_bestBirths 36 = .ok (.istore 4, 2) := by decide +kernel
theorem dX11_bestBirths_38 : decode cX11_bestBirths 38 = .ok (.ldc_w 271, 3) := by decide +kernel
theorem dX11_bestBirths_41 : decode cX11_bestBirths 41 = .ok (.istore 5, 2) := by decide +kernel
theorem dX11_bestBirths_43 : decode cX11_bestBirths 43 = .ok (.aload_n 0, 1) := by decide +kernel
theorem dX11_bestBirths_44 : decode cX11_bestBirths 44 = .ok (.invokevirtual 194, 3) := by decide +kernel
theorem dX11_bestBirths_47 : decode cX11_bestBirths 47 = .ok (.iconst 0, 1) := by decide +kernel
theorem dX11_bestBirths_48 : decode cX11_bestBirths 48 = .ok (.istore 6, 2) := by decide +kernel
theorem dX11_bestBirths_50 : decode cX11_bestBirths 50 = .ok (.iload 6, 2) := by decide +kernel
theorem dX11_bestBirths_52 : decode cX11_bestBirths 52 = .ok (.bipush 9, 2) := by decide +kernel
theorem dX11_bestBirths_54 : decode cX11_bestBirths 54 = .ok (.if_icmp .gt 65, 3) := by decide +kernel
theorem dX11_bestBirths_57 : decode cX11_bestBirths 57 = .ok (.aload_n 0, 1) := by decide +kernel
theorem dX11_bestBirths_58 : decode cX11_bestBirths 58 = .ok (.getfield 19, 3) := by decide +kernel
theorem dX11_bestBirths_61 : decode cX11_bestBirths 61 = .ok (.iload_n 1, 1) := by decide +kernel
theorem dX11_bestBirths_62 : decode cX11_bestBirths 62 = .ok (.iload 6, 2) := by decide +kernel
theorem dX11_bestBirths_64 : decode cX11_bestBirths 64 = .ok (.iastore, 1) := by decide +kernel
theorem dX11_bestBirths_65 : decode cX11_bestBirths 65 = .ok (.aload_n 0, 1) := by decide +kernel
theorem dX11_bestBirths_66 : decode cX11_bestBirths 66 = .ok (.iload_n 2, 1) := by decide +kernel
theorem dX11_bestBirths_67 : decode cX11_bestBirths 67 = .ok (.invokevirtual 185, 3) := by decide +kernel
theorem dX11_bestBirths_70 : decode cX11_bestBirths 70 = .ok (.aload_n 0, 1) := by decide +kernel
theorem dX11_bestBirths_71 : decode cX11_bestBirths 71 = .ok (.iload_n 1, 1) := by decide +kernel
theorem dX11_bestBirths_72 : decode cX11_bestBirths 72 = .ok (.invokevirtual 227, 3) := by decide +kernel
theorem dX11_bestBirths_75 : decode cX11_bestBirths 75 = .ok (.istore 7, 2) := by decide +kernel
theorem dX11_bestBirths_77 : decode cX11_bestBirths 77 = .ok (.aload_n 0, 1) := by decide +kernel
theorem dX11_bestBirths_78 : decode cX11_bestBirths 78 = .ok (.invokevirtual 200, 3) := by decide +kernel
theorem dX11_bestBirths_81 : decode cX11_bestBirths 81 = .ok (.iload 7, 2) := by decide +kernel
theorem dX11_bestBirths_83 : decode cX11_bestBirths 83 = .ok (.iload 5, 2) := by decide +kernel
theorem dX11_bestBirths_85 : decode cX11_bestBirths 85 = .ok (.if_icmp .ge 8, 3) := by decide +kernel
theorem dX11_bestBirths_88 : decode cX11_bestBirths 88 = .ok (.iload 6, 2) := by decide +kernel
theorem dX11_bestBirths_90 : decode cX11_bestBirths 90 = .ok (.goto 5, 3) := by decide +kernel
theorem dX11_bestBirths_93 : decode cX11_bestBirths 93 = .ok (.iload 4, 2) := by decide +kernel
theorem dX11_bestBirths_95 : decode cX11_bestBirths 95 = .ok (.istore 4, 2) := by decide +kernel
theorem dX11_bestBirths_97 : decode cX11_bestBirths 97 = .ok (.iload 7, 2) := by decide +kernel
theorem dX11_bestBirths_99 : decode cX11_bestBirths 99 = .ok (.iload 5, 2) := by decide +kernel
theorem dX11_bestBirths_101 : decode cX11_bestBirths 101 = .ok (.if_icmp .ge 8, 3) := by decide +kernel
theorem dX11_bestBirths_104 : decode cX11_bestBirths 104 = .ok (.iload 7, 2) := by decide +kernel
theorem dX11_bestBirths_106 : decode cX11_bestBirths 106 = .ok (.goto 5, 3) := by decide +kernel
theorem dX11_bestBirths_109 : decode cX11_bestBirths 109 = .ok (.iload 5, 2) := by decide +kernel
theorem dX11_bestBirths_111 : decode cX11_bestBirths 111 = .ok (.istore 5, 2) := by decide +kernel
theorem dX11_bestBirths_113 : decode cX11_bestBirths 113 = .ok (.iinc 6 1, 3) := by decide +kernel
theorem dX11_bestBirths_116 : decode cX11_bestBirths 116 = .ok (.goto (-66), 3) := by decide +kernel
theorem dX11_bestBirths_119 : decode cX11_bestBirths 119 = .ok (.iload 4, 2) := by decide +kernel
theorem dX11_bestBirths_121 : decode cX11_bestBirths 121 = .ok (.ireturn, 1) := by decide +kernel
theorem dX11_lump_0 : decode cX11_lump 0 = .ok (.aload_n 0, 1) := by decide +kernel
theorem dX11_lump_1 : decode cX11_lump 1 = .ok (.iconst 0, 1) := by decide +kernel
theorem dX11_lump_2 : decode cX11_lump 2 = .ok (.putfield 83, 3) := by decide +kernel
theorem dX11_lump_5 : decode cX11_lump 5 = .ok (.aload_n 0, 1) := by decide +kernel
theorem dX11_lump_6 : decode cX11_lump 6 = .ok (.iload_n 1, 1) := by decide +kernel
theorem dX11_lump_7 : decode cX11_lump 7 = .ok (.invokevirtual 188, 3) := by decide +kernel
theorem dX11_lump_10 : decode cX11_lump 10 = .ok (.ifCond .eq 14, 3) := by decide +kernel
theorem dX11_lump_13 : decode cX11_lump 13 = .ok (.iload_n 2, 1) := by decide +kernel
theorem dX11_lump_14 : decode cX11_lump 14 = .ok (.iconst 0, 1) := by decide +kernel
theorem dX11_lump_15 : decode cX11_lump 15 = .ok (.sipush 9999, 3) := by decide +kernel
theorem dX11_lump_18 : decode cX11_lump 18 = .ok (.invokestatic 238, 3) := by decide +kernel
theorem dX11_lump_21 : decode cX11_lump 21 = .ok (.goto 4, 3) := by decide +kernel
theorem dX11_lump_24 : decode cX11_lump 24 = .ok (.iconst (-1), 1) := by decide +kernel
theorem dX11_lump_25 : decode cX11_lump 25 = .ok (.istore_n 3, 1) := by decide +kernel
theorem dX11_lump_26 : decode cX11_lump 26 = .ok (.iload_n 3, 1) := by decide +kernel
theorem dX11_lump_27 : decode cX11_lump 27 = .ok (.ifCond .ge 9, 3) := by decide +kernel
theorem dX11_lump_30 : decode cX11_lump 30 = .ok (.aload_n 0, 1) := by decide +kernel
theorem dX11_lump_31 : decode cX11_lump 31 = .ok (.iload_n 3, 1) := by decide +kernel
theorem dX11_lump_32 : decode cX11_lump 32 = .ok (.invokevirtual 134, 3) := by decide +kernel
theorem dX11_lump_35 : decode cX11_lump 35 = .ok (.ireturn, 1) := by decide +kernel
theorem dX11_lump_36 : decode cX11_lump 36 = .ok (.iconst 0, 1) := by decide +kernel
theorem dX11_lump_37 : decode cX11_lump 37 = .ok (.istore 4, 2) := by decide +kernel
theorem dX11_lump_39 : decode cX11_lump 39 = .ok (.aload_n 0, 1) := by decide +kernel
theorem dX11_lump_40 : decode cX11_lump 40 = .ok (.invokevirtual 194, 3) := by decide +kernel
theorem dX11_lump_43 : decode cX11_lump 43 = .ok (.iload 4, 2) := by decide +kernel
theorem dX11_lump_45 : decode cX11_lump 45 = .ok (.bipush 100, 2) := by decide +kernel
theorem dX11_lump_47 : decode cX11_lump 47 = .ok (.if_icmp .gt 42, 3) := by decide +kernel
theorem dX11_lump_50 : decode cX11_lump 50 = .ok (.aload_n 0, 1) := by decide +kernel
theorem dX11_lump_51 : decode cX11_lump 51 = .ok (.getfield 13, 3) := by decide +kernel
theorem dX11_lump_54 : decode cX11_lump 54 = .ok (.iload_n 1, 1) := by decide +kernel
theorem dX11_lump_55 : decode cX11_lump 55 = .ok (.iaload, 1) := by decide +kernel
theorem dX11_lump_56 : decode cX11_lump 56 = .ok (.ifCond .le 33, 3) := by decide +kernel
theorem dX11_lump_59 : decode cX11_lump 59 = .ok (.aload_n 0, 1) := by decide +kernel
theorem dX11_lump_60 : decode cX11_lump 60 = .ok (.invokevirtual 131, 3) := by decide +kernel
theorem dX11_lump_63 : decode cX11_lump 63 = .ok (.aload_n 0, 1) := by decide +kernel
theorem dX11_lump_64 : decode cX11_lump 64 = .ok (.getfield 13, 3) := by decide +kernel
theorem dX11_lump_67 : decode cX11_lump 67 = .ok (.iload_n 1, 1) := by decide +kernel
theorem dX11_lump_68 : decode cX11_lump 68 = .ok (.aload_n 0, 1) := by decide +kernel
theorem dX11_lump_69 : decode cX11_lump 69 = .ok (.getfield 13, 3) := by decide +kernel
theorem dX11_lump_72 : decode cX11_lump 72 = .ok (.iload_n 1, 1) := by decide +kernel
theorem dX11_lump_73 : decode cX11_lump 73 = .ok (.iaload, 1) := by decide +kernel
theorem dX11_lump_74 : decode cX11_lump 74 = .ok (.iload_n 2, 1) := by decide +kernel
theorem dX11_lump_75 : decode cX11_lump 75 = .ok (.isub, 1) := by decide +kernel
theorem dX11_lump_76 : decode cX11_lump 76 = .ok (.iconst 0, 1) := by decide +kernel
theorem dX11_lump_77 : decode cX11_lump 77 = .ok (.ldc 96, 2) := by decide +kernel
theorem dX11_lump_79 : decode cX11_lump 79 = .ok (.invokestatic 97, 3) := by decide +kernel
theorem dX11_lump_82 : decode cX11_lump 82 = .ok (.iastore, 1) := by decide +kernel
theorem dX11_lump_83 : decode cX11_lump 83 = .ok (.iinc 4 1, 3) := by decide +kernel
theorem dX11_lump_86 : decode cX11_lump 86 = .ok (.goto (-43), 3) := by decide +kernel
theorem dX11_lump_89 : decode cX11_lump 89 = .ok (.aload_n 0, 1) := by decide +kernel
theorem dX11_lump_90 : decode cX11_lump 90 = .ok (.invokevirtual 200, 3) := by decide +kernel
theorem dX11_lump_93 : decode cX11_lump 93 = .ok (.iload 4, 2) := by decide +kernel
theorem dX11_lump_95 : decode cX11_lump 95 = .ok (.bipush 100, 2) := by decide +kernel
theorem dX11_lump_97 : decode cX11_lump 97 = .ok (.if_icmp .le 8, 3) := by decide +kernel
theorem dX11_lump_100 : decode cX11_lump 100 = .ok (.bipush (-9), 2) := by decide +kernel
theorem dX11_lump_102 : decode cX11_lump 102 = .ok (.goto 5, 3) := by decide +kernel
theorem dX11_lump_105 : decode cX11_lump 105 = .ok (.iload 4, 2) := by decide +kernel
theorem dX11_lump_107 : decode cX11_lump 107 = .ok (.ireturn, 1) := by decide +kernel
theorem dX11_crosses_0 : decode cX11_crosses 0 = .ok (.aload_n 0, 1) := by decide +kernel
theorem dX11_crosses_1 : decode cX11_crosses 1 = .ok (.iconst 0, 1) := by decide +kernel
theorem dX11_crosses_2 : decode cX11_crosses 2 = .ok (.putfield 83, 3) := by decide +kernel
theorem dX11_crosses_5 : decode cX11_crosses 5 = .ok (.aload_n 0, 1) := by decide +kernel
theorem dX11_crosses_6 : decode cX11_crosses 6 = .ok (.iload_n 1, 1) := by decide +kernel
theorem dX11_crosses_7 : decode cX11_crosses 7 = .ok (.invokevirtual 188, 3) := by decide +kernel
theorem dX11_crosses_10 : decode cX11_crosses 10 = .ok (.ifCond .eq 16, 3) := by decide +kernel
theorem dX11_crosses_13 : decode cX11_crosses 13 = .ok (.aload_n 0, 1) := by decide +kernel
theorem dX11_crosses_14 : decode cX11_crosses 14 = .ok (.iload_n 2, 1) := by decide +kernel
theorem dX11_crosses_15 : decode cX11_crosses 15 = .ok (.invokevirtual 188, 3) := by decide +kernel
theorem dX11_crosses_18 : decode cX11_crosses 18 = .ok (.ifCond .eq 8, 3) := by decide +kernel
theorem dX11_crosses_21 : decode cX11_crosses 21 = .ok (.iload_n 1, 1) := by decide +kernel
theorem dX11_crosses_22 : decode cX11_crosses 22 = .ok (.iload_n 2, 1) := by decide +kernel
theorem dX11_crosses_23 : decode cX11_crosses 23 = .ok (.if_icmp .ne 9, 3) := by decide +kernel
theorem dX11_crosses_26 : decode cX11_crosses 26 = .ok (.aload_n 0, 1) := by decide +kernel
theorem dX11_crosses_27 : decode cX11_crosses 27 = .ok (.iconst (-1), 1) := by decide +kernel
theorem dX11_crosses_28 : decode cX11_crosses 28 = .ok (.invokevirtual 134, 3) := by decide +kernel
theorem dX11_crosses_31 : decode cX11_crosses 31 = .ok (.ireturn, 1) := by decide +kernel
theorem dX11_crosses_32 : decode cX11_crosses 32 = .ok (.bipush (-9), 2) := by decide +kernel
theorem dX11_crosses_34 : decode cX11_crosses 34 = .ok (.istore_n 3, 1) := by decide +kernel
theorem dX11_crosses_35 : decode cX11_crosses 35 = .ok (.aload_n 0, 1) := by decide +kernel
theorem dX11_crosses_36 : decode cX11_crosses 36 = .ok (.invokevirtual 194, 3) := by decide +kernel
theorem dX11_crosses_39 : decode cX11_crosses 39 = .ok (.iconst 0, 1) := by decide +kernel
theorem dX11_crosses_40 : decode cX11_crosses 40 = .ok (.istore 4, 2) := by decide +kernel
theorem dX11_crosses_42 : decode cX11_crosses 42 = .ok (.iload 4, 2) := by decide +kernel
theorem dX11_crosses_44 : decode cX11_crosses 44 = .ok (.bipush 100, 2) := by decide +kernel
theorem dX11_crosses_46 : decode cX11_crosses 46 = .ok (.if_icmp .gt 38, 3) := by decide +kernel
theorem dX11_crosses_49 : decode cX11_crosses 49 = .ok (.iload_n 3, 1) := by decide +kernel
theorem dX11_crosses_50 : decode cX11_crosses 50 = .ok (.ifCond .ge 34, 3) := by decide +kernel
theorem dX11_crosses_53 : decode cX11_crosses 53 = .ok (.aload_n 0, 1) := by decide +kernel
theorem dX11_crosses_54 : decode cX11_crosses 54 = .ok (.iload_n 1, 1) := by decide +kernel
theorem dX11_crosses_55 : decode cX11_crosses 55 = .ok (.invokevirtual 227, 3) := by decide +kernel
theorem dX11_crosses_58 : decode cX11_crosses 58 = .ok (.aload_n 0, 1) := by decide +kernel
theorem dX11_crosses_59 : decode cX11_crosses 59 = .ok (.iload_n 2, 1) := by decide +kernel
theorem dX11_crosses_60 : decode cX11_crosses 60 = .ok (.invokevirtual 227, 3) := by decide +kernel
theorem dX11_crosses_63 : decode cX11_crosses 63 = .ok (.if_icmp .ge 8, 3) := by decide +kernel
theorem dX11_crosses_66 : decode cX11_crosses 66 = .ok (.iload 4, 2) := by decide +kernel
theorem dX11_crosses_68 : decode cX11_crosses 68 = .ok (.goto 5, 3) := by decide +kernel
theorem dX11_crosses_71 : decode cX11_crosses 71 = .ok (.bipush (-9), 2) := by decide +kernel
theorem dX11_crosses_73 : decode cX11_crosses 73 = .ok (.istore_n 3, 1) := by decide +kernel
theorem dX11_crosses_74 : decode cX11_crosses 74 = .ok (.aload_n 0, 1) := by decide +kernel
theorem dX11_crosses_75 : decode cX11_crosses 75 = .ok (.invokevirtual 131, 3) := by decide +kernel
theorem dX11_crosses_78 : decode cX11_crosses 78 = .ok (.iinc 4 1, 3) := by decide +kernel
theorem dX11_crosses_81 : decode cX11_crosses 81 = .ok (.goto (-39), 3) := by decide +kernel
theorem dX11_crosses_84 : decode cX11_crosses 84 = .ok (.aload_n 0, 1) := by decide +kernel
theorem dX11_crosses_85 : decode cX11_crosses 85 = .ok (.invokevirtual 200, 3) := by decide +kernel
theorem dX11_crosses_88 : decode cX11_crosses 88 = .ok (.iload_n 3, 1) := by decide +kernel
theorem dX11_crosses_89 : decode cX11_crosses 89 = .ok (.ireturn, 1) := by decide +kernel
theorem dX11_heir_0 : decode cX11_heir 0 = .ok (.aload_n 0, 1) := by decide +kernel
theorem dX11_heir_1 : decode cX11_heir 1 = .ok (.iconst 0, 1) := by decide +kernel
theorem dX11_heir_2 : decode cX11_heir 2 = .ok (.putfield 83, 3) := by decide +kernel
theorem dX11_heir_5 : decode cX11_heir 5 = .ok (.aload_n 0, 1) := by decide +kernel
theorem dX11_heir_6 : decode cX11_heir 6 = .ok (.iload_n 1, 1) := by decide +kernel
theorem dX11_heir_7 : decode cX11_heir 7 = .ok (.invokevirtual 188, 3) := by decide +kernel
theorem dX11_heir_10 : decode cX11_heir 10 = .ok (.ifCond .ne 9, 3) := by decide +kernel
theorem dX11_heir_13 : decode cX11_heir 13 = .ok (.aload_n 0, 1) := by decide +kernel
theorem dX11_heir_14 : decode cX11_heir 14 = .ok (.iconst (-1), 1) := by decide +kernel
theorem dX11_heir_15 : decode cX11_heir 15 = .ok (.invokevirtual 134, 3) := by decide +kernel
theorem dX11_heir_18 : decode cX11_heir 18 = .ok (.ireturn, 1) := by decide +kernel
theorem dX11_heir_19 : decode cX11_heir 19 = .ok (.aload_n 0, 1) := by decide +kernel
theorem dX11_heir_20 : decode cX11_heir 20 = .ok (.invokevirtual 292, 3) := by decide +kernel
theorem dX11_heir_23 : decode cX11_heir 23 = .ok (.aload_n 0, 1) := by decide +kernel
theorem dX11_heir_24 : decode cX11_heir 24 = .ok (.getfield 7, 3) := by decide +kernel
theorem dX11_heir_27 : decode cX11_heir 27 = .ok (.iload_n 1, 1) := by decide +kernel
theorem dX11_heir_28 : decode cX11_heir 28 = .ok (.iaload, 1) := by decide +kernel
theorem dX11_heir_29 : decode cX11_heir 29 = .ok (.isub, 1) := by decide +kernel
theorem dX11_heir_30 : decode cX11_heir 30 = .ok (.istore_n 2, 1) := by decide +kernel
theorem dX11_heir_31 : decode cX11_heir 31 = .ok (.iload_n 2, 1) := by decide +kernel
theorem dX11_heir_32 : decode cX11_heir 32 = .ok (.ifCond .ne 6, 3) := by decide +kernel
theorem dX11_heir_35 : decode cX11_heir 35 = .ok (.bipush (-9), 2) := by decide +kernel
theorem dX11_heir_37 : decode cX11_heir 37 = .ok (.ireturn, 1) := by decide +kernel
theorem dX11_heir_38 : decode cX11_heir 38 = .ok (.aload_n 0, 1) := by decide +kernel
theorem dX11_heir_39 : decode cX11_heir 39 = .ok (.getfield 13, 3) := by decide +kernel
theorem dX11_heir_42 : decode cX11_heir 42 = .ok (.iload_n 1, 1) := by decide +kernel
theorem dX11_heir_43 : decode cX11_heir 43 = .ok (.iaload, 1) := by decide +kernel
theorem dX11_heir_44 : decode cX11_heir 44 = .ok (.istore_n 3, 1) := by decide +kernel
theorem dX11_heir_45 : decode cX11_heir 45 = .ok (.iconst 0, 1) := by decide +kernel
theorem dX11_heir_46 : decode cX11_heir 46 = .ok (.istore 4, 2) := by decide +kernel
theorem dX11_heir_48 : decode cX11_heir 48 = .ok (.iload 4, 2) := by decide +kernel
theorem dX11_heir_50 : decode cX11_heir 50 = .ok (.aload_n 0, 1) := by decide +kernel
theorem dX11_heir_51 : decode cX11_heir 51 = .ok (.getfield 86, 3) := by decide +kernel
theorem dX11_heir_54 : decode cX11_heir 54 = .ok (.if_icmp .ge 56, 3) := by decide +kernel
theorem dX11_heir_57 : decode cX11_heir 57 = .ok (.aload_n 0, 1) := by decide +kernel
theorem dX11_heir_58 : decode cX11_heir 58 = .ok (.getfield 41, 3) := by decide +kernel
theorem dX11_heir_61 : decode cX11_heir 61 = .ok (.iload 4, 2) := by decide +kernel
theorem dX11_heir_63 : decode cX11_heir 63 = .ok (.iload 4, 2) := by decide +kernel
theorem dX11_heir_65 : decode cX11_heir 65 = .ok (.iload_n 1, 1) := by decide +kernel
theorem dX11_heir_66 : decode cX11_heir 66 = .ok (.if_icmp .ne 7, 3) := by decide +kernel
theorem dX11_heir_69 : decode cX11_heir 69 = .ok (.iconst 0, 1) := by decide +kernel
theorem dX11_heir_70 : decode cX11_heir 70 = .ok (.goto 23, 3) := by decide +kernel
theorem dX11_heir_73 : decode cX11_heir 73 = .ok (.aload_n 0, 1) := by decide +kernel
theorem dX11_heir_74 : decode cX11_heir 74 = .ok (.getfield 13, 3) := by decide +kernel
theorem dX11_heir_77 : decode cX11_heir 77 = .ok (.iload_n 1, 1) := by decide +kernel
theorem dX11_heir_78 : decode cX11_heir 78 = .ok (.iaload, 1) := by decide +kernel
theorem dX11_heir_79 : decode cX11_heir 79 = .ok (.i2l, 1) := by decide +kernel
theorem dX11_heir_80 : decode cX11_heir 80 = .ok (.aload_n 0, 1) := by decide +kernel
theorem dX11_heir_81 : decode cX11_heir 81 = .ok (.getfield 7, 3) := by decide +kernel
theorem dX11_heir_84 : decode cX11_heir 84 = .ok (.iload 4, 2) := by decide +kernel
theorem dX11_heir_86 : decode cX11_heir 86 = .ok (.iaload, 1) := by decide +kernel
theorem dX11_heir_87 : decode cX11_heir 87 = .ok (.i2l, 1) := by decide +kernel
theorem dX11_heir_88 : decode cX11_heir 88 = .ok (.lmul, 1) := by decide +kernel
theorem dX11_heir_89 : decode cX11_heir 89 = .ok (.iload_n 2, 1) := by decide +kernel
theorem dX11_heir_90 : decode cX11_heir 90 = .ok (.i2l, 1) := by decide +kernel
theorem dX11_heir_91 : decode cX11_heir 91 = .ok (.ldiv, 1) := by decide +kernel
theorem dX11_heir_92 : decode cX11_heir 92 = .ok (.l2i, 1) := by decide +kernel
theorem dX11_heir_93 : decode cX11_heir 93 = .ok (.iastore, 1) := by decide +kernel
theorem dX11_heir_94 : decode cX11_heir 94 = .ok (.iload_n 3, 1) := by decide +kernel
theorem dX11_heir_95 : decode cX11_heir 95 = .ok (.aload_n 0, 1) := by decide +kernel
theorem dX11_heir_96 : decode cX11_heir 96 = .ok (.getfield 41, 3) := by decide +kernel
theorem dX11_heir_99 : decode cX11_heir 99 = .ok (.iload 4, 2) := by decide +kernel
theorem dX11_heir_101 : decode cX11_heir 101 = .ok (.iaload, 1) := by decide +kernel
theorem dX11_heir_102 : decode cX11_heir 102 = .ok (.isub, 1) := by decide +kernel
theorem dX11_heir_103 : decode cX11_heir 103 = .ok (.istore_n 3, 1) := by decide +kernel
theorem dX11_heir_104 : decode cX11_heir 104 = .ok (.iinc 4 1, 3) := by decide +kernel
theorem dX11_heir_107 : decode cX11_heir 107 = .ok (.goto (-59), 3) := by decide +kernel
theorem dX11_heir_110 : decode cX11_heir 110 = .ok (.iconst 0, 1) := by decide +kernel
theorem dX11_heir_111 : decode cX11_heir 111 = .ok (.istore 4, 2) := by decide +kernel
theorem dX11_heir_113 : decode cX11_heir 113 = .ok (.iconst 0, 1) := by decide +kernel
theorem dX11_heir_114 : decode cX11_heir 114 = .ok (.istore 5, 2) := by decide +kernel
theorem dX11_heir_116 : decode cX11_heir 116 = .ok (.iload 5, 2) := by decide +kernel
theorem dX11_heir_118 : decode cX11_heir 118 = .ok (.aload_n 0, 1) := by decide +kernel
theorem dX11_heir_119 : decode cX11_heir 119 = .ok (.getfield 86, 3) := by decide +kernel
theorem dX11_heir_122 : decode cX11_heir 122 = .ok (.if_icmp .ge 101, 3) := by decide +kernel
theorem dX11_heir_125 : decode cX11_heir 125 = .ok (.iload 5, 2) := by decide +kernel
theorem dX11_heir_127 : decode cX11_heir 127 = .ok (.iload_n 1, 1) := by decide +kernel
theorem dX11_heir_128 : decode cX11_heir 128 = .ok (.if_icmp .eq 11, 3) := by decide +kernel
theorem dX11_heir_131 : decode cX11_heir 131 = .ok (.iload_n 3, 1) := by decide +kernel
theorem dX11_heir_132 : decode cX11_heir 132 = .ok (.ifCond .le 7, 3) := by decide +kernel
theorem dX11_heir_135 : decode cX11_heir 135 = .ok (.iconst 1, 1) := by decide +kernel
theorem dX11_heir_136 : decode cX11_heir 136 = .ok (.goto 4, 3) := by decide +kernel
theorem dX11_heir_139 : decode cX11_heir 139 = .ok (.iconst 0, 1) := by decide +kernel
theorem dX11_heir_140 : decode cX11_heir 140 = .ok (.istore 6, 2) := by decide +kernel
theorem dX11_heir_142 : decode cX11_heir 142 = .ok (.iload_n 3, 1) := by decide +kernel
theorem dX11_heir_143 : decode cX11_heir 143 = .ok (.iload 6, 2) := by decide +kernel
theorem dX11_heir_145 : decode cX11_heir 145 = .ok (.isub, 1) := by decide +kernel
theorem dX11_heir_146 : decode cX11_heir 146 = .ok (.istore_n 3, 1) := by decide +kernel
theorem dX11_heir_147 : decode cX11_heir 147 = .ok (.aload_n 0, 1) := by decide +kernel
theorem dX11_heir_148 : decode cX11_heir 148 = .ok (.getfield 13, 3) := by decide +kernel
theorem dX11_heir_151 : decode cX11_heir 151 = .ok (.iload 5, 2) := by decide +kernel
theorem dX11_heir_153 : decode cX11_heir 153 = .ok (.iaload, 1) := by decide +kernel
theorem dX11_heir_154 : decode cX11_heir 154 = .ok (.aload_n 0, 1) := by decide +kernel
theorem dX11_heir_155 : decode cX11_heir 155 = .ok (.getfield 41, 3) := by decide +kernel
theorem dX11_heir_158 : decode cX11_heir 158 = .ok (.iload 5, 2) := by decide +kernel
theorem dX11_heir_160 : decode cX11_heir 160 = .ok (.iaload, 1) := by decide +kernel
theorem dX11_heir_161 : decode cX11_heir 161 = .ok (.iadd, 1) := by decide +kernel
theorem dX11_heir_162 : decode cX11_heir 162 = .ok (.iload 6, 2) := by decide +kernel
theorem dX11_heir_164 : decode cX11_heir 164 = .ok (.iadd, 1) := by decide +kernel
theorem dX11_heir_165 : decode cX11_heir 165 = .ok (.iconst 0, 1) := by decide +kernel
theorem dX11_heir_166 : decode cX11_heir 166 = .ok (.ldc 96, 2) := by decide +kernel
theorem dX11_heir_168 : decode cX11_heir 168 = .ok (.invokestatic 97, 3) := by decide +kernel
theorem dX11_heir_171 : decode cX11_heir 171 = .ok (.istore 7, 2) := by decide +kernel
theorem dX11_heir_173 : decode cX11_heir 173 = .ok (.iload 7, 2) := by decide +kernel
theorem dX11_heir_175 : decode cX11_heir 175 = .ok (.aload_n 0, 1) := by decide +kernel
theorem dX11_heir_176 : decode cX11_heir 176 = .ok (.getfield 7, 3) := by decide +kernel
theorem dX11_heir_179 : decode cX11_heir 179 = .ok (.iload 5, 2) := by decide +kernel
theorem dX11_heir_181 : decode cX11_heir 181 = .ok (.iaload, 1) := by decide +kernel
theorem dX11_heir_182 : decode cX11_heir 182 = .ok (.iadd, 1) := by decide +kernel
theorem dX11_heir_183 : decode cX11_heir 183 = .ok (.iconst 1, 1) := by decide +kernel
theorem dX11_heir_184 : decode cX11_heir 184 = .ok (.isub, 1) := by decide +kernel
theorem dX11_heir_185 : decode cX11_heir 185 = .ok (.aload_n 0, 1) := by decide +kernel
theorem dX11_heir_186 : decode cX11_heir 186 = .ok (.getfield 7, 3) := by decide +kernel
theorem dX11_heir_189 : decode cX11_heir 189 = .ok (.iload 5, 2) := by decide +kernel
theorem dX11_heir_191 : decode cX11_heir 191 = .ok (.iaload, 1) := by decide +kernel
theorem dX11_heir_192 : decode cX11_heir 192 = .ok (.idiv, 1) := by decide +kernel
theorem dX11_heir_193 : decode cX11_heir 193 = .ok (.istore 8, 2) := by decide +kernel
theorem dX11_heir_195 : decode cX11_heir 195 = .ok (.iload 5, 2) := by decide +kernel
theorem dX11_heir_197 : decode cX11_heir 197 = .ok (.iload_n 1, 1) := by decide +kernel
theorem dX11_heir_198 : decode cX11_heir 198 = .ok (.if_icmp .eq 15, 3) := by decide +kernel
theorem dX11_heir_201 : decode cX11_heir 201 = .ok (.iload 8, 2) := by decide +kernel
theorem dX11_heir_203 : decode cX11_heir 203 = .ok (.iload 4, 2) := by decide +kernel
theorem dX11_heir_205 : decode cX11_heir 205 = .ok (.if_icmp .le 8, 3) := by decide +kernel
theorem dX11_heir_208 : decode cX11_heir 208 = .ok (.iload 8, 2) := by decide +kernel
theorem dX11_heir_210 : decode cX11_heir 210 = .ok (.goto 5, 3) := by decide +kernel
theorem dX11_heir_213 : decode cX11_heir 213 = .ok (.iload 4, 2) := by decide +kernel
theorem dX11_heir_215 : decode cX11_heir 215 = .ok (.istore 4, 2) := by decide +kernel
theorem dX11_heir_217 : decode cX11_heir 217 = .ok (.iinc 5 1, 3) := by decide +kernel
theorem dX11_heir_220 : decode cX11_heir 220 = .ok (.goto (-104), 3) := by decide +kernel
theorem dX11_heir_223 : decode cX11_heir 223 = .ok (.iload 4, 2) := by decide +kernel
theorem dX11_heir_225 : decode cX11_heir 225 = .ok (.ireturn, 1) := by decide +kernel
theorem dX11_rank_0 : decode cX11_rank 0 = .ok (.aload_n 0, 1) := by decide +kernel
theorem dX11_rank_1 : decode cX11_rank 1 = .ok (.iconst 0, 1) := by decide +kernel
theorem dX11_rank_2 : decode cX11_rank 2 = .ok (.putfield 83, 3) := by decide +kernel
theorem dX11_rank_5 : decode cX11_rank 5 = .ok (.iload_n 1, 1) := by decide +kernel
theorem dX11_rank_6 : decode cX11_rank 6 = .ok (.ifCond .ge 10, 3) := by decide +kernel
theorem dX11_rank_9 : decode cX11_rank 9 = .ok (.aload_n 0, 1) := by decide +kernel
theorem dX11_rank_10 : decode cX11_rank 10 = .ok (.bipush (-4), 2) := by decide +kernel
theorem dX11_rank_12 : decode cX11_rank 12 = .ok (.invokevirtual 134, 3) := by decide +kernel
theorem dX11_rank_15 : decode cX11_rank 15 = .ok (.ireturn, 1) := by decide +kernel
theorem dX11_rank_16 : decode cX11_rank 16 = .ok (.iconst 0, 1) := by decide +kernel
theorem dX11_rank_17 : decode cX11_rank 17 = .ok (.istore_n 2, 1) := by decide +kernel
theorem dX11_rank_18 : decode cX11_rank 18 = .ok (.iload_n 2, 1) := by decide +kernel
theorem dX11_rank_19 : decode cX11_rank 19 = .ok (.aload_n 0, 1) := by decide +kernel
theorem dX11_rank_20 : decode cX11_rank 20 = .ok (.getfield 86, 3) := by decide +kernel
theorem dX11_rank_23 : decode cX11_rank 23 = .ok (.if_icmp .ge 78, 3) := by decide +kernel
theorem dX11_rank_26 : decode cX11_rank 26 = .ok (.iconst 0, 1) := by decide +kernel
theorem dX11_rank_27 : decode cX11_rank 27 = .ok (.istore_n 3, 1) := by decide +kernel
theorem dX11_rank_28 : decode cX11_rank 28 = .ok (.iconst 0, 1) := by decide +kernel
theorem dX11_rank_29 : decode cX11_rank 29 = .ok (.istore 4, 2) := by decide +kernel
theorem dX11_rank_31 : decode cX11_rank 31 = .ok (.iload 4, 2) := by decide +kernel
theorem dX11_rank_33 : decode cX11_rank 33 = .ok (.aload_n 0, 1) := by decide +kernel
theorem dX11_rank_34 : decode cX11_rank 34 = .ok (.getfield 86, 3) := by decide +kernel
theorem dX11_rank_37 : decode cX11_rank 37 = .ok (.if_icmp .ge 51, 3) := by decide +kernel
theorem dX11_rank_40 : decode cX11_rank 40 = .ok (.iload_n 3, 1) := by decide +kernel
theorem dX11_rank_41 : decode cX11_rank 41 = .ok (.aload_n 0, 1) := by decide +kernel
theorem dX11_rank_42 : decode cX11_rank 42 = .ok (.iload 4, 2) := by decide +kernel
theorem dX11_rank_44 : decode cX11_rank 44 = .ok (.invokevirtual 227, 3) := by decide +kernel
theorem dX11_rank_47 : decode cX11_rank 47 = .ok (.aload_n 0, 1) := by decide +kernel
theorem dX11_rank_48 : decode cX11_rank 48 = .ok (.iload_n 2, 1) := by decide +kernel
theorem dX11_rank_49 : decode cX11_rank 49 = .ok (.invokevirtual 227, 3) := by decide +kernel
theorem dX11_rank_52 : decode cX11_rank 52 = .ok (.if_icmp .gt 23, 3) := by decide +kernel
theorem dX11_rank_55 : decode cX11_rank 55 = .ok (.aload_n 0, 1) := by decide +kernel
theorem dX11_rank_56 : decode cX11_rank 56 = .ok (.iload 4, 2) := by decide +kernel
theorem dX11_rank_58 : decode cX11_rank 58 = .ok (.invokevirtual 227, 3) := by decide +kernel
theorem dX11_rank_61 : decode cX11_rank 61 = .ok (.aload_n 0, 1) := by decide +kernel
theorem dX11_rank_62 : decode cX11_rank 62 = .ok (.iload_n 2, 1) := by decide +kernel
theorem dX11_rank_63 : decode cX11_rank 63 = .ok (.invokevirtual 227, 3) := by decide +kernel
theorem dX11_rank_66 : decode cX11_rank 66 = .ok (.if_icmp .ne 13, 3) := by decide +kernel
theorem dX11_rank_69 : decode cX11_rank 69 = .ok (.iload 4, 2) := by decide +kernel
theorem dX11_rank_71 : decode cX11_rank 71 = .ok (.iload_n 2, 1) := by decide +kernel
theorem dX11_rank_72 : decode cX11_rank 72 = .ok (.if_icmp .ge 7, 3) := by decide +kernel
theorem dX11_rank_75 : decode cX11_rank 75 = .ok (.iconst 1, 1) := by decide +kernel
theorem dX11_rank_76 : decode cX11_rank 76 = .ok (.goto 4, 3) := by decide +kernel
theorem dX11_rank_79 : decode cX11_rank 79 = .ok (.iconst 0, 1) := by decide +kernel
theorem dX11_rank_80 : decode cX11_rank 80 = .ok (.iadd, 1) := by decide +kernel
theorem dX11_rank_81 : decode cX11_rank 81 = .ok (.istore_n 3, 1) := by decide +kernel
theorem dX11_rank_82 : decode cX11_rank 82 = .ok (.iinc 4 1, 3) := by decide +kernel
theorem dX11_rank_85 : decode cX11_rank 85 = .ok (.goto (-54), 3) := by decide +kernel
theorem dX11_rank_88 : decode cX11_rank 88 = .ok (.iload_n 3, 1) := by decide +kernel
theorem dX11_rank_89 : decode cX11_rank 89 = .ok (.iload_n 1, 1) := by decide +kernel
theorem dX11_rank_90 : decode cX11_rank 90 = .ok (.if_icmp .ne 5, 3) := by decide +kernel
theorem dX11_rank_93 : decode cX11_rank 93 = .ok (.iload_n 2, 1) := by decide +kernel
theorem dX11_rank_94 : decode cX11_rank 94 = .ok (.ireturn, 1) := by decide +kernel
theorem dX11_rank_95 : decode cX11_rank 95 = .ok (.iinc 2 1, 3) := by decide +kernel
theorem dX11_rank_98 : decode cX11_rank 98 = .ok (.goto (-80), 3) := by decide +kernel
theorem dX11_rank_101 : decode cX11_rank 101 = .ok (.bipush (-9), 2) := by decide +kernel
theorem dX11_rank_103 : decode cX11_rank 103 = .ok (.ireturn, 1) := by decide +kernel
theorem dX11_half_0 : decode cX11_half 0 = .ok (.aload_n 0, 1) := by decide +kernel
theorem dX11_half_1 : decode cX11_half 1 = .ok (.iconst 0, 1) := by decide +kernel
theorem dX11_half_2 : decode cX11_half 2 = .ok (.putfield 83, 3) := by decide +kernel
theorem dX11_half_5 : decode cX11_half 5 = .ok (.aload_n 0, 1) := by decide +kernel
theorem dX11_half_6 : decode cX11_half 6 = .ok (.invokevirtual 235, 3) := by decide +kernel
theorem dX11_half_9 : decode cX11_half 9 = .ok (.istore_n 1, 1) := by decide +kernel
theorem dX11_half_10 : decode cX11_half 10 = .ok (.bipush (-9), 2) := by decide +kernel
theorem dX11_half_12 : decode cX11_half 12 = .ok (.istore_n 2, 1) := by decide +kernel
theorem dX11_half_13 : decode cX11_half 13 = .ok (.aload_n 0, 1) := by decide +kernel
theorem dX11_half_14 : decode cX11_half 14 = .ok (.invokevirtual 194, 3) := by decide +kernel
theorem dX11_half_17 : decode cX11_half 17 = .ok (.iconst 0, 1) := by decide +kernel
theorem dX11_half_18 : decode cX11_half 18 = .ok (.istore_n 3, 1) := by decide +kernel
theorem dX11_half_19 : decode cX11_half 19 = .ok (.iload_n 3, 1) := by decide +kernel
theorem dX11_half_20 : decode cX11_half 20 = .ok (.bipush 100, 2) := by decide +kernel
theorem dX11_half_22 : decode cX11_half 22 = .ok (.if_icmp .gt 34, 3) := by decide +kernel
theorem dX11_half_25 : decode cX11_half 25 = .ok (.iload_n 2, 1) := by decide +kernel
theorem dX11_half_26 : decode cX11_half 26 = .ok (.ifCond .ge 30, 3) := by decide +kernel
theorem dX11_half_29 : decode cX11_half 29 = .ok (.iconst 2, 1) := by decide +kernel
theorem dX11_half_30 : decode cX11_half 30 = .ok (.aload_n 0, 1) := by decide +kernel
theorem dX11_half_31 : decode cX11_half 31 = .ok (.invokevirtual 235, 3) := by decide +kernel
theorem dX11_half_34 : decode cX11_half 34 = .ok (.imul, 1) := by decide +kernel
theorem dX11_half_35 : decode cX11_half 35 = .ok (.iload_n 1, 1) := by decide +kernel
theorem dX11_half_36 : decode cX11_half 36 = .ok (.if_icmp .gt 7, 3) := by decide +kernel
theorem dX11_half_39 : decode cX11_half 39 = .ok (.iload_n 3, 1) := by decide +kernel
theorem dX11_half_40 : decode cX11_half 40 = .ok (.goto 5, 3) := by decide +kernel
theorem dX11_half_43 : decode cX11_half 43 = .ok (.bipush (-9), 2) := by decide +kernel
theorem dX11_half_45 : decode cX11_half 45 = .ok (.istore_n 2, 1) := by decide +kernel
theorem dX11_half_46 : decode cX11_half 46 = .ok (.aload_n 0, 1) := by decide +kernel
theorem dX11_half_47 : decode cX11_half 47 = .ok (.invokevirtual 131, 3) := by decide +kernel
theorem dX11_half_50 : decode cX11_half 50 = .ok (.iinc 3 1, 3) := by decide +kernel
theorem dX11_half_53 : decode cX11_half 53 = .ok (.goto (-34), 3) := by decide +kernel
theorem dX11_half_56 : decode cX11_half 56 = .ok (.aload_n 0, 1) := by decide +kernel
theorem dX11_half_57 : decode cX11_half 57 = .ok (.invokevirtual 200, 3) := by decide +kernel
theorem dX11_half_60 : decode cX11_half 60 = .ok (.iload_n 2, 1) := by decide +kernel
theorem dX11_half_61 : decode cX11_half 61 = .ok (.ireturn, 1) := by decide +kernel
theorem dX11_row_0 : decode cX11_row 0 = .ok (.aload_n 0, 1) := by decide +kernel
theorem dX11_row_1 : decode cX11_row 1 = .ok (.iconst 0, 1) := by decide +kernel
theorem dX11_row_2 : decode cX11_row 2 = .ok (.putfield 83, 3) := by decide +kernel
theorem dX11_row_5 : decode cX11_row 5 = .ok (.iload_n 1, 1) := by decide +kernel
theorem dX11_row_6 : decode cX11_row 6 = .ok (.ifCond .ge 10, 3) := by decide +kernel
theorem dX11_row_9 : decode cX11_row 9 = .ok (.aload_n 0, 1) := by decide +kernel
theorem dX11_row_10 : decode cX11_row 10 = .ok (.bipush (-4), 2) := by decide +kernel
theorem dX11_row_12 : decode cX11_row 12 = .ok (.invokevirtual 134, 3) := by decide +kernel
theorem dX11_row_15 : decode cX11_row 15 = .ok (.ireturn, 1) := by decide +kernel
theorem dX11_row_16 : decode cX11_row 16 = .ok (.iload_n 1, 1) := by decide +kernel
theorem dX11_row_17 : decode cX11_row 17 = .ok (.bipush 99, 2) := by decide +kernel
theorem dX11_row_19 : decode cX11_row 19 = .ok (.if_icmp .gt 12, 3) := by decide +kernel
theorem dX11_row_22 : decode cX11_row 22 = .ok (.aload_n 0, 1) := by decide +kernel
theorem dX11_row_23 : decode cX11_row 23 = .ok (.getfield 295, 3) := by decide +kernel
theorem dX11_row_26 : decode cX11_row 26 = .ok (.bipush 12, 2) := by decide +kernel
theorem dX11_row_28 : decode cX11_row 28 = .ok (.if_icmp .ne 10, 3) := by decide +kernel
theorem dX11_row_31 : decode cX11_row 31 = .ok (.aload_n 0, 1) := by decide +kernel
theorem dX11_row_32 : decode cX11_row 32 = .ok (.bipush (-6), 2) := by decide +kernel
theorem dX11_row_34 : decode cX11_row 34 = .ok (.invokevirtual 134, 3) := by decide +kernel
theorem dX11_row_37 : decode cX11_row 37 = .ok (.ireturn, 1) := by decide +kernel
theorem dX11_row_38 : decode cX11_row 38 = .ok (.aload_n 0, 1) := by decide +kernel
theorem dX11_row_39 : decode cX11_row 39 = .ok (.getfield 74, 3) := by decide +kernel
theorem dX11_row_42 : decode cX11_row 42 = .ok (.aload_n 0, 1) := by decide +kernel
theorem dX11_row_43 : decode cX11_row 43 = .ok (.getfield 295, 3) := by decide +kernel
theorem dX11_row_46 : decode cX11_row 46 = .ok (.iload_n 1, 1) := by decide +kernel
theorem dX11_row_47 : decode cX11_row 47 = .ok (.iastore, 1) := by decide +kernel
theorem dX11_row_48 : decode cX11_row 48 = .ok (.aload_n 0, 1) := by decide +kernel
theorem dX11_row_49 : decode cX11_row 49 = .ok (.dup, 1) := by decide +kernel
theorem dX11_row_50 : decode cX11_row 50 = .ok (.getfield 295, 3) := by decide +kernel
theorem dX11_row_53 : decode cX11_row 53 = .ok (.iconst 1, 1) := by decide +kernel
theorem dX11_row_54 : decode cX11_row 54 = .ok (.iadd, 1) := by decide +kernel
theorem dX11_row_55 : decode cX11_row 55 = .ok (.putfield 295, 3) := by decide +kernel
theorem dX11_row_58 : decode cX11_row 58 = .ok (.aload_n 0, 1) := by decide +kernel
theorem dX11_row_59 : decode cX11_row 59 = .ok (.getfield 295, 3) := by decide +kernel
theorem dX11_row_62 : decode cX11_row 62 = .ok (.ireturn, 1) := by decide +kernel
theorem dX11_judge_0 : decode cX11_judge 0 = .ok (.aload_n 0, 1) := by decide +kernel
theorem dX11_judge_1 : decode cX11_judge 1 = .ok (.iconst 0, 1) := by decide +kernel
theorem dX11_judge_2 : decode cX11_judge 2 = .ok (.putfield 83, 3) := by decide +kernel
theorem dX11_judge_5 : decode cX11_judge 5 = .ok (.aload_n 0, 1) := by decide +kernel
theorem dX11_judge_6 : decode cX11_judge 6 = .ok (.iload_n 1, 1) := by decide +kernel
theorem dX11_judge_7 : decode cX11_judge 7 = .ok (.invokevirtual 188, 3) := by decide +kernel
theorem dX11_judge_10 : decode cX11_judge 10 = .ok (.ifCond .ne 9, 3) := by decide +kernel
theorem dX11_judge_13 : decode cX11_judge 13 = .ok (.aload_n 0, 1) := by decide +kernel
theorem dX11_judge_14 : decode cX11_judge 14 = .ok (.iconst (-1), 1) := by decide +kernel
theorem dX11_judge_15 : decode cX11_judge 15 = .ok (.invokevirtual 134, 3) := by decide +kernel
theorem dX11_judge_18 : decode cX11_judge 18 = .ok (.ireturn, 1) := by decide +kernel
theorem dX11_judge_19 : decode cX11_judge 19 = .ok (.aload_n 0, 1) := by decide +kernel
theorem dX11_judge_20 : decode cX11_judge 20 = .ok (.getfield 295, 3) := by decide +kernel
theorem dX11_judge_23 : decode cX11_judge 23 = .ok (.istore_n 2, 1) := by decide +kernel
theorem dX11_judge_24 : decode cX11_judge 24 = .ok (.aload_n 0, 1) := by decide +kernel
theorem dX11_judge_25 : decode cX11_judge 25 = .ok (.iconst 0, 1) := by decide +kernel
theorem dX11_judge_26 : decode cX11_judge 26 = .ok (.putfield 295, 3) := by decide +kernel
theorem dX11_judge_29 : decode cX11_judge 29 = .ok (.bipush (-9), 2) := by decide +kernel
theorem dX11_judge_31 : decode cX11_judge 31 = .ok (.istore_n 3, 1) := by decide +kernel
theorem dX11_judge_32 : decode cX11_judge 32 = .ok (.aload_n 0, 1) := by decide +kernel
theorem dX11_judge_33 : decode cX11_judge 33 = .ok (.invokevirtual 194, 3) := by decide +kernel
theorem dX11_judge_36 : decode cX11_judge 36 = .ok (.iconst 0, 1) := by decide +kernel
theorem dX11_judge_37 : decode cX11_judge 37 = .ok (.istore 4, 2) := by decide +kernel
theorem dX11_judge_39 : decode cX11_judge 39 = .ok (.iload 4, 2) := by decide +kernel
theorem dX11_judge_41 : decode cX11_judge 41 = .ok (.iload_n 2, 1) := by decide +kernel
theorem dX11_judge_42 : decode cX11_judge 42 = .ok (.if_icmp .ge 51, 3) := by decide +kernel
theorem dX11_judge_45 : decode cX11_judge 45 = .ok (.iload_n 3, 1) := by decide +kernel
theorem dX11_judge_46 : decode cX11_judge 46 = .ok (.ifCond .ge 47, 3) := by decide +kernel
theorem dX11_judge_49 : decode cX11_judge 49 = .ok (.iload 4, 2) := by decide +kernel
theorem dX11_judge_51 : decode cX11_judge 51 = .ok (.ifCond .le 7, 3) := by decide +kernel
theorem dX11_judge_54 : decode cX11_judge 54 = .ok (.aload_n 0, 1) := by decide +kernel
theorem dX11_judge_55 : decode cX11_judge 55 = .ok (.invokevirtual 131, 3) := by decide +kernel
theorem dX11_judge_58 : decode cX11_judge 58 = .ok (.aload_n 0, 1) := by decide +kernel
theorem dX11_judge_59 : decode cX11_judge 59 = .ok (.iload_n 1, 1) := by decide +kernel
theorem dX11_judge_60 : decode cX11_judge 60 = .ok (.invokevirtual 227, 3) := by decide +kernel
theorem dX11_judge_63 : decode cX11_judge 63 = .ok (.iconst 0, 1) := by decide +kernel
theorem dX11_judge_64 : decode cX11_judge 64 = .ok (.bipush 99, 2) := by decide +kernel
theorem dX11_judge_66 : decode cX11_judge 66 = .ok (.invokestatic 97, 3) := by decide +kernel
theorem dX11_judge_69 : decode cX11_judge 69 = .ok (.aload_n 0, 1) := by decide +kernel
theorem dX11_judge_70 : decode cX11_judge 70 = .ok (.getfield 74, 3) := by decide +kernel
theorem dX11_judge_73 : decode cX11_judge 73 = .ok (.iload 4, 2) := by decide +kernel
theorem dX11_judge_75 : decode cX11_judge 75 = .ok (.iaload, 1) := by decide +kernel
theorem dX11_judge_76 : decode cX11_judge 76 = .ok (.if_icmp .ne 8, 3) := by decide +kernel
theorem dX11_judge_79 : decode cX11_judge 79 = .ok (.bipush (-9), 2) := by decide +kernel
theorem dX11_judge_81 : decode cX11_judge 81 = .ok (.goto 5, 3) := by decide +kernel
theorem dX11_judge_84 : decode cX11_judge 84 = .ok (.iload 4, 2) := by decide +kernel
theorem dX11_judge_86 : decode cX11_judge 86 = .ok (.istore_n 3, 1) := by decide +kernel
theorem dX11_judge_87 : decode cX11_judge 87 = .ok (.iinc 4 1, 3) := by decide +kernel
theorem dX11_judge_90 : decode cX11_judge 90 = .ok (.goto (-51), 3) := by decide +kernel
theorem dX11_judge_93 : decode cX11_judge 93 = .ok (.aload_n 0, 1) := by decide +kernel
theorem dX11_judge_94 : decode cX11_judge 94 = .ok (.invokevirtual 200, 3) := by decide +kernel
theorem dX11_judge_97 : decode cX11_judge 97 = .ok (.iload_n 3, 1) := by decide +kernel
theorem dX11_judge_98 : decode cX11_judge 98 = .ok (.ireturn, 1) := by decide +kernel
theorem dX11_clear_0 : decode cX11_clear 0 = .ok (.aload_n 0, 1) := by decide +kernel
theorem dX11_clear_1 : decode cX11_clear 1 = .ok (.iconst 0, 1) := by decide +kernel
theorem dX11_clear_2 : decode cX11_clear 2 = .ok (.putfield 83, 3) := by decide +kernel
theorem dX11_clear_5 : decode cX11_clear 5 = .ok (.aload_n 0, 1) := by decide +kernel
theorem dX11_clear_6 : decode cX11_clear 6 = .ok (.getfield 295, 3) := by decide +kernel
theorem dX11_clear_9 : decode cX11_clear 9 = .ok (.istore_n 1, 1) := by decide +kernel
theorem dX11_clear_10 : decode cX11_clear 10 = .ok (.aload_n 0, 1) := by decide +kernel
theorem dX11_clear_11 : decode cX11_clear 11 = .ok (.iconst 0, 1) := by decide +kernel
theorem dX11_clear_12 : decode cX11_clear 12 = .ok (.putfield 295, 3) := by decide +kernel
theorem dX11_clear_15 : decode cX11_clear 15 = .ok (.iload_n 1, 1) := by decide +kernel
theorem dX11_clear_16 : decode cX11_clear 16 = .ok (.ireturn, 1) := by decide +kernel
theorem dX11_drawBelow_0 : decode cX11_drawBelow 0 = .ok (.aload_n 0, 1) := by decide +kernel
theorem dX11_drawBelow_1 : decode cX11_drawBelow 1 = .ok (.aload_n 0, 1) := by decide +kernel
theorem dX11_drawBelow_2 : decode cX11_drawBelow 2 = .ok (.getfield 304, 3) := by decide +kernel
theorem dX11_drawBelow_5 : decode cX11_drawBelow 5 = .ok (.ldc_w 307, 3) := by decide +kernel
theorem dX11_drawBelow_8 : decode cX11_drawBelow 8 = .ok (.imul, 1) := by decide +kernel
theorem dX11_drawBelow_9 : decode cX11_drawBelow 9 = .ok (.sipush 12345, 3) := by decide +kernel
theorem dX11_drawBelow_12 : decode cX11_drawBelow 12 = .ok (.iadd, 1) := by decide +kernel
theorem dX11_drawBelow_13 : decode cX11_drawBelow 13 = .ok (.putfield 304, 3) := by decide +kernel
theorem dX11_drawBelow_16 : decode cX11_drawBelow 16 = .ok (.aload_n 0, 1) := by decide +kernel
theorem dX11_drawBelow_17 : decode cX11_drawBelow 17 = .ok (.getfield 304, 3) := by decide +kernel
theorem dX11_drawBelow_20 : decode cX11_drawBelow 20 = .ok (.ldc_w 308, 3) := by decide +kernel
theorem dX11_drawBelow_23 : decode cX11_drawBelow 23 = .ok (.iand, 1) := by decide +kernel
theorem dX11_drawBelow_24 : decode cX11_drawBelow 24 = .ok (.ldc_w 309, 3) := by decide +kernel
theorem dX11_drawBelow_27 : decode cX11_drawBelow 27 = .ok (.idiv, 1) := by decide +kernel
theorem dX11_drawBelow_28 : decode cX11_drawBelow 28 = .ok (.iload_n 1, 1) := by decide +kernel
theorem dX11_drawBelow_29 : decode cX11_drawBelow 29 = .ok (.irem, 1) := by decide +kernel
theorem dX11_drawBelow_30 : decode cX11_drawBelow 30 = .ok (.ireturn, 1) := by decide +kernel
theorem dX11_lots_0 : decode cX11_lots 0 = .ok (.aload_n 0, 1) := by decide +kernel
theorem dX11_lots_1 : decode cX11_lots 1 = .ok (.iconst 0, 1) := by decide +kernel
theorem dX11_lots_2 : decode cX11_lots 2 = .ok (.putfield 83, 3) := by decide +kernel
theorem dX11_lots_5 : decode cX11_lots 5 = .ok (.iload_n 1, 1) := by decide +kernel
theorem dX11_lots_6 : decode cX11_lots 6 = .ok (.iconst 1, 1) := by decide +kernel
theorem dX11_lots_7 : decode cX11_lots 7 = .ok (.bipush 20, 2) := by decide +kernel
theorem dX11_lots_9 : decode cX11_lots 9 = .ok (.invokestatic 238, 3) := by decide +kernel
theorem dX11_lots_12 : decode cX11_lots 12 = .ok (.iload_n 3, 1) := by decide +kernel
theorem dX11_lots_13 : decode cX11_lots 13 = .ok (.iconst 1, 1) := by decide +kernel
theorem dX11_lots_14 : decode cX11_lots 14 = .ok (.invokestatic 241, 3) := by decide +kernel
theorem dX11_lots_17 : decode cX11_lots 17 = .ok (.istore 4, 2) := by decide +kernel
theorem dX11_lots_19 : decode cX11_lots 19 = .ok (.iload 4, 2) := by decide +kernel
theorem dX11_lots_21 : decode cX11_lots 21 = .ok (.ifCond .ge 10, 3) := by decide +kernel
theorem dX11_lots_24 : decode cX11_lots 24 = .ok (.aload_n 0, 1) := by decide +kernel
theorem dX11_lots_25 : decode cX11_lots 25 = .ok (.iload 4, 2) := by decide +kernel
theorem dX11_lots_27 : decode cX11_lots 27 = .ok (.invokevirtual 134, 3) := by decide +kernel
theorem dX11_lots_30 : decode cX11_lots 30 = .ok (.ireturn, 1) := by decide +kernel
theorem dX11_lots_31 : decode cX11_lots 31 = .ok (.aload_n 0, 1) := by decide +kernel
theorem dX11_lots_32 : decode cX11_lots 32 = .ok (.iload_n 2, 1) := by decide +kernel
theorem dX11_lots_33 : decode cX11_lots 33 = .ok (.putfield 304, 3) := by decide +kernel
theorem dX11_lots_36 : decode cX11_lots 36 = .ok (.iconst 0, 1) := by decide +kernel
theorem dX11_lots_37 : decode cX11_lots 37 = .ok (.istore 5, 2) := by decide +kernel
theorem dX11_lots_39 : decode cX11_lots 39 = .ok (.iconst 0, 1) := by decide +kernel
theorem dX11_lots_40 : decode cX11_lots 40 = .ok (.istore 6, 2) := by decide +kernel
theorem dX11_lots_42 : decode cX11_lots 42 = .ok (.aload_n 0, 1) := by decide +kernel
theorem dX11_lots_43 : decode cX11_lots 43 = .ok (.invokevirtual 194, 3) := by decide +kernel
theorem dX11_lots_46 : decode cX11_lots 46 = .ok (.iconst 0, 1) := by decide +kernel
theorem dX11_lots_47 : decode cX11_lots 47 = .ok (.istore 7, 2) := by decide +kernel
theorem dX11_lots_49 : decode cX11_lots 49 = .ok (.iload 7, 2) := by decide +kernel
theorem dX11_lots_51 : decode cX11_lots 51 = .ok (.iload_n 1, 1) := by decide +kernel
theorem dX11_lots_52 : decode cX11_lots 52 = .ok (.if_icmp .ge 107, 3) := by decide +kernel
theorem dX11_lots_55 : decode cX11_lots 55 = .ok (.aload_n 0, 1) := by decide +kernel
theorem dX11_lots_56 : decode cX11_lots 56 = .ok (.aload_n 0, 1) := by decide +kernel
theorem dX11_lots_57 : decode cX11_lots 57 = .ok (.bipush 10, 2) := by decide +kernel
theorem dX11_lots_59 : decode cX11_lots 59 = .ok (.invokevirtual 310, 3) := by decide +kernel
theorem dX11_lots_62 : decode cX11_lots 62 = .ok (.putfield 22, 3) := by decide +kernel
theorem dX11_lots_65 : decode cX11_lots 65 = .ok (.iconst 0, 1) := by decide +kernel
theorem dX11_lots_66 : decode cX11_lots 66 = .ok (.istore 8, 2) := by decide +kernel
theorem dX11_lots_68 : decode cX11_lots 68 = .ok (.iload 8, 2) := by decide +kernel
theorem dX11_lots_70 : decode cX11_lots 70 = .ok (.aload_n 0, 1) := by decide +kernel
theorem dX11_lots_71 : decode cX11_lots 71 = .ok (.getfield 86, 3) := by decide +kernel
theorem dX11_lots_74 : decode cX11_lots 74 = .ok (.if_icmp .ge 22, 3) := by decide +kernel
theorem dX11_lots_77 : decode cX11_lots 77 = .ok (.aload_n 0, 1) := by decide +kernel
theorem dX11_lots_78 : decode cX11_lots 78 = .ok (.getfield 16, 3) := by decide +kernel
theorem dX11_lots_81 : decode cX11_lots 81 = .ok (.iload 8, 2) := by decide +kernel
theorem dX11_lots_83 : decode cX11_lots 83 = .ok (.aload_n 0, 1) := by decide +kernel
theorem dX11_lots_84 : decode cX11_lots 84 = .ok (.bipush 10, 2) := by decide +kernel
theorem dX11_lots_86 : decode cX11_lots 86 = .ok (.invokevirtual 310, 3) := by decide +kernel
theorem dX11_lots_89 : decode cX11_lots 89 = .ok (.iastore, 1) := by decide +kernel
theorem dX11_lots_90 : decode cX11_lots 90 = .ok (.iinc 8 1, 3) := by decide +kernel
theorem dX11_lots_93 : decode cX11_lots 93 = .ok (.goto (-25), 3) := by decide +kernel
theorem dX11_lots_96 : decode cX11_lots 96 = .ok (.aload_n 0, 1) := by decide +kernel
theorem dX11_lots_97 : decode cX11_lots 97 = .ok (.bipush 50, 2) := by decide +kernel
theorem dX11_lots_99 : decode cX11_lots 99 = .ok (.invokevirtual 185, 3) := by decide +kernel
theorem dX11_lots_102 : decode cX11_lots 102 = .ok (.iload 5, 2) := by decide +kernel
theorem dX11_lots_104 : decode cX11_lots 104 = .ok (.aload_n 0, 1) := by decide +kernel
theorem dX11_lots_105 : decode cX11_lots 105 = .ok (.invokevirtual 235, 3) := by decide +kernel
theorem dX11_lots_108 : decode cX11_lots 108 = .ok (.iadd, 1) := by decide +kernel
theorem dX11_lots_109 : decode cX11_lots 109 = .ok (.istore 5, 2) := by decide +kernel
theorem dX11_lots_111 : decode cX11_lots 111 = .ok (.iconst 0, 1) := by decide +kernel
theorem dX11_lots_112 : decode cX11_lots 112 = .ok (.istore 8, 2) := by decide +kernel
theorem dX11_lots_114 : decode cX11_lots 114 = .ok (.iload 8, 2) := by decide +kernel
theorem dX11_lots_116 : decode cX11_lots 116 = .ok (.aload_n 0, 1) := by decide +kernel
theorem dX11_lots_117 : decode cX11_lots 117 = .ok (.getfield 86, 3) := by decide +kernel
theorem dX11_lots_120 : decode cX11_lots 120 = .ok (.if_icmp .ge 29, 3) := by decide +kernel
theorem dX11_lots_123 : decode cX11_lots 123 = .ok (.iload 6, 2) := by decide +kernel
theorem dX11_lots_125 : decode cX11_lots 125 = .ok (.aload_n 0, 1) := by decide +kernel
theorem dX11_lots_126 : decode cX11_lots 126 = .ok (.getfield 13, 3) := by decide +kernel
theorem dX11_lots_129 : decode cX11_lots 129 = .ok (.iload 8, 2) := by decide +kernel
theorem dX11_lots_131 : decode cX11_lots 131 = .ok (.iaload, 1) := by decide +kernel
theorem dX11_lots_132 : decode cX11_lots 132 = .ok (.ifCond .ne 7, 3) := by decide +kernel
theorem dX11_lots_135 : decode cX11_lots 135 = .ok (.iconst 1, 1) := by decide +kernel
theorem dX11_lots_136 : decode cX11_lots 136 = .ok (.goto 4, 3) := by decide +kernel
theorem dX11_lots_139 : decode cX11_lots 139 = .ok (.iconst 0, 1) := by decide +kernel
theorem dX11_lots_140 : decode cX11_lots 140 = .ok (.iadd, 1) := by decide +kernel
theorem dX11_lots_141 : decode cX11_lots 141 = .ok (.istore 6, 2) := by decide +kernel
theorem dX11_lots_143 : decode cX11_lots 143 = .ok (.iinc 8 1, 3) := by decide +kernel
theorem dX11_lots_146 : decode cX11_lots 146 = .ok (.goto (-32), 3) := by decide +kernel
theorem dX11_lots_149 : decode cX11_lots 149 = .ok (.aload_n 0, 1) := by decide +kernel
theorem dX11_lots_150 : decode cX11_lots 150 = .ok (.invokevirtual 200, 3) := by decide +kernel
theorem dX11_lots_153 : decode cX11_lots 153 = .ok (.iinc 7 1, 3) := by decide +kernel
theorem dX11_lots_156 : decode cX11_lots 156 = .ok (.goto (-107), 3) := by decide +kernel
theorem dX11_lots_159 : decode cX11_lots 159 = .ok (.iload_n 3, 1) := by decide +kernel
theorem dX11_lots_160 : decode cX11_lots 160 = .ok (.ifCond .ne 8, 3) := by decide +kernel
theorem dX11_lots_163 : decode cX11_lots 163 = .ok (.iload 5, 2) := by decide +kernel
theorem dX11_lots_165 : decode cX11_lots 165 = .ok (.goto 5, 3) := by decide +kernel
theorem dX11_lots_168 : decode cX11_lots 168 = .ok (.iload 6, 2) := by decide +kernel
theorem dX11_lots_170 : decode cX11_lots 170 = .ok (.ireturn, 1) := by decide +kernel
theorem dX11_count_0 : decode cX11_count 0 = .ok (.aload_n 0, 1) := by decide +kernel
theorem dX11_count_1 : decode cX11_count 1 = .ok (.iconst 0, 1) := by decide +kernel
theorem dX11_count_2 : decode cX11_count 2 = .ok (.putfield 83, 3) := by decide +kernel
theorem dX11_count_5 : decode cX11_count 5 = .ok (.iload_n 1, 1) := by decide +kernel
theorem dX11_count_6 : decode cX11_count 6 = .ok (.tableswitch 104 0 9 #[54, 59, 64, 69, 74, 79, 84, 89, 94, 99], 54) := by decide +kernel
theorem dX11_count_60 : decode cX11_count 60 = .ok (.aload_n 0, 1) := by decide +kernel
theorem dX11_count_61 : decode cX11_count 61 = .ok (.getfield 86, 3) := by decide +kernel
theorem dX11_count_64 : decode cX11_count 64 = .ok (.ireturn, 1) := by decide +kernel
theorem dX11_count_65 : decode cX11_count 65 = .ok (.aload_n 0, 1) := by decide +kernel
theorem dX11_count_66 : decode cX11_count 66 = .ok (.getfield 93, 3) := by decide +kernel
theorem dX11_count_69 : decode cX11_count 69 = .ok (.ireturn, 1) := by decide +kernel
theorem dX11_count_70 : decode cX11_count 70 = .ok (.aload_n 0, 1) := by decide +kernel
theorem dX11_count_71 : decode cX11_count 71 = .ok (.getfield 122, 3) := by decide +kernel
theorem dX11_count_74 : decode cX11_count 74 = .ok (.ireturn, 1) := by decide +kernel
theorem dX11_count_75 : decode cX11_count 75 = .ok (.aload_n 0, 1) := by decide +kernel
theorem dX11_count_76 : decode cX11_count 76 = .ok (.getfield 22, 3) := by decide +kernel
theorem dX11_count_79 : decode cX11_count 79 = .ok (.ireturn, 1) := by decide +kernel
theorem dX11_count_80 : decode cX11_count 80 = .ok (.aload_n 0, 1) := by decide +kernel
theorem dX11_count_81 : decode cX11_count 81 = .ok (.invokevirtual 292, 3) := by decide +kernel
theorem dX11_count_84 : decode cX11_count 84 = .ok (.ireturn, 1) := by decide +kernel
theorem dX11_count_85 : decode cX11_count 85 = .ok (.aload_n 0, 1) := by decide +kernel
theorem dX11_count_86 : decode cX11_count 86 = .ok (.invokevirtual 235, 3) := by decide +kernel
theorem dX11_count_89 : decode cX11_count 89 = .ok (.ireturn, 1) := by decide +kernel
theorem dX11_count_90 : decode cX11_count 90 = .ok (.aload_n 0, 1) := by decide +kernel
theorem dX11_count_91 : decode cX11_count 91 = .ok (.invokevirtual 262, 3) := by decide +kernel
theorem dX11_count_94 : decode cX11_count 94 = .ok (.ireturn, 1) := by decide +kernel
theorem dX11_count_95 : decode cX11_count 95 = .ok (.aload_n 0, 1) := by decide +kernel
theorem dX11_count_96 : decode cX11_count 96 = .ok (.getfield 137, 3) := by decide +kernel
theorem dX11_count_99 : decode cX11_count 99 = .ok (.ireturn, 1) := by decide +kernel
theorem dX11_count_100 : decode cX11_count 100 = .ok (.aload_n 0, 1) := by decide +kernel
theorem dX11_count_101 : decode cX11_count 101 = .ok (.getfield 295, 3) := by decide +kernel
theorem dX11_count_104 : decode cX11_count 104 = .ok (.ireturn, 1) := by decide +kernel
theorem dX11_count_105 : decode cX11_count 105 = .ok (.aload_n 0, 1) := by decide +kernel
theorem dX11_count_106 : decode cX11_count 106 = .ok (.getfield 203, 3) := by decide +kernel
theorem dX11_count_109 : decode cX11_count 109 = .ok (.ireturn, 1) := by decide +kernel
theorem dX11_count_110 : decode cX11_count 110 = .ok (.iload_n 1, 1) := by decide +kernel
theorem dX11_count_111 : decode cX11_count 111 = .ok (.i2l, 1) := by decide +kernel
theorem dX11_count_112 : decode cX11_count 112 = .ok (.ldc2_w 313, 3) := by decide +kernel
theorem dX11_count_115 : decode cX11_count 115 = .ok (.ldc2_w 315, 3) := by decide +kernel
theorem dX11_count_118 : decode cX11_count 118 = .ok (.invokestatic 89, 3) := by decide +kernel
theorem dX11_count_121 : decode cX11_count 121 = .ok (.ifCond .eq 15, 3) := by decide +kernel
theorem dX11_count_124 : decode cX11_count 124 = .ok (.aload_n 0, 1) := by decide +kernel
theorem dX11_count_125 : decode cX11_count 125 = .ok (.getfield 38, 3) := by decide +kernel
theorem dX11_count_128 : decode cX11_count 128 = .ok (.iload_n 1, 1) := by decide +kernel
theorem dX11_count_129 : decode cX11_count 129 = .ok (.bipush 10, 2) := by decide +kernel
theorem dX11_count_131 : decode cX11_count 131 = .ok (.isub, 1) := by decide +kernel
theorem dX11_count_132 : decode cX11_count 132 = .ok (.iaload, 1) := by decide +kernel
theorem dX11_count_133 : decode cX11_count 133 = .ok (.goto 5, 3) := by decide +kernel
theorem dX11_count_136 : decode cX11_count 136 = .ok (.bipush (-9), 2) := by decide +kernel
theorem dX11_count_138 : decode cX11_count 138 = .ok (.ireturn, 1) := by decide +kernel
theorem dJ9_max_7cf53_0 : decode cJ9_max_7cf53 0 = .ok (.iload_n 0, 1) := by decide +kernel
theorem dJ9_max_7cf53_1 : decode cJ9_max_7cf53 1 = .ok (.iload_n 1, 1) := by decide +kernel
theorem dJ9_max_7cf53_2 : decode cJ9_max_7cf53 2 = .ok (.if_icmp .lt 7, 3) := by decide +kernel
theorem dJ9_max_7cf53_5 : decode cJ9_max_7cf53 5 = .ok (.iload_n 0, 1) := by decide +kernel
theorem dJ9_max_7cf53_6 : decode cJ9_max_7cf53 6 = .ok (.goto 4, 3) := by decide +kernel
theorem dJ9_max_7cf53_9 : decode cJ9_max_7cf53 9 = .ok (.iload_n 1, 1) := by decide +kernel
theorem dJ9_max_7cf53_10 : decode cJ9_max_7cf53 10 = .ok (.ireturn, 1) := by decide +kernel
theorem dJ9_min_7cf53_0 : decode cJ9_min_7cf53 0 = .ok (.iload_n 0, 1) := by decide +kernel
theorem dJ9_min_7cf53_1 : decode cJ9_min_7cf53 1 = .ok (.iload_n 1, 1) := by decide +kernel
theorem dJ9_min_7cf53_2 : decode cJ9_min_7cf53 2 = .ok (.if_icmp .gt 7, 3) := by decide +kernel
theorem dJ9_min_7cf53_5 : decode cJ9_min_7cf53 5 = .ok (.iload_n 0, 1) := by decide +kernel
theorem dJ9_min_7cf53_6 : decode cJ9_min_7cf53 6 = .ok (.goto 4, 3) := by decide +kernel
theorem dJ9_min_7cf53_9 : decode cJ9_min_7cf53 9 = .ok (.iload_n 1, 1) := by decide +kernel
theorem dJ9_min_7cf53_10 : decode cJ9_min_7cf53 10 = .ok (.ireturn, 1) := by decide +kernel
theorem dL_law_0 : decode cL_law 0 = .ok (.new 7, 3) := by decide +kernel
theorem dL_law_3 : decode cL_law 3 = .ok (.dup, 1) := by decide +kernel
theorem dL_law_4 : decode cL_law 4 = .ok (.invokespecial 9, 3) := by decide +kernel
theorem dL_law_7 : decode cL_law 7 = .ok (.astore_n 1, 1) := by decide +kernel
theorem dL_law_8 : decode cL_law 8 = .ok (.new 10, 3) := by decide +kernel
theorem dL_law_11 : decode cL_law 11 = .ok (.dup, 1) := by decide +kernel
theorem dL_law_12 : decode cL_law 12 = .ok (.invokespecial 12, 3) := by decide +kernel
theorem dL_law_15 : decode cL_law 15 = .ok (.astore_n 2, 1) := by decide +kernel
theorem dL_law_16 : decode cL_law 16 = .ok (.iconst 0, 1) := by decide +kernel
theorem dL_law_17 : decode cL_law 17 = .ok (.istore_n 3, 1) := by decide +kernel
theorem dL_law_18 : decode cL_law 18 = .ok (.iload_n 3, 1) := by decide +kernel
theorem dL_law_19 : decode cL_law 19 = .ok (.aload_n 0, 1) := by decide +kernel
theorem dL_law_20 : decode cL_law 20 = .ok (.arraylength, 1) := by decide +kernel
theorem dL_law_21 : decode cL_law 21 = .ok (.bipush 6, 2) := by decide +kernel
theorem dL_law_23 : decode cL_law 23 = .ok (.isub, 1) := by decide +kernel
theorem dL_law_24 : decode cL_law 24 = .ok (.if_icmp .gt 1655, 3) := by decide +kernel
theorem dL_law_27 : decode cL_law 27 = .ok (.aload_n 0, 1) := by decide +kernel
theorem dL_law_28 : decode cL_law 28 = .ok (.iload_n 3, 1) := by decide +kernel
theorem dL_law_29 : decode cL_law 29 = .ok (.iaload, 1) := by decide +kernel
theorem dL_law_30 : decode cL_law 30 = .ok (.bipush 63, 2) := by decide +kernel
theorem dL_law_32 : decode cL_law 32 = .ok (.iand, 1) := by decide +kernel
theorem dL_law_33 : decode cL_law 33 = .ok (.tableswitch 1640 0 48 #[211, 234, 247, 280, 313, 356, 399, 422, 445, 478, 501, 514, 557, 580, 603, 626, 669, 712, 735, 768, 811, 854, 877, 911, 944, 987, 1020, 1043, 1107, 1130, 1153, 1176, 1199, 1242, 1275, 1298, 1331, 1364, 1397, 1430, 1453, 1476, 1489, 1512, 1535, 1548, 1591, 1604, 1617], 211) := by decide +kernel
theorem dL_law_244 : decode cL_law 244 = .ok (.aload_n 1, 1) := by decide +kernel
theorem dL_law_245 : decode cL_law 245 = .ok (.aload_n 0, 1) := by decide +kernel
theorem dL_law_246 : decode cL_law 246 = .ok (.iload_n 3, 1) := by decide +kernel
theorem dL_law_247 : decode cL_law 247 = .ok (.iconst 1, 1) := by decide +kernel
theorem dL_law_248 : decode cL_law 248 = .ok (.iadd, 1) := by decide +kernel
theorem dL_law_249 : decode cL_law 249 = .ok (.iaload, 1) := by decide +kernel
theorem dL_law_250 : decode cL_law 250 = .ok (.invokevirtual 13, 3) := by decide +kernel
theorem dL_law_253 : decode cL_law 253 = .ok (.aload_n 2, 1) := by decide +kernel
theorem dL_law_254 : decode cL_law 254 = .ok (.aload_n 0, 1) := by decide +kernel
theorem dL_law_255 : decode cL_law 255 = .ok (.iload_n 3, 1) := by decide +kernel
theorem dL_law_256 : decode cL_law 256 = .ok (.iconst 1, 1) := by decide +kernel
theorem dL_law_257 : decode cL_law 257 = .ok (.iadd, 1) := by decide +kernel
theorem dL_law_258 : decode cL_law 258 = .ok (.iaload, 1) := by decide +kernel
theorem dL_law_259 : decode cL_law 259 = .ok (.invokevirtual 17, 3) := by decide +kernel
theorem dL_law_262 : decode cL_law 262 = .ok (.if_icmp .eq 1411, 3) := by decide +kernel
theorem dL_law_265 : decode cL_law 265 = .ok (.iconst 0, 1) := by decide +kernel
theorem dL_law_266 : decode cL_law 266 = .ok (.ireturn, 1) := by decide +kernel
theorem dL_law_267 : decode cL_law 267 = .ok (.aload_n 1, 1) := by decide +kernel
theorem dL_law_268 : decode cL_law 268 = .ok (.invokevirtual 18, 3) := by decide +kernel
theorem dL_law_271 : decode cL_law 271 = .ok (.aload_n 2, 1) := by decide +kernel
theorem dL_law_272 : decode cL_law 272 = .ok (.invokevirtual 22, 3) := by decide +kernel
theorem dL_law_275 : decode cL_law 275 = .ok (.if_icmp .eq 1398, 3) := by decide +kernel
theorem dL_law_278 : decode cL_law 278 = .ok (.iconst 0, 1) := by decide +kernel
theorem dL_law_279 : decode cL_law 279 = .ok (.ireturn, 1) := by decide +kernel
theorem dL_law_280 : decode cL_law 280 = .ok (.aload_n 1, 1) := by decide +kernel
theorem dL_law_281 : decode cL_law 281 = .ok (.aload_n 0, 1) := by decide +kernel
theorem dL_law_282 : decode cL_law 282 = .ok (.iload_n 3, 1) := by decide +kernel
theorem dL_law_283 : decode cL_law 283 = .ok (.iconst 1, 1) := by decide +kernel
theorem dL_law_284 : decode cL_law 284 = .ok (.iadd, 1) := by decide +kernel
theorem dL_law_285 : decode cL_law 285 = .ok (.iaload, 1) := by decide +kernel
theorem dL_law_286 : decode cL_law 286 = .ok (.aload_n 0, 1) := by decide +kernel
theorem dL_law_287 : decode cL_law 287 = .ok (.iload_n 3, 1) := by decide +kernel
theorem dL_law_288 : decode cL_law 288 = .ok (.iconst 2, 1) := by decide +kernel
theorem dL_law_289 : decode cL_law 289 = .ok (.iadd, 1) := by decide +kernel
theorem dL_law_290 : decode cL_law 290 = .ok (.iaload, 1) := by decide +kernel
theorem dL_law_291 : decode cL_law 291 = .ok (.invokevirtual 23, 3) := by decide +kernel
theorem dL_law_294 : decode cL_law 294 = .ok (.aload_n 2, 1) := by decide +kernel
theorem dL_law_295 : decode cL_law 295 = .ok (.aload_n 0, 1) := by decide +kernel
theorem dL_law_296 : decode cL_law 296 = .ok (.iload_n 3, 1) := by decide +kernel
theorem dL_law_297 : decode cL_law 297 = .ok (.iconst 1, 1) := by decide +kernel
theorem dL_law_298 : decode cL_law 298 = .ok (.iadd, 1) := by decide +kernel
theorem dL_law_299 : decode cL_law 299 = .ok (.iaload, 1) := by decide +kernel
theorem dL_law_300 : decode cL_law 300 = .ok (.aload_n 0, 1) := by decide +kernel
theorem dL_law_301 : decode cL_law 301 = .ok (.iload_n 3, 1) := by decide +kernel
theorem dL_law_302 : decode cL_law 302 = .ok (.iconst 2, 1) := by decide +kernel
theorem dL_law_303 : decode cL_law 303 = .ok (.iadd, 1) := by decide +kernel
theorem dL_law_304 : decode cL_law 304 = .ok (.iaload, 1) := by decide +kernel
theorem dL_law_305 : decode cL_law 305 = .ok (.invokevirtual 27, 3) := by decide +kernel
theorem dL_law_308 : decode cL_law 308 = .ok (.if_icmp .eq 1365, 3) := by decide +kernel
theorem dL_law_311 : decode cL_law 311 = .ok (.iconst 0, 1) := by decide +kernel
theorem dL_law_312 : decode cL_law 312 = .ok (.ireturn, 1) := by decide +kernel
theorem dL_law_313 : decode cL_law 313 = .ok (.aload_n 1, 1) := by decide +kernel
theorem dL_law_314 : decode cL_law 314 = .ok (.aload_n 0, 1) := by decide +kernel
theorem dL_law_315 : decode cL_law 315 = .ok (.iload_n 3, 1) := by decide +kernel
theorem dL_law_316 : decode cL_law 316 = .ok (.iconst 1, 1) := by decide +kernel
theorem dL_law_317 : decode cL_law 317 = .ok (.iadd, 1) := by decide +kernel
theorem dL_law_318 : decode cL_law 318 = .ok (.iaload, 1) := by decide +kernel
theorem dL_law_319 : decode cL_law 319 = .ok (.aload_n 0, 1) := by decide +kernel
theorem dL_law_320 : decode cL_law 320 = .ok (.iload_n 3, 1) := by decide +kernel
theorem dL_law_321 : decode cL_law 321 = .ok (.iconst 2, 1) := by decide +kernel
theorem dL_law_322 : decode cL_law 322 = .ok (.iadd, 1) := by decide +kernel
theorem dL_law_323 : decode cL_law 323 = .ok (.iaload, 1) := by decide +kernel
theorem dL_law_324 : decode cL_law 324 = .ok (.invokevirtual 28, 3) := by decide +kernel
theorem dL_law_327 : decode cL_law 327 = .ok (.aload_n 2, 1) := by decide +kernel
theorem dL_law_328 : decode cL_law 328 = .ok (.aload_n 0, 1) := by decide +kernel
theorem dL_law_329 : decode cL_law 329 = .ok (.iload_n 3, 1) := by decide +kernel
theorem dL_law_330 : decode cL_law 330 = .ok (.iconst 1, 1) := by decide +kernel
theorem dL_law_331 : decode cL_law 331 = .ok (.iadd, 1) := by decide +kernel
theorem dL_law_332 : decode cL_law 332 = .ok (.iaload, 1) := by decide +kernel
theorem dL_law_333 : decode cL_law 333 = .ok (.aload_n 0, 1) := by decide +kernel
theorem dL_law_334 : decode cL_law 334 = .ok (.iload_n 3, 1) := by decide +kernel
theorem dL_law_335 : decode cL_law 335 = .ok (.iconst 2, 1) := by decide +kernel
theorem dL_law_336 : decode cL_law 336 = .ok (.iadd, 1) := by decide +kernel
theorem dL_law_337 : decode cL_law 337 = .ok (.iaload, 1) := by decide +kernel
theorem dL_law_338 : decode cL_law 338 = .ok (.invokevirtual 31, 3) := by decide +kernel
theorem dL_law_341 : decode cL_law 341 = .ok (.if_icmp .eq 1332, 3) := by decide +kernel
theorem dL_law_344 : decode cL_law 344 = .ok (.iconst 0, 1) := by decide +kernel
theorem dL_law_345 : decode cL_law 345 = .ok (.ireturn, 1) := by decide +kernel
theorem dL_law_346 : decode cL_law 346 = .ok (.aload_n 1, 1) := by decide +kernel
theorem dL_law_347 : decode cL_law 347 = .ok (.aload_n 0, 1) := by decide +kernel
theorem dL_law_348 : decode cL_law 348 = .ok (.iload_n 3, 1) := by decide +kernel
theorem dL_law_349 : decode cL_law 349 = .ok (.iconst 1, 1) := by decide +kernel
theorem dL_law_350 : decode cL_law 350 = .ok (.iadd, 1) := by decide +kernel
theorem dL_law_351 : decode cL_law 351 = .ok (.iaload, 1) := by decide +kernel
theorem dL_law_352 : decode cL_law 352 = .ok (.aload_n 0, 1) := by decide +kernel
theorem dL_law_353 : decode cL_law 353 = .ok (.iload_n 3, 1) := by decide +kernel
theorem dL_law_354 : decode cL_law 354 = .ok (.iconst 2, 1) := by decide +kernel
theorem dL_law_355 : decode cL_law 355 = .ok (.iadd, 1) := by decide +kernel
theorem dL_law_356 : decode cL_law 356 = .ok (.iaload, 1) := by decide +kernel
theorem dL_law_357 : decode cL_law 357 = .ok (.aload_n 0, 1) := by decide +kernel
theorem dL_law_358 : decode cL_law 358 = .ok (.iload_n 3, 1) := by decide +kernel
theorem dL_law_359 : decode cL_law 359 = .ok (.iconst 3, 1) := by decide +kernel
theorem dL_law_360 : decode cL_law 360 = .ok (.iadd, 1) := by decide +kernel
theorem dL_law_361 : decode cL_law 361 = .ok (.iaload, 1) := by decide +kernel
theorem dL_law_362 : decode cL_law 362 = .ok (.invokevirtual 32, 3) := by decide +kernel
theorem dL_law_365 : decode cL_law 365 = .ok (.aload_n 2, 1) := by decide +kernel
theorem dL_law_366 : decode cL_law 366 = .ok (.aload_n 0, 1) := by decide +kernel
theorem dL_law_367 : decode cL_law 367 = .ok (.iload_n 3, 1) := by decide +kernel
theorem dL_law_368 : decode cL_law 368 = .ok (.iconst 1, 1) := by decide +kernel
theorem dL_law_369 : decode cL_law 369 = .ok (.iadd, 1) := by decide +kernel
theorem dL_law_370 : decode cL_law 370 = .ok (.iaload, 1) := by decide +kernel
theorem dL_law_371 : decode cL_law 371 = .ok (.aload_n 0, 1) := by decide +kernel
theorem dL_law_372 : decode cL_law 372 = .ok (.iload_n 3, 1) := by decide +kernel
theorem dL_law_373 : decode cL_law 373 = .ok (.iconst 2, 1) := by decide +kernel
theorem dL_law_374 : decode cL_law 374 = .ok (.iadd, 1) := by decide +kernel
theorem dL_law_375 : decode cL_law 375 = .ok (.iaload, 1) := by decide +kernel
theorem dL_law_376 : decode cL_law 376 = .ok (.aload_n 0, 1) := by decide +kernel
theorem dL_law_377 : decode cL_law 377 = .ok (.iload_n 3, 1) := by decide +kernel
theorem dL_law_378 : decode cL_law 378 = .ok (.iconst 3, 1) := by decide +kernel
theorem dL_law_379 : decode cL_law 379 = .ok (.iadd, 1) := by decide +kernel
theorem dL_law_380 : decode cL_law 380 = .ok (.iaload, 1) := by decide +kernel
theorem dL_law_381 : decode cL_law 381 = .ok (.invokevirtual 36, 3) := by decide +kernel
theorem dL_law_384 : decode cL_law 384 = .ok (.if_icmp .eq 1289, 3) := by decide +kernel
theorem dL_law_387 : decode cL_law 387 = .ok (.iconst 0, 1) := by decide +kernel
theorem dL_law_388 : decode cL_law 388 = .ok (.ireturn, 1) := by decide +kernel
theorem dL_law_389 : decode cL_law 389 = .ok (.aload_n 1, 1) := by decide +kernel
theorem dL_law_390 : decode cL_law 390 = .ok (.aload_n 0, 1) := by decide +kernel
theorem dL_law_391 : decode cL_law 391 = .ok (.iload_n 3, 1) := by decide +kernel
theorem dL_law_392 : decode cL_law 392 = .ok (.iconst 1, 1) := by decide +kernel
theorem dL_law_393 : decode cL_law 393 = .ok (.iadd, 1) := by decide +kernel
theorem dL_law_394 : decode cL_law 394 = .ok (.iaload, 1) := by decide +kernel
theorem dL_law_395 : decode cL_law 395 = .ok (.aload_n 0, 1) := by decide +kernel
theorem dL_law_396 : decode cL_law 396 = .ok (.iload_n 3, 1) := by decide +kernel
theorem dL_law_397 : decode cL_law 397 = .ok (.iconst 2, 1) := by decide +kernel
theorem dL_law_398 : decode cL_law 398 = .ok (.iadd, 1) := by decide +kernel
theorem dL_law_399 : decode cL_law 399 = .ok (.iaload, 1) := by decide +kernel
theorem dL_law_400 : decode cL_law 400 = .ok (.aload_n 0, 1) := by decide +kernel
theorem dL_law_401 : decode cL_law 401 = .ok (.iload_n 3, 1) := by decide +kernel
theorem dL_law_402 : decode cL_law 402 = .ok (.iconst 3, 1) := by decide +kernel
theorem dL_law_403 : decode cL_law 403 = .ok (.iadd, 1) := by decide +kernel
theorem dL_law_404 : decode cL_law 404 = .ok (.iaload, 1) := by decide +kernel
theorem dL_law_405 : decode cL_law 405 = .ok (.invokevirtual 37, 3) := by decide +kernel
theorem dL_law_408 : decode cL_law 408 = .ok (.aload_n 2, 1) := by decide +kernel
theorem dL_law_409 : decode cL_law 409 = .ok (.aload_n 0, 1) := by decide +kernel
theorem dL_law_410 : decode cL_law 410 = .ok (.iload_n 3, 1) := by decide +kernel
theorem dL_law_411 : decode cL_law 411 = .ok (.iconst 1, 1) := by decide +kernel
theorem dL_law_412 : decode cL_law 412 = .ok (.iadd, 1) := by decide +kernel
theorem dL_law_413 : decode cL_law 413 = .ok (.iaload, 1) := by decide +kernel
theorem dL_law_414 : decode cL_law 414 = .ok (.aload_n 0, 1) := by decide +kernel
theorem dL_law_415 : decode cL_law 415 = .ok (.iload_n 3, 1) := by decide +kernel
theorem dL_law_416 : decode cL_law 416 = .ok (.iconst 2, 1) := by decide +kernel
theorem dL_law_417 : decode cL_law 417 = .ok (.iadd, 1) := by decide +kernel
theorem dL_law_418 : decode cL_law 418 = .ok (.iaload, 1) := by decide +kernel
theorem dL_law_419 : decode cL_law 419 = .ok (.aload_n 0, 1) := by decide +kernel
theorem dL_law_420 : decode cL_law 420 = .ok (.iload_n 3, 1) := by decide +kernel
theorem dL_law_421 : decode cL_law 421 = .ok (.iconst 3, 1) := by decide +kernel
theorem dL_law_422 : decode cL_law 422 = .ok (.iadd, 1) := by decide +kernel
theorem dL_law_423 : decode cL_law 423 = .ok (.iaload, 1) := by decide +kernel
theorem dL_law_424 : decode cL_law 424 = .ok (.invokevirtual 40, 3) := by decide +kernel
theorem dL_law_427 : decode cL_law 427 = .ok (.if_icmp .eq 1246, 3) := by decide +kernel
theorem dL_law_430 : decode cL_law 430 = .ok (.iconst 0, 1) := by decide +kernel
theorem dL_law_431 : decode cL_law 431 = .ok (.ireturn, 1) := by decide +kernel
theorem dL_law_432 : decode cL_law 432 = .ok (.aload_n 1, 1) := by decide +kernel
theorem dL_law_433 : decode cL_law 433 = .ok (.aload_n 0, 1) := by decide +kernel
theorem dL_law_434 : decode cL_law 434 = .ok (.iload_n 3, 1) := by decide +kernel
theorem dL_law_435 : decode cL_law 435 = .ok (.iconst 1, 1) := by decide +kernel
theorem dL_law_436 : decode cL_law 436 = .ok (.iadd, 1) := by decide +kernel
theorem dL_law_437 : decode cL_law 437 = .ok (.iaload, 1) := by decide +kernel
theorem dL_law_438 : decode cL_law 438 = .ok (.invokevirtual 41, 3) := by decide +kernel
theorem dL_law_441 : decode cL_law 441 = .ok (.aload_n 2, 1) := by decide +kernel
theorem dL_law_442 : decode cL_law 442 = .ok (.aload_n 0, 1) := by decide +kernel
theorem dL_law_443 : decode cL_law 443 = .ok (.iload_n 3, 1) := by decide +kernel
theorem dL_law_444 : decode cL_law 444 = .ok (.iconst 1, 1) := by decide +kernel
theorem dL_law_445 : decode cL_law 445 = .ok (.iadd, 1) := by decide +kernel
theorem dL_law_446 : decode cL_law 446 = .ok (.iaload, 1) := by decide +kernel
theorem dL_law_447 : decode cL_law 447 = .ok (.invokevirtual 44, 3) := by decide +kernel
theorem dL_law_450 : decode cL_law 450 = .ok (.if_icmp .eq 1223, 3) := by decide +kernel
theorem dL_law_453 : decode cL_law 453 = .ok (.iconst 0, 1) := by decide +kernel
theorem dL_law_454 : decode cL_law 454 = .ok (.ireturn, 1) := by decide +kernel
theorem dL_law_455 : decode cL_law 455 = .ok (.aload_n 1, 1) := by decide +kernel
theorem dL_law_456 : decode cL_law 456 = .ok (.aload_n 0, 1) := by decide +kernel
theorem dL_law_457 : decode cL_law 457 = .ok (.iload_n 3, 1) := by decide +kernel
theorem dL_law_458 : decode cL_law 458 = .ok (.iconst 1, 1) := by decide +kernel
theorem dL_law_459 : decode cL_law 459 = .ok (.iadd, 1) := by decide +kernel
theorem dL_law_460 : decode cL_law 460 = .ok (.iaload, 1) := by decide +kernel
theorem dL_law_461 : decode cL_law 461 = .ok (.invokevirtual 45, 3) := by decide +kernel
theorem dL_law_464 : decode cL_law 464 = .ok (.aload_n 2, 1) := by decide +kernel
theorem dL_law_465 : decode cL_law 465 = .ok (.aload_n 0, 1) := by decide +kernel
theorem dL_law_466 : decode cL_law 466 = .ok (.iload_n 3, 1) := by decide +kernel
theorem dL_law_467 : decode cL_law 467 = .ok (.iconst 1, 1) := by decide +kernel
theorem dL_law_468 : decode cL_law 468 = .ok (.iadd, 1) := by decide +kernel
theorem dL_law_469 : decode cL_law 469 = .ok (.iaload, 1) := by decide +kernel
theorem dL_law_470 : decode cL_law 470 = .ok (.invokevirtual 48, 3) := by decide +kernel
theorem dL_law_473 : decode cL_law 473 = .ok (.if_icmp .eq 1200, 3) := by decide +kernel
theorem dL_law_476 : decode cL_law 476 = .ok (.iconst 0, 1) := by decide +kernel
theorem dL_law_477 : decode cL_law 477 = .ok (.ireturn, 1) := by decide +kernel
theorem dL_law_478 : decode cL_law 478 = .ok (.aload_n 1, 1) := by decide +kernel
theorem dL_law_479 : decode cL_law 479 = .ok (.aload_n 0, 1) := by decide +kernel
theorem dL_law_480 : decode cL_law 480 = .ok (.iload_n 3, 1) := by decide +kernel
theorem dL_law_481 : decode cL_law 481 = .ok (.iconst 1, 1) := by decide +kernel
theorem dL_law_482 : decode cL_law 482 = .ok (.iadd, 1) := by decide +kernel
theorem dL_law_483 : decode cL_law 483 = .ok (.iaload, 1) := by decide +kernel
theorem dL_law_484 : decode cL_law 484 = .ok (.aload_n 0, 1) := by decide +kernel
theorem dL_law_485 : decode cL_law 485 = .ok (.iload_n 3, 1) := by decide +kernel
theorem dL_law_486 : decode cL_law 486 = .ok (.iconst 2, 1) := by decide +kernel
theorem dL_law_487 : decode cL_law 487 = .ok (.iadd, 1) := by decide +kernel
theorem dL_law_488 : decode cL_law 488 = .ok (.iaload, 1) := by decide +kernel
theorem dL_law_489 : decode cL_law 489 = .ok (.invokevirtual 49, 3) := by decide +kernel
theorem dL_law_492 : decode cL_law 492 = .ok (.aload_n 2, 1) := by decide +kernel
theorem dL_law_493 : decode cL_law 493 = .ok (.aload_n 0, 1) := by decide +kernel
theorem dL_law_494 : decode cL_law 494 = .ok (.iload_n 3, 1) := by decide +kernel
theorem dL_law_495 : decode cL_law 495 = .ok (.iconst 1, 1) := by decide +kernel
theorem dL_law_496 : decode cL_law 496 = .ok (.iadd, 1) := by decide +kernel
theorem dL_law_497 : decode cL_law 497 = .ok (.iaload, 1) := by decide +kernel
theorem dL_law_498 : decode cL_law 498 = .ok (.aload_n 0, 1) := by decide +kernel
theorem dL_law_499 : decode cL_law 499 = .ok (.iload_n 3, 1) := by decide +kernel
theorem dL_law_500 : decode cL_law 500 = .ok (.iconst 2, 1) := by decide +kernel
theorem dL_law_501 : decode cL_law 501 = .ok (.iadd, 1) := by decide +kernel
theorem dL_law_502 : decode cL_law 502 = .ok (.iaload, 1) := by decide +kernel
theorem dL_law_503 : decode cL_law 503 = .ok (.invokevirtual 52, 3) := by decide +kernel
theorem dL_law_506 : decode cL_law 506 = .ok (.if_icmp .eq 1167, 3) := by decide +kernel
theorem dL_law_509 : decode cL_law 509 = .ok (.iconst 0, 1) := by decide +kernel
theorem dL_law_510 : decode cL_law 510 = .ok (.ireturn, 1) := by decide +kernel
theorem dL_law_511 : decode cL_law 511 = .ok (.aload_n 1, 1) := by decide +kernel
theorem dL_law_512 : decode cL_law 512 = .ok (.aload_n 0, 1) := by decide +kernel
theorem dL_law_513 : decode cL_law 513 = .ok (.iload_n 3, 1) := by decide +kernel
theorem dL_law_514 : decode cL_law 514 = .ok (.iconst 1, 1) := by decide +kernel
theorem dL_law_515 : decode cL_law 515 = .ok (.iadd, 1) := by decide +kernel
theorem dL_law_516 : decode cL_law 516 = .ok (.iaload, 1) := by decide +kernel
theorem dL_law_517 : decode cL_law 517 = .ok (.invokevirtual 53, 3) := by decide +kernel
theorem dL_law_520 : decode cL_law 520 = .ok (.aload_n 2, 1) := by decide +kernel
theorem dL_law_521 : decode cL_law 521 = .ok (.aload_n 0, 1) := by decide +kernel
theorem dL_law_522 : decode cL_law 522 = .ok (.iload_n 3, 1) := by decide +kernel
theorem dL_law_523 : decode cL_law 523 = .ok (.iconst 1, 1) := by decide +kernel
theorem dL_law_524 : decode cL_law 524 = .ok (.iadd, 1) := by decide +kernel
theorem dL_law_525 : decode cL_law 525 = .ok (.iaload, 1) := by decide +kernel
theorem dL_law_526 : decode cL_law 526 = .ok (.invokevirtual 56, 3) := by decide +kernel
theorem dL_law_529 : decode cL_law 529 = .ok (.if_icmp .eq 1144, 3) := by decide +kernel
theorem dL_law_532 : decode cL_law 532 = .ok (.iconst 0, 1) := by decide +kernel
theorem dL_law_533 : decode cL_law 533 = .ok (.ireturn, 1) := by decide +kernel
theorem dL_law_534 : decode cL_law 534 = .ok (.aload_n 1, 1) := by decide +kernel
theorem dL_law_535 : decode cL_law 535 = .ok (.invokevirtual 57, 3) := by decide +kernel
theorem dL_law_538 : decode cL_law 538 = .ok (.aload_n 2, 1) := by decide +kernel
theorem dL_law_539 : decode cL_law 539 = .ok (.invokevirtual 60, 3) := by decide +kernel
theorem dL_law_542 : decode cL_law 542 = .ok (.if_icmp .eq 1131, 3) := by decide +kernel
theorem dL_law_545 : decode cL_law 545 = .ok (.iconst 0, 1) := by decide +kernel
theorem dL_law_546 : decode cL_law 546 = .ok (.ireturn, 1) := by decide +kernel
theorem dL_law_547 : decode cL_law 547 = .ok (.aload_n 1, 1) := by decide +kernel
theorem dL_law_548 : decode cL_law 548 = .ok (.aload_n 0, 1) := by decide +kernel
theorem dL_law_549 : decode cL_law 549 = .ok (.iload_n 3, 1) := by decide +kernel
theorem dL_law_550 : decode cL_law 550 = .ok (.iconst 1, 1) := by decide +kernel
theorem dL_law_551 : decode cL_law 551 = .ok (.iadd, 1) := by decide +kernel
theorem dL_law_552 : decode cL_law 552 = .ok (.iaload, 1) := by decide +kernel
theorem dL_law_553 : decode cL_law 553 = .ok (.aload_n 0, 1) := by decide +kernel
theorem dL_law_554 : decode cL_law 554 = .ok (.iload_n 3, 1) := by decide +kernel
theorem dL_law_555 : decode cL_law 555 = .ok (.iconst 2, 1) := by decide +kernel
theorem dL_law_556 : decode cL_law 556 = .ok (.iadd, 1) := by decide +kernel
theorem dL_law_557 : decode cL_law 557 = .ok (.iaload, 1) := by decide +kernel
theorem dL_law_558 : decode cL_law 558 = .ok (.aload_n 0, 1) := by decide +kernel
theorem dL_law_559 : decode cL_law 559 = .ok (.iload_n 3, 1) := by decide +kernel
theorem dL_law_560 : decode cL_law 560 = .ok (.iconst 3, 1) := by decide +kernel
theorem dL_law_561 : decode cL_law 561 = .ok (.iadd, 1) := by decide +kernel
theorem dL_law_562 : decode cL_law 562 = .ok (.iaload, 1) := by decide +kernel
theorem dL_law_563 : decode cL_law 563 = .ok (.invokevirtual 61, 3) := by decide +kernel
theorem dL_law_566 : decode cL_law 566 = .ok (.aload_n 2, 1) := by decide +kernel
theorem dL_law_567 : decode cL_law 567 = .ok (.aload_n 0, 1) := by decide +kernel
theorem dL_law_568 : decode cL_law 568 = .ok (.iload_n 3, 1) := by decide +kernel
theorem dL_law_569 : decode cL_law 569 = .ok (.iconst 1, 1) := by decide +kernel
theorem dL_law_570 : decode cL_law 570 = .ok (.iadd, 1) := by decide +kernel
theorem dL_law_571 : decode cL_law 571 = .ok (.iaload, 1) := by decide +kernel
theorem dL_law_572 : decode cL_law 572 = .ok (.aload_n 0, 1) := by decide +kernel
theorem dL_law_573 : decode cL_law 573 = .ok (.iload_n 3, 1) := by decide +kernel
theorem dL_law_574 : decode cL_law 574 = .ok (.iconst 2, 1) := by decide +kernel
theorem dL_law_575 : decode cL_law 575 = .ok (.iadd, 1) := by decide +kernel
theorem dL_law_576 : decode cL_law 576 = .ok (.iaload, 1) := by decide +kernel
theorem dL_law_577 : decode cL_law 577 = .ok (.aload_n 0, 1) := by decide +kernel
theorem dL_law_578 : decode cL_law 578 = .ok (.iload_n 3, 1) := by decide +kernel
theorem dL_law_579 : decode cL_law 579 = .ok (.iconst 3, 1) := by decide +kernel
theorem dL_law_580 : decode cL_law 580 = .ok (.iadd, 1) := by decide +kernel
theorem dL_law_581 : decode cL_law 581 = .ok (.iaload, 1) := by decide +kernel
theorem dL_law_582 : decode cL_law 582 = .ok (.invokevirtual 64, 3) := by decide +kernel
theorem dL_law_585 : decode cL_law 585 = .ok (.if_icmp .eq 1088, 3) := by decide +kernel
theorem dL_law_588 : decode cL_law 588 = .ok (.iconst 0, 1) := by decide +kernel
theorem dL_law_589 : decode cL_law 589 = .ok (.ireturn, 1) := by decide +kernel
theorem dL_law_590 : decode cL_law 590 = .ok (.aload_n 1, 1) := by decide +kernel
theorem dL_law_591 : decode cL_law 591 = .ok (.aload_n 0, 1) := by decide +kernel
theorem dL_law_592 : decode cL_law 592 = .ok (.iload_n 3, 1) := by decide +kernel
theorem dL_law_593 : decode cL_law 593 = .ok (.iconst 1, 1) := by decide +kernel
theorem dL_law_594 : decode cL_law 594 = .ok (.iadd, 1) := by decide +kernel
theorem dL_law_595 : decode cL_law 595 = .ok (.iaload, 1) := by decide +kernel
theorem dL_law_596 : decode cL_law 596 = .ok (.invokevirtual 65, 3) := by decide +kernel
theorem dL_law_599 : decode cL_law 599 = .ok (.aload_n 2, 1) := by decide +kernel
theorem dL_law_600 : decode cL_law 600 = .ok (.aload_n 0, 1) := by decide +kernel
theorem dL_law_601 : decode cL_law 601 = .ok (.iload_n 3, 1) := by decide +kernel
theorem dL_law_602 : decode cL_law 602 = .ok (.iconst 1, 1) := by decide +kernel
theorem dL_law_603 : decode cL_law 603 = .ok (.iadd, 1) := by decide +kernel
theorem dL_law_604 : decode cL_law 604 = .ok (.iaload, 1) := by decide +kernel
theorem dL_law_605 : decode cL_law 605 = .ok (.invokevirtual 68, 3) := by decide +kernel
theorem dL_law_608 : decode cL_law 608 = .ok (.if_icmp .eq 1065, 3) := by decide +kernel
theorem dL_law_611 : decode cL_law 611 = .ok (.iconst 0, 1) := by decide +kernel
theorem dL_law_612 : decode cL_law 612 = .ok (.ireturn, 1) := by decide +kernel
theorem dL_law_613 : decode cL_law 613 = .ok (.aload_n 1, 1) := by decide +kernel
theorem dL_law_614 : decode cL_law 614 = .ok (.aload_n 0, 1) := by decide +kernel
theorem dL_law_615 : decode cL_law 615 = .ok (.iload_n 3, 1) := by decide +kernel
theorem dL_law_616 : decode cL_law 616 = .ok (.iconst 1, 1) := by decide +kernel
theorem dL_law_617 : decode cL_law 617 = .ok (.iadd, 1) := by decide +kernel
theorem dL_law_618 : decode cL_law 618 = .ok (.iaload, 1) := by decide +kernel
theorem dL_law_619 : decode cL_law 619 = .ok (.invokevirtual 69, 3) := by decide +kernel
theorem dL_law_622 : decode cL_law 622 = .ok (.aload_n 2, 1) := by decide +kernel
theorem dL_law_623 : decode cL_law 623 = .ok (.aload_n 0, 1) := by decide +kernel
theorem dL_law_624 : decode cL_law 624 = .ok (.iload_n 3, 1) := by decide +kernel
theorem dL_law_625 : decode cL_law 625 = .ok (.iconst 1, 1) := by decide +kernel
theorem dL_law_626 : decode cL_law 626 = .ok (.iadd, 1) := by decide +kernel
theorem dL_law_627 : decode cL_law 627 = .ok (.iaload, 1) := by decide +kernel
theorem dL_law_628 : decode cL_law 628 = .ok (.invokevirtual 72, 3) := by decide +kernel
theorem dL_law_631 : decode cL_law 631 = .ok (.if_icmp .eq 1042, 3) := by decide +kernel
theorem dL_law_634 : decode cL_law 634 = .ok (.iconst 0, 1) := by decide +kernel
theorem dL_law_635 : decode cL_law 635 = .ok (.ireturn, 1) := by decide +kernel
theorem dL_law_636 : decode cL_law 636 = .ok (.aload_n 1, 1) := by decide +kernel
theorem dL_law_637 : decode cL_law 637 = .ok (.aload_n 0, 1) := by decide +kernel
theorem dL_law_638 : decode cL_law 638 = .ok (.iload_n 3, 1) := by decide +kernel
theorem dL_law_639 : decode cL_law 639 = .ok (.iconst 1, 1) := by decide +kernel
theorem dL_law_640 : decode cL_law 640 = .ok (.iadd, 1) := by decide +kernel
theorem dL_law_641 : decode cL_law 641 = .ok (.iaload, 1) := by decide +kernel
theorem dL_law_642 : decode cL_law 642 = .ok (.invokevirtual 73, 3) := by decide +kernel
theorem dL_law_645 : decode cL_law 645 = .ok (.aload_n 2, 1) := by decide +kernel
theorem dL_law_646 : decode cL_law 646 = .ok (.aload_n 0, 1) := by decide +kernel
theorem dL_law_647 : decode cL_law 647 = .ok (.iload_n 3, 1) := by decide +kernel
theorem dL_law_648 : decode cL_law 648 = .ok (.iconst 1, 1) := by decide +kernel
theorem dL_law_649 : decode cL_law 649 = .ok (.iadd, 1) := by decide +kernel
theorem dL_law_650 : decode cL_law 650 = .ok (.iaload, 1) := by decide +kernel
theorem dL_law_651 : decode cL_law 651 = .ok (.invokevirtual 76, 3) := by decide +kernel
theorem dL_law_654 : decode cL_law 654 = .ok (.if_icmp .eq 1019, 3) := by decide +kernel
theorem dL_law_657 : decode cL_law 657 = .ok (.iconst 0, 1) := by decide +kernel
theorem dL_law_658 : decode cL_law 658 = .ok (.ireturn, 1) := by decide +kernel
theorem dL_law_659 : decode cL_law 659 = .ok (.aload_n 1, 1) := by decide +kernel
theorem dL_law_660 : decode cL_law 660 = .ok (.aload_n 0, 1) := by decide +kernel
theorem dL_law_661 : decode cL_law 661 = .ok (.iload_n 3, 1) := by decide +kernel
theorem dL_law_662 : decode cL_law 662 = .ok (.iconst 1, 1) := by decide +kernel
theorem dL_law_663 : decode cL_law 663 = .ok (.iadd, 1) := by decide +kernel
theorem dL_law_664 : decode cL_law 664 = .ok (.iaload, 1) := by decide +kernel
theorem dL_law_665 : decode cL_law 665 = .ok (.aload_n 0, 1) := by decide +kernel
theorem dL_law_666 : decode cL_law 666 = .ok (.iload_n 3, 1) := by decide +kernel
theorem dL_law_667 : decode cL_law 667 = .ok (.iconst 2, 1) := by decide +kernel
theorem dL_law_668 : decode cL_law 668 = .ok (.iadd, 1) := by decide +kernel
theorem dL_law_669 : decode cL_law 669 = .ok (.iaload, 1) := by decide +kernel
theorem dL_law_670 : decode cL_law 670 = .ok (.aload_n 0, 1) := by decide +kernel
theorem dL_law_671 : decode cL_law 671 = .ok (.iload_n 3, 1) := by decide +kernel
theorem dL_law_672 : decode cL_law 672 = .ok (.iconst 3, 1) := by decide +kernel
theorem dL_law_673 : decode cL_law 673 = .ok (.iadd, 1) := by decide +kernel
theorem dL_law_674 : decode cL_law 674 = .ok (.iaload, 1) := by decide +kernel
theorem dL_law_675 : decode cL_law 675 = .ok (.invokevirtual 77, 3) := by decide +kernel
theorem dL_law_678 : decode cL_law 678 = .ok (.aload_n 2, 1) := by decide +kernel
theorem dL_law_679 : decode cL_law 679 = .ok (.aload_n 0, 1) := by decide +kernel
theorem dL_law_680 : decode cL_law 680 = .ok (.iload_n 3, 1) := by decide +kernel
theorem dL_law_681 : decode cL_law 681 = .ok (.iconst 1, 1) := by decide +kernel
theorem dL_law_682 : decode cL_law 682 = .ok (.iadd, 1) := by decide +kernel
theorem dL_law_683 : decode cL_law 683 = .ok (.iaload, 1) := by decide +kernel
theorem dL_law_684 : decode cL_law 684 = .ok (.aload_n 0, 1) := by decide +kernel
theorem dL_law_685 : decode cL_law 685 = .ok (.iload_n 3, 1) := by decide +kernel
theorem dL_law_686 : decode cL_law 686 = .ok (.iconst 2, 1) := by decide +kernel
theorem dL_law_687 : decode cL_law 687 = .ok (.iadd, 1) := by decide +kernel
theorem dL_law_688 : decode cL_law 688 = .ok (.iaload, 1) := by decide +kernel
theorem dL_law_689 : decode cL_law 689 = .ok (.aload_n 0, 1) := by decide +kernel
theorem dL_law_690 : decode cL_law 690 = .ok (.iload_n 3, 1) := by decide +kernel
theorem dL_law_691 : decode cL_law 691 = .ok (.iconst 3, 1) := by decide +kernel
theorem dL_law_692 : decode cL_law 692 = .ok (.iadd, 1) := by decide +kernel
theorem dL_law_693 : decode cL_law 693 = .ok (.iaload, 1) := by decide +kernel
theorem dL_law_694 : decode cL_law 694 = .ok (.invokevirtual 80, 3) := by decide +kernel
theorem dL_law_697 : decode cL_law 697 = .ok (.if_icmp .eq 976, 3) := by decide +kernel
theorem dL_law_700 : decode cL_law 700 = .ok (.iconst 0, 1) := by decide +kernel
theorem dL_law_701 : decode cL_law 701 = .ok (.ireturn, 1) := by decide +kernel
theorem dL_law_702 : decode cL_law 702 = .ok (.aload_n 1, 1) := by decide +kernel
theorem dL_law_703 : decode cL_law 703 = .ok (.aload_n 0, 1) := by decide +kernel
theorem dL_law_704 : decode cL_law 704 = .ok (.iload_n 3, 1) := by decide +kernel
theorem dL_law_705 : decode cL_law 705 = .ok (.iconst 1, 1) := by decide +kernel
theorem dL_law_706 : decode cL_law 706 = .ok (.iadd, 1) := by decide +kernel
theorem dL_law_707 : decode cL_law 707 = .ok (.iaload, 1) := by decide +kernel
theorem dL_law_708 : decode cL_law 708 = .ok (.aload_n 0, 1) := by decide +kernel
theorem dL_law_709 : decode cL_law 709 = .ok (.iload_n 3, 1) := by decide +kernel
theorem dL_law_710 : decode cL_law 710 = .ok (.iconst 2, 1) := by decide +kernel
theorem dL_law_711 : decode cL_law 711 = .ok (.iadd, 1) := by decide +kernel
theorem dL_law_712 : decode cL_law 712 = .ok (.iaload, 1) := by decide +kernel
theorem dL_law_713 : decode cL_law 713 = .ok (.aload_n 0, 1) := by decide +kernel
theorem dL_law_714 : decode cL_law 714 = .ok (.iload_n 3, 1) := by decide +kernel
theorem dL_law_715 : decode cL_law 715 = .ok (.iconst 3, 1) := by decide +kernel
theorem dL_law_716 : decode cL_law 716 = .ok (.iadd, 1) := by decide +kernel
theorem dL_law_717 : decode cL_law 717 = .ok (.iaload, 1) := by decide +kernel
theorem dL_law_718 : decode cL_law 718 = .ok (.invokevirtual 81, 3) := by decide +kernel
theorem dL_law_721 : decode cL_law 721 = .ok (.aload_n 2, 1) := by decide +kernel
theorem dL_law_722 : decode cL_law 722 = .ok (.aload_n 0, 1) := by decide +kernel
theorem dL_law_723 : decode cL_law 723 = .ok (.iload_n 3, 1) := by decide +kernel
theorem dL_law_724 : decode cL_law 724 = .ok (.iconst 1, 1) := by decide +kernel
theorem dL_law_725 : decode cL_law 725 = .ok (.iadd, 1) := by decide +kernel
theorem dL_law_726 : decode cL_law 726 = .ok (.iaload, 1) := by decide +kernel
theorem dL_law_727 : decode cL_law 727 = .ok (.aload_n 0, 1) := by decide +kernel
theorem dL_law_728 : decode cL_law 728 = .ok (.iload_n 3, 1) := by decide +kernel
theorem dL_law_729 : decode cL_law 729 = .ok (.iconst 2, 1) := by decide +kernel
theorem dL_law_730 : decode cL_law 730 = .ok (.iadd, 1) := by decide +kernel
theorem dL_law_731 : decode cL_law 731 = .ok (.iaload, 1) := by decide +kernel
theorem dL_law_732 : decode cL_law 732 = .ok (.aload_n 0, 1) := by decide +kernel
theorem dL_law_733 : decode cL_law 733 = .ok (.iload_n 3, 1) := by decide +kernel
theorem dL_law_734 : decode cL_law 734 = .ok (.iconst 3, 1) := by decide +kernel
theorem dL_law_735 : decode cL_law 735 = .ok (.iadd, 1) := by decide +kernel
theorem dL_law_736 : decode cL_law 736 = .ok (.iaload, 1) := by decide +kernel
theorem dL_law_737 : decode cL_law 737 = .ok (.invokevirtual 84, 3) := by decide +kernel
theorem dL_law_740 : decode cL_law 740 = .ok (.if_icmp .eq 933, 3) := by decide +kernel
theorem dL_law_743 : decode cL_law 743 = .ok (.iconst 0, 1) := by decide +kernel
theorem dL_law_744 : decode cL_law 744 = .ok (.ireturn, 1) := by decide +kernel
theorem dL_law_745 : decode cL_law 745 = .ok (.aload_n 1, 1) := by decide +kernel
theorem dL_law_746 : decode cL_law 746 = .ok (.aload_n 0, 1) := by decide +kernel
theorem dL_law_747 : decode cL_law 747 = .ok (.iload_n 3, 1) := by decide +kernel
theorem dL_law_748 : decode cL_law 748 = .ok (.iconst 1, 1) := by decide +kernel
theorem dL_law_749 : decode cL_law 749 = .ok (.iadd, 1) := by decide +kernel
theorem dL_law_750 : decode cL_law 750 = .ok (.iaload, 1) := by decide +kernel
theorem dL_law_751 : decode cL_law 751 = .ok (.invokevirtual 85, 3) := by decide +kernel
theorem dL_law_754 : decode cL_law 754 = .ok (.aload_n 2, 1) := by decide +kernel
theorem dL_law_755 : decode cL_law 755 = .ok (.aload_n 0, 1) := by decide +kernel
theorem dL_law_756 : decode cL_law 756 = .ok (.iload_n 3, 1) := by decide +kernel
theorem dL_law_757 : decode cL_law 757 = .ok (.iconst 1, 1) := by decide +kernel
theorem dL_law_758 : decode cL_law 758 = .ok (.iadd, 1) := by decide +kernel
theorem dL_law_759 : decode cL_law 759 = .ok (.iaload, 1) := by decide +kernel
theorem dL_law_760 : decode cL_law 760 = .ok (.invokevirtual 88, 3) := by decide +kernel
theorem dL_law_763 : decode cL_law 763 = .ok (.if_icmp .eq 910, 3) := by decide +kernel
theorem dL_law_766 : decode cL_law 766 = .ok (.iconst 0, 1) := by decide +kernel
theorem dL_law_767 : decode cL_law 767 = .ok (.ireturn, 1) := by decide +kernel
theorem dL_law_768 : decode cL_law 768 = .ok (.aload_n 1, 1) := by decide +kernel
theorem dL_law_769 : decode cL_law 769 = .ok (.aload_n 0, 1) := by decide +kernel
theorem dL_law_770 : decode cL_law 770 = .ok (.iload_n 3, 1) := by decide +kernel
theorem dL_law_771 : decode cL_law 771 = .ok (.iconst 1, 1) := by decide +kernel
theorem dL_law_772 : decode cL_law 772 = .ok (.iadd, 1) := by decide +kernel
theorem dL_law_773 : decode cL_law 773 = .ok (.iaload, 1) := by decide +kernel
theorem dL_law_774 : decode cL_law 774 = .ok (.aload_n 0, 1) := by decide +kernel
theorem dL_law_775 : decode cL_law 775 = .ok (.iload_n 3, 1) := by decide +kernel
theorem dL_law_776 : decode cL_law 776 = .ok (.iconst 2, 1) := by decide +kernel
theorem dL_law_777 : decode cL_law 777 = .ok (.iadd, 1) := by decide +kernel
theorem dL_law_778 : decode cL_law 778 = .ok (.iaload, 1) := by decide +kernel
theorem dL_law_779 : decode cL_law 779 = .ok (.invokevirtual 89, 3) := by decide +kernel
theorem dL_law_782 : decode cL_law 782 = .ok (.aload_n 2, 1) := by decide +kernel
theorem dL_law_783 : decode cL_law 783 = .ok (.aload_n 0, 1) := by decide +kernel
theorem dL_law_784 : decode cL_law 784 = .ok (.iload_n 3, 1) := by decide +kernel
theorem dL_law_785 : decode cL_law 785 = .ok (.iconst 1, 1) := by decide +kernel
theorem dL_law_786 : decode cL_law 786 = .ok (.iadd, 1) := by decide +kernel
theorem dL_law_787 : decode cL_law 787 = .ok (.iaload, 1) := by decide +kernel
theorem dL_law_788 : decode cL_law 788 = .ok (.aload_n 0, 1) := by decide +kernel
theorem dL_law_789 : decode cL_law 789 = .ok (.iload_n 3, 1) := by decide +kernel
theorem dL_law_790 : decode cL_law 790 = .ok (.iconst 2, 1) := by decide +kernel
theorem dL_law_791 : decode cL_law 791 = .ok (.iadd, 1) := by decide +kernel
theorem dL_law_792 : decode cL_law 792 = .ok (.iaload, 1) := by decide +kernel
theorem dL_law_793 : decode cL_law 793 = .ok (.invokevirtual 92, 3) := by decide +kernel
theorem dL_law_796 : decode cL_law 796 = .ok (.if_icmp .eq 877, 3) := by decide +kernel
theorem dL_law_799 : decode cL_law 799 = .ok (.iconst 0, 1) := by decide +kernel
theorem dL_law_800 : decode cL_law 800 = .ok (.ireturn, 1) := by decide +kernel
theorem dL_law_801 : decode cL_law 801 = .ok (.aload_n 1, 1) := by decide +kernel
theorem dL_law_802 : decode cL_law 802 = .ok (.aload_n 0, 1) := by decide +kernel
theorem dL_law_803 : decode cL_law 803 = .ok (.iload_n 3, 1) := by decide +kernel
theorem dL_law_804 : decode cL_law 804 = .ok (.iconst 1, 1) := by decide +kernel
theorem dL_law_805 : decode cL_law 805 = .ok (.iadd, 1) := by decide +kernel
theorem dL_law_806 : decode cL_law 806 = .ok (.iaload, 1) := by decide +kernel
theorem dL_law_807 : decode cL_law 807 = .ok (.aload_n 0, 1) := by decide +kernel
theorem dL_law_808 : decode cL_law 808 = .ok (.iload_n 3, 1) := by decide +kernel
theorem dL_law_809 : decode cL_law 809 = .ok (.iconst 2, 1) := by decide +kernel
theorem dL_law_810 : decode cL_law 810 = .ok (.iadd, 1) := by decide +kernel
theorem dL_law_811 : decode cL_law 811 = .ok (.iaload, 1) := by decide +kernel
theorem dL_law_812 : decode cL_law 812 = .ok (.aload_n 0, 1) := by decide +kernel
theorem dL_law_813 : decode cL_law 813 = .ok (.iload_n 3, 1) := by decide +kernel
theorem dL_law_814 : decode cL_law 814 = .ok (.iconst 3, 1) := by decide +kernel
theorem dL_law_815 : decode cL_law 815 = .ok (.iadd, 1) := by decide +kernel
theorem dL_law_816 : decode cL_law 816 = .ok (.iaload, 1) := by decide +kernel
theorem dL_law_817 : decode cL_law 817 = .ok (.invokevirtual 93, 3) := by decide +kernel
theorem dL_law_820 : decode cL_law 820 = .ok (.aload_n 2, 1) := by decide +kernel
theorem dL_law_821 : decode cL_law 821 = .ok (.aload_n 0, 1) := by decide +kernel
theorem dL_law_822 : decode cL_law 822 = .ok (.iload_n 3, 1) := by decide +kernel
theorem dL_law_823 : decode cL_law 823 = .ok (.iconst 1, 1) := by decide +kernel
theorem dL_law_824 : decode cL_law 824 = .ok (.iadd, 1) := by decide +kernel
theorem dL_law_825 : decode cL_law 825 = .ok (.iaload, 1) := by decide +kernel
theorem dL_law_826 : decode cL_law 826 = .ok (.aload_n 0, 1) := by decide +kernel
theorem dL_law_827 : decode cL_law 827 = .ok (.iload_n 3, 1) := by decide +kernel
theorem dL_law_828 : decode cL_law 828 = .ok (.iconst 2, 1) := by decide +kernel
theorem dL_law_829 : decode cL_law 829 = .ok (.iadd, 1) := by decide +kernel
theorem dL_law_830 : decode cL_law 830 = .ok (.iaload, 1) := by decide +kernel
theorem dL_law_831 : decode cL_law 831 = .ok (.aload_n 0, 1) := by decide +kernel
theorem dL_law_832 : decode cL_law 832 = .ok (.iload_n 3, 1) := by decide +kernel
theorem dL_law_833 : decode cL_law 833 = .ok (.iconst 3, 1) := by decide +kernel
theorem dL_law_834 : decode cL_law 834 = .ok (.iadd, 1) := by decide +kernel
theorem dL_law_835 : decode cL_law 835 = .ok (.iaload, 1) := by decide +kernel
theorem dL_law_836 : decode cL_law 836 = .ok (.invokevirtual 96, 3) := by decide +kernel
theorem dL_law_839 : decode cL_law 839 = .ok (.if_icmp .eq 834, 3) := by decide +kernel
theorem dL_law_842 : decode cL_law 842 = .ok (.iconst 0, 1) := by decide +kernel
theorem dL_law_843 : decode cL_law 843 = .ok (.ireturn, 1) := by decide +kernel
theorem dL_law_844 : decode cL_law 844 = .ok (.aload_n 1, 1) := by decide +kernel
theorem dL_law_845 : decode cL_law 845 = .ok (.aload_n 0, 1) := by decide +kernel
theorem dL_law_846 : decode cL_law 846 = .ok (.iload_n 3, 1) := by decide +kernel
theorem dL_law_847 : decode cL_law 847 = .ok (.iconst 1, 1) := by decide +kernel
theorem dL_law_848 : decode cL_law 848 = .ok (.iadd, 1) := by decide +kernel
theorem dL_law_849 : decode cL_law 849 = .ok (.iaload, 1) := by decide +kernel
theorem dL_law_850 : decode cL_law 850 = .ok (.aload_n 0, 1) := by decide +kernel
theorem dL_law_851 : decode cL_law 851 = .ok (.iload_n 3, 1) := by decide +kernel
theorem dL_law_852 : decode cL_law 852 = .ok (.iconst 2, 1) := by decide +kernel
theorem dL_law_853 : decode cL_law 853 = .ok (.iadd, 1) := by decide +kernel
theorem dL_law_854 : decode cL_law 854 = .ok (.iaload, 1) := by decide +kernel
theorem dL_law_855 : decode cL_law 855 = .ok (.aload_n 0, 1) := by decide +kernel
theorem dL_law_856 : decode cL_law 856 = .ok (.iload_n 3, 1) := by decide +kernel
theorem dL_law_857 : decode cL_law 857 = .ok (.iconst 3, 1) := by decide +kernel
theorem dL_law_858 : decode cL_law 858 = .ok (.iadd, 1) := by decide +kernel
theorem dL_law_859 : decode cL_law 859 = .ok (.iaload, 1) := by decide +kernel
theorem dL_law_860 : decode cL_law 860 = .ok (.invokevirtual 97, 3) := by decide +kernel
theorem dL_law_863 : decode cL_law 863 = .ok (.aload_n 2, 1) := by decide +kernel
theorem dL_law_864 : decode cL_law 864 = .ok (.aload_n 0, 1) := by decide +kernel
theorem dL_law_865 : decode cL_law 865 = .ok (.iload_n 3, 1) := by decide +kernel
theorem dL_law_866 : decode cL_law 866 = .ok (.iconst 1, 1) := by decide +kernel
theorem dL_law_867 : decode cL_law 867 = .ok (.iadd, 1) := by decide +kernel
theorem dL_law_868 : decode cL_law 868 = .ok (.iaload, 1) := by decide +kernel
theorem dL_law_869 : decode cL_law 869 = .ok (.aload_n 0, 1) := by decide +kernel
theorem dL_law_870 : decode cL_law 870 = .ok (.iload_n 3, 1) := by decide +kernel
theorem dL_law_871 : decode cL_law 871 = .ok (.iconst 2, 1) := by decide +kernel
theorem dL_law_872 : decode cL_law 872 = .ok (.iadd, 1) := by decide +kernel
theorem dL_law_873 : decode cL_law 873 = .ok (.iaload, 1) := by decide +kernel
theorem dL_law_874 : decode cL_law 874 = .ok (.aload_n 0, 1) := by decide +kernel
theorem dL_law_875 : decode cL_law 875 = .ok (.iload_n 3, 1) := by decide +kernel
theorem dL_law_876 : decode cL_law 876 = .ok (.iconst 3, 1) := by decide +kernel
theorem dL_law_877 : decode cL_law 877 = .ok (.iadd, 1) := by decide +kernel
theorem dL_law_878 : decode cL_law 878 = .ok (.iaload, 1) := by decide +kernel
theorem dL_law_879 : decode cL_law 879 = .ok (.invokevirtual 100, 3) := by decide +kernel
theorem dL_law_882 : decode cL_law 882 = .ok (.if_icmp .eq 791, 3) := by decide +kernel
theorem dL_law_885 : decode cL_law 885 = .ok (.iconst 0, 1) := by decide +kernel
theorem dL_law_886 : decode cL_law 886 = .ok (.ireturn, 1) := by decide +kernel
theorem dL_law_887 : decode cL_law 887 = .ok (.aload_n 1, 1) := by decide +kernel
theorem dL_law_888 : decode cL_law 888 = .ok (.aload_n 0, 1) := by decide +kernel
theorem dL_law_889 : decode cL_law 889 = .ok (.iload_n 3, 1) := by decide +kernel
theorem dL_law_890 : decode cL_law 890 = .ok (.iconst 1, 1) := by decide +kernel
theorem dL_law_891 : decode cL_law 891 = .ok (.iadd, 1) := by decide +kernel
theorem dL_law_892 : decode cL_law 892 = .ok (.iaload, 1) := by decide +kernel
theorem dL_law_893 : decode cL_law 893 = .ok (.invokevirtual 101, 3) := by decide +kernel
theorem dL_law_896 : decode cL_law 896 = .ok (.aload_n 2, 1) := by decide +kernel
theorem dL_law_897 : decode cL_law 897 = .ok (.aload_n 0, 1) := by decide +kernel
theorem dL_law_898 : decode cL_law 898 = .ok (.iload_n 3, 1) := by decide +kernel
theorem dL_law_899 : decode cL_law 899 = .ok (.iconst 1, 1) := by decide +kernel
theorem dL_law_900 : decode cL_law 900 = .ok (.iadd, 1) := by decide +kernel
theorem dL_law_901 : decode cL_law 901 = .ok (.iaload, 1) := by decide +kernel
theorem dL_law_902 : decode cL_law 902 = .ok (.invokevirtual 104, 3) := by decide +kernel
theorem dL_law_905 : decode cL_law 905 = .ok (.if_icmp .eq 768, 3) := by decide +kernel
theorem dL_law_908 : decode cL_law 908 = .ok (.iconst 0, 1) := by decide +kernel
theorem dL_law_909 : decode cL_law 909 = .ok (.ireturn, 1) := by decide +kernel
theorem dL_law_910 : decode cL_law 910 = .ok (.aload_n 1, 1) := by decide +kernel
theorem dL_law_911 : decode cL_law 911 = .ok (.aload_n 0, 1) := by decide +kernel
theorem dL_law_912 : decode cL_law 912 = .ok (.iload_n 3, 1) := by decide +kernel
theorem dL_law_913 : decode cL_law 913 = .ok (.iconst 1, 1) := by decide +kernel
theorem dL_law_914 : decode cL_law 914 = .ok (.iadd, 1) := by decide +kernel
theorem dL_law_915 : decode cL_law 915 = .ok (.iaload, 1) := by decide +kernel
theorem dL_law_916 : decode cL_law 916 = .ok (.aload_n 0, 1) := by decide +kernel
theorem dL_law_917 : decode cL_law 917 = .ok (.iload_n 3, 1) := by decide +kernel
theorem dL_law_918 : decode cL_law 918 = .ok (.iconst 2, 1) := by decide +kernel
theorem dL_law_919 : decode cL_law 919 = .ok (.iadd, 1) := by decide +kernel
theorem dL_law_920 : decode cL_law 920 = .ok (.iaload, 1) := by decide +kernel
theorem dL_law_921 : decode cL_law 921 = .ok (.invokevirtual 105, 3) := by decide +kernel
theorem dL_law_924 : decode cL_law 924 = .ok (.aload_n 2, 1) := by decide +kernel
theorem dL_law_925 : decode cL_law 925 = .ok (.aload_n 0, 1) := by decide +kernel
theorem dL_law_926 : decode cL_law 926 = .ok (.iload_n 3, 1) := by decide +kernel
theorem dL_law_927 : decode cL_law 927 = .ok (.iconst 1, 1) := by decide +kernel
theorem dL_law_928 : decode cL_law 928 = .ok (.iadd, 1) := by decide +kernel
theorem dL_law_929 : decode cL_law 929 = .ok (.iaload, 1) := by decide +kernel
theorem dL_law_930 : decode cL_law 930 = .ok (.aload_n 0, 1) := by decide +kernel
theorem dL_law_931 : decode cL_law 931 = .ok (.iload_n 3, 1) := by decide +kernel
theorem dL_law_932 : decode cL_law 932 = .ok (.iconst 2, 1) := by decide +kernel
theorem dL_law_933 : decode cL_law 933 = .ok (.iadd, 1) := by decide +kernel
theorem dL_law_934 : decode cL_law 934 = .ok (.iaload, 1) := by decide +kernel
theorem dL_law_935 : decode cL_law 935 = .ok (.invokevirtual 109, 3) := by decide +kernel
theorem dL_law_938 : decode cL_law 938 = .ok (.lcmp, 1) := by decide +kernel
theorem dL_law_939 : decode cL_law 939 = .ok (.ifCond .eq 734, 3) := by decide +kernel
theorem dL_law_942 : decode cL_law 942 = .ok (.iconst 0, 1) := by decide +kernel
theorem dL_law_943 : decode cL_law 943 = .ok (.ireturn, 1) := by decide +kernel
theorem dL_law_944 : decode cL_law 944 = .ok (.aload_n 1, 1) := by decide +kernel
theorem dL_law_945 : decode cL_law 945 = .ok (.aload_n 0, 1) := by decide +kernel
theorem dL_law_946 : decode cL_law 946 = .ok (.iload_n 3, 1) := by decide +kernel
theorem dL_law_947 : decode cL_law 947 = .ok (.iconst 1, 1) := by decide +kernel
theorem dL_law_948 : decode cL_law 948 = .ok (.iadd, 1) := by decide +kernel
theorem dL_law_949 : decode cL_law 949 = .ok (.iaload, 1) := by decide +kernel
theorem dL_law_950 : decode cL_law 950 = .ok (.aload_n 0, 1) := by decide +kernel
theorem dL_law_951 : decode cL_law 951 = .ok (.iload_n 3, 1) := by decide +kernel
theorem dL_law_952 : decode cL_law 952 = .ok (.iconst 2, 1) := by decide +kernel
theorem dL_law_953 : decode cL_law 953 = .ok (.iadd, 1) := by decide +kernel
theorem dL_law_954 : decode cL_law 954 = .ok (.iaload, 1) := by decide +kernel
theorem dL_law_955 : decode cL_law 955 = .ok (.invokevirtual 110, 3) := by decide +kernel
theorem dL_law_958 : decode cL_law 958 = .ok (.aload_n 2, 1) := by decide +kernel
theorem dL_law_959 : decode cL_law 959 = .ok (.aload_n 0, 1) := by decide +kernel
theorem dL_law_960 : decode cL_law 960 = .ok (.iload_n 3, 1) := by decide +kernel
theorem dL_law_961 : decode cL_law 961 = .ok (.iconst 1, 1) := by decide +kernel
theorem dL_law_962 : decode cL_law 962 = .ok (.iadd, 1) := by decide +kernel
theorem dL_law_963 : decode cL_law 963 = .ok (.iaload, 1) := by decide +kernel
theorem dL_law_964 : decode cL_law 964 = .ok (.aload_n 0, 1) := by decide +kernel
theorem dL_law_965 : decode cL_law 965 = .ok (.iload_n 3, 1) := by decide +kernel
theorem dL_law_966 : decode cL_law 966 = .ok (.iconst 2, 1) := by decide +kernel
theorem dL_law_967 : decode cL_law 967 = .ok (.iadd, 1) := by decide +kernel
theorem dL_law_968 : decode cL_law 968 = .ok (.iaload, 1) := by decide +kernel
theorem dL_law_969 : decode cL_law 969 = .ok (.invokevirtual 113, 3) := by decide +kernel
theorem dL_law_972 : decode cL_law 972 = .ok (.if_icmp .eq 701, 3) := by decide +kernel
theorem dL_law_975 : decode cL_law 975 = .ok (.iconst 0, 1) := by decide +kernel
theorem dL_law_976 : decode cL_law 976 = .ok (.ireturn, 1) := by decide +kernel
theorem dL_law_977 : decode cL_law 977 = .ok (.aload_n 1, 1) := by decide +kernel
theorem dL_law_978 : decode cL_law 978 = .ok (.aload_n 0, 1) := by decide +kernel
theorem dL_law_979 : decode cL_law 979 = .ok (.iload_n 3, 1) := by decide +kernel
theorem dL_law_980 : decode cL_law 980 = .ok (.iconst 1, 1) := by decide +kernel
theorem dL_law_981 : decode cL_law 981 = .ok (.iadd, 1) := by decide +kernel
theorem dL_law_982 : decode cL_law 982 = .ok (.iaload, 1) := by decide +kernel
theorem dL_law_983 : decode cL_law 983 = .ok (.aload_n 0, 1) := by decide +kernel
theorem dL_law_984 : decode cL_law 984 = .ok (.iload_n 3, 1) := by decide +kernel
theorem dL_law_985 : decode cL_law 985 = .ok (.iconst 2, 1) := by decide +kernel
theorem dL_law_986 : decode cL_law 986 = .ok (.iadd, 1) := by decide +kernel
theorem dL_law_987 : decode cL_law 987 = .ok (.iaload, 1) := by decide +kernel
theorem dL_law_988 : decode cL_law 988 = .ok (.aload_n 0, 1) := by decide +kernel
theorem dL_law_989 : decode cL_law 989 = .ok (.iload_n 3, 1) := by decide +kernel
theorem dL_law_990 : decode cL_law 990 = .ok (.iconst 3, 1) := by decide +kernel
theorem dL_law_991 : decode cL_law 991 = .ok (.iadd, 1) := by decide +kernel
theorem dL_law_992 : decode cL_law 992 = .ok (.iaload, 1) := by decide +kernel
theorem dL_law_993 : decode cL_law 993 = .ok (.invokevirtual 114, 3) := by decide +kernel
theorem dL_law_996 : decode cL_law 996 = .ok (.aload_n 2, 1) := by decide +kernel
theorem dL_law_997 : decode cL_law 997 = .ok (.aload_n 0, 1) := by decide +kernel
theorem dL_law_998 : decode cL_law 998 = .ok (.iload_n 3, 1) := by decide +kernel
theorem dL_law_999 : decode cL_law 999 = .ok (.iconst 1, 1) := by decide +kernel
theorem dL_law_1000 : decode cL_law 1000 = .ok (.iadd, 1) := by decide +kernel
theorem dL_law_1001 : decode cL_law 1001 = .ok (.iaload, 1) := by decide +kernel
theorem dL_law_1002 : decode cL_law 1002 = .ok (.aload_n 0, 1) := by decide +kernel
theorem dL_law_1003 : decode cL_law 1003 = .ok (.iload_n 3, 1) := by decide +kernel
theorem dL_law_1004 : decode cL_law 1004 = .ok (.iconst 2, 1) := by decide +kernel
theorem dL_law_1005 : decode cL_law 1005 = .ok (.iadd, 1) := by decide +kernel
theorem dL_law_1006 : decode cL_law 1006 = .ok (.iaload, 1) := by decide +kernel
theorem dL_law_1007 : decode cL_law 1007 = .ok (.aload_n 0, 1) := by decide +kernel
theorem dL_law_1008 : decode cL_law 1008 = .ok (.iload_n 3, 1) := by decide +kernel
theorem dL_law_1009 : decode cL_law 1009 = .ok (.iconst 3, 1) := by decide +kernel
theorem dL_law_1010 : decode cL_law 1010 = .ok (.iadd, 1) := by decide +kernel
theorem dL_law_1011 : decode cL_law 1011 = .ok (.iaload, 1) := by decide +kernel
theorem dL_law_1012 : decode cL_law 1012 = .ok (.invokevirtual 117, 3) := by decide +kernel
theorem dL_law_1015 : decode cL_law 1015 = .ok (.if_icmp .eq 658, 3) := by decide +kernel
theorem dL_law_1018 : decode cL_law 1018 = .ok (.iconst 0, 1) := by decide +kernel
theorem dL_law_1019 : decode cL_law 1019 = .ok (.ireturn, 1) := by decide +kernel
theorem dL_law_1020 : decode cL_law 1020 = .ok (.aload_n 1, 1) := by decide +kernel
theorem dL_law_1021 : decode cL_law 1021 = .ok (.aload_n 0, 1) := by decide +kernel
theorem dL_law_1022 : decode cL_law 1022 = .ok (.iload_n 3, 1) := by decide +kernel
theorem dL_law_1023 : decode cL_law 1023 = .ok (.iconst 1, 1) := by decide +kernel
theorem dL_law_1024 : decode cL_law 1024 = .ok (.iadd, 1) := by decide +kernel
theorem dL_law_1025 : decode cL_law 1025 = .ok (.iaload, 1) := by decide +kernel
theorem dL_law_1026 : decode cL_law 1026 = .ok (.aload_n 0, 1) := by decide +kernel
theorem dL_law_1027 : decode cL_law 1027 = .ok (.iload_n 3, 1) := by decide +kernel
theorem dL_law_1028 : decode cL_law 1028 = .ok (.iconst 2, 1) := by decide +kernel
theorem dL_law_1029 : decode cL_law 1029 = .ok (.iadd, 1) := by decide +kernel
theorem dL_law_1030 : decode cL_law 1030 = .ok (.iaload, 1) := by decide +kernel
theorem dL_law_1031 : decode cL_law 1031 = .ok (.invokevirtual 118, 3) := by decide +kernel
theorem dL_law_1034 : decode cL_law 1034 = .ok (.aload_n 2, 1) := by decide +kernel
theorem dL_law_1035 : decode cL_law 1035 = .ok (.aload_n 0, 1) := by decide +kernel
theorem dL_law_1036 : decode cL_law 1036 = .ok (.iload_n 3, 1) := by decide +kernel
theorem dL_law_1037 : decode cL_law 1037 = .ok (.iconst 1, 1) := by decide +kernel
theorem dL_law_1038 : decode cL_law 1038 = .ok (.iadd, 1) := by decide +kernel
theorem dL_law_1039 : decode cL_law 1039 = .ok (.iaload, 1) := by decide +kernel
theorem dL_law_1040 : decode cL_law 1040 = .ok (.aload_n 0, 1) := by decide +kernel
theorem dL_law_1041 : decode cL_law 1041 = .ok (.iload_n 3, 1) := by decide +kernel
theorem dL_law_1042 : decode cL_law 1042 = .ok (.iconst 2, 1) := by decide +kernel
theorem dL_law_1043 : decode cL_law 1043 = .ok (.iadd, 1) := by decide +kernel
theorem dL_law_1044 : decode cL_law 1044 = .ok (.iaload, 1) := by decide +kernel
theorem dL_law_1045 : decode cL_law 1045 = .ok (.invokevirtual 121, 3) := by decide +kernel
theorem dL_law_1048 : decode cL_law 1048 = .ok (.if_icmp .eq 625, 3) := by decide +kernel
theorem dL_law_1051 : decode cL_law 1051 = .ok (.iconst 0, 1) := by decide +kernel
theorem dL_law_1052 : decode cL_law 1052 = .ok (.ireturn, 1) := by decide +kernel
theorem dL_law_1053 : decode cL_law 1053 = .ok (.aload_n 1, 1) := by decide +kernel
theorem dL_law_1054 : decode cL_law 1054 = .ok (.aload_n 0, 1) := by decide +kernel
theorem dL_law_1055 : decode cL_law 1055 = .ok (.iload_n 3, 1) := by decide +kernel
theorem dL_law_1056 : decode cL_law 1056 = .ok (.iconst 1, 1) := by decide +kernel
theorem dL_law_1057 : decode cL_law 1057 = .ok (.iadd, 1) := by decide +kernel
theorem dL_law_1058 : decode cL_law 1058 = .ok (.iaload, 1) := by decide +kernel
theorem dL_law_1059 : decode cL_law 1059 = .ok (.invokevirtual 122, 3) := by decide +kernel
theorem dL_law_1062 : decode cL_law 1062 = .ok (.aload_n 2, 1) := by decide +kernel
theorem dL_law_1063 : decode cL_law 1063 = .ok (.aload_n 0, 1) := by decide +kernel
theorem dL_law_1064 : decode cL_law 1064 = .ok (.iload_n 3, 1) := by decide +kernel
theorem dL_law_1065 : decode cL_law 1065 = .ok (.iconst 1, 1) := by decide +kernel
theorem dL_law_1066 : decode cL_law 1066 = .ok (.iadd, 1) := by decide +kernel
theorem dL_law_1067 : decode cL_law 1067 = .ok (.iaload, 1) := by decide +kernel
theorem dL_law_1068 : decode cL_law 1068 = .ok (.invokevirtual 125, 3) := by decide +kernel
theorem dL_law_1071 : decode cL_law 1071 = .ok (.if_icmp .eq 602, 3) := by decide +kernel
theorem dL_law_1074 : decode cL_law 1074 = .ok (.iconst 0, 1) := by decide +kernel
theorem dL_law_1075 : decode cL_law 1075 = .ok (.ireturn, 1) := by decide +kernel
theorem dL_law_1076 : decode cL_law 1076 = .ok (.aload_n 1, 1) := by decide +kernel
theorem dL_law_1077 : decode cL_law 1077 = .ok (.aload_n 0, 1) := by decide +kernel
theorem dL_law_1078 : decode cL_law 1078 = .ok (.iload_n 3, 1) := by decide +kernel
theorem dL_law_1079 : decode cL_law 1079 = .ok (.iconst 1, 1) := by decide +kernel
theorem dL_law_1080 : decode cL_law 1080 = .ok (.iadd, 1) := by decide +kernel
theorem dL_law_1081 : decode cL_law 1081 = .ok (.iaload, 1) := by decide +kernel
theorem dL_law_1082 : decode cL_law 1082 = .ok (.aload_n 0, 1) := by decide +kernel
theorem dL_law_1083 : decode cL_law 1083 = .ok (.iload_n 3, 1) := by decide +kernel
theorem dL_law_1084 : decode cL_law 1084 = .ok (.iconst 2, 1) := by decide +kernel
theorem dL_law_1085 : decode cL_law 1085 = .ok (.iadd, 1) := by decide +kernel
theorem dL_law_1086 : decode cL_law 1086 = .ok (.iaload, 1) := by decide +kernel
theorem dL_law_1087 : decode cL_law 1087 = .ok (.aload_n 0, 1) := by decide +kernel
theorem dL_law_1088 : decode cL_law 1088 = .ok (.iload_n 3, 1) := by decide +kernel
theorem dL_law_1089 : decode cL_law 1089 = .ok (.iconst 3, 1) := by decide +kernel
theorem dL_law_1090 : decode cL_law 1090 = .ok (.iadd, 1) := by decide +kernel
theorem dL_law_1091 : decode cL_law 1091 = .ok (.iaload, 1) := by decide +kernel
theorem dL_law_1092 : decode cL_law 1092 = .ok (.aload_n 0, 1) := by decide +kernel
theorem dL_law_1093 : decode cL_law 1093 = .ok (.iload_n 3, 1) := by decide +kernel
theorem dL_law_1094 : decode cL_law 1094 = .ok (.iconst 4, 1) := by decide +kernel
theorem dL_law_1095 : decode cL_law 1095 = .ok (.iadd, 1) := by decide +kernel
theorem dL_law_1096 : decode cL_law 1096 = .ok (.iaload, 1) := by decide +kernel
theorem dL_law_1097 : decode cL_law 1097 = .ok (.aload_n 0, 1) := by decide +kernel
theorem dL_law_1098 : decode cL_law 1098 = .ok (.iload_n 3, 1) := by decide +kernel
theorem dL_law_1099 : decode cL_law 1099 = .ok (.iconst 5, 1) := by decide +kernel
theorem dL_law_1100 : decode cL_law 1100 = .ok (.iadd, 1) := by decide +kernel
theorem dL_law_1101 : decode cL_law 1101 = .ok (.iaload, 1) := by decide +kernel
theorem dL_law_1102 : decode cL_law 1102 = .ok (.invokevirtual 126, 3) := by decide +kernel
theorem dL_law_1105 : decode cL_law 1105 = .ok (.aload_n 2, 1) := by decide +kernel
theorem dL_law_1106 : decode cL_law 1106 = .ok (.aload_n 0, 1) := by decide +kernel
theorem dL_law_1107 : decode cL_law 1107 = .ok (.iload_n 3, 1) := by decide +kernel
theorem dL_law_1108 : decode cL_law 1108 = .ok (.iconst 1, 1) := by decide +kernel
theorem dL_law_1109 : decode cL_law 1109 = .ok (.iadd, 1) := by decide +kernel
theorem dL_law_1110 : decode cL_law 1110 = .ok (.iaload, 1) := by decide +kernel
theorem dL_law_1111 : decode cL_law 1111 = .ok (.aload_n 0, 1) := by decide +kernel
theorem dL_law_1112 : decode cL_law 1112 = .ok (.iload_n 3, 1) := by decide +kernel
theorem dL_law_1113 : decode cL_law 1113 = .ok (.iconst 2, 1) := by decide +kernel
theorem dL_law_1114 : decode cL_law 1114 = .ok (.iadd, 1) := by decide +kernel
theorem dL_law_1115 : decode cL_law 1115 = .ok (.iaload, 1) := by decide +kernel
theorem dL_law_1116 : decode cL_law 1116 = .ok (.aload_n 0, 1) := by decide +kernel
theorem dL_law_1117 : decode cL_law 1117 = .ok (.iload_n 3, 1) := by decide +kernel
theorem dL_law_1118 : decode cL_law 1118 = .ok (.iconst 3, 1) := by decide +kernel
theorem dL_law_1119 : decode cL_law 1119 = .ok (.iadd, 1) := by decide +kernel
theorem dL_law_1120 : decode cL_law 1120 = .ok (.iaload, 1) := by decide +kernel
theorem dL_law_1121 : decode cL_law 1121 = .ok (.aload_n 0, 1) := by decide +kernel
theorem dL_law_1122 : decode cL_law 1122 = .ok (.iload_n 3, 1) := by decide +kernel
theorem dL_law_1123 : decode cL_law 1123 = .ok (.iconst 4, 1) := by decide +kernel
theorem dL_law_1124 : decode cL_law 1124 = .ok (.iadd, 1) := by decide +kernel
theorem dL_law_1125 : decode cL_law 1125 = .ok (.iaload, 1) := by decide +kernel
theorem dL_law_1126 : decode cL_law 1126 = .ok (.aload_n 0, 1) := by decide +kernel
theorem dL_law_1127 : decode cL_law 1127 = .ok (.iload_n 3, 1) := by decide +kernel
theorem dL_law_1128 : decode cL_law 1128 = .ok (.iconst 5, 1) := by decide +kernel
theorem dL_law_1129 : decode cL_law 1129 = .ok (.iadd, 1) := by decide +kernel
theorem dL_law_1130 : decode cL_law 1130 = .ok (.iaload, 1) := by decide +kernel
theorem dL_law_1131 : decode cL_law 1131 = .ok (.invokevirtual 130, 3) := by decide +kernel
theorem dL_law_1134 : decode cL_law 1134 = .ok (.lcmp, 1) := by decide +kernel
theorem dL_law_1135 : decode cL_law 1135 = .ok (.ifCond .eq 538, 3) := by decide +kernel
theorem dL_law_1138 : decode cL_law 1138 = .ok (.iconst 0, 1) := by decide +kernel
theorem dL_law_1139 : decode cL_law 1139 = .ok (.ireturn, 1) := by decide +kernel
theorem dL_law_1140 : decode cL_law 1140 = .ok (.aload_n 1, 1) := by decide +kernel
theorem dL_law_1141 : decode cL_law 1141 = .ok (.aload_n 0, 1) := by decide +kernel
theorem dL_law_1142 : decode cL_law 1142 = .ok (.iload_n 3, 1) := by decide +kernel
theorem dL_law_1143 : decode cL_law 1143 = .ok (.iconst 1, 1) := by decide +kernel
theorem dL_law_1144 : decode cL_law 1144 = .ok (.iadd, 1) := by decide +kernel
theorem dL_law_1145 : decode cL_law 1145 = .ok (.iaload, 1) := by decide +kernel
theorem dL_law_1146 : decode cL_law 1146 = .ok (.invokevirtual 131, 3) := by decide +kernel
theorem dL_law_1149 : decode cL_law 1149 = .ok (.aload_n 2, 1) := by decide +kernel
theorem dL_law_1150 : decode cL_law 1150 = .ok (.aload_n 0, 1) := by decide +kernel
theorem dL_law_1151 : decode cL_law 1151 = .ok (.iload_n 3, 1) := by decide +kernel
theorem dL_law_1152 : decode cL_law 1152 = .ok (.iconst 1, 1) := by decide +kernel
theorem dL_law_1153 : decode cL_law 1153 = .ok (.iadd, 1) := by decide +kernel
theorem dL_law_1154 : decode cL_law 1154 = .ok (.iaload, 1) := by decide +kernel
theorem dL_law_1155 : decode cL_law 1155 = .ok (.invokevirtual 134, 3) := by decide +kernel
theorem dL_law_1158 : decode cL_law 1158 = .ok (.if_icmp .eq 515, 3) := by decide +kernel
theorem dL_law_1161 : decode cL_law 1161 = .ok (.iconst 0, 1) := by decide +kernel
theorem dL_law_1162 : decode cL_law 1162 = .ok (.ireturn, 1) := by decide +kernel
theorem dL_law_1163 : decode cL_law 1163 = .ok (.aload_n 1, 1) := by decide +kernel
theorem dL_law_1164 : decode cL_law 1164 = .ok (.aload_n 0, 1) := by decide +kernel
theorem dL_law_1165 : decode cL_law 1165 = .ok (.iload_n 3, 1) := by decide +kernel
theorem dL_law_1166 : decode cL_law 1166 = .ok (.iconst 1, 1) := by decide +kernel
theorem dL_law_1167 : decode cL_law 1167 = .ok (.iadd, 1) := by decide +kernel
theorem dL_law_1168 : decode cL_law 1168 = .ok (.iaload, 1) := by decide +kernel
theorem dL_law_1169 : decode cL_law 1169 = .ok (.invokevirtual 135, 3) := by decide +kernel
theorem dL_law_1172 : decode cL_law 1172 = .ok (.aload_n 2, 1) := by decide +kernel
theorem dL_law_1173 : decode cL_law 1173 = .ok (.aload_n 0, 1) := by decide +kernel
theorem dL_law_1174 : decode cL_law 1174 = .ok (.iload_n 3, 1) := by decide +kernel
theorem dL_law_1175 : decode cL_law 1175 = .ok (.iconst 1, 1) := by decide +kernel
theorem dL_law_1176 : decode cL_law 1176 = .ok (.iadd, 1) := by decide +kernel
theorem dL_law_1177 : decode cL_law 1177 = .ok (.iaload, 1) := by decide +kernel
theorem dL_law_1178 : decode cL_law 1178 = .ok (.invokevirtual 138, 3) := by decide +kernel
theorem dL_law_1181 : decode cL_law 1181 = .ok (.if_icmp .eq 492, 3) := by decide +kernel
theorem dL_law_1184 : decode cL_law 1184 = .ok (.iconst 0, 1) := by decide +kernel
theorem dL_law_1185 : decode cL_law 1185 = .ok (.ireturn, 1) := by decide +kernel
theorem dL_law_1186 : decode cL_law 1186 = .ok (.aload_n 1, 1) := by decide +kernel
theorem dL_law_1187 : decode cL_law 1187 = .ok (.aload_n 0, 1) := by decide +kernel
theorem dL_law_1188 : decode cL_law 1188 = .ok (.iload_n 3, 1) := by decide +kernel
theorem dL_law_1189 : decode cL_law 1189 = .ok (.iconst 1, 1) := by decide +kernel
theorem dL_law_1190 : decode cL_law 1190 = .ok (.iadd, 1) := by decide +kernel
theorem dL_law_1191 : decode cL_law 1191 = .ok (.iaload, 1) := by decide +kernel
theorem dL_law_1192 : decode cL_law 1192 = .ok (.invokevirtual 139, 3) := by decide +kernel
theorem dL_law_1195 : decode cL_law 1195 = .ok (.aload_n 2, 1) := by decide +kernel
theorem dL_law_1196 : decode cL_law 1196 = .ok (.aload_n 0, 1) := by decide +kernel
theorem dL_law_1197 : decode cL_law 1197 = .ok (.iload_n 3, 1) := by decide +kernel
theorem dL_law_1198 : decode cL_law 1198 = .ok (.iconst 1, 1) := by decide +kernel
theorem dL_law_1199 : decode cL_law 1199 = .ok (.iadd, 1) := by decide +kernel
theorem dL_law_1200 : decode cL_law 1200 = .ok (.iaload, 1) := by decide +kernel
theorem dL_law_1201 : decode cL_law 1201 = .ok (.invokevirtual 142, 3) := by decide +kernel
theorem dL_law_1204 : decode cL_law 1204 = .ok (.if_icmp .eq 469, 3) := by decide +kernel
theorem dL_law_1207 : decode cL_law 1207 = .ok (.iconst 0, 1) := by decide +kernel
theorem dL_law_1208 : decode cL_law 1208 = .ok (.ireturn, 1) := by decide +kernel
theorem dL_law_1209 : decode cL_law 1209 = .ok (.aload_n 1, 1) := by decide +kernel
theorem dL_law_1210 : decode cL_law 1210 = .ok (.aload_n 0, 1) := by decide +kernel
theorem dL_law_1211 : decode cL_law 1211 = .ok (.iload_n 3, 1) := by decide +kernel
theorem dL_law_1212 : decode cL_law 1212 = .ok (.iconst 1, 1) := by decide +kernel
theorem dL_law_1213 : decode cL_law 1213 = .ok (.iadd, 1) := by decide +kernel
theorem dL_law_1214 : decode cL_law 1214 = .ok (.iaload, 1) := by decide +kernel
theorem dL_law_1215 : decode cL_law 1215 = .ok (.invokevirtual 143, 3) := by decide +kernel
theorem dL_law_1218 : decode cL_law 1218 = .ok (.aload_n 2, 1) := by decide +kernel
theorem dL_law_1219 : decode cL_law 1219 = .ok (.aload_n 0, 1) := by decide +kernel
theorem dL_law_1220 : decode cL_law 1220 = .ok (.iload_n 3, 1) := by decide +kernel
theorem dL_law_1221 : decode cL_law 1221 = .ok (.iconst 1, 1) := by decide +kernel
theorem dL_law_1222 : decode cL_law 1222 = .ok (.iadd, 1) := by decide +kernel
theorem dL_law_1223 : decode cL_law 1223 = .ok (.iaload, 1) := by decide +kernel
theorem dL_law_1224 : decode cL_law 1224 = .ok (.invokevirtual 146, 3) := by decide +kernel
theorem dL_law_1227 : decode cL_law 1227 = .ok (.if_icmp .eq 446, 3) := by decide +kernel
theorem dL_law_1230 : decode cL_law 1230 = .ok (.iconst 0, 1) := by decide +kernel
theorem dL_law_1231 : decode cL_law 1231 = .ok (.ireturn, 1) := by decide +kernel
theorem dL_law_1232 : decode cL_law 1232 = .ok (.aload_n 1, 1) := by decide +kernel
theorem dL_law_1233 : decode cL_law 1233 = .ok (.aload_n 0, 1) := by decide +kernel
theorem dL_law_1234 : decode cL_law 1234 = .ok (.iload_n 3, 1) := by decide +kernel
theorem dL_law_1235 : decode cL_law 1235 = .ok (.iconst 1, 1) := by decide +kernel
theorem dL_law_1236 : decode cL_law 1236 = .ok (.iadd, 1) := by decide +kernel
theorem dL_law_1237 : decode cL_law 1237 = .ok (.iaload, 1) := by decide +kernel
theorem dL_law_1238 : decode cL_law 1238 = .ok (.aload_n 0, 1) := by decide +kernel
theorem dL_law_1239 : decode cL_law 1239 = .ok (.iload_n 3, 1) := by decide +kernel
theorem dL_law_1240 : decode cL_law 1240 = .ok (.iconst 2, 1) := by decide +kernel
theorem dL_law_1241 : decode cL_law 1241 = .ok (.iadd, 1) := by decide +kernel
theorem dL_law_1242 : decode cL_law 1242 = .ok (.iaload, 1) := by decide +kernel
theorem dL_law_1243 : decode cL_law 1243 = .ok (.aload_n 0, 1) := by decide +kernel
theorem dL_law_1244 : decode cL_law 1244 = .ok (.iload_n 3, 1) := by decide +kernel
theorem dL_law_1245 : decode cL_law 1245 = .ok (.iconst 3, 1) := by decide +kernel
theorem dL_law_1246 : decode cL_law 1246 = .ok (.iadd, 1) := by decide +kernel
theorem dL_law_1247 : decode cL_law 1247 = .ok (.iaload, 1) := by decide +kernel
theorem dL_law_1248 : decode cL_law 1248 = .ok (.invokevirtual 147, 3) := by decide +kernel
theorem dL_law_1251 : decode cL_law 1251 = .ok (.aload_n 2, 1) := by decide +kernel
theorem dL_law_1252 : decode cL_law 1252 = .ok (.aload_n 0, 1) := by decide +kernel
theorem dL_law_1253 : decode cL_law 1253 = .ok (.iload_n 3, 1) := by decide +kernel
theorem dL_law_1254 : decode cL_law 1254 = .ok (.iconst 1, 1) := by decide +kernel
theorem dL_law_1255 : decode cL_law 1255 = .ok (.iadd, 1) := by decide +kernel
theorem dL_law_1256 : decode cL_law 1256 = .ok (.iaload, 1) := by decide +kernel
theorem dL_law_1257 : decode cL_law 1257 = .ok (.aload_n 0, 1) := by decide +kernel
theorem dL_law_1258 : decode cL_law 1258 = .ok (.iload_n 3, 1) := by decide +kernel
theorem dL_law_1259 : decode cL_law 1259 = .ok (.iconst 2, 1) := by decide +kernel
theorem dL_law_1260 : decode cL_law 1260 = .ok (.iadd, 1) := by decide +kernel
theorem dL_law_1261 : decode cL_law 1261 = .ok (.iaload, 1) := by decide +kernel
theorem dL_law_1262 : decode cL_law 1262 = .ok (.aload_n 0, 1) := by decide +kernel
theorem dL_law_1263 : decode cL_law 1263 = .ok (.iload_n 3, 1) := by decide +kernel
theorem dL_law_1264 : decode cL_law 1264 = .ok (.iconst 3, 1) := by decide +kernel
theorem dL_law_1265 : decode cL_law 1265 = .ok (.iadd, 1) := by decide +kernel
theorem dL_law_1266 : decode cL_law 1266 = .ok (.iaload, 1) := by decide +kernel
theorem dL_law_1267 : decode cL_law 1267 = .ok (.invokevirtual 150, 3) := by decide +kernel
theorem dL_law_1270 : decode cL_law 1270 = .ok (.if_icmp .eq 403, 3) := by decide +kernel
theorem dL_law_1273 : decode cL_law 1273 = .ok (.iconst 0, 1) := by decide +kernel
theorem dL_law_1274 : decode cL_law 1274 = .ok (.ireturn, 1) := by decide +kernel
theorem dL_law_1275 : decode cL_law 1275 = .ok (.aload_n 1, 1) := by decide +kernel
theorem dL_law_1276 : decode cL_law 1276 = .ok (.aload_n 0, 1) := by decide +kernel
theorem dL_law_1277 : decode cL_law 1277 = .ok (.iload_n 3, 1) := by decide +kernel
theorem dL_law_1278 : decode cL_law 1278 = .ok (.iconst 1, 1) := by decide +kernel
theorem dL_law_1279 : decode cL_law 1279 = .ok (.iadd, 1) := by decide +kernel
theorem dL_law_1280 : decode cL_law 1280 = .ok (.iaload, 1) := by decide +kernel
theorem dL_law_1281 : decode cL_law 1281 = .ok (.aload_n 0, 1) := by decide +kernel
theorem dL_law_1282 : decode cL_law 1282 = .ok (.iload_n 3, 1) := by decide +kernel
theorem dL_law_1283 : decode cL_law 1283 = .ok (.iconst 2, 1) := by decide +kernel
theorem dL_law_1284 : decode cL_law 1284 = .ok (.iadd, 1) := by decide +kernel
theorem dL_law_1285 : decode cL_law 1285 = .ok (.iaload, 1) := by decide +kernel
theorem dL_law_1286 : decode cL_law 1286 = .ok (.invokevirtual 151, 3) := by decide +kernel
theorem dL_law_1289 : decode cL_law 1289 = .ok (.aload_n 2, 1) := by decide +kernel
theorem dL_law_1290 : decode cL_law 1290 = .ok (.aload_n 0, 1) := by decide +kernel
theorem dL_law_1291 : decode cL_law 1291 = .ok (.iload_n 3, 1) := by decide +kernel
theorem dL_law_1292 : decode cL_law 1292 = .ok (.iconst 1, 1) := by decide +kernel
theorem dL_law_1293 : decode cL_law 1293 = .ok (.iadd, 1) := by decide +kernel
theorem dL_law_1294 : decode cL_law 1294 = .ok (.iaload, 1) := by decide +kernel
theorem dL_law_1295 : decode cL_law 1295 = .ok (.aload_n 0, 1) := by decide +kernel
theorem dL_law_1296 : decode cL_law 1296 = .ok (.iload_n 3, 1) := by decide +kernel
theorem dL_law_1297 : decode cL_law 1297 = .ok (.iconst 2, 1) := by decide +kernel
theorem dL_law_1298 : decode cL_law 1298 = .ok (.iadd, 1) := by decide +kernel
theorem dL_law_1299 : decode cL_law 1299 = .ok (.iaload, 1) := by decide +kernel
theorem dL_law_1300 : decode cL_law 1300 = .ok (.invokevirtual 154, 3) := by decide +kernel
theorem dL_law_1303 : decode cL_law 1303 = .ok (.if_icmp .eq 370, 3) := by decide +kernel
theorem dL_law_1306 : decode cL_law 1306 = .ok (.iconst 0, 1) := by decide +kernel
theorem dL_law_1307 : decode cL_law 1307 = .ok (.ireturn, 1) := by decide +kernel
theorem dL_law_1308 : decode cL_law 1308 = .ok (.aload_n 1, 1) := by decide +kernel
theorem dL_law_1309 : decode cL_law 1309 = .ok (.aload_n 0, 1) := by decide +kernel
theorem dL_law_1310 : decode cL_law 1310 = .ok (.iload_n 3, 1) := by decide +kernel
theorem dL_law_1311 : decode cL_law 1311 = .ok (.iconst 1, 1) := by decide +kernel
theorem dL_law_1312 : decode cL_law 1312 = .ok (.iadd, 1) := by decide +kernel
theorem dL_law_1313 : decode cL_law 1313 = .ok (.iaload, 1) := by decide +kernel
theorem dL_law_1314 : decode cL_law 1314 = .ok (.invokevirtual 155, 3) := by decide +kernel
theorem dL_law_1317 : decode cL_law 1317 = .ok (.aload_n 2, 1) := by decide +kernel
theorem dL_law_1318 : decode cL_law 1318 = .ok (.aload_n 0, 1) := by decide +kernel
theorem dL_law_1319 : decode cL_law 1319 = .ok (.iload_n 3, 1) := by decide +kernel
theorem dL_law_1320 : decode cL_law 1320 = .ok (.iconst 1, 1) := by decide +kernel
theorem dL_law_1321 : decode cL_law 1321 = .ok (.iadd, 1) := by decide +kernel
theorem dL_law_1322 : decode cL_law 1322 = .ok (.iaload, 1) := by decide +kernel
theorem dL_law_1323 : decode cL_law 1323 = .ok (.invokevirtual 158, 3) := by decide +kernel
theorem dL_law_1326 : decode cL_law 1326 = .ok (.if_icmp .eq 347, 3) := by decide +kernel
theorem dL_law_1329 : decode cL_law 1329 = .ok (.iconst 0, 1) := by decide +kernel
theorem dL_law_1330 : decode cL_law 1330 = .ok (.ireturn, 1) := by decide +kernel
theorem dL_law_1331 : decode cL_law 1331 = .ok (.aload_n 1, 1) := by decide +kernel
theorem dL_law_1332 : decode cL_law 1332 = .ok (.aload_n 0, 1) := by decide +kernel
theorem dL_law_1333 : decode cL_law 1333 = .ok (.iload_n 3, 1) := by decide +kernel
theorem dL_law_1334 : decode cL_law 1334 = .ok (.iconst 1, 1) := by decide +kernel
theorem dL_law_1335 : decode cL_law 1335 = .ok (.iadd, 1) := by decide +kernel
theorem dL_law_1336 : decode cL_law 1336 = .ok (.iaload, 1) := by decide +kernel
theorem dL_law_1337 : decode cL_law 1337 = .ok (.aload_n 0, 1) := by decide +kernel
theorem dL_law_1338 : decode cL_law 1338 = .ok (.iload_n 3, 1) := by decide +kernel
theorem dL_law_1339 : decode cL_law 1339 = .ok (.iconst 2, 1) := by decide +kernel
theorem dL_law_1340 : decode cL_law 1340 = .ok (.iadd, 1) := by decide +kernel
theorem dL_law_1341 : decode cL_law 1341 = .ok (.iaload, 1) := by decide +kernel
theorem dL_law_1342 : decode cL_law 1342 = .ok (.invokevirtual 159, 3) := by decide +kernel
theorem dL_law_1345 : decode cL_law 1345 = .ok (.aload_n 2, 1) := by decide +kernel
theorem dL_law_1346 : decode cL_law 1346 = .ok (.aload_n 0, 1) := by decide +kernel
theorem dL_law_1347 : decode cL_law 1347 = .ok (.iload_n 3, 1) := by decide +kernel
theorem dL_law_1348 : decode cL_law 1348 = .ok (.iconst 1, 1) := by decide +kernel
theorem dL_law_1349 : decode cL_law 1349 = .ok (.iadd, 1) := by decide +kernel
theorem dL_law_1350 : decode cL_law 1350 = .ok (.iaload, 1) := by decide +kernel
theorem dL_law_1351 : decode cL_law 1351 = .ok (.aload_n 0, 1) := by decide +kernel
theorem dL_law_1352 : decode cL_law 1352 = .ok (.iload_n 3, 1) := by decide +kernel
theorem dL_law_1353 : decode cL_law 1353 = .ok (.iconst 2, 1) := by decide +kernel
theorem dL_law_1354 : decode cL_law 1354 = .ok (.iadd, 1) := by decide +kernel
theorem dL_law_1355 : decode cL_law 1355 = .ok (.iaload, 1) := by decide +kernel
theorem dL_law_1356 : decode cL_law 1356 = .ok (.invokevirtual 162, 3) := by decide +kernel
theorem dL_law_1359 : decode cL_law 1359 = .ok (.if_icmp .eq 314, 3) := by decide +kernel
theorem dL_law_1362 : decode cL_law 1362 = .ok (.iconst 0, 1) := by decide +kernel
theorem dL_law_1363 : decode cL_law 1363 = .ok (.ireturn, 1) := by decide +kernel
theorem dL_law_1364 : decode cL_law 1364 = .ok (.aload_n 1, 1) := by decide +kernel
theorem dL_law_1365 : decode cL_law 1365 = .ok (.aload_n 0, 1) := by decide +kernel
theorem dL_law_1366 : decode cL_law 1366 = .ok (.iload_n 3, 1) := by decide +kernel
theorem dL_law_1367 : decode cL_law 1367 = .ok (.iconst 1, 1) := by decide +kernel
theorem dL_law_1368 : decode cL_law 1368 = .ok (.iadd, 1) := by decide +kernel
theorem dL_law_1369 : decode cL_law 1369 = .ok (.iaload, 1) := by decide +kernel
theorem dL_law_1370 : decode cL_law 1370 = .ok (.aload_n 0, 1) := by decide +kernel
theorem dL_law_1371 : decode cL_law 1371 = .ok (.iload_n 3, 1) := by decide +kernel
theorem dL_law_1372 : decode cL_law 1372 = .ok (.iconst 2, 1) := by decide +kernel
theorem dL_law_1373 : decode cL_law 1373 = .ok (.iadd, 1) := by decide +kernel
theorem dL_law_1374 : decode cL_law 1374 = .ok (.iaload, 1) := by decide +kernel
theorem dL_law_1375 : decode cL_law 1375 = .ok (.invokevirtual 163, 3) := by decide +kernel
theorem dL_law_1378 : decode cL_law 1378 = .ok (.aload_n 2, 1) := by decide +kernel
theorem dL_law_1379 : decode cL_law 1379 = .ok (.aload_n 0, 1) := by decide +kernel
theorem dL_law_1380 : decode cL_law 1380 = .ok (.iload_n 3, 1) := by decide +kernel
theorem dL_law_1381 : decode cL_law 1381 = .ok (.iconst 1, 1) := by decide +kernel
theorem dL_law_1382 : decode cL_law 1382 = .ok (.iadd, 1) := by decide +kernel
theorem dL_law_1383 : decode cL_law 1383 = .ok (.iaload, 1) := by decide +kernel
theorem dL_law_1384 : decode cL_law 1384 = .ok (.aload_n 0, 1) := by decide +kernel
theorem dL_law_1385 : decode cL_law 1385 = .ok (.iload_n 3, 1) := by decide +kernel
theorem dL_law_1386 : decode cL_law 1386 = .ok (.iconst 2, 1) := by decide +kernel
theorem dL_law_1387 : decode cL_law 1387 = .ok (.iadd, 1) := by decide +kernel
theorem dL_law_1388 : decode cL_law 1388 = .ok (.iaload, 1) := by decide +kernel
theorem dL_law_1389 : decode cL_law 1389 = .ok (.invokevirtual 166, 3) := by decide +kernel
theorem dL_law_1392 : decode cL_law 1392 = .ok (.if_icmp .eq 281, 3) := by decide +kernel
theorem dL_law_1395 : decode cL_law 1395 = .ok (.iconst 0, 1) := by decide +kernel
theorem dL_law_1396 : decode cL_law 1396 = .ok (.ireturn, 1) := by decide +kernel
theorem dL_law_1397 : decode cL_law 1397 = .ok (.aload_n 1, 1) := by decide +kernel
theorem dL_law_1398 : decode cL_law 1398 = .ok (.aload_n 0, 1) := by decide +kernel
theorem dL_law_1399 : decode cL_law 1399 = .ok (.iload_n 3, 1) := by decide +kernel
theorem dL_law_1400 : decode cL_law 1400 = .ok (.iconst 1, 1) := by decide +kernel
theorem dL_law_1401 : decode cL_law 1401 = .ok (.iadd, 1) := by decide +kernel
theorem dL_law_1402 : decode cL_law 1402 = .ok (.iaload, 1) := by decide +kernel
theorem dL_law_1403 : decode cL_law 1403 = .ok (.aload_n 0, 1) := by decide +kernel
theorem dL_law_1404 : decode cL_law 1404 = .ok (.iload_n 3, 1) := by decide +kernel
theorem dL_law_1405 : decode cL_law 1405 = .ok (.iconst 2, 1) := by decide +kernel
theorem dL_law_1406 : decode cL_law 1406 = .ok (.iadd, 1) := by decide +kernel
theorem dL_law_1407 : decode cL_law 1407 = .ok (.iaload, 1) := by decide +kernel
theorem dL_law_1408 : decode cL_law 1408 = .ok (.invokevirtual 167, 3) := by decide +kernel
theorem dL_law_1411 : decode cL_law 1411 = .ok (.aload_n 2, 1) := by decide +kernel
theorem dL_law_1412 : decode cL_law 1412 = .ok (.aload_n 0, 1) := by decide +kernel
theorem dL_law_1413 : decode cL_law 1413 = .ok (.iload_n 3, 1) := by decide +kernel
theorem dL_law_1414 : decode cL_law 1414 = .ok (.iconst 1, 1) := by decide +kernel
theorem dL_law_1415 : decode cL_law 1415 = .ok (.iadd, 1) := by decide +kernel
theorem dL_law_1416 : decode cL_law 1416 = .ok (.iaload, 1) := by decide +kernel
theorem dL_law_1417 : decode cL_law 1417 = .ok (.aload_n 0, 1) := by decide +kernel
theorem dL_law_1418 : decode cL_law 1418 = .ok (.iload_n 3, 1) := by decide +kernel
theorem dL_law_1419 : decode cL_law 1419 = .ok (.iconst 2, 1) := by decide +kernel
theorem dL_law_1420 : decode cL_law 1420 = .ok (.iadd, 1) := by decide +kernel
theorem dL_law_1421 : decode cL_law 1421 = .ok (.iaload, 1) := by decide +kernel
theorem dL_law_1422 : decode cL_law 1422 = .ok (.invokevirtual 170, 3) := by decide +kernel
theorem dL_law_1425 : decode cL_law 1425 = .ok (.if_icmp .eq 248, 3) := by decide +kernel
theorem dL_law_1428 : decode cL_law 1428 = .ok (.iconst 0, 1) := by decide +kernel
theorem dL_law_1429 : decode cL_law 1429 = .ok (.ireturn, 1) := by decide +kernel
theorem dL_law_1430 : decode cL_law 1430 = .ok (.aload_n 1, 1) := by decide +kernel
theorem dL_law_1431 : decode cL_law 1431 = .ok (.aload_n 0, 1) := by decide +kernel
theorem dL_law_1432 : decode cL_law 1432 = .ok (.iload_n 3, 1) := by decide +kernel
theorem dL_law_1433 : decode cL_law 1433 = .ok (.iconst 1, 1) := by decide +kernel
theorem dL_law_1434 : decode cL_law 1434 = .ok (.iadd, 1) := by decide +kernel
theorem dL_law_1435 : decode cL_law 1435 = .ok (.iaload, 1) := by decide +kernel
theorem dL_law_1436 : decode cL_law 1436 = .ok (.aload_n 0, 1) := by decide +kernel
theorem dL_law_1437 : decode cL_law 1437 = .ok (.iload_n 3, 1) := by decide +kernel
theorem dL_law_1438 : decode cL_law 1438 = .ok (.iconst 2, 1) := by decide +kernel
theorem dL_law_1439 : decode cL_law 1439 = .ok (.iadd, 1) := by decide +kernel
theorem dL_law_1440 : decode cL_law 1440 = .ok (.iaload, 1) := by decide +kernel
theorem dL_law_1441 : decode cL_law 1441 = .ok (.invokevirtual 171, 3) := by decide +kernel
theorem dL_law_1444 : decode cL_law 1444 = .ok (.aload_n 2, 1) := by decide +kernel
theorem dL_law_1445 : decode cL_law 1445 = .ok (.aload_n 0, 1) := by decide +kernel
theorem dL_law_1446 : decode cL_law 1446 = .ok (.iload_n 3, 1) := by decide +kernel
theorem dL_law_1447 : decode cL_law 1447 = .ok (.iconst 1, 1) := by decide +kernel
theorem dL_law_1448 : decode cL_law 1448 = .ok (.iadd, 1) := by decide +kernel
theorem dL_law_1449 : decode cL_law 1449 = .ok (.iaload, 1) := by decide +kernel
theorem dL_law_1450 : decode cL_law 1450 = .ok (.aload_n 0, 1) := by decide +kernel
theorem dL_law_1451 : decode cL_law 1451 = .ok (.iload_n 3, 1) := by decide +kernel
theorem dL_law_1452 : decode cL_law 1452 = .ok (.iconst 2, 1) := by decide +kernel
theorem dL_law_1453 : decode cL_law 1453 = .ok (.iadd, 1) := by decide +kernel
theorem dL_law_1454 : decode cL_law 1454 = .ok (.iaload, 1) := by decide +kernel
theorem dL_law_1455 : decode cL_law 1455 = .ok (.invokevirtual 174, 3) := by decide +kernel
theorem dL_law_1458 : decode cL_law 1458 = .ok (.if_icmp .eq 215, 3) := by decide +kernel
theorem dL_law_1461 : decode cL_law 1461 = .ok (.iconst 0, 1) := by decide +kernel
theorem dL_law_1462 : decode cL_law 1462 = .ok (.ireturn, 1) := by decide +kernel
theorem dL_law_1463 : decode cL_law 1463 = .ok (.aload_n 1, 1) := by decide +kernel
theorem dL_law_1464 : decode cL_law 1464 = .ok (.aload_n 0, 1) := by decide +kernel
theorem dL_law_1465 : decode cL_law 1465 = .ok (.iload_n 3, 1) := by decide +kernel
theorem dL_law_1466 : decode cL_law 1466 = .ok (.iconst 1, 1) := by decide +kernel
theorem dL_law_1467 : decode cL_law 1467 = .ok (.iadd, 1) := by decide +kernel
theorem dL_law_1468 : decode cL_law 1468 = .ok (.iaload, 1) := by decide +kernel
theorem dL_law_1469 : decode cL_law 1469 = .ok (.invokevirtual 175, 3) := by decide +kernel
theorem dL_law_1472 : decode cL_law 1472 = .ok (.aload_n 2, 1) := by decide +kernel
theorem dL_law_1473 : decode cL_law 1473 = .ok (.aload_n 0, 1) := by decide +kernel
theorem dL_law_1474 : decode cL_law 1474 = .ok (.iload_n 3, 1) := by decide +kernel
theorem dL_law_1475 : decode cL_law 1475 = .ok (.iconst 1, 1) := by decide +kernel
theorem dL_law_1476 : decode cL_law 1476 = .ok (.iadd, 1) := by decide +kernel
theorem dL_law_1477 : decode cL_law 1477 = .ok (.iaload, 1) := by decide +kernel
theorem dL_law_1478 : decode cL_law 1478 = .ok (.invokevirtual 178, 3) := by decide +kernel
theorem dL_law_1481 : decode cL_law 1481 = .ok (.if_icmp .eq 192, 3) := by decide +kernel
theorem dL_law_1484 : decode cL_law 1484 = .ok (.iconst 0, 1) := by decide +kernel
theorem dL_law_1485 : decode cL_law 1485 = .ok (.ireturn, 1) := by decide +kernel
theorem dL_law_1486 : decode cL_law 1486 = .ok (.aload_n 1, 1) := by decide +kernel
theorem dL_law_1487 : decode cL_law 1487 = .ok (.aload_n 0, 1) := by decide +kernel
theorem dL_law_1488 : decode cL_law 1488 = .ok (.iload_n 3, 1) := by decide +kernel
theorem dL_law_1489 : decode cL_law 1489 = .ok (.iconst 1, 1) := by decide +kernel
theorem dL_law_1490 : decode cL_law 1490 = .ok (.iadd, 1) := by decide +kernel
theorem dL_law_1491 : decode cL_law 1491 = .ok (.iaload, 1) := by decide +kernel
theorem dL_law_1492 : decode cL_law 1492 = .ok (.invokevirtual 179, 3) := by decide +kernel
theorem dL_law_1495 : decode cL_law 1495 = .ok (.aload_n 2, 1) := by decide +kernel
theorem dL_law_1496 : decode cL_law 1496 = .ok (.aload_n 0, 1) := by decide +kernel
theorem dL_law_1497 : decode cL_law 1497 = .ok (.iload_n 3, 1) := by decide +kernel
theorem dL_law_1498 : decode cL_law 1498 = .ok (.iconst 1, 1) := by decide +kernel
theorem dL_law_1499 : decode cL_law 1499 = .ok (.iadd, 1) := by decide +kernel
theorem dL_law_1500 : decode cL_law 1500 = .ok (.iaload, 1) := by decide +kernel
theorem dL_law_1501 : decode cL_law 1501 = .ok (.invokevirtual 182, 3) := by decide +kernel
theorem dL_law_1504 : decode cL_law 1504 = .ok (.if_icmp .eq 169, 3) := by decide +kernel
theorem dL_law_1507 : decode cL_law 1507 = .ok (.iconst 0, 1) := by decide +kernel
theorem dL_law_1508 : decode cL_law 1508 = .ok (.ireturn, 1) := by decide +kernel
theorem dL_law_1509 : decode cL_law 1509 = .ok (.aload_n 1, 1) := by decide +kernel
theorem dL_law_1510 : decode cL_law 1510 = .ok (.invokevirtual 183, 3) := by decide +kernel
theorem dL_law_1513 : decode cL_law 1513 = .ok (.aload_n 2, 1) := by decide +kernel
theorem dL_law_1514 : decode cL_law 1514 = .ok (.invokevirtual 186, 3) := by decide +kernel
theorem dL_law_1517 : decode cL_law 1517 = .ok (.if_icmp .eq 156, 3) := by decide +kernel
theorem dL_law_1520 : decode cL_law 1520 = .ok (.iconst 0, 1) := by decide +kernel
theorem dL_law_1521 : decode cL_law 1521 = .ok (.ireturn, 1) := by decide +kernel
theorem dL_law_1522 : decode cL_law 1522 = .ok (.aload_n 1, 1) := by decide +kernel
theorem dL_law_1523 : decode cL_law 1523 = .ok (.aload_n 0, 1) := by decide +kernel
theorem dL_law_1524 : decode cL_law 1524 = .ok (.iload_n 3, 1) := by decide +kernel
theorem dL_law_1525 : decode cL_law 1525 = .ok (.iconst 1, 1) := by decide +kernel
theorem dL_law_1526 : decode cL_law 1526 = .ok (.iadd, 1) := by decide +kernel
theorem dL_law_1527 : decode cL_law 1527 = .ok (.iaload, 1) := by decide +kernel
theorem dL_law_1528 : decode cL_law 1528 = .ok (.invokevirtual 187, 3) := by decide +kernel
theorem dL_law_1531 : decode cL_law 1531 = .ok (.aload_n 2, 1) := by decide +kernel
theorem dL_law_1532 : decode cL_law 1532 = .ok (.aload_n 0, 1) := by decide +kernel
theorem dL_law_1533 : decode cL_law 1533 = .ok (.iload_n 3, 1) := by decide +kernel
theorem dL_law_1534 : decode cL_law 1534 = .ok (.iconst 1, 1) := by decide +kernel
theorem dL_law_1535 : decode cL_law 1535 = .ok (.iadd, 1) := by decide +kernel
theorem dL_law_1536 : decode cL_law 1536 = .ok (.iaload, 1) := by decide +kernel
theorem dL_law_1537 : decode cL_law 1537 = .ok (.invokevirtual 190, 3) := by decide +kernel
theorem dL_law_1540 : decode cL_law 1540 = .ok (.if_icmp .eq 133, 3) := by decide +kernel
theorem dL_law_1543 : decode cL_law 1543 = .ok (.iconst 0, 1) := by decide +kernel
theorem dL_law_1544 : decode cL_law 1544 = .ok (.ireturn, 1) := by decide +kernel
theorem dL_law_1545 : decode cL_law 1545 = .ok (.aload_n 1, 1) := by decide +kernel
theorem dL_law_1546 : decode cL_law 1546 = .ok (.aload_n 0, 1) := by decide +kernel
theorem dL_law_1547 : decode cL_law 1547 = .ok (.iload_n 3, 1) := by decide +kernel
theorem dL_law_1548 : decode cL_law 1548 = .ok (.iconst 1, 1) := by decide +kernel
theorem dL_law_1549 : decode cL_law 1549 = .ok (.iadd, 1) := by decide +kernel
theorem dL_law_1550 : decode cL_law 1550 = .ok (.iaload, 1) := by decide +kernel
theorem dL_law_1551 : decode cL_law 1551 = .ok (.invokevirtual 191, 3) := by decide +kernel
theorem dL_law_1554 : decode cL_law 1554 = .ok (.aload_n 2, 1) := by decide +kernel
theorem dL_law_1555 : decode cL_law 1555 = .ok (.aload_n 0, 1) := by decide +kernel
theorem dL_law_1556 : decode cL_law 1556 = .ok (.iload_n 3, 1) := by decide +kernel
theorem dL_law_1557 : decode cL_law 1557 = .ok (.iconst 1, 1) := by decide +kernel
theorem dL_law_1558 : decode cL_law 1558 = .ok (.iadd, 1) := by decide +kernel
theorem dL_law_1559 : decode cL_law 1559 = .ok (.iaload, 1) := by decide +kernel
theorem dL_law_1560 : decode cL_law 1560 = .ok (.invokevirtual 194, 3) := by decide +kernel
theorem dL_law_1563 : decode cL_law 1563 = .ok (.if_icmp .eq 110, 3) := by decide +kernel
theorem dL_law_1566 : decode cL_law 1566 = .ok (.iconst 0, 1) := by decide +kernel
theorem dL_law_1567 : decode cL_law 1567 = .ok (.ireturn, 1) := by decide +kernel
theorem dL_law_1568 : decode cL_law 1568 = .ok (.aload_n 1, 1) := by decide +kernel
theorem dL_law_1569 : decode cL_law 1569 = .ok (.invokevirtual 195, 3) := by decide +kernel
theorem dL_law_1572 : decode cL_law 1572 = .ok (.aload_n 2, 1) := by decide +kernel
theorem dL_law_1573 : decode cL_law 1573 = .ok (.invokevirtual 198, 3) := by decide +kernel
theorem dL_law_1576 : decode cL_law 1576 = .ok (.if_icmp .eq 97, 3) := by decide +kernel
theorem dL_law_1579 : decode cL_law 1579 = .ok (.iconst 0, 1) := by decide +kernel
theorem dL_law_1580 : decode cL_law 1580 = .ok (.ireturn, 1) := by decide +kernel
theorem dL_law_1581 : decode cL_law 1581 = .ok (.aload_n 1, 1) := by decide +kernel
theorem dL_law_1582 : decode cL_law 1582 = .ok (.aload_n 0, 1) := by decide +kernel
theorem dL_law_1583 : decode cL_law 1583 = .ok (.iload_n 3, 1) := by decide +kernel
theorem dL_law_1584 : decode cL_law 1584 = .ok (.iconst 1, 1) := by decide +kernel
theorem dL_law_1585 : decode cL_law 1585 = .ok (.iadd, 1) := by decide +kernel
theorem dL_law_1586 : decode cL_law 1586 = .ok (.iaload, 1) := by decide +kernel
theorem dL_law_1587 : decode cL_law 1587 = .ok (.aload_n 0, 1) := by decide +kernel
theorem dL_law_1588 : decode cL_law 1588 = .ok (.iload_n 3, 1) := by decide +kernel
theorem dL_law_1589 : decode cL_law 1589 = .ok (.iconst 2, 1) := by decide +kernel
theorem dL_law_1590 : decode cL_law 1590 = .ok (.iadd, 1) := by decide +kernel
theorem dL_law_1591 : decode cL_law 1591 = .ok (.iaload, 1) := by decide +kernel
theorem dL_law_1592 : decode cL_law 1592 = .ok (.aload_n 0, 1) := by decide +kernel
theorem dL_law_1593 : decode cL_law 1593 = .ok (.iload_n 3, 1) := by decide +kernel
theorem dL_law_1594 : decode cL_law 1594 = .ok (.iconst 3, 1) := by decide +kernel
theorem dL_law_1595 : decode cL_law 1595 = .ok (.iadd, 1) := by decide +kernel
theorem dL_law_1596 : decode cL_law 1596 = .ok (.iaload, 1) := by decide +kernel
theorem dL_law_1597 : decode cL_law 1597 = .ok (.invokevirtual 199, 3) := by decide +kernel
theorem dL_law_1600 : decode cL_law 1600 = .ok (.aload_n 2, 1) := by decide +kernel
theorem dL_law_1601 : decode cL_law 1601 = .ok (.aload_n 0, 1) := by decide +kernel
theorem dL_law_1602 : decode cL_law 1602 = .ok (.iload_n 3, 1) := by decide +kernel
theorem dL_law_1603 : decode cL_law 1603 = .ok (.iconst 1, 1) := by decide +kernel
theorem dL_law_1604 : decode cL_law 1604 = .ok (.iadd, 1) := by decide +kernel
theorem dL_law_1605 : decode cL_law 1605 = .ok (.iaload, 1) := by decide +kernel
theorem dL_law_1606 : decode cL_law 1606 = .ok (.aload_n 0, 1) := by decide +kernel
theorem dL_law_1607 : decode cL_law 1607 = .ok (.iload_n 3, 1) := by decide +kernel
theorem dL_law_1608 : decode cL_law 1608 = .ok (.iconst 2, 1) := by decide +kernel
theorem dL_law_1609 : decode cL_law 1609 = .ok (.iadd, 1) := by decide +kernel
theorem dL_law_1610 : decode cL_law 1610 = .ok (.iaload, 1) := by decide +kernel
theorem dL_law_1611 : decode cL_law 1611 = .ok (.aload_n 0, 1) := by decide +kernel
theorem dL_law_1612 : decode cL_law 1612 = .ok (.iload_n 3, 1) := by decide +kernel
theorem dL_law_1613 : decode cL_law 1613 = .ok (.iconst 3, 1) := by decide +kernel
theorem dL_law_1614 : decode cL_law 1614 = .ok (.iadd, 1) := by decide +kernel
theorem dL_law_1615 : decode cL_law 1615 = .ok (.iaload, 1) := by decide +kernel
theorem dL_law_1616 : decode cL_law 1616 = .ok (.invokevirtual 202, 3) := by decide +kernel
theorem dL_law_1619 : decode cL_law 1619 = .ok (.if_icmp .eq 54, 3) := by decide +kernel
theorem dL_law_1622 : decode cL_law 1622 = .ok (.iconst 0, 1) := by decide +kernel
theorem dL_law_1623 : decode cL_law 1623 = .ok (.ireturn, 1) := by decide +kernel
theorem dL_law_1624 : decode cL_law 1624 = .ok (.aload_n 1, 1) := by decide +kernel
theorem dL_law_1625 : decode cL_law 1625 = .ok (.invokevirtual 203, 3) := by decide +kernel
theorem dL_law_1628 : decode cL_law 1628 = .ok (.aload_n 2, 1) := by decide +kernel
theorem dL_law_1629 : decode cL_law 1629 = .ok (.invokevirtual 206, 3) := by decide +kernel
theorem dL_law_1632 : decode cL_law 1632 = .ok (.if_icmp .eq 41, 3) := by decide +kernel
theorem dL_law_1635 : decode cL_law 1635 = .ok (.iconst 0, 1) := by decide +kernel
theorem dL_law_1636 : decode cL_law 1636 = .ok (.ireturn, 1) := by decide +kernel
theorem dL_law_1637 : decode cL_law 1637 = .ok (.aload_n 1, 1) := by decide +kernel
theorem dL_law_1638 : decode cL_law 1638 = .ok (.invokevirtual 207, 3) := by decide +kernel
theorem dL_law_1641 : decode cL_law 1641 = .ok (.aload_n 2, 1) := by decide +kernel
theorem dL_law_1642 : decode cL_law 1642 = .ok (.invokevirtual 210, 3) := by decide +kernel
theorem dL_law_1645 : decode cL_law 1645 = .ok (.if_icmp .eq 28, 3) := by decide +kernel
theorem dL_law_1648 : decode cL_law 1648 = .ok (.iconst 0, 1) := by decide +kernel
theorem dL_law_1649 : decode cL_law 1649 = .ok (.ireturn, 1) := by decide +kernel
theorem dL_law_1650 : decode cL_law 1650 = .ok (.aload_n 1, 1) := by decide +kernel
theorem dL_law_1651 : decode cL_law 1651 = .ok (.aload_n 0, 1) := by decide +kernel
theorem dL_law_1652 : decode cL_law 1652 = .ok (.iload_n 3, 1) := by decide +kernel
theorem dL_law_1653 : decode cL_law 1653 = .ok (.iconst 1, 1) := by decide +kernel
theorem dL_law_1654 : decode cL_law 1654 = .ok (.iadd, 1) := by decide +kernel
theorem dL_law_1655 : decode cL_law 1655 = .ok (.iaload, 1) := by decide +kernel
theorem dL_law_1656 : decode cL_law 1656 = .ok (.invokevirtual 211, 3) := by decide +kernel
theorem dL_law_1659 : decode cL_law 1659 = .ok (.aload_n 2, 1) := by decide +kernel
theorem dL_law_1660 : decode cL_law 1660 = .ok (.aload_n 0, 1) := by decide +kernel
theorem dL_law_1661 : decode cL_law 1661 = .ok (.iload_n 3, 1) := by decide +kernel
theorem dL_law_1662 : decode cL_law 1662 = .ok (.iconst 1, 1) := by decide +kernel
theorem dL_law_1663 : decode cL_law 1663 = .ok (.iadd, 1) := by decide +kernel
theorem dL_law_1664 : decode cL_law 1664 = .ok (.iaload, 1) := by decide +kernel
theorem dL_law_1665 : decode cL_law 1665 = .ok (.invokevirtual 214, 3) := by decide +kernel
theorem dL_law_1668 : decode cL_law 1668 = .ok (.if_icmp .eq 5, 3) := by decide +kernel
theorem dL_law_1671 : decode cL_law 1671 = .ok (.iconst 0, 1) := by decide +kernel
theorem dL_law_1672 : decode cL_law 1672 = .ok (.ireturn, 1) := by decide +kernel
theorem dL_law_1673 : decode cL_law 1673 = .ok (.iinc 3 6, 3) := by decide +kernel
theorem dL_law_1676 : decode cL_law 1676 = .ok (.goto (-1658), 3) := by decide +kernel
theorem dL_law_1679 : decode cL_law 1679 = .ok (.iconst 1, 1) := by decide +kernel
theorem dL_law_1680 : decode cL_law 1680 = .ok (.ireturn, 1) := by decide +kernel
end
