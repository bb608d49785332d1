theorem dX0_init_0 : decode cX0_init 0 = .ok (.aload_n 0, 1) := by decide +kernel
theorem dX0_init_1 : decode cX0_init 1 = .ok (.iload_n 1, 1) := by decide +kernel
theorem dX0_init_2 : decode cX0_init 2 = .ok (.iload_n 2, 1) := by decide +kernel
theorem dX0_init_3 : decode cX0_init 3 = .ok (.invokespecial 1, 3) := by decide +kernel
theorem dX0_init_6 : decode cX0_init 6 = .ok (.return_, 1) := by decide +kernel
theorem dX0_kind_0 : decode cX0_kind 0 = .ok (.iconst 1, 1) := by decide +kernel
theorem dX0_kind_1 : decode cX0_kind 1 = .ok (.ireturn, 1) := by decide +kernel
theorem dX0_due_0 : decode cX0_due 0 = .ok (.aload_n 0, 1) := by decide +kernel
theorem dX0_due_1 : decode cX0_due 1 = .ok (.invokespecial 7, 3) := by decide +kernel
theorem dX0_due_4 : decode cX0_due 4 = .ok (.aload_n 0, 1) := by decide +kernel
theorem dX0_due_5 : decode cX0_due 5 = .ok (.getfield 11, 3) := by decide +kernel
theorem dX0_due_8 : decode cX0_due 8 = .ok (.iadd, 1) := by decide +kernel
theorem dX0_due_9 : decode cX0_due 9 = .ok (.ireturn, 1) := by decide +kernel
theorem dX0_sharers_0 : decode cX0_sharers 0 = .ok (.aload_n 1, 1) := by decide +kernel
theorem dX0_sharers_1 : decode cX0_sharers 1 = .ok (.invokevirtual 17, 3) := by decide +kernel
theorem dX0_sharers_4 : decode cX0_sharers 4 = .ok (.ireturn, 1) := by decide +kernel
theorem dX0_shareOut_0 : decode cX0_shareOut 0 = .ok (.aload_n 1, 1) := by decide +kernel
theorem dX0_shareOut_1 : decode cX0_shareOut 1 = .ok (.aload_n 0, 1) := by decide +kernel
theorem dX0_shareOut_2 : decode cX0_shareOut 2 = .ok (.invokevirtual 22, 3) := by decide +kernel
theorem dX0_shareOut_5 : decode cX0_shareOut 5 = .ok (.aload_n 0, 1) := by decide +kernel
theorem dX0_shareOut_6 : decode cX0_shareOut 6 = .ok (.aload_n 1, 1) := by decide +kernel
theorem dX0_shareOut_7 : decode cX0_shareOut 7 = .ok (.invokevirtual 23, 3) := by decide +kernel
theorem dX0_shareOut_10 : decode cX0_shareOut 10 = .ok (.invokevirtual 27, 3) := by decide +kernel
theorem dX0_shareOut_13 : decode cX0_shareOut 13 = .ok (.return_, 1) := by decide +kernel
theorem dX1_init_0 : decode cX1_init 0 = .ok (.aload_n 0, 1) := by decide +kernel
theorem dX1_init_1 : decode cX1_init 1 = .ok (.iload_n 1, 1) := by decide +kernel
theorem dX1_init_2 : decode cX1_init 2 = .ok (.iload_n 2, 1) := by decide +kernel
theorem dX1_init_3 : decode cX1_init 3 = .ok (.invokespecial 1, 3) := by decide +kernel
theorem dX1_init_6 : decode cX1_init 6 = .ok (.return_, 1) := by decide +kernel
theorem dX1_kind_0 : decode cX1_kind 0 = .ok (.iconst 3, 1) := by decide +kernel
theorem dX1_kind_1 : decode cX1_kind 1 = .ok (.ireturn, 1) := by decide +kernel
theorem dX1_due_0 : decode cX1_due 0 = .ok (.aload_n 0, 1) := by decide +kernel
theorem dX1_due_1 : decode cX1_due 1 = .ok (.invokespecial 7, 3) := by decide +kernel
theorem dX1_due_4 : decode cX1_due 4 = .ok (.iconst 2, 1) := by decide +kernel
theorem dX1_due_5 : decode cX1_due 5 = .ok (.idiv, 1) := by decide +kernel
theorem dX1_due_6 : decode cX1_due 6 = .ok (.ireturn, 1) := by decide +kernel
theorem dX1_sharers_0 : decode cX1_sharers 0 = .ok (.aload_n 1, 1) := by decide +kernel
theorem dX1_sharers_1 : decode cX1_sharers 1 = .ok (.invokevirtual 11, 3) := by decide +kernel
theorem dX1_sharers_4 : decode cX1_sharers 4 = .ok (.istore_n 2, 1) := by decide +kernel
theorem dX1_sharers_5 : decode cX1_sharers 5 = .ok (.iload_n 2, 1) := by decide +kernel
theorem dX1_sharers_6 : decode cX1_sharers 6 = .ok (.ifCond .eq 7, 3) := by decide +kernel
theorem dX1_sharers_9 : decode cX1_sharers 9 = .ok (.iload_n 2, 1) := by decide +kernel
theorem dX1_sharers_10 : decode cX1_sharers 10 = .ok (.goto 7, 3) := by decide +kernel
theorem dX1_sharers_13 : decode cX1_sharers 13 = .ok (.aload_n 1, 1) := by decide +kernel
theorem dX1_sharers_14 : decode cX1_sharers 14 = .ok (.invokevirtual 16, 3) := by decide +kernel
theorem dX1_sharers_17 : decode cX1_sharers 17 = .ok (.ireturn, 1) := by decide +kernel
theorem dX2_init_0 : decode cX2_init 0 = .ok (.aload_n 0, 1) := by decide +kernel
theorem dX2_init_1 : decode cX2_init 1 = .ok (.invokespecial 3, 3) := by decide +kernel
theorem dX2_init_4 : decode cX2_init 4 = .ok (.return_, 1) := by decide +kernel
theorem dX2_become_0 : decode cX2_become 0 = .ok (.aload_n 0, 1) := by decide +kernel
theorem dX2_become_1 : decode cX2_become 1 = .ok (.iload_n 1, 1) := by decide +kernel
theorem dX2_become_2 : decode cX2_become 2 = .ok (.putfield 9, 3) := by decide +kernel
theorem dX2_become_5 : decode cX2_become 5 = .ok (.aload_n 0, 1) := by decide +kernel
theorem dX2_become_6 : decode cX2_become 6 = .ok (.iconst 0, 1) := by decide +kernel
theorem dX2_become_7 : decode cX2_become 7 = .ok (.putfield 15, 3) := by decide +kernel
theorem dX2_become_10 : decode cX2_become 10 = .ok (.aload_n 0, 1) := by decide +kernel
theorem dX2_become_11 : decode cX2_become 11 = .ok (.iload_n 2, 1) := by decide +kernel
theorem dX2_become_12 : decode cX2_become 12 = .ok (.putfield 18, 3) := by decide +kernel
theorem dX2_become_15 : decode cX2_become 15 = .ok (.aload_n 0, 1) := by decide +kernel
theorem dX2_become_16 : decode cX2_become 16 = .ok (.iload_n 3, 1) := by decide +kernel
theorem dX2_become_17 : decode cX2_become 17 = .ok (.putfield 21, 3) := by decide +kernel
theorem dX2_become_20 : decode cX2_become 20 = .ok (.return_, 1) := by decide +kernel
theorem dX2_copy_0 : decode cX2_copy 0 = .ok (.aload_n 0, 1) := by decide +kernel
theorem dX2_copy_1 : decode cX2_copy 1 = .ok (.aload_n 1, 1) := by decide +kernel
theorem dX2_copy_2 : decode cX2_copy 2 = .ok (.getfield 9, 3) := by decide +kernel
theorem dX2_copy_5 : decode cX2_copy 5 = .ok (.putfield 9, 3) := by decide +kernel
theorem dX2_copy_8 : decode cX2_copy 8 = .ok (.aload_n 0, 1) := by decide +kernel
theorem dX2_copy_9 : decode cX2_copy 9 = .ok (.aload_n 1, 1) := by decide +kernel
theorem dX2_copy_10 : decode cX2_copy 10 = .ok (.getfield 15, 3) := by decide +kernel
theorem dX2_copy_13 : decode cX2_copy 13 = .ok (.putfield 15, 3) := by decide +kernel
theorem dX2_copy_16 : decode cX2_copy 16 = .ok (.aload_n 0, 1) := by decide +kernel
theorem dX2_copy_17 : decode cX2_copy 17 = .ok (.aload_n 1, 1) := by decide +kernel
theorem dX2_copy_18 : decode cX2_copy 18 = .ok (.getfield 18, 3) := by decide +kernel
theorem dX2_copy_21 : decode cX2_copy 21 = .ok (.putfield 18, 3) := by decide +kernel
theorem dX2_copy_24 : decode cX2_copy 24 = .ok (.aload_n 0, 1) := by decide +kernel
theorem dX2_copy_25 : decode cX2_copy 25 = .ok (.aload_n 1, 1) := by decide +kernel
theorem dX2_copy_26 : decode cX2_copy 26 = .ok (.getfield 21, 3) := by decide +kernel
theorem dX2_copy_29 : decode cX2_copy 29 = .ok (.putfield 21, 3) := by decide +kernel
theorem dX2_copy_32 : decode cX2_copy 32 = .ok (.aload_n 0, 1) := by decide +kernel
theorem dX2_copy_33 : decode cX2_copy 33 = .ok (.iconst 0, 1) := by decide +kernel
theorem dX2_copy_34 : decode cX2_copy 34 = .ok (.putfield 24, 3) := by decide +kernel
theorem dX2_copy_37 : decode cX2_copy 37 = .ok (.aload_n 0, 1) := by decide +kernel
theorem dX2_copy_38 : decode cX2_copy 38 = .ok (.iconst 0, 1) := by decide +kernel
theorem dX2_copy_39 : decode cX2_copy 39 = .ok (.putfield 27, 3) := by decide +kernel
theorem dX2_copy_42 : decode cX2_copy 42 = .ok (.aload_n 0, 1) := by decide +kernel
theorem dX2_copy_43 : decode cX2_copy 43 = .ok (.iconst 0, 1) := by decide +kernel
theorem dX2_copy_44 : decode cX2_copy 44 = .ok (.putfield 30, 3) := by decide +kernel
theorem dX2_copy_47 : decode cX2_copy 47 = .ok (.return_, 1) := by decide +kernel
theorem dX2_headOwes_0 : decode cX2_headOwes 0 = .ok (.aload_n 0, 1) := by decide +kernel
theorem dX2_headOwes_1 : decode cX2_headOwes 1 = .ok (.getfield 15, 3) := by decide +kernel
theorem dX2_headOwes_4 : decode cX2_headOwes 4 = .ok (.aload_n 0, 1) := by decide +kernel
theorem dX2_headOwes_5 : decode cX2_headOwes 5 = .ok (.getfield 9, 3) := by decide +kernel
theorem dX2_headOwes_8 : decode cX2_headOwes 8 = .ok (.invokestatic 33, 3) := by decide +kernel
theorem dX2_headOwes_11 : decode cX2_headOwes 11 = .ok (.ireturn, 1) := by decide +kernel
theorem dX2_isCheaperThan_0 : decode cX2_isCheaperThan 0 = .ok (.aload_n 0, 1) := by decide +kernel
theorem dX2_isCheaperThan_1 : decode cX2_isCheaperThan 1 = .ok (.getfield 15, 3) := by decide +kernel
theorem dX2_isCheaperThan_4 : decode cX2_isCheaperThan 4 = .ok (.aload_n 1, 1) := by decide +kernel
theorem dX2_isCheaperThan_5 : decode cX2_isCheaperThan 5 = .ok (.getfield 9, 3) := by decide +kernel
theorem dX2_isCheaperThan_8 : decode cX2_isCheaperThan 8 = .ok (.imul, 1) := by decide +kernel
theorem dX2_isCheaperThan_9 : decode cX2_isCheaperThan 9 = .ok (.aload_n 1, 1) := by decide +kernel
theorem dX2_isCheaperThan_10 : decode cX2_isCheaperThan 10 = .ok (.getfield 15, 3) := by decide +kernel
theorem dX2_isCheaperThan_13 : decode cX2_isCheaperThan 13 = .ok (.aload_n 0, 1) := by decide +kernel
theorem dX2_isCheaperThan_14 : decode cX2_isCheaperThan 14 = .ok (.getfield 9, 3) := by decide +kernel
theorem dX2_isCheaperThan_17 : decode cX2_isCheaperThan 17 = .ok (.imul, 1) := by decide +kernel
theorem dX2_isCheaperThan_18 : decode cX2_isCheaperThan 18 = .ok (.if_icmp .ge 7, 3) := by decide +kernel
theorem dX2_isCheaperThan_21 : decode cX2_isCheaperThan 21 = .ok (.iconst 1, 1) := by decide +kernel
theorem dX2_isCheaperThan_22 : decode cX2_isCheaperThan 22 = .ok (.goto 4, 3) := by decide +kernel
theorem dX2_isCheaperThan_25 : decode cX2_isCheaperThan 25 = .ok (.iconst 0, 1) := by decide +kernel
theorem dX2_isCheaperThan_26 : decode cX2_isCheaperThan 26 = .ok (.ireturn, 1) := by decide +kernel
theorem dX2_owe_0 : decode cX2_owe 0 = .ok (.aload_n 0, 1) := by decide +kernel
theorem dX2_owe_1 : decode cX2_owe 1 = .ok (.aload_n 0, 1) := by decide +kernel
theorem dX2_owe_2 : decode cX2_owe 2 = .ok (.getfield 15, 3) := by decide +kernel
theorem dX2_owe_5 : decode cX2_owe 5 = .ok (.iload_n 1, 1) := by decide +kernel
theorem dX2_owe_6 : decode cX2_owe 6 = .ok (.iadd, 1) := by decide +kernel
theorem dX2_owe_7 : decode cX2_owe 7 = .ok (.ldc 37, 2) := by decide +kernel
theorem dX2_owe_9 : decode cX2_owe 9 = .ok (.if_icmp .le 8, 3) := by decide +kernel
theorem dX2_owe_12 : decode cX2_owe 12 = .ok (.ldc 37, 2) := by decide +kernel
theorem dX2_owe_14 : decode cX2_owe 14 = .ok (.goto 9, 3) := by decide +kernel
theorem dX2_owe_17 : decode cX2_owe 17 = .ok (.aload_n 0, 1) := by decide +kernel
theorem dX2_owe_18 : decode cX2_owe 18 = .ok (.getfield 15, 3) := by decide +kernel
theorem dX2_owe_21 : decode cX2_owe 21 = .ok (.iload_n 1, 1) := by decide +kernel
theorem dX2_owe_22 : decode cX2_owe 22 = .ok (.iadd, 1) := by decide +kernel
theorem dX2_owe_23 : decode cX2_owe 23 = .ok (.putfield 15, 3) := by decide +kernel
theorem dX2_owe_26 : decode cX2_owe 26 = .ok (.return_, 1) := by decide +kernel
theorem dX2_pay_0 : decode cX2_pay 0 = .ok (.iload_n 1, 1) := by decide +kernel
theorem dX2_pay_1 : decode cX2_pay 1 = .ok (.aload_n 0, 1) := by decide +kernel
theorem dX2_pay_2 : decode cX2_pay 2 = .ok (.getfield 15, 3) := by decide +kernel
theorem dX2_pay_5 : decode cX2_pay 5 = .ok (.if_icmp .le 10, 3) := by decide +kernel
theorem dX2_pay_8 : decode cX2_pay 8 = .ok (.aload_n 0, 1) := by decide +kernel
theorem dX2_pay_9 : decode cX2_pay 9 = .ok (.getfield 15, 3) := by decide +kernel
theorem dX2_pay_12 : decode cX2_pay 12 = .ok (.goto 4, 3) := by decide +kernel
theorem dX2_pay_15 : decode cX2_pay 15 = .ok (.iload_n 1, 1) := by decide +kernel
theorem dX2_pay_16 : decode cX2_pay 16 = .ok (.istore_n 2, 1) := by decide +kernel
theorem dX2_pay_17 : decode cX2_pay 17 = .ok (.aload_n 0, 1) := by decide +kernel
theorem dX2_pay_18 : decode cX2_pay 18 = .ok (.dup, 1) := by decide +kernel
theorem dX2_pay_19 : decode cX2_pay 19 = .ok (.getfield 15, 3) := by decide +kernel
theorem dX2_pay_22 : decode cX2_pay 22 = .ok (.iload_n 2, 1) := by decide +kernel
theorem dX2_pay_23 : decode cX2_pay 23 = .ok (.isub, 1) := by decide +kernel
theorem dX2_pay_24 : decode cX2_pay 24 = .ok (.putfield 15, 3) := by decide +kernel
theorem dX2_pay_27 : decode cX2_pay 27 = .ok (.aload_n 0, 1) := by decide +kernel
theorem dX2_pay_28 : decode cX2_pay 28 = .ok (.dup, 1) := by decide +kernel
theorem dX2_pay_29 : decode cX2_pay 29 = .ok (.getfield 27, 3) := by decide +kernel
theorem dX2_pay_32 : decode cX2_pay 32 = .ok (.iload_n 2, 1) := by decide +kernel
theorem dX2_pay_33 : decode cX2_pay 33 = .ok (.iadd, 1) := by decide +kernel
theorem dX2_pay_34 : decode cX2_pay 34 = .ok (.putfield 27, 3) := by decide +kernel
theorem dX2_pay_37 : decode cX2_pay 37 = .ok (.return_, 1) := by decide +kernel
theorem dX2_settle_0 : decode cX2_settle 0 = .ok (.aload_n 0, 1) := by decide +kernel
theorem dX2_settle_1 : decode cX2_settle 1 = .ok (.getfield 15, 3) := by decide +kernel
theorem dX2_settle_4 : decode cX2_settle 4 = .ok (.istore_n 2, 1) := by decide +kernel
theorem dX2_settle_5 : decode cX2_settle 5 = .ok (.aload_n 0, 1) := by decide +kernel
theorem dX2_settle_6 : decode cX2_settle 6 = .ok (.aload_n 0, 1) := by decide +kernel
theorem dX2_settle_7 : decode cX2_settle 7 = .ok (.getfield 15, 3) := by decide +kernel
theorem dX2_settle_10 : decode cX2_settle 10 = .ok (.iload_n 1, 1) := by decide +kernel
theorem dX2_settle_11 : decode cX2_settle 11 = .ok (.imul, 1) := by decide +kernel
theorem dX2_settle_12 : decode cX2_settle 12 = .ok (.bipush 100, 2) := by decide +kernel
theorem dX2_settle_14 : decode cX2_settle 14 = .ok (.idiv, 1) := by decide +kernel
theorem dX2_settle_15 : decode cX2_settle 15 = .ok (.invokevirtual 38, 3) := by decide +kernel
theorem dX2_settle_18 : decode cX2_settle 18 = .ok (.aload_n 0, 1) := by decide +kernel
theorem dX2_settle_19 : decode cX2_settle 19 = .ok (.dup, 1) := by decide +kernel
theorem dX2_settle_20 : decode cX2_settle 20 = .ok (.getfield 24, 3) := by decide +kernel
theorem dX2_settle_23 : decode cX2_settle 23 = .ok (.aload_n 0, 1) := by decide +kernel
theorem dX2_settle_24 : decode cX2_settle 24 = .ok (.getfield 15, 3) := by decide +kernel
theorem dX2_settle_27 : decode cX2_settle 27 = .ok (.iload_n 2, 1) := by decide +kernel
theorem dX2_settle_28 : decode cX2_settle 28 = .ok (.isub, 1) := by decide +kernel
theorem dX2_settle_29 : decode cX2_settle 29 = .ok (.iadd, 1) := by decide +kernel
theorem dX2_settle_30 : decode cX2_settle 30 = .ok (.putfield 24, 3) := by decide +kernel
theorem dX2_settle_33 : decode cX2_settle 33 = .ok (.aload_n 0, 1) := by decide +kernel
theorem dX2_settle_34 : decode cX2_settle 34 = .ok (.aload_n 0, 1) := by decide +kernel
theorem dX2_settle_35 : decode cX2_settle 35 = .ok (.getfield 18, 3) := by decide +kernel
theorem dX2_settle_38 : decode cX2_settle 38 = .ok (.aload_n 0, 1) := by decide +kernel
theorem dX2_settle_39 : decode cX2_settle 39 = .ok (.getfield 9, 3) := by decide +kernel
theorem dX2_settle_42 : decode cX2_settle 42 = .ok (.imul, 1) := by decide +kernel
theorem dX2_settle_43 : decode cX2_settle 43 = .ok (.invokevirtual 42, 3) := by decide +kernel
theorem dX2_settle_46 : decode cX2_settle 46 = .ok (.return_, 1) := by decide +kernel
theorem dX2_bear_0 : decode cX2_bear 0 = .ok (.aload_n 0, 1) := by decide +kernel
theorem dX2_bear_1 : decode cX2_bear 1 = .ok (.getfield 9, 3) := by decide +kernel
theorem dX2_bear_4 : decode cX2_bear 4 = .ok (.bipush 20, 2) := by decide +kernel
theorem dX2_bear_6 : decode cX2_bear 6 = .ok (.if_icmp .lt 4, 3) := by decide +kernel
theorem dX2_bear_9 : decode cX2_bear 9 = .ok (.return_, 1) := by decide +kernel
theorem dX2_bear_10 : decode cX2_bear 10 = .ok (.aload_n 0, 1) := by decide +kernel
theorem dX2_bear_11 : decode cX2_bear 11 = .ok (.dup, 1) := by decide +kernel
theorem dX2_bear_12 : decode cX2_bear 12 = .ok (.getfield 9, 3) := by decide +kernel
theorem dX2_bear_15 : decode cX2_bear 15 = .ok (.iconst 1, 1) := by decide +kernel
theorem dX2_bear_16 : decode cX2_bear 16 = .ok (.iadd, 1) := by decide +kernel
theorem dX2_bear_17 : decode cX2_bear 17 = .ok (.putfield 9, 3) := by decide +kernel
theorem dX2_bear_20 : decode cX2_bear 20 = .ok (.aload_n 0, 1) := by decide +kernel
theorem dX2_bear_21 : decode cX2_bear 21 = .ok (.getfield 15, 3) := by decide +kernel
theorem dX2_bear_24 : decode cX2_bear 24 = .ok (.ifCond .ne 13, 3) := by decide +kernel
theorem dX2_bear_27 : decode cX2_bear 27 = .ok (.aload_n 0, 1) := by decide +kernel
theorem dX2_bear_28 : decode cX2_bear 28 = .ok (.dup, 1) := by decide +kernel
theorem dX2_bear_29 : decode cX2_bear 29 = .ok (.getfield 30, 3) := by decide +kernel
theorem dX2_bear_32 : decode cX2_bear 32 = .ok (.iconst 1, 1) := by decide +kernel
theorem dX2_bear_33 : decode cX2_bear 33 = .ok (.iadd, 1) := by decide +kernel
theorem dX2_bear_34 : decode cX2_bear 34 = .ok (.putfield 30, 3) := by decide +kernel
theorem dX2_bear_37 : decode cX2_bear 37 = .ok (.return_, 1) := by decide +kernel
theorem dX2_passYear_0 : decode cX2_passYear 0 = .ok (.aload_n 0, 1) := by decide +kernel
theorem dX2_passYear_1 : decode cX2_passYear 1 = .ok (.iload_n 1, 1) := by decide +kernel
theorem dX2_passYear_2 : decode cX2_passYear 2 = .ok (.invokevirtual 45, 3) := by decide +kernel
theorem dX2_passYear_5 : decode cX2_passYear 5 = .ok (.aload_n 0, 1) := by decide +kernel
theorem dX2_passYear_6 : decode cX2_passYear 6 = .ok (.getfield 21, 3) := by decide +kernel
theorem dX2_passYear_9 : decode cX2_passYear 9 = .ok (.ifCond .le 16, 3) := by decide +kernel
theorem dX2_passYear_12 : decode cX2_passYear 12 = .ok (.iload_n 2, 1) := by decide +kernel
theorem dX2_passYear_13 : decode cX2_passYear 13 = .ok (.aload_n 0, 1) := by decide +kernel
theorem dX2_passYear_14 : decode cX2_passYear 14 = .ok (.getfield 21, 3) := by decide +kernel
theorem dX2_passYear_17 : decode cX2_passYear 17 = .ok (.irem, 1) := by decide +kernel
theorem dX2_passYear_18 : decode cX2_passYear 18 = .ok (.ifCond .ne 7, 3) := by decide +kernel
theorem dX2_passYear_21 : decode cX2_passYear 21 = .ok (.aload_n 0, 1) := by decide +kernel
theorem dX2_passYear_22 : decode cX2_passYear 22 = .ok (.invokevirtual 48, 3) := by decide +kernel
theorem dX2_passYear_25 : decode cX2_passYear 25 = .ok (.return_, 1) := by decide +kernel
theorem dX2_passYears_0 : decode cX2_passYears 0 = .ok (.iconst 1, 1) := by decide +kernel
theorem dX2_passYears_1 : decode cX2_passYears 1 = .ok (.istore 4, 2) := by decide +kernel
theorem dX2_passYears_3 : decode cX2_passYears 3 = .ok (.iload 4, 2) := by decide +kernel
theorem dX2_passYears_5 : decode cX2_passYears 5 = .ok (.iload_n 3, 1) := by decide +kernel
theorem dX2_passYears_6 : decode cX2_passYears 6 = .ok (.if_icmp .gt 18, 3) := by decide +kernel
theorem dX2_passYears_9 : decode cX2_passYears 9 = .ok (.aload_n 0, 1) := by decide +kernel
theorem dX2_passYears_10 : decode cX2_passYears 10 = .ok (.iload_n 1, 1) := by decide +kernel
theorem dX2_passYears_11 : decode cX2_passYears 11 = .ok (.iload_n 2, 1) := by decide +kernel
theorem dX2_passYears_12 : decode cX2_passYears 12 = .ok (.iload 4, 2) := by decide +kernel
theorem dX2_passYears_14 : decode cX2_passYears 14 = .ok (.iadd, 1) := by decide +kernel
theorem dX2_passYears_15 : decode cX2_passYears 15 = .ok (.invokevirtual 51, 3) := by decide +kernel
theorem dX2_passYears_18 : decode cX2_passYears 18 = .ok (.iinc 4 1, 3) := by decide +kernel
theorem dX2_passYears_21 : decode cX2_passYears 21 = .ok (.goto (-18), 3) := by decide +kernel
theorem dX2_passYears_24 : decode cX2_passYears 24 = .ok (.return_, 1) := by decide +kernel
theorem dX3_init_0 : decode cX3_init 0 = .ok (.aload_n 0, 1) := by decide +kernel
theorem dX3_init_1 : decode cX3_init 1 = .ok (.invokespecial 3, 3) := by decide +kernel
theorem dX3_init_4 : decode cX3_init 4 = .ok (.aload_n 0, 1) := by decide +kernel
theorem dX3_init_5 : decode cX3_init 5 = .ok (.iconst 5, 1) := by decide +kernel
theorem dX3_init_6 : decode cX3_init 6 = .ok (.putfield 9, 3) := by decide +kernel
theorem dX3_init_9 : decode cX3_init 9 = .ok (.aload_n 0, 1) := by decide +kernel
theorem dX3_init_10 : decode cX3_init 10 = .ok (.iconst 5, 1) := by decide +kernel
theorem dX3_init_11 : decode cX3_init 11 = .ok (.anewarray 15, 3) := by decide +kernel
theorem dX3_init_14 : decode cX3_init 14 = .ok (.putfield 17, 3) := by decide +kernel
theorem dX3_init_17 : decode cX3_init 17 = .ok (.iconst 0, 1) := by decide +kernel
theorem dX3_init_18 : decode cX3_init 18 = .ok (.istore_n 1, 1) := by decide +kernel
theorem dX3_init_19 : decode cX3_init 19 = .ok (.iload_n 1, 1) := by decide +kernel
theorem dX3_init_20 : decode cX3_init 20 = .ok (.aload_n 0, 1) := by decide +kernel
theorem dX3_init_21 : decode cX3_init 21 = .ok (.getfield 17, 3) := by decide +kernel
theorem dX3_init_24 : decode cX3_init 24 = .ok (.arraylength, 1) := by decide +kernel
theorem dX3_init_25 : decode cX3_init 25 = .ok (.if_icmp .ge 22, 3) := by decide +kernel
theorem dX3_init_28 : decode cX3_init 28 = .ok (.aload_n 0, 1) := by decide +kernel
theorem dX3_init_29 : decode cX3_init 29 = .ok (.getfield 17, 3) := by decide +kernel
theorem dX3_init_32 : decode cX3_init 32 = .ok (.iload_n 1, 1) := by decide +kernel
theorem dX3_init_33 : decode cX3_init 33 = .ok (.new 15, 3) := by decide +kernel
theorem dX3_init_36 : decode cX3_init 36 = .ok (.dup, 1) := by decide +kernel
theorem dX3_init_37 : decode cX3_init 37 = .ok (.invokespecial 21, 3) := by decide +kernel
theorem dX3_init_40 : decode cX3_init 40 = .ok (.aastore, 1) := by decide +kernel
theorem dX3_init_41 : decode cX3_init 41 = .ok (.iinc 1 1, 3) := by decide +kernel
theorem dX3_init_44 : decode cX3_init 44 = .ok (.goto (-25), 3) := by decide +kernel
theorem dX3_init_47 : decode cX3_init 47 = .ok (.aload_n 0, 1) := by decide +kernel
theorem dX3_init_48 : decode cX3_init 48 = .ok (.bipush 6, 2) := by decide +kernel
theorem dX3_init_50 : decode cX3_init 50 = .ok (.anewarray 22, 3) := by decide +kernel
theorem dX3_init_53 : decode cX3_init 53 = .ok (.putfield 24, 3) := by decide +kernel
theorem dX3_init_56 : decode cX3_init 56 = .ok (.aload_n 0, 1) := by decide +kernel
theorem dX3_init_57 : decode cX3_init 57 = .ok (.bipush 6, 2) := by decide +kernel
theorem dX3_init_59 : decode cX3_init 59 = .ok (.newarray .int, 2) := by decide +kernel
theorem dX3_init_61 : decode cX3_init 61 = .ok (.putfield 28, 3) := by decide +kernel
theorem dX3_init_64 : decode cX3_init 64 = .ok (.aload_n 0, 1) := by decide +kernel
theorem dX3_init_65 : decode cX3_init 65 = .ok (.iconst 5, 1) := by decide +kernel
theorem dX3_init_66 : decode cX3_init 66 = .ok (.newarray .int, 2) := by decide +kernel
theorem dX3_init_68 : decode cX3_init 68 = .ok (.putfield 32, 3) := by decide +kernel
theorem dX3_init_71 : decode cX3_init 71 = .ok (.return_, 1) := by decide +kernel
theorem dX3_copy_0 : decode cX3_copy 0 = .ok (.aload_n 0, 1) := by decide +kernel
theorem dX3_copy_1 : decode cX3_copy 1 = .ok (.aload_n 1, 1) := by decide +kernel
theorem dX3_copy_2 : decode cX3_copy 2 = .ok (.getfield 35, 3) := by decide +kernel
theorem dX3_copy_5 : decode cX3_copy 5 = .ok (.putfield 35, 3) := by decide +kernel
theorem dX3_copy_8 : decode cX3_copy 8 = .ok (.aload_n 0, 1) := by decide +kernel
theorem dX3_copy_9 : decode cX3_copy 9 = .ok (.aload_n 1, 1) := by decide +kernel
theorem dX3_copy_10 : decode cX3_copy 10 = .ok (.getfield 38, 3) := by decide +kernel
theorem dX3_copy_13 : decode cX3_copy 13 = .ok (.putfield 38, 3) := by decide +kernel
theorem dX3_copy_16 : decode cX3_copy 16 = .ok (.aload_n 0, 1) := by decide +kernel
theorem dX3_copy_17 : decode cX3_copy 17 = .ok (.aload_n 1, 1) := by decide +kernel
theorem dX3_copy_18 : decode cX3_copy 18 = .ok (.getfield 41, 3) := by decide +kernel
theorem dX3_copy_21 : decode cX3_copy 21 = .ok (.putfield 41, 3) := by decide +kernel
theorem dX3_copy_24 : decode cX3_copy 24 = .ok (.aload_n 0, 1) := by decide +kernel
theorem dX3_copy_25 : decode cX3_copy 25 = .ok (.aload_n 1, 1) := by decide +kernel
theorem dX3_copy_26 : decode cX3_copy 26 = .ok (.getfield 9, 3) := by decide +kernel
theorem dX3_copy_29 : decode cX3_copy 29 = .ok (.putfield 9, 3) := by decide +kernel
theorem dX3_copy_32 : decode cX3_copy 32 = .ok (.aload_n 0, 1) := by decide +kernel
theorem dX3_copy_33 : decode cX3_copy 33 = .ok (.aload_n 1, 1) := by decide +kernel
theorem dX3_copy_34 : decode cX3_copy 34 = .ok (.getfield 44, 3) := by decide +kernel
theorem dX3_copy_37 : decode cX3_copy 37 = .ok (.putfield 44, 3) := by decide +kernel
theorem dX3_copy_40 : decode cX3_copy 40 = .ok (.aload_n 0, 1) := by decide +kernel
theorem dX3_copy_41 : decode cX3_copy 41 = .ok (.aload_n 1, 1) := by decide +kernel
theorem dX3_copy_42 : decode cX3_copy 42 = .ok (.getfield 47, 3) := by decide +kernel
theorem dX3_copy_45 : decode cX3_copy 45 = .ok (.putfield 47, 3) := by decide +kernel
theorem dX3_copy_48 : decode cX3_copy 48 = .ok (.iconst 0, 1) := by decide +kernel
theorem dX3_copy_49 : decode cX3_copy 49 = .ok (.istore_n 2, 1) := by decide +kernel
theorem dX3_copy_50 : decode cX3_copy 50 = .ok (.iload_n 2, 1) := by decide +kernel
theorem dX3_copy_51 : decode cX3_copy 51 = .ok (.aload_n 0, 1) := by decide +kernel
theorem dX3_copy_52 : decode cX3_copy 52 = .ok (.getfield 35, 3) := by decide +kernel
theorem dX3_copy_55 : decode cX3_copy 55 = .ok (.if_icmp .ge 22, 3) := by decide +kernel
theorem dX3_copy_58 : decode cX3_copy 58 = .ok (.aload_n 0, 1) := by decide +kernel
theorem dX3_copy_59 : decode cX3_copy 59 = .ok (.iload_n 2, 1) := by decide +kernel
theorem dX3_copy_60 : decode cX3_copy 60 = .ok (.invokevirtual 50, 3) := by decide +kernel
theorem dX3_copy_63 : decode cX3_copy 63 = .ok (.aload_n 1, 1) := by decide +kernel
theorem dX3_copy_64 : decode cX3_copy 64 = .ok (.iload_n 2, 1) := by decide +kernel
theorem dX3_copy_65 : decode cX3_copy 65 = .ok (.invokevirtual 50, 3) := by decide +kernel
theorem dX3_copy_68 : decode cX3_copy 68 = .ok (.invokevirtual 54, 3) := by decide +kernel
theorem dX3_copy_71 : decode cX3_copy 71 = .ok (.iinc 2 1, 3) := by decide +kernel
theorem dX3_copy_74 : decode cX3_copy 74 = .ok (.goto (-24), 3) := by decide +kernel
theorem dX3_copy_77 : decode cX3_copy 77 = .ok (.iconst 0, 1) := by decide +kernel
theorem dX3_copy_78 : decode cX3_copy 78 = .ok (.istore_n 2, 1) := by decide +kernel
theorem dX3_copy_79 : decode cX3_copy 79 = .ok (.iload_n 2, 1) := by decide +kernel
theorem dX3_copy_80 : decode cX3_copy 80 = .ok (.aload_n 0, 1) := by decide +kernel
theorem dX3_copy_81 : decode cX3_copy 81 = .ok (.getfield 24, 3) := by decide +kernel
theorem dX3_copy_84 : decode cX3_copy 84 = .ok (.arraylength, 1) := by decide +kernel
theorem dX3_copy_85 : decode cX3_copy 85 = .ok (.if_icmp .ge 40, 3) := by decide +kernel
theorem dX3_copy_88 : decode cX3_copy 88 = .ok (.iload_n 2, 1) := by decide +kernel
theorem dX3_copy_89 : decode cX3_copy 89 = .ok (.aload_n 0, 1) := by decide +kernel
theorem dX3_copy_90 : decode cX3_copy 90 = .ok (.getfield 28, 3) := by decide +kernel
theorem dX3_copy_93 : decode cX3_copy 93 = .ok (.arraylength, 1) := by decide +kernel
theorem dX3_copy_94 : decode cX3_copy 94 = .ok (.if_icmp .ge 31, 3) := by decide +kernel
theorem dX3_copy_97 : decode cX3_copy 97 = .ok (.aload_n 0, 1) := by decide +kernel
theorem dX3_copy_98 : decode cX3_copy 98 = .ok (.getfield 24, 3) := by decide +kernel
theorem dX3_copy_101 : decode cX3_copy 101 = .ok (.iload_n 2, 1) := by decide +kernel
theorem dX3_copy_102 : decode cX3_copy 102 = .ok (.aload_n 1, 1) := by decide +kernel
theorem dX3_copy_103 : decode cX3_copy 103 = .ok (.iload_n 2, 1) := by decide +kernel
theorem dX3_copy_104 : decode cX3_copy 104 = .ok (.invokevirtual 58, 3) := by decide +kernel
theorem dX3_copy_107 : decode cX3_copy 107 = .ok (.aastore, 1) := by decide +kernel
theorem dX3_copy_108 : decode cX3_copy 108 = .ok (.aload_n 0, 1) := by decide +kernel
theorem dX3_copy_109 : decode cX3_copy 109 = .ok (.getfield 28, 3) := by decide +kernel
theorem dX3_copy_112 : decode cX3_copy 112 = .ok (.iload_n 2, 1) := by decide +kernel
theorem dX3_copy_113 : decode cX3_copy 113 = .ok (.aload_n 1, 1) := by decide +kernel
theorem dX3_copy_114 : decode cX3_copy 114 = .ok (.iload_n 2, 1) := by decide +kernel
theorem dX3_copy_115 : decode cX3_copy 115 = .ok (.invokevirtual 62, 3) := by decide +kernel
theorem dX3_copy_118 : decode cX3_copy 118 = .ok (.iastore, 1) := by decide +kernel
theorem dX3_copy_119 : decode cX3_copy 119 = .ok (.iinc 2 1, 3) := by decide +kernel
theorem dX3_copy_122 : decode cX3_copy 122 = .ok (.goto (-43), 3) := by decide +kernel
theorem dX3_copy_125 : decode cX3_copy 125 = .ok (.return_, 1) := by decide +kernel
theorem dX3_at_0 : decode cX3_at 0 = .ok (.aload_n 0, 1) := by decide +kernel
theorem dX3_at_1 : decode cX3_at 1 = .ok (.getfield 17, 3) := by decide +kernel
theorem dX3_at_4 : decode cX3_at 4 = .ok (.iload_n 1, 1) := by decide +kernel
theorem dX3_at_5 : decode cX3_at 5 = .ok (.ifCond .lt 16, 3) := by decide +kernel
theorem dX3_at_8 : decode cX3_at 8 = .ok (.iload_n 1, 1) := by decide +kernel
theorem dX3_at_9 : decode cX3_at 9 = .ok (.aload_n 0, 1) := by decide +kernel
theorem dX3_at_10 : decode cX3_at 10 = .ok (.getfield 17, 3) := by decide +kernel
theorem dX3_at_13 : decode cX3_at 13 = .ok (.arraylength, 1) := by decide +kernel
theorem dX3_at_14 : decode cX3_at 14 = .ok (.if_icmp .ge 7, 3) := by decide +kernel
theorem dX3_at_17 : decode cX3_at 17 = .ok (.iload_n 1, 1) := by decide +kernel
theorem dX3_at_18 : decode cX3_at 18 = .ok (.goto 4, 3) := by decide +kernel
theorem dX3_at_21 : decode cX3_at 21 = .ok (.iconst 0, 1) := by decide +kernel
theorem dX3_at_22 : decode cX3_at 22 = .ok (.aaload, 1) := by decide +kernel
theorem dX3_at_23 : decode cX3_at 23 = .ok (.areturn, 1) := by decide +kernel
theorem dX3_workAt_0 : decode cX3_workAt 0 = .ok (.iload_n 1, 1) := by decide +kernel
theorem dX3_workAt_1 : decode cX3_workAt 1 = .ok (.ifCond .lt 29, 3) := by decide +kernel
theorem dX3_workAt_4 : decode cX3_workAt 4 = .ok (.iload_n 1, 1) := by decide +kernel
theorem dX3_workAt_5 : decode cX3_workAt 5 = .ok (.aload_n 0, 1) := by decide +kernel
theorem dX3_workAt_6 : decode cX3_workAt 6 = .ok (.getfield 38, 3) := by decide +kernel
theorem dX3_workAt_9 : decode cX3_workAt 9 = .ok (.if_icmp .ge 21, 3) := by decide +kernel
theorem dX3_workAt_12 : decode cX3_workAt 12 = .ok (.iload_n 1, 1) := by decide +kernel
theorem dX3_workAt_13 : decode cX3_workAt 13 = .ok (.aload_n 0, 1) := by decide +kernel
theorem dX3_workAt_14 : decode cX3_workAt 14 = .ok (.getfield 24, 3) := by decide +kernel
theorem dX3_workAt_17 : decode cX3_workAt 17 = .ok (.arraylength, 1) := by decide +kernel
theorem dX3_workAt_18 : decode cX3_workAt 18 = .ok (.if_icmp .ge 12, 3) := by decide +kernel
theorem dX3_workAt_21 : decode cX3_workAt 21 = .ok (.aload_n 0, 1) := by decide +kernel
theorem dX3_workAt_22 : decode cX3_workAt 22 = .ok (.getfield 24, 3) := by decide +kernel
theorem dX3_workAt_25 : decode cX3_workAt 25 = .ok (.iload_n 1, 1) := by decide +kernel
theorem dX3_workAt_26 : decode cX3_workAt 26 = .ok (.aaload, 1) := by decide +kernel
theorem dX3_workAt_27 : decode cX3_workAt 27 = .ok (.goto 4, 3) := by decide +kernel
theorem dX3_workAt_30 : decode cX3_workAt 30 = .ok (.aconst_null, 1) := by decide +kernel
theorem dX3_workAt_31 : decode cX3_workAt 31 = .ok (.areturn, 1) := by decide +kernel
theorem dX3_builtAs_0 : decode cX3_builtAs 0 = .ok (.iload_n 1, 1) := by decide +kernel
theorem dX3_builtAs_1 : decode cX3_builtAs 1 = .ok (.ifCond .lt 29, 3) := by decide +kernel
theorem dX3_builtAs_4 : decode cX3_builtAs 4 = .ok (.iload_n 1, 1) := by decide +kernel
theorem dX3_builtAs_5 : decode cX3_builtAs 5 = .ok (.aload_n 0, 1) := by decide +kernel
theorem dX3_builtAs_6 : decode cX3_builtAs 6 = .ok (.getfield 47, 3) := by decide +kernel
theorem dX3_builtAs_9 : decode cX3_builtAs 9 = .ok (.if_icmp .ge 21, 3) := by decide +kernel
theorem dX3_builtAs_12 : decode cX3_builtAs 12 = .ok (.iload_n 1, 1) := by decide +kernel
theorem dX3_builtAs_13 : decode cX3_builtAs 13 = .ok (.aload_n 0, 1) := by decide +kernel
theorem dX3_builtAs_14 : decode cX3_builtAs 14 = .ok (.getfield 28, 3) := by decide +kernel
theorem dX3_builtAs_17 : decode cX3_builtAs 17 = .ok (.arraylength, 1) := by decide +kernel
theorem dX3_builtAs_18 : decode cX3_builtAs 18 = .ok (.if_icmp .ge 12, 3) := by decide +kernel
theorem dX3_builtAs_21 : decode cX3_builtAs 21 = .ok (.aload_n 0, 1) := by decide +kernel
theorem dX3_builtAs_22 : decode cX3_builtAs 22 = .ok (.getfield 28, 3) := by decide +kernel
theorem dX3_builtAs_25 : decode cX3_builtAs 25 = .ok (.iload_n 1, 1) := by decide +kernel
theorem dX3_builtAs_26 : decode cX3_builtAs 26 = .ok (.iaload, 1) := by decide +kernel
theorem dX3_builtAs_27 : decode cX3_builtAs 27 = .ok (.goto 5, 3) := by decide +kernel
theorem dX3_builtAs_30 : decode cX3_builtAs 30 = .ok (.bipush (-9), 2) := by decide +kernel
theorem dX3_builtAs_32 : decode cX3_builtAs 32 = .ok (.ireturn, 1) := by decide +kernel
theorem dX3_isBuilt_0 : decode cX3_isBuilt 0 = .ok (.aload_n 0, 1) := by decide +kernel
theorem dX3_isBuilt_1 : decode cX3_isBuilt 1 = .ok (.getfield 44, 3) := by decide +kernel
theorem dX3_isBuilt_4 : decode cX3_isBuilt 4 = .ok (.iload_n 1, 1) := by decide +kernel
theorem dX3_isBuilt_5 : decode cX3_isBuilt 5 = .ok (.ishr, 1) := by decide +kernel
theorem dX3_isBuilt_6 : decode cX3_isBuilt 6 = .ok (.iconst 1, 1) := by decide +kernel
theorem dX3_isBuilt_7 : decode cX3_isBuilt 7 = .ok (.iand, 1) := by decide +kernel
theorem dX3_isBuilt_8 : decode cX3_isBuilt 8 = .ok (.iconst 1, 1) := by decide +kernel
theorem dX3_isBuilt_9 : decode cX3_isBuilt 9 = .ok (.if_icmp .ne 7, 3) := by decide +kernel
theorem dX3_isBuilt_12 : decode cX3_isBuilt 12 = .ok (.iconst 1, 1) := by decide +kernel
theorem dX3_isBuilt_13 : decode cX3_isBuilt 13 = .ok (.goto 4, 3) := by decide +kernel
theorem dX3_isBuilt_16 : decode cX3_isBuilt 16 = .ok (.iconst 0, 1) := by decide +kernel
theorem dX3_isBuilt_17 : decode cX3_isBuilt 17 = .ok (.ireturn, 1) := by decide +kernel
theorem dX3_lacksFamily_0 : decode cX3_lacksFamily 0 = .ok (.iload_n 1, 1) := by decide +kernel
theorem dX3_lacksFamily_1 : decode cX3_lacksFamily 1 = .ok (.ifCond .lt 11, 3) := by decide +kernel
theorem dX3_lacksFamily_4 : decode cX3_lacksFamily 4 = .ok (.iload_n 1, 1) := by decide +kernel
theorem dX3_lacksFamily_5 : decode cX3_lacksFamily 5 = .ok (.aload_n 0, 1) := by decide +kernel
theorem dX3_lacksFamily_6 : decode cX3_lacksFamily 6 = .ok (.getfield 35, 3) := by decide +kernel
theorem dX3_lacksFamily_9 : decode cX3_lacksFamily 9 = .ok (.if_icmp .lt 7, 3) := by decide +kernel
theorem dX3_lacksFamily_12 : decode cX3_lacksFamily 12 = .ok (.iconst (-1), 1) := by decide +kernel
theorem dX3_lacksFamily_13 : decode cX3_lacksFamily 13 = .ok (.goto 4, 3) := by decide +kernel
theorem dX3_lacksFamily_16 : decode cX3_lacksFamily 16 = .ok (.iconst 0, 1) := by decide +kernel
theorem dX3_lacksFamily_17 : decode cX3_lacksFamily 17 = .ok (.ireturn, 1) := by decide +kernel
theorem dX3_lacksTwo_0 : decode cX3_lacksTwo 0 = .ok (.iload_n 1, 1) := by decide +kernel
theorem dX3_lacksTwo_1 : decode cX3_lacksTwo 1 = .ok (.iload_n 2, 1) := by decide +kernel
theorem dX3_lacksTwo_2 : decode cX3_lacksTwo 2 = .ok (.if_icmp .eq 11, 3) := by decide +kernel
theorem dX3_lacksTwo_5 : decode cX3_lacksTwo 5 = .ok (.aload_n 0, 1) := by decide +kernel
theorem dX3_lacksTwo_6 : decode cX3_lacksTwo 6 = .ok (.iload_n 1, 1) := by decide +kernel
theorem dX3_lacksTwo_7 : decode cX3_lacksTwo 7 = .ok (.invokevirtual 66, 3) := by decide +kernel
theorem dX3_lacksTwo_10 : decode cX3_lacksTwo 10 = .ok (.ifCond .eq 7, 3) := by decide +kernel
theorem dX3_lacksTwo_13 : decode cX3_lacksTwo 13 = .ok (.iconst (-1), 1) := by decide +kernel
theorem dX3_lacksTwo_14 : decode cX3_lacksTwo 14 = .ok (.goto 8, 3) := by decide +kernel
theorem dX3_lacksTwo_17 : decode cX3_lacksTwo 17 = .ok (.aload_n 0, 1) := by decide +kernel
theorem dX3_lacksTwo_18 : decode cX3_lacksTwo 18 = .ok (.iload_n 2, 1) := by decide +kernel
theorem dX3_lacksTwo_19 : decode cX3_lacksTwo 19 = .ok (.invokevirtual 66, 3) := by decide +kernel
theorem dX3_lacksTwo_22 : decode cX3_lacksTwo 22 = .ok (.ireturn, 1) := by decide +kernel
theorem dX3_lacksEither_0 : decode cX3_lacksEither 0 = .ok (.aload_n 0, 1) := by decide +kernel
theorem dX3_lacksEither_1 : decode cX3_lacksEither 1 = .ok (.iload_n 1, 1) := by decide +kernel
theorem dX3_lacksEither_2 : decode cX3_lacksEither 2 = .ok (.invokevirtual 58, 3) := by decide +kernel
theorem dX3_lacksEither_5 : decode cX3_lacksEither 5 = .ok (.ifnonnull 7, 3) := by decide +kernel
theorem dX3_lacksEither_8 : decode cX3_lacksEither 8 = .ok (.iconst (-1), 1) := by decide +kernel
theorem dX3_lacksEither_9 : decode cX3_lacksEither 9 = .ok (.goto 8, 3) := by decide +kernel
theorem dX3_lacksEither_12 : decode cX3_lacksEither 12 = .ok (.aload_n 0, 1) := by decide +kernel
theorem dX3_lacksEither_13 : decode cX3_lacksEither 13 = .ok (.iload_n 2, 1) := by decide +kernel
theorem dX3_lacksEither_14 : decode cX3_lacksEither 14 = .ok (.invokevirtual 66, 3) := by decide +kernel
theorem dX3_lacksEither_17 : decode cX3_lacksEither 17 = .ok (.ireturn, 1) := by decide +kernel
theorem dX3_takeFamily_0 : decode cX3_takeFamily 0 = .ok (.iload_n 1, 1) := by decide +kernel
theorem dX3_takeFamily_1 : decode cX3_takeFamily 1 = .ok (.iconst 1, 1) := by decide +kernel
theorem dX3_takeFamily_2 : decode cX3_takeFamily 2 = .ok (.if_icmp .lt 11, 3) := by decide +kernel
theorem dX3_takeFamily_5 : decode cX3_takeFamily 5 = .ok (.iload_n 2, 1) := by decide +kernel
theorem dX3_takeFamily_6 : decode cX3_takeFamily 6 = .ok (.ifCond .lt 7, 3) := by decide +kernel
theorem dX3_takeFamily_9 : decode cX3_takeFamily 9 = .ok (.iload_n 3, 1) := by decide +kernel
theorem dX3_takeFamily_10 : decode cX3_takeFamily 10 = .ok (.ifCond .ge 6, 3) := by decide +kernel
theorem dX3_takeFamily_13 : decode cX3_takeFamily 13 = .ok (.bipush (-4), 2) := by decide +kernel
theorem dX3_takeFamily_15 : decode cX3_takeFamily 15 = .ok (.ireturn, 1) := by decide +kernel
theorem dX3_takeFamily_16 : decode cX3_takeFamily 16 = .ok (.iload_n 1, 1) := by decide +kernel
theorem dX3_takeFamily_17 : decode cX3_takeFamily 17 = .ok (.bipush 20, 2) := by decide +kernel
theorem dX3_takeFamily_19 : decode cX3_takeFamily 19 = .ok (.if_icmp .gt 15, 3) := by decide +kernel
theorem dX3_takeFamily_22 : decode cX3_takeFamily 22 = .ok (.iload_n 2, 1) := by decide +kernel
theorem dX3_takeFamily_23 : decode cX3_takeFamily 23 = .ok (.bipush 9, 2) := by decide +kernel
theorem dX3_takeFamily_25 : decode cX3_takeFamily 25 = .ok (.if_icmp .gt 9, 3) := by decide +kernel
theorem dX3_takeFamily_28 : decode cX3_takeFamily 28 = .ok (.iload_n 3, 1) := by decide +kernel
theorem dX3_takeFamily_29 : decode cX3_takeFamily 29 = .ok (.bipush 9, 2) := by decide +kernel
theorem dX3_takeFamily_31 : decode cX3_takeFamily 31 = .ok (.if_icmp .le 6, 3) := by decide +kernel
theorem dX3_takeFamily_34 : decode cX3_takeFamily 34 = .ok (.bipush (-6), 2) := by decide +kernel
theorem dX3_takeFamily_36 : decode cX3_takeFamily 36 = .ok (.ireturn, 1) := by decide +kernel
theorem dX3_takeFamily_37 : decode cX3_takeFamily 37 = .ok (.aload_n 0, 1) := by decide +kernel
theorem dX3_takeFamily_38 : decode cX3_takeFamily 38 = .ok (.getfield 35, 3) := by decide +kernel
theorem dX3_takeFamily_41 : decode cX3_takeFamily 41 = .ok (.aload_n 0, 1) := by decide +kernel
theorem dX3_takeFamily_42 : decode cX3_takeFamily 42 = .ok (.getfield 17, 3) := by decide +kernel
theorem dX3_takeFamily_45 : decode cX3_takeFamily 45 = .ok (.arraylength, 1) := by decide +kernel
theorem dX3_takeFamily_46 : decode cX3_takeFamily 46 = .ok (.if_icmp .lt 6, 3) := by decide +kernel
theorem dX3_takeFamily_49 : decode cX3_takeFamily 49 = .ok (.bipush (-6), 2) := by decide +kernel
theorem dX3_takeFamily_51 : decode cX3_takeFamily 51 = .ok (.ireturn, 1) := by decide +kernel
theorem dX3_takeFamily_52 : decode cX3_takeFamily 52 = .ok (.aload_n 0, 1) := by decide +kernel
theorem dX3_takeFamily_53 : decode cX3_takeFamily 53 = .ok (.aload_n 0, 1) := by decide +kernel
theorem dX3_takeFamily_54 : decode cX3_takeFamily 54 = .ok (.getfield 35, 3) := by decide +kernel
theorem dX3_takeFamily_57 : decode cX3_takeFamily 57 = .ok (.invokevirtual 50, 3) := by decide +kernel
theorem dX3_takeFamily_60 : decode cX3_takeFamily 60 = .ok (.iload_n 1, 1) := by decide +kernel
theorem dX3_takeFamily_61 : decode cX3_takeFamily 61 = .ok (.iload_n 2, 1) := by decide +kernel
theorem dX3_takeFamily_62 : decode cX3_takeFamily 62 = .ok (.iload_n 3, 1) := by decide +kernel
theorem dX3_takeFamily_63 : decode cX3_takeFamily 63 = .ok (.invokevirtual 69, 3) := by decide +kernel
theorem dX3_takeFamily_66 : decode cX3_takeFamily 66 = .ok (.aload_n 0, 1) := by decide +kernel
theorem dX3_takeFamily_67 : decode cX3_takeFamily 67 = .ok (.dup, 1) := by decide +kernel
theorem dX3_takeFamily_68 : decode cX3_takeFamily 68 = .ok (.getfield 35, 3) := by decide +kernel
theorem dX3_takeFamily_71 : decode cX3_takeFamily 71 = .ok (.iconst 1, 1) := by decide +kernel
theorem dX3_takeFamily_72 : decode cX3_takeFamily 72 = .ok (.iadd, 1) := by decide +kernel
theorem dX3_takeFamily_73 : decode cX3_takeFamily 73 = .ok (.putfield 35, 3) := by decide +kernel
theorem dX3_takeFamily_76 : decode cX3_takeFamily 76 = .ok (.aload_n 0, 1) := by decide +kernel
theorem dX3_takeFamily_77 : decode cX3_takeFamily 77 = .ok (.getfield 35, 3) := by decide +kernel
theorem dX3_takeFamily_80 : decode cX3_takeFamily 80 = .ok (.iconst 1, 1) := by decide +kernel
theorem dX3_takeFamily_81 : decode cX3_takeFamily 81 = .ok (.isub, 1) := by decide +kernel
theorem dX3_takeFamily_82 : decode cX3_takeFamily 82 = .ok (.ireturn, 1) := by decide +kernel
theorem dX3_takeWork_0 : decode cX3_takeWork 0 = .ok (.iload_n 1, 1) := by decide +kernel
theorem dX3_takeWork_1 : decode cX3_takeWork 1 = .ok (.iconst 5, 1) := by decide +kernel
theorem dX3_takeWork_2 : decode cX3_takeWork 2 = .ok (.invokestatic 73, 3) := by decide +kernel
theorem dX3_takeWork_5 : decode cX3_takeWork 5 = .ok (.ifCond .eq 6, 3) := by decide +kernel
theorem dX3_takeWork_8 : decode cX3_takeWork 8 = .ok (.bipush (-2), 2) := by decide +kernel
theorem dX3_takeWork_10 : decode cX3_takeWork 10 = .ok (.ireturn, 1) := by decide +kernel
theorem dX3_takeWork_11 : decode cX3_takeWork 11 = .ok (.iload_n 2, 1) := by decide +kernel
theorem dX3_takeWork_12 : decode cX3_takeWork 12 = .ok (.ifCond .lt 8, 3) := by decide +kernel
theorem dX3_takeWork_15 : decode cX3_takeWork 15 = .ok (.iload_n 3, 1) := by decide +kernel
theorem dX3_takeWork_16 : decode cX3_takeWork 16 = .ok (.iconst 1, 1) := by decide +kernel
theorem dX3_takeWork_17 : decode cX3_takeWork 17 = .ok (.if_icmp .ge 6, 3) := by decide +kernel
theorem dX3_takeWork_20 : decode cX3_takeWork 20 = .ok (.bipush (-4), 2) := by decide +kernel
theorem dX3_takeWork_22 : decode cX3_takeWork 22 = .ok (.ireturn, 1) := by decide +kernel
theorem dX3_takeWork_23 : decode cX3_takeWork 23 = .ok (.iload_n 2, 1) := by decide +kernel
theorem dX3_takeWork_24 : decode cX3_takeWork 24 = .ok (.bipush 9, 2) := by decide +kernel
theorem dX3_takeWork_26 : decode cX3_takeWork 26 = .ok (.if_icmp .gt 10, 3) := by decide +kernel
theorem dX3_takeWork_29 : decode cX3_takeWork 29 = .ok (.iload_n 3, 1) := by decide +kernel
theorem dX3_takeWork_30 : decode cX3_takeWork 30 = .ok (.sipush 999, 3) := by decide +kernel
theorem dX3_takeWork_33 : decode cX3_takeWork 33 = .ok (.if_icmp .le 6, 3) := by decide +kernel
theorem dX3_takeWork_36 : decode cX3_takeWork 36 = .ok (.bipush (-6), 2) := by decide +kernel
theorem dX3_takeWork_38 : decode cX3_takeWork 38 = .ok (.ireturn, 1) := by decide +kernel
theorem dX3_takeWork_39 : decode cX3_takeWork 39 = .ok (.aload_n 0, 1) := by decide +kernel
theorem dX3_takeWork_40 : decode cX3_takeWork 40 = .ok (.getfield 38, 3) := by decide +kernel
theorem dX3_takeWork_43 : decode cX3_takeWork 43 = .ok (.aload_n 0, 1) := by decide +kernel
theorem dX3_takeWork_44 : decode cX3_takeWork 44 = .ok (.getfield 24, 3) := by decide +kernel
theorem dX3_takeWork_47 : decode cX3_takeWork 47 = .ok (.arraylength, 1) := by decide +kernel
theorem dX3_takeWork_48 : decode cX3_takeWork 48 = .ok (.if_icmp .lt 6, 3) := by decide +kernel
theorem dX3_takeWork_51 : decode cX3_takeWork 51 = .ok (.bipush (-6), 2) := by decide +kernel
theorem dX3_takeWork_53 : decode cX3_takeWork 53 = .ok (.ireturn, 1) := by decide +kernel
theorem dX3_takeWork_54 : decode cX3_takeWork 54 = .ok (.aload_n 0, 1) := by decide +kernel
theorem dX3_takeWork_55 : decode cX3_takeWork 55 = .ok (.getfield 24, 3) := by decide +kernel
theorem dX3_takeWork_58 : decode cX3_takeWork 58 = .ok (.aload_n 0, 1) := by decide +kernel
theorem dX3_takeWork_59 : decode cX3_takeWork 59 = .ok (.getfield 38, 3) := by decide +kernel
theorem dX3_takeWork_62 : decode cX3_takeWork 62 = .ok (.iload_n 1, 1) := by decide +kernel
theorem dX3_takeWork_63 : decode cX3_takeWork 63 = .ok (.iload_n 2, 1) := by decide +kernel
theorem dX3_takeWork_64 : decode cX3_takeWork 64 = .ok (.iload_n 3, 1) := by decide +kernel
theorem dX3_takeWork_65 : decode cX3_takeWork 65 = .ok (.invokestatic 77, 3) := by decide +kernel
theorem dX3_takeWork_68 : decode cX3_takeWork 68 = .ok (.aastore, 1) := by decide +kernel
theorem dX3_takeWork_69 : decode cX3_takeWork 69 = .ok (.aload_n 0, 1) := by decide +kernel
theorem dX3_takeWork_70 : decode cX3_takeWork 70 = .ok (.dup, 1) := by decide +kernel
theorem dX3_takeWork_71 : decode cX3_takeWork 71 = .ok (.getfield 38, 3) := by decide +kernel
theorem dX3_takeWork_74 : decode cX3_takeWork 74 = .ok (.iconst 1, 1) := by decide +kernel
theorem dX3_takeWork_75 : decode cX3_takeWork 75 = .ok (.iadd, 1) := by decide +kernel
theorem dX3_takeWork_76 : decode cX3_takeWork 76 = .ok (.putfield 38, 3) := by decide +kernel
theorem dX3_takeWork_79 : decode cX3_takeWork 79 = .ok (.aload_n 0, 1) := by decide +kernel
theorem dX3_takeWork_80 : decode cX3_takeWork 80 = .ok (.getfield 38, 3) := by decide +kernel
theorem dX3_takeWork_83 : decode cX3_takeWork 83 = .ok (.iconst 1, 1) := by decide +kernel
theorem dX3_takeWork_84 : decode cX3_takeWork 84 = .ok (.isub, 1) := by decide +kernel
theorem dX3_takeWork_85 : decode cX3_takeWork 85 = .ok (.ireturn, 1) := by decide +kernel
theorem dX3_newWork_0 : decode cX3_newWork 0 = .ok (.iload_n 0, 1) := by decide +kernel
theorem dX3_newWork_1 : decode cX3_newWork 1 = .ok (.tableswitch 85 1 5 #[35, 45, 55, 65, 75], 35) := by decide +kernel
theorem dX3_newWork_36 : decode cX3_newWork 36 = .ok (.new 81, 3) := by decide +kernel
theorem dX3_newWork_39 : decode cX3_newWork 39 = .ok (.dup, 1) := by decide +kernel
theorem dX3_newWork_40 : decode cX3_newWork 40 = .ok (.iload_n 1, 1) := by decide +kernel
theorem dX3_newWork_41 : decode cX3_newWork 41 = .ok (.iload_n 2, 1) := by decide +kernel
theorem dX3_newWork_42 : decode cX3_newWork 42 = .ok (.invokespecial 83, 3) := by decide +kernel
theorem dX3_newWork_45 : decode cX3_newWork 45 = .ok (.areturn, 1) := by decide +kernel
theorem dX3_newWork_46 : decode cX3_newWork 46 = .ok (.new 86, 3) := by decide +kernel
theorem dX3_newWork_49 : decode cX3_newWork 49 = .ok (.dup, 1) := by decide +kernel
theorem dX3_newWork_50 : decode cX3_newWork 50 = .ok (.iload_n 1, 1) := by decide +kernel
theorem dX3_newWork_51 : decode cX3_newWork 51 = .ok (.iload_n 2, 1) := by decide +kernel
theorem dX3_newWork_52 : decode cX3_newWork 52 = .ok (.invokespecial 88, 3) := by decide +kernel
theorem dX3_newWork_55 : decode cX3_newWork 55 = .ok (.areturn, 1) := by decide +kernel
theorem dX3_newWork_56 : decode cX3_newWork 56 = .ok (.new 89, 3) := by decide +kernel
theorem dX3_newWork_59 : decode cX3_newWork 59 = .ok (.dup, 1) := by decide +kernel
theorem dX3_newWork_60 : decode cX3_newWork 60 = .ok (.iload_n 1, 1) := by decide +kernel
theorem dX3_newWork_61 : decode cX3_newWork 61 = .ok (.iload_n 2, 1) := by decide +kernel
theorem dX3_newWork_62 : decode cX3_newWork 62 = .ok (.invokespecial 91, 3) := by decide +kernel
theorem dX3_newWork_65 : decode cX3_newWork 65 = .ok (.areturn, 1) := by decide +kernel
theorem dX3_newWork_66 : decode cX3_newWork 66 = .ok (.new 92, 3) := by decide +kernel
theorem dX3_newWork_69 : decode cX3_newWork 69 = .ok (.dup, 1) := by decide +kernel
theorem dX3_newWork_70 : decode cX3_newWork 70 = .ok (.iload_n 1, 1) := by decide +kernel
theorem dX3_newWork_71 : decode cX3_newWork 71 = .ok (.iload_n 2, 1) := by decide +kernel
theorem dX3_newWork_72 : decode cX3_newWork 72 = .ok (.invokespecial 94, 3) := by decide +kernel
theorem dX3_newWork_75 : decode cX3_newWork 75 = .ok (.areturn, 1) := by decide +kernel
theorem dX3_newWork_76 : decode cX3_newWork 76 = .ok (.new 95, 3) := by decide +kernel
theorem dX3_newWork_79 : decode cX3_newWork 79 = .ok (.dup, 1) := by decide +kernel
theorem dX3_newWork_80 : decode cX3_newWork 80 = .ok (.iload_n 1, 1) := by decide +kernel
theorem dX3_newWork_81 : decode cX3_newWork 81 = .ok (.iload_n 2, 1) := by decide +kernel
theorem dX3_newWork_82 : decode cX3_newWork 82 = .ok (.invokespecial 97, 3) := by decide +kernel
theorem dX3_newWork_85 : decode cX3_newWork 85 = .ok (.areturn, 1) := by decide +kernel
theorem dX3_newWork_86 : decode cX3_newWork 86 = .ok (.new 22, 3) := by decide +kernel
theorem dX3_newWork_89 : decode cX3_newWork 89 = .ok (.dup, 1) := by decide +kernel
theorem dX3_newWork_90 : decode cX3_newWork 90 = .ok (.iload_n 1, 1) := by decide +kernel
theorem dX3_newWork_91 : decode cX3_newWork 91 = .ok (.iload_n 2, 1) := by decide +kernel
theorem dX3_newWork_92 : decode cX3_newWork 92 = .ok (.invokespecial 98, 3) := by decide +kernel
theorem dX3_newWork_95 : decode cX3_newWork 95 = .ok (.areturn, 1) := by decide +kernel
theorem dX3_build_0 : decode cX3_build 0 = .ok (.aload_n 0, 1) := by decide +kernel
theorem dX3_build_1 : decode cX3_build 1 = .ok (.iload_n 1, 1) := by decide +kernel
theorem dX3_build_2 : decode cX3_build 2 = .ok (.invokevirtual 58, 3) := by decide +kernel
theorem dX3_build_5 : decode cX3_build 5 = .ok (.astore_n 2, 1) := by decide +kernel
theorem dX3_build_6 : decode cX3_build 6 = .ok (.aload_n 2, 1) := by decide +kernel
theorem dX3_build_7 : decode cX3_build 7 = .ok (.ifnonnull 5, 3) := by decide +kernel
theorem dX3_build_10 : decode cX3_build 10 = .ok (.iconst (-1), 1) := by decide +kernel
theorem dX3_build_11 : decode cX3_build 11 = .ok (.ireturn, 1) := by decide +kernel
theorem dX3_build_12 : decode cX3_build 12 = .ok (.aload_n 0, 1) := by decide +kernel
theorem dX3_build_13 : decode cX3_build 13 = .ok (.iload_n 1, 1) := by decide +kernel
theorem dX3_build_14 : decode cX3_build 14 = .ok (.invokevirtual 99, 3) := by decide +kernel
theorem dX3_build_17 : decode cX3_build 17 = .ok (.ifCond .eq 6, 3) := by decide +kernel
theorem dX3_build_20 : decode cX3_build 20 = .ok (.bipush (-3), 2) := by decide +kernel
theorem dX3_build_22 : decode cX3_build 22 = .ok (.ireturn, 1) := by decide +kernel
theorem dX3_build_23 : decode cX3_build 23 = .ok (.aload_n 2, 1) := by decide +kernel
theorem dX3_build_24 : decode cX3_build 24 = .ok (.aload_n 0, 1) := by decide +kernel
theorem dX3_build_25 : decode cX3_build 25 = .ok (.invokevirtual 103, 3) := by decide +kernel
theorem dX3_build_28 : decode cX3_build 28 = .ok (.aload_n 0, 1) := by decide +kernel
theorem dX3_build_29 : decode cX3_build 29 = .ok (.invokevirtual 107, 3) := by decide +kernel
theorem dX3_build_32 : decode cX3_build 32 = .ok (.aload_n 0, 1) := by decide +kernel
theorem dX3_build_33 : decode cX3_build 33 = .ok (.dup, 1) := by decide +kernel
theorem dX3_build_34 : decode cX3_build 34 = .ok (.getfield 44, 3) := by decide +kernel
theorem dX3_build_37 : decode cX3_build 37 = .ok (.iconst 1, 1) := by decide +kernel
theorem dX3_build_38 : decode cX3_build 38 = .ok (.iload_n 1, 1) := by decide +kernel
theorem dX3_build_39 : decode cX3_build 39 = .ok (.ishl, 1) := by decide +kernel
theorem dX3_build_40 : decode cX3_build 40 = .ok (.ior, 1) := by decide +kernel
theorem dX3_build_41 : decode cX3_build 41 = .ok (.putfield 44, 3) := by decide +kernel
theorem dX3_build_44 : decode cX3_build 44 = .ok (.aload_n 0, 1) := by decide +kernel
theorem dX3_build_45 : decode cX3_build 45 = .ok (.getfield 47, 3) := by decide +kernel
theorem dX3_build_48 : decode cX3_build 48 = .ok (.aload_n 0, 1) := by decide +kernel
theorem dX3_build_49 : decode cX3_build 49 = .ok (.getfield 28, 3) := by decide +kernel
theorem dX3_build_52 : decode cX3_build 52 = .ok (.arraylength, 1) := by decide +kernel
theorem dX3_build_53 : decode cX3_build 53 = .ok (.if_icmp .ge 13, 3) := by decide +kernel
theorem dX3_build_56 : decode cX3_build 56 = .ok (.aload_n 0, 1) := by decide +kernel
theorem dX3_build_57 : decode cX3_build 57 = .ok (.getfield 28, 3) := by decide +kernel
theorem dX3_build_60 : decode cX3_build 60 = .ok (.aload_n 0, 1) := by decide +kernel
theorem dX3_build_61 : decode cX3_build 61 = .ok (.getfield 47, 3) := by decide +kernel
theorem dX3_build_64 : decode cX3_build 64 = .ok (.iload_n 1, 1) := by decide +kernel
theorem dX3_build_65 : decode cX3_build 65 = .ok (.iastore, 1) := by decide +kernel
theorem dX3_build_66 : decode cX3_build 66 = .ok (.aload_n 0, 1) := by decide +kernel
theorem dX3_build_67 : decode cX3_build 67 = .ok (.dup, 1) := by decide +kernel
theorem dX3_build_68 : decode cX3_build 68 = .ok (.getfield 47, 3) := by decide +kernel
theorem dX3_build_71 : decode cX3_build 71 = .ok (.iconst 1, 1) := by decide +kernel
theorem dX3_build_72 : decode cX3_build 72 = .ok (.iadd, 1) := by decide +kernel
theorem dX3_build_73 : decode cX3_build 73 = .ok (.putfield 47, 3) := by decide +kernel
theorem dX3_build_76 : decode cX3_build 76 = .ok (.aload_n 0, 1) := by decide +kernel
theorem dX3_build_77 : decode cX3_build 77 = .ok (.invokevirtual 110, 3) := by decide +kernel
theorem dX3_build_80 : decode cX3_build 80 = .ok (.ireturn, 1) := by decide +kernel
theorem dX3_takeYears_0 : decode cX3_takeYears 0 = .ok (.iload_n 1, 1) := by decide +kernel
theorem dX3_takeYears_1 : decode cX3_takeYears 1 = .ok (.iconst 1, 1) := by decide +kernel
theorem dX3_takeYears_2 : decode cX3_takeYears 2 = .ok (.bipush 60, 2) := by decide +kernel
theorem dX3_takeYears_4 : decode cX3_takeYears 4 = .ok (.invokestatic 114, 3) := by decide +kernel
theorem dX3_takeYears_7 : decode cX3_takeYears 7 = .ok (.istore_n 2, 1) := by decide +kernel
theorem dX3_takeYears_8 : decode cX3_takeYears 8 = .ok (.iload_n 2, 1) := by decide +kernel
theorem dX3_takeYears_9 : decode cX3_takeYears 9 = .ok (.ifCond .eq 5, 3) := by decide +kernel
theorem dX3_takeYears_12 : decode cX3_takeYears 12 = .ok (.iload_n 2, 1) := by decide +kernel
theorem dX3_takeYears_13 : decode cX3_takeYears 13 = .ok (.ireturn, 1) := by decide +kernel
theorem dX3_takeYears_14 : decode cX3_takeYears 14 = .ok (.aload_n 0, 1) := by decide +kernel
theorem dX3_takeYears_15 : decode cX3_takeYears 15 = .ok (.getfield 41, 3) := by decide +kernel
theorem dX3_takeYears_18 : decode cX3_takeYears 18 = .ok (.iload_n 1, 1) := by decide +kernel
theorem dX3_takeYears_19 : decode cX3_takeYears 19 = .ok (.iadd, 1) := by decide +kernel
theorem dX3_takeYears_20 : decode cX3_takeYears 20 = .ok (.sipush 999, 3) := by decide +kernel
theorem dX3_takeYears_23 : decode cX3_takeYears 23 = .ok (.if_icmp .le 6, 3) := by decide +kernel
theorem dX3_takeYears_26 : decode cX3_takeYears 26 = .ok (.bipush (-6), 2) := by decide +kernel
theorem dX3_takeYears_28 : decode cX3_takeYears 28 = .ok (.ireturn, 1) := by decide +kernel
theorem dX3_takeYears_29 : decode cX3_takeYears 29 = .ok (.aload_n 0, 1) := by decide +kernel
theorem dX3_takeYears_30 : decode cX3_takeYears 30 = .ok (.iload_n 1, 1) := by decide +kernel
theorem dX3_takeYears_31 : decode cX3_takeYears 31 = .ok (.invokevirtual 118, 3) := by decide +kernel
theorem dX3_takeYears_34 : decode cX3_takeYears 34 = .ok (.aload_n 0, 1) := by decide +kernel
theorem dX3_takeYears_35 : decode cX3_takeYears 35 = .ok (.invokevirtual 110, 3) := by decide +kernel
theorem dX3_takeYears_38 : decode cX3_takeYears 38 = .ok (.ireturn, 1) := by decide +kernel
theorem dX3_takeDebt_0 : decode cX3_takeDebt 0 = .ok (.aload_n 0, 1) := by decide +kernel
theorem dX3_takeDebt_1 : decode cX3_takeDebt 1 = .ok (.iload_n 1, 1) := by decide +kernel
theorem dX3_takeDebt_2 : decode cX3_takeDebt 2 = .ok (.invokevirtual 66, 3) := by decide +kernel
theorem dX3_takeDebt_5 : decode cX3_takeDebt 5 = .ok (.istore_n 3, 1) := by decide +kernel
theorem dX3_takeDebt_6 : decode cX3_takeDebt 6 = .ok (.iload_n 3, 1) := by decide +kernel
theorem dX3_takeDebt_7 : decode cX3_takeDebt 7 = .ok (.ifCond .ne 11, 3) := by decide +kernel
theorem dX3_takeDebt_10 : decode cX3_takeDebt 10 = .ok (.iload_n 2, 1) := by decide +kernel
theorem dX3_takeDebt_11 : decode cX3_takeDebt 11 = .ok (.iconst 0, 1) := by decide +kernel
theorem dX3_takeDebt_12 : decode cX3_takeDebt 12 = .ok (.ldc 122, 2) := by decide +kernel
theorem dX3_takeDebt_14 : decode cX3_takeDebt 14 = .ok (.invokestatic 114, 3) := by decide +kernel
theorem dX3_takeDebt_17 : decode cX3_takeDebt 17 = .ok (.istore_n 3, 1) := by decide +kernel
theorem dX3_takeDebt_18 : decode cX3_takeDebt 18 = .ok (.iload_n 3, 1) := by decide +kernel
theorem dX3_takeDebt_19 : decode cX3_takeDebt 19 = .ok (.ifCond .eq 5, 3) := by decide +kernel
theorem dX3_takeDebt_22 : decode cX3_takeDebt 22 = .ok (.iload_n 3, 1) := by decide +kernel
theorem dX3_takeDebt_23 : decode cX3_takeDebt 23 = .ok (.ireturn, 1) := by decide +kernel
theorem dX3_takeDebt_24 : decode cX3_takeDebt 24 = .ok (.aload_n 0, 1) := by decide +kernel
theorem dX3_takeDebt_25 : decode cX3_takeDebt 25 = .ok (.iload_n 1, 1) := by decide +kernel
theorem dX3_takeDebt_26 : decode cX3_takeDebt 26 = .ok (.invokevirtual 50, 3) := by decide +kernel
theorem dX3_takeDebt_29 : decode cX3_takeDebt 29 = .ok (.getfield 123, 3) := by decide +kernel
theorem dX3_takeDebt_32 : decode cX3_takeDebt 32 = .ok (.istore 4, 2) := by decide +kernel
theorem dX3_takeDebt_34 : decode cX3_takeDebt 34 = .ok (.aload_n 0, 1) := by decide +kernel
theorem dX3_takeDebt_35 : decode cX3_takeDebt 35 = .ok (.iload_n 1, 1) := by decide +kernel
theorem dX3_takeDebt_36 : decode cX3_takeDebt 36 = .ok (.invokevirtual 50, 3) := by decide +kernel
theorem dX3_takeDebt_39 : decode cX3_takeDebt 39 = .ok (.iload_n 2, 1) := by decide +kernel
theorem dX3_takeDebt_40 : decode cX3_takeDebt 40 = .ok (.putfield 123, 3) := by decide +kernel
theorem dX3_takeDebt_43 : decode cX3_takeDebt 43 = .ok (.iload 4, 2) := by decide +kernel
theorem dX3_takeDebt_45 : decode cX3_takeDebt 45 = .ok (.ireturn, 1) := by decide +kernel
theorem dX3_takeRate_0 : decode cX3_takeRate 0 = .ok (.iload_n 1, 1) := by decide +kernel
theorem dX3_takeRate_1 : decode cX3_takeRate 1 = .ok (.iconst 0, 1) := by decide +kernel
theorem dX3_takeRate_2 : decode cX3_takeRate 2 = .ok (.bipush 20, 2) := by decide +kernel
theorem dX3_takeRate_4 : decode cX3_takeRate 4 = .ok (.invokestatic 114, 3) := by decide +kernel
theorem dX3_takeRate_7 : decode cX3_takeRate 7 = .ok (.istore_n 2, 1) := by decide +kernel
theorem dX3_takeRate_8 : decode cX3_takeRate 8 = .ok (.iload_n 2, 1) := by decide +kernel
theorem dX3_takeRate_9 : decode cX3_takeRate 9 = .ok (.ifCond .eq 5, 3) := by decide +kernel
theorem dX3_takeRate_12 : decode cX3_takeRate 12 = .ok (.iload_n 2, 1) := by decide +kernel
theorem dX3_takeRate_13 : decode cX3_takeRate 13 = .ok (.ireturn, 1) := by decide +kernel
theorem dX3_takeRate_14 : decode cX3_takeRate 14 = .ok (.aload_n 0, 1) := by decide +kernel
theorem dX3_takeRate_15 : decode cX3_takeRate 15 = .ok (.getfield 9, 3) := by decide +kernel
theorem dX3_takeRate_18 : decode cX3_takeRate 18 = .ok (.istore_n 3, 1) := by decide +kernel
theorem dX3_takeRate_19 : decode cX3_takeRate 19 = .ok (.aload_n 0, 1) := by decide +kernel
theorem dX3_takeRate_20 : decode cX3_takeRate 20 = .ok (.iload_n 1, 1) := by decide +kernel
theorem dX3_takeRate_21 : decode cX3_takeRate 21 = .ok (.putfield 9, 3) := by decide +kernel
theorem dX3_takeRate_24 : decode cX3_takeRate 24 = .ok (.iload_n 3, 1) := by decide +kernel
theorem dX3_takeRate_25 : decode cX3_takeRate 25 = .ok (.ireturn, 1) := by decide +kernel
theorem dX3_passYear_0 : decode cX3_passYear 0 = .ok (.aload_n 0, 1) := by decide +kernel
theorem dX3_passYear_1 : decode cX3_passYear 1 = .ok (.iconst 1, 1) := by decide +kernel
theorem dX3_passYear_2 : decode cX3_passYear 2 = .ok (.invokevirtual 118, 3) := by decide +kernel
theorem dX3_passYear_5 : decode cX3_passYear 5 = .ok (.return_, 1) := by decide +kernel
theorem dX3_passYears_0 : decode cX3_passYears 0 = .ok (.iconst 0, 1) := by decide +kernel
theorem dX3_passYears_1 : decode cX3_passYears 1 = .ok (.istore_n 2, 1) := by decide +kernel
theorem dX3_passYears_2 : decode cX3_passYears 2 = .ok (.iload_n 2, 1) := by decide +kernel
theorem dX3_passYears_3 : decode cX3_passYears 3 = .ok (.iload_n 1, 1) := by decide +kernel
theorem dX3_passYears_4 : decode cX3_passYears 4 = .ok (.if_icmp .ge 51, 3) := by decide +kernel
theorem dX3_passYears_7 : decode cX3_passYears 7 = .ok (.aload_n 0, 1) := by decide +kernel
theorem dX3_passYears_8 : decode cX3_passYears 8 = .ok (.dup, 1) := by decide +kernel
theorem dX3_passYears_9 : decode cX3_passYears 9 = .ok (.getfield 41, 3) := by decide +kernel
theorem dX3_passYears_12 : decode cX3_passYears 12 = .ok (.iconst 1, 1) := by decide +kernel
theorem dX3_passYears_13 : decode cX3_passYears 13 = .ok (.iadd, 1) := by decide +kernel
theorem dX3_passYears_14 : decode cX3_passYears 14 = .ok (.putfield 41, 3) := by decide +kernel
theorem dX3_passYears_17 : decode cX3_passYears 17 = .ok (.iconst 0, 1) := by decide +kernel
theorem dX3_passYears_18 : decode cX3_passYears 18 = .ok (.istore_n 3, 1) := by decide +kernel
theorem dX3_passYears_19 : decode cX3_passYears 19 = .ok (.iload_n 3, 1) := by decide +kernel
theorem dX3_passYears_20 : decode cX3_passYears 20 = .ok (.aload_n 0, 1) := by decide +kernel
theorem dX3_passYears_21 : decode cX3_passYears 21 = .ok (.getfield 35, 3) := by decide +kernel
theorem dX3_passYears_24 : decode cX3_passYears 24 = .ok (.if_icmp .ge 25, 3) := by decide +kernel
theorem dX3_passYears_27 : decode cX3_passYears 27 = .ok (.aload_n 0, 1) := by decide +kernel
theorem dX3_passYears_28 : decode cX3_passYears 28 = .ok (.iload_n 3, 1) := by decide +kernel
theorem dX3_passYears_29 : decode cX3_passYears 29 = .ok (.invokevirtual 50, 3) := by decide +kernel
theorem dX3_passYears_32 : decode cX3_passYears 32 = .ok (.aload_n 0, 1) := by decide +kernel
theorem dX3_passYears_33 : decode cX3_passYears 33 = .ok (.getfield 9, 3) := by decide +kernel
theorem dX3_passYears_36 : decode cX3_passYears 36 = .ok (.aload_n 0, 1) := by decide +kernel
theorem dX3_passYears_37 : decode cX3_passYears 37 = .ok (.getfield 41, 3) := by decide +kernel
theorem dX3_passYears_40 : decode cX3_passYears 40 = .ok (.invokevirtual 126, 3) := by decide +kernel
theorem dX3_passYears_43 : decode cX3_passYears 43 = .ok (.iinc 3 1, 3) := by decide +kernel
theorem dX3_passYears_46 : decode cX3_passYears 46 = .ok (.goto (-27), 3) := by decide +kernel
theorem dX3_passYears_49 : decode cX3_passYears 49 = .ok (.iinc 2 1, 3) := by decide +kernel
theorem dX3_passYears_52 : decode cX3_passYears 52 = .ok (.goto (-50), 3) := by decide +kernel
theorem dX3_passYears_55 : decode cX3_passYears 55 = .ok (.return_, 1) := by decide +kernel
theorem dX3_allDebtsBehind_0 : decode cX3_allDebtsBehind 0 = .ok (.aload_n 0, 1) := by decide +kernel
theorem dX3_allDebtsBehind_1 : decode cX3_allDebtsBehind 1 = .ok (.iload_n 1, 1) := by decide +kernel
theorem dX3_allDebtsBehind_2 : decode cX3_allDebtsBehind 2 = .ok (.invokevirtual 118, 3) := by decide +kernel
theorem dX3_allDebtsBehind_5 : decode cX3_allDebtsBehind 5 = .ok (.aload_n 0, 1) := by decide +kernel
theorem dX3_allDebtsBehind_6 : decode cX3_allDebtsBehind 6 = .ok (.invokevirtual 110, 3) := by decide +kernel
theorem dX3_allDebtsBehind_9 : decode cX3_allDebtsBehind 9 = .ok (.ireturn, 1) := by decide +kernel
theorem dX3_everybody_0 : decode cX3_everybody 0 = .ok (.iconst 1, 1) := by decide +kernel
theorem dX3_everybody_1 : decode cX3_everybody 1 = .ok (.aload_n 0, 1) := by decide +kernel
theorem dX3_everybody_2 : decode cX3_everybody 2 = .ok (.getfield 35, 3) := by decide +kernel
theorem dX3_everybody_5 : decode cX3_everybody 5 = .ok (.ishl, 1) := by decide +kernel
theorem dX3_everybody_6 : decode cX3_everybody 6 = .ok (.iconst 1, 1) := by decide +kernel
theorem dX3_everybody_7 : decode cX3_everybody 7 = .ok (.isub, 1) := by decide +kernel
theorem dX3_everybody_8 : decode cX3_everybody 8 = .ok (.ireturn, 1) := by decide +kernel
theorem dX3_bearing_0 : decode cX3_bearing 0 = .ok (.iconst 0, 1) := by decide +kernel
theorem dX3_bearing_1 : decode cX3_bearing 1 = .ok (.istore_n 1, 1) := by decide +kernel
theorem dX3_bearing_2 : decode cX3_bearing 2 = .ok (.iconst 0, 1) := by decide +kernel
theorem dX3_bearing_3 : decode cX3_bearing 3 = .ok (.istore_n 2, 1) := by decide +kernel
theorem dX3_bearing_4 : decode cX3_bearing 4 = .ok (.iload_n 2, 1) := by decide +kernel
theorem dX3_bearing_5 : decode cX3_bearing 5 = .ok (.aload_n 0, 1) := by decide +kernel
theorem dX3_bearing_6 : decode cX3_bearing 6 = .ok (.getfield 35, 3) := by decide +kernel
theorem dX3_bearing_9 : decode cX3_bearing 9 = .ok (.if_icmp .ge 26, 3) := by decide +kernel
theorem dX3_bearing_12 : decode cX3_bearing 12 = .ok (.aload_n 0, 1) := by decide +kernel
theorem dX3_bearing_13 : decode cX3_bearing 13 = .ok (.iload_n 2, 1) := by decide +kernel
theorem dX3_bearing_14 : decode cX3_bearing 14 = .ok (.invokevirtual 50, 3) := by decide +kernel
theorem dX3_bearing_17 : decode cX3_bearing 17 = .ok (.getfield 129, 3) := by decide +kernel
theorem dX3_bearing_20 : decode cX3_bearing 20 = .ok (.ifCond .le 9, 3) := by decide +kernel
theorem dX3_bearing_23 : decode cX3_bearing 23 = .ok (.iload_n 1, 1) := by decide +kernel
theorem dX3_bearing_24 : decode cX3_bearing 24 = .ok (.iconst 1, 1) := by decide +kernel
theorem dX3_bearing_25 : decode cX3_bearing 25 = .ok (.iload_n 2, 1) := by decide +kernel
theorem dX3_bearing_26 : decode cX3_bearing 26 = .ok (.ishl, 1) := by decide +kernel
theorem dX3_bearing_27 : decode cX3_bearing 27 = .ok (.ior, 1) := by decide +kernel
theorem dX3_bearing_28 : decode cX3_bearing 28 = .ok (.istore_n 1, 1) := by decide +kernel
theorem dX3_bearing_29 : decode cX3_bearing 29 = .ok (.iinc 2 1, 3) := by decide +kernel
theorem dX3_bearing_32 : decode cX3_bearing 32 = .ok (.goto (-28), 3) := by decide +kernel
theorem dX3_bearing_35 : decode cX3_bearing 35 = .ok (.iload_n 1, 1) := by decide +kernel
theorem dX3_bearing_36 : decode cX3_bearing 36 = .ok (.ireturn, 1) := by decide +kernel
theorem dX3_headsOf_0 : decode cX3_headsOf 0 = .ok (.iconst 0, 1) := by decide +kernel
theorem dX3_headsOf_1 : decode cX3_headsOf 1 = .ok (.istore_n 2, 1) := by decide +kernel
theorem dX3_headsOf_2 : decode cX3_headsOf 2 = .ok (.iconst 0, 1) := by decide +kernel
theorem dX3_headsOf_3 : decode cX3_headsOf 3 = .ok (.istore_n 3, 1) := by decide +kernel
theorem dX3_headsOf_4 : decode cX3_headsOf 4 = .ok (.iload_n 3, 1) := by decide +kernel
theorem dX3_headsOf_5 : decode cX3_headsOf 5 = .ok (.aload_n 0, 1) := by decide +kernel
theorem dX3_headsOf_6 : decode cX3_headsOf 6 = .ok (.getfield 35, 3) := by decide +kernel
theorem dX3_headsOf_9 : decode cX3_headsOf 9 = .ok (.if_icmp .ge 29, 3) := by decide +kernel
theorem dX3_headsOf_12 : decode cX3_headsOf 12 = .ok (.iload_n 1, 1) := by decide +kernel
theorem dX3_headsOf_13 : decode cX3_headsOf 13 = .ok (.iload_n 3, 1) := by decide +kernel
theorem dX3_headsOf_14 : decode cX3_headsOf 14 = .ok (.ishr, 1) := by decide +kernel
theorem dX3_headsOf_15 : decode cX3_headsOf 15 = .ok (.iconst 1, 1) := by decide +kernel
theorem dX3_headsOf_16 : decode cX3_headsOf 16 = .ok (.iand, 1) := by decide +kernel
theorem dX3_headsOf_17 : decode cX3_headsOf 17 = .ok (.iconst 1, 1) := by decide +kernel
theorem dX3_headsOf_18 : decode cX3_headsOf 18 = .ok (.if_icmp .ne 14, 3) := by decide +kernel
theorem dX3_headsOf_21 : decode cX3_headsOf 21 = .ok (.iload_n 2, 1) := by decide +kernel
theorem dX3_headsOf_22 : decode cX3_headsOf 22 = .ok (.aload_n 0, 1) := by decide +kernel
theorem dX3_headsOf_23 : decode cX3_headsOf 23 = .ok (.iload_n 3, 1) := by decide +kernel
theorem dX3_headsOf_24 : decode cX3_headsOf 24 = .ok (.invokevirtual 50, 3) := by decide +kernel
theorem dX3_headsOf_27 : decode cX3_headsOf 27 = .ok (.getfield 132, 3) := by decide +kernel
theorem dX3_headsOf_30 : decode cX3_headsOf 30 = .ok (.iadd, 1) := by decide +kernel
theorem dX3_headsOf_31 : decode cX3_headsOf 31 = .ok (.istore_n 2, 1) := by decide +kernel
theorem dX3_headsOf_32 : decode cX3_headsOf 32 = .ok (.iinc 3 1, 3) := by decide +kernel
theorem dX3_headsOf_35 : decode cX3_headsOf 35 = .ok (.goto (-31), 3) := by decide +kernel
theorem dX3_headsOf_38 : decode cX3_headsOf 38 = .ok (.iload_n 2, 1) := by decide +kernel
theorem dX3_headsOf_39 : decode cX3_headsOf 39 = .ok (.ireturn, 1) := by decide +kernel
theorem dX3_mostHeads_0 : decode cX3_mostHeads 0 = .ok (.iconst 0, 1) := by decide +kernel
theorem dX3_mostHeads_1 : decode cX3_mostHeads 1 = .ok (.istore_n 1, 1) := by decide +kernel
theorem dX3_mostHeads_2 : decode cX3_mostHeads 2 = .ok (.iconst 1, 1) := by decide +kernel
theorem dX3_mostHeads_3 : decode cX3_mostHeads 3 = .ok (.istore_n 2, 1) := by decide +kernel
theorem dX3_mostHeads_4 : decode cX3_mostHeads 4 = .ok (.iload_n 2, 1) := by decide +kernel
theorem dX3_mostHeads_5 : decode cX3_mostHeads 5 = .ok (.aload_n 0, 1) := by decide +kernel
theorem dX3_mostHeads_6 : decode cX3_mostHeads 6 = .ok (.getfield 35, 3) := by decide +kernel
theorem dX3_mostHeads_9 : decode cX3_mostHeads 9 = .ok (.if_icmp .ge 30, 3) := by decide +kernel
theorem dX3_mostHeads_12 : decode cX3_mostHeads 12 = .ok (.aload_n 0, 1) := by decide +kernel
theorem dX3_mostHeads_13 : decode cX3_mostHeads 13 = .ok (.iload_n 2, 1) := by decide +kernel
theorem dX3_mostHeads_14 : decode cX3_mostHeads 14 = .ok (.invokevirtual 50, 3) := by decide +kernel
theorem dX3_mostHeads_17 : decode cX3_mostHeads 17 = .ok (.getfield 132, 3) := by decide +kernel
theorem dX3_mostHeads_20 : decode cX3_mostHeads 20 = .ok (.aload_n 0, 1) := by decide +kernel
theorem dX3_mostHeads_21 : decode cX3_mostHeads 21 = .ok (.iload_n 1, 1) := by decide +kernel
theorem dX3_mostHeads_22 : decode cX3_mostHeads 22 = .ok (.invokevirtual 50, 3) := by decide +kernel
theorem dX3_mostHeads_25 : decode cX3_mostHeads 25 = .ok (.getfield 132, 3) := by decide +kernel
theorem dX3_mostHeads_28 : decode cX3_mostHeads 28 = .ok (.if_icmp .le 5, 3) := by decide +kernel
theorem dX3_mostHeads_31 : decode cX3_mostHeads 31 = .ok (.iload_n 2, 1) := by decide +kernel
theorem dX3_mostHeads_32 : decode cX3_mostHeads 32 = .ok (.istore_n 1, 1) := by decide +kernel
theorem dX3_mostHeads_33 : decode cX3_mostHeads 33 = .ok (.iinc 2 1, 3) := by decide +kernel
theorem dX3_mostHeads_36 : decode cX3_mostHeads 36 = .ok (.goto (-32), 3) := by decide +kernel
theorem dX3_mostHeads_39 : decode cX3_mostHeads 39 = .ok (.iload_n 1, 1) := by decide +kernel
theorem dX3_mostHeads_40 : decode cX3_mostHeads 40 = .ok (.ireturn, 1) := by decide +kernel
theorem dX3_leastDebt_0 : decode cX3_leastDebt 0 = .ok (.iconst 0, 1) := by decide +kernel
theorem dX3_leastDebt_1 : decode cX3_leastDebt 1 = .ok (.istore_n 1, 1) := by decide +kernel
theorem dX3_leastDebt_2 : decode cX3_leastDebt 2 = .ok (.iconst 1, 1) := by decide +kernel
theorem dX3_leastDebt_3 : decode cX3_leastDebt 3 = .ok (.istore_n 2, 1) := by decide +kernel
theorem dX3_leastDebt_4 : decode cX3_leastDebt 4 = .ok (.iload_n 2, 1) := by decide +kernel
theorem dX3_leastDebt_5 : decode cX3_leastDebt 5 = .ok (.aload_n 0, 1) := by decide +kernel
theorem dX3_leastDebt_6 : decode cX3_leastDebt 6 = .ok (.getfield 35, 3) := by decide +kernel
theorem dX3_leastDebt_9 : decode cX3_leastDebt 9 = .ok (.if_icmp .ge 30, 3) := by decide +kernel
theorem dX3_leastDebt_12 : decode cX3_leastDebt 12 = .ok (.aload_n 0, 1) := by decide +kernel
theorem dX3_leastDebt_13 : decode cX3_leastDebt 13 = .ok (.iload_n 2, 1) := by decide +kernel
theorem dX3_leastDebt_14 : decode cX3_leastDebt 14 = .ok (.invokevirtual 50, 3) := by decide +kernel
theorem dX3_leastDebt_17 : decode cX3_leastDebt 17 = .ok (.getfield 123, 3) := by decide +kernel
theorem dX3_leastDebt_20 : decode cX3_leastDebt 20 = .ok (.aload_n 0, 1) := by decide +kernel
theorem dX3_leastDebt_21 : decode cX3_leastDebt 21 = .ok (.iload_n 1, 1) := by decide +kernel
theorem dX3_leastDebt_22 : decode cX3_leastDebt 22 = .ok (.invokevirtual 50, 3) := by decide +kernel
theorem dX3_leastDebt_25 : decode cX3_leastDebt 25 = .ok (.getfield 123, 3) := by decide +kernel
theorem dX3_leastDebt_28 : decode cX3_leastDebt 28 = .ok (.if_icmp .ge 5, 3) := by decide +kernel
theorem dX3_leastDebt_31 : decode cX3_leastDebt 31 = .ok (.iload_n 2, 1) := by decide +kernel
theorem dX3_leastDebt_32 : decode cX3_leastDebt 32 = .ok (.istore_n 1, 1) := by decide +kernel
theorem dX3_leastDebt_33 : decode cX3_leastDebt 33 = .ok (.iinc 2 1, 3) := by decide +kernel
theorem dX3_leastDebt_36 : decode cX3_leastDebt 36 = .ok (.goto (-32), 3) := by decide +kernel
theorem dX3_leastDebt_39 : decode cX3_leastDebt 39 = .ok (.iload_n 1, 1) := by decide +kernel
theorem dX3_leastDebt_40 : decode cX3_leastDebt 40 = .ok (.ireturn, 1) := by decide +kernel
theorem dX3_allDebts_0 : decode cX3_allDebts 0 = .ok (.iconst 0, 1) := by decide +kernel
theorem dX3_allDebts_1 : decode cX3_allDebts 1 = .ok (.istore_n 1, 1) := by decide +kernel
theorem dX3_allDebts_2 : decode cX3_allDebts 2 = .ok (.iconst 0, 1) := by decide +kernel
theorem dX3_allDebts_3 : decode cX3_allDebts 3 = .ok (.istore_n 2, 1) := by decide +kernel
theorem dX3_allDebts_4 : decode cX3_allDebts 4 = .ok (.iload_n 2, 1) := by decide +kernel
theorem dX3_allDebts_5 : decode cX3_allDebts 5 = .ok (.aload_n 0, 1) := by decide +kernel
theorem dX3_allDebts_6 : decode cX3_allDebts 6 = .ok (.getfield 35, 3) := by decide +kernel
theorem dX3_allDebts_9 : decode cX3_allDebts 9 = .ok (.if_icmp .ge 20, 3) := by decide +kernel
theorem dX3_allDebts_12 : decode cX3_allDebts 12 = .ok (.iload_n 1, 1) := by decide +kernel
theorem dX3_allDebts_13 : decode cX3_allDebts 13 = .ok (.aload_n 0, 1) := by decide +kernel
theorem dX3_allDebts_14 : decode cX3_allDebts 14 = .ok (.iload_n 2, 1) := by decide +kernel
theorem dX3_allDebts_15 : decode cX3_allDebts 15 = .ok (.invokevirtual 50, 3) := by decide +kernel
theorem dX3_allDebts_18 : decode cX3_allDebts 18 = .ok (.getfield 123, 3) := by decide +kernel
theorem dX3_allDebts_21 : decode cX3_allDebts 21 = .ok (.iadd, 1) := by decide +kernel
theorem dX3_allDebts_22 : decode cX3_allDebts 22 = .ok (.istore_n 1, 1) := by decide +kernel
theorem dX3_allDebts_23 : decode cX3_allDebts 23 = .ok (.iinc 2 1, 3) := by decide +kernel
theorem dX3_allDebts_26 : decode cX3_allDebts 26 = .ok (.goto (-22), 3) := by decide +kernel
theorem dX3_allDebts_29 : decode cX3_allDebts 29 = .ok (.iload_n 1, 1) := by decide +kernel
theorem dX3_allDebts_30 : decode cX3_allDebts 30 = .ok (.ireturn, 1) := by decide +kernel
theorem dX3_oweNothing_0 : decode cX3_oweNothing 0 = .ok (.iconst 0, 1) := by decide +kernel
theorem dX3_oweNothing_1 : decode cX3_oweNothing 1 = .ok (.istore_n 1, 1) := by decide +kernel
theorem dX3_oweNothing_2 : decode cX3_oweNothing 2 = .ok (.iconst 0, 1) := by decide +kernel
theorem dX3_oweNothing_3 : decode cX3_oweNothing 3 = .ok (.istore_n 2, 1) := by decide +kernel
theorem dX3_oweNothing_4 : decode cX3_oweNothing 4 = .ok (.iload_n 2, 1) := by decide +kernel
theorem dX3_oweNothing_5 : decode cX3_oweNothing 5 = .ok (.aload_n 0, 1) := by decide +kernel
theorem dX3_oweNothing_6 : decode cX3_oweNothing 6 = .ok (.getfield 35, 3) := by decide +kernel
theorem dX3_oweNothing_9 : decode cX3_oweNothing 9 = .ok (.if_icmp .ge 23, 3) := by decide +kernel
theorem dX3_oweNothing_12 : decode cX3_oweNothing 12 = .ok (.aload_n 0, 1) := by decide +kernel
theorem dX3_oweNothing_13 : decode cX3_oweNothing 13 = .ok (.iload_n 2, 1) := by decide +kernel
theorem dX3_oweNothing_14 : decode cX3_oweNothing 14 = .ok (.invokevirtual 50, 3) := by decide +kernel
theorem dX3_oweNothing_17 : decode cX3_oweNothing 17 = .ok (.getfield 123, 3) := by decide +kernel
theorem dX3_oweNothing_20 : decode cX3_oweNothing 20 = .ok (.ifCond .ne 6, 3) := by decide +kernel
theorem dX3_oweNothing_23 : decode cX3_oweNothing 23 = .ok (.iinc 1 1, 3) := by decide +kernel
theorem dX3_oweNothing_26 : decode cX3_oweNothing 26 = .ok (.iinc 2 1, 3) := by decide +kernel
theorem dX3_oweNothing_29 : decode cX3_oweNothing 29 = .ok (.goto (-25), 3) := by decide +kernel
theorem dX3_oweNothing_32 : decode cX3_oweNothing 32 = .ok (.iload_n 1, 1) := by decide +kernel
theorem dX3_oweNothing_33 : decode cX3_oweNothing 33 = .ok (.ireturn, 1) := by decide +kernel
theorem dX3_isStuck_0 : decode cX3_isStuck 0 = .ok (.iconst 0, 1) := by decide +kernel
theorem dX3_isStuck_1 : decode cX3_isStuck 1 = .ok (.istore_n 1, 1) := by decide +kernel
theorem dX3_isStuck_2 : decode cX3_isStuck 2 = .ok (.iload_n 1, 1) := by decide +kernel
theorem dX3_isStuck_3 : decode cX3_isStuck 3 = .ok (.aload_n 0, 1) := by decide +kernel
theorem dX3_isStuck_4 : decode cX3_isStuck 4 = .ok (.getfield 35, 3) := by decide +kernel
theorem dX3_isStuck_7 : decode cX3_isStuck 7 = .ok (.if_icmp .ge 24, 3) := by decide +kernel
theorem dX3_isStuck_10 : decode cX3_isStuck 10 = .ok (.aload_n 0, 1) := by decide +kernel
theorem dX3_isStuck_11 : decode cX3_isStuck 11 = .ok (.iload_n 1, 1) := by decide +kernel
theorem dX3_isStuck_12 : decode cX3_isStuck 12 = .ok (.invokevirtual 50, 3) := by decide +kernel
theorem dX3_isStuck_15 : decode cX3_isStuck 15 = .ok (.getfield 123, 3) := by decide +kernel
theorem dX3_isStuck_18 : decode cX3_isStuck 18 = .ok (.ldc 122, 2) := by decide +kernel
theorem dX3_isStuck_20 : decode cX3_isStuck 20 = .ok (.if_icmp .ne 5, 3) := by decide +kernel
theorem dX3_isStuck_23 : decode cX3_isStuck 23 = .ok (.iconst 1, 1) := by decide +kernel
theorem dX3_isStuck_24 : decode cX3_isStuck 24 = .ok (.ireturn, 1) := by decide +kernel
theorem dX3_isStuck_25 : decode cX3_isStuck 25 = .ok (.iinc 1 1, 3) := by decide +kernel
theorem dX3_isStuck_28 : decode cX3_isStuck 28 = .ok (.goto (-26), 3) := by decide +kernel
theorem dX3_isStuck_31 : decode cX3_isStuck 31 = .ok (.iconst 0, 1) := by decide +kernel
theorem dX3_isStuck_32 : decode cX3_isStuck 32 = .ok (.ireturn, 1) := by decide +kernel
theorem dX3_shareAlike_0 : decode cX3_shareAlike 0 = .ok (.aload_n 0, 1) := by decide +kernel
theorem dX3_shareAlike_1 : decode cX3_shareAlike 1 = .ok (.getfield 35, 3) := by decide +kernel
theorem dX3_shareAlike_4 : decode cX3_shareAlike 4 = .ok (.iconst 1, 1) := by decide +kernel
theorem dX3_shareAlike_5 : decode cX3_shareAlike 5 = .ok (.if_icmp .ge 7, 3) := by decide +kernel
theorem dX3_shareAlike_8 : decode cX3_shareAlike 8 = .ok (.iconst 0, 1) := by decide +kernel
theorem dX3_shareAlike_9 : decode cX3_shareAlike 9 = .ok (.goto 9, 3) := by decide +kernel
theorem dX3_shareAlike_12 : decode cX3_shareAlike 12 = .ok (.iload_n 1, 1) := by decide +kernel
theorem dX3_shareAlike_13 : decode cX3_shareAlike 13 = .ok (.aload_n 0, 1) := by decide +kernel
theorem dX3_shareAlike_14 : decode cX3_shareAlike 14 = .ok (.getfield 35, 3) := by decide +kernel
theorem dX3_shareAlike_17 : decode cX3_shareAlike 17 = .ok (.idiv, 1) := by decide +kernel
theorem dX3_shareAlike_18 : decode cX3_shareAlike 18 = .ok (.istore_n 2, 1) := by decide +kernel
theorem dX3_shareAlike_19 : decode cX3_shareAlike 19 = .ok (.iconst 0, 1) := by decide +kernel
theorem dX3_shareAlike_20 : decode cX3_shareAlike 20 = .ok (.istore_n 3, 1) := by decide +kernel
theorem dX3_shareAlike_21 : decode cX3_shareAlike 21 = .ok (.iload_n 3, 1) := by decide +kernel
theorem dX3_shareAlike_22 : decode cX3_shareAlike 22 = .ok (.aload_n 0, 1) := by decide +kernel
theorem dX3_shareAlike_23 : decode cX3_shareAlike 23 = .ok (.getfield 32, 3) := by decide +kernel
theorem dX3_shareAlike_26 : decode cX3_shareAlike 26 = .ok (.arraylength, 1) := by decide +kernel
theorem dX3_shareAlike_27 : decode cX3_shareAlike 27 = .ok (.if_icmp .ge 28, 3) := by decide +kernel
theorem dX3_shareAlike_30 : decode cX3_shareAlike 30 = .ok (.aload_n 0, 1) := by decide +kernel
theorem dX3_shareAlike_31 : decode cX3_shareAlike 31 = .ok (.getfield 32, 3) := by decide +kernel
theorem dX3_shareAlike_34 : decode cX3_shareAlike 34 = .ok (.iload_n 3, 1) := by decide +kernel
theorem dX3_shareAlike_35 : decode cX3_shareAlike 35 = .ok (.iload_n 3, 1) := by decide +kernel
theorem dX3_shareAlike_36 : decode cX3_shareAlike 36 = .ok (.aload_n 0, 1) := by decide +kernel
theorem dX3_shareAlike_37 : decode cX3_shareAlike 37 = .ok (.getfield 35, 3) := by decide +kernel
theorem dX3_shareAlike_40 : decode cX3_shareAlike 40 = .ok (.if_icmp .ge 7, 3) := by decide +kernel
theorem dX3_shareAlike_43 : decode cX3_shareAlike 43 = .ok (.iload_n 2, 1) := by decide +kernel
theorem dX3_shareAlike_44 : decode cX3_shareAlike 44 = .ok (.goto 4, 3) := by decide +kernel
theorem dX3_shareAlike_47 : decode cX3_shareAlike 47 = .ok (.iconst 0, 1) := by decide +kernel
theorem dX3_shareAlike_48 : decode cX3_shareAlike 48 = .ok (.iastore, 1) := by decide +kernel
theorem dX3_shareAlike_49 : decode cX3_shareAlike 49 = .ok (.iinc 3 1, 3) := by decide +kernel
theorem dX3_shareAlike_52 : decode cX3_shareAlike 52 = .ok (.goto (-31), 3) := by decide +kernel
theorem dX3_shareAlike_55 : decode cX3_shareAlike 55 = .ok (.aload_n 0, 1) := by decide +kernel
theorem dX3_shareAlike_56 : decode cX3_shareAlike 56 = .ok (.iload_n 1, 1) := by decide +kernel
theorem dX3_shareAlike_57 : decode cX3_shareAlike 57 = .ok (.iload_n 2, 1) := by decide +kernel
theorem dX3_shareAlike_58 : decode cX3_shareAlike 58 = .ok (.aload_n 0, 1) := by decide +kernel
theorem dX3_shareAlike_59 : decode cX3_shareAlike 59 = .ok (.getfield 35, 3) := by decide +kernel
theorem dX3_shareAlike_62 : decode cX3_shareAlike 62 = .ok (.imul, 1) := by decide +kernel
theorem dX3_shareAlike_63 : decode cX3_shareAlike 63 = .ok (.isub, 1) := by decide +kernel
theorem dX3_shareAlike_64 : decode cX3_shareAlike 64 = .ok (.aload_n 0, 1) := by decide +kernel
theorem dX3_shareAlike_65 : decode cX3_shareAlike 65 = .ok (.invokevirtual 135, 3) := by decide +kernel
theorem dX3_shareAlike_68 : decode cX3_shareAlike 68 = .ok (.invokevirtual 138, 3) := by decide +kernel
theorem dX3_shareAlike_71 : decode cX3_shareAlike 71 = .ok (.return_, 1) := by decide +kernel
theorem dX3_shareByHeads_0 : decode cX3_shareByHeads 0 = .ok (.aload_n 0, 1) := by decide +kernel
theorem dX3_shareByHeads_1 : decode cX3_shareByHeads 1 = .ok (.iload_n 2, 1) := by decide +kernel
theorem dX3_shareByHeads_2 : decode cX3_shareByHeads 2 = .ok (.invokevirtual 141, 3) := by decide +kernel
theorem dX3_shareByHeads_5 : decode cX3_shareByHeads 5 = .ok (.istore_n 3, 1) := by decide +kernel
theorem dX3_shareByHeads_6 : decode cX3_shareByHeads 6 = .ok (.iload_n 1, 1) := by decide +kernel
theorem dX3_shareByHeads_7 : decode cX3_shareByHeads 7 = .ok (.istore 4, 2) := by decide +kernel
theorem dX3_shareByHeads_9 : decode cX3_shareByHeads 9 = .ok (.iconst 0, 1) := by decide +kernel
theorem dX3_shareByHeads_10 : decode cX3_shareByHeads 10 = .ok (.istore 5, 2) := by decide +kernel
theorem dX3_shareByHeads_12 : decode cX3_shareByHeads 12 = .ok (.iload 5, 2) := by decide +kernel
theorem dX3_shareByHeads_14 : decode cX3_shareByHeads 14 = .ok (.aload_n 0, 1) := by decide +kernel
theorem dX3_shareByHeads_15 : decode cX3_shareByHeads 15 = .ok (.getfield 32, 3) := by decide +kernel
theorem dX3_shareByHeads_18 : decode cX3_shareByHeads 18 = .ok (.arraylength, 1) := by decide +kernel
theorem dX3_shareByHeads_19 : decode cX3_shareByHeads 19 = .ok (.if_icmp .ge 71, 3) := by decide +kernel
theorem dX3_shareByHeads_22 : decode cX3_shareByHeads 22 = .ok (.iload_n 2, 1) := by decide +kernel
theorem dX3_shareByHeads_23 : decode cX3_shareByHeads 23 = .ok (.iload 5, 2) := by decide +kernel
theorem dX3_shareByHeads_25 : decode cX3_shareByHeads 25 = .ok (.ishr, 1) := by decide +kernel
theorem dX3_shareByHeads_26 : decode cX3_shareByHeads 26 = .ok (.iconst 1, 1) := by decide +kernel
theorem dX3_shareByHeads_27 : decode cX3_shareByHeads 27 = .ok (.iand, 1) := by decide +kernel
theorem dX3_shareByHeads_28 : decode cX3_shareByHeads 28 = .ok (.iconst 1, 1) := by decide +kernel
theorem dX3_shareByHeads_29 : decode cX3_shareByHeads 29 = .ok (.if_icmp .ne 11, 3) := by decide +kernel
theorem dX3_shareByHeads_32 : decode cX3_shareByHeads 32 = .ok (.iload_n 3, 1) := by decide +kernel
theorem dX3_shareByHeads_33 : decode cX3_shareByHeads 33 = .ok (.ifCond .le 7, 3) := by decide +kernel
theorem dX3_shareByHeads_36 : decode cX3_shareByHeads 36 = .ok (.iconst 1, 1) := by decide +kernel
theorem dX3_shareByHeads_37 : decode cX3_shareByHeads 37 = .ok (.goto 4, 3) := by decide +kernel
theorem dX3_shareByHeads_40 : decode cX3_shareByHeads 40 = .ok (.iconst 0, 1) := by decide +kernel
theorem dX3_shareByHeads_41 : decode cX3_shareByHeads 41 = .ok (.istore 6, 2) := by decide +kernel
theorem dX3_shareByHeads_43 : decode cX3_shareByHeads 43 = .ok (.aload_n 0, 1) := by decide +kernel
theorem dX3_shareByHeads_44 : decode cX3_shareByHeads 44 = .ok (.getfield 32, 3) := by decide +kernel
theorem dX3_shareByHeads_47 : decode cX3_shareByHeads 47 = .ok (.iload 5, 2) := by decide +kernel
theorem dX3_shareByHeads_49 : decode cX3_shareByHeads 49 = .ok (.iload 6, 2) := by decide +kernel
theorem dX3_shareByHeads_51 : decode cX3_shareByHeads 51 = .ok (.ifCond .eq 19, 3) := by decide +kernel
theorem dX3_shareByHeads_54 : decode cX3_shareByHeads 54 = .ok (.iload_n 1, 1) := by decide +kernel
theorem dX3_shareByHeads_55 : decode cX3_shareByHeads 55 = .ok (.aload_n 0, 1) := by decide +kernel
theorem dX3_shareByHeads_56 : decode cX3_shareByHeads 56 = .ok (.iload 5, 2) := by decide +kernel
theorem dX3_shareByHeads_58 : decode cX3_shareByHeads 58 = .ok (.invokevirtual 50, 3) := by decide +kernel
theorem dX3_shareByHeads_61 : decode cX3_shareByHeads 61 = .ok (.getfield 132, 3) := by decide +kernel
theorem dX3_shareByHeads_64 : decode cX3_shareByHeads 64 = .ok (.imul, 1) := by decide +kernel
theorem dX3_shareByHeads_65 : decode cX3_shareByHeads 65 = .ok (.iload_n 3, 1) := by decide +kernel
theorem dX3_shareByHeads_66 : decode cX3_shareByHeads 66 = .ok (.idiv, 1) := by decide +kernel
theorem dX3_shareByHeads_67 : decode cX3_shareByHeads 67 = .ok (.goto 4, 3) := by decide +kernel
theorem dX3_shareByHeads_70 : decode cX3_shareByHeads 70 = .ok (.iconst 0, 1) := by decide +kernel
theorem dX3_shareByHeads_71 : decode cX3_shareByHeads 71 = .ok (.iastore, 1) := by decide +kernel
theorem dX3_shareByHeads_72 : decode cX3_shareByHeads 72 = .ok (.iload 4, 2) := by decide +kernel
theorem dX3_shareByHeads_74 : decode cX3_shareByHeads 74 = .ok (.aload_n 0, 1) := by decide +kernel
theorem dX3_shareByHeads_75 : decode cX3_shareByHeads 75 = .ok (.getfield 32, 3) := by decide +kernel
theorem dX3_shareByHeads_78 : decode cX3_shareByHeads 78 = .ok (.iload 5, 2) := by decide +kernel
theorem dX3_shareByHeads_80 : decode cX3_shareByHeads 80 = .ok (.iaload, 1) := by decide +kernel
theorem dX3_shareByHeads_81 : decode cX3_shareByHeads 81 = .ok (.isub, 1) := by decide +kernel
theorem dX3_shareByHeads_82 : decode cX3_shareByHeads 82 = .ok (.istore 4, 2) := by decide +kernel
theorem dX3_shareByHeads_84 : decode cX3_shareByHeads 84 = .ok (.iinc 5 1, 3) := by decide +kernel
theorem dX3_shareByHeads_87 : decode cX3_shareByHeads 87 = .ok (.goto (-75), 3) := by decide +kernel
theorem dX3_shareByHeads_90 : decode cX3_shareByHeads 90 = .ok (.aload_n 0, 1) := by decide +kernel
theorem dX3_shareByHeads_91 : decode cX3_shareByHeads 91 = .ok (.iload 4, 2) := by decide +kernel
theorem dX3_shareByHeads_93 : decode cX3_shareByHeads 93 = .ok (.iload_n 2, 1) := by decide +kernel
theorem dX3_shareByHeads_94 : decode cX3_shareByHeads 94 = .ok (.invokevirtual 138, 3) := by decide +kernel
theorem dX3_shareByHeads_97 : decode cX3_shareByHeads 97 = .ok (.return_, 1) := by decide +kernel
theorem dX3_shareLeftOver_0 : decode cX3_shareLeftOver 0 = .ok (.iload_n 1, 1) := by decide +kernel
theorem dX3_shareLeftOver_1 : decode cX3_shareLeftOver 1 = .ok (.istore_n 3, 1) := by decide +kernel
theorem dX3_shareLeftOver_2 : decode cX3_shareLeftOver 2 = .ok (.iconst 0, 1) := by decide +kernel
theorem dX3_shareLeftOver_3 : decode cX3_shareLeftOver 3 = .ok (.istore 4, 2) := by decide +kernel
theorem dX3_shareLeftOver_5 : decode cX3_shareLeftOver 5 = .ok (.iload 4, 2) := by decide +kernel
theorem dX3_shareLeftOver_7 : decode cX3_shareLeftOver 7 = .ok (.aload_n 0, 1) := by decide +kernel
theorem dX3_shareLeftOver_8 : decode cX3_shareLeftOver 8 = .ok (.getfield 32, 3) := by decide +kernel
theorem dX3_shareLeftOver_11 : decode cX3_shareLeftOver 11 = .ok (.arraylength, 1) := by decide +kernel
theorem dX3_shareLeftOver_12 : decode cX3_shareLeftOver 12 = .ok (.if_icmp .ge 39, 3) := by decide +kernel
theorem dX3_shareLeftOver_15 : decode cX3_shareLeftOver 15 = .ok (.iload_n 3, 1) := by decide +kernel
theorem dX3_shareLeftOver_16 : decode cX3_shareLeftOver 16 = .ok (.ifCond .le 35, 3) := by decide +kernel
theorem dX3_shareLeftOver_19 : decode cX3_shareLeftOver 19 = .ok (.iload_n 2, 1) := by decide +kernel
theorem dX3_shareLeftOver_20 : decode cX3_shareLeftOver 20 = .ok (.iload 4, 2) := by decide +kernel
theorem dX3_shareLeftOver_22 : decode cX3_shareLeftOver 22 = .ok (.ishr, 1) := by decide +kernel
theorem dX3_shareLeftOver_23 : decode cX3_shareLeftOver 23 = .ok (.iconst 1, 1) := by decide +kernel
theorem dX3_shareLeftOver_24 : decode cX3_shareLeftOver 24 = .ok (.iand, 1) := by decide +kernel
theorem dX3_shareLeftOver_25 : decode cX3_shareLeftOver 25 = .ok (.ifCond .ne 6, 3) := by decide +kernel
theorem dX3_shareLeftOver_28 : decode cX3_shareLeftOver 28 = .ok (.goto 17, 3) := by decide +kernel
theorem dX3_shareLeftOver_31 : decode cX3_shareLeftOver 31 = .ok (.aload_n 0, 1) := by decide +kernel
theorem dX3_shareLeftOver_32 : decode cX3_shareLeftOver 32 = .ok (.getfield 32, 3) := by decide +kernel
theorem dX3_shareLeftOver_35 : decode cX3_shareLeftOver 35 = .ok (.iload 4, 2) := by decide +kernel
theorem dX3_shareLeftOver_37 : decode cX3_shareLeftOver 37 = .ok (.dup2, 1) := by decide +kernel
theorem dX3_shareLeftOver_38 : decode cX3_shareLeftOver 38 = .ok (.iaload, 1) := by decide +kernel
theorem dX3_shareLeftOver_39 : decode cX3_shareLeftOver 39 = .ok (.iconst 1, 1) := by decide +kernel
theorem dX3_shareLeftOver_40 : decode cX3_shareLeftOver 40 = .ok (.iadd, 1) := by decide +kernel
theorem dX3_shareLeftOver_41 : decode cX3_shareLeftOver 41 = .ok (.iastore, 1) := by decide +kernel
theorem dX3_shareLeftOver_42 : decode cX3_shareLeftOver 42 = .ok (.iinc 3 (-1), 3) := by decide +kernel
theorem dX3_shareLeftOver_45 : decode cX3_shareLeftOver 45 = .ok (.iinc 4 1, 3) := by decide +kernel
theorem dX3_shareLeftOver_48 : decode cX3_shareLeftOver 48 = .ok (.goto (-43), 3) := by decide +kernel
theorem dX3_shareLeftOver_51 : decode cX3_shareLeftOver 51 = .ok (.return_, 1) := by decide +kernel
theorem dX3_shareToOne_0 : decode cX3_shareToOne 0 = .ok (.iconst 0, 1) := by decide +kernel
theorem dX3_shareToOne_1 : decode cX3_shareToOne 1 = .ok (.istore_n 3, 1) := by decide +kernel
theorem dX3_shareToOne_2 : decode cX3_shareToOne 2 = .ok (.iload_n 3, 1) := by decide +kernel
theorem dX3_shareToOne_3 : decode cX3_shareToOne 3 = .ok (.aload_n 0, 1) := by decide +kernel
theorem dX3_shareToOne_4 : decode cX3_shareToOne 4 = .ok (.getfield 32, 3) := by decide +kernel
theorem dX3_shareToOne_7 : decode cX3_shareToOne 7 = .ok (.arraylength, 1) := by decide +kernel
theorem dX3_shareToOne_8 : decode cX3_shareToOne 8 = .ok (.if_icmp .ge 33, 3) := by decide +kernel
theorem dX3_shareToOne_11 : decode cX3_shareToOne 11 = .ok (.aload_n 0, 1) := by decide +kernel
theorem dX3_shareToOne_12 : decode cX3_shareToOne 12 = .ok (.getfield 32, 3) := by decide +kernel
theorem dX3_shareToOne_15 : decode cX3_shareToOne 15 = .ok (.iload_n 3, 1) := by decide +kernel
theorem dX3_shareToOne_16 : decode cX3_shareToOne 16 = .ok (.iload_n 3, 1) := by decide +kernel
theorem dX3_shareToOne_17 : decode cX3_shareToOne 17 = .ok (.iload_n 2, 1) := by decide +kernel
theorem dX3_shareToOne_18 : decode cX3_shareToOne 18 = .ok (.if_icmp .ne 15, 3) := by decide +kernel
theorem dX3_shareToOne_21 : decode cX3_shareToOne 21 = .ok (.iload_n 3, 1) := by decide +kernel
theorem dX3_shareToOne_22 : decode cX3_shareToOne 22 = .ok (.aload_n 0, 1) := by decide +kernel
theorem dX3_shareToOne_23 : decode cX3_shareToOne 23 = .ok (.getfield 35, 3) := by decide +kernel
theorem dX3_shareToOne_26 : decode cX3_shareToOne 26 = .ok (.if_icmp .ge 7, 3) := by decide +kernel
theorem dX3_shareToOne_29 : decode cX3_shareToOne 29 = .ok (.iload_n 1, 1) := by decide +kernel
theorem dX3_shareToOne_30 : decode cX3_shareToOne 30 = .ok (.goto 4, 3) := by decide +kernel
theorem dX3_shareToOne_33 : decode cX3_shareToOne 33 = .ok (.iconst 0, 1) := by decide +kernel
theorem dX3_shareToOne_34 : decode cX3_shareToOne 34 = .ok (.iastore, 1) := by decide +kernel
theorem dX3_shareToOne_35 : decode cX3_shareToOne 35 = .ok (.iinc 3 1, 3) := by decide +kernel
theorem dX3_shareToOne_38 : decode cX3_shareToOne 38 = .ok (.goto (-36), 3) := by decide +kernel
theorem dX3_shareToOne_41 : decode cX3_shareToOne 41 = .ok (.return_, 1) := by decide +kernel
theorem dX3_shareOf_0 : decode cX3_shareOf 0 = .ok (.aload_n 0, 1) := by decide +kernel
theorem dX3_shareOf_1 : decode cX3_shareOf 1 = .ok (.iload_n 1, 1) := by decide +kernel
theorem dX3_shareOf_2 : decode cX3_shareOf 2 = .ok (.invokevirtual 58, 3) := by decide +kernel
theorem dX3_shareOf_5 : decode cX3_shareOf 5 = .ok (.astore_n 3, 1) := by decide +kernel
theorem dX3_shareOf_6 : decode cX3_shareOf 6 = .ok (.aload_n 3, 1) := by decide +kernel
theorem dX3_shareOf_7 : decode cX3_shareOf 7 = .ok (.ifnull 16, 3) := by decide +kernel
theorem dX3_shareOf_10 : decode cX3_shareOf 10 = .ok (.iload_n 2, 1) := by decide +kernel
theorem dX3_shareOf_11 : decode cX3_shareOf 11 = .ok (.ifCond .lt 12, 3) := by decide +kernel
theorem dX3_shareOf_14 : decode cX3_shareOf 14 = .ok (.iload_n 2, 1) := by decide +kernel
theorem dX3_shareOf_15 : decode cX3_shareOf 15 = .ok (.aload_n 0, 1) := by decide +kernel
theorem dX3_shareOf_16 : decode cX3_shareOf 16 = .ok (.getfield 32, 3) := by decide +kernel
theorem dX3_shareOf_19 : decode cX3_shareOf 19 = .ok (.arraylength, 1) := by decide +kernel
theorem dX3_shareOf_20 : decode cX3_shareOf 20 = .ok (.if_icmp .lt 5, 3) := by decide +kernel
theorem dX3_shareOf_23 : decode cX3_shareOf 23 = .ok (.iconst 0, 1) := by decide +kernel
theorem dX3_shareOf_24 : decode cX3_shareOf 24 = .ok (.ireturn, 1) := by decide +kernel
theorem dX3_shareOf_25 : decode cX3_shareOf 25 = .ok (.aload_n 3, 1) := by decide +kernel
theorem dX3_shareOf_26 : decode cX3_shareOf 26 = .ok (.aload_n 0, 1) := by decide +kernel
theorem dX3_shareOf_27 : decode cX3_shareOf 27 = .ok (.invokevirtual 103, 3) := by decide +kernel
theorem dX3_shareOf_30 : decode cX3_shareOf 30 = .ok (.aload_n 0, 1) := by decide +kernel
theorem dX3_shareOf_31 : decode cX3_shareOf 31 = .ok (.getfield 32, 3) := by decide +kernel
theorem dX3_shareOf_34 : decode cX3_shareOf 34 = .ok (.iload_n 2, 1) := by decide +kernel
theorem dX3_shareOf_35 : decode cX3_shareOf 35 = .ok (.iaload, 1) := by decide +kernel
theorem dX3_shareOf_36 : decode cX3_shareOf 36 = .ok (.ireturn, 1) := by decide +kernel
theorem dX3_oweShares_0 : decode cX3_oweShares 0 = .ok (.iconst 0, 1) := by decide +kernel
theorem dX3_oweShares_1 : decode cX3_oweShares 1 = .ok (.istore_n 1, 1) := by decide +kernel
theorem dX3_oweShares_2 : decode cX3_oweShares 2 = .ok (.iload_n 1, 1) := by decide +kernel
theorem dX3_oweShares_3 : decode cX3_oweShares 3 = .ok (.aload_n 0, 1) := by decide +kernel
theorem dX3_oweShares_4 : decode cX3_oweShares 4 = .ok (.getfield 35, 3) := by decide +kernel
theorem dX3_oweShares_7 : decode cX3_oweShares 7 = .ok (.if_icmp .ge 32, 3) := by decide +kernel
theorem dX3_oweShares_10 : decode cX3_oweShares 10 = .ok (.iload_n 1, 1) := by decide +kernel
theorem dX3_oweShares_11 : decode cX3_oweShares 11 = .ok (.aload_n 0, 1) := by decide +kernel
theorem dX3_oweShares_12 : decode cX3_oweShares 12 = .ok (.getfield 32, 3) := by decide +kernel
theorem dX3_oweShares_15 : decode cX3_oweShares 15 = .ok (.arraylength, 1) := by decide +kernel
theorem dX3_oweShares_16 : decode cX3_oweShares 16 = .ok (.if_icmp .ge 23, 3) := by decide +kernel
theorem dX3_oweShares_19 : decode cX3_oweShares 19 = .ok (.aload_n 0, 1) := by decide +kernel
theorem dX3_oweShares_20 : decode cX3_oweShares 20 = .ok (.iload_n 1, 1) := by decide +kernel
theorem dX3_oweShares_21 : decode cX3_oweShares 21 = .ok (.invokevirtual 50, 3) := by decide +kernel
theorem dX3_oweShares_24 : decode cX3_oweShares 24 = .ok (.aload_n 0, 1) := by decide +kernel
theorem dX3_oweShares_25 : decode cX3_oweShares 25 = .ok (.getfield 32, 3) := by decide +kernel
theorem dX3_oweShares_28 : decode cX3_oweShares 28 = .ok (.iload_n 1, 1) := by decide +kernel
theorem dX3_oweShares_29 : decode cX3_oweShares 29 = .ok (.iaload, 1) := by decide +kernel
theorem dX3_oweShares_30 : decode cX3_oweShares 30 = .ok (.invokevirtual 144, 3) := by decide +kernel
theorem dX3_oweShares_33 : decode cX3_oweShares 33 = .ok (.iinc 1 1, 3) := by decide +kernel
theorem dX3_oweShares_36 : decode cX3_oweShares 36 = .ok (.goto (-34), 3) := by decide +kernel
theorem dX3_oweShares_39 : decode cX3_oweShares 39 = .ok (.return_, 1) := by decide +kernel
theorem dX3_charge_0 : decode cX3_charge 0 = .ok (.aload_n 0, 1) := by decide +kernel
theorem dX3_charge_1 : decode cX3_charge 1 = .ok (.iload_n 1, 1) := by decide +kernel
theorem dX3_charge_2 : decode cX3_charge 2 = .ok (.invokevirtual 58, 3) := by decide +kernel
theorem dX3_charge_5 : decode cX3_charge 5 = .ok (.astore_n 2, 1) := by decide +kernel
theorem dX3_charge_6 : decode cX3_charge 6 = .ok (.aload_n 2, 1) := by decide +kernel
theorem dX3_charge_7 : decode cX3_charge 7 = .ok (.ifnonnull 4, 3) := by decide +kernel
theorem dX3_charge_10 : decode cX3_charge 10 = .ok (.return_, 1) := by decide +kernel
theorem dX3_charge_11 : decode cX3_charge 11 = .ok (.aload_n 2, 1) := by decide +kernel
theorem dX3_charge_12 : decode cX3_charge 12 = .ok (.aload_n 0, 1) := by decide +kernel
theorem dX3_charge_13 : decode cX3_charge 13 = .ok (.invokevirtual 103, 3) := by decide +kernel
theorem dX3_charge_16 : decode cX3_charge 16 = .ok (.aload_n 0, 1) := by decide +kernel
theorem dX3_charge_17 : decode cX3_charge 17 = .ok (.invokevirtual 107, 3) := by decide +kernel
theorem dX3_charge_20 : decode cX3_charge 20 = .ok (.return_, 1) := by decide +kernel
theorem dX3_chargeSet_0 : decode cX3_chargeSet 0 = .ok (.iconst 0, 1) := by decide +kernel
theorem dX3_chargeSet_1 : decode cX3_chargeSet 1 = .ok (.istore_n 2, 1) := by decide +kernel
theorem dX3_chargeSet_2 : decode cX3_chargeSet 2 = .ok (.iload_n 2, 1) := by decide +kernel
theorem dX3_chargeSet_3 : decode cX3_chargeSet 3 = .ok (.aload_n 0, 1) := by decide +kernel
theorem dX3_chargeSet_4 : decode cX3_chargeSet 4 = .ok (.getfield 38, 3) := by decide +kernel
theorem dX3_chargeSet_7 : decode cX3_chargeSet 7 = .ok (.if_icmp .ge 23, 3) := by decide +kernel
theorem dX3_chargeSet_10 : decode cX3_chargeSet 10 = .ok (.iload_n 1, 1) := by decide +kernel
theorem dX3_chargeSet_11 : decode cX3_chargeSet 11 = .ok (.iload_n 2, 1) := by decide +kernel
theorem dX3_chargeSet_12 : decode cX3_chargeSet 12 = .ok (.ishr, 1) := by decide +kernel
theorem dX3_chargeSet_13 : decode cX3_chargeSet 13 = .ok (.iconst 1, 1) := by decide +kernel
theorem dX3_chargeSet_14 : decode cX3_chargeSet 14 = .ok (.iand, 1) := by decide +kernel
theorem dX3_chargeSet_15 : decode cX3_chargeSet 15 = .ok (.iconst 1, 1) := by decide +kernel
theorem dX3_chargeSet_16 : decode cX3_chargeSet 16 = .ok (.if_icmp .ne 8, 3) := by decide +kernel
theorem dX3_chargeSet_19 : decode cX3_chargeSet 19 = .ok (.aload_n 0, 1) := by decide +kernel
theorem dX3_chargeSet_20 : decode cX3_chargeSet 20 = .ok (.iload_n 2, 1) := by decide +kernel
theorem dX3_chargeSet_21 : decode cX3_chargeSet 21 = .ok (.invokevirtual 147, 3) := by decide +kernel
theorem dX3_chargeSet_24 : decode cX3_chargeSet 24 = .ok (.iinc 2 1, 3) := by decide +kernel
theorem dX3_chargeSet_27 : decode cX3_chargeSet 27 = .ok (.goto (-25), 3) := by decide +kernel
theorem dX3_chargeSet_30 : decode cX3_chargeSet 30 = .ok (.return_, 1) := by decide +kernel
theorem dX3_sets_0 : decode cX3_sets 0 = .ok (.iconst 1, 1) := by decide +kernel
theorem dX3_sets_1 : decode cX3_sets 1 = .ok (.aload_n 0, 1) := by decide +kernel
theorem dX3_sets_2 : decode cX3_sets 2 = .ok (.getfield 38, 3) := by decide +kernel
theorem dX3_sets_5 : decode cX3_sets 5 = .ok (.ishl, 1) := by decide +kernel
theorem dX3_sets_6 : decode cX3_sets 6 = .ok (.ireturn, 1) := by decide +kernel
theorem dX3_costOf_0 : decode cX3_costOf 0 = .ok (.iconst 0, 1) := by decide +kernel
theorem dX3_costOf_1 : decode cX3_costOf 1 = .ok (.istore_n 2, 1) := by decide +kernel
theorem dX3_costOf_2 : decode cX3_costOf 2 = .ok (.iconst 0, 1) := by decide +kernel
theorem dX3_costOf_3 : decode cX3_costOf 3 = .ok (.istore_n 3, 1) := by decide +kernel
theorem dX3_costOf_4 : decode cX3_costOf 4 = .ok (.iload_n 3, 1) := by decide +kernel
theorem dX3_costOf_5 : decode cX3_costOf 5 = .ok (.aload_n 0, 1) := by decide +kernel
theorem dX3_costOf_6 : decode cX3_costOf 6 = .ok (.getfield 38, 3) := by decide +kernel
theorem dX3_costOf_9 : decode cX3_costOf 9 = .ok (.if_icmp .ge 38, 3) := by decide +kernel
theorem dX3_costOf_12 : decode cX3_costOf 12 = .ok (.aload_n 0, 1) := by decide +kernel
theorem dX3_costOf_13 : decode cX3_costOf 13 = .ok (.iload_n 3, 1) := by decide +kernel
theorem dX3_costOf_14 : decode cX3_costOf 14 = .ok (.invokevirtual 58, 3) := by decide +kernel
theorem dX3_costOf_17 : decode cX3_costOf 17 = .ok (.astore 4, 2) := by decide +kernel
theorem dX3_costOf_19 : decode cX3_costOf 19 = .ok (.aload 4, 2) := by decide +kernel
theorem dX3_costOf_21 : decode cX3_costOf 21 = .ok (.ifnull 20, 3) := by decide +kernel
theorem dX3_costOf_24 : decode cX3_costOf 24 = .ok (.iload_n 1, 1) := by decide +kernel
theorem dX3_costOf_25 : decode cX3_costOf 25 = .ok (.iload_n 3, 1) := by decide +kernel
theorem dX3_costOf_26 : decode cX3_costOf 26 = .ok (.ishr, 1) := by decide +kernel
theorem dX3_costOf_27 : decode cX3_costOf 27 = .ok (.iconst 1, 1) := by decide +kernel
theorem dX3_costOf_28 : decode cX3_costOf 28 = .ok (.iand, 1) := by decide +kernel
theorem dX3_costOf_29 : decode cX3_costOf 29 = .ok (.iconst 1, 1) := by decide +kernel
theorem dX3_costOf_30 : decode cX3_costOf 30 = .ok (.if_icmp .ne 11, 3) := by decide +kernel
theorem dX3_costOf_33 : decode cX3_costOf 33 = .ok (.iload_n 2, 1) := by decide +kernel
theorem dX3_costOf_34 : decode cX3_costOf 34 = .ok (.aload 4, 2) := by decide +kernel
theorem dX3_costOf_36 : decode cX3_costOf 36 = .ok (.getfield 150, 3) := by decide +kernel
theorem dX3_costOf_39 : decode cX3_costOf 39 = .ok (.iadd, 1) := by decide +kernel
theorem dX3_costOf_40 : decode cX3_costOf 40 = .ok (.istore_n 2, 1) := by decide +kernel
theorem dX3_costOf_41 : decode cX3_costOf 41 = .ok (.iinc 3 1, 3) := by decide +kernel
theorem dX3_costOf_44 : decode cX3_costOf 44 = .ok (.goto (-40), 3) := by decide +kernel
theorem dX3_costOf_47 : decode cX3_costOf 47 = .ok (.iload_n 2, 1) := by decide +kernel
theorem dX3_costOf_48 : decode cX3_costOf 48 = .ok (.ireturn, 1) := by decide +kernel
theorem dX3_unusedWork_0 : decode cX3_unusedWork 0 = .ok (.iconst 0, 1) := by decide +kernel
theorem dX3_unusedWork_1 : decode cX3_unusedWork 1 = .ok (.istore_n 3, 1) := by decide +kernel
theorem dX3_unusedWork_2 : decode cX3_unusedWork 2 = .ok (.iconst 0, 1) := by decide +kernel
theorem dX3_unusedWork_3 : decode cX3_unusedWork 3 = .ok (.istore 4, 2) := by decide +kernel
theorem dX3_unusedWork_5 : decode cX3_unusedWork 5 = .ok (.iload 4, 2) := by decide +kernel
theorem dX3_unusedWork_7 : decode cX3_unusedWork 7 = .ok (.aload_n 0, 1) := by decide +kernel
theorem dX3_unusedWork_8 : decode cX3_unusedWork 8 = .ok (.getfield 38, 3) := by decide +kernel
theorem dX3_unusedWork_11 : decode cX3_unusedWork 11 = .ok (.if_icmp .ge 33, 3) := by decide +kernel
theorem dX3_unusedWork_14 : decode cX3_unusedWork 14 = .ok (.iload_n 1, 1) := by decide +kernel
theorem dX3_unusedWork_15 : decode cX3_unusedWork 15 = .ok (.iload 4, 2) := by decide +kernel
theorem dX3_unusedWork_17 : decode cX3_unusedWork 17 = .ok (.ishr, 1) := by decide +kernel
theorem dX3_unusedWork_18 : decode cX3_unusedWork 18 = .ok (.iconst 1, 1) := by decide +kernel
theorem dX3_unusedWork_19 : decode cX3_unusedWork 19 = .ok (.iand, 1) := by decide +kernel
theorem dX3_unusedWork_20 : decode cX3_unusedWork 20 = .ok (.iconst 1, 1) := by decide +kernel
theorem dX3_unusedWork_21 : decode cX3_unusedWork 21 = .ok (.if_icmp .ne 6, 3) := by decide +kernel
theorem dX3_unusedWork_24 : decode cX3_unusedWork 24 = .ok (.goto 14, 3) := by decide +kernel
theorem dX3_unusedWork_27 : decode cX3_unusedWork 27 = .ok (.iload_n 3, 1) := by decide +kernel
theorem dX3_unusedWork_28 : decode cX3_unusedWork 28 = .ok (.iload_n 2, 1) := by decide +kernel
theorem dX3_unusedWork_29 : decode cX3_unusedWork 29 = .ok (.if_icmp .ne 6, 3) := by decide +kernel
theorem dX3_unusedWork_32 : decode cX3_unusedWork 32 = .ok (.iload 4, 2) := by decide +kernel
theorem dX3_unusedWork_34 : decode cX3_unusedWork 34 = .ok (.ireturn, 1) := by decide +kernel
theorem dX3_unusedWork_35 : decode cX3_unusedWork 35 = .ok (.iinc 3 1, 3) := by decide +kernel
theorem dX3_unusedWork_38 : decode cX3_unusedWork 38 = .ok (.iinc 4 1, 3) := by decide +kernel
theorem dX3_unusedWork_41 : decode cX3_unusedWork 41 = .ok (.goto (-36), 3) := by decide +kernel
theorem dX3_unusedWork_44 : decode cX3_unusedWork 44 = .ok (.iconst 0, 1) := by decide +kernel
theorem dX3_unusedWork_45 : decode cX3_unusedWork 45 = .ok (.ireturn, 1) := by decide +kernel
theorem dX4_init_0 : decode cX4_init 0 = .ok (.aload_n 0, 1) := by decide +kernel
theorem dX4_init_1 : decode cX4_init 1 = .ok (.invokespecial 3, 3) := by decide +kernel
theorem dX4_init_4 : decode cX4_init 4 = .ok (.aload_n 0, 1) := by decide +kernel
theorem dX4_init_5 : decode cX4_init 5 = .ok (.bipush 8, 2) := by decide +kernel
theorem dX4_init_7 : decode cX4_init 7 = .ok (.anewarray 9, 3) := by decide +kernel
theorem dX4_init_10 : decode cX4_init 10 = .ok (.putfield 11, 3) := by decide +kernel
theorem dX4_init_13 : decode cX4_init 13 = .ok (.iconst 0, 1) := by decide +kernel
theorem dX4_init_14 : decode cX4_init 14 = .ok (.istore_n 1, 1) := by decide +kernel
theorem dX4_init_15 : decode cX4_init 15 = .ok (.iload_n 1, 1) := by decide +kernel
theorem dX4_init_16 : decode cX4_init 16 = .ok (.aload_n 0, 1) := by decide +kernel
theorem dX4_init_17 : decode cX4_init 17 = .ok (.getfield 11, 3) := by decide +kernel
theorem dX4_init_20 : decode cX4_init 20 = .ok (.arraylength, 1) := by decide +kernel
theorem dX4_init_21 : decode cX4_init 21 = .ok (.if_icmp .ge 22, 3) := by decide +kernel
theorem dX4_init_24 : decode cX4_init 24 = .ok (.aload_n 0, 1) := by decide +kernel
theorem dX4_init_25 : decode cX4_init 25 = .ok (.getfield 11, 3) := by decide +kernel
theorem dX4_init_28 : decode cX4_init 28 = .ok (.iload_n 1, 1) := by decide +kernel
theorem dX4_init_29 : decode cX4_init 29 = .ok (.new 9, 3) := by decide +kernel
theorem dX4_init_32 : decode cX4_init 32 = .ok (.dup, 1) := by decide +kernel
theorem dX4_init_33 : decode cX4_init 33 = .ok (.invokespecial 17, 3) := by decide +kernel
theorem dX4_init_36 : decode cX4_init 36 = .ok (.aastore, 1) := by decide +kernel
theorem dX4_init_37 : decode cX4_init 37 = .ok (.iinc 1 1, 3) := by decide +kernel
theorem dX4_init_40 : decode cX4_init 40 = .ok (.goto (-25), 3) := by decide +kernel
theorem dX4_init_43 : decode cX4_init 43 = .ok (.return_, 1) := by decide +kernel
theorem dX4_kept_0 : decode cX4_kept 0 = .ok (.aload_n 0, 1) := by decide +kernel
theorem dX4_kept_1 : decode cX4_kept 1 = .ok (.getfield 11, 3) := by decide +kernel
theorem dX4_kept_4 : decode cX4_kept 4 = .ok (.iload_n 1, 1) := by decide +kernel
theorem dX4_kept_5 : decode cX4_kept 5 = .ok (.ifCond .lt 16, 3) := by decide +kernel
theorem dX4_kept_8 : decode cX4_kept 8 = .ok (.iload_n 1, 1) := by decide +kernel
theorem dX4_kept_9 : decode cX4_kept 9 = .ok (.aload_n 0, 1) := by decide +kernel
theorem dX4_kept_10 : decode cX4_kept 10 = .ok (.getfield 11, 3) := by decide +kernel
theorem dX4_kept_13 : decode cX4_kept 13 = .ok (.arraylength, 1) := by decide +kernel
theorem dX4_kept_14 : decode cX4_kept 14 = .ok (.if_icmp .ge 7, 3) := by decide +kernel
theorem dX4_kept_17 : decode cX4_kept 17 = .ok (.iload_n 1, 1) := by decide +kernel
theorem dX4_kept_18 : decode cX4_kept 18 = .ok (.goto 4, 3) := by decide +kernel
theorem dX4_kept_21 : decode cX4_kept 21 = .ok (.iconst 0, 1) := by decide +kernel
theorem dX4_kept_22 : decode cX4_kept 22 = .ok (.aaload, 1) := by decide +kernel
theorem dX4_kept_23 : decode cX4_kept 23 = .ok (.areturn, 1) := by decide +kernel
theorem dX4_keep_0 : decode cX4_keep 0 = .ok (.aload_n 0, 1) := by decide +kernel
theorem dX4_keep_1 : decode cX4_keep 1 = .ok (.aload_n 0, 1) := by decide +kernel
theorem dX4_keep_2 : decode cX4_keep 2 = .ok (.getfield 18, 3) := by decide +kernel
theorem dX4_keep_5 : decode cX4_keep 5 = .ok (.invokevirtual 22, 3) := by decide +kernel
theorem dX4_keep_8 : decode cX4_keep 8 = .ok (.aload_n 1, 1) := by decide +kernel
theorem dX4_keep_9 : decode cX4_keep 9 = .ok (.invokevirtual 26, 3) := by decide +kernel
theorem dX4_keep_12 : decode cX4_keep 12 = .ok (.aload_n 0, 1) := by decide +kernel
theorem dX4_keep_13 : decode cX4_keep 13 = .ok (.aload_n 0, 1) := by decide +kernel
theorem dX4_keep_14 : decode cX4_keep 14 = .ok (.getfield 18, 3) := by decide +kernel
theorem dX4_keep_17 : decode cX4_keep 17 = .ok (.iconst 1, 1) := by decide +kernel
theorem dX4_keep_18 : decode cX4_keep 18 = .ok (.iadd, 1) := by decide +kernel
theorem dX4_keep_19 : decode cX4_keep 19 = .ok (.bipush 8, 2) := by decide +kernel
theorem dX4_keep_21 : decode cX4_keep 21 = .ok (.irem, 1) := by decide +kernel
theorem dX4_keep_22 : decode cX4_keep 22 = .ok (.putfield 18, 3) := by decide +kernel
theorem dX4_keep_25 : decode cX4_keep 25 = .ok (.aload_n 0, 1) := by decide +kernel
theorem dX4_keep_26 : decode cX4_keep 26 = .ok (.bipush 8, 2) := by decide +kernel
theorem dX4_keep_28 : decode cX4_keep 28 = .ok (.aload_n 0, 1) := by decide +kernel
theorem dX4_keep_29 : decode cX4_keep 29 = .ok (.getfield 30, 3) := by decide +kernel
theorem dX4_keep_32 : decode cX4_keep 32 = .ok (.iconst 1, 1) := by decide +kernel
theorem dX4_keep_33 : decode cX4_keep 33 = .ok (.iadd, 1) := by decide +kernel
theorem dX4_keep_34 : decode cX4_keep 34 = .ok (.invokestatic 33, 3) := by decide +kernel
theorem dX4_keep_37 : decode cX4_keep 37 = .ok (.putfield 30, 3) := by decide +kernel
theorem dX4_keep_40 : decode cX4_keep 40 = .ok (.return_, 1) := by decide +kernel
theorem dX4_takeBack_0 : decode cX4_takeBack 0 = .ok (.aload_n 0, 1) := by decide +kernel
theorem dX4_takeBack_1 : decode cX4_takeBack 1 = .ok (.aload_n 0, 1) := by decide +kernel
theorem dX4_takeBack_2 : decode cX4_takeBack 2 = .ok (.getfield 18, 3) := by decide +kernel
theorem dX4_takeBack_5 : decode cX4_takeBack 5 = .ok (.bipush 8, 2) := by decide +kernel
theorem dX4_takeBack_7 : decode cX4_takeBack 7 = .ok (.iadd, 1) := by decide +kernel
theorem dX4_takeBack_8 : decode cX4_takeBack 8 = .ok (.iconst 1, 1) := by decide +kernel
theorem dX4_takeBack_9 : decode cX4_takeBack 9 = .ok (.isub, 1) := by decide +kernel
theorem dX4_takeBack_10 : decode cX4_takeBack 10 = .ok (.bipush 8, 2) := by decide +kernel
theorem dX4_takeBack_12 : decode cX4_takeBack 12 = .ok (.irem, 1) := by decide +kernel
theorem dX4_takeBack_13 : decode cX4_takeBack 13 = .ok (.putfield 18, 3) := by decide +kernel
theorem dX4_takeBack_16 : decode cX4_takeBack 16 = .ok (.aload_n 1, 1) := by decide +kernel
theorem dX4_takeBack_17 : decode cX4_takeBack 17 = .ok (.aload_n 0, 1) := by decide +kernel
theorem dX4_takeBack_18 : decode cX4_takeBack 18 = .ok (.aload_n 0, 1) := by decide +kernel
theorem dX4_takeBack_19 : decode cX4_takeBack 19 = .ok (.getfield 18, 3) := by decide +kernel
theorem dX4_takeBack_22 : decode cX4_takeBack 22 = .ok (.invokevirtual 22, 3) := by decide +kernel
theorem dX4_takeBack_25 : decode cX4_takeBack 25 = .ok (.invokevirtual 26, 3) := by decide +kernel
theorem dX4_takeBack_28 : decode cX4_takeBack 28 = .ok (.aload_n 0, 1) := by decide +kernel
theorem dX4_takeBack_29 : decode cX4_takeBack 29 = .ok (.dup, 1) := by decide +kernel
theorem dX4_takeBack_30 : decode cX4_takeBack 30 = .ok (.getfield 30, 3) := by decide +kernel
theorem dX4_takeBack_33 : decode cX4_takeBack 33 = .ok (.iconst 1, 1) := by decide +kernel
theorem dX4_takeBack_34 : decode cX4_takeBack 34 = .ok (.isub, 1) := by decide +kernel
theorem dX4_takeBack_35 : decode cX4_takeBack 35 = .ok (.putfield 30, 3) := by decide +kernel
theorem dX4_takeBack_38 : decode cX4_takeBack 38 = .ok (.return_, 1) := by decide +kernel
theorem dX4_forget_0 : decode cX4_forget 0 = .ok (.aload_n 0, 1) := by decide +kernel
theorem dX4_forget_1 : decode cX4_forget 1 = .ok (.iconst 0, 1) := by decide +kernel
theorem dX4_forget_2 : decode cX4_forget 2 = .ok (.putfield 30, 3) := by decide +kernel
theorem dX4_forget_5 : decode cX4_forget 5 = .ok (.return_, 1) := by decide +kernel
theorem dX5_init_0 : decode cX5_init 0 = .ok (.aload_n 0, 1) := by decide +kernel
theorem dX5_init_1 : decode cX5_init 1 = .ok (.iload_n 1, 1) := by decide +kernel
theorem dX5_init_2 : decode cX5_init 2 = .ok (.iload_n 2, 1) := by decide +kernel
theorem dX5_init_3 : decode cX5_init 3 = .ok (.invokespecial 1, 3) := by decide +kernel
theorem dX5_init_6 : decode cX5_init 6 = .ok (.return_, 1) := by decide +kernel
theorem dX5_kind_0 : decode cX5_kind 0 = .ok (.iconst 4, 1) := by decide +kernel
theorem dX5_kind_1 : decode cX5_kind 1 = .ok (.ireturn, 1) := by decide +kernel
theorem dX5_due_0 : decode cX5_due 0 = .ok (.iconst 1, 1) := by decide +kernel
theorem dX5_due_1 : decode cX5_due 1 = .ok (.aload_n 0, 1) := by decide +kernel
theorem dX5_due_2 : decode cX5_due 2 = .ok (.invokespecial 7, 3) := by decide +kernel
theorem dX5_due_5 : decode cX5_due 5 = .ok (.aload_n 0, 1) := by decide +kernel
theorem dX5_due_6 : decode cX5_due 6 = .ok (.getfield 11, 3) := by decide +kernel
theorem dX5_due_9 : decode cX5_due 9 = .ok (.isub, 1) := by decide +kernel
theorem dX5_due_10 : decode cX5_due 10 = .ok (.invokestatic 17, 3) := by decide +kernel
theorem dX5_due_13 : decode cX5_due 13 = .ok (.ireturn, 1) := by decide +kernel
theorem dX5_payer_0 : decode cX5_payer 0 = .ok (.aload_n 1, 1) := by decide +kernel
theorem dX5_payer_1 : decode cX5_payer 1 = .ok (.invokevirtual 23, 3) := by decide +kernel
theorem dX5_payer_4 : decode cX5_payer 4 = .ok (.ireturn, 1) := by decide +kernel
theorem dX6_init_0 : decode cX6_init 0 = .ok (.aload_n 0, 1) := by decide +kernel
theorem dX6_init_1 : decode cX6_init 1 = .ok (.iload_n 1, 1) := by decide +kernel
theorem dX6_init_2 : decode cX6_init 2 = .ok (.iload_n 2, 1) := by decide +kernel
theorem dX6_init_3 : decode cX6_init 3 = .ok (.invokespecial 1, 3) := by decide +kernel
theorem dX6_init_6 : decode cX6_init 6 = .ok (.return_, 1) := by decide +kernel
theorem dX6_kind_0 : decode cX6_kind 0 = .ok (.iconst 5, 1) := by decide +kernel
theorem dX6_kind_1 : decode cX6_kind 1 = .ok (.ireturn, 1) := by decide +kernel
theorem dX6_due_0 : decode cX6_due 0 = .ok (.aload_n 0, 1) := by decide +kernel
theorem dX6_due_1 : decode cX6_due 1 = .ok (.invokespecial 7, 3) := by decide +kernel
theorem dX6_due_4 : decode cX6_due 4 = .ok (.aload_n 0, 1) := by decide +kernel
theorem dX6_due_5 : decode cX6_due 5 = .ok (.getfield 11, 3) := by decide +kernel
theorem dX6_due_8 : decode cX6_due 8 = .ok (.iadd, 1) := by decide +kernel
theorem dX6_due_9 : decode cX6_due 9 = .ok (.ireturn, 1) := by decide +kernel
theorem dX7_init_0 : decode cX7_init 0 = .ok (.aload_n 0, 1) := by decide +kernel
theorem dX7_init_1 : decode cX7_init 1 = .ok (.invokespecial 3, 3) := by decide +kernel
theorem dX7_init_4 : decode cX7_init 4 = .ok (.aload_n 0, 1) := by decide +kernel
theorem dX7_init_5 : decode cX7_init 5 = .ok (.bipush 96, 2) := by decide +kernel
theorem dX7_init_7 : decode cX7_init 7 = .ok (.newarray .int, 2) := by decide +kernel
theorem dX7_init_9 : decode cX7_init 9 = .ok (.putfield 9, 3) := by decide +kernel
theorem dX7_init_12 : decode cX7_init 12 = .ok (.return_, 1) := by decide +kernel
theorem dX7_isFull_0 : decode cX7_isFull 0 = .ok (.aload_n 0, 1) := by decide +kernel
theorem dX7_isFull_1 : decode cX7_isFull 1 = .ok (.getfield 15, 3) := by decide +kernel
theorem dX7_isFull_4 : decode cX7_isFull 4 = .ok (.aload_n 0, 1) := by decide +kernel
theorem dX7_isFull_5 : decode cX7_isFull 5 = .ok (.getfield 9, 3) := by decide +kernel
theorem dX7_isFull_8 : decode cX7_isFull 8 = .ok (.arraylength, 1) := by decide +kernel
theorem dX7_isFull_9 : decode cX7_isFull 9 = .ok (.if_icmp .lt 7, 3) := by decide +kernel
theorem dX7_isFull_12 : decode cX7_isFull 12 = .ok (.iconst 1, 1) := by decide +kernel
theorem dX7_isFull_13 : decode cX7_isFull 13 = .ok (.goto 4, 3) := by decide +kernel
theorem dX7_isFull_16 : decode cX7_isFull 16 = .ok (.iconst 0, 1) := by decide +kernel
theorem dX7_isFull_17 : decode cX7_isFull 17 = .ok (.ireturn, 1) := by decide +kernel
theorem dX7_add_0 : decode cX7_add 0 = .ok (.aload_n 0, 1) := by decide +kernel
theorem dX7_add_1 : decode cX7_add 1 = .ok (.getfield 15, 3) := by decide +kernel
theorem dX7_add_4 : decode cX7_add 4 = .ok (.aload_n 0, 1) := by decide +kernel
theorem dX7_add_5 : decode cX7_add 5 = .ok (.getfield 9, 3) := by decide +kernel
theorem dX7_add_8 : decode cX7_add 8 = .ok (.arraylength, 1) := by decide +kernel
theorem dX7_add_9 : decode cX7_add 9 = .ok (.if_icmp .ge 13, 3) := by decide +kernel
theorem dX7_add_12 : decode cX7_add 12 = .ok (.aload_n 0, 1) := by decide +kernel
theorem dX7_add_13 : decode cX7_add 13 = .ok (.getfield 9, 3) := by decide +kernel
theorem dX7_add_16 : decode cX7_add 16 = .ok (.aload_n 0, 1) := by decide +kernel
theorem dX7_add_17 : decode cX7_add 17 = .ok (.getfield 15, 3) := by decide +kernel
theorem dX7_add_20 : decode cX7_add 20 = .ok (.iload_n 1, 1) := by decide +kernel
theorem dX7_add_21 : decode cX7_add 21 = .ok (.iastore, 1) := by decide +kernel
theorem dX7_add_22 : decode cX7_add 22 = .ok (.aload_n 0, 1) := by decide +kernel
theorem dX7_add_23 : decode cX7_add 23 = .ok (.dup, 1) := by decide +kernel
theorem dX7_add_24 : decode cX7_add 24 = .ok (.getfield 15, 3) := by decide +kernel
theorem dX7_add_27 : decode cX7_add 27 = .ok (.iconst 1, 1) := by decide +kernel
theorem dX7_add_28 : decode cX7_add 28 = .ok (.iadd, 1) := by decide +kernel
theorem dX7_add_29 : decode cX7_add 29 = .ok (.putfield 15, 3) := by decide +kernel
theorem dX7_add_32 : decode cX7_add 32 = .ok (.aload_n 0, 1) := by decide +kernel
theorem dX7_add_33 : decode cX7_add 33 = .ok (.getfield 15, 3) := by decide +kernel
theorem dX7_add_36 : decode cX7_add 36 = .ok (.ireturn, 1) := by decide +kernel
theorem dX7_empty_0 : decode cX7_empty 0 = .ok (.aload_n 0, 1) := by decide +kernel
theorem dX7_empty_1 : decode cX7_empty 1 = .ok (.iconst 0, 1) := by decide +kernel
theorem dX7_empty_2 : decode cX7_empty 2 = .ok (.putfield 15, 3) := by decide +kernel
theorem dX7_empty_5 : decode cX7_empty 5 = .ok (.return_, 1) := by decide +kernel
theorem dX7_faultOfForm_0 : decode cX7_faultOfForm 0 = .ok (.iconst 0, 1) := by decide +kernel
theorem dX7_faultOfForm_1 : decode cX7_faultOfForm 1 = .ok (.istore_n 1, 1) := by decide +kernel
theorem dX7_faultOfForm_2 : decode cX7_faultOfForm 2 = .ok (.iconst 0, 1) := by decide +kernel
theorem dX7_faultOfForm_3 : decode cX7_faultOfForm 3 = .ok (.istore_n 2, 1) := by decide +kernel
theorem dX7_faultOfForm_4 : decode cX7_faultOfForm 4 = .ok (.iload_n 2, 1) := by decide +kernel
theorem dX7_faultOfForm_5 : decode cX7_faultOfForm 5 = .ok (.bipush 96, 2) := by decide +kernel
theorem dX7_faultOfForm_7 : decode cX7_faultOfForm 7 = .ok (.if_icmp .gt 32, 3) := by decide +kernel
theorem dX7_faultOfForm_10 : decode cX7_faultOfForm 10 = .ok (.aload_n 0, 1) := by decide +kernel
theorem dX7_faultOfForm_11 : decode cX7_faultOfForm 11 = .ok (.iload_n 1, 1) := by decide +kernel
theorem dX7_faultOfForm_12 : decode cX7_faultOfForm 12 = .ok (.invokevirtual 19, 3) := by decide +kernel
theorem dX7_faultOfForm_15 : decode cX7_faultOfForm 15 = .ok (.istore_n 1, 1) := by decide +kernel
theorem dX7_faultOfForm_16 : decode cX7_faultOfForm 16 = .ok (.iload_n 1, 1) := by decide +kernel
theorem dX7_faultOfForm_17 : decode cX7_faultOfForm 17 = .ok (.ifCond .ge 5, 3) := by decide +kernel
theorem dX7_faultOfForm_20 : decode cX7_faultOfForm 20 = .ok (.iload_n 1, 1) := by decide +kernel
theorem dX7_faultOfForm_21 : decode cX7_faultOfForm 21 = .ok (.ireturn, 1) := by decide +kernel
theorem dX7_faultOfForm_22 : decode cX7_faultOfForm 22 = .ok (.iload_n 1, 1) := by decide +kernel
theorem dX7_faultOfForm_23 : decode cX7_faultOfForm 23 = .ok (.aload_n 0, 1) := by decide +kernel
theorem dX7_faultOfForm_24 : decode cX7_faultOfForm 24 = .ok (.getfield 15, 3) := by decide +kernel
theorem dX7_faultOfForm_27 : decode cX7_faultOfForm 27 = .ok (.if_icmp .lt 6, 3) := by decide +kernel
theorem dX7_faultOfForm_30 : decode cX7_faultOfForm 30 = .ok (.goto 9, 3) := by decide +kernel
theorem dX7_faultOfForm_33 : decode cX7_faultOfForm 33 = .ok (.iinc 2 1, 3) := by decide +kernel
theorem dX7_faultOfForm_36 : decode cX7_faultOfForm 36 = .ok (.goto (-32), 3) := by decide +kernel
theorem dX7_faultOfForm_39 : decode cX7_faultOfForm 39 = .ok (.iconst 0, 1) := by decide +kernel
theorem dX7_faultOfForm_40 : decode cX7_faultOfForm 40 = .ok (.ireturn, 1) := by decide +kernel
theorem dX7_placeBehind_0 : decode cX7_placeBehind 0 = .ok (.aload_n 0, 1) := by decide +kernel
theorem dX7_placeBehind_1 : decode cX7_placeBehind 1 = .ok (.iload_n 1, 1) := by decide +kernel
theorem dX7_placeBehind_2 : decode cX7_placeBehind 2 = .ok (.invokevirtual 23, 3) := by decide +kernel
theorem dX7_placeBehind_5 : decode cX7_placeBehind 5 = .ok (.invokestatic 26, 3) := by decide +kernel
theorem dX7_placeBehind_8 : decode cX7_placeBehind 8 = .ok (.istore_n 2, 1) := by decide +kernel
theorem dX7_placeBehind_9 : decode cX7_placeBehind 9 = .ok (.iload_n 2, 1) := by decide +kernel
theorem dX7_placeBehind_10 : decode cX7_placeBehind 10 = .ok (.ifCond .ne 9, 3) := by decide +kernel
theorem dX7_placeBehind_13 : decode cX7_placeBehind 13 = .ok (.sipush (-1000), 3) := by decide +kernel
theorem dX7_placeBehind_16 : decode cX7_placeBehind 16 = .ok (.iload_n 1, 1) := by decide +kernel
theorem dX7_placeBehind_17 : decode cX7_placeBehind 17 = .ok (.isub, 1) := by decide +kernel
theorem dX7_placeBehind_18 : decode cX7_placeBehind 18 = .ok (.ireturn, 1) := by decide +kernel
theorem dX7_placeBehind_19 : decode cX7_placeBehind 19 = .ok (.iconst 1, 1) := by decide +kernel
theorem dX7_placeBehind_20 : decode cX7_placeBehind 20 = .ok (.istore_n 3, 1) := by decide +kernel
theorem dX7_placeBehind_21 : decode cX7_placeBehind 21 = .ok (.iload_n 3, 1) := by decide +kernel
theorem dX7_placeBehind_22 : decode cX7_placeBehind 22 = .ok (.iload_n 2, 1) := by decide +kernel
theorem dX7_placeBehind_23 : decode cX7_placeBehind 23 = .ok (.if_icmp .gt 30, 3) := by decide +kernel
theorem dX7_placeBehind_26 : decode cX7_placeBehind 26 = .ok (.aload_n 0, 1) := by decide +kernel
theorem dX7_placeBehind_27 : decode cX7_placeBehind 27 = .ok (.iload_n 1, 1) := by decide +kernel
theorem dX7_placeBehind_28 : decode cX7_placeBehind 28 = .ok (.iload_n 3, 1) := by decide +kernel
theorem dX7_placeBehind_29 : decode cX7_placeBehind 29 = .ok (.iadd, 1) := by decide +kernel
theorem dX7_placeBehind_30 : decode cX7_placeBehind 30 = .ok (.invokevirtual 23, 3) := by decide +kernel
theorem dX7_placeBehind_33 : decode cX7_placeBehind 33 = .ok (.invokestatic 29, 3) := by decide +kernel
theorem dX7_placeBehind_36 : decode cX7_placeBehind 36 = .ok (.ifCond .ne 11, 3) := by decide +kernel
theorem dX7_placeBehind_39 : decode cX7_placeBehind 39 = .ok (.sipush (-1000), 3) := by decide +kernel
theorem dX7_placeBehind_42 : decode cX7_placeBehind 42 = .ok (.iload_n 1, 1) := by decide +kernel
theorem dX7_placeBehind_43 : decode cX7_placeBehind 43 = .ok (.iload_n 3, 1) := by decide +kernel
theorem dX7_placeBehind_44 : decode cX7_placeBehind 44 = .ok (.iadd, 1) := by decide +kernel
theorem dX7_placeBehind_45 : decode cX7_placeBehind 45 = .ok (.isub, 1) := by decide +kernel
theorem dX7_placeBehind_46 : decode cX7_placeBehind 46 = .ok (.ireturn, 1) := by decide +kernel
theorem dX7_placeBehind_47 : decode cX7_placeBehind 47 = .ok (.iinc 3 1, 3) := by decide +kernel
theorem dX7_placeBehind_50 : decode cX7_placeBehind 50 = .ok (.goto (-29), 3) := by decide +kernel
theorem dX7_placeBehind_53 : decode cX7_placeBehind 53 = .ok (.iload_n 1, 1) := by decide +kernel
theorem dX7_placeBehind_54 : decode cX7_placeBehind 54 = .ok (.iload_n 2, 1) := by decide +kernel
theorem dX7_placeBehind_55 : decode cX7_placeBehind 55 = .ok (.iadd, 1) := by decide +kernel
theorem dX7_placeBehind_56 : decode cX7_placeBehind 56 = .ok (.iconst 1, 1) := by decide +kernel
theorem dX7_placeBehind_57 : decode cX7_placeBehind 57 = .ok (.iadd, 1) := by decide +kernel
theorem dX7_placeBehind_58 : decode cX7_placeBehind 58 = .ok (.istore_n 3, 1) := by decide +kernel
theorem dX7_placeBehind_59 : decode cX7_placeBehind 59 = .ok (.aload_n 0, 1) := by decide +kernel
theorem dX7_placeBehind_60 : decode cX7_placeBehind 60 = .ok (.iload_n 3, 1) := by decide +kernel
theorem dX7_placeBehind_61 : decode cX7_placeBehind 61 = .ok (.invokevirtual 23, 3) := by decide +kernel
theorem dX7_placeBehind_64 : decode cX7_placeBehind 64 = .ok (.bipush 59, 2) := by decide +kernel
theorem dX7_placeBehind_66 : decode cX7_placeBehind 66 = .ok (.if_icmp .ne 9, 3) := by decide +kernel
theorem dX7_placeBehind_69 : decode cX7_placeBehind 69 = .ok (.iload_n 3, 1) := by decide +kernel
theorem dX7_placeBehind_70 : decode cX7_placeBehind 70 = .ok (.iconst 1, 1) := by decide +kernel
theorem dX7_placeBehind_71 : decode cX7_placeBehind 71 = .ok (.iadd, 1) := by decide +kernel
theorem dX7_placeBehind_72 : decode cX7_placeBehind 72 = .ok (.goto 8, 3) := by decide +kernel
theorem dX7_placeBehind_75 : decode cX7_placeBehind 75 = .ok (.sipush (-1000), 3) := by decide +kernel
theorem dX7_placeBehind_78 : decode cX7_placeBehind 78 = .ok (.iload_n 3, 1) := by decide +kernel
theorem dX7_placeBehind_79 : decode cX7_placeBehind 79 = .ok (.isub, 1) := by decide +kernel
theorem dX7_placeBehind_80 : decode cX7_placeBehind 80 = .ok (.ireturn, 1) := by decide +kernel
theorem dX7_lengthAt_0 : decode cX7_lengthAt 0 = .ok (.aload_n 0, 1) := by decide +kernel
theorem dX7_lengthAt_1 : decode cX7_lengthAt 1 = .ok (.iload_n 1, 1) := by decide +kernel
theorem dX7_lengthAt_2 : decode cX7_lengthAt 2 = .ok (.invokevirtual 23, 3) := by decide +kernel
theorem dX7_lengthAt_5 : decode cX7_lengthAt 5 = .ok (.invokestatic 26, 3) := by decide +kernel
theorem dX7_lengthAt_8 : decode cX7_lengthAt 8 = .ok (.iconst 2, 1) := by decide +kernel
theorem dX7_lengthAt_9 : decode cX7_lengthAt 9 = .ok (.iadd, 1) := by decide +kernel
theorem dX7_lengthAt_10 : decode cX7_lengthAt 10 = .ok (.ireturn, 1) := by decide +kernel
theorem dX7_enact_0 : decode cX7_enact 0 = .ok (.aload_n 0, 1) := by decide +kernel
theorem dX7_enact_1 : decode cX7_enact 1 = .ok (.iload_n 1, 1) := by decide +kernel
theorem dX7_enact_2 : decode cX7_enact 2 = .ok (.invokevirtual 23, 3) := by decide +kernel
theorem dX7_enact_5 : decode cX7_enact 5 = .ok (.lookupswitch 177 #[(98, 117), (100, 156), (102, 59), (114, 130), (119, 88), (121, 143)], 59) := by decide +kernel
theorem dX7_enact_64 : decode cX7_enact 64 = .ok (.aload_n 2, 1) := by decide +kernel
theorem dX7_enact_65 : decode cX7_enact 65 = .ok (.aload_n 0, 1) := by decide +kernel
theorem dX7_enact_66 : decode cX7_enact 66 = .ok (.iload_n 1, 1) := by decide +kernel
theorem dX7_enact_67 : decode cX7_enact 67 = .ok (.iconst 1, 1) := by decide +kernel
theorem dX7_enact_68 : decode cX7_enact 68 = .ok (.iadd, 1) := by decide +kernel
theorem dX7_enact_69 : decode cX7_enact 69 = .ok (.iconst 2, 1) := by decide +kernel
theorem dX7_enact_70 : decode cX7_enact 70 = .ok (.invokevirtual 33, 3) := by decide +kernel
theorem dX7_enact_73 : decode cX7_enact 73 = .ok (.aload_n 0, 1) := by decide +kernel
theorem dX7_enact_74 : decode cX7_enact 74 = .ok (.iload_n 1, 1) := by decide +kernel
theorem dX7_enact_75 : decode cX7_enact 75 = .ok (.iconst 3, 1) := by decide +kernel
theorem dX7_enact_76 : decode cX7_enact 76 = .ok (.iadd, 1) := by decide +kernel
theorem dX7_enact_77 : decode cX7_enact 77 = .ok (.iconst 1, 1) := by decide +kernel
theorem dX7_enact_78 : decode cX7_enact 78 = .ok (.invokevirtual 33, 3) := by decide +kernel
theorem dX7_enact_81 : decode cX7_enact 81 = .ok (.aload_n 0, 1) := by decide +kernel
theorem dX7_enact_82 : decode cX7_enact 82 = .ok (.iload_n 1, 1) := by decide +kernel
theorem dX7_enact_83 : decode cX7_enact 83 = .ok (.iconst 4, 1) := by decide +kernel
theorem dX7_enact_84 : decode cX7_enact 84 = .ok (.iadd, 1) := by decide +kernel
theorem dX7_enact_85 : decode cX7_enact 85 = .ok (.iconst 1, 1) := by decide +kernel
theorem dX7_enact_86 : decode cX7_enact 86 = .ok (.invokevirtual 33, 3) := by decide +kernel
theorem dX7_enact_89 : decode cX7_enact 89 = .ok (.invokevirtual 37, 3) := by decide +kernel
theorem dX7_enact_92 : decode cX7_enact 92 = .ok (.ireturn, 1) := by decide +kernel
theorem dX7_enact_93 : decode cX7_enact 93 = .ok (.aload_n 2, 1) := by decide +kernel
theorem dX7_enact_94 : decode cX7_enact 94 = .ok (.aload_n 0, 1) := by decide +kernel
theorem dX7_enact_95 : decode cX7_enact 95 = .ok (.iload_n 1, 1) := by decide +kernel
theorem dX7_enact_96 : decode cX7_enact 96 = .ok (.iconst 1, 1) := by decide +kernel
theorem dX7_enact_97 : decode cX7_enact 97 = .ok (.iadd, 1) := by decide +kernel
theorem dX7_enact_98 : decode cX7_enact 98 = .ok (.iconst 1, 1) := by decide +kernel
theorem dX7_enact_99 : decode cX7_enact 99 = .ok (.invokevirtual 33, 3) := by decide +kernel
theorem dX7_enact_102 : decode cX7_enact 102 = .ok (.aload_n 0, 1) := by decide +kernel
theorem dX7_enact_103 : decode cX7_enact 103 = .ok (.iload_n 1, 1) := by decide +kernel
theorem dX7_enact_104 : decode cX7_enact 104 = .ok (.iconst 2, 1) := by decide +kernel
theorem dX7_enact_105 : decode cX7_enact 105 = .ok (.iadd, 1) := by decide +kernel
theorem dX7_enact_106 : decode cX7_enact 106 = .ok (.iconst 1, 1) := by decide +kernel
theorem dX7_enact_107 : decode cX7_enact 107 = .ok (.invokevirtual 33, 3) := by decide +kernel
theorem dX7_enact_110 : decode cX7_enact 110 = .ok (.aload_n 0, 1) := by decide +kernel
theorem dX7_enact_111 : decode cX7_enact 111 = .ok (.iload_n 1, 1) := by decide +kernel
theorem dX7_enact_112 : decode cX7_enact 112 = .ok (.iconst 3, 1) := by decide +kernel
theorem dX7_enact_113 : decode cX7_enact 113 = .ok (.iadd, 1) := by decide +kernel
theorem dX7_enact_114 : decode cX7_enact 114 = .ok (.iconst 3, 1) := by decide +kernel
theorem dX7_enact_115 : decode cX7_enact 115 = .ok (.invokevirtual 33, 3) := by decide +kernel
theorem dX7_enact_118 : decode cX7_enact 118 = .ok (.invokevirtual 43, 3) := by decide +kernel
theorem dX7_enact_121 : decode cX7_enact 121 = .ok (.ireturn, 1) := by decide +kernel
theorem dX7_enact_122 : decode cX7_enact 122 = .ok (.aload_n 2, 1) := by decide +kernel
theorem dX7_enact_123 : decode cX7_enact 123 = .ok (.aload_n 0, 1) := by decide +kernel
theorem dX7_enact_124 : decode cX7_enact 124 = .ok (.iload_n 1, 1) := by decide +kernel
theorem dX7_enact_125 : decode cX7_enact 125 = .ok (.iconst 1, 1) := by decide +kernel
theorem dX7_enact_126 : decode cX7_enact 126 = .ok (.iadd, 1) := by decide +kernel
theorem dX7_enact_127 : decode cX7_enact 127 = .ok (.iconst 1, 1) := by decide +kernel
theorem dX7_enact_128 : decode cX7_enact 128 = .ok (.invokevirtual 33, 3) := by decide +kernel
theorem dX7_enact_131 : decode cX7_enact 131 = .ok (.invokevirtual 46, 3) := by decide +kernel
theorem dX7_enact_134 : decode cX7_enact 134 = .ok (.ireturn, 1) := by decide +kernel
theorem dX7_enact_135 : decode cX7_enact 135 = .ok (.aload_n 2, 1) := by decide +kernel
theorem dX7_enact_136 : decode cX7_enact 136 = .ok (.aload_n 0, 1) := by decide +kernel
theorem dX7_enact_137 : decode cX7_enact 137 = .ok (.iload_n 1, 1) := by decide +kernel
theorem dX7_enact_138 : decode cX7_enact 138 = .ok (.iconst 1, 1) := by decide +kernel
theorem dX7_enact_139 : decode cX7_enact 139 = .ok (.iadd, 1) := by decide +kernel
theorem dX7_enact_140 : decode cX7_enact 140 = .ok (.iconst 2, 1) := by decide +kernel
theorem dX7_enact_141 : decode cX7_enact 141 = .ok (.invokevirtual 33, 3) := by decide +kernel
theorem dX7_enact_144 : decode cX7_enact 144 = .ok (.invokevirtual 49, 3) := by decide +kernel
theorem dX7_enact_147 : decode cX7_enact 147 = .ok (.ireturn, 1) := by decide +kernel
theorem dX7_enact_148 : decode cX7_enact 148 = .ok (.aload_n 2, 1) := by decide +kernel
theorem dX7_enact_149 : decode cX7_enact 149 = .ok (.aload_n 0, 1) := by decide +kernel
theorem dX7_enact_150 : decode cX7_enact 150 = .ok (.iload_n 1, 1) := by decide +kernel
theorem dX7_enact_151 : decode cX7_enact 151 = .ok (.iconst 1, 1) := by decide +kernel
theorem dX7_enact_152 : decode cX7_enact 152 = .ok (.iadd, 1) := by decide +kernel
theorem dX7_enact_153 : decode cX7_enact 153 = .ok (.iconst 2, 1) := by decide +kernel
theorem dX7_enact_154 : decode cX7_enact 154 = .ok (.invokevirtual 33, 3) := by decide +kernel
theorem dX7_enact_157 : decode cX7_enact 157 = .ok (.invokevirtual 52, 3) := by decide +kernel
theorem dX7_enact_160 : decode cX7_enact 160 = .ok (.ireturn, 1) := by decide +kernel
theorem dX7_enact_161 : decode cX7_enact 161 = .ok (.aload_n 2, 1) := by decide +kernel
theorem dX7_enact_162 : decode cX7_enact 162 = .ok (.aload_n 0, 1) := by decide +kernel
theorem dX7_enact_163 : decode cX7_enact 163 = .ok (.iload_n 1, 1) := by decide +kernel
theorem dX7_enact_164 : decode cX7_enact 164 = .ok (.iconst 1, 1) := by decide +kernel
theorem dX7_enact_165 : decode cX7_enact 165 = .ok (.iadd, 1) := by decide +kernel
theorem dX7_enact_166 : decode cX7_enact 166 = .ok (.iconst 1, 1) := by decide +kernel
theorem dX7_enact_167 : decode cX7_enact 167 = .ok (.invokevirtual 33, 3) := by decide +kernel
theorem dX7_enact_170 : decode cX7_enact 170 = .ok (.aload_n 0, 1) := by decide +kernel
theorem dX7_enact_171 : decode cX7_enact 171 = .ok (.iload_n 1, 1) := by decide +kernel
theorem dX7_enact_172 : decode cX7_enact 172 = .ok (.iconst 2, 1) := by decide +kernel
theorem dX7_enact_173 : decode cX7_enact 173 = .ok (.iadd, 1) := by decide +kernel
theorem dX7_enact_174 : decode cX7_enact 174 = .ok (.iconst 5, 1) := by decide +kernel
theorem dX7_enact_175 : decode cX7_enact 175 = .ok (.invokevirtual 33, 3) := by decide +kernel
theorem dX7_enact_178 : decode cX7_enact 178 = .ok (.invokevirtual 55, 3) := by decide +kernel
theorem dX7_enact_181 : decode cX7_enact 181 = .ok (.ireturn, 1) := by decide +kernel
theorem dX7_enact_182 : decode cX7_enact 182 = .ok (.bipush (-2), 2) := by decide +kernel
theorem dX7_enact_184 : decode cX7_enact 184 = .ok (.ireturn, 1) := by decide +kernel
theorem dX7_digitsBehind_0 : decode cX7_digitsBehind 0 = .ok (.iload_n 0, 1) := by decide +kernel
theorem dX7_digitsBehind_1 : decode cX7_digitsBehind 1 = .ok (.lookupswitch 72 #[(98, 63), (100, 69), (102, 59), (114, 65), (119, 61), (121, 67)], 59) := by decide +kernel
theorem dX7_digitsBehind_60 : decode cX7_digitsBehind 60 = .ok (.iconst 4, 1) := by decide +kernel
theorem dX7_digitsBehind_61 : decode cX7_digitsBehind 61 = .ok (.ireturn, 1) := by decide +kernel
theorem dX7_digitsBehind_62 : decode cX7_digitsBehind 62 = .ok (.iconst 5, 1) := by decide +kernel
theorem dX7_digitsBehind_63 : decode cX7_digitsBehind 63 = .ok (.ireturn, 1) := by decide +kernel
theorem dX7_digitsBehind_64 : decode cX7_digitsBehind 64 = .ok (.iconst 1, 1) := by decide +kernel
theorem dX7_digitsBehind_65 : decode cX7_digitsBehind 65 = .ok (.ireturn, 1) := by decide +kernel
theorem dX7_digitsBehind_66 : decode cX7_digitsBehind 66 = .ok (.iconst 2, 1) := by decide +kernel
theorem dX7_digitsBehind_67 : decode cX7_digitsBehind 67 = .ok (.ireturn, 1) := by decide +kernel
theorem dX7_digitsBehind_68 : decode cX7_digitsBehind 68 = .ok (.iconst 2, 1) := by decide +kernel
theorem dX7_digitsBehind_69 : decode cX7_digitsBehind 69 = .ok (.ireturn, 1) := by decide +kernel
theorem dX7_digitsBehind_70 : decode cX7_digitsBehind 70 = .ok (.bipush 6, 2) := by decide +kernel
theorem dX7_digitsBehind_72 : decode cX7_digitsBehind 72 = .ok (.ireturn, 1) := by decide +kernel
theorem dX7_digitsBehind_73 : decode cX7_digitsBehind 73 = .ok (.iconst 0, 1) := by decide +kernel
theorem dX7_digitsBehind_74 : decode cX7_digitsBehind 74 = .ok (.ireturn, 1) := by decide +kernel
theorem dX7_letterAt_0 : decode cX7_letterAt 0 = .ok (.iload_n 1, 1) := by decide +kernel
theorem dX7_letterAt_1 : decode cX7_letterAt 1 = .ok (.ifCond .lt 29, 3) := by decide +kernel
theorem dX7_letterAt_4 : decode cX7_letterAt 4 = .ok (.iload_n 1, 1) := by decide +kernel
theorem dX7_letterAt_5 : decode cX7_letterAt 5 = .ok (.aload_n 0, 1) := by decide +kernel
theorem dX7_letterAt_6 : decode cX7_letterAt 6 = .ok (.getfield 15, 3) := by decide +kernel
theorem dX7_letterAt_9 : decode cX7_letterAt 9 = .ok (.if_icmp .ge 21, 3) := by decide +kernel
theorem dX7_letterAt_12 : decode cX7_letterAt 12 = .ok (.iload_n 1, 1) := by decide +kernel
theorem dX7_letterAt_13 : decode cX7_letterAt 13 = .ok (.aload_n 0, 1) := by decide +kernel
theorem dX7_letterAt_14 : decode cX7_letterAt 14 = .ok (.getfield 9, 3) := by decide +kernel
theorem dX7_letterAt_17 : decode cX7_letterAt 17 = .ok (.arraylength, 1) := by decide +kernel
theorem dX7_letterAt_18 : decode cX7_letterAt 18 = .ok (.if_icmp .ge 12, 3) := by decide +kernel
theorem dX7_letterAt_21 : decode cX7_letterAt 21 = .ok (.aload_n 0, 1) := by decide +kernel
theorem dX7_letterAt_22 : decode cX7_letterAt 22 = .ok (.getfield 9, 3) := by decide +kernel
theorem dX7_letterAt_25 : decode cX7_letterAt 25 = .ok (.iload_n 1, 1) := by decide +kernel
theorem dX7_letterAt_26 : decode cX7_letterAt 26 = .ok (.iaload, 1) := by decide +kernel
theorem dX7_letterAt_27 : decode cX7_letterAt 27 = .ok (.goto 4, 3) := by decide +kernel
theorem dX7_letterAt_30 : decode cX7_letterAt 30 = .ok (.iconst (-1), 1) := by decide +kernel
theorem dX7_letterAt_31 : decode cX7_letterAt 31 = .ok (.ireturn, 1) := by decide +kernel
theorem dX7_isDigit_0 : decode cX7_isDigit 0 = .ok (.iload_n 0, 1) := by decide +kernel
theorem dX7_isDigit_1 : decode cX7_isDigit 1 = .ok (.bipush 48, 2) := by decide +kernel
theorem dX7_isDigit_3 : decode cX7_isDigit 3 = .ok (.if_icmp .lt 13, 3) := by decide +kernel
theorem dX7_isDigit_6 : decode cX7_isDigit 6 = .ok (.iload_n 0, 1) := by decide +kernel
theorem dX7_isDigit_7 : decode cX7_isDigit 7 = .ok (.bipush 57, 2) := by decide +kernel
theorem dX7_isDigit_9 : decode cX7_isDigit 9 = .ok (.if_icmp .gt 7, 3) := by decide +kernel
theorem dX7_isDigit_12 : decode cX7_isDigit 12 = .ok (.iconst 1, 1) := by decide +kernel
theorem dX7_isDigit_13 : decode cX7_isDigit 13 = .ok (.goto 4, 3) := by decide +kernel
theorem dX7_isDigit_16 : decode cX7_isDigit 16 = .ok (.iconst 0, 1) := by decide +kernel
theorem dX7_isDigit_17 : decode cX7_isDigit 17 = .ok (.ireturn, 1) := by decide +kernel
theorem dX7_number_0 : decode cX7_number 0 = .ok (.iconst 0, 1) := by decide +kernel
theorem dX7_number_1 : decode cX7_number 1 = .ok (.istore_n 3, 1) := by decide +kernel
theorem dX7_number_2 : decode cX7_number 2 = .ok (.iconst 0, 1) := by decide +kernel
theorem dX7_number_3 : decode cX7_number 3 = .ok (.istore 4, 2) := by decide +kernel
theorem dX7_number_5 : decode cX7_number 5 = .ok (.iload 4, 2) := by decide +kernel
theorem dX7_number_7 : decode cX7_number 7 = .ok (.iload_n 2, 1) := by decide +kernel
theorem dX7_number_8 : decode cX7_number 8 = .ok (.if_icmp .ge 26, 3) := by decide +kernel
theorem dX7_number_11 : decode cX7_number 11 = .ok (.bipush 10, 2) := by decide +kernel
theorem dX7_number_13 : decode cX7_number 13 = .ok (.iload_n 3, 1) := by decide +kernel
theorem dX7_number_14 : decode cX7_number 14 = .ok (.imul, 1) := by decide +kernel
theorem dX7_number_15 : decode cX7_number 15 = .ok (.aload_n 0, 1) := by decide +kernel
theorem dX7_number_16 : decode cX7_number 16 = .ok (.iload_n 1, 1) := by decide +kernel
theorem dX7_number_17 : decode cX7_number 17 = .ok (.iload 4, 2) := by decide +kernel
theorem dX7_number_19 : decode cX7_number 19 = .ok (.iadd, 1) := by decide +kernel
theorem dX7_number_20 : decode cX7_number 20 = .ok (.invokevirtual 23, 3) := by decide +kernel
theorem dX7_number_23 : decode cX7_number 23 = .ok (.iadd, 1) := by decide +kernel
theorem dX7_number_24 : decode cX7_number 24 = .ok (.bipush 48, 2) := by decide +kernel
theorem dX7_number_26 : decode cX7_number 26 = .ok (.isub, 1) := by decide +kernel
theorem dX7_number_27 : decode cX7_number 27 = .ok (.istore_n 3, 1) := by decide +kernel
theorem dX7_number_28 : decode cX7_number 28 = .ok (.iinc 4 1, 3) := by decide +kernel
theorem dX7_number_31 : decode cX7_number 31 = .ok (.goto (-26), 3) := by decide +kernel
theorem dX7_number_34 : decode cX7_number 34 = .ok (.iload_n 3, 1) := by decide +kernel
theorem dX7_number_35 : decode cX7_number 35 = .ok (.ireturn, 1) := by decide +kernel
theorem dX8_init_0 : decode cX8_init 0 = .ok (.aload_n 0, 1) := by decide +kernel
theorem dX8_init_1 : decode cX8_init 1 = .ok (.iload_n 1, 1) := by decide +kernel
theorem dX8_init_2 : decode cX8_init 2 = .ok (.iload_n 2, 1) := by decide +kernel
theorem dX8_init_3 : decode cX8_init 3 = .ok (.invokespecial 1, 3) := by decide +kernel
theorem dX8_init_6 : decode cX8_init 6 = .ok (.return_, 1) := by decide +kernel
theorem dX8_kind_0 : decode cX8_kind 0 = .ok (.iconst 2, 1) := by decide +kernel
theorem dX8_kind_1 : decode cX8_kind 1 = .ok (.ireturn, 1) := by decide +kernel
theorem dX8_due_0 : decode cX8_due 0 = .ok (.iconst 2, 1) := by decide +kernel
theorem dX8_due_1 : decode cX8_due 1 = .ok (.aload_n 0, 1) := by decide +kernel
theorem dX8_due_2 : decode cX8_due 2 = .ok (.invokespecial 7, 3) := by decide +kernel
theorem dX8_due_5 : decode cX8_due 5 = .ok (.imul, 1) := by decide +kernel
theorem dX8_due_6 : decode cX8_due 6 = .ok (.ireturn, 1) := by decide +kernel
theorem dX8_payer_0 : decode cX8_payer 0 = .ok (.aload_n 1, 1) := by decide +kernel
theorem dX8_payer_1 : decode cX8_payer 1 = .ok (.invokevirtual 11, 3) := by decide +kernel
theorem dX8_payer_4 : decode cX8_payer 4 = .ok (.ireturn, 1) := by decide +kernel
theorem dX8_shareOut_0 : decode cX8_shareOut 0 = .ok (.aload_n 1, 1) := by decide +kernel
theorem dX8_shareOut_1 : decode cX8_shareOut 1 = .ok (.aload_n 0, 1) := by decide +kernel
theorem dX8_shareOut_2 : decode cX8_shareOut 2 = .ok (.invokevirtual 16, 3) := by decide +kernel
theorem dX8_shareOut_5 : decode cX8_shareOut 5 = .ok (.aload_n 0, 1) := by decide +kernel
theorem dX8_shareOut_6 : decode cX8_shareOut 6 = .ok (.aload_n 1, 1) := by decide +kernel
theorem dX8_shareOut_7 : decode cX8_shareOut 7 = .ok (.invokevirtual 19, 3) := by decide +kernel
theorem dX8_shareOut_10 : decode cX8_shareOut 10 = .ok (.invokevirtual 23, 3) := by decide +kernel
theorem dX8_shareOut_13 : decode cX8_shareOut 13 = .ok (.return_, 1) := by decide +kernel
theorem dX9_init_0 : decode cX9_init 0 = .ok (.aload_n 0, 1) := by decide +kernel
theorem dX9_init_1 : decode cX9_init 1 = .ok (.invokespecial 1, 3) := by decide +kernel
theorem dX9_init_4 : decode cX9_init 4 = .ok (.aload_n 0, 1) := by decide +kernel
theorem dX9_init_5 : decode cX9_init 5 = .ok (.iload_n 1, 1) := by decide +kernel
theorem dX9_init_6 : decode cX9_init 6 = .ok (.putfield 7, 3) := by decide +kernel
theorem dX9_init_9 : decode cX9_init 9 = .ok (.aload_n 0, 1) := by decide +kernel
theorem dX9_init_10 : decode cX9_init 10 = .ok (.iload_n 2, 1) := by decide +kernel
theorem dX9_init_11 : decode cX9_init 11 = .ok (.putfield 13, 3) := by decide +kernel
theorem dX9_init_14 : decode cX9_init 14 = .ok (.return_, 1) := by decide +kernel
theorem dX9_kind_0 : decode cX9_kind 0 = .ok (.iconst 0, 1) := by decide +kernel
theorem dX9_kind_1 : decode cX9_kind 1 = .ok (.ireturn, 1) := by decide +kernel
theorem dX9_due_0 : decode cX9_due 0 = .ok (.aload_n 0, 1) := by decide +kernel
theorem dX9_due_1 : decode cX9_due 1 = .ok (.getfield 13, 3) := by decide +kernel
theorem dX9_due_4 : decode cX9_due 4 = .ok (.ireturn, 1) := by decide +kernel
theorem dX9_shareOut_0 : decode cX9_shareOut 0 = .ok (.aload_n 1, 1) := by decide +kernel
theorem dX9_shareOut_1 : decode cX9_shareOut 1 = .ok (.aload_n 0, 1) := by decide +kernel
theorem dX9_shareOut_2 : decode cX9_shareOut 2 = .ok (.invokevirtual 16, 3) := by decide +kernel
theorem dX9_shareOut_5 : decode cX9_shareOut 5 = .ok (.invokevirtual 20, 3) := by decide +kernel
theorem dX9_shareOut_8 : decode cX9_shareOut 8 = .ok (.return_, 1) := by decide +kernel
theorem dX10_init_0 : decode cX10_init 0 = .ok (.aload_n 0, 1) := by decide +kernel
theorem dX10_init_1 : decode cX10_init 1 = .ok (.invokespecial 1, 3) := by decide +kernel
theorem dX10_init_4 : decode cX10_init 4 = .ok (.aload_n 0, 1) := by decide +kernel
theorem dX10_init_5 : decode cX10_init 5 = .ok (.new 7, 3) := by decide +kernel
theorem dX10_init_8 : decode cX10_init 8 = .ok (.dup, 1) := by decide +kernel
theorem dX10_init_9 : decode cX10_init 9 = .ok (.invokespecial 9, 3) := by decide +kernel
theorem dX10_init_12 : decode cX10_init 12 = .ok (.putfield 10, 3) := by decide +kernel
theorem dX10_init_15 : decode cX10_init 15 = .ok (.aload_n 0, 1) := by decide +kernel
theorem dX10_init_16 : decode cX10_init 16 = .ok (.new 7, 3) := by decide +kernel
theorem dX10_init_19 : decode cX10_init 19 = .ok (.dup, 1) := by decide +kernel
theorem dX10_init_20 : decode cX10_init 20 = .ok (.invokespecial 9, 3) := by decide +kernel
theorem dX10_init_23 : decode cX10_init 23 = .ok (.putfield 16, 3) := by decide +kernel
theorem dX10_init_26 : decode cX10_init 26 = .ok (.aload_n 0, 1) := by decide +kernel
theorem dX10_init_27 : decode cX10_init 27 = .ok (.new 7, 3) := by decide +kernel
theorem dX10_init_30 : decode cX10_init 30 = .ok (.dup, 1) := by decide +kernel
theorem dX10_init_31 : decode cX10_init 31 = .ok (.invokespecial 9, 3) := by decide +kernel
theorem dX10_init_34 : decode cX10_init 34 = .ok (.putfield 19, 3) := by decide +kernel
theorem dX10_init_37 : decode cX10_init 37 = .ok (.aload_n 0, 1) := by decide +kernel
theorem dX10_init_38 : decode cX10_init 38 = .ok (.new 22, 3) := by decide +kernel
theorem dX10_init_41 : decode cX10_init 41 = .ok (.dup, 1) := by decide +kernel
theorem dX10_init_42 : decode cX10_init 42 = .ok (.invokespecial 24, 3) := by decide +kernel
theorem dX10_init_45 : decode cX10_init 45 = .ok (.putfield 25, 3) := by decide +kernel
theorem dX10_init_48 : decode cX10_init 48 = .ok (.aload_n 0, 1) := by decide +kernel
theorem dX10_init_49 : decode cX10_init 49 = .ok (.new 29, 3) := by decide +kernel
theorem dX10_init_52 : decode cX10_init 52 = .ok (.dup, 1) := by decide +kernel
theorem dX10_init_53 : decode cX10_init 53 = .ok (.invokespecial 31, 3) := by decide +kernel
theorem dX10_init_56 : decode cX10_init 56 = .ok (.putfield 32, 3) := by decide +kernel
theorem dX10_init_59 : decode cX10_init 59 = .ok (.aload_n 0, 1) := by decide +kernel
theorem dX10_init_60 : decode cX10_init 60 = .ok (.bipush 12, 2) := by decide +kernel
theorem dX10_init_62 : decode cX10_init 62 = .ok (.newarray .int, 2) := by decide +kernel
theorem dX10_init_64 : decode cX10_init 64 = .ok (.putfield 36, 3) := by decide +kernel
theorem dX10_init_67 : decode cX10_init 67 = .ok (.aload_n 0, 1) := by decide +kernel
theorem dX10_init_68 : decode cX10_init 68 = .ok (.bipush 7, 2) := by decide +kernel
theorem dX10_init_70 : decode cX10_init 70 = .ok (.newarray .int, 2) := by decide +kernel
theorem dX10_init_72 : decode cX10_init 72 = .ok (.putfield 40, 3) := by decide +kernel
theorem dX10_init_75 : decode cX10_init 75 = .ok (.aload_n 0, 1) := by decide +kernel
theorem dX10_init_76 : decode cX10_init 76 = .ok (.new 43, 3) := by decide +kernel
theorem dX10_init_79 : decode cX10_init 79 = .ok (.dup, 1) := by decide +kernel
theorem dX10_init_80 : decode cX10_init 80 = .ok (.invokespecial 45, 3) := by decide +kernel
theorem dX10_init_83 : decode cX10_init 83 = .ok (.putfield 46, 3) := by decide +kernel
theorem dX10_init_86 : decode cX10_init 86 = .ok (.aload_n 0, 1) := by decide +kernel
theorem dX10_init_87 : decode cX10_init 87 = .ok (.new 43, 3) := by decide +kernel
theorem dX10_init_90 : decode cX10_init 90 = .ok (.dup, 1) := by decide +kernel
theorem dX10_init_91 : decode cX10_init 91 = .ok (.invokespecial 45, 3) := by decide +kernel
theorem dX10_init_94 : decode cX10_init 94 = .ok (.putfield 50, 3) := by decide +kernel
theorem dX10_init_97 : decode cX10_init 97 = .ok (.aload_n 0, 1) := by decide +kernel
theorem dX10_init_98 : decode cX10_init 98 = .ok (.iconst 5, 1) := by decide +kernel
theorem dX10_init_99 : decode cX10_init 99 = .ok (.newarray .int, 2) := by decide +kernel
theorem dX10_init_101 : decode cX10_init 101 = .ok (.putfield 53, 3) := by decide +kernel
theorem dX10_init_104 : decode cX10_init 104 = .ok (.aload_n 0, 1) := by decide +kernel
theorem dX10_init_105 : decode cX10_init 105 = .ok (.iconst 5, 1) := by decide +kernel
theorem dX10_init_106 : decode cX10_init 106 = .ok (.newarray .int, 2) := by decide +kernel
theorem dX10_init_108 : decode cX10_init 108 = .ok (.putfield 56, 3) := by decide +kernel
theorem dX10_init_111 : decode cX10_init 111 = .ok (.return_, 1) := by decide +kernel
theorem dX10_feed_0 : decode cX10_feed 0 = .ok (.iload_n 1, 1) := by decide +kernel
theorem dX10_feed_1 : decode cX10_feed 1 = .ok (.iconst 0, 1) := by decide +kernel
theorem dX10_feed_2 : decode cX10_feed 2 = .ok (.sipush 255, 3) := by decide +kernel
theorem dX10_feed_5 : decode cX10_feed 5 = .ok (.invokestatic 59, 3) := by decide +kernel
theorem dX10_feed_8 : decode cX10_feed 8 = .ok (.istore_n 2, 1) := by decide +kernel
theorem dX10_feed_9 : decode cX10_feed 9 = .ok (.iload_n 2, 1) := by decide +kernel
theorem dX10_feed_10 : decode cX10_feed 10 = .ok (.ifCond .ne 16, 3) := by decide +kernel
theorem dX10_feed_13 : decode cX10_feed 13 = .ok (.aload_n 0, 1) := by decide +kernel
theorem dX10_feed_14 : decode cX10_feed 14 = .ok (.getfield 32, 3) := by decide +kernel
theorem dX10_feed_17 : decode cX10_feed 17 = .ok (.invokevirtual 63, 3) := by decide +kernel
theorem dX10_feed_20 : decode cX10_feed 20 = .ok (.ifCond .eq 6, 3) := by decide +kernel
theorem dX10_feed_23 : decode cX10_feed 23 = .ok (.bipush (-6), 2) := by decide +kernel
theorem dX10_feed_25 : decode cX10_feed 25 = .ok (.istore_n 2, 1) := by decide +kernel
theorem dX10_feed_26 : decode cX10_feed 26 = .ok (.iload_n 2, 1) := by decide +kernel
theorem dX10_feed_27 : decode cX10_feed 27 = .ok (.ifCond .eq 11, 3) := by decide +kernel
theorem dX10_feed_30 : decode cX10_feed 30 = .ok (.aload_n 0, 1) := by decide +kernel
theorem dX10_feed_31 : decode cX10_feed 31 = .ok (.iload_n 2, 1) := by decide +kernel
theorem dX10_feed_32 : decode cX10_feed 32 = .ok (.invokevirtual 67, 3) := by decide +kernel
theorem dX10_feed_35 : decode cX10_feed 35 = .ok (.goto 11, 3) := by decide +kernel
theorem dX10_feed_38 : decode cX10_feed 38 = .ok (.aload_n 0, 1) := by decide +kernel
theorem dX10_feed_39 : decode cX10_feed 39 = .ok (.getfield 32, 3) := by decide +kernel
theorem dX10_feed_42 : decode cX10_feed 42 = .ok (.iload_n 1, 1) := by decide +kernel
theorem dX10_feed_43 : decode cX10_feed 43 = .ok (.invokevirtual 71, 3) := by decide +kernel
theorem dX10_feed_46 : decode cX10_feed 46 = .ok (.ireturn, 1) := by decide +kernel
theorem dX10_treasury_0 : decode cX10_treasury 0 = .ok (.aload_n 0, 1) := by decide +kernel
theorem dX10_treasury_1 : decode cX10_treasury 1 = .ok (.getfield 16, 3) := by decide +kernel
theorem dX10_treasury_4 : decode cX10_treasury 4 = .ok (.aload_n 0, 1) := by decide +kernel
theorem dX10_treasury_5 : decode cX10_treasury 5 = .ok (.getfield 10, 3) := by decide +kernel
theorem dX10_treasury_8 : decode cX10_treasury 8 = .ok (.invokevirtual 74, 3) := by decide +kernel
theorem dX10_treasury_11 : decode cX10_treasury 11 = .ok (.aload_n 0, 1) := by decide +kernel
theorem dX10_treasury_12 : decode cX10_treasury 12 = .ok (.getfield 32, 3) := by decide +kernel
theorem dX10_treasury_15 : decode cX10_treasury 15 = .ok (.invokevirtual 78, 3) := by decide +kernel
theorem dX10_treasury_18 : decode cX10_treasury 18 = .ok (.istore_n 1, 1) := by decide +kernel
theorem dX10_treasury_19 : decode cX10_treasury 19 = .ok (.iconst 0, 1) := by decide +kernel
theorem dX10_treasury_20 : decode cX10_treasury 20 = .ok (.istore_n 2, 1) := by decide +kernel
theorem dX10_treasury_21 : decode cX10_treasury 21 = .ok (.iconst 0, 1) := by decide +kernel
theorem dX10_treasury_22 : decode cX10_treasury 22 = .ok (.istore_n 3, 1) := by decide +kernel
theorem dX10_treasury_23 : decode cX10_treasury 23 = .ok (.iload_n 3, 1) := by decide +kernel
theorem dX10_treasury_24 : decode cX10_treasury 24 = .ok (.bipush 96, 2) := by decide +kernel
theorem dX10_treasury_26 : decode cX10_treasury 26 = .ok (.if_icmp .ge 74, 3) := by decide +kernel
theorem dX10_treasury_29 : decode cX10_treasury 29 = .ok (.iload_n 1, 1) := by decide +kernel
theorem dX10_treasury_30 : decode cX10_treasury 30 = .ok (.ifCond .lt 70, 3) := by decide +kernel
theorem dX10_treasury_33 : decode cX10_treasury 33 = .ok (.iload_n 2, 1) := by decide +kernel
theorem dX10_treasury_34 : decode cX10_treasury 34 = .ok (.aload_n 0, 1) := by decide +kernel
theorem dX10_treasury_35 : decode cX10_treasury 35 = .ok (.getfield 32, 3) := by decide +kernel
theorem dX10_treasury_38 : decode cX10_treasury 38 = .ok (.getfield 82, 3) := by decide +kernel
theorem dX10_treasury_41 : decode cX10_treasury 41 = .ok (.if_icmp .ge 59, 3) := by decide +kernel
theorem dX10_treasury_44 : decode cX10_treasury 44 = .ok (.aload_n 0, 1) := by decide +kernel
theorem dX10_treasury_45 : decode cX10_treasury 45 = .ok (.getfield 32, 3) := by decide +kernel
theorem dX10_treasury_48 : decode cX10_treasury 48 = .ok (.iload_n 2, 1) := by decide +kernel
theorem dX10_treasury_49 : decode cX10_treasury 49 = .ok (.aload_n 0, 1) := by decide +kernel
theorem dX10_treasury_50 : decode cX10_treasury 50 = .ok (.getfield 16, 3) := by decide +kernel
theorem dX10_treasury_53 : decode cX10_treasury 53 = .ok (.invokevirtual 86, 3) := by decide +kernel
theorem dX10_treasury_56 : decode cX10_treasury 56 = .ok (.ifCond .lt 7, 3) := by decide +kernel
theorem dX10_treasury_59 : decode cX10_treasury 59 = .ok (.iconst 1, 1) := by decide +kernel
theorem dX10_treasury_60 : decode cX10_treasury 60 = .ok (.goto 4, 3) := by decide +kernel
theorem dX10_treasury_63 : decode cX10_treasury 63 = .ok (.iconst 0, 1) := by decide +kernel
theorem dX10_treasury_64 : decode cX10_treasury 64 = .ok (.istore 4, 2) := by decide +kernel
theorem dX10_treasury_66 : decode cX10_treasury 66 = .ok (.iload 4, 2) := by decide +kernel
theorem dX10_treasury_68 : decode cX10_treasury 68 = .ok (.ifCond .eq 9, 3) := by decide +kernel
theorem dX10_treasury_71 : decode cX10_treasury 71 = .ok (.iload_n 1, 1) := by decide +kernel
theorem dX10_treasury_72 : decode cX10_treasury 72 = .ok (.iconst 1, 1) := by decide +kernel
theorem dX10_treasury_73 : decode cX10_treasury 73 = .ok (.iadd, 1) := by decide +kernel
theorem dX10_treasury_74 : decode cX10_treasury 74 = .ok (.goto 8, 3) := by decide +kernel
theorem dX10_treasury_77 : decode cX10_treasury 77 = .ok (.sipush (-2000), 3) := by decide +kernel
theorem dX10_treasury_80 : decode cX10_treasury 80 = .ok (.iload_n 2, 1) := by decide +kernel
theorem dX10_treasury_81 : decode cX10_treasury 81 = .ok (.isub, 1) := by decide +kernel
theorem dX10_treasury_82 : decode cX10_treasury 82 = .ok (.istore_n 1, 1) := by decide +kernel
theorem dX10_treasury_83 : decode cX10_treasury 83 = .ok (.iload_n 2, 1) := by decide +kernel
theorem dX10_treasury_84 : decode cX10_treasury 84 = .ok (.aload_n 0, 1) := by decide +kernel
theorem dX10_treasury_85 : decode cX10_treasury 85 = .ok (.getfield 32, 3) := by decide +kernel
theorem dX10_treasury_88 : decode cX10_treasury 88 = .ok (.iload_n 2, 1) := by decide +kernel
theorem dX10_treasury_89 : decode cX10_treasury 89 = .ok (.invokevirtual 90, 3) := by decide +kernel
theorem dX10_treasury_92 : decode cX10_treasury 92 = .ok (.iadd, 1) := by decide +kernel
theorem dX10_treasury_93 : decode cX10_treasury 93 = .ok (.istore_n 2, 1) := by decide +kernel
theorem dX10_treasury_94 : decode cX10_treasury 94 = .ok (.iinc 3 1, 3) := by decide +kernel
theorem dX10_treasury_97 : decode cX10_treasury 97 = .ok (.goto (-74), 3) := by decide +kernel
theorem dX10_treasury_100 : decode cX10_treasury 100 = .ok (.aload_n 0, 1) := by decide +kernel
theorem dX10_treasury_101 : decode cX10_treasury 101 = .ok (.getfield 32, 3) := by decide +kernel
theorem dX10_treasury_104 : decode cX10_treasury 104 = .ok (.invokevirtual 93, 3) := by decide +kernel
theorem dX10_treasury_107 : decode cX10_treasury 107 = .ok (.iload_n 1, 1) := by decide +kernel
theorem dX10_treasury_108 : decode cX10_treasury 108 = .ok (.ifCond .le 21, 3) := by decide +kernel
theorem dX10_treasury_111 : decode cX10_treasury 111 = .ok (.aload_n 0, 1) := by decide +kernel
theorem dX10_treasury_112 : decode cX10_treasury 112 = .ok (.getfield 10, 3) := by decide +kernel
theorem dX10_treasury_115 : decode cX10_treasury 115 = .ok (.aload_n 0, 1) := by decide +kernel
theorem dX10_treasury_116 : decode cX10_treasury 116 = .ok (.getfield 16, 3) := by decide +kernel
theorem dX10_treasury_119 : decode cX10_treasury 119 = .ok (.invokevirtual 74, 3) := by decide +kernel
theorem dX10_treasury_122 : decode cX10_treasury 122 = .ok (.aload_n 0, 1) := by decide +kernel
theorem dX10_treasury_123 : decode cX10_treasury 123 = .ok (.getfield 25, 3) := by decide +kernel
theorem dX10_treasury_126 : decode cX10_treasury 126 = .ok (.invokevirtual 96, 3) := by decide +kernel
theorem dX10_treasury_129 : decode cX10_treasury 129 = .ok (.iload_n 1, 1) := by decide +kernel
theorem dX10_treasury_130 : decode cX10_treasury 130 = .ok (.ireturn, 1) := by decide +kernel
theorem dX10_familyOf_0 : decode cX10_familyOf 0 = .ok (.aload_n 0, 1) := by decide +kernel
theorem dX10_familyOf_1 : decode cX10_familyOf 1 = .ok (.getfield 10, 3) := by decide +kernel
theorem dX10_familyOf_4 : decode cX10_familyOf 4 = .ok (.iload_n 1, 1) := by decide +kernel
theorem dX10_familyOf_5 : decode cX10_familyOf 5 = .ok (.invokevirtual 99, 3) := by decide +kernel
theorem dX10_familyOf_8 : decode cX10_familyOf 8 = .ok (.istore_n 3, 1) := by decide +kernel
theorem dX10_familyOf_9 : decode cX10_familyOf 9 = .ok (.iload_n 3, 1) := by decide +kernel
theorem dX10_familyOf_10 : decode cX10_familyOf 10 = .ok (.ifCond .ne 9, 3) := by decide +kernel
theorem dX10_familyOf_13 : decode cX10_familyOf 13 = .ok (.iload_n 2, 1) := by decide +kernel
theorem dX10_familyOf_14 : decode cX10_familyOf 14 = .ok (.iconst 4, 1) := by decide +kernel
theorem dX10_familyOf_15 : decode cX10_familyOf 15 = .ok (.invokestatic 102, 3) := by decide +kernel
theorem dX10_familyOf_18 : decode cX10_familyOf 18 = .ok (.istore_n 3, 1) := by decide +kernel
theorem dX10_familyOf_19 : decode cX10_familyOf 19 = .ok (.iload_n 3, 1) := by decide +kernel
theorem dX10_familyOf_20 : decode cX10_familyOf 20 = .ok (.ifCond .eq 9, 3) := by decide +kernel
theorem dX10_familyOf_23 : decode cX10_familyOf 23 = .ok (.aload_n 0, 1) := by decide +kernel
theorem dX10_familyOf_24 : decode cX10_familyOf 24 = .ok (.iload_n 3, 1) := by decide +kernel
theorem dX10_familyOf_25 : decode cX10_familyOf 25 = .ok (.invokevirtual 67, 3) := by decide +kernel
theorem dX10_familyOf_28 : decode cX10_familyOf 28 = .ok (.ireturn, 1) := by decide +kernel
theorem dX10_familyOf_29 : decode cX10_familyOf 29 = .ok (.aload_n 0, 1) := by decide +kernel
theorem dX10_familyOf_30 : decode cX10_familyOf 30 = .ok (.getfield 10, 3) := by decide +kernel
theorem dX10_familyOf_33 : decode cX10_familyOf 33 = .ok (.iload_n 1, 1) := by decide +kernel
theorem dX10_familyOf_34 : decode cX10_familyOf 34 = .ok (.invokevirtual 106, 3) := by decide +kernel
theorem dX10_familyOf_37 : decode cX10_familyOf 37 = .ok (.astore 4, 2) := by decide +kernel
theorem dX10_familyOf_39 : decode cX10_familyOf 39 = .ok (.iload_n 2, 1) := by decide +kernel
theorem dX10_familyOf_40 : decode cX10_familyOf 40 = .ok (.tableswitch 56 0 3 #[32, 38, 44, 50], 32) := by decide +kernel
theorem dX10_familyOf_72 : decode cX10_familyOf 72 = .ok (.aload 4, 2) := by decide +kernel
theorem dX10_familyOf_74 : decode cX10_familyOf 74 = .ok (.getfield 110, 3) := by decide +kernel
theorem dX10_familyOf_77 : decode cX10_familyOf 77 = .ok (.ireturn, 1) := by decide +kernel
theorem dX10_familyOf_78 : decode cX10_familyOf 78 = .ok (.aload 4, 2) := by decide +kernel
theorem dX10_familyOf_80 : decode cX10_familyOf 80 = .ok (.getfield 113, 3) := by decide +kernel
theorem dX10_familyOf_83 : decode cX10_familyOf 83 = .ok (.ireturn, 1) := by decide +kernel
theorem dX10_familyOf_84 : decode cX10_familyOf 84 = .ok (.aload 4, 2) := by decide +kernel
theorem dX10_familyOf_86 : decode cX10_familyOf 86 = .ok (.getfield 116, 3) := by decide +kernel
theorem dX10_familyOf_89 : decode cX10_familyOf 89 = .ok (.ireturn, 1) := by decide +kernel
theorem dX10_familyOf_90 : decode cX10_familyOf 90 = .ok (.aload 4, 2) := by decide +kernel
theorem dX10_familyOf_92 : decode cX10_familyOf 92 = .ok (.getfield 119, 3) := by decide +kernel
theorem dX10_familyOf_95 : decode cX10_familyOf 95 = .ok (.ireturn, 1) := by decide +kernel
theorem dX10_familyOf_96 : decode cX10_familyOf 96 = .ok (.aload 4, 2) := by decide +kernel
theorem dX10_familyOf_98 : decode cX10_familyOf 98 = .ok (.invokevirtual 122, 3) := by decide +kernel
theorem dX10_familyOf_101 : decode cX10_familyOf 101 = .ok (.ireturn, 1) := by decide +kernel
theorem dX10_workOf_0 : decode cX10_workOf 0 = .ok (.aload_n 0, 1) := by decide +kernel
theorem dX10_workOf_1 : decode cX10_workOf 1 = .ok (.getfield 10, 3) := by decide +kernel
theorem dX10_workOf_4 : decode cX10_workOf 4 = .ok (.iload_n 1, 1) := by decide +kernel
theorem dX10_workOf_5 : decode cX10_workOf 5 = .ok (.invokevirtual 125, 3) := by decide +kernel
theorem dX10_workOf_8 : decode cX10_workOf 8 = .ok (.astore_n 3, 1) := by decide +kernel
theorem dX10_workOf_9 : decode cX10_workOf 9 = .ok (.aload_n 3, 1) := by decide +kernel
theorem dX10_workOf_10 : decode cX10_workOf 10 = .ok (.ifnonnull 9, 3) := by decide +kernel
theorem dX10_workOf_13 : decode cX10_workOf 13 = .ok (.aload_n 0, 1) := by decide +kernel
theorem dX10_workOf_14 : decode cX10_workOf 14 = .ok (.iconst (-1), 1) := by decide +kernel
theorem dX10_workOf_15 : decode cX10_workOf 15 = .ok (.invokevirtual 67, 3) := by decide +kernel
theorem dX10_workOf_18 : decode cX10_workOf 18 = .ok (.ireturn, 1) := by decide +kernel
theorem dX10_workOf_19 : decode cX10_workOf 19 = .ok (.iload_n 2, 1) := by decide +kernel
theorem dX10_workOf_20 : decode cX10_workOf 20 = .ok (.iconst 4, 1) := by decide +kernel
theorem dX10_workOf_21 : decode cX10_workOf 21 = .ok (.invokestatic 102, 3) := by decide +kernel
theorem dX10_workOf_24 : decode cX10_workOf 24 = .ok (.ifCond .eq 10, 3) := by decide +kernel
theorem dX10_workOf_27 : decode cX10_workOf 27 = .ok (.aload_n 0, 1) := by decide +kernel
theorem dX10_workOf_28 : decode cX10_workOf 28 = .ok (.bipush (-2), 2) := by decide +kernel
theorem dX10_workOf_30 : decode cX10_workOf 30 = .ok (.invokevirtual 67, 3) := by decide +kernel
theorem dX10_workOf_33 : decode cX10_workOf 33 = .ok (.ireturn, 1) := by decide +kernel
theorem dX10_workOf_34 : decode cX10_workOf 34 = .ok (.iload_n 2, 1) := by decide +kernel
theorem dX10_workOf_35 : decode cX10_workOf 35 = .ok (.tableswitch 49 0 3 #[29, 34, 39, 44], 29) := by decide +kernel
theorem dX10_workOf_64 : decode cX10_workOf 64 = .ok (.aload_n 3, 1) := by decide +kernel
theorem dX10_workOf_65 : decode cX10_workOf 65 = .ok (.invokevirtual 129, 3) := by decide +kernel
theorem dX10_workOf_68 : decode cX10_workOf 68 = .ok (.ireturn, 1) := by decide +kernel
theorem dX10_workOf_69 : decode cX10_workOf 69 = .ok (.aload_n 3, 1) := by decide +kernel
theorem dX10_workOf_70 : decode cX10_workOf 70 = .ok (.getfield 134, 3) := by decide +kernel
theorem dX10_workOf_73 : decode cX10_workOf 73 = .ok (.ireturn, 1) := by decide +kernel
theorem dX10_workOf_74 : decode cX10_workOf 74 = .ok (.aload_n 3, 1) := by decide +kernel
theorem dX10_workOf_75 : decode cX10_workOf 75 = .ok (.getfield 137, 3) := by decide +kernel
theorem dX10_workOf_78 : decode cX10_workOf 78 = .ok (.ireturn, 1) := by decide +kernel
theorem dX10_workOf_79 : decode cX10_workOf 79 = .ok (.aload_n 3, 1) := by decide +kernel
theorem dX10_workOf_80 : decode cX10_workOf 80 = .ok (.invokevirtual 140, 3) := by decide +kernel
theorem dX10_workOf_83 : decode cX10_workOf 83 = .ok (.ireturn, 1) := by decide +kernel
theorem dX10_workOf_84 : decode cX10_workOf 84 = .ok (.aload_n 0, 1) := by decide +kernel
theorem dX10_workOf_85 : decode cX10_workOf 85 = .ok (.getfield 10, 3) := by decide +kernel
theorem dX10_workOf_88 : decode cX10_workOf 88 = .ok (.iload_n 1, 1) := by decide +kernel
theorem dX10_workOf_89 : decode cX10_workOf 89 = .ok (.invokevirtual 143, 3) := by decide +kernel
theorem dX10_workOf_92 : decode cX10_workOf 92 = .ok (.ifCond .eq 7, 3) := by decide +kernel
theorem dX10_workOf_95 : decode cX10_workOf 95 = .ok (.iconst 1, 1) := by decide +kernel
theorem dX10_workOf_96 : decode cX10_workOf 96 = .ok (.goto 4, 3) := by decide +kernel
theorem dX10_workOf_99 : decode cX10_workOf 99 = .ok (.iconst 0, 1) := by decide +kernel
theorem dX10_workOf_100 : decode cX10_workOf 100 = .ok (.ireturn, 1) := by decide +kernel
theorem dX10_family_0 : decode cX10_family 0 = .ok (.aload_n 0, 1) := by decide +kernel
theorem dX10_family_1 : decode cX10_family 1 = .ok (.aload_n 0, 1) := by decide +kernel
theorem dX10_family_2 : decode cX10_family 2 = .ok (.getfield 10, 3) := by decide +kernel
theorem dX10_family_5 : decode cX10_family 5 = .ok (.iload_n 1, 1) := by decide +kernel
theorem dX10_family_6 : decode cX10_family 6 = .ok (.iload_n 2, 1) := by decide +kernel
theorem dX10_family_7 : decode cX10_family 7 = .ok (.iload_n 3, 1) := by decide +kernel
theorem dX10_family_8 : decode cX10_family 8 = .ok (.invokevirtual 147, 3) := by decide +kernel
theorem dX10_family_11 : decode cX10_family 11 = .ok (.invokevirtual 150, 3) := by decide +kernel
theorem dX10_family_14 : decode cX10_family 14 = .ok (.ireturn, 1) := by decide +kernel
theorem dX10_work_0 : decode cX10_work 0 = .ok (.aload_n 0, 1) := by decide +kernel
theorem dX10_work_1 : decode cX10_work 1 = .ok (.aload_n 0, 1) := by decide +kernel
theorem dX10_work_2 : decode cX10_work 2 = .ok (.getfield 10, 3) := by decide +kernel
theorem dX10_work_5 : decode cX10_work 5 = .ok (.iload_n 1, 1) := by decide +kernel
theorem dX10_work_6 : decode cX10_work 6 = .ok (.iload_n 2, 1) := by decide +kernel
theorem dX10_work_7 : decode cX10_work 7 = .ok (.iload_n 3, 1) := by decide +kernel
theorem dX10_work_8 : decode cX10_work 8 = .ok (.invokevirtual 153, 3) := by decide +kernel
theorem dX10_work_11 : decode cX10_work 11 = .ok (.invokevirtual 150, 3) := by decide +kernel
theorem dX10_work_14 : decode cX10_work 14 = .ok (.ireturn, 1) := by decide +kernel
theorem dX10_builds_0 : decode cX10_builds 0 = .ok (.aload_n 0, 1) := by decide +kernel
theorem dX10_builds_1 : decode cX10_builds 1 = .ok (.getfield 16, 3) := by decide +kernel
theorem dX10_builds_4 : decode cX10_builds 4 = .ok (.aload_n 0, 1) := by decide +kernel
theorem dX10_builds_5 : decode cX10_builds 5 = .ok (.getfield 10, 3) := by decide +kernel
theorem dX10_builds_8 : decode cX10_builds 8 = .ok (.invokevirtual 74, 3) := by decide +kernel
theorem dX10_builds_11 : decode cX10_builds 11 = .ok (.aload_n 0, 1) := by decide +kernel
theorem dX10_builds_12 : decode cX10_builds 12 = .ok (.aload_n 0, 1) := by decide +kernel
theorem dX10_builds_13 : decode cX10_builds 13 = .ok (.getfield 10, 3) := by decide +kernel
theorem dX10_builds_16 : decode cX10_builds 16 = .ok (.iload_n 1, 1) := by decide +kernel
theorem dX10_builds_17 : decode cX10_builds 17 = .ok (.invokevirtual 156, 3) := by decide +kernel
theorem dX10_builds_20 : decode cX10_builds 20 = .ok (.invokevirtual 159, 3) := by decide +kernel
theorem dX10_builds_23 : decode cX10_builds 23 = .ok (.ireturn, 1) := by decide +kernel
theorem dX10_years_0 : decode cX10_years 0 = .ok (.aload_n 0, 1) := by decide +kernel
theorem dX10_years_1 : decode cX10_years 1 = .ok (.getfield 16, 3) := by decide +kernel
theorem dX10_years_4 : decode cX10_years 4 = .ok (.aload_n 0, 1) := by decide +kernel
theorem dX10_years_5 : decode cX10_years 5 = .ok (.getfield 10, 3) := by decide +kernel
theorem dX10_years_8 : decode cX10_years 8 = .ok (.invokevirtual 74, 3) := by decide +kernel
theorem dX10_years_11 : decode cX10_years 11 = .ok (.aload_n 0, 1) := by decide +kernel
theorem dX10_years_12 : decode cX10_years 12 = .ok (.aload_n 0, 1) := by decide +kernel
theorem dX10_years_13 : decode cX10_years 13 = .ok (.getfield 10, 3) := by decide +kernel
theorem dX10_years_16 : decode cX10_years 16 = .ok (.iload_n 1, 1) := by decide +kernel
theorem dX10_years_17 : decode cX10_years 17 = .ok (.invokevirtual 162, 3) := by decide +kernel
theorem dX10_years_20 : decode cX10_years 20 = .ok (.invokevirtual 159, 3) := by decide +kernel
theorem dX10_years_23 : decode cX10_years 23 = .ok (.ireturn, 1) := by decide +kernel
theorem dX10_debt_0 : decode cX10_debt 0 = .ok (.aload_n 0, 1) := by decide +kernel
theorem dX10_debt_1 : decode cX10_debt 1 = .ok (.getfield 16, 3) := by decide +kernel
theorem dX10_debt_4 : decode cX10_debt 4 = .ok (.aload_n 0, 1) := by decide +kernel
theorem dX10_debt_5 : decode cX10_debt 5 = .ok (.getfield 10, 3) := by decide +kernel
theorem dX10_debt_8 : decode cX10_debt 8 = .ok (.invokevirtual 74, 3) := by decide +kernel
theorem dX10_debt_11 : decode cX10_debt 11 = .ok (.aload_n 0, 1) := by decide +kernel
theorem dX10_debt_12 : decode cX10_debt 12 = .ok (.aload_n 0, 1) := by decide +kernel
theorem dX10_debt_13 : decode cX10_debt 13 = .ok (.getfield 10, 3) := by decide +kernel
theorem dX10_debt_16 : decode cX10_debt 16 = .ok (.iload_n 1, 1) := by decide +kernel
theorem dX10_debt_17 : decode cX10_debt 17 = .ok (.iload_n 2, 1) := by decide +kernel
theorem dX10_debt_18 : decode cX10_debt 18 = .ok (.invokevirtual 165, 3) := by decide +kernel
theorem dX10_debt_21 : decode cX10_debt 21 = .ok (.invokevirtual 159, 3) := by decide +kernel
theorem dX10_debt_24 : decode cX10_debt 24 = .ok (.ireturn, 1) := by decide +kernel
theorem dX10_rate_0 : decode cX10_rate 0 = .ok (.aload_n 0, 1) := by decide +kernel
theorem dX10_rate_1 : decode cX10_rate 1 = .ok (.getfield 16, 3) := by decide +kernel
theorem dX10_rate_4 : decode cX10_rate 4 = .ok (.aload_n 0, 1) := by decide +kernel
theorem dX10_rate_5 : decode cX10_rate 5 = .ok (.getfield 10, 3) := by decide +kernel
theorem dX10_rate_8 : decode cX10_rate 8 = .ok (.invokevirtual 74, 3) := by decide +kernel
theorem dX10_rate_11 : decode cX10_rate 11 = .ok (.aload_n 0, 1) := by decide +kernel
theorem dX10_rate_12 : decode cX10_rate 12 = .ok (.aload_n 0, 1) := by decide +kernel
theorem dX10_rate_13 : decode cX10_rate 13 = .ok (.getfield 10, 3) := by decide +kernel
theorem dX10_rate_16 : decode cX10_rate 16 = .ok (.iload_n 1, 1) := by decide +kernel
theorem dX10_rate_17 : decode cX10_rate 17 = .ok (.invokevirtual 168, 3) := by decide +kernel
theorem dX10_rate_20 : decode cX10_rate 20 = .ok (.invokevirtual 159, 3) := by decide +kernel
theorem dX10_rate_23 : decode cX10_rate 23 = .ok (.ireturn, 1) := by decide +kernel
theorem dX10_behind_0 : decode cX10_behind 0 = .ok (.aload_n 0, 1) := by decide +kernel
theorem dX10_behind_1 : decode cX10_behind 1 = .ok (.iload_n 1, 1) := by decide +kernel
theorem dX10_behind_2 : decode cX10_behind 2 = .ok (.iload_n 2, 1) := by decide +kernel
theorem dX10_behind_3 : decode cX10_behind 3 = .ok (.invokevirtual 171, 3) := by decide +kernel
theorem dX10_behind_6 : decode cX10_behind 6 = .ok (.istore 4, 2) := by decide +kernel
theorem dX10_behind_8 : decode cX10_behind 8 = .ok (.iload 4, 2) := by decide +kernel
theorem dX10_behind_10 : decode cX10_behind 10 = .ok (.ifCond .ne 10, 3) := by decide +kernel
theorem dX10_behind_13 : decode cX10_behind 13 = .ok (.iload_n 3, 1) := by decide +kernel
theorem dX10_behind_14 : decode cX10_behind 14 = .ok (.iconst 2, 1) := by decide +kernel
theorem dX10_behind_15 : decode cX10_behind 15 = .ok (.invokestatic 102, 3) := by decide +kernel
theorem dX10_behind_18 : decode cX10_behind 18 = .ok (.istore 4, 2) := by decide +kernel
theorem dX10_behind_20 : decode cX10_behind 20 = .ok (.iload 4, 2) := by decide +kernel
theorem dX10_behind_22 : decode cX10_behind 22 = .ok (.ifCond .eq 10, 3) := by decide +kernel
theorem dX10_behind_25 : decode cX10_behind 25 = .ok (.aload_n 0, 1) := by decide +kernel
theorem dX10_behind_26 : decode cX10_behind 26 = .ok (.iload 4, 2) := by decide +kernel
theorem dX10_behind_28 : decode cX10_behind 28 = .ok (.invokevirtual 67, 3) := by decide +kernel
theorem dX10_behind_31 : decode cX10_behind 31 = .ok (.ireturn, 1) := by decide +kernel
theorem dX10_behind_32 : decode cX10_behind 32 = .ok (.aload_n 0, 1) := by decide +kernel
theorem dX10_behind_33 : decode cX10_behind 33 = .ok (.iload_n 1, 1) := by decide +kernel
theorem dX10_behind_34 : decode cX10_behind 34 = .ok (.iload_n 2, 1) := by decide +kernel
theorem dX10_behind_35 : decode cX10_behind 35 = .ok (.invokevirtual 174, 3) := by decide +kernel
theorem dX10_behind_38 : decode cX10_behind 38 = .ok (.iload_n 3, 1) := by decide +kernel
theorem dX10_behind_39 : decode cX10_behind 39 = .ok (.lookupswitch 41 #[(0, 25), (1, 33)], 25) := by decide +kernel
theorem dX10_behind_64 : decode cX10_behind 64 = .ok (.aload_n 0, 1) := by decide +kernel
theorem dX10_behind_65 : decode cX10_behind 65 = .ok (.getfield 46, 3) := by decide +kernel
theorem dX10_behind_68 : decode cX10_behind 68 = .ok (.getfield 113, 3) := by decide +kernel
theorem dX10_behind_71 : decode cX10_behind 71 = .ok (.ireturn, 1) := by decide +kernel
theorem dX10_behind_72 : decode cX10_behind 72 = .ok (.aload_n 0, 1) := by decide +kernel
theorem dX10_behind_73 : decode cX10_behind 73 = .ok (.getfield 46, 3) := by decide +kernel
theorem dX10_behind_76 : decode cX10_behind 76 = .ok (.getfield 110, 3) := by decide +kernel
theorem dX10_behind_79 : decode cX10_behind 79 = .ok (.ireturn, 1) := by decide +kernel
theorem dX10_behind_80 : decode cX10_behind 80 = .ok (.aload_n 0, 1) := by decide +kernel
theorem dX10_behind_81 : decode cX10_behind 81 = .ok (.getfield 46, 3) := by decide +kernel
theorem dX10_behind_84 : decode cX10_behind 84 = .ok (.invokevirtual 122, 3) := by decide +kernel
theorem dX10_behind_87 : decode cX10_behind 87 = .ok (.ireturn, 1) := by decide +kernel
theorem dX10_all_0 : decode cX10_all 0 = .ok (.iload_n 1, 1) := by decide +kernel
theorem dX10_all_1 : decode cX10_all 1 = .ok (.invokestatic 178, 3) := by decide +kernel
theorem dX10_all_4 : decode cX10_all 4 = .ok (.istore_n 2, 1) := by decide +kernel
theorem dX10_all_5 : decode cX10_all 5 = .ok (.iload_n 2, 1) := by decide +kernel
theorem dX10_all_6 : decode cX10_all 6 = .ok (.ifCond .eq 9, 3) := by decide +kernel
theorem dX10_all_9 : decode cX10_all 9 = .ok (.aload_n 0, 1) := by decide +kernel
theorem dX10_all_10 : decode cX10_all 10 = .ok (.iload_n 2, 1) := by decide +kernel
theorem dX10_all_11 : decode cX10_all 11 = .ok (.invokevirtual 67, 3) := by decide +kernel
theorem dX10_all_14 : decode cX10_all 14 = .ok (.ireturn, 1) := by decide +kernel
theorem dX10_all_15 : decode cX10_all 15 = .ok (.aload_n 0, 1) := by decide +kernel
theorem dX10_all_16 : decode cX10_all 16 = .ok (.getfield 16, 3) := by decide +kernel
theorem dX10_all_19 : decode cX10_all 19 = .ok (.aload_n 0, 1) := by decide +kernel
theorem dX10_all_20 : decode cX10_all 20 = .ok (.getfield 10, 3) := by decide +kernel
theorem dX10_all_23 : decode cX10_all 23 = .ok (.invokevirtual 74, 3) := by decide +kernel
theorem dX10_all_26 : decode cX10_all 26 = .ok (.aload_n 0, 1) := by decide +kernel
theorem dX10_all_27 : decode cX10_all 27 = .ok (.getfield 16, 3) := by decide +kernel
theorem dX10_all_30 : decode cX10_all 30 = .ok (.iload_n 1, 1) := by decide +kernel
theorem dX10_all_31 : decode cX10_all 31 = .ok (.invokevirtual 181, 3) := by decide +kernel
theorem dX10_all_34 : decode cX10_all 34 = .ok (.ireturn, 1) := by decide +kernel
theorem dX10_solvent_0 : decode cX10_solvent 0 = .ok (.aload_n 0, 1) := by decide +kernel
theorem dX10_solvent_1 : decode cX10_solvent 1 = .ok (.getfield 10, 3) := by decide +kernel
theorem dX10_solvent_4 : decode cX10_solvent 4 = .ok (.iload_n 1, 1) := by decide +kernel
theorem dX10_solvent_5 : decode cX10_solvent 5 = .ok (.invokevirtual 99, 3) := by decide +kernel
theorem dX10_solvent_8 : decode cX10_solvent 8 = .ok (.istore_n 2, 1) := by decide +kernel
theorem dX10_solvent_9 : decode cX10_solvent 9 = .ok (.iload_n 2, 1) := by decide +kernel
theorem dX10_solvent_10 : decode cX10_solvent 10 = .ok (.ifCond .eq 11, 3) := by decide +kernel
theorem dX10_solvent_13 : decode cX10_solvent 13 = .ok (.aload_n 0, 1) := by decide +kernel
theorem dX10_solvent_14 : decode cX10_solvent 14 = .ok (.iload_n 2, 1) := by decide +kernel
theorem dX10_solvent_15 : decode cX10_solvent 15 = .ok (.invokevirtual 67, 3) := by decide +kernel
theorem dX10_solvent_18 : decode cX10_solvent 18 = .ok (.goto 9, 3) := by decide +kernel
theorem dX10_solvent_21 : decode cX10_solvent 21 = .ok (.aload_n 0, 1) := by decide +kernel
theorem dX10_solvent_22 : decode cX10_solvent 22 = .ok (.iload_n 1, 1) := by decide +kernel
theorem dX10_solvent_23 : decode cX10_solvent 23 = .ok (.iconst 0, 1) := by decide +kernel
theorem dX10_solvent_24 : decode cX10_solvent 24 = .ok (.invokevirtual 184, 3) := by decide +kernel
theorem dX10_solvent_27 : decode cX10_solvent 27 = .ok (.ireturn, 1) := by decide +kernel
theorem dX10_first_0 : decode cX10_first 0 = .ok (.iload_n 1, 1) := by decide +kernel
theorem dX10_first_1 : decode cX10_first 1 = .ok (.tableswitch 42 0 2 #[27, 32, 37], 27) := by decide +kernel
theorem dX10_first_28 : decode cX10_first 28 = .ok (.aload_n 0, 1) := by decide +kernel
theorem dX10_first_29 : decode cX10_first 29 = .ok (.invokevirtual 187, 3) := by decide +kernel
theorem dX10_first_32 : decode cX10_first 32 = .ok (.ireturn, 1) := by decide +kernel
theorem dX10_first_33 : decode cX10_first 33 = .ok (.aload_n 0, 1) := by decide +kernel
theorem dX10_first_34 : decode cX10_first 34 = .ok (.invokevirtual 190, 3) := by decide +kernel
theorem dX10_first_37 : decode cX10_first 37 = .ok (.ireturn, 1) := by decide +kernel
theorem dX10_first_38 : decode cX10_first 38 = .ok (.aload_n 0, 1) := by decide +kernel
theorem dX10_first_39 : decode cX10_first 39 = .ok (.invokevirtual 193, 3) := by decide +kernel
theorem dX10_first_42 : decode cX10_first 42 = .ok (.ireturn, 1) := by decide +kernel
theorem dX10_first_43 : decode cX10_first 43 = .ok (.aload_n 0, 1) := by decide +kernel
theorem dX10_first_44 : decode cX10_first 44 = .ok (.bipush (-2), 2) := by decide +kernel
theorem dX10_first_46 : decode cX10_first 46 = .ok (.invokevirtual 67, 3) := by decide +kernel
theorem dX10_first_49 : decode cX10_first 49 = .ok (.ireturn, 1) := by decide +kernel
theorem dX10_highest_0 : decode cX10_highest 0 = .ok (.aload_n 0, 1) := by decide +kernel
theorem dX10_highest_1 : decode cX10_highest 1 = .ok (.iload_n 1, 1) := by decide +kernel
theorem dX10_highest_2 : decode cX10_highest 2 = .ok (.iload_n 2, 1) := by decide +kernel
theorem dX10_highest_3 : decode cX10_highest 3 = .ok (.invokevirtual 171, 3) := by decide +kernel
theorem dX10_highest_6 : decode cX10_highest 6 = .ok (.istore 4, 2) := by decide +kernel
theorem dX10_highest_8 : decode cX10_highest 8 = .ok (.iload 4, 2) := by decide +kernel
theorem dX10_highest_10 : decode cX10_highest 10 = .ok (.ifCond .ne 10, 3) := by decide +kernel
theorem dX10_highest_13 : decode cX10_highest 13 = .ok (.iload_n 3, 1) := by decide +kernel
theorem dX10_highest_14 : decode cX10_highest 14 = .ok (.iconst 1, 1) := by decide +kernel
theorem dX10_highest_15 : decode cX10_highest 15 = .ok (.invokestatic 102, 3) := by decide +kernel
theorem dX10_highest_18 : decode cX10_highest 18 = .ok (.istore 4, 2) := by decide +kernel
theorem dX10_highest_20 : decode cX10_highest 20 = .ok (.iload 4, 2) := by decide +kernel
theorem dX10_highest_22 : decode cX10_highest 22 = .ok (.ifCond .eq 10, 3) := by decide +kernel
theorem dX10_highest_25 : decode cX10_highest 25 = .ok (.aload_n 0, 1) := by decide +kernel
theorem dX10_highest_26 : decode cX10_highest 26 = .ok (.iload 4, 2) := by decide +kernel
theorem dX10_highest_28 : decode cX10_highest 28 = .ok (.invokevirtual 67, 3) := by decide +kernel
theorem dX10_highest_31 : decode cX10_highest 31 = .ok (.ireturn, 1) := by decide +kernel
theorem dX10_highest_32 : decode cX10_highest 32 = .ok (.iload_n 3, 1) := by decide +kernel
theorem dX10_highest_33 : decode cX10_highest 33 = .ok (.ifCond .ne 12, 3) := by decide +kernel
theorem dX10_highest_36 : decode cX10_highest 36 = .ok (.aload_n 0, 1) := by decide +kernel
theorem dX10_highest_37 : decode cX10_highest 37 = .ok (.iload_n 1, 1) := by decide +kernel
theorem dX10_highest_38 : decode cX10_highest 38 = .ok (.iload_n 2, 1) := by decide +kernel
theorem dX10_highest_39 : decode cX10_highest 39 = .ok (.invokevirtual 196, 3) := by decide +kernel
theorem dX10_highest_42 : decode cX10_highest 42 = .ok (.goto 9, 3) := by decide +kernel
theorem dX10_highest_45 : decode cX10_highest 45 = .ok (.aload_n 0, 1) := by decide +kernel
theorem dX10_highest_46 : decode cX10_highest 46 = .ok (.iload_n 1, 1) := by decide +kernel
theorem dX10_highest_47 : decode cX10_highest 47 = .ok (.iload_n 2, 1) := by decide +kernel
theorem dX10_highest_48 : decode cX10_highest 48 = .ok (.invokevirtual 199, 3) := by decide +kernel
theorem dX10_highest_51 : decode cX10_highest 51 = .ok (.ireturn, 1) := by decide +kernel
theorem dX10_building_0 : decode cX10_building 0 = .ok (.iload_n 1, 1) := by decide +kernel
theorem dX10_building_1 : decode cX10_building 1 = .ok (.bipush 100, 2) := by decide +kernel
theorem dX10_building_3 : decode cX10_building 3 = .ok (.iload_n 2, 1) := by decide +kernel
theorem dX10_building_4 : decode cX10_building 4 = .ok (.sipush 999, 3) := by decide +kernel
theorem dX10_building_7 : decode cX10_building 7 = .ok (.invokestatic 202, 3) := by decide +kernel
theorem dX10_building_10 : decode cX10_building 10 = .ok (.istore 4, 2) := by decide +kernel
theorem dX10_building_12 : decode cX10_building 12 = .ok (.iload 4, 2) := by decide +kernel
theorem dX10_building_14 : decode cX10_building 14 = .ok (.ifCond .ne 10, 3) := by decide +kernel
theorem dX10_building_17 : decode cX10_building 17 = .ok (.iload_n 3, 1) := by decide +kernel
theorem dX10_building_18 : decode cX10_building 18 = .ok (.iconst 1, 1) := by decide +kernel
theorem dX10_building_19 : decode cX10_building 19 = .ok (.invokestatic 102, 3) := by decide +kernel
theorem dX10_building_22 : decode cX10_building 22 = .ok (.istore 4, 2) := by decide +kernel
theorem dX10_building_24 : decode cX10_building 24 = .ok (.iload 4, 2) := by decide +kernel
theorem dX10_building_26 : decode cX10_building 26 = .ok (.ifCond .eq 10, 3) := by decide +kernel
theorem dX10_building_29 : decode cX10_building 29 = .ok (.aload_n 0, 1) := by decide +kernel
theorem dX10_building_30 : decode cX10_building 30 = .ok (.iload 4, 2) := by decide +kernel
theorem dX10_building_32 : decode cX10_building 32 = .ok (.invokevirtual 67, 3) := by decide +kernel
theorem dX10_building_35 : decode cX10_building 35 = .ok (.ireturn, 1) := by decide +kernel
theorem dX10_building_36 : decode cX10_building 36 = .ok (.bipush (-9), 2) := by decide +kernel
theorem dX10_building_38 : decode cX10_building 38 = .ok (.istore 5, 2) := by decide +kernel
theorem dX10_building_40 : decode cX10_building 40 = .ok (.bipush (-9), 2) := by decide +kernel
theorem dX10_building_42 : decode cX10_building 42 = .ok (.istore 6, 2) := by decide +kernel
theorem dX10_building_44 : decode cX10_building 44 = .ok (.iconst 0, 1) := by decide +kernel
theorem dX10_building_45 : decode cX10_building 45 = .ok (.istore 7, 2) := by decide +kernel
theorem dX10_building_47 : decode cX10_building 47 = .ok (.iload 7, 2) := by decide +kernel
theorem dX10_building_49 : decode cX10_building 49 = .ok (.aload_n 0, 1) := by decide +kernel
theorem dX10_building_50 : decode cX10_building 50 = .ok (.getfield 10, 3) := by decide +kernel
theorem dX10_building_53 : decode cX10_building 53 = .ok (.invokevirtual 206, 3) := by decide +kernel
theorem dX10_building_56 : decode cX10_building 56 = .ok (.if_icmp .ge 59, 3) := by decide +kernel
theorem dX10_building_59 : decode cX10_building 59 = .ok (.aload_n 0, 1) := by decide +kernel
theorem dX10_building_60 : decode cX10_building 60 = .ok (.getfield 10, 3) := by decide +kernel
theorem dX10_building_63 : decode cX10_building 63 = .ok (.iload 7, 2) := by decide +kernel
theorem dX10_building_65 : decode cX10_building 65 = .ok (.invokevirtual 209, 3) := by decide +kernel
theorem dX10_building_68 : decode cX10_building 68 = .ok (.istore 8, 2) := by decide +kernel
theorem dX10_building_70 : decode cX10_building 70 = .ok (.iload 7, 2) := by decide +kernel
theorem dX10_building_72 : decode cX10_building 72 = .ok (.aload_n 0, 1) := by decide +kernel
theorem dX10_building_73 : decode cX10_building 73 = .ok (.getfield 10, 3) := by decide +kernel
theorem dX10_building_76 : decode cX10_building 76 = .ok (.getfield 212, 3) := by decide +kernel
theorem dX10_building_79 : decode cX10_building 79 = .ok (.iand, 1) := by decide +kernel
theorem dX10_building_80 : decode cX10_building 80 = .ok (.ifCond .ne 29, 3) := by decide +kernel
theorem dX10_building_83 : decode cX10_building 83 = .ok (.iload 8, 2) := by decide +kernel
theorem dX10_building_85 : decode cX10_building 85 = .ok (.iload 6, 2) := by decide +kernel
theorem dX10_building_87 : decode cX10_building 87 = .ok (.if_icmp .le 22, 3) := by decide +kernel
theorem dX10_building_90 : decode cX10_building 90 = .ok (.aload_n 0, 1) := by decide +kernel
theorem dX10_building_91 : decode cX10_building 91 = .ok (.iload 7, 2) := by decide +kernel
theorem dX10_building_93 : decode cX10_building 93 = .ok (.iload_n 1, 1) := by decide +kernel
theorem dX10_building_94 : decode cX10_building 94 = .ok (.iload_n 2, 1) := by decide +kernel
theorem dX10_building_95 : decode cX10_building 95 = .ok (.invokevirtual 215, 3) := by decide +kernel
theorem dX10_building_98 : decode cX10_building 98 = .ok (.ifCond .eq 11, 3) := by decide +kernel
theorem dX10_building_101 : decode cX10_building 101 = .ok (.iload 7, 2) := by decide +kernel
theorem dX10_building_103 : decode cX10_building 103 = .ok (.istore 5, 2) := by decide +kernel
theorem dX10_building_105 : decode cX10_building 105 = .ok (.iload 8, 2) := by decide +kernel
theorem dX10_building_107 : decode cX10_building 107 = .ok (.istore 6, 2) := by decide +kernel
theorem dX10_building_109 : decode cX10_building 109 = .ok (.iinc 7 1, 3) := by decide +kernel
theorem dX10_building_112 : decode cX10_building 112 = .ok (.goto (-65), 3) := by decide +kernel
theorem dX10_building_115 : decode cX10_building 115 = .ok (.iload_n 3, 1) := by decide +kernel
theorem dX10_building_116 : decode cX10_building 116 = .ok (.ifCond .ne 8, 3) := by decide +kernel
theorem dX10_building_119 : decode cX10_building 119 = .ok (.iload 5, 2) := by decide +kernel
theorem dX10_building_121 : decode cX10_building 121 = .ok (.goto 5, 3) := by decide +kernel
theorem dX10_building_124 : decode cX10_building 124 = .ok (.iload 6, 2) := by decide +kernel
theorem dX10_building_126 : decode cX10_building 126 = .ok (.ireturn, 1) := by decide +kernel
theorem dX10_oneMore_0 : decode cX10_oneMore 0 = .ok (.iload_n 1, 1) := by decide +kernel
theorem dX10_oneMore_1 : decode cX10_oneMore 1 = .ok (.invokestatic 178, 3) := by decide +kernel
theorem dX10_oneMore_4 : decode cX10_oneMore 4 = .ok (.istore_n 2, 1) := by decide +kernel
theorem dX10_oneMore_5 : decode cX10_oneMore 5 = .ok (.iload_n 2, 1) := by decide +kernel
theorem dX10_oneMore_6 : decode cX10_oneMore 6 = .ok (.ifCond .eq 9, 3) := by decide +kernel
theorem dX10_oneMore_9 : decode cX10_oneMore 9 = .ok (.aload_n 0, 1) := by decide +kernel
theorem dX10_oneMore_10 : decode cX10_oneMore 10 = .ok (.iload_n 2, 1) := by decide +kernel
theorem dX10_oneMore_11 : decode cX10_oneMore 11 = .ok (.invokevirtual 67, 3) := by decide +kernel
theorem dX10_oneMore_14 : decode cX10_oneMore 14 = .ok (.ireturn, 1) := by decide +kernel
theorem dX10_oneMore_15 : decode cX10_oneMore 15 = .ok (.bipush (-9), 2) := by decide +kernel
theorem dX10_oneMore_17 : decode cX10_oneMore 17 = .ok (.istore_n 3, 1) := by decide +kernel
theorem dX10_oneMore_18 : decode cX10_oneMore 18 = .ok (.ldc 219, 2) := by decide +kernel
theorem dX10_oneMore_20 : decode cX10_oneMore 20 = .ok (.istore 4, 2) := by decide +kernel
theorem dX10_oneMore_22 : decode cX10_oneMore 22 = .ok (.iconst 0, 1) := by decide +kernel
theorem dX10_oneMore_23 : decode cX10_oneMore 23 = .ok (.istore 5, 2) := by decide +kernel
theorem dX10_oneMore_25 : decode cX10_oneMore 25 = .ok (.iload 5, 2) := by decide +kernel
theorem dX10_oneMore_27 : decode cX10_oneMore 27 = .ok (.aload_n 0, 1) := by decide +kernel
theorem dX10_oneMore_28 : decode cX10_oneMore 28 = .ok (.getfield 10, 3) := by decide +kernel
theorem dX10_oneMore_31 : decode cX10_oneMore 31 = .ok (.getfield 220, 3) := by decide +kernel
theorem dX10_oneMore_34 : decode cX10_oneMore 34 = .ok (.if_icmp .ge 68, 3) := by decide +kernel
theorem dX10_oneMore_37 : decode cX10_oneMore 37 = .ok (.aload_n 0, 1) := by decide +kernel
theorem dX10_oneMore_38 : decode cX10_oneMore 38 = .ok (.getfield 10, 3) := by decide +kernel
theorem dX10_oneMore_41 : decode cX10_oneMore 41 = .ok (.iload 5, 2) := by decide +kernel
theorem dX10_oneMore_43 : decode cX10_oneMore 43 = .ok (.invokevirtual 143, 3) := by decide +kernel
theorem dX10_oneMore_46 : decode cX10_oneMore 46 = .ok (.ifCond .eq 6, 3) := by decide +kernel
theorem dX10_oneMore_49 : decode cX10_oneMore 49 = .ok (.goto 47, 3) := by decide +kernel
theorem dX10_oneMore_52 : decode cX10_oneMore 52 = .ok (.aload_n 0, 1) := by decide +kernel
theorem dX10_oneMore_53 : decode cX10_oneMore 53 = .ok (.getfield 16, 3) := by decide +kernel
theorem dX10_oneMore_56 : decode cX10_oneMore 56 = .ok (.aload_n 0, 1) := by decide +kernel
theorem dX10_oneMore_57 : decode cX10_oneMore 57 = .ok (.getfield 10, 3) := by decide +kernel
theorem dX10_oneMore_60 : decode cX10_oneMore 60 = .ok (.invokevirtual 74, 3) := by decide +kernel
theorem dX10_oneMore_63 : decode cX10_oneMore 63 = .ok (.aload_n 0, 1) := by decide +kernel
theorem dX10_oneMore_64 : decode cX10_oneMore 64 = .ok (.getfield 16, 3) := by decide +kernel
theorem dX10_oneMore_67 : decode cX10_oneMore 67 = .ok (.iload 5, 2) := by decide +kernel
theorem dX10_oneMore_69 : decode cX10_oneMore 69 = .ok (.invokevirtual 223, 3) := by decide +kernel
theorem dX10_oneMore_72 : decode cX10_oneMore 72 = .ok (.aload_n 0, 1) := by decide +kernel
theorem dX10_oneMore_73 : decode cX10_oneMore 73 = .ok (.getfield 16, 3) := by decide +kernel
theorem dX10_oneMore_76 : decode cX10_oneMore 76 = .ok (.iload_n 1, 1) := by decide +kernel
theorem dX10_oneMore_77 : decode cX10_oneMore 77 = .ok (.invokevirtual 181, 3) := by decide +kernel
theorem dX10_oneMore_80 : decode cX10_oneMore 80 = .ok (.istore 6, 2) := by decide +kernel
theorem dX10_oneMore_82 : decode cX10_oneMore 82 = .ok (.iload 6, 2) := by decide +kernel
theorem dX10_oneMore_84 : decode cX10_oneMore 84 = .ok (.iload 4, 2) := by decide +kernel
theorem dX10_oneMore_86 : decode cX10_oneMore 86 = .ok (.if_icmp .ge 10, 3) := by decide +kernel
theorem dX10_oneMore_89 : decode cX10_oneMore 89 = .ok (.iload 6, 2) := by decide +kernel
theorem dX10_oneMore_91 : decode cX10_oneMore 91 = .ok (.istore 4, 2) := by decide +kernel
theorem dX10_oneMore_93 : decode cX10_oneMore 93 = .ok (.iload 5, 2) := by decide +kernel
theorem dX10_oneMore_95 : decode cX10_oneMore 95 = .ok (.istore_n 3, 1) := by decide +kernel
theorem dX10_oneMore_96 : decode cX10_oneMore 96 = .ok (.iinc 5 1, 3) := by decide +kernel
theorem dX10_oneMore_99 : decode cX10_oneMore 99 = .ok (.goto (-74), 3) := by decide +kernel
theorem dX10_oneMore_102 : decode cX10_oneMore 102 = .ok (.iload_n 3, 1) := by decide +kernel
theorem dX10_oneMore_103 : decode cX10_oneMore 103 = .ok (.ireturn, 1) := by decide +kernel
theorem dX10_share_0 : decode cX10_share 0 = .ok (.aload_n 0, 1) := by decide +kernel
theorem dX10_share_1 : decode cX10_share 1 = .ok (.getfield 10, 3) := by decide +kernel
theorem dX10_share_4 : decode cX10_share 4 = .ok (.iload_n 1, 1) := by decide +kernel
theorem dX10_share_5 : decode cX10_share 5 = .ok (.iload_n 2, 1) := by decide +kernel
theorem dX10_share_6 : decode cX10_share 6 = .ok (.invokevirtual 227, 3) := by decide +kernel
theorem dX10_share_9 : decode cX10_share 9 = .ok (.istore_n 3, 1) := by decide +kernel
theorem dX10_share_10 : decode cX10_share 10 = .ok (.iload_n 3, 1) := by decide +kernel
theorem dX10_share_11 : decode cX10_share 11 = .ok (.ifCond .eq 11, 3) := by decide +kernel
theorem dX10_share_14 : decode cX10_share 14 = .ok (.aload_n 0, 1) := by decide +kernel
theorem dX10_share_15 : decode cX10_share 15 = .ok (.iload_n 3, 1) := by decide +kernel
theorem dX10_share_16 : decode cX10_share 16 = .ok (.invokevirtual 67, 3) := by decide +kernel
theorem dX10_share_19 : decode cX10_share 19 = .ok (.goto 12, 3) := by decide +kernel
theorem dX10_share_22 : decode cX10_share 22 = .ok (.aload_n 0, 1) := by decide +kernel
theorem dX10_share_23 : decode cX10_share 23 = .ok (.getfield 10, 3) := by decide +kernel
theorem dX10_share_26 : decode cX10_share 26 = .ok (.iload_n 1, 1) := by decide +kernel
theorem dX10_share_27 : decode cX10_share 27 = .ok (.iload_n 2, 1) := by decide +kernel
theorem dX10_share_28 : decode cX10_share 28 = .ok (.invokevirtual 230, 3) := by decide +kernel
theorem dX10_share_31 : decode cX10_share 31 = .ok (.ireturn, 1) := by decide +kernel
theorem dX10_pulledDown_0 : decode cX10_pulledDown 0 = .ok (.aload_n 0, 1) := by decide +kernel
theorem dX10_pulledDown_1 : decode cX10_pulledDown 1 = .ok (.getfield 10, 3) := by decide +kernel
theorem dX10_pulledDown_4 : decode cX10_pulledDown 4 = .ok (.iload_n 1, 1) := by decide +kernel
theorem dX10_pulledDown_5 : decode cX10_pulledDown 5 = .ok (.iload_n 2, 1) := by decide +kernel
theorem dX10_pulledDown_6 : decode cX10_pulledDown 6 = .ok (.invokevirtual 227, 3) := by decide +kernel
theorem dX10_pulledDown_9 : decode cX10_pulledDown 9 = .ok (.istore 4, 2) := by decide +kernel
theorem dX10_pulledDown_11 : decode cX10_pulledDown 11 = .ok (.iload 4, 2) := by decide +kernel
theorem dX10_pulledDown_13 : decode cX10_pulledDown 13 = .ok (.ifCond .ne 9, 3) := by decide +kernel
theorem dX10_pulledDown_16 : decode cX10_pulledDown 16 = .ok (.iload_n 3, 1) := by decide +kernel
theorem dX10_pulledDown_17 : decode cX10_pulledDown 17 = .ok (.invokestatic 178, 3) := by decide +kernel
theorem dX10_pulledDown_20 : decode cX10_pulledDown 20 = .ok (.istore 4, 2) := by decide +kernel
theorem dX10_pulledDown_22 : decode cX10_pulledDown 22 = .ok (.iload 4, 2) := by decide +kernel
theorem dX10_pulledDown_24 : decode cX10_pulledDown 24 = .ok (.ifCond .eq 10, 3) := by decide +kernel
theorem dX10_pulledDown_27 : decode cX10_pulledDown 27 = .ok (.aload_n 0, 1) := by decide +kernel
theorem dX10_pulledDown_28 : decode cX10_pulledDown 28 = .ok (.iload 4, 2) := by decide +kernel
theorem dX10_pulledDown_30 : decode cX10_pulledDown 30 = .ok (.invokevirtual 67, 3) := by decide +kernel
theorem dX10_pulledDown_33 : decode cX10_pulledDown 33 = .ok (.ireturn, 1) := by decide +kernel
theorem dX10_pulledDown_34 : decode cX10_pulledDown 34 = .ok (.aload_n 0, 1) := by decide +kernel
theorem dX10_pulledDown_35 : decode cX10_pulledDown 35 = .ok (.getfield 50, 3) := by decide +kernel
theorem dX10_pulledDown_38 : decode cX10_pulledDown 38 = .ok (.aload_n 0, 1) := by decide +kernel
theorem dX10_pulledDown_39 : decode cX10_pulledDown 39 = .ok (.getfield 10, 3) := by decide +kernel
theorem dX10_pulledDown_42 : decode cX10_pulledDown 42 = .ok (.iload_n 2, 1) := by decide +kernel
theorem dX10_pulledDown_43 : decode cX10_pulledDown 43 = .ok (.invokevirtual 106, 3) := by decide +kernel
theorem dX10_pulledDown_46 : decode cX10_pulledDown 46 = .ok (.invokevirtual 233, 3) := by decide +kernel
theorem dX10_pulledDown_49 : decode cX10_pulledDown 49 = .ok (.aload_n 0, 1) := by decide +kernel
theorem dX10_pulledDown_50 : decode cX10_pulledDown 50 = .ok (.getfield 50, 3) := by decide +kernel
theorem dX10_pulledDown_53 : decode cX10_pulledDown 53 = .ok (.aload_n 0, 1) := by decide +kernel
theorem dX10_pulledDown_54 : decode cX10_pulledDown 54 = .ok (.getfield 10, 3) := by decide +kernel
theorem dX10_pulledDown_57 : decode cX10_pulledDown 57 = .ok (.iload_n 1, 1) := by decide +kernel
theorem dX10_pulledDown_58 : decode cX10_pulledDown 58 = .ok (.iload_n 2, 1) := by decide +kernel
theorem dX10_pulledDown_59 : decode cX10_pulledDown 59 = .ok (.invokevirtual 230, 3) := by decide +kernel
theorem dX10_pulledDown_62 : decode cX10_pulledDown 62 = .ok (.invokevirtual 236, 3) := by decide +kernel
theorem dX10_pulledDown_65 : decode cX10_pulledDown 65 = .ok (.aload_n 0, 1) := by decide +kernel
theorem dX10_pulledDown_66 : decode cX10_pulledDown 66 = .ok (.getfield 50, 3) := by decide +kernel
theorem dX10_pulledDown_69 : decode cX10_pulledDown 69 = .ok (.aload_n 0, 1) := by decide +kernel
theorem dX10_pulledDown_70 : decode cX10_pulledDown 70 = .ok (.getfield 10, 3) := by decide +kernel
theorem dX10_pulledDown_73 : decode cX10_pulledDown 73 = .ok (.getfield 239, 3) := by decide +kernel
theorem dX10_pulledDown_76 : decode cX10_pulledDown 76 = .ok (.aload_n 0, 1) := by decide +kernel
theorem dX10_pulledDown_77 : decode cX10_pulledDown 77 = .ok (.getfield 10, 3) := by decide +kernel
theorem dX10_pulledDown_80 : decode cX10_pulledDown 80 = .ok (.getfield 242, 3) := by decide +kernel
theorem dX10_pulledDown_83 : decode cX10_pulledDown 83 = .ok (.iload_n 3, 1) := by decide +kernel
theorem dX10_pulledDown_84 : decode cX10_pulledDown 84 = .ok (.invokevirtual 245, 3) := by decide +kernel
theorem dX10_pulledDown_87 : decode cX10_pulledDown 87 = .ok (.aload_n 0, 1) := by decide +kernel
theorem dX10_pulledDown_88 : decode cX10_pulledDown 88 = .ok (.iload_n 2, 1) := by decide +kernel
theorem dX10_pulledDown_89 : decode cX10_pulledDown 89 = .ok (.iload_n 3, 1) := by decide +kernel
theorem dX10_pulledDown_90 : decode cX10_pulledDown 90 = .ok (.invokevirtual 174, 3) := by decide +kernel
theorem dX10_pulledDown_93 : decode cX10_pulledDown 93 = .ok (.aload_n 0, 1) := by decide +kernel
theorem dX10_pulledDown_94 : decode cX10_pulledDown 94 = .ok (.getfield 46, 3) := by decide +kernel
theorem dX10_pulledDown_97 : decode cX10_pulledDown 97 = .ok (.getfield 113, 3) := by decide +kernel
theorem dX10_pulledDown_100 : decode cX10_pulledDown 100 = .ok (.aload_n 0, 1) := by decide +kernel
theorem dX10_pulledDown_101 : decode cX10_pulledDown 101 = .ok (.getfield 50, 3) := by decide +kernel
theorem dX10_pulledDown_104 : decode cX10_pulledDown 104 = .ok (.getfield 113, 3) := by decide +kernel
theorem dX10_pulledDown_107 : decode cX10_pulledDown 107 = .ok (.isub, 1) := by decide +kernel
theorem dX10_pulledDown_108 : decode cX10_pulledDown 108 = .ok (.ireturn, 1) := by decide +kernel
theorem dX10_merger_0 : decode cX10_merger 0 = .ok (.aload_n 0, 1) := by decide +kernel
theorem dX10_merger_1 : decode cX10_merger 1 = .ok (.iload_n 1, 1) := by decide +kernel
theorem dX10_merger_2 : decode cX10_merger 2 = .ok (.iload_n 2, 1) := by decide +kernel
theorem dX10_merger_3 : decode cX10_merger 3 = .ok (.iload_n 3, 1) := by decide +kernel
theorem dX10_merger_4 : decode cX10_merger 4 = .ok (.invokevirtual 249, 3) := by decide +kernel
theorem dX10_merger_7 : decode cX10_merger 7 = .ok (.istore 4, 2) := by decide +kernel
theorem dX10_merger_9 : decode cX10_merger 9 = .ok (.iload 4, 2) := by decide +kernel
theorem dX10_merger_11 : decode cX10_merger 11 = .ok (.ifCond .eq 12, 3) := by decide +kernel
theorem dX10_merger_14 : decode cX10_merger 14 = .ok (.aload_n 0, 1) := by decide +kernel
theorem dX10_merger_15 : decode cX10_merger 15 = .ok (.iload 4, 2) := by decide +kernel
theorem dX10_merger_17 : decode cX10_merger 17 = .ok (.invokevirtual 67, 3) := by decide +kernel
theorem dX10_merger_20 : decode cX10_merger 20 = .ok (.goto 10, 3) := by decide +kernel
theorem dX10_merger_23 : decode cX10_merger 23 = .ok (.aload_n 0, 1) := by decide +kernel
theorem dX10_merger_24 : decode cX10_merger 24 = .ok (.iload_n 1, 1) := by decide +kernel
theorem dX10_merger_25 : decode cX10_merger 25 = .ok (.iload_n 2, 1) := by decide +kernel
theorem dX10_merger_26 : decode cX10_merger 26 = .ok (.iload_n 3, 1) := by decide +kernel
theorem dX10_merger_27 : decode cX10_merger 27 = .ok (.invokevirtual 252, 3) := by decide +kernel
theorem dX10_merger_30 : decode cX10_merger 30 = .ok (.ireturn, 1) := by decide +kernel
theorem dX10_bestMerger_0 : decode cX10_bestMerger 0 = .ok (.iload_n 1, 1) := by decide +kernel
theorem dX10_bestMerger_1 : decode cX10_bestMerger 1 = .ok (.invokestatic 178, 3) := by decide +kernel
theorem dX10_bestMerger_4 : decode cX10_bestMerger 4 = .ok (.istore_n 2, 1) := by decide +kernel
theorem dX10_bestMerger_5 : decode cX10_bestMerger 5 = .ok (.iload_n 2, 1) := by decide +kernel
theorem dX10_bestMerger_6 : decode cX10_bestMerger 6 = .ok (.ifCond .eq 9, 3) := by decide +kernel
theorem dX10_bestMerger_9 : decode cX10_bestMerger 9 = .ok (.aload_n 0, 1) := by decide +kernel
theorem dX10_bestMerger_10 : decode cX10_bestMerger 10 = .ok (.iload_n 2, 1) := by decide +kernel
theorem dX10_bestMerger_11 : decode cX10_bestMerger 11 = .ok (.invokevirtual 67, 3) := by decide +kernel
theorem dX10_bestMerger_14 : decode cX10_bestMerger 14 = .ok (.ireturn, 1) := by decide +kernel
theorem dX10_bestMerger_15 : decode cX10_bestMerger 15 = .ok (.bipush (-9), 2) := by decide +kernel
theorem dX10_bestMerger_17 : decode cX10_bestMerger 17 = .ok (.istore_n 3, 1) := by decide +kernel
theorem dX10_bestMerger_18 : decode cX10_bestMerger 18 = .ok (.ldc 219, 2) := by decide +kernel
theorem dX10_bestMerger_20 : decode cX10_bestMerger 20 = .ok (.istore 4, 2) := by decide +kernel
theorem dX10_bestMerger_22 : decode cX10_bestMerger 22 = .ok (.iconst 0, 1) := by decide +kernel
theorem dX10_bestMerger_23 : decode cX10_bestMerger 23 = .ok (.istore 5, 2) := by decide +kernel
theorem dX10_bestMerger_25 : decode cX10_bestMerger 25 = .ok (.iload 5, 2) := by decide +kernel
theorem dX10_bestMerger_27 : decode cX10_bestMerger 27 = .ok (.aload_n 0, 1) := by decide +kernel
theorem dX10_bestMerger_28 : decode cX10_bestMerger 28 = .ok (.getfield 10, 3) := by decide +kernel
theorem dX10_bestMerger_31 : decode cX10_bestMerger 31 = .ok (.getfield 255, 3) := by decide +kernel
theorem dX10_bestMerger_34 : decode cX10_bestMerger 34 = .ok (.if_icmp .ge 88, 3) := by decide +kernel
theorem dX10_bestMerger_37 : decode cX10_bestMerger 37 = .ok (.iload 5, 2) := by decide +kernel
theorem dX10_bestMerger_39 : decode cX10_bestMerger 39 = .ok (.iconst 1, 1) := by decide +kernel
theorem dX10_bestMerger_40 : decode cX10_bestMerger 40 = .ok (.iadd, 1) := by decide +kernel
theorem dX10_bestMerger_41 : decode cX10_bestMerger 41 = .ok (.istore 6, 2) := by decide +kernel
theorem dX10_bestMerger_43 : decode cX10_bestMerger 43 = .ok (.iload 6, 2) := by decide +kernel
theorem dX10_bestMerger_45 : decode cX10_bestMerger 45 = .ok (.aload_n 0, 1) := by decide +kernel
theorem dX10_bestMerger_46 : decode cX10_bestMerger 46 = .ok (.getfield 10, 3) := by decide +kernel
theorem dX10_bestMerger_49 : decode cX10_bestMerger 49 = .ok (.getfield 255, 3) := by decide +kernel
theorem dX10_bestMerger_52 : decode cX10_bestMerger 52 = .ok (.if_icmp .ge 64, 3) := by decide +kernel
theorem dX10_bestMerger_55 : decode cX10_bestMerger 55 = .ok (.aload_n 0, 1) := by decide +kernel
theorem dX10_bestMerger_56 : decode cX10_bestMerger 56 = .ok (.iload 5, 2) := by decide +kernel
theorem dX10_bestMerger_58 : decode cX10_bestMerger 58 = .ok (.iload 6, 2) := by decide +kernel
theorem dX10_bestMerger_60 : decode cX10_bestMerger 60 = .ok (.iload_n 1, 1) := by decide +kernel
theorem dX10_bestMerger_61 : decode cX10_bestMerger 61 = .ok (.invokevirtual 252, 3) := by decide +kernel
theorem dX10_bestMerger_64 : decode cX10_bestMerger 64 = .ok (.istore 7, 2) := by decide +kernel
theorem dX10_bestMerger_66 : decode cX10_bestMerger 66 = .ok (.iload 7, 2) := by decide +kernel
theorem dX10_bestMerger_68 : decode cX10_bestMerger 68 = .ok (.iload 4, 2) := by decide +kernel
theorem dX10_bestMerger_70 : decode cX10_bestMerger 70 = .ok (.if_icmp .ge 40, 3) := by decide +kernel
theorem dX10_bestMerger_73 : decode cX10_bestMerger 73 = .ok (.iload 7, 2) := by decide +kernel
theorem dX10_bestMerger_75 : decode cX10_bestMerger 75 = .ok (.aload_n 0, 1) := by decide +kernel
theorem dX10_bestMerger_76 : decode cX10_bestMerger 76 = .ok (.iload 5, 2) := by decide +kernel
theorem dX10_bestMerger_78 : decode cX10_bestMerger 78 = .ok (.iload_n 1, 1) := by decide +kernel
theorem dX10_bestMerger_79 : decode cX10_bestMerger 79 = .ok (.invokevirtual 258, 3) := by decide +kernel
theorem dX10_bestMerger_82 : decode cX10_bestMerger 82 = .ok (.if_icmp .ge 28, 3) := by decide +kernel
theorem dX10_bestMerger_85 : decode cX10_bestMerger 85 = .ok (.iload 7, 2) := by decide +kernel
theorem dX10_bestMerger_87 : decode cX10_bestMerger 87 = .ok (.aload_n 0, 1) := by decide +kernel
theorem dX10_bestMerger_88 : decode cX10_bestMerger 88 = .ok (.iload 6, 2) := by decide +kernel
theorem dX10_bestMerger_90 : decode cX10_bestMerger 90 = .ok (.iload_n 1, 1) := by decide +kernel
theorem dX10_bestMerger_91 : decode cX10_bestMerger 91 = .ok (.invokevirtual 258, 3) := by decide +kernel
theorem dX10_bestMerger_94 : decode cX10_bestMerger 94 = .ok (.if_icmp .ge 16, 3) := by decide +kernel
theorem dX10_bestMerger_97 : decode cX10_bestMerger 97 = .ok (.iload 7, 2) := by decide +kernel
theorem dX10_bestMerger_99 : decode cX10_bestMerger 99 = .ok (.istore 4, 2) := by decide +kernel
theorem dX10_bestMerger_101 : decode cX10_bestMerger 101 = .ok (.bipush 10, 2) := by decide +kernel
theorem dX10_bestMerger_103 : decode cX10_bestMerger 103 = .ok (.iload 5, 2) := by decide +kernel
theorem dX10_bestMerger_105 : decode cX10_bestMerger 105 = .ok (.imul, 1) := by decide +kernel
theorem dX10_bestMerger_106 : decode cX10_bestMerger 106 = .ok (.iload 6, 2) := by decide +kernel
theorem dX10_bestMerger_108 : decode cX10_bestMerger 108 = .ok (.iadd, 1) := by decide +kernel
theorem dX10_bestMerger_109 : decode cX10_bestMerger 109 = .ok (.istore_n 3, 1) := by decide +kernel
theorem dX10_bestMerger_110 : decode cX10_bestMerger 110 = .ok (.iinc 6 1, 3) := by decide +kernel
theorem dX10_bestMerger_113 : decode cX10_bestMerger 113 = .ok (.goto (-70), 3) := by decide +kernel
theorem dX10_bestMerger_116 : decode cX10_bestMerger 116 = .ok (.iinc 5 1, 3) := by decide +kernel
theorem dX10_bestMerger_119 : decode cX10_bestMerger 119 = .ok (.goto (-94), 3) := by decide +kernel
theorem dX10_bestMerger_122 : decode cX10_bestMerger 122 = .ok (.iload_n 3, 1) := by decide +kernel
theorem dX10_bestMerger_123 : decode cX10_bestMerger 123 = .ok (.ireturn, 1) := by decide +kernel
theorem dX10_child_0 : decode cX10_child 0 = .ok (.aload_n 0, 1) := by decide +kernel
theorem dX10_child_1 : decode cX10_child 1 = .ok (.getfield 10, 3) := by decide +kernel
theorem dX10_child_4 : decode cX10_child 4 = .ok (.iload_n 1, 1) := by decide +kernel
theorem dX10_child_5 : decode cX10_child 5 = .ok (.invokevirtual 99, 3) := by decide +kernel
theorem dX10_child_8 : decode cX10_child 8 = .ok (.istore_n 3, 1) := by decide +kernel
theorem dX10_child_9 : decode cX10_child 9 = .ok (.iload_n 3, 1) := by decide +kernel
theorem dX10_child_10 : decode cX10_child 10 = .ok (.ifCond .ne 9, 3) := by decide +kernel
theorem dX10_child_13 : decode cX10_child 13 = .ok (.iload_n 2, 1) := by decide +kernel
theorem dX10_child_14 : decode cX10_child 14 = .ok (.iconst 1, 1) := by decide +kernel
theorem dX10_child_15 : decode cX10_child 15 = .ok (.invokestatic 102, 3) := by decide +kernel
theorem dX10_child_18 : decode cX10_child 18 = .ok (.istore_n 3, 1) := by decide +kernel
theorem dX10_child_19 : decode cX10_child 19 = .ok (.iload_n 3, 1) := by decide +kernel
theorem dX10_child_20 : decode cX10_child 20 = .ok (.ifCond .eq 14, 3) := by decide +kernel
theorem dX10_child_23 : decode cX10_child 23 = .ok (.ldc2_w 261, 3) := by decide +kernel
theorem dX10_child_26 : decode cX10_child 26 = .ok (.aload_n 0, 1) := by decide +kernel
theorem dX10_child_27 : decode cX10_child 27 = .ok (.iload_n 3, 1) := by decide +kernel
theorem dX10_child_28 : decode cX10_child 28 = .ok (.invokevirtual 67, 3) := by decide +kernel
theorem dX10_child_31 : decode cX10_child 31 = .ok (.i2l, 1) := by decide +kernel
theorem dX10_child_32 : decode cX10_child 32 = .ok (.lsub, 1) := by decide +kernel
theorem dX10_child_33 : decode cX10_child 33 = .ok (.lreturn, 1) := by decide +kernel
theorem dX10_child_34 : decode cX10_child 34 = .ok (.aload_n 0, 1) := by decide +kernel
theorem dX10_child_35 : decode cX10_child 35 = .ok (.getfield 10, 3) := by decide +kernel
theorem dX10_child_38 : decode cX10_child 38 = .ok (.iload_n 1, 1) := by decide +kernel
theorem dX10_child_39 : decode cX10_child 39 = .ok (.invokevirtual 106, 3) := by decide +kernel
theorem dX10_child_42 : decode cX10_child 42 = .ok (.getfield 113, 3) := by decide +kernel
theorem dX10_child_45 : decode cX10_child 45 = .ok (.i2l, 1) := by decide +kernel
theorem dX10_child_46 : decode cX10_child 46 = .ok (.aload_n 0, 1) := by decide +kernel
theorem dX10_child_47 : decode cX10_child 47 = .ok (.getfield 10, 3) := by decide +kernel
theorem dX10_child_50 : decode cX10_child 50 = .ok (.iload_n 1, 1) := by decide +kernel
theorem dX10_child_51 : decode cX10_child 51 = .ok (.invokevirtual 106, 3) := by decide +kernel
theorem dX10_child_54 : decode cX10_child 54 = .ok (.getfield 110, 3) := by decide +kernel
theorem dX10_child_57 : decode cX10_child 57 = .ok (.i2l, 1) := by decide +kernel
theorem dX10_child_58 : decode cX10_child 58 = .ok (.iload_n 2, 1) := by decide +kernel
theorem dX10_child_59 : decode cX10_child 59 = .ok (.invokestatic 263, 3) := by decide +kernel
theorem dX10_child_62 : decode cX10_child 62 = .ok (.lreturn, 1) := by decide +kernel
theorem dX10_cheapest_0 : decode cX10_cheapest 0 = .ok (.iload_n 1, 1) := by decide +kernel
theorem dX10_cheapest_1 : decode cX10_cheapest 1 = .ok (.invokestatic 178, 3) := by decide +kernel
theorem dX10_cheapest_4 : decode cX10_cheapest 4 = .ok (.istore_n 3, 1) := by decide +kernel
theorem dX10_cheapest_5 : decode cX10_cheapest 5 = .ok (.iload_n 3, 1) := by decide +kernel
theorem dX10_cheapest_6 : decode cX10_cheapest 6 = .ok (.ifCond .ne 9, 3) := by decide +kernel
theorem dX10_cheapest_9 : decode cX10_cheapest 9 = .ok (.iload_n 2, 1) := by decide +kernel
theorem dX10_cheapest_10 : decode cX10_cheapest 10 = .ok (.iconst 1, 1) := by decide +kernel
theorem dX10_cheapest_11 : decode cX10_cheapest 11 = .ok (.invokestatic 102, 3) := by decide +kernel
theorem dX10_cheapest_14 : decode cX10_cheapest 14 = .ok (.istore_n 3, 1) := by decide +kernel
theorem dX10_cheapest_15 : decode cX10_cheapest 15 = .ok (.iload_n 3, 1) := by decide +kernel
theorem dX10_cheapest_16 : decode cX10_cheapest 16 = .ok (.ifCond .eq 9, 3) := by decide +kernel
theorem dX10_cheapest_19 : decode cX10_cheapest 19 = .ok (.aload_n 0, 1) := by decide +kernel
theorem dX10_cheapest_20 : decode cX10_cheapest 20 = .ok (.iload_n 3, 1) := by decide +kernel
theorem dX10_cheapest_21 : decode cX10_cheapest 21 = .ok (.invokevirtual 67, 3) := by decide +kernel
theorem dX10_cheapest_24 : decode cX10_cheapest 24 = .ok (.ireturn, 1) := by decide +kernel
theorem dX10_cheapest_25 : decode cX10_cheapest 25 = .ok (.iload_n 2, 1) := by decide +kernel
theorem dX10_cheapest_26 : decode cX10_cheapest 26 = .ok (.ifCond .ne 10, 3) := by decide +kernel
theorem dX10_cheapest_29 : decode cX10_cheapest 29 = .ok (.aload_n 0, 1) := by decide +kernel
theorem dX10_cheapest_30 : decode cX10_cheapest 30 = .ok (.invokevirtual 267, 3) := by decide +kernel
theorem dX10_cheapest_33 : decode cX10_cheapest 33 = .ok (.goto 8, 3) := by decide +kernel
theorem dX10_cheapest_36 : decode cX10_cheapest 36 = .ok (.aload_n 0, 1) := by decide +kernel
theorem dX10_cheapest_37 : decode cX10_cheapest 37 = .ok (.iload_n 1, 1) := by decide +kernel
theorem dX10_cheapest_38 : decode cX10_cheapest 38 = .ok (.invokevirtual 270, 3) := by decide +kernel
theorem dX10_cheapest_41 : decode cX10_cheapest 41 = .ok (.ireturn, 1) := by decide +kernel
theorem dX10_treaty_0 : decode cX10_treaty 0 = .ok (.aload_n 0, 1) := by decide +kernel
theorem dX10_treaty_1 : decode cX10_treaty 1 = .ok (.iload_n 1, 1) := by decide +kernel
theorem dX10_treaty_2 : decode cX10_treaty 2 = .ok (.iload_n 2, 1) := by decide +kernel
theorem dX10_treaty_3 : decode cX10_treaty 3 = .ok (.iload_n 3, 1) := by decide +kernel
theorem dX10_treaty_4 : decode cX10_treaty 4 = .ok (.invokevirtual 249, 3) := by decide +kernel
theorem dX10_treaty_7 : decode cX10_treaty 7 = .ok (.istore 4, 2) := by decide +kernel
theorem dX10_treaty_9 : decode cX10_treaty 9 = .ok (.iload 4, 2) := by decide +kernel
theorem dX10_treaty_11 : decode cX10_treaty 11 = .ok (.ifCond .eq 12, 3) := by decide +kernel
theorem dX10_treaty_14 : decode cX10_treaty 14 = .ok (.aload_n 0, 1) := by decide +kernel
theorem dX10_treaty_15 : decode cX10_treaty 15 = .ok (.iload 4, 2) := by decide +kernel
theorem dX10_treaty_17 : decode cX10_treaty 17 = .ok (.invokevirtual 67, 3) := by decide +kernel
theorem dX10_treaty_20 : decode cX10_treaty 20 = .ok (.goto 19, 3) := by decide +kernel
theorem dX10_treaty_23 : decode cX10_treaty 23 = .ok (.bipush 10, 2) := by decide +kernel
theorem dX10_treaty_25 : decode cX10_treaty 25 = .ok (.aload_n 0, 1) := by decide +kernel
theorem dX10_treaty_26 : decode cX10_treaty 26 = .ok (.iload_n 1, 1) := by decide +kernel
theorem dX10_treaty_27 : decode cX10_treaty 27 = .ok (.iload_n 3, 1) := by decide +kernel
theorem dX10_treaty_28 : decode cX10_treaty 28 = .ok (.invokevirtual 273, 3) := by decide +kernel
theorem dX10_treaty_31 : decode cX10_treaty 31 = .ok (.imul, 1) := by decide +kernel
theorem dX10_treaty_32 : decode cX10_treaty 32 = .ok (.aload_n 0, 1) := by decide +kernel
theorem dX10_treaty_33 : decode cX10_treaty 33 = .ok (.iload_n 2, 1) := by decide +kernel
theorem dX10_treaty_34 : decode cX10_treaty 34 = .ok (.iload_n 3, 1) := by decide +kernel
theorem dX10_treaty_35 : decode cX10_treaty 35 = .ok (.invokevirtual 273, 3) := by decide +kernel
theorem dX10_treaty_38 : decode cX10_treaty 38 = .ok (.iadd, 1) := by decide +kernel
theorem dX10_treaty_39 : decode cX10_treaty 39 = .ok (.ireturn, 1) := by decide +kernel
theorem dX10_signature_0 : decode cX10_signature 0 = .ok (.aload_n 0, 1) := by decide +kernel
theorem dX10_signature_1 : decode cX10_signature 1 = .ok (.getfield 10, 3) := by decide +kernel
theorem dX10_signature_4 : decode cX10_signature 4 = .ok (.iload_n 1, 1) := by decide +kernel
theorem dX10_signature_5 : decode cX10_signature 5 = .ok (.invokevirtual 125, 3) := by decide +kernel
theorem dX10_signature_8 : decode cX10_signature 8 = .ok (.astore_n 3, 1) := by decide +kernel
theorem dX10_signature_9 : decode cX10_signature 9 = .ok (.aload_n 3, 1) := by decide +kernel
theorem dX10_signature_10 : decode cX10_signature 10 = .ok (.ifnonnull 9, 3) := by decide +kernel
theorem dX10_signature_13 : decode cX10_signature 13 = .ok (.aload_n 0, 1) := by decide +kernel
theorem dX10_signature_14 : decode cX10_signature 14 = .ok (.iconst (-1), 1) := by decide +kernel
theorem dX10_signature_15 : decode cX10_signature 15 = .ok (.invokevirtual 67, 3) := by decide +kernel
theorem dX10_signature_18 : decode cX10_signature 18 = .ok (.ireturn, 1) := by decide +kernel
theorem dX10_signature_19 : decode cX10_signature 19 = .ok (.iload_n 2, 1) := by decide +kernel
theorem dX10_signature_20 : decode cX10_signature 20 = .ok (.iconst 1, 1) := by decide +kernel
theorem dX10_signature_21 : decode cX10_signature 21 = .ok (.invokestatic 102, 3) := by decide +kernel
theorem dX10_signature_24 : decode cX10_signature 24 = .ok (.ifCond .eq 10, 3) := by decide +kernel
theorem dX10_signature_27 : decode cX10_signature 27 = .ok (.aload_n 0, 1) := by decide +kernel
theorem dX10_signature_28 : decode cX10_signature 28 = .ok (.bipush (-2), 2) := by decide +kernel
theorem dX10_signature_30 : decode cX10_signature 30 = .ok (.invokevirtual 67, 3) := by decide +kernel
theorem dX10_signature_33 : decode cX10_signature 33 = .ok (.ireturn, 1) := by decide +kernel
theorem dX10_signature_34 : decode cX10_signature 34 = .ok (.aload_n 0, 1) := by decide +kernel
theorem dX10_signature_35 : decode cX10_signature 35 = .ok (.getfield 10, 3) := by decide +kernel
theorem dX10_signature_38 : decode cX10_signature 38 = .ok (.aload_n 0, 1) := by decide +kernel
theorem dX10_signature_39 : decode cX10_signature 39 = .ok (.getfield 10, 3) := by decide +kernel
theorem dX10_signature_42 : decode cX10_signature 42 = .ok (.invokevirtual 276, 3) := by decide +kernel
theorem dX10_signature_45 : decode cX10_signature 45 = .ok (.invokevirtual 279, 3) := by decide +kernel
theorem dX10_signature_48 : decode cX10_signature 48 = .ok (.istore 4, 2) := by decide +kernel
theorem dX10_signature_50 : decode cX10_signature 50 = .ok (.aload_n 3, 1) := by decide +kernel
theorem dX10_signature_51 : decode cX10_signature 51 = .ok (.getfield 137, 3) := by decide +kernel
theorem dX10_signature_54 : decode cX10_signature 54 = .ok (.iload 4, 2) := by decide +kernel
theorem dX10_signature_56 : decode cX10_signature 56 = .ok (.invokestatic 282, 3) := by decide +kernel
theorem dX10_signature_59 : decode cX10_signature 59 = .ok (.istore 5, 2) := by decide +kernel
theorem dX10_signature_61 : decode cX10_signature 61 = .ok (.iconst 0, 1) := by decide +kernel
theorem dX10_signature_62 : decode cX10_signature 62 = .ok (.istore 6, 2) := by decide +kernel
theorem dX10_signature_64 : decode cX10_signature 64 = .ok (.iconst 0, 1) := by decide +kernel
theorem dX10_signature_65 : decode cX10_signature 65 = .ok (.istore 7, 2) := by decide +kernel
theorem dX10_signature_67 : decode cX10_signature 67 = .ok (.iload 7, 2) := by decide +kernel
theorem dX10_signature_69 : decode cX10_signature 69 = .ok (.aload_n 0, 1) := by decide +kernel
theorem dX10_signature_70 : decode cX10_signature 70 = .ok (.getfield 10, 3) := by decide +kernel
theorem dX10_signature_73 : decode cX10_signature 73 = .ok (.getfield 255, 3) := by decide +kernel
theorem dX10_signature_76 : decode cX10_signature 76 = .ok (.if_icmp .ge 50, 3) := by decide +kernel
theorem dX10_signature_79 : decode cX10_signature 79 = .ok (.aload_n 0, 1) := by decide +kernel
theorem dX10_signature_80 : decode cX10_signature 80 = .ok (.getfield 10, 3) := by decide +kernel
theorem dX10_signature_83 : decode cX10_signature 83 = .ok (.iload 7, 2) := by decide +kernel
theorem dX10_signature_85 : decode cX10_signature 85 = .ok (.invokevirtual 106, 3) := by decide +kernel
theorem dX10_signature_88 : decode cX10_signature 88 = .ok (.getfield 110, 3) := by decide +kernel
theorem dX10_signature_91 : decode cX10_signature 91 = .ok (.istore 8, 2) := by decide +kernel
theorem dX10_signature_93 : decode cX10_signature 93 = .ok (.aload_n 0, 1) := by decide +kernel
theorem dX10_signature_94 : decode cX10_signature 94 = .ok (.getfield 10, 3) := by decide +kernel
theorem dX10_signature_97 : decode cX10_signature 97 = .ok (.iload_n 1, 1) := by decide +kernel
theorem dX10_signature_98 : decode cX10_signature 98 = .ok (.iload 7, 2) := by decide +kernel
theorem dX10_signature_100 : decode cX10_signature 100 = .ok (.invokevirtual 230, 3) := by decide +kernel
theorem dX10_signature_103 : decode cX10_signature 103 = .ok (.iload 8, 2) := by decide +kernel
theorem dX10_signature_105 : decode cX10_signature 105 = .ok (.invokestatic 282, 3) := by decide +kernel
theorem dX10_signature_108 : decode cX10_signature 108 = .ok (.iload 5, 2) := by decide +kernel
theorem dX10_signature_110 : decode cX10_signature 110 = .ok (.if_icmp .gt 10, 3) := by decide +kernel
theorem dX10_signature_113 : decode cX10_signature 113 = .ok (.iload 6, 2) := by decide +kernel
theorem dX10_signature_115 : decode cX10_signature 115 = .ok (.iload 8, 2) := by decide +kernel
theorem dX10_signature_117 : decode cX10_signature 117 = .ok (.iadd, 1) := by decide +kernel
theorem dX10_signature_118 : decode cX10_signature 118 = .ok (.istore 6, 2) := by decide +kernel
theorem dX10_signature_120 : decode cX10_signature 120 = .ok (.iinc 7 1, 3) := by decide +kernel
theorem dX10_signature_123 : decode cX10_signature 123 = .ok (.goto (-56), 3) := by decide +kernel
theorem dX10_signature_126 : decode cX10_signature 126 = .ok (.iload_n 2, 1) := by decide +kernel
theorem dX10_signature_127 : decode cX10_signature 127 = .ok (.ifCond .ne 6, 3) := by decide +kernel
theorem dX10_signature_130 : decode cX10_signature 130 = .ok (.iload 6, 2) := by decide +kernel
theorem dX10_signature_132 : decode cX10_signature 132 = .ok (.ireturn, 1) := by decide +kernel
theorem dX10_signature_133 : decode cX10_signature 133 = .ok (.iconst 2, 1) := by decide +kernel
theorem dX10_signature_134 : decode cX10_signature 134 = .ok (.iload 6, 2) := by decide +kernel
theorem dX10_signature_136 : decode cX10_signature 136 = .ok (.imul, 1) := by decide +kernel
theorem dX10_signature_137 : decode cX10_signature 137 = .ok (.iload 4, 2) := by decide +kernel
theorem dX10_signature_139 : decode cX10_signature 139 = .ok (.if_icmp .le 7, 3) := by decide +kernel
theorem dX10_signature_142 : decode cX10_signature 142 = .ok (.iconst 1, 1) := by decide +kernel
theorem dX10_signature_143 : decode cX10_signature 143 = .ok (.goto 4, 3) := by decide +kernel
theorem dX10_signature_146 : decode cX10_signature 146 = .ok (.iconst 0, 1) := by decide +kernel
theorem dX10_signature_147 : decode cX10_signature 147 = .ok (.ireturn, 1) := by decide +kernel
theorem dX10_whoBuilt_0 : decode cX10_whoBuilt 0 = .ok (.iload_n 1, 1) := by decide +kernel
theorem dX10_whoBuilt_1 : decode cX10_whoBuilt 1 = .ok (.iconst 1, 1) := by decide +kernel
theorem dX10_whoBuilt_2 : decode cX10_whoBuilt 2 = .ok (.invokestatic 102, 3) := by decide +kernel
theorem dX10_whoBuilt_5 : decode cX10_whoBuilt 5 = .ok (.ifCond .eq 10, 3) := by decide +kernel
theorem dX10_whoBuilt_8 : decode cX10_whoBuilt 8 = .ok (.aload_n 0, 1) := by decide +kernel
theorem dX10_whoBuilt_9 : decode cX10_whoBuilt 9 = .ok (.bipush (-2), 2) := by decide +kernel
theorem dX10_whoBuilt_11 : decode cX10_whoBuilt 11 = .ok (.invokevirtual 67, 3) := by decide +kernel
theorem dX10_whoBuilt_14 : decode cX10_whoBuilt 14 = .ok (.ireturn, 1) := by decide +kernel
theorem dX10_whoBuilt_15 : decode cX10_whoBuilt 15 = .ok (.aload_n 0, 1) := by decide +kernel
theorem dX10_whoBuilt_16 : decode cX10_whoBuilt 16 = .ok (.getfield 285, 3) := by decide +kernel
theorem dX10_whoBuilt_19 : decode cX10_whoBuilt 19 = .ok (.aload_n 0, 1) := by decide +kernel
theorem dX10_whoBuilt_20 : decode cX10_whoBuilt 20 = .ok (.getfield 10, 3) := by decide +kernel
theorem dX10_whoBuilt_23 : decode cX10_whoBuilt 23 = .ok (.getfield 255, 3) := by decide +kernel
theorem dX10_whoBuilt_26 : decode cX10_whoBuilt 26 = .ok (.if_icmp .eq 10, 3) := by decide +kernel
theorem dX10_whoBuilt_29 : decode cX10_whoBuilt 29 = .ok (.aload_n 0, 1) := by decide +kernel
theorem dX10_whoBuilt_30 : decode cX10_whoBuilt 30 = .ok (.bipush (-3), 2) := by decide +kernel
theorem dX10_whoBuilt_32 : decode cX10_whoBuilt 32 = .ok (.invokevirtual 67, 3) := by decide +kernel
theorem dX10_whoBuilt_35 : decode cX10_whoBuilt 35 = .ok (.ireturn, 1) := by decide +kernel
theorem dX10_whoBuilt_36 : decode cX10_whoBuilt 36 = .ok (.iconst 0, 1) := by decide +kernel
theorem dX10_whoBuilt_37 : decode cX10_whoBuilt 37 = .ok (.istore_n 2, 1) := by decide +kernel
theorem dX10_whoBuilt_38 : decode cX10_whoBuilt 38 = .ok (.bipush (-9), 2) := by decide +kernel
theorem dX10_whoBuilt_40 : decode cX10_whoBuilt 40 = .ok (.istore_n 3, 1) := by decide +kernel
theorem dX10_whoBuilt_41 : decode cX10_whoBuilt 41 = .ok (.iconst 0, 1) := by decide +kernel
theorem dX10_whoBuilt_42 : decode cX10_whoBuilt 42 = .ok (.istore 4, 2) := by decide +kernel
theorem dX10_whoBuilt_44 : decode cX10_whoBuilt 44 = .ok (.iload 4, 2) := by decide +kernel
theorem dX10_whoBuilt_46 : decode cX10_whoBuilt 46 = .ok (.aload_n 0, 1) := by decide +kernel
theorem dX10_whoBuilt_47 : decode cX10_whoBuilt 47 = .ok (.getfield 10, 3) := by decide +kernel
theorem dX10_whoBuilt_50 : decode cX10_whoBuilt 50 = .ok (.invokevirtual 206, 3) := by decide +kernel
theorem dX10_whoBuilt_53 : decode cX10_whoBuilt 53 = .ok (.if_icmp .ge 31, 3) := by decide +kernel
theorem dX10_whoBuilt_56 : decode cX10_whoBuilt 56 = .ok (.aload_n 0, 1) := by decide +kernel
theorem dX10_whoBuilt_57 : decode cX10_whoBuilt 57 = .ok (.iload 4, 2) := by decide +kernel
theorem dX10_whoBuilt_59 : decode cX10_whoBuilt 59 = .ok (.invokevirtual 288, 3) := by decide +kernel
theorem dX10_whoBuilt_62 : decode cX10_whoBuilt 62 = .ok (.ifCond .ne 6, 3) := by decide +kernel
theorem dX10_whoBuilt_65 : decode cX10_whoBuilt 65 = .ok (.goto 13, 3) := by decide +kernel
theorem dX10_whoBuilt_68 : decode cX10_whoBuilt 68 = .ok (.iload_n 2, 1) := by decide +kernel
theorem dX10_whoBuilt_69 : decode cX10_whoBuilt 69 = .ok (.ifCond .ne 6, 3) := by decide +kernel
theorem dX10_whoBuilt_72 : decode cX10_whoBuilt 72 = .ok (.iload 4, 2) := by decide +kernel
theorem dX10_whoBuilt_74 : decode cX10_whoBuilt 74 = .ok (.istore_n 3, 1) := by decide +kernel
theorem dX10_whoBuilt_75 : decode cX10_whoBuilt 75 = .ok (.iinc 2 1, 3) := by decide +kernel
theorem dX10_whoBuilt_78 : decode cX10_whoBuilt 78 = .ok (.iinc 4 1, 3) := by decide +kernel
theorem dX10_whoBuilt_81 : decode cX10_whoBuilt 81 = .ok (.goto (-37), 3) := by decide +kernel
theorem dX10_whoBuilt_84 : decode cX10_whoBuilt 84 = .ok (.iload_n 1, 1) := by decide +kernel
theorem dX10_whoBuilt_85 : decode cX10_whoBuilt 85 = .ok (.ifCond .ne 7, 3) := by decide +kernel
theorem dX10_whoBuilt_88 : decode cX10_whoBuilt 88 = .ok (.iload_n 2, 1) := by decide +kernel
theorem dX10_whoBuilt_89 : decode cX10_whoBuilt 89 = .ok (.goto 4, 3) := by decide +kernel
theorem dX10_whoBuilt_92 : decode cX10_whoBuilt 92 = .ok (.iload_n 3, 1) := by decide +kernel
theorem dX10_whoBuilt_93 : decode cX10_whoBuilt 93 = .ok (.ireturn, 1) := by decide +kernel
theorem dX10_births_0 : decode cX10_births 0 = .ok (.aload_n 0, 1) := by decide +kernel
theorem dX10_births_1 : decode cX10_births 1 = .ok (.getfield 10, 3) := by decide +kernel
theorem dX10_births_4 : decode cX10_births 4 = .ok (.iload_n 1, 1) := by decide +kernel
theorem dX10_births_5 : decode cX10_births 5 = .ok (.invokevirtual 99, 3) := by decide +kernel
theorem dX10_births_8 : decode cX10_births 8 = .ok (.istore 6, 2) := by decide +kernel
theorem dX10_births_10 : decode cX10_births 10 = .ok (.iload 6, 2) := by decide +kernel
theorem dX10_births_12 : decode cX10_births 12 = .ok (.ifCond .ne 21, 3) := by decide +kernel
theorem dX10_births_15 : decode cX10_births 15 = .ok (.iload_n 2, 1) := by decide +kernel
theorem dX10_births_16 : decode cX10_births 16 = .ok (.ifCond .lt 13, 3) := by decide +kernel
theorem dX10_births_19 : decode cX10_births 19 = .ok (.iload_n 3, 1) := by decide +kernel
theorem dX10_births_20 : decode cX10_births 20 = .ok (.ifCond .lt 9, 3) := by decide +kernel
theorem dX10_births_23 : decode cX10_births 23 = .ok (.iload 4, 2) := by decide +kernel
theorem dX10_births_25 : decode cX10_births 25 = .ok (.iconst 2, 1) := by decide +kernel
theorem dX10_births_26 : decode cX10_births 26 = .ok (.if_icmp .ge 7, 3) := by decide +kernel
theorem dX10_births_29 : decode cX10_births 29 = .ok (.bipush (-4), 2) := by decide +kernel
theorem dX10_births_31 : decode cX10_births 31 = .ok (.istore 6, 2) := by decide +kernel
theorem dX10_births_33 : decode cX10_births 33 = .ok (.iload 6, 2) := by decide +kernel
theorem dX10_births_35 : decode cX10_births 35 = .ok (.ifCond .ne 27, 3) := by decide +kernel
theorem dX10_births_38 : decode cX10_births 38 = .ok (.iload_n 2, 1) := by decide +kernel
theorem dX10_births_39 : decode cX10_births 39 = .ok (.bipush 8, 2) := by decide +kernel
theorem dX10_births_41 : decode cX10_births 41 = .ok (.if_icmp .gt 17, 3) := by decide +kernel
theorem dX10_births_44 : decode cX10_births 44 = .ok (.iload_n 3, 1) := by decide +kernel
theorem dX10_births_45 : decode cX10_births 45 = .ok (.sipush 999, 3) := by decide +kernel
theorem dX10_births_48 : decode cX10_births 48 = .ok (.if_icmp .gt 10, 3) := by decide +kernel
theorem dX10_births_51 : decode cX10_births 51 = .ok (.iload 4, 2) := by decide +kernel
theorem dX10_births_53 : decode cX10_births 53 = .ok (.bipush 20, 2) := by decide +kernel
theorem dX10_births_55 : decode cX10_births 55 = .ok (.if_icmp .le 7, 3) := by decide +kernel
theorem dX10_births_58 : decode cX10_births 58 = .ok (.bipush (-6), 2) := by decide +kernel
theorem dX10_births_60 : decode cX10_births 60 = .ok (.istore 6, 2) := by decide +kernel
theorem dX10_births_62 : decode cX10_births 62 = .ok (.iload 6, 2) := by decide +kernel
theorem dX10_births_64 : decode cX10_births 64 = .ok (.ifCond .ne 11, 3) := by decide +kernel
theorem dX10_births_67 : decode cX10_births 67 = .ok (.iload 5, 2) := by decide +kernel
theorem dX10_births_69 : decode cX10_births 69 = .ok (.iconst 1, 1) := by decide +kernel
theorem dX10_births_70 : decode cX10_births 70 = .ok (.invokestatic 102, 3) := by decide +kernel
theorem dX10_births_73 : decode cX10_births 73 = .ok (.istore 6, 2) := by decide +kernel
theorem dX10_births_75 : decode cX10_births 75 = .ok (.iload 6, 2) := by decide +kernel
theorem dX10_births_77 : decode cX10_births 77 = .ok (.ifCond .eq 15, 3) := by decide +kernel
theorem dX10_births_80 : decode cX10_births 80 = .ok (.ldc2_w 261, 3) := by decide +kernel
theorem dX10_births_83 : decode cX10_births 83 = .ok (.aload_n 0, 1) := by decide +kernel
theorem dX10_births_84 : decode cX10_births 84 = .ok (.iload 6, 2) := by decide +kernel
theorem dX10_births_86 : decode cX10_births 86 = .ok (.invokevirtual 67, 3) := by decide +kernel
theorem dX10_births_89 : decode cX10_births 89 = .ok (.i2l, 1) := by decide +kernel
theorem dX10_births_90 : decode cX10_births 90 = .ok (.lsub, 1) := by decide +kernel
theorem dX10_births_91 : decode cX10_births 91 = .ok (.lreturn, 1) := by decide +kernel
theorem dX10_births_92 : decode cX10_births 92 = .ok (.lconst 0, 1) := by decide +kernel
theorem dX10_births_93 : decode cX10_births 93 = .ok (.lstore 7, 2) := by decide +kernel
theorem dX10_births_95 : decode cX10_births 95 = .ok (.lconst 0, 1) := by decide +kernel
theorem dX10_births_96 : decode cX10_births 96 = .ok (.lstore 9, 2) := by decide +kernel
theorem dX10_births_98 : decode cX10_births 98 = .ok (.iconst 0, 1) := by decide +kernel
theorem dX10_births_99 : decode cX10_births 99 = .ok (.istore 11, 2) := by decide +kernel
theorem dX10_births_101 : decode cX10_births 101 = .ok (.iload 11, 2) := by decide +kernel
theorem dX10_births_103 : decode cX10_births 103 = .ok (.iconst 1, 1) := by decide +kernel
theorem dX10_births_104 : decode cX10_births 104 = .ok (.iload_n 2, 1) := by decide +kernel
theorem dX10_births_105 : decode cX10_births 105 = .ok (.ishl, 1) := by decide +kernel
theorem dX10_births_106 : decode cX10_births 106 = .ok (.if_icmp .ge 52, 3) := by decide +kernel
theorem dX10_births_109 : decode cX10_births 109 = .ok (.iload 11, 2) := by decide +kernel
theorem dX10_births_111 : decode cX10_births 111 = .ok (.iload_n 2, 1) := by decide +kernel
theorem dX10_births_112 : decode cX10_births 112 = .ok (.iload 4, 2) := by decide +kernel
theorem dX10_births_114 : decode cX10_births 114 = .ok (.invokestatic 291, 3) := by decide +kernel
theorem dX10_births_117 : decode cX10_births 117 = .ok (.lstore 12, 2) := by decide +kernel
