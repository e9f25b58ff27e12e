theorem dX0_has_0 : decode cX0_has 0 = .ok (.iload_n 1, 1) := by decide +kernel
theorem dX0_has_1 : decode cX0_has 1 = .ok (.ifCond .lt 15, 3) := by decide +kernel
theorem dX0_has_4 : decode cX0_has 4 = .ok (.iload_n 1, 1) := by decide +kernel
theorem dX0_has_5 : decode cX0_has 5 = .ok (.aload_n 0, 1) := by decide +kernel
theorem dX0_has_6 : decode cX0_has 6 = .ok (.getfield 20, 3) := by decide +kernel
theorem dX0_has_9 : decode cX0_has 9 = .ok (.if_icmp .ge 7, 3) := by decide +kernel
theorem dX0_has_12 : decode cX0_has 12 = .ok (.iconst 1, 1) := by decide +kernel
theorem dX0_has_13 : decode cX0_has 13 = .ok (.goto 4, 3) := by decide +kernel
theorem dX0_has_16 : decode cX0_has 16 = .ok (.iconst 0, 1) := by decide +kernel
theorem dX0_has_17 : decode cX0_has 17 = .ok (.ireturn, 1) := by decide +kernel
theorem dX0_add_0 : decode cX0_add 0 = .ok (.aload_n 0, 1) := by decide +kernel
theorem dX0_add_1 : decode cX0_add 1 = .ok (.getfield 20, 3) := by decide +kernel
theorem dX0_add_4 : decode cX0_add 4 = .ok (.bipush 12, 2) := by decide +kernel
theorem dX0_add_6 : decode cX0_add 6 = .ok (.if_icmp .lt 6, 3) := by decide +kernel
theorem dX0_add_9 : decode cX0_add 9 = .ok (.bipush (-3), 2) := by decide +kernel
theorem dX0_add_11 : decode cX0_add 11 = .ok (.ireturn, 1) := by decide +kernel
theorem dX0_add_12 : decode cX0_add 12 = .ok (.aload_n 0, 1) := by decide +kernel
theorem dX0_add_13 : decode cX0_add 13 = .ok (.getfield 11, 3) := by decide +kernel
theorem dX0_add_16 : decode cX0_add 16 = .ok (.aload_n 0, 1) := by decide +kernel
theorem dX0_add_17 : decode cX0_add 17 = .ok (.getfield 20, 3) := by decide +kernel
theorem dX0_add_20 : decode cX0_add 20 = .ok (.aaload, 1) := by decide +kernel
theorem dX0_add_21 : decode cX0_add 21 = .ok (.iconst 0, 1) := by decide +kernel
theorem dX0_add_22 : decode cX0_add 22 = .ok (.iload_n 1, 1) := by decide +kernel
theorem dX0_add_23 : decode cX0_add 23 = .ok (.iastore, 1) := by decide +kernel
theorem dX0_add_24 : decode cX0_add 24 = .ok (.aload_n 0, 1) := by decide +kernel
theorem dX0_add_25 : decode cX0_add 25 = .ok (.getfield 11, 3) := by decide +kernel
theorem dX0_add_28 : decode cX0_add 28 = .ok (.aload_n 0, 1) := by decide +kernel
theorem dX0_add_29 : decode cX0_add 29 = .ok (.getfield 20, 3) := by decide +kernel
theorem dX0_add_32 : decode cX0_add 32 = .ok (.aaload, 1) := by decide +kernel
theorem dX0_add_33 : decode cX0_add 33 = .ok (.iconst 1, 1) := by decide +kernel
theorem dX0_add_34 : decode cX0_add 34 = .ok (.iload_n 2, 1) := by decide +kernel
theorem dX0_add_35 : decode cX0_add 35 = .ok (.iastore, 1) := by decide +kernel
theorem dX0_add_36 : decode cX0_add 36 = .ok (.aload_n 0, 1) := by decide +kernel
theorem dX0_add_37 : decode cX0_add 37 = .ok (.getfield 11, 3) := by decide +kernel
theorem dX0_add_40 : decode cX0_add 40 = .ok (.aload_n 0, 1) := by decide +kernel
theorem dX0_add_41 : decode cX0_add 41 = .ok (.getfield 20, 3) := by decide +kernel
theorem dX0_add_44 : decode cX0_add 44 = .ok (.aaload, 1) := by decide +kernel
theorem dX0_add_45 : decode cX0_add 45 = .ok (.iconst 2, 1) := by decide +kernel
theorem dX0_add_46 : decode cX0_add 46 = .ok (.iload_n 3, 1) := by decide +kernel
theorem dX0_add_47 : decode cX0_add 47 = .ok (.iastore, 1) := by decide +kernel
theorem dX0_add_48 : decode cX0_add 48 = .ok (.aload_n 0, 1) := by decide +kernel
theorem dX0_add_49 : decode cX0_add 49 = .ok (.dup, 1) := by decide +kernel
theorem dX0_add_50 : decode cX0_add 50 = .ok (.getfield 20, 3) := by decide +kernel
theorem dX0_add_53 : decode cX0_add 53 = .ok (.dup_x1, 1) := by decide +kernel
theorem dX0_add_54 : decode cX0_add 54 = .ok (.iconst 1, 1) := by decide +kernel
theorem dX0_add_55 : decode cX0_add 55 = .ok (.iadd, 1) := by decide +kernel
theorem dX0_add_56 : decode cX0_add 56 = .ok (.putfield 20, 3) := by decide +kernel
theorem dX0_add_59 : decode cX0_add 59 = .ok (.ireturn, 1) := by decide +kernel
theorem dX0_allBits_0 : decode cX0_allBits 0 = .ok (.iconst 1, 1) := by decide +kernel
theorem dX0_allBits_1 : decode cX0_allBits 1 = .ok (.aload_n 0, 1) := by decide +kernel
theorem dX0_allBits_2 : decode cX0_allBits 2 = .ok (.getfield 20, 3) := by decide +kernel
theorem dX0_allBits_5 : decode cX0_allBits 5 = .ok (.ishl, 1) := by decide +kernel
theorem dX0_allBits_6 : decode cX0_allBits 6 = .ok (.iconst 1, 1) := by decide +kernel
theorem dX0_allBits_7 : decode cX0_allBits 7 = .ok (.isub, 1) := by decide +kernel
theorem dX0_allBits_8 : decode cX0_allBits 8 = .ok (.ireturn, 1) := by decide +kernel
theorem dX0_allCharges_0 : decode cX0_allCharges 0 = .ok (.iconst 0, 1) := by decide +kernel
theorem dX0_allCharges_1 : decode cX0_allCharges 1 = .ok (.istore_n 1, 1) := by decide +kernel
theorem dX0_allCharges_2 : decode cX0_allCharges 2 = .ok (.iconst 0, 1) := by decide +kernel
theorem dX0_allCharges_3 : decode cX0_allCharges 3 = .ok (.istore_n 2, 1) := by decide +kernel
theorem dX0_allCharges_4 : decode cX0_allCharges 4 = .ok (.iload_n 2, 1) := by decide +kernel
theorem dX0_allCharges_5 : decode cX0_allCharges 5 = .ok (.aload_n 0, 1) := by decide +kernel
theorem dX0_allCharges_6 : decode cX0_allCharges 6 = .ok (.getfield 20, 3) := by decide +kernel
theorem dX0_allCharges_9 : decode cX0_allCharges 9 = .ok (.if_icmp .ge 18, 3) := by decide +kernel
theorem dX0_allCharges_12 : decode cX0_allCharges 12 = .ok (.iload_n 1, 1) := by decide +kernel
theorem dX0_allCharges_13 : decode cX0_allCharges 13 = .ok (.aload_n 0, 1) := by decide +kernel
theorem dX0_allCharges_14 : decode cX0_allCharges 14 = .ok (.getfield 16, 3) := by decide +kernel
theorem dX0_allCharges_17 : decode cX0_allCharges 17 = .ok (.iload_n 2, 1) := by decide +kernel
theorem dX0_allCharges_18 : decode cX0_allCharges 18 = .ok (.iaload, 1) := by decide +kernel
theorem dX0_allCharges_19 : decode cX0_allCharges 19 = .ok (.iadd, 1) := by decide +kernel
theorem dX0_allCharges_20 : decode cX0_allCharges 20 = .ok (.istore_n 1, 1) := by decide +kernel
theorem dX0_allCharges_21 : decode cX0_allCharges 21 = .ok (.iinc 2 1, 3) := by decide +kernel
theorem dX0_allCharges_24 : decode cX0_allCharges 24 = .ok (.goto (-20), 3) := by decide +kernel
theorem dX0_allCharges_27 : decode cX0_allCharges 27 = .ok (.iload_n 1, 1) := by decide +kernel
theorem dX0_allCharges_28 : decode cX0_allCharges 28 = .ok (.ireturn, 1) := by decide +kernel
theorem dX1_clear_0 : decode cX1_clear 0 = .ok (.aload_n 0, 1) := by decide +kernel
theorem dX1_clear_1 : decode cX1_clear 1 = .ok (.iconst 0, 1) := by decide +kernel
theorem dX1_clear_2 : decode cX1_clear 2 = .ok (.putfield 18, 3) := by decide +kernel
theorem dX1_clear_5 : decode cX1_clear 5 = .ok (.return_, 1) := by decide +kernel
theorem dX1_offer_0 : decode cX1_offer 0 = .ok (.aload_n 0, 1) := by decide +kernel
theorem dX1_offer_1 : decode cX1_offer 1 = .ok (.getfield 18, 3) := by decide +kernel
theorem dX1_offer_4 : decode cX1_offer 4 = .ok (.bipush 10, 2) := by decide +kernel
theorem dX1_offer_6 : decode cX1_offer 6 = .ok (.if_icmp .lt 5, 3) := by decide +kernel
theorem dX1_offer_9 : decode cX1_offer 9 = .ok (.iconst 0, 1) := by decide +kernel
theorem dX1_offer_10 : decode cX1_offer 10 = .ok (.ireturn, 1) := by decide +kernel
theorem dX1_offer_11 : decode cX1_offer 11 = .ok (.aload_n 0, 1) := by decide +kernel
theorem dX1_offer_12 : decode cX1_offer 12 = .ok (.getfield 9, 3) := by decide +kernel
theorem dX1_offer_15 : decode cX1_offer 15 = .ok (.aload_n 0, 1) := by decide +kernel
theorem dX1_offer_16 : decode cX1_offer 16 = .ok (.getfield 18, 3) := by decide +kernel
theorem dX1_offer_19 : decode cX1_offer 19 = .ok (.iload_n 1, 1) := by decide +kernel
theorem dX1_offer_20 : decode cX1_offer 20 = .ok (.iastore, 1) := by decide +kernel
theorem dX1_offer_21 : decode cX1_offer 21 = .ok (.aload_n 0, 1) := by decide +kernel
theorem dX1_offer_22 : decode cX1_offer 22 = .ok (.getfield 15, 3) := by decide +kernel
theorem dX1_offer_25 : decode cX1_offer 25 = .ok (.aload_n 0, 1) := by decide +kernel
theorem dX1_offer_26 : decode cX1_offer 26 = .ok (.getfield 18, 3) := by decide +kernel
theorem dX1_offer_29 : decode cX1_offer 29 = .ok (.iload_n 2, 1) := by decide +kernel
theorem dX1_offer_30 : decode cX1_offer 30 = .ok (.iastore, 1) := by decide +kernel
theorem dX1_offer_31 : decode cX1_offer 31 = .ok (.aload_n 0, 1) := by decide +kernel
theorem dX1_offer_32 : decode cX1_offer 32 = .ok (.dup, 1) := by decide +kernel
theorem dX1_offer_33 : decode cX1_offer 33 = .ok (.getfield 18, 3) := by decide +kernel
theorem dX1_offer_36 : decode cX1_offer 36 = .ok (.iconst 1, 1) := by decide +kernel
theorem dX1_offer_37 : decode cX1_offer 37 = .ok (.iadd, 1) := by decide +kernel
theorem dX1_offer_38 : decode cX1_offer 38 = .ok (.putfield 18, 3) := by decide +kernel
theorem dX1_offer_41 : decode cX1_offer 41 = .ok (.iconst 1, 1) := by decide +kernel
theorem dX1_offer_42 : decode cX1_offer 42 = .ok (.ireturn, 1) := by decide +kernel
theorem dX1_choose_0 : decode cX1_choose 0 = .ok (.aload_n 0, 1) := by decide +kernel
theorem dX1_choose_1 : decode cX1_choose 1 = .ok (.iconst 0, 1) := by decide +kernel
theorem dX1_choose_2 : decode cX1_choose 2 = .ok (.putfield 22, 3) := by decide +kernel
theorem dX1_choose_5 : decode cX1_choose 5 = .ok (.aload_n 0, 1) := by decide +kernel
theorem dX1_choose_6 : decode cX1_choose 6 = .ok (.iconst 0, 1) := by decide +kernel
theorem dX1_choose_7 : decode cX1_choose 7 = .ok (.putfield 25, 3) := by decide +kernel
theorem dX1_choose_10 : decode cX1_choose 10 = .ok (.iconst 1, 1) := by decide +kernel
theorem dX1_choose_11 : decode cX1_choose 11 = .ok (.istore_n 2, 1) := by decide +kernel
theorem dX1_choose_12 : decode cX1_choose 12 = .ok (.iload_n 2, 1) := by decide +kernel
theorem dX1_choose_13 : decode cX1_choose 13 = .ok (.iconst 1, 1) := by decide +kernel
theorem dX1_choose_14 : decode cX1_choose 14 = .ok (.aload_n 0, 1) := by decide +kernel
theorem dX1_choose_15 : decode cX1_choose 15 = .ok (.getfield 18, 3) := by decide +kernel
theorem dX1_choose_18 : decode cX1_choose 18 = .ok (.ishl, 1) := by decide +kernel
theorem dX1_choose_19 : decode cX1_choose 19 = .ok (.if_icmp .ge 27, 3) := by decide +kernel
theorem dX1_choose_22 : decode cX1_choose 22 = .ok (.iload_n 2, 1) := by decide +kernel
theorem dX1_choose_23 : decode cX1_choose 23 = .ok (.invokestatic 28, 3) := by decide +kernel
theorem dX1_choose_26 : decode cX1_choose 26 = .ok (.iload_n 1, 1) := by decide +kernel
theorem dX1_choose_27 : decode cX1_choose 27 = .ok (.if_icmp .gt 13, 3) := by decide +kernel
theorem dX1_choose_30 : decode cX1_choose 30 = .ok (.aload_n 0, 1) := by decide +kernel
theorem dX1_choose_31 : decode cX1_choose 31 = .ok (.iload_n 2, 1) := by decide +kernel
theorem dX1_choose_32 : decode cX1_choose 32 = .ok (.aload_n 0, 1) := by decide +kernel
theorem dX1_choose_33 : decode cX1_choose 33 = .ok (.iload_n 2, 1) := by decide +kernel
theorem dX1_choose_34 : decode cX1_choose 34 = .ok (.invokevirtual 34, 3) := by decide +kernel
theorem dX1_choose_37 : decode cX1_choose 37 = .ok (.invokevirtual 37, 3) := by decide +kernel
theorem dX1_choose_40 : decode cX1_choose 40 = .ok (.iinc 2 1, 3) := by decide +kernel
theorem dX1_choose_43 : decode cX1_choose 43 = .ok (.goto (-31), 3) := by decide +kernel
theorem dX1_choose_46 : decode cX1_choose 46 = .ok (.return_, 1) := by decide +kernel
theorem dX1_compare_0 : decode cX1_compare 0 = .ok (.iload_n 2, 1) := by decide +kernel
theorem dX1_compare_1 : decode cX1_compare 1 = .ok (.invokestatic 28, 3) := by decide +kernel
theorem dX1_compare_4 : decode cX1_compare 4 = .ok (.aload_n 0, 1) := by decide +kernel
theorem dX1_compare_5 : decode cX1_compare 5 = .ok (.getfield 25, 3) := by decide +kernel
theorem dX1_compare_8 : decode cX1_compare 8 = .ok (.invokestatic 28, 3) := by decide +kernel
theorem dX1_compare_11 : decode cX1_compare 11 = .ok (.isub, 1) := by decide +kernel
theorem dX1_compare_12 : decode cX1_compare 12 = .ok (.istore_n 3, 1) := by decide +kernel
theorem dX1_compare_13 : decode cX1_compare 13 = .ok (.iload_n 3, 1) := by decide +kernel
theorem dX1_compare_14 : decode cX1_compare 14 = .ok (.ifCond .gt 21, 3) := by decide +kernel
theorem dX1_compare_17 : decode cX1_compare 17 = .ok (.iload_n 3, 1) := by decide +kernel
theorem dX1_compare_18 : decode cX1_compare 18 = .ok (.ifCond .ne 27, 3) := by decide +kernel
theorem dX1_compare_21 : decode cX1_compare 21 = .ok (.iload_n 1, 1) := by decide +kernel
theorem dX1_compare_22 : decode cX1_compare 22 = .ok (.invokestatic 28, 3) := by decide +kernel
theorem dX1_compare_25 : decode cX1_compare 25 = .ok (.aload_n 0, 1) := by decide +kernel
theorem dX1_compare_26 : decode cX1_compare 26 = .ok (.getfield 22, 3) := by decide +kernel
theorem dX1_compare_29 : decode cX1_compare 29 = .ok (.invokestatic 28, 3) := by decide +kernel
theorem dX1_compare_32 : decode cX1_compare 32 = .ok (.if_icmp .ge 13, 3) := by decide +kernel
theorem dX1_compare_35 : decode cX1_compare 35 = .ok (.aload_n 0, 1) := by decide +kernel
theorem dX1_compare_36 : decode cX1_compare 36 = .ok (.iload_n 1, 1) := by decide +kernel
theorem dX1_compare_37 : decode cX1_compare 37 = .ok (.putfield 22, 3) := by decide +kernel
theorem dX1_compare_40 : decode cX1_compare 40 = .ok (.aload_n 0, 1) := by decide +kernel
theorem dX1_compare_41 : decode cX1_compare 41 = .ok (.iload_n 2, 1) := by decide +kernel
theorem dX1_compare_42 : decode cX1_compare 42 = .ok (.putfield 25, 3) := by decide +kernel
theorem dX1_compare_45 : decode cX1_compare 45 = .ok (.return_, 1) := by decide +kernel
theorem dX1_unionOf_0 : decode cX1_unionOf 0 = .ok (.iconst 0, 1) := by decide +kernel
theorem dX1_unionOf_1 : decode cX1_unionOf 1 = .ok (.istore_n 2, 1) := by decide +kernel
theorem dX1_unionOf_2 : decode cX1_unionOf 2 = .ok (.iconst 0, 1) := by decide +kernel
theorem dX1_unionOf_3 : decode cX1_unionOf 3 = .ok (.istore_n 3, 1) := by decide +kernel
theorem dX1_unionOf_4 : decode cX1_unionOf 4 = .ok (.iload_n 3, 1) := by decide +kernel
theorem dX1_unionOf_5 : decode cX1_unionOf 5 = .ok (.aload_n 0, 1) := by decide +kernel
theorem dX1_unionOf_6 : decode cX1_unionOf 6 = .ok (.getfield 18, 3) := by decide +kernel
theorem dX1_unionOf_9 : decode cX1_unionOf 9 = .ok (.if_icmp .ge 26, 3) := by decide +kernel
theorem dX1_unionOf_12 : decode cX1_unionOf 12 = .ok (.iload_n 1, 1) := by decide +kernel
theorem dX1_unionOf_13 : decode cX1_unionOf 13 = .ok (.iload_n 3, 1) := by decide +kernel
theorem dX1_unionOf_14 : decode cX1_unionOf 14 = .ok (.ishr, 1) := by decide +kernel
theorem dX1_unionOf_15 : decode cX1_unionOf 15 = .ok (.iconst 1, 1) := by decide +kernel
theorem dX1_unionOf_16 : decode cX1_unionOf 16 = .ok (.iand, 1) := by decide +kernel
theorem dX1_unionOf_17 : decode cX1_unionOf 17 = .ok (.ifCond .eq 12, 3) := by decide +kernel
theorem dX1_unionOf_20 : decode cX1_unionOf 20 = .ok (.iload_n 2, 1) := by decide +kernel
theorem dX1_unionOf_21 : decode cX1_unionOf 21 = .ok (.aload_n 0, 1) := by decide +kernel
theorem dX1_unionOf_22 : decode cX1_unionOf 22 = .ok (.getfield 15, 3) := by decide +kernel
theorem dX1_unionOf_25 : decode cX1_unionOf 25 = .ok (.iload_n 3, 1) := by decide +kernel
theorem dX1_unionOf_26 : decode cX1_unionOf 26 = .ok (.iaload, 1) := by decide +kernel
theorem dX1_unionOf_27 : decode cX1_unionOf 27 = .ok (.ior, 1) := by decide +kernel
theorem dX1_unionOf_28 : decode cX1_unionOf 28 = .ok (.istore_n 2, 1) := by decide +kernel
theorem dX1_unionOf_29 : decode cX1_unionOf 29 = .ok (.iinc 3 1, 3) := by decide +kernel
theorem dX1_unionOf_32 : decode cX1_unionOf 32 = .ok (.goto (-28), 3) := by decide +kernel
theorem dX1_unionOf_35 : decode cX1_unionOf 35 = .ok (.iload_n 2, 1) := by decide +kernel
theorem dX1_unionOf_36 : decode cX1_unionOf 36 = .ok (.ireturn, 1) := by decide +kernel
theorem dX1_sizeBits_0 : decode cX1_sizeBits 0 = .ok (.iconst 0, 1) := by decide +kernel
theorem dX1_sizeBits_1 : decode cX1_sizeBits 1 = .ok (.istore_n 1, 1) := by decide +kernel
theorem dX1_sizeBits_2 : decode cX1_sizeBits 2 = .ok (.iconst 0, 1) := by decide +kernel
theorem dX1_sizeBits_3 : decode cX1_sizeBits 3 = .ok (.istore_n 2, 1) := by decide +kernel
theorem dX1_sizeBits_4 : decode cX1_sizeBits 4 = .ok (.iload_n 2, 1) := by decide +kernel
theorem dX1_sizeBits_5 : decode cX1_sizeBits 5 = .ok (.aload_n 0, 1) := by decide +kernel
theorem dX1_sizeBits_6 : decode cX1_sizeBits 6 = .ok (.getfield 18, 3) := by decide +kernel
theorem dX1_sizeBits_9 : decode cX1_sizeBits 9 = .ok (.if_icmp .ge 31, 3) := by decide +kernel
theorem dX1_sizeBits_12 : decode cX1_sizeBits 12 = .ok (.aload_n 0, 1) := by decide +kernel
theorem dX1_sizeBits_13 : decode cX1_sizeBits 13 = .ok (.getfield 22, 3) := by decide +kernel
theorem dX1_sizeBits_16 : decode cX1_sizeBits 16 = .ok (.iload_n 2, 1) := by decide +kernel
theorem dX1_sizeBits_17 : decode cX1_sizeBits 17 = .ok (.ishr, 1) := by decide +kernel
theorem dX1_sizeBits_18 : decode cX1_sizeBits 18 = .ok (.iconst 1, 1) := by decide +kernel
theorem dX1_sizeBits_19 : decode cX1_sizeBits 19 = .ok (.iand, 1) := by decide +kernel
theorem dX1_sizeBits_20 : decode cX1_sizeBits 20 = .ok (.ifCond .eq 14, 3) := by decide +kernel
theorem dX1_sizeBits_23 : decode cX1_sizeBits 23 = .ok (.iload_n 1, 1) := by decide +kernel
theorem dX1_sizeBits_24 : decode cX1_sizeBits 24 = .ok (.iconst 1, 1) := by decide +kernel
theorem dX1_sizeBits_25 : decode cX1_sizeBits 25 = .ok (.aload_n 0, 1) := by decide +kernel
theorem dX1_sizeBits_26 : decode cX1_sizeBits 26 = .ok (.getfield 9, 3) := by decide +kernel
theorem dX1_sizeBits_29 : decode cX1_sizeBits 29 = .ok (.iload_n 2, 1) := by decide +kernel
theorem dX1_sizeBits_30 : decode cX1_sizeBits 30 = .ok (.iaload, 1) := by decide +kernel
theorem dX1_sizeBits_31 : decode cX1_sizeBits 31 = .ok (.ishl, 1) := by decide +kernel
theorem dX1_sizeBits_32 : decode cX1_sizeBits 32 = .ok (.ior, 1) := by decide +kernel
theorem dX1_sizeBits_33 : decode cX1_sizeBits 33 = .ok (.istore_n 1, 1) := by decide +kernel
theorem dX1_sizeBits_34 : decode cX1_sizeBits 34 = .ok (.iinc 2 1, 3) := by decide +kernel
theorem dX1_sizeBits_37 : decode cX1_sizeBits 37 = .ok (.goto (-33), 3) := by decide +kernel
theorem dX1_sizeBits_40 : decode cX1_sizeBits 40 = .ok (.iload_n 1, 1) := by decide +kernel
theorem dX1_sizeBits_41 : decode cX1_sizeBits 41 = .ok (.ireturn, 1) := by decide +kernel
theorem dX2_add_0 : decode cX2_add 0 = .ok (.aload_n 0, 1) := by decide +kernel
theorem dX2_add_1 : decode cX2_add 1 = .ok (.getfield 27, 3) := by decide +kernel
theorem dX2_add_4 : decode cX2_add 4 = .ok (.bipush 60, 2) := by decide +kernel
theorem dX2_add_6 : decode cX2_add 6 = .ok (.if_icmp .lt 6, 3) := by decide +kernel
theorem dX2_add_9 : decode cX2_add 9 = .ok (.bipush (-3), 2) := by decide +kernel
theorem dX2_add_11 : decode cX2_add 11 = .ok (.ireturn, 1) := by decide +kernel
theorem dX2_add_12 : decode cX2_add 12 = .ok (.aload_n 0, 1) := by decide +kernel
theorem dX2_add_13 : decode cX2_add 13 = .ok (.getfield 9, 3) := by decide +kernel
theorem dX2_add_16 : decode cX2_add 16 = .ok (.aload_n 0, 1) := by decide +kernel
theorem dX2_add_17 : decode cX2_add 17 = .ok (.getfield 27, 3) := by decide +kernel
theorem dX2_add_20 : decode cX2_add 20 = .ok (.iload_n 1, 1) := by decide +kernel
theorem dX2_add_21 : decode cX2_add 21 = .ok (.iastore, 1) := by decide +kernel
theorem dX2_add_22 : decode cX2_add 22 = .ok (.aload_n 0, 1) := by decide +kernel
theorem dX2_add_23 : decode cX2_add 23 = .ok (.getfield 15, 3) := by decide +kernel
theorem dX2_add_26 : decode cX2_add 26 = .ok (.aload_n 0, 1) := by decide +kernel
theorem dX2_add_27 : decode cX2_add 27 = .ok (.getfield 27, 3) := by decide +kernel
theorem dX2_add_30 : decode cX2_add 30 = .ok (.iload_n 2, 1) := by decide +kernel
theorem dX2_add_31 : decode cX2_add 31 = .ok (.iastore, 1) := by decide +kernel
theorem dX2_add_32 : decode cX2_add 32 = .ok (.aload_n 0, 1) := by decide +kernel
theorem dX2_add_33 : decode cX2_add 33 = .ok (.getfield 18, 3) := by decide +kernel
theorem dX2_add_36 : decode cX2_add 36 = .ok (.aload_n 0, 1) := by decide +kernel
theorem dX2_add_37 : decode cX2_add 37 = .ok (.getfield 27, 3) := by decide +kernel
theorem dX2_add_40 : decode cX2_add 40 = .ok (.iload_n 3, 1) := by decide +kernel
theorem dX2_add_41 : decode cX2_add 41 = .ok (.iastore, 1) := by decide +kernel
theorem dX2_add_42 : decode cX2_add 42 = .ok (.aload_n 0, 1) := by decide +kernel
theorem dX2_add_43 : decode cX2_add 43 = .ok (.getfield 21, 3) := by decide +kernel
theorem dX2_add_46 : decode cX2_add 46 = .ok (.aload_n 0, 1) := by decide +kernel
theorem dX2_add_47 : decode cX2_add 47 = .ok (.getfield 27, 3) := by decide +kernel
theorem dX2_add_50 : decode cX2_add 50 = .ok (.iload 4, 2) := by decide +kernel
theorem dX2_add_52 : decode cX2_add 52 = .ok (.iastore, 1) := by decide +kernel
theorem dX2_add_53 : decode cX2_add 53 = .ok (.aload_n 0, 1) := by decide +kernel
theorem dX2_add_54 : decode cX2_add 54 = .ok (.getfield 24, 3) := by decide +kernel
theorem dX2_add_57 : decode cX2_add 57 = .ok (.aload_n 0, 1) := by decide +kernel
theorem dX2_add_58 : decode cX2_add 58 = .ok (.getfield 27, 3) := by decide +kernel
theorem dX2_add_61 : decode cX2_add 61 = .ok (.iload 5, 2) := by decide +kernel
theorem dX2_add_63 : decode cX2_add 63 = .ok (.iastore, 1) := by decide +kernel
theorem dX2_add_64 : decode cX2_add 64 = .ok (.aload_n 0, 1) := by decide +kernel
theorem dX2_add_65 : decode cX2_add 65 = .ok (.dup, 1) := by decide +kernel
theorem dX2_add_66 : decode cX2_add 66 = .ok (.getfield 27, 3) := by decide +kernel
theorem dX2_add_69 : decode cX2_add 69 = .ok (.iconst 1, 1) := by decide +kernel
theorem dX2_add_70 : decode cX2_add 70 = .ok (.iadd, 1) := by decide +kernel
theorem dX2_add_71 : decode cX2_add 71 = .ok (.putfield 27, 3) := by decide +kernel
theorem dX2_add_74 : decode cX2_add 74 = .ok (.aload_n 0, 1) := by decide +kernel
theorem dX2_add_75 : decode cX2_add 75 = .ok (.getfield 27, 3) := by decide +kernel
theorem dX2_add_78 : decode cX2_add 78 = .ok (.ireturn, 1) := by decide +kernel
theorem dX2_asKnown_0 : decode cX2_asKnown 0 = .ok (.iconst 0, 1) := by decide +kernel
theorem dX2_asKnown_1 : decode cX2_asKnown 1 = .ok (.istore 5, 2) := by decide +kernel
theorem dX2_asKnown_3 : decode cX2_asKnown 3 = .ok (.iconst (-1), 1) := by decide +kernel
theorem dX2_asKnown_4 : decode cX2_asKnown 4 = .ok (.istore 6, 2) := by decide +kernel
theorem dX2_asKnown_6 : decode cX2_asKnown 6 = .ok (.iconst 0, 1) := by decide +kernel
theorem dX2_asKnown_7 : decode cX2_asKnown 7 = .ok (.istore 7, 2) := by decide +kernel
theorem dX2_asKnown_9 : decode cX2_asKnown 9 = .ok (.iload 7, 2) := by decide +kernel
theorem dX2_asKnown_11 : decode cX2_asKnown 11 = .ok (.aload_n 0, 1) := by decide +kernel
theorem dX2_asKnown_12 : decode cX2_asKnown 12 = .ok (.getfield 27, 3) := by decide +kernel
theorem dX2_asKnown_15 : decode cX2_asKnown 15 = .ok (.if_icmp .ge 96, 3) := by decide +kernel
theorem dX2_asKnown_18 : decode cX2_asKnown 18 = .ok (.aload_n 0, 1) := by decide +kernel
theorem dX2_asKnown_19 : decode cX2_asKnown 19 = .ok (.getfield 9, 3) := by decide +kernel
theorem dX2_asKnown_22 : decode cX2_asKnown 22 = .ok (.iload 7, 2) := by decide +kernel
theorem dX2_asKnown_24 : decode cX2_asKnown 24 = .ok (.iaload, 1) := by decide +kernel
theorem dX2_asKnown_25 : decode cX2_asKnown 25 = .ok (.iload_n 1, 1) := by decide +kernel
theorem dX2_asKnown_26 : decode cX2_asKnown 26 = .ok (.if_icmp .ne 41, 3) := by decide +kernel
theorem dX2_asKnown_29 : decode cX2_asKnown 29 = .ok (.aload_n 0, 1) := by decide +kernel
theorem dX2_asKnown_30 : decode cX2_asKnown 30 = .ok (.getfield 15, 3) := by decide +kernel
theorem dX2_asKnown_33 : decode cX2_asKnown 33 = .ok (.iload 7, 2) := by decide +kernel
theorem dX2_asKnown_35 : decode cX2_asKnown 35 = .ok (.iaload, 1) := by decide +kernel
theorem dX2_asKnown_36 : decode cX2_asKnown 36 = .ok (.iload_n 2, 1) := by decide +kernel
theorem dX2_asKnown_37 : decode cX2_asKnown 37 = .ok (.if_icmp .ne 30, 3) := by decide +kernel
theorem dX2_asKnown_40 : decode cX2_asKnown 40 = .ok (.aload_n 0, 1) := by decide +kernel
theorem dX2_asKnown_41 : decode cX2_asKnown 41 = .ok (.getfield 24, 3) := by decide +kernel
theorem dX2_asKnown_44 : decode cX2_asKnown 44 = .ok (.iload 7, 2) := by decide +kernel
theorem dX2_asKnown_46 : decode cX2_asKnown 46 = .ok (.iaload, 1) := by decide +kernel
theorem dX2_asKnown_47 : decode cX2_asKnown 47 = .ok (.iload_n 3, 1) := by decide +kernel
theorem dX2_asKnown_48 : decode cX2_asKnown 48 = .ok (.if_icmp .gt 19, 3) := by decide +kernel
theorem dX2_asKnown_51 : decode cX2_asKnown 51 = .ok (.aload_n 0, 1) := by decide +kernel
theorem dX2_asKnown_52 : decode cX2_asKnown 52 = .ok (.getfield 21, 3) := by decide +kernel
theorem dX2_asKnown_55 : decode cX2_asKnown 55 = .ok (.iload 7, 2) := by decide +kernel
theorem dX2_asKnown_57 : decode cX2_asKnown 57 = .ok (.iaload, 1) := by decide +kernel
theorem dX2_asKnown_58 : decode cX2_asKnown 58 = .ok (.iload 4, 2) := by decide +kernel
theorem dX2_asKnown_60 : decode cX2_asKnown 60 = .ok (.if_icmp .gt 7, 3) := by decide +kernel
theorem dX2_asKnown_63 : decode cX2_asKnown 63 = .ok (.iconst 1, 1) := by decide +kernel
theorem dX2_asKnown_64 : decode cX2_asKnown 64 = .ok (.goto 4, 3) := by decide +kernel
theorem dX2_asKnown_67 : decode cX2_asKnown 67 = .ok (.iconst 0, 1) := by decide +kernel
theorem dX2_asKnown_68 : decode cX2_asKnown 68 = .ok (.istore 8, 2) := by decide +kernel
theorem dX2_asKnown_70 : decode cX2_asKnown 70 = .ok (.iload 8, 2) := by decide +kernel
theorem dX2_asKnown_72 : decode cX2_asKnown 72 = .ok (.ifCond .eq 33, 3) := by decide +kernel
theorem dX2_asKnown_75 : decode cX2_asKnown 75 = .ok (.aload_n 0, 1) := by decide +kernel
theorem dX2_asKnown_76 : decode cX2_asKnown 76 = .ok (.getfield 21, 3) := by decide +kernel
theorem dX2_asKnown_79 : decode cX2_asKnown 79 = .ok (.iload 7, 2) := by decide +kernel
theorem dX2_asKnown_81 : decode cX2_asKnown 81 = .ok (.iaload, 1) := by decide +kernel
theorem dX2_asKnown_82 : decode cX2_asKnown 82 = .ok (.iload 6, 2) := by decide +kernel
theorem dX2_asKnown_84 : decode cX2_asKnown 84 = .ok (.if_icmp .lt 21, 3) := by decide +kernel
theorem dX2_asKnown_87 : decode cX2_asKnown 87 = .ok (.aload_n 0, 1) := by decide +kernel
theorem dX2_asKnown_88 : decode cX2_asKnown 88 = .ok (.getfield 18, 3) := by decide +kernel
theorem dX2_asKnown_91 : decode cX2_asKnown 91 = .ok (.iload 7, 2) := by decide +kernel
theorem dX2_asKnown_93 : decode cX2_asKnown 93 = .ok (.iaload, 1) := by decide +kernel
theorem dX2_asKnown_94 : decode cX2_asKnown 94 = .ok (.istore 5, 2) := by decide +kernel
theorem dX2_asKnown_96 : decode cX2_asKnown 96 = .ok (.aload_n 0, 1) := by decide +kernel
theorem dX2_asKnown_97 : decode cX2_asKnown 97 = .ok (.getfield 21, 3) := by decide +kernel
theorem dX2_asKnown_100 : decode cX2_asKnown 100 = .ok (.iload 7, 2) := by decide +kernel
theorem dX2_asKnown_102 : decode cX2_asKnown 102 = .ok (.iaload, 1) := by decide +kernel
theorem dX2_asKnown_103 : decode cX2_asKnown 103 = .ok (.istore 6, 2) := by decide +kernel
theorem dX2_asKnown_105 : decode cX2_asKnown 105 = .ok (.iinc 7 1, 3) := by decide +kernel
theorem dX2_asKnown_108 : decode cX2_asKnown 108 = .ok (.goto (-99), 3) := by decide +kernel
theorem dX2_asKnown_111 : decode cX2_asKnown 111 = .ok (.iload 5, 2) := by decide +kernel
theorem dX2_asKnown_113 : decode cX2_asKnown 113 = .ok (.ireturn, 1) := by decide +kernel
theorem dX3_clear_0 : decode cX3_clear 0 = .ok (.aload_n 0, 1) := by decide +kernel
theorem dX3_clear_1 : decode cX3_clear 1 = .ok (.iload_n 1, 1) := by decide +kernel
theorem dX3_clear_2 : decode cX3_clear 2 = .ok (.bipush 12, 2) := by decide +kernel
theorem dX3_clear_4 : decode cX3_clear 4 = .ok (.invokestatic 28, 3) := by decide +kernel
theorem dX3_clear_7 : decode cX3_clear 7 = .ok (.putfield 34, 3) := by decide +kernel
theorem dX3_clear_10 : decode cX3_clear 10 = .ok (.aload_n 0, 1) := by decide +kernel
theorem dX3_clear_11 : decode cX3_clear 11 = .ok (.getfield 11, 3) := by decide +kernel
theorem dX3_clear_14 : decode cX3_clear 14 = .ok (.lconst 0, 1) := by decide +kernel
theorem dX3_clear_15 : decode cX3_clear 15 = .ok (.invokestatic 38, 3) := by decide +kernel
theorem dX3_clear_18 : decode cX3_clear 18 = .ok (.aload_n 0, 1) := by decide +kernel
theorem dX3_clear_19 : decode cX3_clear 19 = .ok (.getfield 25, 3) := by decide +kernel
theorem dX3_clear_22 : decode cX3_clear 22 = .ok (.lconst 0, 1) := by decide +kernel
theorem dX3_clear_23 : decode cX3_clear 23 = .ok (.invokestatic 38, 3) := by decide +kernel
theorem dX3_clear_26 : decode cX3_clear 26 = .ok (.return_, 1) := by decide +kernel
theorem dX3_offer_0 : decode cX3_offer 0 = .ok (.aload_n 0, 1) := by decide +kernel
theorem dX3_offer_1 : decode cX3_offer 1 = .ok (.getfield 25, 3) := by decide +kernel
theorem dX3_offer_4 : decode cX3_offer 4 = .ok (.iload_n 2, 1) := by decide +kernel
theorem dX3_offer_5 : decode cX3_offer 5 = .ok (.dup2, 1) := by decide +kernel
theorem dX3_offer_6 : decode cX3_offer 6 = .ok (.laload, 1) := by decide +kernel
theorem dX3_offer_7 : decode cX3_offer 7 = .ok (.lconst 1, 1) := by decide +kernel
theorem dX3_offer_8 : decode cX3_offer 8 = .ok (.iload_n 1, 1) := by decide +kernel
theorem dX3_offer_9 : decode cX3_offer 9 = .ok (.lshl, 1) := by decide +kernel
theorem dX3_offer_10 : decode cX3_offer 10 = .ok (.lor, 1) := by decide +kernel
theorem dX3_offer_11 : decode cX3_offer 11 = .ok (.lastore, 1) := by decide +kernel
theorem dX3_offer_12 : decode cX3_offer 12 = .ok (.iconst 0, 1) := by decide +kernel
theorem dX3_offer_13 : decode cX3_offer 13 = .ok (.istore 4, 2) := by decide +kernel
theorem dX3_offer_15 : decode cX3_offer 15 = .ok (.iload 4, 2) := by decide +kernel
theorem dX3_offer_17 : decode cX3_offer 17 = .ok (.aload_n 0, 1) := by decide +kernel
theorem dX3_offer_18 : decode cX3_offer 18 = .ok (.getfield 34, 3) := by decide +kernel
theorem dX3_offer_21 : decode cX3_offer 21 = .ok (.if_icmp .ge 31, 3) := by decide +kernel
theorem dX3_offer_24 : decode cX3_offer 24 = .ok (.iload_n 3, 1) := by decide +kernel
theorem dX3_offer_25 : decode cX3_offer 25 = .ok (.iload 4, 2) := by decide +kernel
theorem dX3_offer_27 : decode cX3_offer 27 = .ok (.ishr, 1) := by decide +kernel
theorem dX3_offer_28 : decode cX3_offer 28 = .ok (.iconst 1, 1) := by decide +kernel
theorem dX3_offer_29 : decode cX3_offer 29 = .ok (.iand, 1) := by decide +kernel
theorem dX3_offer_30 : decode cX3_offer 30 = .ok (.ifCond .eq 16, 3) := by decide +kernel
theorem dX3_offer_33 : decode cX3_offer 33 = .ok (.aload_n 0, 1) := by decide +kernel
theorem dX3_offer_34 : decode cX3_offer 34 = .ok (.getfield 11, 3) := by decide +kernel
theorem dX3_offer_37 : decode cX3_offer 37 = .ok (.iload 4, 2) := by decide +kernel
theorem dX3_offer_39 : decode cX3_offer 39 = .ok (.dup2, 1) := by decide +kernel
theorem dX3_offer_40 : decode cX3_offer 40 = .ok (.laload, 1) := by decide +kernel
theorem dX3_offer_41 : decode cX3_offer 41 = .ok (.lconst 1, 1) := by decide +kernel
theorem dX3_offer_42 : decode cX3_offer 42 = .ok (.iload_n 1, 1) := by decide +kernel
theorem dX3_offer_43 : decode cX3_offer 43 = .ok (.lshl, 1) := by decide +kernel
theorem dX3_offer_44 : decode cX3_offer 44 = .ok (.lor, 1) := by decide +kernel
theorem dX3_offer_45 : decode cX3_offer 45 = .ok (.lastore, 1) := by decide +kernel
theorem dX3_offer_46 : decode cX3_offer 46 = .ok (.iinc 4 1, 3) := by decide +kernel
theorem dX3_offer_49 : decode cX3_offer 49 = .ok (.goto (-34), 3) := by decide +kernel
theorem dX3_offer_52 : decode cX3_offer 52 = .ok (.return_, 1) := by decide +kernel
theorem dX3_findShade_0 : decode cX3_findShade 0 = .ok (.aload_n 0, 1) := by decide +kernel
theorem dX3_findShade_1 : decode cX3_findShade 1 = .ok (.iconst 0, 1) := by decide +kernel
theorem dX3_findShade_2 : decode cX3_findShade 2 = .ok (.putfield 44, 3) := by decide +kernel
theorem dX3_findShade_5 : decode cX3_findShade 5 = .ok (.aload_n 0, 1) := by decide +kernel
theorem dX3_findShade_6 : decode cX3_findShade 6 = .ok (.iconst 0, 1) := by decide +kernel
theorem dX3_findShade_7 : decode cX3_findShade 7 = .ok (.putfield 47, 3) := by decide +kernel
theorem dX3_findShade_10 : decode cX3_findShade 10 = .ok (.aload_n 0, 1) := by decide +kernel
theorem dX3_findShade_11 : decode cX3_findShade 11 = .ok (.lconst 0, 1) := by decide +kernel
theorem dX3_findShade_12 : decode cX3_findShade 12 = .ok (.putfield 50, 3) := by decide +kernel
theorem dX3_findShade_15 : decode cX3_findShade 15 = .ok (.lconst 0, 1) := by decide +kernel
theorem dX3_findShade_16 : decode cX3_findShade 16 = .ok (.lstore_n 2, 1) := by decide +kernel
theorem dX3_findShade_17 : decode cX3_findShade 17 = .ok (.iconst 0, 1) := by decide +kernel
theorem dX3_findShade_18 : decode cX3_findShade 18 = .ok (.istore 4, 2) := by decide +kernel
theorem dX3_findShade_20 : decode cX3_findShade 20 = .ok (.iload 4, 2) := by decide +kernel
theorem dX3_findShade_22 : decode cX3_findShade 22 = .ok (.bipush 100, 2) := by decide +kernel
theorem dX3_findShade_24 : decode cX3_findShade 24 = .ok (.if_icmp .ge 48, 3) := by decide +kernel
theorem dX3_findShade_27 : decode cX3_findShade 27 = .ok (.aload_n 0, 1) := by decide +kernel
theorem dX3_findShade_28 : decode cX3_findShade 28 = .ok (.iload 4, 2) := by decide +kernel
theorem dX3_findShade_30 : decode cX3_findShade 30 = .ok (.iload_n 1, 1) := by decide +kernel
theorem dX3_findShade_31 : decode cX3_findShade 31 = .ok (.invokevirtual 54, 3) := by decide +kernel
theorem dX3_findShade_34 : decode cX3_findShade 34 = .ok (.lstore 5, 2) := by decide +kernel
theorem dX3_findShade_36 : decode cX3_findShade 36 = .ok (.lload 5, 2) := by decide +kernel
theorem dX3_findShade_38 : decode cX3_findShade 38 = .ok (.lload_n 2, 1) := by decide +kernel
theorem dX3_findShade_39 : decode cX3_findShade 39 = .ok (.lcmp, 1) := by decide +kernel
theorem dX3_findShade_40 : decode cX3_findShade 40 = .ok (.ifCond .eq 23, 3) := by decide +kernel
theorem dX3_findShade_43 : decode cX3_findShade 43 = .ok (.lload 5, 2) := by decide +kernel
theorem dX3_findShade_45 : decode cX3_findShade 45 = .ok (.invokestatic 58, 3) := by decide +kernel
theorem dX3_findShade_48 : decode cX3_findShade 48 = .ok (.aload_n 0, 1) := by decide +kernel
theorem dX3_findShade_49 : decode cX3_findShade 49 = .ok (.getfield 44, 3) := by decide +kernel
theorem dX3_findShade_52 : decode cX3_findShade 52 = .ok (.if_icmp .le 11, 3) := by decide +kernel
theorem dX3_findShade_55 : decode cX3_findShade 55 = .ok (.aload_n 0, 1) := by decide +kernel
theorem dX3_findShade_56 : decode cX3_findShade 56 = .ok (.iload 4, 2) := by decide +kernel
theorem dX3_findShade_58 : decode cX3_findShade 58 = .ok (.lload 5, 2) := by decide +kernel
theorem dX3_findShade_60 : decode cX3_findShade 60 = .ok (.invokevirtual 64, 3) := by decide +kernel
theorem dX3_findShade_63 : decode cX3_findShade 63 = .ok (.lload 5, 2) := by decide +kernel
theorem dX3_findShade_65 : decode cX3_findShade 65 = .ok (.lstore_n 2, 1) := by decide +kernel
theorem dX3_findShade_66 : decode cX3_findShade 66 = .ok (.iinc 4 1, 3) := by decide +kernel
theorem dX3_findShade_69 : decode cX3_findShade 69 = .ok (.goto (-49), 3) := by decide +kernel
theorem dX3_findShade_72 : decode cX3_findShade 72 = .ok (.return_, 1) := by decide +kernel
theorem dX3_keepBetter_0 : decode cX3_keepBetter 0 = .ok (.aload_n 0, 1) := by decide +kernel
theorem dX3_keepBetter_1 : decode cX3_keepBetter 1 = .ok (.iconst 0, 1) := by decide +kernel
theorem dX3_keepBetter_2 : decode cX3_keepBetter 2 = .ok (.lload_n 2, 1) := by decide +kernel
theorem dX3_keepBetter_3 : decode cX3_keepBetter 3 = .ok (.invokevirtual 68, 3) := by decide +kernel
theorem dX3_keepBetter_6 : decode cX3_keepBetter 6 = .ok (.istore 4, 2) := by decide +kernel
theorem dX3_keepBetter_8 : decode cX3_keepBetter 8 = .ok (.iload 4, 2) := by decide +kernel
theorem dX3_keepBetter_10 : decode cX3_keepBetter 10 = .ok (.aload_n 0, 1) := by decide +kernel
theorem dX3_keepBetter_11 : decode cX3_keepBetter 11 = .ok (.getfield 44, 3) := by decide +kernel
theorem dX3_keepBetter_14 : decode cX3_keepBetter 14 = .ok (.if_icmp .le 19, 3) := by decide +kernel
theorem dX3_keepBetter_17 : decode cX3_keepBetter 17 = .ok (.aload_n 0, 1) := by decide +kernel
theorem dX3_keepBetter_18 : decode cX3_keepBetter 18 = .ok (.iload 4, 2) := by decide +kernel
theorem dX3_keepBetter_20 : decode cX3_keepBetter 20 = .ok (.putfield 44, 3) := by decide +kernel
theorem dX3_keepBetter_23 : decode cX3_keepBetter 23 = .ok (.aload_n 0, 1) := by decide +kernel
theorem dX3_keepBetter_24 : decode cX3_keepBetter 24 = .ok (.iload_n 1, 1) := by decide +kernel
theorem dX3_keepBetter_25 : decode cX3_keepBetter 25 = .ok (.putfield 47, 3) := by decide +kernel
theorem dX3_keepBetter_28 : decode cX3_keepBetter 28 = .ok (.aload_n 0, 1) := by decide +kernel
theorem dX3_keepBetter_29 : decode cX3_keepBetter 29 = .ok (.lload_n 2, 1) := by decide +kernel
theorem dX3_keepBetter_30 : decode cX3_keepBetter 30 = .ok (.putfield 50, 3) := by decide +kernel
theorem dX3_keepBetter_33 : decode cX3_keepBetter 33 = .ok (.return_, 1) := by decide +kernel
theorem dX3_windowFrom_0 : decode cX3_windowFrom 0 = .ok (.lconst 0, 1) := by decide +kernel
theorem dX3_windowFrom_1 : decode cX3_windowFrom 1 = .ok (.lstore_n 3, 1) := by decide +kernel
theorem dX3_windowFrom_2 : decode cX3_windowFrom 2 = .ok (.iload_n 1, 1) := by decide +kernel
theorem dX3_windowFrom_3 : decode cX3_windowFrom 3 = .ok (.istore 5, 2) := by decide +kernel
theorem dX3_windowFrom_5 : decode cX3_windowFrom 5 = .ok (.iload 5, 2) := by decide +kernel
theorem dX3_windowFrom_7 : decode cX3_windowFrom 7 = .ok (.iload_n 1, 1) := by decide +kernel
theorem dX3_windowFrom_8 : decode cX3_windowFrom 8 = .ok (.iload_n 2, 1) := by decide +kernel
theorem dX3_windowFrom_9 : decode cX3_windowFrom 9 = .ok (.iadd, 1) := by decide +kernel
theorem dX3_windowFrom_10 : decode cX3_windowFrom 10 = .ok (.if_icmp .gt 26, 3) := by decide +kernel
theorem dX3_windowFrom_13 : decode cX3_windowFrom 13 = .ok (.iload 5, 2) := by decide +kernel
theorem dX3_windowFrom_15 : decode cX3_windowFrom 15 = .ok (.bipush 100, 2) := by decide +kernel
theorem dX3_windowFrom_17 : decode cX3_windowFrom 17 = .ok (.if_icmp .ge 19, 3) := by decide +kernel
theorem dX3_windowFrom_20 : decode cX3_windowFrom 20 = .ok (.lload_n 3, 1) := by decide +kernel
theorem dX3_windowFrom_21 : decode cX3_windowFrom 21 = .ok (.aload_n 0, 1) := by decide +kernel
theorem dX3_windowFrom_22 : decode cX3_windowFrom 22 = .ok (.getfield 25, 3) := by decide +kernel
theorem dX3_windowFrom_25 : decode cX3_windowFrom 25 = .ok (.iload 5, 2) := by decide +kernel
theorem dX3_windowFrom_27 : decode cX3_windowFrom 27 = .ok (.laload, 1) := by decide +kernel
theorem dX3_windowFrom_28 : decode cX3_windowFrom 28 = .ok (.lor, 1) := by decide +kernel
theorem dX3_windowFrom_29 : decode cX3_windowFrom 29 = .ok (.lstore_n 3, 1) := by decide +kernel
theorem dX3_windowFrom_30 : decode cX3_windowFrom 30 = .ok (.iinc 5 1, 3) := by decide +kernel
theorem dX3_windowFrom_33 : decode cX3_windowFrom 33 = .ok (.goto (-28), 3) := by decide +kernel
theorem dX3_windowFrom_36 : decode cX3_windowFrom 36 = .ok (.lload_n 3, 1) := by decide +kernel
theorem dX3_windowFrom_37 : decode cX3_windowFrom 37 = .ok (.lreturn, 1) := by decide +kernel
theorem dX3_pieceFor_0 : decode cX3_pieceFor 0 = .ok (.aload_n 0, 1) := by decide +kernel
theorem dX3_pieceFor_1 : decode cX3_pieceFor 1 = .ok (.getfield 50, 3) := by decide +kernel
theorem dX3_pieceFor_4 : decode cX3_pieceFor 4 = .ok (.lstore_n 2, 1) := by decide +kernel
theorem dX3_pieceFor_5 : decode cX3_pieceFor 5 = .ok (.aload_n 0, 1) := by decide +kernel
theorem dX3_pieceFor_6 : decode cX3_pieceFor 6 = .ok (.getfield 44, 3) := by decide +kernel
theorem dX3_pieceFor_9 : decode cX3_pieceFor 9 = .ok (.istore 4, 2) := by decide +kernel
theorem dX3_pieceFor_11 : decode cX3_pieceFor 11 = .ok (.bipush (-4), 2) := by decide +kernel
theorem dX3_pieceFor_13 : decode cX3_pieceFor 13 = .ok (.istore 5, 2) := by decide +kernel
theorem dX3_pieceFor_15 : decode cX3_pieceFor 15 = .ok (.iconst 0, 1) := by decide +kernel
theorem dX3_pieceFor_16 : decode cX3_pieceFor 16 = .ok (.istore 6, 2) := by decide +kernel
theorem dX3_pieceFor_18 : decode cX3_pieceFor 18 = .ok (.iload 6, 2) := by decide +kernel
theorem dX3_pieceFor_20 : decode cX3_pieceFor 20 = .ok (.iload_n 1, 1) := by decide +kernel
theorem dX3_pieceFor_21 : decode cX3_pieceFor 21 = .ok (.if_icmp .gt 48, 3) := by decide +kernel
theorem dX3_pieceFor_24 : decode cX3_pieceFor 24 = .ok (.iload 6, 2) := by decide +kernel
theorem dX3_pieceFor_26 : decode cX3_pieceFor 26 = .ok (.aload_n 0, 1) := by decide +kernel
theorem dX3_pieceFor_27 : decode cX3_pieceFor 27 = .ok (.getfield 34, 3) := by decide +kernel
theorem dX3_pieceFor_30 : decode cX3_pieceFor 30 = .ok (.if_icmp .ge 39, 3) := by decide +kernel
theorem dX3_pieceFor_33 : decode cX3_pieceFor 33 = .ok (.aload_n 0, 1) := by decide +kernel
theorem dX3_pieceFor_34 : decode cX3_pieceFor 34 = .ok (.iload 6, 2) := by decide +kernel
theorem dX3_pieceFor_36 : decode cX3_pieceFor 36 = .ok (.lload_n 2, 1) := by decide +kernel
theorem dX3_pieceFor_37 : decode cX3_pieceFor 37 = .ok (.iload 4, 2) := by decide +kernel
theorem dX3_pieceFor_39 : decode cX3_pieceFor 39 = .ok (.invokevirtual 72, 3) := by decide +kernel
theorem dX3_pieceFor_42 : decode cX3_pieceFor 42 = .ok (.istore 5, 2) := by decide +kernel
theorem dX3_pieceFor_44 : decode cX3_pieceFor 44 = .ok (.iload 5, 2) := by decide +kernel
theorem dX3_pieceFor_46 : decode cX3_pieceFor 46 = .ok (.ifCond .lt 17, 3) := by decide +kernel
theorem dX3_pieceFor_49 : decode cX3_pieceFor 49 = .ok (.lload_n 2, 1) := by decide +kernel
theorem dX3_pieceFor_50 : decode cX3_pieceFor 50 = .ok (.lconst 1, 1) := by decide +kernel
theorem dX3_pieceFor_51 : decode cX3_pieceFor 51 = .ok (.iload 5, 2) := by decide +kernel
theorem dX3_pieceFor_53 : decode cX3_pieceFor 53 = .ok (.lshl, 1) := by decide +kernel
theorem dX3_pieceFor_54 : decode cX3_pieceFor 54 = .ok (.ldc2_w 76, 3) := by decide +kernel
theorem dX3_pieceFor_57 : decode cX3_pieceFor 57 = .ok (.lxor, 1) := by decide +kernel
theorem dX3_pieceFor_58 : decode cX3_pieceFor 58 = .ok (.land, 1) := by decide +kernel
theorem dX3_pieceFor_59 : decode cX3_pieceFor 59 = .ok (.lstore_n 2, 1) := by decide +kernel
theorem dX3_pieceFor_60 : decode cX3_pieceFor 60 = .ok (.iinc 4 (-1), 3) := by decide +kernel
theorem dX3_pieceFor_63 : decode cX3_pieceFor 63 = .ok (.iinc 6 1, 3) := by decide +kernel
theorem dX3_pieceFor_66 : decode cX3_pieceFor 66 = .ok (.goto (-48), 3) := by decide +kernel
theorem dX3_pieceFor_69 : decode cX3_pieceFor 69 = .ok (.iload 5, 2) := by decide +kernel
theorem dX3_pieceFor_71 : decode cX3_pieceFor 71 = .ok (.ireturn, 1) := by decide +kernel
theorem dX3_leastPiece_0 : decode cX3_leastPiece 0 = .ok (.aload_n 0, 1) := by decide +kernel
theorem dX3_leastPiece_1 : decode cX3_leastPiece 1 = .ok (.getfield 11, 3) := by decide +kernel
theorem dX3_leastPiece_4 : decode cX3_leastPiece 4 = .ok (.iload_n 1, 1) := by decide +kernel
theorem dX3_leastPiece_5 : decode cX3_leastPiece 5 = .ok (.laload, 1) := by decide +kernel
theorem dX3_leastPiece_6 : decode cX3_leastPiece 6 = .ok (.lload_n 2, 1) := by decide +kernel
theorem dX3_leastPiece_7 : decode cX3_leastPiece 7 = .ok (.land, 1) := by decide +kernel
theorem dX3_leastPiece_8 : decode cX3_leastPiece 8 = .ok (.lstore 5, 2) := by decide +kernel
theorem dX3_leastPiece_10 : decode cX3_leastPiece 10 = .ok (.iconst 0, 1) := by decide +kernel
theorem dX3_leastPiece_11 : decode cX3_leastPiece 11 = .ok (.istore 7, 2) := by decide +kernel
theorem dX3_leastPiece_13 : decode cX3_leastPiece 13 = .ok (.iload 7, 2) := by decide +kernel
theorem dX3_leastPiece_15 : decode cX3_leastPiece 15 = .ok (.bipush 36, 2) := by decide +kernel
theorem dX3_leastPiece_17 : decode cX3_leastPiece 17 = .ok (.if_icmp .ge 65, 3) := by decide +kernel
theorem dX3_leastPiece_20 : decode cX3_leastPiece 20 = .ok (.lload 5, 2) := by decide +kernel
theorem dX3_leastPiece_22 : decode cX3_leastPiece 22 = .ok (.lconst 0, 1) := by decide +kernel
theorem dX3_leastPiece_23 : decode cX3_leastPiece 23 = .ok (.lcmp, 1) := by decide +kernel
theorem dX3_leastPiece_24 : decode cX3_leastPiece 24 = .ok (.ifCond .eq 58, 3) := by decide +kernel
theorem dX3_leastPiece_27 : decode cX3_leastPiece 27 = .ok (.lload 5, 2) := by decide +kernel
theorem dX3_leastPiece_29 : decode cX3_leastPiece 29 = .ok (.lload 5, 2) := by decide +kernel
theorem dX3_leastPiece_31 : decode cX3_leastPiece 31 = .ok (.lneg, 1) := by decide +kernel
theorem dX3_leastPiece_32 : decode cX3_leastPiece 32 = .ok (.land, 1) := by decide +kernel
theorem dX3_leastPiece_33 : decode cX3_leastPiece 33 = .ok (.lstore 8, 2) := by decide +kernel
theorem dX3_leastPiece_35 : decode cX3_leastPiece 35 = .ok (.aload_n 0, 1) := by decide +kernel
theorem dX3_leastPiece_36 : decode cX3_leastPiece 36 = .ok (.iload_n 1, 1) := by decide +kernel
theorem dX3_leastPiece_37 : decode cX3_leastPiece 37 = .ok (.iconst 1, 1) := by decide +kernel
theorem dX3_leastPiece_38 : decode cX3_leastPiece 38 = .ok (.iadd, 1) := by decide +kernel
theorem dX3_leastPiece_39 : decode cX3_leastPiece 39 = .ok (.lload_n 2, 1) := by decide +kernel
theorem dX3_leastPiece_40 : decode cX3_leastPiece 40 = .ok (.lload 8, 2) := by decide +kernel
theorem dX3_leastPiece_42 : decode cX3_leastPiece 42 = .ok (.ldc2_w 76, 3) := by decide +kernel
theorem dX3_leastPiece_45 : decode cX3_leastPiece 45 = .ok (.lxor, 1) := by decide +kernel
theorem dX3_leastPiece_46 : decode cX3_leastPiece 46 = .ok (.land, 1) := by decide +kernel
theorem dX3_leastPiece_47 : decode cX3_leastPiece 47 = .ok (.invokevirtual 68, 3) := by decide +kernel
theorem dX3_leastPiece_50 : decode cX3_leastPiece 50 = .ok (.iload 4, 2) := by decide +kernel
theorem dX3_leastPiece_52 : decode cX3_leastPiece 52 = .ok (.iconst 1, 1) := by decide +kernel
theorem dX3_leastPiece_53 : decode cX3_leastPiece 53 = .ok (.isub, 1) := by decide +kernel
theorem dX3_leastPiece_54 : decode cX3_leastPiece 54 = .ok (.if_icmp .ne 11, 3) := by decide +kernel
theorem dX3_leastPiece_57 : decode cX3_leastPiece 57 = .ok (.lload 8, 2) := by decide +kernel
theorem dX3_leastPiece_59 : decode cX3_leastPiece 59 = .ok (.lconst 1, 1) := by decide +kernel
theorem dX3_leastPiece_60 : decode cX3_leastPiece 60 = .ok (.lsub, 1) := by decide +kernel
theorem dX3_leastPiece_61 : decode cX3_leastPiece 61 = .ok (.invokestatic 58, 3) := by decide +kernel
theorem dX3_leastPiece_64 : decode cX3_leastPiece 64 = .ok (.ireturn, 1) := by decide +kernel
theorem dX3_leastPiece_65 : decode cX3_leastPiece 65 = .ok (.lload 5, 2) := by decide +kernel
theorem dX3_leastPiece_67 : decode cX3_leastPiece 67 = .ok (.lload 8, 2) := by decide +kernel
theorem dX3_leastPiece_69 : decode cX3_leastPiece 69 = .ok (.ldc2_w 76, 3) := by decide +kernel
theorem dX3_leastPiece_72 : decode cX3_leastPiece 72 = .ok (.lxor, 1) := by decide +kernel
theorem dX3_leastPiece_73 : decode cX3_leastPiece 73 = .ok (.land, 1) := by decide +kernel
theorem dX3_leastPiece_74 : decode cX3_leastPiece 74 = .ok (.lstore 5, 2) := by decide +kernel
theorem dX3_leastPiece_76 : decode cX3_leastPiece 76 = .ok (.iinc 7 1, 3) := by decide +kernel
theorem dX3_leastPiece_79 : decode cX3_leastPiece 79 = .ok (.goto (-66), 3) := by decide +kernel
theorem dX3_leastPiece_82 : decode cX3_leastPiece 82 = .ok (.bipush (-4), 2) := by decide +kernel
theorem dX3_leastPiece_84 : decode cX3_leastPiece 84 = .ok (.ireturn, 1) := by decide +kernel
theorem dX3_dressable_0 : decode cX3_dressable 0 = .ok (.aload_n 0, 1) := by decide +kernel
theorem dX3_dressable_1 : decode cX3_dressable 1 = .ok (.getfield 15, 3) := by decide +kernel
theorem dX3_dressable_4 : decode cX3_dressable 4 = .ok (.iconst (-1), 1) := by decide +kernel
theorem dX3_dressable_5 : decode cX3_dressable 5 = .ok (.invokestatic 78, 3) := by decide +kernel
theorem dX3_dressable_8 : decode cX3_dressable 8 = .ok (.aload_n 0, 1) := by decide +kernel
theorem dX3_dressable_9 : decode cX3_dressable 9 = .ok (.getfield 19, 3) := by decide +kernel
theorem dX3_dressable_12 : decode cX3_dressable 12 = .ok (.iconst (-1), 1) := by decide +kernel
theorem dX3_dressable_13 : decode cX3_dressable 13 = .ok (.invokestatic 78, 3) := by decide +kernel
theorem dX3_dressable_16 : decode cX3_dressable 16 = .ok (.iconst 0, 1) := by decide +kernel
theorem dX3_dressable_17 : decode cX3_dressable 17 = .ok (.istore 4, 2) := by decide +kernel
theorem dX3_dressable_19 : decode cX3_dressable 19 = .ok (.iload_n 1, 1) := by decide +kernel
theorem dX3_dressable_20 : decode cX3_dressable 20 = .ok (.istore 5, 2) := by decide +kernel
theorem dX3_dressable_22 : decode cX3_dressable 22 = .ok (.iload 5, 2) := by decide +kernel
theorem dX3_dressable_24 : decode cX3_dressable 24 = .ok (.aload_n 0, 1) := by decide +kernel
theorem dX3_dressable_25 : decode cX3_dressable 25 = .ok (.getfield 34, 3) := by decide +kernel
theorem dX3_dressable_28 : decode cX3_dressable 28 = .ok (.if_icmp .ge 29, 3) := by decide +kernel
theorem dX3_dressable_31 : decode cX3_dressable 31 = .ok (.iload 4, 2) := by decide +kernel
theorem dX3_dressable_33 : decode cX3_dressable 33 = .ok (.aload_n 0, 1) := by decide +kernel
theorem dX3_dressable_34 : decode cX3_dressable 34 = .ok (.iload 5, 2) := by decide +kernel
theorem dX3_dressable_36 : decode cX3_dressable 36 = .ok (.lload_n 2, 1) := by decide +kernel
theorem dX3_dressable_37 : decode cX3_dressable 37 = .ok (.invokevirtual 81, 3) := by decide +kernel
theorem dX3_dressable_40 : decode cX3_dressable 40 = .ok (.ifCond .eq 7, 3) := by decide +kernel
theorem dX3_dressable_43 : decode cX3_dressable 43 = .ok (.iconst 1, 1) := by decide +kernel
theorem dX3_dressable_44 : decode cX3_dressable 44 = .ok (.goto 4, 3) := by decide +kernel
theorem dX3_dressable_47 : decode cX3_dressable 47 = .ok (.iconst 0, 1) := by decide +kernel
theorem dX3_dressable_48 : decode cX3_dressable 48 = .ok (.iadd, 1) := by decide +kernel
theorem dX3_dressable_49 : decode cX3_dressable 49 = .ok (.istore 4, 2) := by decide +kernel
theorem dX3_dressable_51 : decode cX3_dressable 51 = .ok (.iinc 5 1, 3) := by decide +kernel
theorem dX3_dressable_54 : decode cX3_dressable 54 = .ok (.goto (-32), 3) := by decide +kernel
theorem dX3_dressable_57 : decode cX3_dressable 57 = .ok (.iload 4, 2) := by decide +kernel
theorem dX3_dressable_59 : decode cX3_dressable 59 = .ok (.ireturn, 1) := by decide +kernel
theorem dX3_dress_0 : decode cX3_dress 0 = .ok (.lload_n 2, 1) := by decide +kernel
theorem dX3_dress_1 : decode cX3_dress 1 = .ok (.lstore 4, 2) := by decide +kernel
theorem dX3_dress_3 : decode cX3_dress 3 = .ok (.iconst 1, 1) := by decide +kernel
theorem dX3_dress_4 : decode cX3_dress 4 = .ok (.iload_n 1, 1) := by decide +kernel
theorem dX3_dress_5 : decode cX3_dress 5 = .ok (.ishl, 1) := by decide +kernel
theorem dX3_dress_6 : decode cX3_dress 6 = .ok (.istore 6, 2) := by decide +kernel
theorem dX3_dress_8 : decode cX3_dress 8 = .ok (.iconst 0, 1) := by decide +kernel
theorem dX3_dress_9 : decode cX3_dress 9 = .ok (.istore 7, 2) := by decide +kernel
theorem dX3_dress_11 : decode cX3_dress 11 = .ok (.iload 7, 2) := by decide +kernel
theorem dX3_dress_13 : decode cX3_dress 13 = .ok (.bipush 12, 2) := by decide +kernel
theorem dX3_dress_15 : decode cX3_dress 15 = .ok (.if_icmp .ge 145, 3) := by decide +kernel
theorem dX3_dress_18 : decode cX3_dress 18 = .ok (.iload 6, 2) := by decide +kernel
theorem dX3_dress_20 : decode cX3_dress 20 = .ok (.ifCond .eq 140, 3) := by decide +kernel
theorem dX3_dress_23 : decode cX3_dress 23 = .ok (.iload 6, 2) := by decide +kernel
theorem dX3_dress_25 : decode cX3_dress 25 = .ok (.iload 6, 2) := by decide +kernel
theorem dX3_dress_27 : decode cX3_dress 27 = .ok (.ineg, 1) := by decide +kernel
theorem dX3_dress_28 : decode cX3_dress 28 = .ok (.iand, 1) := by decide +kernel
theorem dX3_dress_29 : decode cX3_dress 29 = .ok (.iconst 1, 1) := by decide +kernel
theorem dX3_dress_30 : decode cX3_dress 30 = .ok (.isub, 1) := by decide +kernel
theorem dX3_dress_31 : decode cX3_dress 31 = .ok (.invokestatic 85, 3) := by decide +kernel
theorem dX3_dress_34 : decode cX3_dress 34 = .ok (.istore 8, 2) := by decide +kernel
theorem dX3_dress_36 : decode cX3_dress 36 = .ok (.iload 6, 2) := by decide +kernel
theorem dX3_dress_38 : decode cX3_dress 38 = .ok (.iload 6, 2) := by decide +kernel
theorem dX3_dress_40 : decode cX3_dress 40 = .ok (.iconst 1, 1) := by decide +kernel
theorem dX3_dress_41 : decode cX3_dress 41 = .ok (.isub, 1) := by decide +kernel
theorem dX3_dress_42 : decode cX3_dress 42 = .ok (.iand, 1) := by decide +kernel
theorem dX3_dress_43 : decode cX3_dress 43 = .ok (.istore 6, 2) := by decide +kernel
theorem dX3_dress_45 : decode cX3_dress 45 = .ok (.aload_n 0, 1) := by decide +kernel
theorem dX3_dress_46 : decode cX3_dress 46 = .ok (.getfield 11, 3) := by decide +kernel
theorem dX3_dress_49 : decode cX3_dress 49 = .ok (.iload 8, 2) := by decide +kernel
theorem dX3_dress_51 : decode cX3_dress 51 = .ok (.laload, 1) := by decide +kernel
theorem dX3_dress_52 : decode cX3_dress 52 = .ok (.lload 4, 2) := by decide +kernel
theorem dX3_dress_54 : decode cX3_dress 54 = .ok (.land, 1) := by decide +kernel
theorem dX3_dress_55 : decode cX3_dress 55 = .ok (.lstore 9, 2) := by decide +kernel
theorem dX3_dress_57 : decode cX3_dress 57 = .ok (.lload 4, 2) := by decide +kernel
theorem dX3_dress_59 : decode cX3_dress 59 = .ok (.lload 9, 2) := by decide +kernel
theorem dX3_dress_61 : decode cX3_dress 61 = .ok (.ldc2_w 76, 3) := by decide +kernel
theorem dX3_dress_64 : decode cX3_dress 64 = .ok (.lxor, 1) := by decide +kernel
theorem dX3_dress_65 : decode cX3_dress 65 = .ok (.land, 1) := by decide +kernel
theorem dX3_dress_66 : decode cX3_dress 66 = .ok (.lstore 4, 2) := by decide +kernel
theorem dX3_dress_68 : decode cX3_dress 68 = .ok (.iconst 0, 1) := by decide +kernel
theorem dX3_dress_69 : decode cX3_dress 69 = .ok (.istore 11, 2) := by decide +kernel
theorem dX3_dress_71 : decode cX3_dress 71 = .ok (.iload 11, 2) := by decide +kernel
theorem dX3_dress_73 : decode cX3_dress 73 = .ok (.bipush 36, 2) := by decide +kernel
theorem dX3_dress_75 : decode cX3_dress 75 = .ok (.if_icmp .ge 79, 3) := by decide +kernel
theorem dX3_dress_78 : decode cX3_dress 78 = .ok (.lload 9, 2) := by decide +kernel
theorem dX3_dress_80 : decode cX3_dress 80 = .ok (.lconst 0, 1) := by decide +kernel
theorem dX3_dress_81 : decode cX3_dress 81 = .ok (.lcmp, 1) := by decide +kernel
theorem dX3_dress_82 : decode cX3_dress 82 = .ok (.ifCond .eq 72, 3) := by decide +kernel
theorem dX3_dress_85 : decode cX3_dress 85 = .ok (.lload 9, 2) := by decide +kernel
theorem dX3_dress_87 : decode cX3_dress 87 = .ok (.lload 9, 2) := by decide +kernel
theorem dX3_dress_89 : decode cX3_dress 89 = .ok (.lneg, 1) := by decide +kernel
theorem dX3_dress_90 : decode cX3_dress 90 = .ok (.land, 1) := by decide +kernel
theorem dX3_dress_91 : decode cX3_dress 91 = .ok (.lconst 1, 1) := by decide +kernel
theorem dX3_dress_92 : decode cX3_dress 92 = .ok (.lsub, 1) := by decide +kernel
theorem dX3_dress_93 : decode cX3_dress 93 = .ok (.invokestatic 58, 3) := by decide +kernel
theorem dX3_dress_96 : decode cX3_dress 96 = .ok (.istore 12, 2) := by decide +kernel
theorem dX3_dress_98 : decode cX3_dress 98 = .ok (.lload 9, 2) := by decide +kernel
theorem dX3_dress_100 : decode cX3_dress 100 = .ok (.lload 9, 2) := by decide +kernel
theorem dX3_dress_102 : decode cX3_dress 102 = .ok (.lconst 1, 1) := by decide +kernel
theorem dX3_dress_103 : decode cX3_dress 103 = .ok (.lsub, 1) := by decide +kernel
theorem dX3_dress_104 : decode cX3_dress 104 = .ok (.land, 1) := by decide +kernel
theorem dX3_dress_105 : decode cX3_dress 105 = .ok (.lstore 9, 2) := by decide +kernel
theorem dX3_dress_107 : decode cX3_dress 107 = .ok (.aload_n 0, 1) := by decide +kernel
theorem dX3_dress_108 : decode cX3_dress 108 = .ok (.getfield 22, 3) := by decide +kernel
theorem dX3_dress_111 : decode cX3_dress 111 = .ok (.iload 12, 2) := by decide +kernel
theorem dX3_dress_113 : decode cX3_dress 113 = .ok (.iload 8, 2) := by decide +kernel
theorem dX3_dress_115 : decode cX3_dress 115 = .ok (.iastore, 1) := by decide +kernel
theorem dX3_dress_116 : decode cX3_dress 116 = .ok (.aload_n 0, 1) := by decide +kernel
theorem dX3_dress_117 : decode cX3_dress 117 = .ok (.getfield 19, 3) := by decide +kernel
theorem dX3_dress_120 : decode cX3_dress 120 = .ok (.iload 12, 2) := by decide +kernel
theorem dX3_dress_122 : decode cX3_dress 122 = .ok (.iaload, 1) := by decide +kernel
theorem dX3_dress_123 : decode cX3_dress 123 = .ok (.ifCond .ge 11, 3) := by decide +kernel
theorem dX3_dress_126 : decode cX3_dress 126 = .ok (.aload_n 0, 1) := by decide +kernel
theorem dX3_dress_127 : decode cX3_dress 127 = .ok (.iload 12, 2) := by decide +kernel
theorem dX3_dress_129 : decode cX3_dress 129 = .ok (.invokevirtual 90, 3) := by decide +kernel
theorem dX3_dress_132 : decode cX3_dress 132 = .ok (.iconst 1, 1) := by decide +kernel
theorem dX3_dress_133 : decode cX3_dress 133 = .ok (.ireturn, 1) := by decide +kernel
theorem dX3_dress_134 : decode cX3_dress 134 = .ok (.iload 6, 2) := by decide +kernel
theorem dX3_dress_136 : decode cX3_dress 136 = .ok (.iconst 1, 1) := by decide +kernel
theorem dX3_dress_137 : decode cX3_dress 137 = .ok (.aload_n 0, 1) := by decide +kernel
theorem dX3_dress_138 : decode cX3_dress 138 = .ok (.getfield 19, 3) := by decide +kernel
theorem dX3_dress_141 : decode cX3_dress 141 = .ok (.iload 12, 2) := by decide +kernel
theorem dX3_dress_143 : decode cX3_dress 143 = .ok (.iaload, 1) := by decide +kernel
theorem dX3_dress_144 : decode cX3_dress 144 = .ok (.ishl, 1) := by decide +kernel
theorem dX3_dress_145 : decode cX3_dress 145 = .ok (.ior, 1) := by decide +kernel
theorem dX3_dress_146 : decode cX3_dress 146 = .ok (.istore 6, 2) := by decide +kernel
theorem dX3_dress_148 : decode cX3_dress 148 = .ok (.iinc 11 1, 3) := by decide +kernel
theorem dX3_dress_151 : decode cX3_dress 151 = .ok (.goto (-80), 3) := by decide +kernel
theorem dX3_dress_154 : decode cX3_dress 154 = .ok (.iinc 7 1, 3) := by decide +kernel
theorem dX3_dress_157 : decode cX3_dress 157 = .ok (.goto (-146), 3) := by decide +kernel
theorem dX3_dress_160 : decode cX3_dress 160 = .ok (.iconst 0, 1) := by decide +kernel
theorem dX3_dress_161 : decode cX3_dress 161 = .ok (.ireturn, 1) := by decide +kernel
theorem dX3_handOn_0 : decode cX3_handOn 0 = .ok (.iload_n 1, 1) := by decide +kernel
theorem dX3_handOn_1 : decode cX3_handOn 1 = .ok (.istore_n 2, 1) := by decide +kernel
theorem dX3_handOn_2 : decode cX3_handOn 2 = .ok (.iconst 0, 1) := by decide +kernel
theorem dX3_handOn_3 : decode cX3_handOn 3 = .ok (.istore_n 3, 1) := by decide +kernel
theorem dX3_handOn_4 : decode cX3_handOn 4 = .ok (.iload_n 3, 1) := by decide +kernel
theorem dX3_handOn_5 : decode cX3_handOn 5 = .ok (.bipush 12, 2) := by decide +kernel
theorem dX3_handOn_7 : decode cX3_handOn 7 = .ok (.if_icmp .ge 49, 3) := by decide +kernel
theorem dX3_handOn_10 : decode cX3_handOn 10 = .ok (.iload_n 2, 1) := by decide +kernel
theorem dX3_handOn_11 : decode cX3_handOn 11 = .ok (.ifCond .lt 45, 3) := by decide +kernel
theorem dX3_handOn_14 : decode cX3_handOn 14 = .ok (.aload_n 0, 1) := by decide +kernel
theorem dX3_handOn_15 : decode cX3_handOn 15 = .ok (.getfield 22, 3) := by decide +kernel
theorem dX3_handOn_18 : decode cX3_handOn 18 = .ok (.iload_n 2, 1) := by decide +kernel
theorem dX3_handOn_19 : decode cX3_handOn 19 = .ok (.iaload, 1) := by decide +kernel
theorem dX3_handOn_20 : decode cX3_handOn 20 = .ok (.istore 4, 2) := by decide +kernel
theorem dX3_handOn_22 : decode cX3_handOn 22 = .ok (.aload_n 0, 1) := by decide +kernel
theorem dX3_handOn_23 : decode cX3_handOn 23 = .ok (.getfield 15, 3) := by decide +kernel
theorem dX3_handOn_26 : decode cX3_handOn 26 = .ok (.iload 4, 2) := by decide +kernel
theorem dX3_handOn_28 : decode cX3_handOn 28 = .ok (.iaload, 1) := by decide +kernel
theorem dX3_handOn_29 : decode cX3_handOn 29 = .ok (.istore 5, 2) := by decide +kernel
theorem dX3_handOn_31 : decode cX3_handOn 31 = .ok (.aload_n 0, 1) := by decide +kernel
theorem dX3_handOn_32 : decode cX3_handOn 32 = .ok (.getfield 15, 3) := by decide +kernel
theorem dX3_handOn_35 : decode cX3_handOn 35 = .ok (.iload 4, 2) := by decide +kernel
theorem dX3_handOn_37 : decode cX3_handOn 37 = .ok (.iload_n 2, 1) := by decide +kernel
theorem dX3_handOn_38 : decode cX3_handOn 38 = .ok (.iastore, 1) := by decide +kernel
theorem dX3_handOn_39 : decode cX3_handOn 39 = .ok (.aload_n 0, 1) := by decide +kernel
theorem dX3_handOn_40 : decode cX3_handOn 40 = .ok (.getfield 19, 3) := by decide +kernel
theorem dX3_handOn_43 : decode cX3_handOn 43 = .ok (.iload_n 2, 1) := by decide +kernel
theorem dX3_handOn_44 : decode cX3_handOn 44 = .ok (.iload 4, 2) := by decide +kernel
theorem dX3_handOn_46 : decode cX3_handOn 46 = .ok (.iastore, 1) := by decide +kernel
theorem dX3_handOn_47 : decode cX3_handOn 47 = .ok (.iload 5, 2) := by decide +kernel
theorem dX3_handOn_49 : decode cX3_handOn 49 = .ok (.istore_n 2, 1) := by decide +kernel
theorem dX3_handOn_50 : decode cX3_handOn 50 = .ok (.iinc 3 1, 3) := by decide +kernel
theorem dX3_handOn_53 : decode cX3_handOn 53 = .ok (.goto (-49), 3) := by decide +kernel
theorem dX3_handOn_56 : decode cX3_handOn 56 = .ok (.return_, 1) := by decide +kernel
theorem dX4_has_0 : decode cX4_has 0 = .ok (.iload_n 1, 1) := by decide +kernel
theorem dX4_has_1 : decode cX4_has 1 = .ok (.ifCond .lt 15, 3) := by decide +kernel
theorem dX4_has_4 : decode cX4_has 4 = .ok (.iload_n 1, 1) := by decide +kernel
theorem dX4_has_5 : decode cX4_has 5 = .ok (.aload_n 0, 1) := by decide +kernel
theorem dX4_has_6 : decode cX4_has 6 = .ok (.getfield 42, 3) := by decide +kernel
theorem dX4_has_9 : decode cX4_has 9 = .ok (.if_icmp .ge 7, 3) := by decide +kernel
theorem dX4_has_12 : decode cX4_has 12 = .ok (.iconst 1, 1) := by decide +kernel
theorem dX4_has_13 : decode cX4_has 13 = .ok (.goto 4, 3) := by decide +kernel
theorem dX4_has_16 : decode cX4_has 16 = .ok (.iconst 0, 1) := by decide +kernel
theorem dX4_has_17 : decode cX4_has 17 = .ok (.ireturn, 1) := by decide +kernel
theorem dX4_add_0 : decode cX4_add 0 = .ok (.aload_n 0, 1) := by decide +kernel
theorem dX4_add_1 : decode cX4_add 1 = .ok (.getfield 42, 3) := by decide +kernel
theorem dX4_add_4 : decode cX4_add 4 = .ok (.bipush 36, 2) := by decide +kernel
theorem dX4_add_6 : decode cX4_add 6 = .ok (.if_icmp .lt 6, 3) := by decide +kernel
theorem dX4_add_9 : decode cX4_add 9 = .ok (.bipush (-3), 2) := by decide +kernel
theorem dX4_add_11 : decode cX4_add 11 = .ok (.ireturn, 1) := by decide +kernel
theorem dX4_add_12 : decode cX4_add 12 = .ok (.aload_n 0, 1) := by decide +kernel
theorem dX4_add_13 : decode cX4_add 13 = .ok (.getfield 9, 3) := by decide +kernel
theorem dX4_add_16 : decode cX4_add 16 = .ok (.aload_n 0, 1) := by decide +kernel
theorem dX4_add_17 : decode cX4_add 17 = .ok (.getfield 42, 3) := by decide +kernel
theorem dX4_add_20 : decode cX4_add 20 = .ok (.iload_n 2, 1) := by decide +kernel
theorem dX4_add_21 : decode cX4_add 21 = .ok (.iastore, 1) := by decide +kernel
theorem dX4_add_22 : decode cX4_add 22 = .ok (.aload_n 0, 1) := by decide +kernel
theorem dX4_add_23 : decode cX4_add 23 = .ok (.getfield 15, 3) := by decide +kernel
theorem dX4_add_26 : decode cX4_add 26 = .ok (.aload_n 0, 1) := by decide +kernel
theorem dX4_add_27 : decode cX4_add 27 = .ok (.getfield 42, 3) := by decide +kernel
theorem dX4_add_30 : decode cX4_add 30 = .ok (.iload_n 3, 1) := by decide +kernel
theorem dX4_add_31 : decode cX4_add 31 = .ok (.iastore, 1) := by decide +kernel
theorem dX4_add_32 : decode cX4_add 32 = .ok (.aload_n 0, 1) := by decide +kernel
theorem dX4_add_33 : decode cX4_add 33 = .ok (.getfield 18, 3) := by decide +kernel
theorem dX4_add_36 : decode cX4_add 36 = .ok (.aload_n 0, 1) := by decide +kernel
theorem dX4_add_37 : decode cX4_add 37 = .ok (.getfield 42, 3) := by decide +kernel
theorem dX4_add_40 : decode cX4_add 40 = .ok (.iload 4, 2) := by decide +kernel
theorem dX4_add_42 : decode cX4_add 42 = .ok (.iastore, 1) := by decide +kernel
theorem dX4_add_43 : decode cX4_add 43 = .ok (.aload_n 0, 1) := by decide +kernel
theorem dX4_add_44 : decode cX4_add 44 = .ok (.getfield 21, 3) := by decide +kernel
theorem dX4_add_47 : decode cX4_add 47 = .ok (.aload_n 0, 1) := by decide +kernel
theorem dX4_add_48 : decode cX4_add 48 = .ok (.getfield 42, 3) := by decide +kernel
theorem dX4_add_51 : decode cX4_add 51 = .ok (.iload_n 1, 1) := by decide +kernel
theorem dX4_add_52 : decode cX4_add 52 = .ok (.iastore, 1) := by decide +kernel
theorem dX4_add_53 : decode cX4_add 53 = .ok (.aload_n 0, 1) := by decide +kernel
theorem dX4_add_54 : decode cX4_add 54 = .ok (.getfield 24, 3) := by decide +kernel
theorem dX4_add_57 : decode cX4_add 57 = .ok (.aload_n 0, 1) := by decide +kernel
theorem dX4_add_58 : decode cX4_add 58 = .ok (.getfield 42, 3) := by decide +kernel
theorem dX4_add_61 : decode cX4_add 61 = .ok (.bipush (-4), 2) := by decide +kernel
theorem dX4_add_63 : decode cX4_add 63 = .ok (.iastore, 1) := by decide +kernel
theorem dX4_add_64 : decode cX4_add 64 = .ok (.aload_n 0, 1) := by decide +kernel
theorem dX4_add_65 : decode cX4_add 65 = .ok (.getfield 27, 3) := by decide +kernel
theorem dX4_add_68 : decode cX4_add 68 = .ok (.aload_n 0, 1) := by decide +kernel
theorem dX4_add_69 : decode cX4_add 69 = .ok (.getfield 42, 3) := by decide +kernel
theorem dX4_add_72 : decode cX4_add 72 = .ok (.bipush (-4), 2) := by decide +kernel
theorem dX4_add_74 : decode cX4_add 74 = .ok (.iastore, 1) := by decide +kernel
theorem dX4_add_75 : decode cX4_add 75 = .ok (.aload_n 0, 1) := by decide +kernel
theorem dX4_add_76 : decode cX4_add 76 = .ok (.dup, 1) := by decide +kernel
theorem dX4_add_77 : decode cX4_add 77 = .ok (.getfield 42, 3) := by decide +kernel
theorem dX4_add_80 : decode cX4_add 80 = .ok (.dup_x1, 1) := by decide +kernel
theorem dX4_add_81 : decode cX4_add 81 = .ok (.iconst 1, 1) := by decide +kernel
theorem dX4_add_82 : decode cX4_add 82 = .ok (.iadd, 1) := by decide +kernel
theorem dX4_add_83 : decode cX4_add 83 = .ok (.putfield 42, 3) := by decide +kernel
theorem dX4_add_86 : decode cX4_add 86 = .ok (.ireturn, 1) := by decide +kernel
theorem dX4_isStored_0 : decode cX4_isStored 0 = .ok (.aload_n 0, 1) := by decide +kernel
theorem dX4_isStored_1 : decode cX4_isStored 1 = .ok (.getfield 21, 3) := by decide +kernel
theorem dX4_isStored_4 : decode cX4_isStored 4 = .ok (.iload_n 1, 1) := by decide +kernel
theorem dX4_isStored_5 : decode cX4_isStored 5 = .ok (.iaload, 1) := by decide +kernel
theorem dX4_isStored_6 : decode cX4_isStored 6 = .ok (.ifCond .lt 7, 3) := by decide +kernel
theorem dX4_isStored_9 : decode cX4_isStored 9 = .ok (.iconst 1, 1) := by decide +kernel
theorem dX4_isStored_10 : decode cX4_isStored 10 = .ok (.goto 4, 3) := by decide +kernel
theorem dX4_isStored_13 : decode cX4_isStored 13 = .ok (.iconst 0, 1) := by decide +kernel
theorem dX4_isStored_14 : decode cX4_isStored 14 = .ok (.ireturn, 1) := by decide +kernel
theorem dX4_isWithBody_0 : decode cX4_isWithBody 0 = .ok (.aload_n 0, 1) := by decide +kernel
theorem dX4_isWithBody_1 : decode cX4_isWithBody 1 = .ok (.getfield 24, 3) := by decide +kernel
theorem dX4_isWithBody_4 : decode cX4_isWithBody 4 = .ok (.iload_n 1, 1) := by decide +kernel
theorem dX4_isWithBody_5 : decode cX4_isWithBody 5 = .ok (.iaload, 1) := by decide +kernel
theorem dX4_isWithBody_6 : decode cX4_isWithBody 6 = .ok (.ifCond .lt 7, 3) := by decide +kernel
theorem dX4_isWithBody_9 : decode cX4_isWithBody 9 = .ok (.iconst 1, 1) := by decide +kernel
theorem dX4_isWithBody_10 : decode cX4_isWithBody 10 = .ok (.goto 4, 3) := by decide +kernel
theorem dX4_isWithBody_13 : decode cX4_isWithBody 13 = .ok (.iconst 0, 1) := by decide +kernel
theorem dX4_isWithBody_14 : decode cX4_isWithBody 14 = .ok (.ireturn, 1) := by decide +kernel
theorem dX4_isGone_0 : decode cX4_isGone 0 = .ok (.aload_n 0, 1) := by decide +kernel
theorem dX4_isGone_1 : decode cX4_isGone 1 = .ok (.iload_n 1, 1) := by decide +kernel
theorem dX4_isGone_2 : decode cX4_isGone 2 = .ok (.invokevirtual 46, 3) := by decide +kernel
theorem dX4_isGone_5 : decode cX4_isGone 5 = .ok (.ifCond .ne 15, 3) := by decide +kernel
theorem dX4_isGone_8 : decode cX4_isGone 8 = .ok (.aload_n 0, 1) := by decide +kernel
theorem dX4_isGone_9 : decode cX4_isGone 9 = .ok (.iload_n 1, 1) := by decide +kernel
theorem dX4_isGone_10 : decode cX4_isGone 10 = .ok (.invokevirtual 50, 3) := by decide +kernel
theorem dX4_isGone_13 : decode cX4_isGone 13 = .ok (.ifCond .ne 7, 3) := by decide +kernel
theorem dX4_isGone_16 : decode cX4_isGone 16 = .ok (.iconst 1, 1) := by decide +kernel
theorem dX4_isGone_17 : decode cX4_isGone 17 = .ok (.goto 4, 3) := by decide +kernel
theorem dX4_isGone_20 : decode cX4_isGone 20 = .ok (.iconst 0, 1) := by decide +kernel
theorem dX4_isGone_21 : decode cX4_isGone 21 = .ok (.ireturn, 1) := by decide +kernel
theorem dX4_wornBy_0 : decode cX4_wornBy 0 = .ok (.aload_n 0, 1) := by decide +kernel
theorem dX4_wornBy_1 : decode cX4_wornBy 1 = .ok (.getfield 39, 3) := by decide +kernel
theorem dX4_wornBy_4 : decode cX4_wornBy 4 = .ok (.iload_n 1, 1) := by decide +kernel
theorem dX4_wornBy_5 : decode cX4_wornBy 5 = .ok (.iaload, 1) := by decide +kernel
theorem dX4_wornBy_6 : decode cX4_wornBy 6 = .ok (.aload_n 0, 1) := by decide +kernel
theorem dX4_wornBy_7 : decode cX4_wornBy 7 = .ok (.iload_n 1, 1) := by decide +kernel
theorem dX4_wornBy_8 : decode cX4_wornBy 8 = .ok (.invokevirtual 50, 3) := by decide +kernel
theorem dX4_wornBy_11 : decode cX4_wornBy 11 = .ok (.ifCond .eq 14, 3) := by decide +kernel
theorem dX4_wornBy_14 : decode cX4_wornBy 14 = .ok (.iload_n 2, 1) := by decide +kernel
theorem dX4_wornBy_15 : decode cX4_wornBy 15 = .ok (.aload_n 0, 1) := by decide +kernel
theorem dX4_wornBy_16 : decode cX4_wornBy 16 = .ok (.getfield 36, 3) := by decide +kernel
theorem dX4_wornBy_19 : decode cX4_wornBy 19 = .ok (.iload_n 1, 1) := by decide +kernel
theorem dX4_wornBy_20 : decode cX4_wornBy 20 = .ok (.iaload, 1) := by decide +kernel
theorem dX4_wornBy_21 : decode cX4_wornBy 21 = .ok (.isub, 1) := by decide +kernel
theorem dX4_wornBy_22 : decode cX4_wornBy 22 = .ok (.goto 4, 3) := by decide +kernel
theorem dX4_wornBy_25 : decode cX4_wornBy 25 = .ok (.iconst 0, 1) := by decide +kernel
theorem dX4_wornBy_26 : decode cX4_wornBy 26 = .ok (.iadd, 1) := by decide +kernel
theorem dX4_wornBy_27 : decode cX4_wornBy 27 = .ok (.ireturn, 1) := by decide +kernel
theorem dX4_handOut_0 : decode cX4_handOut 0 = .ok (.aload_n 0, 1) := by decide +kernel
theorem dX4_handOut_1 : decode cX4_handOut 1 = .ok (.getfield 21, 3) := by decide +kernel
theorem dX4_handOut_4 : decode cX4_handOut 4 = .ok (.iload_n 1, 1) := by decide +kernel
theorem dX4_handOut_5 : decode cX4_handOut 5 = .ok (.bipush (-4), 2) := by decide +kernel
theorem dX4_handOut_7 : decode cX4_handOut 7 = .ok (.iastore, 1) := by decide +kernel
theorem dX4_handOut_8 : decode cX4_handOut 8 = .ok (.aload_n 0, 1) := by decide +kernel
theorem dX4_handOut_9 : decode cX4_handOut 9 = .ok (.getfield 24, 3) := by decide +kernel
theorem dX4_handOut_12 : decode cX4_handOut 12 = .ok (.iload_n 1, 1) := by decide +kernel
theorem dX4_handOut_13 : decode cX4_handOut 13 = .ok (.iload_n 2, 1) := by decide +kernel
theorem dX4_handOut_14 : decode cX4_handOut 14 = .ok (.iastore, 1) := by decide +kernel
theorem dX4_handOut_15 : decode cX4_handOut 15 = .ok (.aload_n 0, 1) := by decide +kernel
theorem dX4_handOut_16 : decode cX4_handOut 16 = .ok (.getfield 27, 3) := by decide +kernel
theorem dX4_handOut_19 : decode cX4_handOut 19 = .ok (.iload_n 1, 1) := by decide +kernel
theorem dX4_handOut_20 : decode cX4_handOut 20 = .ok (.iload_n 2, 1) := by decide +kernel
theorem dX4_handOut_21 : decode cX4_handOut 21 = .ok (.iastore, 1) := by decide +kernel
theorem dX4_handOut_22 : decode cX4_handOut 22 = .ok (.aload_n 0, 1) := by decide +kernel
theorem dX4_handOut_23 : decode cX4_handOut 23 = .ok (.getfield 36, 3) := by decide +kernel
theorem dX4_handOut_26 : decode cX4_handOut 26 = .ok (.iload_n 1, 1) := by decide +kernel
theorem dX4_handOut_27 : decode cX4_handOut 27 = .ok (.iload_n 3, 1) := by decide +kernel
theorem dX4_handOut_28 : decode cX4_handOut 28 = .ok (.iastore, 1) := by decide +kernel
theorem dX4_handOut_29 : decode cX4_handOut 29 = .ok (.aload_n 0, 1) := by decide +kernel
theorem dX4_handOut_30 : decode cX4_handOut 30 = .ok (.getfield 30, 3) := by decide +kernel
theorem dX4_handOut_33 : decode cX4_handOut 33 = .ok (.iload_n 1, 1) := by decide +kernel
theorem dX4_handOut_34 : decode cX4_handOut 34 = .ok (.dup2, 1) := by decide +kernel
theorem dX4_handOut_35 : decode cX4_handOut 35 = .ok (.iaload, 1) := by decide +kernel
theorem dX4_handOut_36 : decode cX4_handOut 36 = .ok (.iconst 1, 1) := by decide +kernel
theorem dX4_handOut_37 : decode cX4_handOut 37 = .ok (.iadd, 1) := by decide +kernel
theorem dX4_handOut_38 : decode cX4_handOut 38 = .ok (.iastore, 1) := by decide +kernel
theorem dX4_handOut_39 : decode cX4_handOut 39 = .ok (.return_, 1) := by decide +kernel
theorem dX4_takeOff_0 : decode cX4_takeOff 0 = .ok (.aload_n 0, 1) := by decide +kernel
theorem dX4_takeOff_1 : decode cX4_takeOff 1 = .ok (.getfield 39, 3) := by decide +kernel
theorem dX4_takeOff_4 : decode cX4_takeOff 4 = .ok (.iload_n 1, 1) := by decide +kernel
theorem dX4_takeOff_5 : decode cX4_takeOff 5 = .ok (.aload_n 0, 1) := by decide +kernel
theorem dX4_takeOff_6 : decode cX4_takeOff 6 = .ok (.iload_n 1, 1) := by decide +kernel
theorem dX4_takeOff_7 : decode cX4_takeOff 7 = .ok (.iload_n 2, 1) := by decide +kernel
theorem dX4_takeOff_8 : decode cX4_takeOff 8 = .ok (.invokevirtual 53, 3) := by decide +kernel
theorem dX4_takeOff_11 : decode cX4_takeOff 11 = .ok (.iastore, 1) := by decide +kernel
theorem dX4_takeOff_12 : decode cX4_takeOff 12 = .ok (.aload_n 0, 1) := by decide +kernel
theorem dX4_takeOff_13 : decode cX4_takeOff 13 = .ok (.getfield 24, 3) := by decide +kernel
theorem dX4_takeOff_16 : decode cX4_takeOff 16 = .ok (.iload_n 1, 1) := by decide +kernel
theorem dX4_takeOff_17 : decode cX4_takeOff 17 = .ok (.bipush (-4), 2) := by decide +kernel
theorem dX4_takeOff_19 : decode cX4_takeOff 19 = .ok (.iastore, 1) := by decide +kernel
theorem dX4_takeOff_20 : decode cX4_takeOff 20 = .ok (.return_, 1) := by decide +kernel
theorem dX4_countWith_0 : decode cX4_countWith 0 = .ok (.iconst 0, 1) := by decide +kernel
theorem dX4_countWith_1 : decode cX4_countWith 1 = .ok (.istore_n 2, 1) := by decide +kernel
theorem dX4_countWith_2 : decode cX4_countWith 2 = .ok (.iconst 0, 1) := by decide +kernel
theorem dX4_countWith_3 : decode cX4_countWith 3 = .ok (.istore_n 3, 1) := by decide +kernel
theorem dX4_countWith_4 : decode cX4_countWith 4 = .ok (.iload_n 3, 1) := by decide +kernel
theorem dX4_countWith_5 : decode cX4_countWith 5 = .ok (.aload_n 0, 1) := by decide +kernel
theorem dX4_countWith_6 : decode cX4_countWith 6 = .ok (.getfield 42, 3) := by decide +kernel
theorem dX4_countWith_9 : decode cX4_countWith 9 = .ok (.if_icmp .ge 27, 3) := by decide +kernel
theorem dX4_countWith_12 : decode cX4_countWith 12 = .ok (.iload_n 2, 1) := by decide +kernel
theorem dX4_countWith_13 : decode cX4_countWith 13 = .ok (.aload_n 0, 1) := by decide +kernel
theorem dX4_countWith_14 : decode cX4_countWith 14 = .ok (.getfield 24, 3) := by decide +kernel
theorem dX4_countWith_17 : decode cX4_countWith 17 = .ok (.iload_n 3, 1) := by decide +kernel
theorem dX4_countWith_18 : decode cX4_countWith 18 = .ok (.iaload, 1) := by decide +kernel
theorem dX4_countWith_19 : decode cX4_countWith 19 = .ok (.iload_n 1, 1) := by decide +kernel
theorem dX4_countWith_20 : decode cX4_countWith 20 = .ok (.if_icmp .ne 7, 3) := by decide +kernel
theorem dX4_countWith_23 : decode cX4_countWith 23 = .ok (.iconst 1, 1) := by decide +kernel
theorem dX4_countWith_24 : decode cX4_countWith 24 = .ok (.goto 4, 3) := by decide +kernel
theorem dX4_countWith_27 : decode cX4_countWith 27 = .ok (.iconst 0, 1) := by decide +kernel
theorem dX4_countWith_28 : decode cX4_countWith 28 = .ok (.iadd, 1) := by decide +kernel
theorem dX4_countWith_29 : decode cX4_countWith 29 = .ok (.istore_n 2, 1) := by decide +kernel
theorem dX4_countWith_30 : decode cX4_countWith 30 = .ok (.iinc 3 1, 3) := by decide +kernel
theorem dX4_countWith_33 : decode cX4_countWith 33 = .ok (.goto (-29), 3) := by decide +kernel
theorem dX4_countWith_36 : decode cX4_countWith 36 = .ok (.iload_n 2, 1) := by decide +kernel
theorem dX4_countWith_37 : decode cX4_countWith 37 = .ok (.ireturn, 1) := by decide +kernel
theorem dX4_countStored_0 : decode cX4_countStored 0 = .ok (.iconst 0, 1) := by decide +kernel
theorem dX4_countStored_1 : decode cX4_countStored 1 = .ok (.istore_n 1, 1) := by decide +kernel
theorem dX4_countStored_2 : decode cX4_countStored 2 = .ok (.iconst 0, 1) := by decide +kernel
theorem dX4_countStored_3 : decode cX4_countStored 3 = .ok (.istore_n 2, 1) := by decide +kernel
theorem dX4_countStored_4 : decode cX4_countStored 4 = .ok (.iload_n 2, 1) := by decide +kernel
theorem dX4_countStored_5 : decode cX4_countStored 5 = .ok (.aload_n 0, 1) := by decide +kernel
theorem dX4_countStored_6 : decode cX4_countStored 6 = .ok (.getfield 42, 3) := by decide +kernel
theorem dX4_countStored_9 : decode cX4_countStored 9 = .ok (.if_icmp .ge 25, 3) := by decide +kernel
theorem dX4_countStored_12 : decode cX4_countStored 12 = .ok (.iload_n 1, 1) := by decide +kernel
theorem dX4_countStored_13 : decode cX4_countStored 13 = .ok (.aload_n 0, 1) := by decide +kernel
theorem dX4_countStored_14 : decode cX4_countStored 14 = .ok (.iload_n 2, 1) := by decide +kernel
theorem dX4_countStored_15 : decode cX4_countStored 15 = .ok (.invokevirtual 46, 3) := by decide +kernel
theorem dX4_countStored_18 : decode cX4_countStored 18 = .ok (.ifCond .eq 7, 3) := by decide +kernel
theorem dX4_countStored_21 : decode cX4_countStored 21 = .ok (.iconst 1, 1) := by decide +kernel
theorem dX4_countStored_22 : decode cX4_countStored 22 = .ok (.goto 4, 3) := by decide +kernel
theorem dX4_countStored_25 : decode cX4_countStored 25 = .ok (.iconst 0, 1) := by decide +kernel
theorem dX4_countStored_26 : decode cX4_countStored 26 = .ok (.iadd, 1) := by decide +kernel
theorem dX4_countStored_27 : decode cX4_countStored 27 = .ok (.istore_n 1, 1) := by decide +kernel
theorem dX4_countStored_28 : decode cX4_countStored 28 = .ok (.iinc 2 1, 3) := by decide +kernel
theorem dX4_countStored_31 : decode cX4_countStored 31 = .ok (.goto (-27), 3) := by decide +kernel
theorem dX4_countStored_34 : decode cX4_countStored 34 = .ok (.iload_n 1, 1) := by decide +kernel
theorem dX4_countStored_35 : decode cX4_countStored 35 = .ok (.ireturn, 1) := by decide +kernel
theorem dX4_countWithBodies_0 : decode cX4_countWithBodies 0 = .ok (.iconst 0, 1) := by decide +kernel
theorem dX4_countWithBodies_1 : decode cX4_countWithBodies 1 = .ok (.istore_n 1, 1) := by decide +kernel
theorem dX4_countWithBodies_2 : decode cX4_countWithBodies 2 = .ok (.iconst 0, 1) := by decide +kernel
theorem dX4_countWithBodies_3 : decode cX4_countWithBodies 3 = .ok (.istore_n 2, 1) := by decide +kernel
theorem dX4_countWithBodies_4 : decode cX4_countWithBodies 4 = .ok (.iload_n 2, 1) := by decide +kernel
theorem dX4_countWithBodies_5 : decode cX4_countWithBodies 5 = .ok (.aload_n 0, 1) := by decide +kernel
theorem dX4_countWithBodies_6 : decode cX4_countWithBodies 6 = .ok (.getfield 42, 3) := by decide +kernel
theorem dX4_countWithBodies_9 : decode cX4_countWithBodies 9 = .ok (.if_icmp .ge 25, 3) := by decide +kernel
theorem dX4_countWithBodies_12 : decode cX4_countWithBodies 12 = .ok (.iload_n 1, 1) := by decide +kernel
theorem dX4_countWithBodies_13 : decode cX4_countWithBodies 13 = .ok (.aload_n 0, 1) := by decide +kernel
theorem dX4_countWithBodies_14 : decode cX4_countWithBodies 14 = .ok (.iload_n 2, 1) := by decide +kernel
theorem dX4_countWithBodies_15 : decode cX4_countWithBodies 15 = .ok (.invokevirtual 50, 3) := by decide +kernel
theorem dX4_countWithBodies_18 : decode cX4_countWithBodies 18 = .ok (.ifCond .eq 7, 3) := by decide +kernel
theorem dX4_countWithBodies_21 : decode cX4_countWithBodies 21 = .ok (.iconst 1, 1) := by decide +kernel
theorem dX4_countWithBodies_22 : decode cX4_countWithBodies 22 = .ok (.goto 4, 3) := by decide +kernel
theorem dX4_countWithBodies_25 : decode cX4_countWithBodies 25 = .ok (.iconst 0, 1) := by decide +kernel
theorem dX4_countWithBodies_26 : decode cX4_countWithBodies 26 = .ok (.iadd, 1) := by decide +kernel
theorem dX4_countWithBodies_27 : decode cX4_countWithBodies 27 = .ok (.istore_n 1, 1) := by decide +kernel
theorem dX4_countWithBodies_28 : decode cX4_countWithBodies 28 = .ok (.iinc 2 1, 3) := by decide +kernel
theorem dX4_countWithBodies_31 : decode cX4_countWithBodies 31 = .ok (.goto (-27), 3) := by decide +kernel
theorem dX4_countWithBodies_34 : decode cX4_countWithBodies 34 = .ok (.iload_n 1, 1) := by decide +kernel
theorem dX4_countWithBodies_35 : decode cX4_countWithBodies 35 = .ok (.ireturn, 1) := by decide +kernel
theorem dX4_countOfLot_0 : decode cX4_countOfLot 0 = .ok (.iconst 0, 1) := by decide +kernel
theorem dX4_countOfLot_1 : decode cX4_countOfLot 1 = .ok (.istore_n 2, 1) := by decide +kernel
theorem dX4_countOfLot_2 : decode cX4_countOfLot 2 = .ok (.iconst 0, 1) := by decide +kernel
theorem dX4_countOfLot_3 : decode cX4_countOfLot 3 = .ok (.istore_n 3, 1) := by decide +kernel
theorem dX4_countOfLot_4 : decode cX4_countOfLot 4 = .ok (.iload_n 3, 1) := by decide +kernel
theorem dX4_countOfLot_5 : decode cX4_countOfLot 5 = .ok (.aload_n 0, 1) := by decide +kernel
theorem dX4_countOfLot_6 : decode cX4_countOfLot 6 = .ok (.getfield 42, 3) := by decide +kernel
theorem dX4_countOfLot_9 : decode cX4_countOfLot 9 = .ok (.if_icmp .ge 27, 3) := by decide +kernel
theorem dX4_countOfLot_12 : decode cX4_countOfLot 12 = .ok (.iload_n 2, 1) := by decide +kernel
theorem dX4_countOfLot_13 : decode cX4_countOfLot 13 = .ok (.aload_n 0, 1) := by decide +kernel
theorem dX4_countOfLot_14 : decode cX4_countOfLot 14 = .ok (.getfield 15, 3) := by decide +kernel
theorem dX4_countOfLot_17 : decode cX4_countOfLot 17 = .ok (.iload_n 3, 1) := by decide +kernel
theorem dX4_countOfLot_18 : decode cX4_countOfLot 18 = .ok (.iaload, 1) := by decide +kernel
theorem dX4_countOfLot_19 : decode cX4_countOfLot 19 = .ok (.iload_n 1, 1) := by decide +kernel
theorem dX4_countOfLot_20 : decode cX4_countOfLot 20 = .ok (.if_icmp .ne 7, 3) := by decide +kernel
theorem dX4_countOfLot_23 : decode cX4_countOfLot 23 = .ok (.iconst 1, 1) := by decide +kernel
theorem dX4_countOfLot_24 : decode cX4_countOfLot 24 = .ok (.goto 4, 3) := by decide +kernel
theorem dX4_countOfLot_27 : decode cX4_countOfLot 27 = .ok (.iconst 0, 1) := by decide +kernel
theorem dX4_countOfLot_28 : decode cX4_countOfLot 28 = .ok (.iadd, 1) := by decide +kernel
theorem dX4_countOfLot_29 : decode cX4_countOfLot 29 = .ok (.istore_n 2, 1) := by decide +kernel
theorem dX4_countOfLot_30 : decode cX4_countOfLot 30 = .ok (.iinc 3 1, 3) := by decide +kernel
theorem dX4_countOfLot_33 : decode cX4_countOfLot 33 = .ok (.goto (-29), 3) := by decide +kernel
theorem dX4_countOfLot_36 : decode cX4_countOfLot 36 = .ok (.iload_n 2, 1) := by decide +kernel
theorem dX4_countOfLot_37 : decode cX4_countOfLot 37 = .ok (.ireturn, 1) := by decide +kernel
theorem dX4_countFailed_0 : decode cX4_countFailed 0 = .ok (.iconst 0, 1) := by decide +kernel
theorem dX4_countFailed_1 : decode cX4_countFailed 1 = .ok (.istore_n 2, 1) := by decide +kernel
theorem dX4_countFailed_2 : decode cX4_countFailed 2 = .ok (.iconst 0, 1) := by decide +kernel
theorem dX4_countFailed_3 : decode cX4_countFailed 3 = .ok (.istore_n 3, 1) := by decide +kernel
theorem dX4_countFailed_4 : decode cX4_countFailed 4 = .ok (.iload_n 3, 1) := by decide +kernel
theorem dX4_countFailed_5 : decode cX4_countFailed 5 = .ok (.aload_n 0, 1) := by decide +kernel
theorem dX4_countFailed_6 : decode cX4_countFailed 6 = .ok (.getfield 42, 3) := by decide +kernel
theorem dX4_countFailed_9 : decode cX4_countFailed 9 = .ok (.if_icmp .ge 32, 3) := by decide +kernel
theorem dX4_countFailed_12 : decode cX4_countFailed 12 = .ok (.iload_n 2, 1) := by decide +kernel
theorem dX4_countFailed_13 : decode cX4_countFailed 13 = .ok (.aload_n 0, 1) := by decide +kernel
theorem dX4_countFailed_14 : decode cX4_countFailed 14 = .ok (.getfield 15, 3) := by decide +kernel
theorem dX4_countFailed_17 : decode cX4_countFailed 17 = .ok (.iload_n 3, 1) := by decide +kernel
theorem dX4_countFailed_18 : decode cX4_countFailed 18 = .ok (.iaload, 1) := by decide +kernel
theorem dX4_countFailed_19 : decode cX4_countFailed 19 = .ok (.iload_n 1, 1) := by decide +kernel
theorem dX4_countFailed_20 : decode cX4_countFailed 20 = .ok (.if_icmp .ne 12, 3) := by decide +kernel
theorem dX4_countFailed_23 : decode cX4_countFailed 23 = .ok (.aload_n 0, 1) := by decide +kernel
theorem dX4_countFailed_24 : decode cX4_countFailed 24 = .ok (.getfield 33, 3) := by decide +kernel
theorem dX4_countFailed_27 : decode cX4_countFailed 27 = .ok (.iload_n 3, 1) := by decide +kernel
theorem dX4_countFailed_28 : decode cX4_countFailed 28 = .ok (.iaload, 1) := by decide +kernel
theorem dX4_countFailed_29 : decode cX4_countFailed 29 = .ok (.goto 4, 3) := by decide +kernel
theorem dX4_countFailed_32 : decode cX4_countFailed 32 = .ok (.iconst 0, 1) := by decide +kernel
theorem dX4_countFailed_33 : decode cX4_countFailed 33 = .ok (.iadd, 1) := by decide +kernel
theorem dX4_countFailed_34 : decode cX4_countFailed 34 = .ok (.istore_n 2, 1) := by decide +kernel
theorem dX4_countFailed_35 : decode cX4_countFailed 35 = .ok (.iinc 3 1, 3) := by decide +kernel
theorem dX4_countFailed_38 : decode cX4_countFailed 38 = .ok (.goto (-34), 3) := by decide +kernel
theorem dX4_countFailed_41 : decode cX4_countFailed 41 = .ok (.iload_n 2, 1) := by decide +kernel
theorem dX4_countFailed_42 : decode cX4_countFailed 42 = .ok (.ireturn, 1) := by decide +kernel
theorem dX4_countAllFailed_0 : decode cX4_countAllFailed 0 = .ok (.iconst 0, 1) := by decide +kernel
theorem dX4_countAllFailed_1 : decode cX4_countAllFailed 1 = .ok (.istore_n 1, 1) := by decide +kernel
theorem dX4_countAllFailed_2 : decode cX4_countAllFailed 2 = .ok (.iconst 0, 1) := by decide +kernel
theorem dX4_countAllFailed_3 : decode cX4_countAllFailed 3 = .ok (.istore_n 2, 1) := by decide +kernel
theorem dX4_countAllFailed_4 : decode cX4_countAllFailed 4 = .ok (.iload_n 2, 1) := by decide +kernel
theorem dX4_countAllFailed_5 : decode cX4_countAllFailed 5 = .ok (.aload_n 0, 1) := by decide +kernel
theorem dX4_countAllFailed_6 : decode cX4_countAllFailed 6 = .ok (.getfield 42, 3) := by decide +kernel
theorem dX4_countAllFailed_9 : decode cX4_countAllFailed 9 = .ok (.if_icmp .ge 18, 3) := by decide +kernel
theorem dX4_countAllFailed_12 : decode cX4_countAllFailed 12 = .ok (.iload_n 1, 1) := by decide +kernel
theorem dX4_countAllFailed_13 : decode cX4_countAllFailed 13 = .ok (.aload_n 0, 1) := by decide +kernel
theorem dX4_countAllFailed_14 : decode cX4_countAllFailed 14 = .ok (.getfield 33, 3) := by decide +kernel
theorem dX4_countAllFailed_17 : decode cX4_countAllFailed 17 = .ok (.iload_n 2, 1) := by decide +kernel
theorem dX4_countAllFailed_18 : decode cX4_countAllFailed 18 = .ok (.iaload, 1) := by decide +kernel
theorem dX4_countAllFailed_19 : decode cX4_countAllFailed 19 = .ok (.iadd, 1) := by decide +kernel
theorem dX4_countAllFailed_20 : decode cX4_countAllFailed 20 = .ok (.istore_n 1, 1) := by decide +kernel
theorem dX4_countAllFailed_21 : decode cX4_countAllFailed 21 = .ok (.iinc 2 1, 3) := by decide +kernel
theorem dX4_countAllFailed_24 : decode cX4_countAllFailed 24 = .ok (.goto (-20), 3) := by decide +kernel
theorem dX4_countAllFailed_27 : decode cX4_countAllFailed 27 = .ok (.iload_n 1, 1) := by decide +kernel
theorem dX4_countAllFailed_28 : decode cX4_countAllFailed 28 = .ok (.ireturn, 1) := by decide +kernel
theorem dX4_waysAsBad_0 : decode cX4_waysAsBad 0 = .ok (.aload_n 0, 1) := by decide +kernel
theorem dX4_waysAsBad_1 : decode cX4_waysAsBad 1 = .ok (.iload_n 1, 1) := by decide +kernel
theorem dX4_waysAsBad_2 : decode cX4_waysAsBad 2 = .ok (.invokevirtual 57, 3) := by decide +kernel
theorem dX4_waysAsBad_5 : decode cX4_waysAsBad 5 = .ok (.istore_n 2, 1) := by decide +kernel
theorem dX4_waysAsBad_6 : decode cX4_waysAsBad 6 = .ok (.aload_n 0, 1) := by decide +kernel
theorem dX4_waysAsBad_7 : decode cX4_waysAsBad 7 = .ok (.invokevirtual 61, 3) := by decide +kernel
theorem dX4_waysAsBad_10 : decode cX4_waysAsBad 10 = .ok (.istore_n 3, 1) := by decide +kernel
theorem dX4_waysAsBad_11 : decode cX4_waysAsBad 11 = .ok (.lconst 0, 1) := by decide +kernel
theorem dX4_waysAsBad_12 : decode cX4_waysAsBad 12 = .ok (.lstore 4, 2) := by decide +kernel
theorem dX4_waysAsBad_14 : decode cX4_waysAsBad 14 = .ok (.aload_n 0, 1) := by decide +kernel
theorem dX4_waysAsBad_15 : decode cX4_waysAsBad 15 = .ok (.iload_n 1, 1) := by decide +kernel
theorem dX4_waysAsBad_16 : decode cX4_waysAsBad 16 = .ok (.invokevirtual 65, 3) := by decide +kernel
theorem dX4_waysAsBad_19 : decode cX4_waysAsBad 19 = .ok (.istore 6, 2) := by decide +kernel
theorem dX4_waysAsBad_21 : decode cX4_waysAsBad 21 = .ok (.iload 6, 2) := by decide +kernel
theorem dX4_waysAsBad_23 : decode cX4_waysAsBad 23 = .ok (.iload_n 2, 1) := by decide +kernel
theorem dX4_waysAsBad_24 : decode cX4_waysAsBad 24 = .ok (.iload_n 3, 1) := by decide +kernel
theorem dX4_waysAsBad_25 : decode cX4_waysAsBad 25 = .ok (.invokestatic 68, 3) := by decide +kernel
theorem dX4_waysAsBad_28 : decode cX4_waysAsBad 28 = .ok (.if_icmp .gt 34, 3) := by decide +kernel
theorem dX4_waysAsBad_31 : decode cX4_waysAsBad 31 = .ok (.lload 4, 2) := by decide +kernel
theorem dX4_waysAsBad_33 : decode cX4_waysAsBad 33 = .ok (.iload_n 2, 1) := by decide +kernel
theorem dX4_waysAsBad_34 : decode cX4_waysAsBad 34 = .ok (.iload 6, 2) := by decide +kernel
theorem dX4_waysAsBad_36 : decode cX4_waysAsBad 36 = .ok (.invokestatic 73, 3) := by decide +kernel
theorem dX4_waysAsBad_39 : decode cX4_waysAsBad 39 = .ok (.aload_n 0, 1) := by decide +kernel
theorem dX4_waysAsBad_40 : decode cX4_waysAsBad 40 = .ok (.getfield 42, 3) := by decide +kernel
theorem dX4_waysAsBad_43 : decode cX4_waysAsBad 43 = .ok (.iload_n 2, 1) := by decide +kernel
theorem dX4_waysAsBad_44 : decode cX4_waysAsBad 44 = .ok (.isub, 1) := by decide +kernel
theorem dX4_waysAsBad_45 : decode cX4_waysAsBad 45 = .ok (.iload_n 3, 1) := by decide +kernel
theorem dX4_waysAsBad_46 : decode cX4_waysAsBad 46 = .ok (.iload 6, 2) := by decide +kernel
theorem dX4_waysAsBad_48 : decode cX4_waysAsBad 48 = .ok (.isub, 1) := by decide +kernel
theorem dX4_waysAsBad_49 : decode cX4_waysAsBad 49 = .ok (.invokestatic 73, 3) := by decide +kernel
theorem dX4_waysAsBad_52 : decode cX4_waysAsBad 52 = .ok (.lmul, 1) := by decide +kernel
theorem dX4_waysAsBad_53 : decode cX4_waysAsBad 53 = .ok (.ladd, 1) := by decide +kernel
theorem dX4_waysAsBad_54 : decode cX4_waysAsBad 54 = .ok (.lstore 4, 2) := by decide +kernel
theorem dX4_waysAsBad_56 : decode cX4_waysAsBad 56 = .ok (.iinc 6 1, 3) := by decide +kernel
theorem dX4_waysAsBad_59 : decode cX4_waysAsBad 59 = .ok (.goto (-38), 3) := by decide +kernel
theorem dX4_waysAsBad_62 : decode cX4_waysAsBad 62 = .ok (.lload 4, 2) := by decide +kernel
theorem dX4_waysAsBad_64 : decode cX4_waysAsBad 64 = .ok (.lreturn, 1) := by decide +kernel
theorem dX5_read_0 : decode cX5_read 0 = .ok (.aload_n 0, 1) := by decide +kernel
theorem dX5_read_1 : decode cX5_read 1 = .ok (.iconst 0, 1) := by decide +kernel
theorem dX5_read_2 : decode cX5_read 2 = .ok (.putfield 9, 3) := by decide +kernel
theorem dX5_read_5 : decode cX5_read 5 = .ok (.aload_n 0, 1) := by decide +kernel
theorem dX5_read_6 : decode cX5_read 6 = .ok (.iconst 0, 1) := by decide +kernel
theorem dX5_read_7 : decode cX5_read 7 = .ok (.putfield 15, 3) := by decide +kernel
theorem dX5_read_10 : decode cX5_read 10 = .ok (.aload_n 0, 1) := by decide +kernel
theorem dX5_read_11 : decode cX5_read 11 = .ok (.iconst 0, 1) := by decide +kernel
theorem dX5_read_12 : decode cX5_read 12 = .ok (.putfield 18, 3) := by decide +kernel
theorem dX5_read_15 : decode cX5_read 15 = .ok (.iconst 0, 1) := by decide +kernel
theorem dX5_read_16 : decode cX5_read 16 = .ok (.istore_n 3, 1) := by decide +kernel
theorem dX5_read_17 : decode cX5_read 17 = .ok (.iload_n 3, 1) := by decide +kernel
theorem dX5_read_18 : decode cX5_read 18 = .ok (.bipush 12, 2) := by decide +kernel
theorem dX5_read_20 : decode cX5_read 20 = .ok (.if_icmp .gt 34, 3) := by decide +kernel
theorem dX5_read_23 : decode cX5_read 23 = .ok (.aload_n 1, 1) := by decide +kernel
theorem dX5_read_24 : decode cX5_read 24 = .ok (.aload_n 0, 1) := by decide +kernel
theorem dX5_read_25 : decode cX5_read 25 = .ok (.getfield 18, 3) := by decide +kernel
theorem dX5_read_28 : decode cX5_read 28 = .ok (.invokevirtual 21, 3) := by decide +kernel
theorem dX5_read_31 : decode cX5_read 31 = .ok (.ifCond .eq 23, 3) := by decide +kernel
theorem dX5_read_34 : decode cX5_read 34 = .ok (.aload_n 0, 1) := by decide +kernel
theorem dX5_read_35 : decode cX5_read 35 = .ok (.aload_n 1, 1) := by decide +kernel
theorem dX5_read_36 : decode cX5_read 36 = .ok (.aload_n 2, 1) := by decide +kernel
theorem dX5_read_37 : decode cX5_read 37 = .ok (.invokevirtual 27, 3) := by decide +kernel
theorem dX5_read_40 : decode cX5_read 40 = .ok (.ifCond .ne 8, 3) := by decide +kernel
theorem dX5_read_43 : decode cX5_read 43 = .ok (.aload_n 0, 1) := by decide +kernel
theorem dX5_read_44 : decode cX5_read 44 = .ok (.getfield 9, 3) := by decide +kernel
theorem dX5_read_47 : decode cX5_read 47 = .ok (.ireturn, 1) := by decide +kernel
theorem dX5_read_48 : decode cX5_read 48 = .ok (.iinc 3 1, 3) := by decide +kernel
theorem dX5_read_51 : decode cX5_read 51 = .ok (.goto (-34), 3) := by decide +kernel
theorem dX5_read_54 : decode cX5_read 54 = .ok (.iconst 0, 1) := by decide +kernel
theorem dX5_read_55 : decode cX5_read 55 = .ok (.ireturn, 1) := by decide +kernel
theorem dX5_readLine_0 : decode cX5_readLine 0 = .ok (.aload_n 1, 1) := by decide +kernel
theorem dX5_readLine_1 : decode cX5_readLine 1 = .ok (.aload_n 0, 1) := by decide +kernel
theorem dX5_readLine_2 : decode cX5_readLine 2 = .ok (.getfield 18, 3) := by decide +kernel
theorem dX5_readLine_5 : decode cX5_readLine 5 = .ok (.invokevirtual 21, 3) := by decide +kernel
theorem dX5_readLine_8 : decode cX5_readLine 8 = .ok (.istore_n 3, 1) := by decide +kernel
theorem dX5_readLine_9 : decode cX5_readLine 9 = .ok (.iload_n 3, 1) := by decide +kernel
theorem dX5_readLine_10 : decode cX5_readLine 10 = .ok (.bipush 7, 2) := by decide +kernel
theorem dX5_readLine_12 : decode cX5_readLine 12 = .ok (.if_icmp .lt 9, 3) := by decide +kernel
theorem dX5_readLine_15 : decode cX5_readLine 15 = .ok (.iload_n 3, 1) := by decide +kernel
theorem dX5_readLine_16 : decode cX5_readLine 16 = .ok (.bipush 10, 2) := by decide +kernel
theorem dX5_readLine_18 : decode cX5_readLine 18 = .ok (.if_icmp .le 9, 3) := by decide +kernel
theorem dX5_readLine_21 : decode cX5_readLine 21 = .ok (.aload_n 0, 1) := by decide +kernel
theorem dX5_readLine_22 : decode cX5_readLine 22 = .ok (.aload_n 1, 1) := by decide +kernel
theorem dX5_readLine_23 : decode cX5_readLine 23 = .ok (.invokevirtual 31, 3) := by decide +kernel
theorem dX5_readLine_26 : decode cX5_readLine 26 = .ok (.ireturn, 1) := by decide +kernel
theorem dX5_readLine_27 : decode cX5_readLine 27 = .ok (.aload_n 2, 1) := by decide +kernel
theorem dX5_readLine_28 : decode cX5_readLine 28 = .ok (.getfield 35, 3) := by decide +kernel
theorem dX5_readLine_31 : decode cX5_readLine 31 = .ok (.bipush 12, 2) := by decide +kernel
theorem dX5_readLine_33 : decode cX5_readLine 33 = .ok (.if_icmp .lt 17, 3) := by decide +kernel
theorem dX5_readLine_36 : decode cX5_readLine 36 = .ok (.aload_n 0, 1) := by decide +kernel
theorem dX5_readLine_37 : decode cX5_readLine 37 = .ok (.iconst 4, 1) := by decide +kernel
theorem dX5_readLine_38 : decode cX5_readLine 38 = .ok (.aload_n 1, 1) := by decide +kernel
theorem dX5_readLine_39 : decode cX5_readLine 39 = .ok (.aload_n 0, 1) := by decide +kernel
theorem dX5_readLine_40 : decode cX5_readLine 40 = .ok (.getfield 18, 3) := by decide +kernel
theorem dX5_readLine_43 : decode cX5_readLine 43 = .ok (.invokevirtual 40, 3) := by decide +kernel
theorem dX5_readLine_46 : decode cX5_readLine 46 = .ok (.invokevirtual 43, 3) := by decide +kernel
theorem dX5_readLine_49 : decode cX5_readLine 49 = .ok (.ireturn, 1) := by decide +kernel
theorem dX5_readLine_50 : decode cX5_readLine 50 = .ok (.iconst 0, 1) := by decide +kernel
theorem dX5_readLine_51 : decode cX5_readLine 51 = .ok (.istore 4, 2) := by decide +kernel
theorem dX5_readLine_53 : decode cX5_readLine 53 = .ok (.iload_n 3, 1) := by decide +kernel
theorem dX5_readLine_54 : decode cX5_readLine 54 = .ok (.bipush 7, 2) := by decide +kernel
theorem dX5_readLine_56 : decode cX5_readLine 56 = .ok (.if_icmp .ne 33, 3) := by decide +kernel
theorem dX5_readLine_59 : decode cX5_readLine 59 = .ok (.aload_n 0, 1) := by decide +kernel
theorem dX5_readLine_60 : decode cX5_readLine 60 = .ok (.dup, 1) := by decide +kernel
theorem dX5_readLine_61 : decode cX5_readLine 61 = .ok (.getfield 18, 3) := by decide +kernel
theorem dX5_readLine_64 : decode cX5_readLine 64 = .ok (.iconst 1, 1) := by decide +kernel
theorem dX5_readLine_65 : decode cX5_readLine 65 = .ok (.iadd, 1) := by decide +kernel
theorem dX5_readLine_66 : decode cX5_readLine 66 = .ok (.putfield 18, 3) := by decide +kernel
theorem dX5_readLine_69 : decode cX5_readLine 69 = .ok (.aload_n 0, 1) := by decide +kernel
theorem dX5_readLine_70 : decode cX5_readLine 70 = .ok (.aload_n 1, 1) := by decide +kernel
theorem dX5_readLine_71 : decode cX5_readLine 71 = .ok (.iconst 0, 1) := by decide +kernel
theorem dX5_readLine_72 : decode cX5_readLine 72 = .ok (.sipush 9999, 3) := by decide +kernel
theorem dX5_readLine_75 : decode cX5_readLine 75 = .ok (.invokevirtual 47, 3) := by decide +kernel
theorem dX5_readLine_78 : decode cX5_readLine 78 = .ok (.ifCond .ne 5, 3) := by decide +kernel
theorem dX5_readLine_81 : decode cX5_readLine 81 = .ok (.iconst 0, 1) := by decide +kernel
theorem dX5_readLine_82 : decode cX5_readLine 82 = .ok (.ireturn, 1) := by decide +kernel
theorem dX5_readLine_83 : decode cX5_readLine 83 = .ok (.aload_n 0, 1) := by decide +kernel
theorem dX5_readLine_84 : decode cX5_readLine 84 = .ok (.getfield 51, 3) := by decide +kernel
theorem dX5_readLine_87 : decode cX5_readLine 87 = .ok (.istore 4, 2) := by decide +kernel
theorem dX5_readLine_89 : decode cX5_readLine 89 = .ok (.aload_n 1, 1) := by decide +kernel
theorem dX5_readLine_90 : decode cX5_readLine 90 = .ok (.aload_n 0, 1) := by decide +kernel
theorem dX5_readLine_91 : decode cX5_readLine 91 = .ok (.getfield 18, 3) := by decide +kernel
theorem dX5_readLine_94 : decode cX5_readLine 94 = .ok (.invokevirtual 21, 3) := by decide +kernel
theorem dX5_readLine_97 : decode cX5_readLine 97 = .ok (.istore 5, 2) := by decide +kernel
theorem dX5_readLine_99 : decode cX5_readLine 99 = .ok (.iload 5, 2) := by decide +kernel
theorem dX5_readLine_101 : decode cX5_readLine 101 = .ok (.bipush 8, 2) := by decide +kernel
theorem dX5_readLine_103 : decode cX5_readLine 103 = .ok (.if_icmp .lt 10, 3) := by decide +kernel
theorem dX5_readLine_106 : decode cX5_readLine 106 = .ok (.iload 5, 2) := by decide +kernel
theorem dX5_readLine_108 : decode cX5_readLine 108 = .ok (.bipush 10, 2) := by decide +kernel
theorem dX5_readLine_110 : decode cX5_readLine 110 = .ok (.if_icmp .le 9, 3) := by decide +kernel
theorem dX5_readLine_113 : decode cX5_readLine 113 = .ok (.aload_n 0, 1) := by decide +kernel
theorem dX5_readLine_114 : decode cX5_readLine 114 = .ok (.aload_n 1, 1) := by decide +kernel
theorem dX5_readLine_115 : decode cX5_readLine 115 = .ok (.invokevirtual 31, 3) := by decide +kernel
theorem dX5_readLine_118 : decode cX5_readLine 118 = .ok (.ireturn, 1) := by decide +kernel
theorem dX5_readLine_119 : decode cX5_readLine 119 = .ok (.aload_n 0, 1) := by decide +kernel
theorem dX5_readLine_120 : decode cX5_readLine 120 = .ok (.dup, 1) := by decide +kernel
theorem dX5_readLine_121 : decode cX5_readLine 121 = .ok (.getfield 18, 3) := by decide +kernel
theorem dX5_readLine_124 : decode cX5_readLine 124 = .ok (.iconst 1, 1) := by decide +kernel
theorem dX5_readLine_125 : decode cX5_readLine 125 = .ok (.iadd, 1) := by decide +kernel
theorem dX5_readLine_126 : decode cX5_readLine 126 = .ok (.putfield 18, 3) := by decide +kernel
theorem dX5_readLine_129 : decode cX5_readLine 129 = .ok (.aload_n 0, 1) := by decide +kernel
theorem dX5_readLine_130 : decode cX5_readLine 130 = .ok (.aload_n 1, 1) := by decide +kernel
theorem dX5_readLine_131 : decode cX5_readLine 131 = .ok (.aload_n 2, 1) := by decide +kernel
theorem dX5_readLine_132 : decode cX5_readLine 132 = .ok (.iload 5, 2) := by decide +kernel
theorem dX5_readLine_134 : decode cX5_readLine 134 = .ok (.iload 4, 2) := by decide +kernel
theorem dX5_readLine_136 : decode cX5_readLine 136 = .ok (.invokevirtual 54, 3) := by decide +kernel
theorem dX5_readLine_139 : decode cX5_readLine 139 = .ok (.ifCond .ne 5, 3) := by decide +kernel
theorem dX5_readLine_142 : decode cX5_readLine 142 = .ok (.iconst 0, 1) := by decide +kernel
theorem dX5_readLine_143 : decode cX5_readLine 143 = .ok (.ireturn, 1) := by decide +kernel
theorem dX5_readLine_144 : decode cX5_readLine 144 = .ok (.iload 5, 2) := by decide +kernel
theorem dX5_readLine_146 : decode cX5_readLine 146 = .ok (.bipush 8, 2) := by decide +kernel
theorem dX5_readLine_148 : decode cX5_readLine 148 = .ok (.if_icmp .ne 27, 3) := by decide +kernel
theorem dX5_readLine_151 : decode cX5_readLine 151 = .ok (.aload_n 1, 1) := by decide +kernel
theorem dX5_readLine_152 : decode cX5_readLine 152 = .ok (.aload_n 0, 1) := by decide +kernel
theorem dX5_readLine_153 : decode cX5_readLine 153 = .ok (.getfield 18, 3) := by decide +kernel
theorem dX5_readLine_156 : decode cX5_readLine 156 = .ok (.invokevirtual 21, 3) := by decide +kernel
theorem dX5_readLine_159 : decode cX5_readLine 159 = .ok (.bipush 11, 2) := by decide +kernel
theorem dX5_readLine_161 : decode cX5_readLine 161 = .ok (.if_icmp .ne 14, 3) := by decide +kernel
theorem dX5_readLine_164 : decode cX5_readLine 164 = .ok (.aload_n 0, 1) := by decide +kernel
theorem dX5_readLine_165 : decode cX5_readLine 165 = .ok (.aload_n 1, 1) := by decide +kernel
theorem dX5_readLine_166 : decode cX5_readLine 166 = .ok (.aload_n 2, 1) := by decide +kernel
theorem dX5_readLine_167 : decode cX5_readLine 167 = .ok (.invokevirtual 58, 3) := by decide +kernel
theorem dX5_readLine_170 : decode cX5_readLine 170 = .ok (.ifCond .ne 5, 3) := by decide +kernel
theorem dX5_readLine_173 : decode cX5_readLine 173 = .ok (.iconst 0, 1) := by decide +kernel
theorem dX5_readLine_174 : decode cX5_readLine 174 = .ok (.ireturn, 1) := by decide +kernel
theorem dX5_readLine_175 : decode cX5_readLine 175 = .ok (.aload_n 1, 1) := by decide +kernel
theorem dX5_readLine_176 : decode cX5_readLine 176 = .ok (.aload_n 0, 1) := by decide +kernel
theorem dX5_readLine_177 : decode cX5_readLine 177 = .ok (.getfield 18, 3) := by decide +kernel
theorem dX5_readLine_180 : decode cX5_readLine 180 = .ok (.invokevirtual 21, 3) := by decide +kernel
theorem dX5_readLine_183 : decode cX5_readLine 183 = .ok (.bipush 6, 2) := by decide +kernel
theorem dX5_readLine_185 : decode cX5_readLine 185 = .ok (.if_icmp .eq 9, 3) := by decide +kernel
theorem dX5_readLine_188 : decode cX5_readLine 188 = .ok (.aload_n 0, 1) := by decide +kernel
theorem dX5_readLine_189 : decode cX5_readLine 189 = .ok (.aload_n 1, 1) := by decide +kernel
theorem dX5_readLine_190 : decode cX5_readLine 190 = .ok (.invokevirtual 31, 3) := by decide +kernel
theorem dX5_readLine_193 : decode cX5_readLine 193 = .ok (.ireturn, 1) := by decide +kernel
theorem dX5_readLine_194 : decode cX5_readLine 194 = .ok (.aload_n 0, 1) := by decide +kernel
theorem dX5_readLine_195 : decode cX5_readLine 195 = .ok (.dup, 1) := by decide +kernel
theorem dX5_readLine_196 : decode cX5_readLine 196 = .ok (.getfield 18, 3) := by decide +kernel
theorem dX5_readLine_199 : decode cX5_readLine 199 = .ok (.iconst 1, 1) := by decide +kernel
theorem dX5_readLine_200 : decode cX5_readLine 200 = .ok (.iadd, 1) := by decide +kernel
theorem dX5_readLine_201 : decode cX5_readLine 201 = .ok (.putfield 18, 3) := by decide +kernel
theorem dX5_readLine_204 : decode cX5_readLine 204 = .ok (.iconst 1, 1) := by decide +kernel
theorem dX5_readLine_205 : decode cX5_readLine 205 = .ok (.ireturn, 1) := by decide +kernel
theorem dX5_readRule_0 : decode cX5_readRule 0 = .ok (.aload_n 1, 1) := by decide +kernel
theorem dX5_readRule_1 : decode cX5_readRule 1 = .ok (.aload_n 0, 1) := by decide +kernel
theorem dX5_readRule_2 : decode cX5_readRule 2 = .ok (.getfield 18, 3) := by decide +kernel
theorem dX5_readRule_5 : decode cX5_readRule 5 = .ok (.invokevirtual 40, 3) := by decide +kernel
theorem dX5_readRule_8 : decode cX5_readRule 8 = .ok (.istore 5, 2) := by decide +kernel
theorem dX5_readRule_10 : decode cX5_readRule 10 = .ok (.aload_n 0, 1) := by decide +kernel
theorem dX5_readRule_11 : decode cX5_readRule 11 = .ok (.aload_n 1, 1) := by decide +kernel
theorem dX5_readRule_12 : decode cX5_readRule 12 = .ok (.iconst 0, 1) := by decide +kernel
theorem dX5_readRule_13 : decode cX5_readRule 13 = .ok (.iconst 3, 1) := by decide +kernel
theorem dX5_readRule_14 : decode cX5_readRule 14 = .ok (.invokevirtual 47, 3) := by decide +kernel
theorem dX5_readRule_17 : decode cX5_readRule 17 = .ok (.ifCond .ne 5, 3) := by decide +kernel
theorem dX5_readRule_20 : decode cX5_readRule 20 = .ok (.iconst 0, 1) := by decide +kernel
theorem dX5_readRule_21 : decode cX5_readRule 21 = .ok (.ireturn, 1) := by decide +kernel
theorem dX5_readRule_22 : decode cX5_readRule 22 = .ok (.aload_n 0, 1) := by decide +kernel
theorem dX5_readRule_23 : decode cX5_readRule 23 = .ok (.getfield 51, 3) := by decide +kernel
theorem dX5_readRule_26 : decode cX5_readRule 26 = .ok (.istore 6, 2) := by decide +kernel
theorem dX5_readRule_28 : decode cX5_readRule 28 = .ok (.iload_n 3, 1) := by decide +kernel
theorem dX5_readRule_29 : decode cX5_readRule 29 = .ok (.bipush 8, 2) := by decide +kernel
theorem dX5_readRule_31 : decode cX5_readRule 31 = .ok (.if_icmp .eq 23, 3) := by decide +kernel
theorem dX5_readRule_34 : decode cX5_readRule 34 = .ok (.aload_n 2, 1) := by decide +kernel
theorem dX5_readRule_35 : decode cX5_readRule 35 = .ok (.iload_n 3, 1) := by decide +kernel
theorem dX5_readRule_36 : decode cX5_readRule 36 = .ok (.iload 6, 2) := by decide +kernel
theorem dX5_readRule_38 : decode cX5_readRule 38 = .ok (.iload 4, 2) := by decide +kernel
theorem dX5_readRule_40 : decode cX5_readRule 40 = .ok (.invokevirtual 61, 3) := by decide +kernel
theorem dX5_readRule_43 : decode cX5_readRule 43 = .ok (.ifCond .eq 11, 3) := by decide +kernel
theorem dX5_readRule_46 : decode cX5_readRule 46 = .ok (.aload_n 0, 1) := by decide +kernel
theorem dX5_readRule_47 : decode cX5_readRule 47 = .ok (.iconst 5, 1) := by decide +kernel
theorem dX5_readRule_48 : decode cX5_readRule 48 = .ok (.iload 5, 2) := by decide +kernel
theorem dX5_readRule_50 : decode cX5_readRule 50 = .ok (.invokevirtual 43, 3) := by decide +kernel
theorem dX5_readRule_53 : decode cX5_readRule 53 = .ok (.ireturn, 1) := by decide +kernel
theorem dX5_readRule_54 : decode cX5_readRule 54 = .ok (.iload_n 3, 1) := by decide +kernel
theorem dX5_readRule_55 : decode cX5_readRule 55 = .ok (.bipush 9, 2) := by decide +kernel
theorem dX5_readRule_57 : decode cX5_readRule 57 = .ok (.if_icmp .ne 7, 3) := by decide +kernel
theorem dX5_readRule_60 : decode cX5_readRule 60 = .ok (.iconst 1, 1) := by decide +kernel
theorem dX5_readRule_61 : decode cX5_readRule 61 = .ok (.goto 4, 3) := by decide +kernel
theorem dX5_readRule_64 : decode cX5_readRule 64 = .ok (.iconst 0, 1) := by decide +kernel
theorem dX5_readRule_65 : decode cX5_readRule 65 = .ok (.istore 7, 2) := by decide +kernel
theorem dX5_readRule_67 : decode cX5_readRule 67 = .ok (.iload_n 3, 1) := by decide +kernel
theorem dX5_readRule_68 : decode cX5_readRule 68 = .ok (.bipush 8, 2) := by decide +kernel
theorem dX5_readRule_70 : decode cX5_readRule 70 = .ok (.if_icmp .ne 8, 3) := by decide +kernel
theorem dX5_readRule_73 : decode cX5_readRule 73 = .ok (.bipush 9, 2) := by decide +kernel
theorem dX5_readRule_75 : decode cX5_readRule 75 = .ok (.goto 18, 3) := by decide +kernel
theorem dX5_readRule_78 : decode cX5_readRule 78 = .ok (.iload_n 3, 1) := by decide +kernel
theorem dX5_readRule_79 : decode cX5_readRule 79 = .ok (.bipush 9, 2) := by decide +kernel
theorem dX5_readRule_81 : decode cX5_readRule 81 = .ok (.if_icmp .ne 9, 3) := by decide +kernel
theorem dX5_readRule_84 : decode cX5_readRule 84 = .ok (.sipush 9999, 3) := by decide +kernel
theorem dX5_readRule_87 : decode cX5_readRule 87 = .ok (.goto 6, 3) := by decide +kernel
theorem dX5_readRule_90 : decode cX5_readRule 90 = .ok (.sipush 9999, 3) := by decide +kernel
theorem dX5_readRule_93 : decode cX5_readRule 93 = .ok (.istore 8, 2) := by decide +kernel
theorem dX5_readRule_95 : decode cX5_readRule 95 = .ok (.aload_n 0, 1) := by decide +kernel
theorem dX5_readRule_96 : decode cX5_readRule 96 = .ok (.aload_n 1, 1) := by decide +kernel
theorem dX5_readRule_97 : decode cX5_readRule 97 = .ok (.iload 7, 2) := by decide +kernel
theorem dX5_readRule_99 : decode cX5_readRule 99 = .ok (.iload 8, 2) := by decide +kernel
theorem dX5_readRule_101 : decode cX5_readRule 101 = .ok (.invokevirtual 47, 3) := by decide +kernel
theorem dX5_readRule_104 : decode cX5_readRule 104 = .ok (.ifCond .ne 5, 3) := by decide +kernel
theorem dX5_readRule_107 : decode cX5_readRule 107 = .ok (.iconst 0, 1) := by decide +kernel
theorem dX5_readRule_108 : decode cX5_readRule 108 = .ok (.ireturn, 1) := by decide +kernel
theorem dX5_readRule_109 : decode cX5_readRule 109 = .ok (.aload_n 2, 1) := by decide +kernel
theorem dX5_readRule_110 : decode cX5_readRule 110 = .ok (.iload_n 3, 1) := by decide +kernel
theorem dX5_readRule_111 : decode cX5_readRule 111 = .ok (.iload 4, 2) := by decide +kernel
theorem dX5_readRule_113 : decode cX5_readRule 113 = .ok (.iload 6, 2) := by decide +kernel
theorem dX5_readRule_115 : decode cX5_readRule 115 = .ok (.aload_n 0, 1) := by decide +kernel
theorem dX5_readRule_116 : decode cX5_readRule 116 = .ok (.getfield 51, 3) := by decide +kernel
theorem dX5_readRule_119 : decode cX5_readRule 119 = .ok (.invokevirtual 65, 3) := by decide +kernel
theorem dX5_readRule_122 : decode cX5_readRule 122 = .ok (.iconst 1, 1) := by decide +kernel
theorem dX5_readRule_123 : decode cX5_readRule 123 = .ok (.ireturn, 1) := by decide +kernel
theorem dX5_readTests_0 : decode cX5_readTests 0 = .ok (.iconst 0, 1) := by decide +kernel
theorem dX5_readTests_1 : decode cX5_readTests 1 = .ok (.istore_n 3, 1) := by decide +kernel
theorem dX5_readTests_2 : decode cX5_readTests 2 = .ok (.iload_n 3, 1) := by decide +kernel
theorem dX5_readTests_3 : decode cX5_readTests 3 = .ok (.iconst 3, 1) := by decide +kernel
theorem dX5_readTests_4 : decode cX5_readTests 4 = .ok (.if_icmp .gt 159, 3) := by decide +kernel
theorem dX5_readTests_7 : decode cX5_readTests 7 = .ok (.aload_n 0, 1) := by decide +kernel
theorem dX5_readTests_8 : decode cX5_readTests 8 = .ok (.dup, 1) := by decide +kernel
theorem dX5_readTests_9 : decode cX5_readTests 9 = .ok (.getfield 18, 3) := by decide +kernel
theorem dX5_readTests_12 : decode cX5_readTests 12 = .ok (.iconst 1, 1) := by decide +kernel
theorem dX5_readTests_13 : decode cX5_readTests 13 = .ok (.iadd, 1) := by decide +kernel
theorem dX5_readTests_14 : decode cX5_readTests 14 = .ok (.putfield 18, 3) := by decide +kernel
theorem dX5_readTests_17 : decode cX5_readTests 17 = .ok (.aload_n 1, 1) := by decide +kernel
theorem dX5_readTests_18 : decode cX5_readTests 18 = .ok (.aload_n 0, 1) := by decide +kernel
theorem dX5_readTests_19 : decode cX5_readTests 19 = .ok (.getfield 18, 3) := by decide +kernel
theorem dX5_readTests_22 : decode cX5_readTests 22 = .ok (.invokevirtual 21, 3) := by decide +kernel
theorem dX5_readTests_25 : decode cX5_readTests 25 = .ok (.istore 4, 2) := by decide +kernel
theorem dX5_readTests_27 : decode cX5_readTests 27 = .ok (.iload 4, 2) := by decide +kernel
theorem dX5_readTests_29 : decode cX5_readTests 29 = .ok (.bipush 13, 2) := by decide +kernel
theorem dX5_readTests_31 : decode cX5_readTests 31 = .ok (.if_icmp .lt 10, 3) := by decide +kernel
theorem dX5_readTests_34 : decode cX5_readTests 34 = .ok (.iload 4, 2) := by decide +kernel
theorem dX5_readTests_36 : decode cX5_readTests 36 = .ok (.bipush 15, 2) := by decide +kernel
theorem dX5_readTests_38 : decode cX5_readTests 38 = .ok (.if_icmp .le 9, 3) := by decide +kernel
theorem dX5_readTests_41 : decode cX5_readTests 41 = .ok (.aload_n 0, 1) := by decide +kernel
theorem dX5_readTests_42 : decode cX5_readTests 42 = .ok (.aload_n 1, 1) := by decide +kernel
theorem dX5_readTests_43 : decode cX5_readTests 43 = .ok (.invokevirtual 31, 3) := by decide +kernel
theorem dX5_readTests_46 : decode cX5_readTests 46 = .ok (.ireturn, 1) := by decide +kernel
theorem dX5_readTests_47 : decode cX5_readTests 47 = .ok (.iload_n 3, 1) := by decide +kernel
theorem dX5_readTests_48 : decode cX5_readTests 48 = .ok (.iconst 3, 1) := by decide +kernel
theorem dX5_readTests_49 : decode cX5_readTests 49 = .ok (.if_icmp .lt 17, 3) := by decide +kernel
theorem dX5_readTests_52 : decode cX5_readTests 52 = .ok (.aload_n 0, 1) := by decide +kernel
theorem dX5_readTests_53 : decode cX5_readTests 53 = .ok (.iconst 4, 1) := by decide +kernel
theorem dX5_readTests_54 : decode cX5_readTests 54 = .ok (.aload_n 1, 1) := by decide +kernel
theorem dX5_readTests_55 : decode cX5_readTests 55 = .ok (.aload_n 0, 1) := by decide +kernel
theorem dX5_readTests_56 : decode cX5_readTests 56 = .ok (.getfield 18, 3) := by decide +kernel
theorem dX5_readTests_59 : decode cX5_readTests 59 = .ok (.invokevirtual 40, 3) := by decide +kernel
theorem dX5_readTests_62 : decode cX5_readTests 62 = .ok (.invokevirtual 43, 3) := by decide +kernel
theorem dX5_readTests_65 : decode cX5_readTests 65 = .ok (.ireturn, 1) := by decide +kernel
theorem dX5_readTests_66 : decode cX5_readTests 66 = .ok (.aload_n 0, 1) := by decide +kernel
theorem dX5_readTests_67 : decode cX5_readTests 67 = .ok (.dup, 1) := by decide +kernel
theorem dX5_readTests_68 : decode cX5_readTests 68 = .ok (.getfield 18, 3) := by decide +kernel
theorem dX5_readTests_71 : decode cX5_readTests 71 = .ok (.iconst 1, 1) := by decide +kernel
theorem dX5_readTests_72 : decode cX5_readTests 72 = .ok (.iadd, 1) := by decide +kernel
theorem dX5_readTests_73 : decode cX5_readTests 73 = .ok (.putfield 18, 3) := by decide +kernel
theorem dX5_readTests_76 : decode cX5_readTests 76 = .ok (.aload_n 1, 1) := by decide +kernel
theorem dX5_readTests_77 : decode cX5_readTests 77 = .ok (.aload_n 0, 1) := by decide +kernel
theorem dX5_readTests_78 : decode cX5_readTests 78 = .ok (.getfield 18, 3) := by decide +kernel
theorem dX5_readTests_81 : decode cX5_readTests 81 = .ok (.invokevirtual 21, 3) := by decide +kernel
theorem dX5_readTests_84 : decode cX5_readTests 84 = .ok (.istore 5, 2) := by decide +kernel
theorem dX5_readTests_86 : decode cX5_readTests 86 = .ok (.iload 5, 2) := by decide +kernel
theorem dX5_readTests_88 : decode cX5_readTests 88 = .ok (.iconst 3, 1) := by decide +kernel
theorem dX5_readTests_89 : decode cX5_readTests 89 = .ok (.if_icmp .lt 9, 3) := by decide +kernel
theorem dX5_readTests_92 : decode cX5_readTests 92 = .ok (.iload 5, 2) := by decide +kernel
theorem dX5_readTests_94 : decode cX5_readTests 94 = .ok (.iconst 5, 1) := by decide +kernel
theorem dX5_readTests_95 : decode cX5_readTests 95 = .ok (.if_icmp .le 9, 3) := by decide +kernel
theorem dX5_readTests_98 : decode cX5_readTests 98 = .ok (.aload_n 0, 1) := by decide +kernel
theorem dX5_readTests_99 : decode cX5_readTests 99 = .ok (.aload_n 1, 1) := by decide +kernel
theorem dX5_readTests_100 : decode cX5_readTests 100 = .ok (.invokevirtual 31, 3) := by decide +kernel
theorem dX5_readTests_103 : decode cX5_readTests 103 = .ok (.ireturn, 1) := by decide +kernel
theorem dX5_readTests_104 : decode cX5_readTests 104 = .ok (.aload_n 0, 1) := by decide +kernel
theorem dX5_readTests_105 : decode cX5_readTests 105 = .ok (.dup, 1) := by decide +kernel
theorem dX5_readTests_106 : decode cX5_readTests 106 = .ok (.getfield 18, 3) := by decide +kernel
theorem dX5_readTests_109 : decode cX5_readTests 109 = .ok (.iconst 1, 1) := by decide +kernel
theorem dX5_readTests_110 : decode cX5_readTests 110 = .ok (.iadd, 1) := by decide +kernel
theorem dX5_readTests_111 : decode cX5_readTests 111 = .ok (.putfield 18, 3) := by decide +kernel
theorem dX5_readTests_114 : decode cX5_readTests 114 = .ok (.aload_n 0, 1) := by decide +kernel
theorem dX5_readTests_115 : decode cX5_readTests 115 = .ok (.aload_n 1, 1) := by decide +kernel
theorem dX5_readTests_116 : decode cX5_readTests 116 = .ok (.iconst 0, 1) := by decide +kernel
theorem dX5_readTests_117 : decode cX5_readTests 117 = .ok (.bipush 9, 2) := by decide +kernel
theorem dX5_readTests_119 : decode cX5_readTests 119 = .ok (.invokevirtual 47, 3) := by decide +kernel
theorem dX5_readTests_122 : decode cX5_readTests 122 = .ok (.ifCond .ne 5, 3) := by decide +kernel
theorem dX5_readTests_125 : decode cX5_readTests 125 = .ok (.iconst 0, 1) := by decide +kernel
theorem dX5_readTests_126 : decode cX5_readTests 126 = .ok (.ireturn, 1) := by decide +kernel
theorem dX5_readTests_127 : decode cX5_readTests 127 = .ok (.aload_n 2, 1) := by decide +kernel
theorem dX5_readTests_128 : decode cX5_readTests 128 = .ok (.iload 4, 2) := by decide +kernel
theorem dX5_readTests_130 : decode cX5_readTests 130 = .ok (.bipush 13, 2) := by decide +kernel
theorem dX5_readTests_132 : decode cX5_readTests 132 = .ok (.isub, 1) := by decide +kernel
theorem dX5_readTests_133 : decode cX5_readTests 133 = .ok (.iload 5, 2) := by decide +kernel
theorem dX5_readTests_135 : decode cX5_readTests 135 = .ok (.aload_n 0, 1) := by decide +kernel
theorem dX5_readTests_136 : decode cX5_readTests 136 = .ok (.getfield 51, 3) := by decide +kernel
theorem dX5_readTests_139 : decode cX5_readTests 139 = .ok (.invokevirtual 69, 3) := by decide +kernel
theorem dX5_readTests_142 : decode cX5_readTests 142 = .ok (.aload_n 1, 1) := by decide +kernel
theorem dX5_readTests_143 : decode cX5_readTests 143 = .ok (.aload_n 0, 1) := by decide +kernel
theorem dX5_readTests_144 : decode cX5_readTests 144 = .ok (.getfield 18, 3) := by decide +kernel
theorem dX5_readTests_147 : decode cX5_readTests 147 = .ok (.invokevirtual 21, 3) := by decide +kernel
theorem dX5_readTests_150 : decode cX5_readTests 150 = .ok (.bipush 12, 2) := by decide +kernel
theorem dX5_readTests_152 : decode cX5_readTests 152 = .ok (.if_icmp .eq 5, 3) := by decide +kernel
theorem dX5_readTests_155 : decode cX5_readTests 155 = .ok (.iconst 1, 1) := by decide +kernel
theorem dX5_readTests_156 : decode cX5_readTests 156 = .ok (.ireturn, 1) := by decide +kernel
theorem dX5_readTests_157 : decode cX5_readTests 157 = .ok (.iinc 3 1, 3) := by decide +kernel
theorem dX5_readTests_160 : decode cX5_readTests 160 = .ok (.goto (-158), 3) := by decide +kernel
theorem dX5_readTests_163 : decode cX5_readTests 163 = .ok (.iconst 1, 1) := by decide +kernel
theorem dX5_readTests_164 : decode cX5_readTests 164 = .ok (.ireturn, 1) := by decide +kernel
theorem dX5_takeNumber_0 : decode cX5_takeNumber 0 = .ok (.aload_n 1, 1) := by decide +kernel
theorem dX5_takeNumber_1 : decode cX5_takeNumber 1 = .ok (.aload_n 0, 1) := by decide +kernel
theorem dX5_takeNumber_2 : decode cX5_takeNumber 2 = .ok (.getfield 18, 3) := by decide +kernel
theorem dX5_takeNumber_5 : decode cX5_takeNumber 5 = .ok (.invokevirtual 21, 3) := by decide +kernel
theorem dX5_takeNumber_8 : decode cX5_takeNumber 8 = .ok (.iconst 2, 1) := by decide +kernel
theorem dX5_takeNumber_9 : decode cX5_takeNumber 9 = .ok (.if_icmp .eq 9, 3) := by decide +kernel
theorem dX5_takeNumber_12 : decode cX5_takeNumber 12 = .ok (.aload_n 0, 1) := by decide +kernel
theorem dX5_takeNumber_13 : decode cX5_takeNumber 13 = .ok (.aload_n 1, 1) := by decide +kernel
theorem dX5_takeNumber_14 : decode cX5_takeNumber 14 = .ok (.invokevirtual 31, 3) := by decide +kernel
theorem dX5_takeNumber_17 : decode cX5_takeNumber 17 = .ok (.ireturn, 1) := by decide +kernel
theorem dX5_takeNumber_18 : decode cX5_takeNumber 18 = .ok (.aload_n 0, 1) := by decide +kernel
theorem dX5_takeNumber_19 : decode cX5_takeNumber 19 = .ok (.aload_n 1, 1) := by decide +kernel
theorem dX5_takeNumber_20 : decode cX5_takeNumber 20 = .ok (.aload_n 0, 1) := by decide +kernel
theorem dX5_takeNumber_21 : decode cX5_takeNumber 21 = .ok (.getfield 18, 3) := by decide +kernel
theorem dX5_takeNumber_24 : decode cX5_takeNumber 24 = .ok (.invokevirtual 73, 3) := by decide +kernel
theorem dX5_takeNumber_27 : decode cX5_takeNumber 27 = .ok (.putfield 51, 3) := by decide +kernel
theorem dX5_takeNumber_30 : decode cX5_takeNumber 30 = .ok (.aload_n 0, 1) := by decide +kernel
theorem dX5_takeNumber_31 : decode cX5_takeNumber 31 = .ok (.getfield 51, 3) := by decide +kernel
theorem dX5_takeNumber_34 : decode cX5_takeNumber 34 = .ok (.iload_n 2, 1) := by decide +kernel
theorem dX5_takeNumber_35 : decode cX5_takeNumber 35 = .ok (.if_icmp .lt 11, 3) := by decide +kernel
theorem dX5_takeNumber_38 : decode cX5_takeNumber 38 = .ok (.aload_n 0, 1) := by decide +kernel
theorem dX5_takeNumber_39 : decode cX5_takeNumber 39 = .ok (.getfield 51, 3) := by decide +kernel
theorem dX5_takeNumber_42 : decode cX5_takeNumber 42 = .ok (.iload_n 3, 1) := by decide +kernel
theorem dX5_takeNumber_43 : decode cX5_takeNumber 43 = .ok (.if_icmp .le 17, 3) := by decide +kernel
theorem dX5_takeNumber_46 : decode cX5_takeNumber 46 = .ok (.aload_n 0, 1) := by decide +kernel
theorem dX5_takeNumber_47 : decode cX5_takeNumber 47 = .ok (.iconst 3, 1) := by decide +kernel
theorem dX5_takeNumber_48 : decode cX5_takeNumber 48 = .ok (.aload_n 1, 1) := by decide +kernel
theorem dX5_takeNumber_49 : decode cX5_takeNumber 49 = .ok (.aload_n 0, 1) := by decide +kernel
theorem dX5_takeNumber_50 : decode cX5_takeNumber 50 = .ok (.getfield 18, 3) := by decide +kernel
theorem dX5_takeNumber_53 : decode cX5_takeNumber 53 = .ok (.invokevirtual 40, 3) := by decide +kernel
theorem dX5_takeNumber_56 : decode cX5_takeNumber 56 = .ok (.invokevirtual 43, 3) := by decide +kernel
theorem dX5_takeNumber_59 : decode cX5_takeNumber 59 = .ok (.ireturn, 1) := by decide +kernel
theorem dX5_takeNumber_60 : decode cX5_takeNumber 60 = .ok (.aload_n 0, 1) := by decide +kernel
theorem dX5_takeNumber_61 : decode cX5_takeNumber 61 = .ok (.dup, 1) := by decide +kernel
theorem dX5_takeNumber_62 : decode cX5_takeNumber 62 = .ok (.getfield 18, 3) := by decide +kernel
theorem dX5_takeNumber_65 : decode cX5_takeNumber 65 = .ok (.iconst 1, 1) := by decide +kernel
theorem dX5_takeNumber_66 : decode cX5_takeNumber 66 = .ok (.iadd, 1) := by decide +kernel
theorem dX5_takeNumber_67 : decode cX5_takeNumber 67 = .ok (.putfield 18, 3) := by decide +kernel
theorem dX5_takeNumber_70 : decode cX5_takeNumber 70 = .ok (.iconst 1, 1) := by decide +kernel
theorem dX5_takeNumber_71 : decode cX5_takeNumber 71 = .ok (.ireturn, 1) := by decide +kernel
theorem dX5_refuseToken_0 : decode cX5_refuseToken 0 = .ok (.aload_n 0, 1) := by decide +kernel
theorem dX5_refuseToken_1 : decode cX5_refuseToken 1 = .ok (.aload_n 1, 1) := by decide +kernel
theorem dX5_refuseToken_2 : decode cX5_refuseToken 2 = .ok (.aload_n 0, 1) := by decide +kernel
theorem dX5_refuseToken_3 : decode cX5_refuseToken 3 = .ok (.getfield 18, 3) := by decide +kernel
theorem dX5_refuseToken_6 : decode cX5_refuseToken 6 = .ok (.invokevirtual 21, 3) := by decide +kernel
theorem dX5_refuseToken_9 : decode cX5_refuseToken 9 = .ok (.iconst 1, 1) := by decide +kernel
theorem dX5_refuseToken_10 : decode cX5_refuseToken 10 = .ok (.if_icmp .ne 7, 3) := by decide +kernel
theorem dX5_refuseToken_13 : decode cX5_refuseToken 13 = .ok (.iconst 1, 1) := by decide +kernel
theorem dX5_refuseToken_14 : decode cX5_refuseToken 14 = .ok (.goto 4, 3) := by decide +kernel
theorem dX5_refuseToken_17 : decode cX5_refuseToken 17 = .ok (.iconst 2, 1) := by decide +kernel
theorem dX5_refuseToken_18 : decode cX5_refuseToken 18 = .ok (.aload_n 1, 1) := by decide +kernel
theorem dX5_refuseToken_19 : decode cX5_refuseToken 19 = .ok (.aload_n 0, 1) := by decide +kernel
theorem dX5_refuseToken_20 : decode cX5_refuseToken 20 = .ok (.getfield 18, 3) := by decide +kernel
theorem dX5_refuseToken_23 : decode cX5_refuseToken 23 = .ok (.invokevirtual 40, 3) := by decide +kernel
theorem dX5_refuseToken_26 : decode cX5_refuseToken 26 = .ok (.invokevirtual 43, 3) := by decide +kernel
theorem dX5_refuseToken_29 : decode cX5_refuseToken 29 = .ok (.ireturn, 1) := by decide +kernel
theorem dX5_refuse_0 : decode cX5_refuse 0 = .ok (.aload_n 0, 1) := by decide +kernel
theorem dX5_refuse_1 : decode cX5_refuse 1 = .ok (.iload_n 1, 1) := by decide +kernel
theorem dX5_refuse_2 : decode cX5_refuse 2 = .ok (.putfield 9, 3) := by decide +kernel
theorem dX5_refuse_5 : decode cX5_refuse 5 = .ok (.aload_n 0, 1) := by decide +kernel
theorem dX5_refuse_6 : decode cX5_refuse 6 = .ok (.iload_n 2, 1) := by decide +kernel
theorem dX5_refuse_7 : decode cX5_refuse 7 = .ok (.putfield 15, 3) := by decide +kernel
theorem dX5_refuse_10 : decode cX5_refuse 10 = .ok (.iconst 0, 1) := by decide +kernel
theorem dX5_refuse_11 : decode cX5_refuse 11 = .ok (.ireturn, 1) := by decide +kernel
theorem dX6_add_0 : decode cX6_add 0 = .ok (.aload_n 0, 1) := by decide +kernel
theorem dX6_add_1 : decode cX6_add 1 = .ok (.getfield 38, 3) := by decide +kernel
theorem dX6_add_4 : decode cX6_add 4 = .ok (.bipush 12, 2) := by decide +kernel
theorem dX6_add_6 : decode cX6_add 6 = .ok (.if_icmp .ge 64, 3) := by decide +kernel
theorem dX6_add_9 : decode cX6_add 9 = .ok (.aload_n 0, 1) := by decide +kernel
theorem dX6_add_10 : decode cX6_add 10 = .ok (.getfield 9, 3) := by decide +kernel
theorem dX6_add_13 : decode cX6_add 13 = .ok (.aload_n 0, 1) := by decide +kernel
theorem dX6_add_14 : decode cX6_add 14 = .ok (.getfield 38, 3) := by decide +kernel
theorem dX6_add_17 : decode cX6_add 17 = .ok (.iload_n 1, 1) := by decide +kernel
theorem dX6_add_18 : decode cX6_add 18 = .ok (.iastore, 1) := by decide +kernel
theorem dX6_add_19 : decode cX6_add 19 = .ok (.aload_n 0, 1) := by decide +kernel
theorem dX6_add_20 : decode cX6_add 20 = .ok (.getfield 15, 3) := by decide +kernel
theorem dX6_add_23 : decode cX6_add 23 = .ok (.aload_n 0, 1) := by decide +kernel
theorem dX6_add_24 : decode cX6_add 24 = .ok (.getfield 38, 3) := by decide +kernel
theorem dX6_add_27 : decode cX6_add 27 = .ok (.iload_n 2, 1) := by decide +kernel
theorem dX6_add_28 : decode cX6_add 28 = .ok (.iastore, 1) := by decide +kernel
theorem dX6_add_29 : decode cX6_add 29 = .ok (.aload_n 0, 1) := by decide +kernel
theorem dX6_add_30 : decode cX6_add 30 = .ok (.getfield 18, 3) := by decide +kernel
theorem dX6_add_33 : decode cX6_add 33 = .ok (.aload_n 0, 1) := by decide +kernel
theorem dX6_add_34 : decode cX6_add 34 = .ok (.getfield 38, 3) := by decide +kernel
theorem dX6_add_37 : decode cX6_add 37 = .ok (.iload_n 3, 1) := by decide +kernel
theorem dX6_add_38 : decode cX6_add 38 = .ok (.iastore, 1) := by decide +kernel
theorem dX6_add_39 : decode cX6_add 39 = .ok (.aload_n 0, 1) := by decide +kernel
theorem dX6_add_40 : decode cX6_add 40 = .ok (.getfield 21, 3) := by decide +kernel
theorem dX6_add_43 : decode cX6_add 43 = .ok (.aload_n 0, 1) := by decide +kernel
theorem dX6_add_44 : decode cX6_add 44 = .ok (.getfield 38, 3) := by decide +kernel
theorem dX6_add_47 : decode cX6_add 47 = .ok (.iload 4, 2) := by decide +kernel
theorem dX6_add_49 : decode cX6_add 49 = .ok (.iastore, 1) := by decide +kernel
theorem dX6_add_50 : decode cX6_add 50 = .ok (.aload_n 0, 1) := by decide +kernel
theorem dX6_add_51 : decode cX6_add 51 = .ok (.getfield 24, 3) := by decide +kernel
theorem dX6_add_54 : decode cX6_add 54 = .ok (.aload_n 0, 1) := by decide +kernel
theorem dX6_add_55 : decode cX6_add 55 = .ok (.getfield 38, 3) := by decide +kernel
theorem dX6_add_58 : decode cX6_add 58 = .ok (.iconst 0, 1) := by decide +kernel
theorem dX6_add_59 : decode cX6_add 59 = .ok (.iastore, 1) := by decide +kernel
theorem dX6_add_60 : decode cX6_add 60 = .ok (.aload_n 0, 1) := by decide +kernel
theorem dX6_add_61 : decode cX6_add 61 = .ok (.dup, 1) := by decide +kernel
theorem dX6_add_62 : decode cX6_add 62 = .ok (.getfield 38, 3) := by decide +kernel
theorem dX6_add_65 : decode cX6_add 65 = .ok (.iconst 1, 1) := by decide +kernel
theorem dX6_add_66 : decode cX6_add 66 = .ok (.iadd, 1) := by decide +kernel
theorem dX6_add_67 : decode cX6_add 67 = .ok (.putfield 38, 3) := by decide +kernel
theorem dX6_add_70 : decode cX6_add 70 = .ok (.return_, 1) := by decide +kernel
theorem dX6_addTest_0 : decode cX6_addTest 0 = .ok (.aload_n 0, 1) := by decide +kernel
theorem dX6_addTest_1 : decode cX6_addTest 1 = .ok (.getfield 38, 3) := by decide +kernel
theorem dX6_addTest_4 : decode cX6_addTest 4 = .ok (.iconst 1, 1) := by decide +kernel
theorem dX6_addTest_5 : decode cX6_addTest 5 = .ok (.isub, 1) := by decide +kernel
theorem dX6_addTest_6 : decode cX6_addTest 6 = .ok (.istore 4, 2) := by decide +kernel
theorem dX6_addTest_8 : decode cX6_addTest 8 = .ok (.iload 4, 2) := by decide +kernel
theorem dX6_addTest_10 : decode cX6_addTest 10 = .ok (.ifCond .lt 67, 3) := by decide +kernel
theorem dX6_addTest_13 : decode cX6_addTest 13 = .ok (.aload_n 0, 1) := by decide +kernel
theorem dX6_addTest_14 : decode cX6_addTest 14 = .ok (.getfield 24, 3) := by decide +kernel
theorem dX6_addTest_17 : decode cX6_addTest 17 = .ok (.iload 4, 2) := by decide +kernel
theorem dX6_addTest_19 : decode cX6_addTest 19 = .ok (.iaload, 1) := by decide +kernel
theorem dX6_addTest_20 : decode cX6_addTest 20 = .ok (.iconst 3, 1) := by decide +kernel
theorem dX6_addTest_21 : decode cX6_addTest 21 = .ok (.if_icmp .ge 56, 3) := by decide +kernel
theorem dX6_addTest_24 : decode cX6_addTest 24 = .ok (.aload_n 0, 1) := by decide +kernel
theorem dX6_addTest_25 : decode cX6_addTest 25 = .ok (.getfield 24, 3) := by decide +kernel
theorem dX6_addTest_28 : decode cX6_addTest 28 = .ok (.iload 4, 2) := by decide +kernel
theorem dX6_addTest_30 : decode cX6_addTest 30 = .ok (.iaload, 1) := by decide +kernel
theorem dX6_addTest_31 : decode cX6_addTest 31 = .ok (.istore 5, 2) := by decide +kernel
theorem dX6_addTest_33 : decode cX6_addTest 33 = .ok (.aload_n 0, 1) := by decide +kernel
theorem dX6_addTest_34 : decode cX6_addTest 34 = .ok (.getfield 29, 3) := by decide +kernel
theorem dX6_addTest_37 : decode cX6_addTest 37 = .ok (.iload 4, 2) := by decide +kernel
theorem dX6_addTest_39 : decode cX6_addTest 39 = .ok (.aaload, 1) := by decide +kernel
theorem dX6_addTest_40 : decode cX6_addTest 40 = .ok (.iload 5, 2) := by decide +kernel
theorem dX6_addTest_42 : decode cX6_addTest 42 = .ok (.iload_n 1, 1) := by decide +kernel
theorem dX6_addTest_43 : decode cX6_addTest 43 = .ok (.iastore, 1) := by decide +kernel
theorem dX6_addTest_44 : decode cX6_addTest 44 = .ok (.aload_n 0, 1) := by decide +kernel
theorem dX6_addTest_45 : decode cX6_addTest 45 = .ok (.getfield 32, 3) := by decide +kernel
theorem dX6_addTest_48 : decode cX6_addTest 48 = .ok (.iload 4, 2) := by decide +kernel
theorem dX6_addTest_50 : decode cX6_addTest 50 = .ok (.aaload, 1) := by decide +kernel
theorem dX6_addTest_51 : decode cX6_addTest 51 = .ok (.iload 5, 2) := by decide +kernel
theorem dX6_addTest_53 : decode cX6_addTest 53 = .ok (.iload_n 2, 1) := by decide +kernel
theorem dX6_addTest_54 : decode cX6_addTest 54 = .ok (.iastore, 1) := by decide +kernel
theorem dX6_addTest_55 : decode cX6_addTest 55 = .ok (.aload_n 0, 1) := by decide +kernel
theorem dX6_addTest_56 : decode cX6_addTest 56 = .ok (.getfield 35, 3) := by decide +kernel
theorem dX6_addTest_59 : decode cX6_addTest 59 = .ok (.iload 4, 2) := by decide +kernel
theorem dX6_addTest_61 : decode cX6_addTest 61 = .ok (.aaload, 1) := by decide +kernel
theorem dX6_addTest_62 : decode cX6_addTest 62 = .ok (.iload 5, 2) := by decide +kernel
theorem dX6_addTest_64 : decode cX6_addTest 64 = .ok (.iload_n 3, 1) := by decide +kernel
theorem dX6_addTest_65 : decode cX6_addTest 65 = .ok (.iastore, 1) := by decide +kernel
theorem dX6_addTest_66 : decode cX6_addTest 66 = .ok (.aload_n 0, 1) := by decide +kernel
theorem dX6_addTest_67 : decode cX6_addTest 67 = .ok (.getfield 24, 3) := by decide +kernel
theorem dX6_addTest_70 : decode cX6_addTest 70 = .ok (.iload 4, 2) := by decide +kernel
theorem dX6_addTest_72 : decode cX6_addTest 72 = .ok (.dup2, 1) := by decide +kernel
theorem dX6_addTest_73 : decode cX6_addTest 73 = .ok (.iaload, 1) := by decide +kernel
theorem dX6_addTest_74 : decode cX6_addTest 74 = .ok (.iconst 1, 1) := by decide +kernel
theorem dX6_addTest_75 : decode cX6_addTest 75 = .ok (.iadd, 1) := by decide +kernel
theorem dX6_addTest_76 : decode cX6_addTest 76 = .ok (.iastore, 1) := by decide +kernel
theorem dX6_addTest_77 : decode cX6_addTest 77 = .ok (.return_, 1) := by decide +kernel
theorem dX6_isTold_0 : decode cX6_isTold 0 = .ok (.iconst 0, 1) := by decide +kernel
theorem dX6_isTold_1 : decode cX6_isTold 1 = .ok (.istore 4, 2) := by decide +kernel
theorem dX6_isTold_3 : decode cX6_isTold 3 = .ok (.iload 4, 2) := by decide +kernel
theorem dX6_isTold_5 : decode cX6_isTold 5 = .ok (.aload_n 0, 1) := by decide +kernel
theorem dX6_isTold_6 : decode cX6_isTold 6 = .ok (.getfield 38, 3) := by decide +kernel
theorem dX6_isTold_9 : decode cX6_isTold 9 = .ok (.if_icmp .ge 44, 3) := by decide +kernel
theorem dX6_isTold_12 : decode cX6_isTold 12 = .ok (.aload_n 0, 1) := by decide +kernel
theorem dX6_isTold_13 : decode cX6_isTold 13 = .ok (.getfield 9, 3) := by decide +kernel
theorem dX6_isTold_16 : decode cX6_isTold 16 = .ok (.iload 4, 2) := by decide +kernel
theorem dX6_isTold_18 : decode cX6_isTold 18 = .ok (.iaload, 1) := by decide +kernel
theorem dX6_isTold_19 : decode cX6_isTold 19 = .ok (.iload_n 1, 1) := by decide +kernel
theorem dX6_isTold_20 : decode cX6_isTold 20 = .ok (.if_icmp .ne 27, 3) := by decide +kernel
theorem dX6_isTold_23 : decode cX6_isTold 23 = .ok (.aload_n 0, 1) := by decide +kernel
theorem dX6_isTold_24 : decode cX6_isTold 24 = .ok (.getfield 18, 3) := by decide +kernel
theorem dX6_isTold_27 : decode cX6_isTold 27 = .ok (.iload 4, 2) := by decide +kernel
theorem dX6_isTold_29 : decode cX6_isTold 29 = .ok (.iaload, 1) := by decide +kernel
theorem dX6_isTold_30 : decode cX6_isTold 30 = .ok (.iload_n 2, 1) := by decide +kernel
theorem dX6_isTold_31 : decode cX6_isTold 31 = .ok (.if_icmp .ne 16, 3) := by decide +kernel
theorem dX6_isTold_34 : decode cX6_isTold 34 = .ok (.aload_n 0, 1) := by decide +kernel
theorem dX6_isTold_35 : decode cX6_isTold 35 = .ok (.getfield 15, 3) := by decide +kernel
theorem dX6_isTold_38 : decode cX6_isTold 38 = .ok (.iload 4, 2) := by decide +kernel
theorem dX6_isTold_40 : decode cX6_isTold 40 = .ok (.iaload, 1) := by decide +kernel
theorem dX6_isTold_41 : decode cX6_isTold 41 = .ok (.iload_n 3, 1) := by decide +kernel
theorem dX6_isTold_42 : decode cX6_isTold 42 = .ok (.if_icmp .ne 5, 3) := by decide +kernel
theorem dX6_isTold_45 : decode cX6_isTold 45 = .ok (.iconst 1, 1) := by decide +kernel
theorem dX6_isTold_46 : decode cX6_isTold 46 = .ok (.ireturn, 1) := by decide +kernel
theorem dX6_isTold_47 : decode cX6_isTold 47 = .ok (.iinc 4 1, 3) := by decide +kernel
theorem dX6_isTold_50 : decode cX6_isTold 50 = .ok (.goto (-47), 3) := by decide +kernel
theorem dX6_isTold_53 : decode cX6_isTold 53 = .ok (.iconst 0, 1) := by decide +kernel
theorem dX6_isTold_54 : decode cX6_isTold 54 = .ok (.ireturn, 1) := by decide +kernel
theorem dX6_numberOf_0 : decode cX6_numberOf 0 = .ok (.iload_n 1, 1) := by decide +kernel
theorem dX6_numberOf_1 : decode cX6_numberOf 1 = .ok (.ifCond .lt 20, 3) := by decide +kernel
theorem dX6_numberOf_4 : decode cX6_numberOf 4 = .ok (.iload_n 1, 1) := by decide +kernel
theorem dX6_numberOf_5 : decode cX6_numberOf 5 = .ok (.aload_n 0, 1) := by decide +kernel
theorem dX6_numberOf_6 : decode cX6_numberOf 6 = .ok (.getfield 38, 3) := by decide +kernel
theorem dX6_numberOf_9 : decode cX6_numberOf 9 = .ok (.if_icmp .ge 12, 3) := by decide +kernel
theorem dX6_numberOf_12 : decode cX6_numberOf 12 = .ok (.aload_n 0, 1) := by decide +kernel
theorem dX6_numberOf_13 : decode cX6_numberOf 13 = .ok (.getfield 21, 3) := by decide +kernel
theorem dX6_numberOf_16 : decode cX6_numberOf 16 = .ok (.iload_n 1, 1) := by decide +kernel
theorem dX6_numberOf_17 : decode cX6_numberOf 17 = .ok (.iaload, 1) := by decide +kernel
theorem dX6_numberOf_18 : decode cX6_numberOf 18 = .ok (.goto 4, 3) := by decide +kernel
theorem dX6_numberOf_21 : decode cX6_numberOf 21 = .ok (.iconst 0, 1) := by decide +kernel
theorem dX6_numberOf_22 : decode cX6_numberOf 22 = .ok (.ireturn, 1) := by decide +kernel
theorem dX6_lineDue_0 : decode cX6_lineDue 0 = .ok (.bipush (-4), 2) := by decide +kernel
theorem dX6_lineDue_2 : decode cX6_lineDue 2 = .ok (.istore 4, 2) := by decide +kernel
theorem dX6_lineDue_4 : decode cX6_lineDue 4 = .ok (.iconst 0, 1) := by decide +kernel
theorem dX6_lineDue_5 : decode cX6_lineDue 5 = .ok (.istore 5, 2) := by decide +kernel
theorem dX6_lineDue_7 : decode cX6_lineDue 7 = .ok (.iload 5, 2) := by decide +kernel
theorem dX6_lineDue_9 : decode cX6_lineDue 9 = .ok (.aload_n 0, 1) := by decide +kernel
theorem dX6_lineDue_10 : decode cX6_lineDue 10 = .ok (.getfield 38, 3) := by decide +kernel
theorem dX6_lineDue_13 : decode cX6_lineDue 13 = .ok (.if_icmp .ge 91, 3) := by decide +kernel
theorem dX6_lineDue_16 : decode cX6_lineDue 16 = .ok (.aload_n 0, 1) := by decide +kernel
theorem dX6_lineDue_17 : decode cX6_lineDue 17 = .ok (.getfield 9, 3) := by decide +kernel
theorem dX6_lineDue_20 : decode cX6_lineDue 20 = .ok (.iload 5, 2) := by decide +kernel
theorem dX6_lineDue_22 : decode cX6_lineDue 22 = .ok (.iaload, 1) := by decide +kernel
theorem dX6_lineDue_23 : decode cX6_lineDue 23 = .ok (.bipush 8, 2) := by decide +kernel
theorem dX6_lineDue_25 : decode cX6_lineDue 25 = .ok (.if_icmp .ne 29, 3) := by decide +kernel
theorem dX6_lineDue_28 : decode cX6_lineDue 28 = .ok (.aload_n 0, 1) := by decide +kernel
theorem dX6_lineDue_29 : decode cX6_lineDue 29 = .ok (.getfield 18, 3) := by decide +kernel
theorem dX6_lineDue_32 : decode cX6_lineDue 32 = .ok (.iload 5, 2) := by decide +kernel
theorem dX6_lineDue_34 : decode cX6_lineDue 34 = .ok (.iaload, 1) := by decide +kernel
theorem dX6_lineDue_35 : decode cX6_lineDue 35 = .ok (.iload_n 2, 1) := by decide +kernel
theorem dX6_lineDue_36 : decode cX6_lineDue 36 = .ok (.if_icmp .ne 18, 3) := by decide +kernel
theorem dX6_lineDue_39 : decode cX6_lineDue 39 = .ok (.aload_n 0, 1) := by decide +kernel
theorem dX6_lineDue_40 : decode cX6_lineDue 40 = .ok (.getfield 15, 3) := by decide +kernel
theorem dX6_lineDue_43 : decode cX6_lineDue 43 = .ok (.iload 5, 2) := by decide +kernel
theorem dX6_lineDue_45 : decode cX6_lineDue 45 = .ok (.iaload, 1) := by decide +kernel
theorem dX6_lineDue_46 : decode cX6_lineDue 46 = .ok (.iload_n 3, 1) := by decide +kernel
theorem dX6_lineDue_47 : decode cX6_lineDue 47 = .ok (.if_icmp .gt 7, 3) := by decide +kernel
theorem dX6_lineDue_50 : decode cX6_lineDue 50 = .ok (.iconst 1, 1) := by decide +kernel
theorem dX6_lineDue_51 : decode cX6_lineDue 51 = .ok (.goto 4, 3) := by decide +kernel
theorem dX6_lineDue_54 : decode cX6_lineDue 54 = .ok (.iconst 0, 1) := by decide +kernel
theorem dX6_lineDue_55 : decode cX6_lineDue 55 = .ok (.istore 6, 2) := by decide +kernel
theorem dX6_lineDue_57 : decode cX6_lineDue 57 = .ok (.iload 6, 2) := by decide +kernel
theorem dX6_lineDue_59 : decode cX6_lineDue 59 = .ok (.ifCond .eq 39, 3) := by decide +kernel
theorem dX6_lineDue_62 : decode cX6_lineDue 62 = .ok (.aload_n 0, 1) := by decide +kernel
theorem dX6_lineDue_63 : decode cX6_lineDue 63 = .ok (.iload 5, 2) := by decide +kernel
theorem dX6_lineDue_65 : decode cX6_lineDue 65 = .ok (.aload_n 1, 1) := by decide +kernel
theorem dX6_lineDue_66 : decode cX6_lineDue 66 = .ok (.invokevirtual 44, 3) := by decide +kernel
theorem dX6_lineDue_69 : decode cX6_lineDue 69 = .ok (.ifCond .eq 29, 3) := by decide +kernel
theorem dX6_lineDue_72 : decode cX6_lineDue 72 = .ok (.iload 4, 2) := by decide +kernel
theorem dX6_lineDue_74 : decode cX6_lineDue 74 = .ok (.ifCond .lt 20, 3) := by decide +kernel
theorem dX6_lineDue_77 : decode cX6_lineDue 77 = .ok (.aload_n 0, 1) := by decide +kernel
theorem dX6_lineDue_78 : decode cX6_lineDue 78 = .ok (.getfield 21, 3) := by decide +kernel
theorem dX6_lineDue_81 : decode cX6_lineDue 81 = .ok (.iload 5, 2) := by decide +kernel
theorem dX6_lineDue_83 : decode cX6_lineDue 83 = .ok (.iaload, 1) := by decide +kernel
theorem dX6_lineDue_84 : decode cX6_lineDue 84 = .ok (.aload_n 0, 1) := by decide +kernel
theorem dX6_lineDue_85 : decode cX6_lineDue 85 = .ok (.getfield 21, 3) := by decide +kernel
theorem dX6_lineDue_88 : decode cX6_lineDue 88 = .ok (.iload 4, 2) := by decide +kernel
theorem dX6_lineDue_90 : decode cX6_lineDue 90 = .ok (.iaload, 1) := by decide +kernel
theorem dX6_lineDue_91 : decode cX6_lineDue 91 = .ok (.if_icmp .le 7, 3) := by decide +kernel
theorem dX6_lineDue_94 : decode cX6_lineDue 94 = .ok (.iload 5, 2) := by decide +kernel
theorem dX6_lineDue_96 : decode cX6_lineDue 96 = .ok (.istore 4, 2) := by decide +kernel
theorem dX6_lineDue_98 : decode cX6_lineDue 98 = .ok (.iinc 5 1, 3) := by decide +kernel
theorem dX6_lineDue_101 : decode cX6_lineDue 101 = .ok (.goto (-94), 3) := by decide +kernel
theorem dX6_lineDue_104 : decode cX6_lineDue 104 = .ok (.iload 4, 2) := by decide +kernel
theorem dX6_lineDue_106 : decode cX6_lineDue 106 = .ok (.ireturn, 1) := by decide +kernel
theorem dX6_latest_0 : decode cX6_latest 0 = .ok (.iload 4, 2) := by decide +kernel
theorem dX6_latest_2 : decode cX6_latest 2 = .ok (.istore 5, 2) := by decide +kernel
theorem dX6_latest_4 : decode cX6_latest 4 = .ok (.iconst (-1), 1) := by decide +kernel
theorem dX6_latest_5 : decode cX6_latest 5 = .ok (.istore 6, 2) := by decide +kernel
theorem dX6_latest_7 : decode cX6_latest 7 = .ok (.iconst 0, 1) := by decide +kernel
theorem dX6_latest_8 : decode cX6_latest 8 = .ok (.istore 7, 2) := by decide +kernel
theorem dX6_latest_10 : decode cX6_latest 10 = .ok (.iload 7, 2) := by decide +kernel
theorem dX6_latest_12 : decode cX6_latest 12 = .ok (.aload_n 0, 1) := by decide +kernel
theorem dX6_latest_13 : decode cX6_latest 13 = .ok (.getfield 38, 3) := by decide +kernel
theorem dX6_latest_16 : decode cX6_latest 16 = .ok (.if_icmp .ge 84, 3) := by decide +kernel
theorem dX6_latest_19 : decode cX6_latest 19 = .ok (.aload_n 0, 1) := by decide +kernel
theorem dX6_latest_20 : decode cX6_latest 20 = .ok (.getfield 9, 3) := by decide +kernel
theorem dX6_latest_23 : decode cX6_latest 23 = .ok (.iload 7, 2) := by decide +kernel
theorem dX6_latest_25 : decode cX6_latest 25 = .ok (.iaload, 1) := by decide +kernel
theorem dX6_latest_26 : decode cX6_latest 26 = .ok (.iload_n 1, 1) := by decide +kernel
theorem dX6_latest_27 : decode cX6_latest 27 = .ok (.if_icmp .ne 29, 3) := by decide +kernel
theorem dX6_latest_30 : decode cX6_latest 30 = .ok (.aload_n 0, 1) := by decide +kernel
theorem dX6_latest_31 : decode cX6_latest 31 = .ok (.getfield 18, 3) := by decide +kernel
theorem dX6_latest_34 : decode cX6_latest 34 = .ok (.iload 7, 2) := by decide +kernel
theorem dX6_latest_36 : decode cX6_latest 36 = .ok (.iaload, 1) := by decide +kernel
theorem dX6_latest_37 : decode cX6_latest 37 = .ok (.iload_n 2, 1) := by decide +kernel
theorem dX6_latest_38 : decode cX6_latest 38 = .ok (.if_icmp .ne 18, 3) := by decide +kernel
theorem dX6_latest_41 : decode cX6_latest 41 = .ok (.aload_n 0, 1) := by decide +kernel
theorem dX6_latest_42 : decode cX6_latest 42 = .ok (.getfield 15, 3) := by decide +kernel
theorem dX6_latest_45 : decode cX6_latest 45 = .ok (.iload 7, 2) := by decide +kernel
theorem dX6_latest_47 : decode cX6_latest 47 = .ok (.iaload, 1) := by decide +kernel
theorem dX6_latest_48 : decode cX6_latest 48 = .ok (.iload_n 3, 1) := by decide +kernel
theorem dX6_latest_49 : decode cX6_latest 49 = .ok (.if_icmp .gt 7, 3) := by decide +kernel
theorem dX6_latest_52 : decode cX6_latest 52 = .ok (.iconst 1, 1) := by decide +kernel
theorem dX6_latest_53 : decode cX6_latest 53 = .ok (.goto 4, 3) := by decide +kernel
theorem dX6_latest_56 : decode cX6_latest 56 = .ok (.iconst 0, 1) := by decide +kernel
theorem dX6_latest_57 : decode cX6_latest 57 = .ok (.istore 8, 2) := by decide +kernel
theorem dX6_latest_59 : decode cX6_latest 59 = .ok (.iload 8, 2) := by decide +kernel
theorem dX6_latest_61 : decode cX6_latest 61 = .ok (.ifCond .eq 33, 3) := by decide +kernel
theorem dX6_latest_64 : decode cX6_latest 64 = .ok (.aload_n 0, 1) := by decide +kernel
theorem dX6_latest_65 : decode cX6_latest 65 = .ok (.getfield 15, 3) := by decide +kernel
theorem dX6_latest_68 : decode cX6_latest 68 = .ok (.iload 7, 2) := by decide +kernel
theorem dX6_latest_70 : decode cX6_latest 70 = .ok (.iaload, 1) := by decide +kernel
theorem dX6_latest_71 : decode cX6_latest 71 = .ok (.iload 6, 2) := by decide +kernel
theorem dX6_latest_73 : decode cX6_latest 73 = .ok (.if_icmp .le 21, 3) := by decide +kernel
theorem dX6_latest_76 : decode cX6_latest 76 = .ok (.aload_n 0, 1) := by decide +kernel
theorem dX6_latest_77 : decode cX6_latest 77 = .ok (.getfield 15, 3) := by decide +kernel
theorem dX6_latest_80 : decode cX6_latest 80 = .ok (.iload 7, 2) := by decide +kernel
theorem dX6_latest_82 : decode cX6_latest 82 = .ok (.iaload, 1) := by decide +kernel
theorem dX6_latest_83 : decode cX6_latest 83 = .ok (.istore 6, 2) := by decide +kernel
theorem dX6_latest_85 : decode cX6_latest 85 = .ok (.aload_n 0, 1) := by decide +kernel
theorem dX6_latest_86 : decode cX6_latest 86 = .ok (.getfield 21, 3) := by decide +kernel
theorem dX6_latest_89 : decode cX6_latest 89 = .ok (.iload 7, 2) := by decide +kernel
theorem dX6_latest_91 : decode cX6_latest 91 = .ok (.iaload, 1) := by decide +kernel
theorem dX6_latest_92 : decode cX6_latest 92 = .ok (.istore 5, 2) := by decide +kernel
theorem dX6_latest_94 : decode cX6_latest 94 = .ok (.iinc 7 1, 3) := by decide +kernel
theorem dX6_latest_97 : decode cX6_latest 97 = .ok (.goto (-87), 3) := by decide +kernel
theorem dX6_latest_100 : decode cX6_latest 100 = .ok (.iload 5, 2) := by decide +kernel
theorem dX6_latest_102 : decode cX6_latest 102 = .ok (.ireturn, 1) := by decide +kernel
theorem dX6_holds_0 : decode cX6_holds 0 = .ok (.iconst 0, 1) := by decide +kernel
theorem dX6_holds_1 : decode cX6_holds 1 = .ok (.istore_n 3, 1) := by decide +kernel
theorem dX6_holds_2 : decode cX6_holds 2 = .ok (.iload_n 3, 1) := by decide +kernel
theorem dX6_holds_3 : decode cX6_holds 3 = .ok (.aload_n 0, 1) := by decide +kernel
theorem dX6_holds_4 : decode cX6_holds 4 = .ok (.getfield 24, 3) := by decide +kernel
theorem dX6_holds_7 : decode cX6_holds 7 = .ok (.iload_n 1, 1) := by decide +kernel
theorem dX6_holds_8 : decode cX6_holds 8 = .ok (.iaload, 1) := by decide +kernel
theorem dX6_holds_9 : decode cX6_holds 9 = .ok (.if_icmp .ge 104, 3) := by decide +kernel
theorem dX6_holds_12 : decode cX6_holds 12 = .ok (.aload_n 2, 1) := by decide +kernel
theorem dX6_holds_13 : decode cX6_holds 13 = .ok (.aload_n 0, 1) := by decide +kernel
theorem dX6_holds_14 : decode cX6_holds 14 = .ok (.getfield 29, 3) := by decide +kernel
theorem dX6_holds_17 : decode cX6_holds 17 = .ok (.iload_n 1, 1) := by decide +kernel
theorem dX6_holds_18 : decode cX6_holds 18 = .ok (.aaload, 1) := by decide +kernel
theorem dX6_holds_19 : decode cX6_holds 19 = .ok (.iload_n 3, 1) := by decide +kernel
theorem dX6_holds_20 : decode cX6_holds 20 = .ok (.iaload, 1) := by decide +kernel
theorem dX6_holds_21 : decode cX6_holds 21 = .ok (.iaload, 1) := by decide +kernel
theorem dX6_holds_22 : decode cX6_holds 22 = .ok (.istore 4, 2) := by decide +kernel
theorem dX6_holds_24 : decode cX6_holds 24 = .ok (.aload_n 0, 1) := by decide +kernel
theorem dX6_holds_25 : decode cX6_holds 25 = .ok (.getfield 35, 3) := by decide +kernel
theorem dX6_holds_28 : decode cX6_holds 28 = .ok (.iload_n 1, 1) := by decide +kernel
theorem dX6_holds_29 : decode cX6_holds 29 = .ok (.aaload, 1) := by decide +kernel
theorem dX6_holds_30 : decode cX6_holds 30 = .ok (.iload_n 3, 1) := by decide +kernel
theorem dX6_holds_31 : decode cX6_holds 31 = .ok (.iaload, 1) := by decide +kernel
theorem dX6_holds_32 : decode cX6_holds 32 = .ok (.istore 5, 2) := by decide +kernel
theorem dX6_holds_34 : decode cX6_holds 34 = .ok (.aload_n 0, 1) := by decide +kernel
theorem dX6_holds_35 : decode cX6_holds 35 = .ok (.getfield 32, 3) := by decide +kernel
theorem dX6_holds_38 : decode cX6_holds 38 = .ok (.iload_n 1, 1) := by decide +kernel
theorem dX6_holds_39 : decode cX6_holds 39 = .ok (.aaload, 1) := by decide +kernel
theorem dX6_holds_40 : decode cX6_holds 40 = .ok (.iload_n 3, 1) := by decide +kernel
theorem dX6_holds_41 : decode cX6_holds 41 = .ok (.iaload, 1) := by decide +kernel
theorem dX6_holds_42 : decode cX6_holds 42 = .ok (.istore 6, 2) := by decide +kernel
theorem dX6_holds_44 : decode cX6_holds 44 = .ok (.iload 6, 2) := by decide +kernel
theorem dX6_holds_46 : decode cX6_holds 46 = .ok (.iconst 3, 1) := by decide +kernel
theorem dX6_holds_47 : decode cX6_holds 47 = .ok (.if_icmp .ne 18, 3) := by decide +kernel
theorem dX6_holds_50 : decode cX6_holds 50 = .ok (.iload 4, 2) := by decide +kernel
theorem dX6_holds_52 : decode cX6_holds 52 = .ok (.iload 5, 2) := by decide +kernel
theorem dX6_holds_54 : decode cX6_holds 54 = .ok (.if_icmp .ge 7, 3) := by decide +kernel
theorem dX6_holds_57 : decode cX6_holds 57 = .ok (.iconst 1, 1) := by decide +kernel
theorem dX6_holds_58 : decode cX6_holds 58 = .ok (.goto 40, 3) := by decide +kernel
theorem dX6_holds_61 : decode cX6_holds 61 = .ok (.iconst 0, 1) := by decide +kernel
theorem dX6_holds_62 : decode cX6_holds 62 = .ok (.goto 36, 3) := by decide +kernel
theorem dX6_holds_65 : decode cX6_holds 65 = .ok (.iload 6, 2) := by decide +kernel
theorem dX6_holds_67 : decode cX6_holds 67 = .ok (.iconst 5, 1) := by decide +kernel
theorem dX6_holds_68 : decode cX6_holds 68 = .ok (.if_icmp .ne 18, 3) := by decide +kernel
theorem dX6_holds_71 : decode cX6_holds 71 = .ok (.iload 4, 2) := by decide +kernel
theorem dX6_holds_73 : decode cX6_holds 73 = .ok (.iload 5, 2) := by decide +kernel
theorem dX6_holds_75 : decode cX6_holds 75 = .ok (.if_icmp .le 7, 3) := by decide +kernel
theorem dX6_holds_78 : decode cX6_holds 78 = .ok (.iconst 1, 1) := by decide +kernel
theorem dX6_holds_79 : decode cX6_holds 79 = .ok (.goto 19, 3) := by decide +kernel
theorem dX6_holds_82 : decode cX6_holds 82 = .ok (.iconst 0, 1) := by decide +kernel
theorem dX6_holds_83 : decode cX6_holds 83 = .ok (.goto 15, 3) := by decide +kernel
theorem dX6_holds_86 : decode cX6_holds 86 = .ok (.iload 4, 2) := by decide +kernel
theorem dX6_holds_88 : decode cX6_holds 88 = .ok (.iload 5, 2) := by decide +kernel
theorem dX6_holds_90 : decode cX6_holds 90 = .ok (.if_icmp .ne 7, 3) := by decide +kernel
theorem dX6_holds_93 : decode cX6_holds 93 = .ok (.iconst 1, 1) := by decide +kernel
theorem dX6_holds_94 : decode cX6_holds 94 = .ok (.goto 4, 3) := by decide +kernel
theorem dX6_holds_97 : decode cX6_holds 97 = .ok (.iconst 0, 1) := by decide +kernel
theorem dX6_holds_98 : decode cX6_holds 98 = .ok (.istore 7, 2) := by decide +kernel
theorem dX6_holds_100 : decode cX6_holds 100 = .ok (.iload 7, 2) := by decide +kernel
theorem dX6_holds_102 : decode cX6_holds 102 = .ok (.ifCond .ne 5, 3) := by decide +kernel
theorem dX6_holds_105 : decode cX6_holds 105 = .ok (.iconst 0, 1) := by decide +kernel
theorem dX6_holds_106 : decode cX6_holds 106 = .ok (.ireturn, 1) := by decide +kernel
theorem dX6_holds_107 : decode cX6_holds 107 = .ok (.iinc 3 1, 3) := by decide +kernel
theorem dX6_holds_110 : decode cX6_holds 110 = .ok (.goto (-108), 3) := by decide +kernel
theorem dX6_holds_113 : decode cX6_holds 113 = .ok (.iconst 1, 1) := by decide +kernel
theorem dX6_holds_114 : decode cX6_holds 114 = .ok (.ireturn, 1) := by decide +kernel
theorem dX7_isNothing_0 : decode cX7_isNothing 0 = .ok (.aload_n 0, 1) := by decide +kernel
theorem dX7_isNothing_1 : decode cX7_isNothing 1 = .ok (.getfield 15, 3) := by decide +kernel
theorem dX7_isNothing_4 : decode cX7_isNothing 4 = .ok (.iload_n 1, 1) := by decide +kernel
theorem dX7_isNothing_5 : decode cX7_isNothing 5 = .ok (.iaload, 1) := by decide +kernel
theorem dX7_isNothing_6 : decode cX7_isNothing 6 = .ok (.ifCond .ge 7, 3) := by decide +kernel
theorem dX7_isNothing_9 : decode cX7_isNothing 9 = .ok (.iconst 1, 1) := by decide +kernel
theorem dX7_isNothing_10 : decode cX7_isNothing 10 = .ok (.goto 4, 3) := by decide +kernel
theorem dX7_isNothing_13 : decode cX7_isNothing 13 = .ok (.iconst 0, 1) := by decide +kernel
theorem dX7_isNothing_14 : decode cX7_isNothing 14 = .ok (.ireturn, 1) := by decide +kernel
theorem dX7_hasCell_0 : decode cX7_hasCell 0 = .ok (.iload_n 2, 1) := by decide +kernel
theorem dX7_hasCell_1 : decode cX7_hasCell 1 = .ok (.ifCond .lt 17, 3) := by decide +kernel
theorem dX7_hasCell_4 : decode cX7_hasCell 4 = .ok (.iload_n 2, 1) := by decide +kernel
theorem dX7_hasCell_5 : decode cX7_hasCell 5 = .ok (.aload_n 0, 1) := by decide +kernel
theorem dX7_hasCell_6 : decode cX7_hasCell 6 = .ok (.getfield 15, 3) := by decide +kernel
theorem dX7_hasCell_9 : decode cX7_hasCell 9 = .ok (.iload_n 1, 1) := by decide +kernel
theorem dX7_hasCell_10 : decode cX7_hasCell 10 = .ok (.iaload, 1) := by decide +kernel
theorem dX7_hasCell_11 : decode cX7_hasCell 11 = .ok (.if_icmp .ge 7, 3) := by decide +kernel
theorem dX7_hasCell_14 : decode cX7_hasCell 14 = .ok (.iconst 1, 1) := by decide +kernel
theorem dX7_hasCell_15 : decode cX7_hasCell 15 = .ok (.goto 4, 3) := by decide +kernel
theorem dX7_hasCell_18 : decode cX7_hasCell 18 = .ok (.iconst 0, 1) := by decide +kernel
theorem dX7_hasCell_19 : decode cX7_hasCell 19 = .ok (.ireturn, 1) := by decide +kernel
theorem dX7_renew_0 : decode cX7_renew 0 = .ok (.aload_n 0, 1) := by decide +kernel
theorem dX7_renew_1 : decode cX7_renew 1 = .ok (.getfield 9, 3) := by decide +kernel
theorem dX7_renew_4 : decode cX7_renew 4 = .ok (.iload_n 1, 1) := by decide +kernel
theorem dX7_renew_5 : decode cX7_renew 5 = .ok (.iload_n 2, 1) := by decide +kernel
theorem dX7_renew_6 : decode cX7_renew 6 = .ok (.iastore, 1) := by decide +kernel
theorem dX7_renew_7 : decode cX7_renew 7 = .ok (.aload_n 0, 1) := by decide +kernel
theorem dX7_renew_8 : decode cX7_renew 8 = .ok (.getfield 15, 3) := by decide +kernel
theorem dX7_renew_11 : decode cX7_renew 11 = .ok (.iload_n 1, 1) := by decide +kernel
theorem dX7_renew_12 : decode cX7_renew 12 = .ok (.iload_n 3, 1) := by decide +kernel
theorem dX7_renew_13 : decode cX7_renew 13 = .ok (.iastore, 1) := by decide +kernel
theorem dX7_renew_14 : decode cX7_renew 14 = .ok (.aload_n 0, 1) := by decide +kernel
theorem dX7_renew_15 : decode cX7_renew 15 = .ok (.getfield 20, 3) := by decide +kernel
theorem dX7_renew_18 : decode cX7_renew 18 = .ok (.iload_n 1, 1) := by decide +kernel
theorem dX7_renew_19 : decode cX7_renew 19 = .ok (.aaload, 1) := by decide +kernel
theorem dX7_renew_20 : decode cX7_renew 20 = .ok (.iconst 0, 1) := by decide +kernel
theorem dX7_renew_21 : decode cX7_renew 21 = .ok (.invokestatic 23, 3) := by decide +kernel
theorem dX7_renew_24 : decode cX7_renew 24 = .ok (.return_, 1) := by decide +kernel
theorem dX7_put_0 : decode cX7_put 0 = .ok (.aload_n 0, 1) := by decide +kernel
theorem dX7_put_1 : decode cX7_put 1 = .ok (.getfield 9, 3) := by decide +kernel
theorem dX7_put_4 : decode cX7_put 4 = .ok (.iload_n 1, 1) := by decide +kernel
theorem dX7_put_5 : decode cX7_put 5 = .ok (.iaload, 1) := by decide +kernel
theorem dX7_put_6 : decode cX7_put 6 = .ok (.ifCond .ne 16, 3) := by decide +kernel
theorem dX7_put_9 : decode cX7_put 9 = .ok (.aload_n 0, 1) := by decide +kernel
theorem dX7_put_10 : decode cX7_put 10 = .ok (.getfield 20, 3) := by decide +kernel
theorem dX7_put_13 : decode cX7_put 13 = .ok (.iload_n 1, 1) := by decide +kernel
theorem dX7_put_14 : decode cX7_put 14 = .ok (.aaload, 1) := by decide +kernel
theorem dX7_put_15 : decode cX7_put 15 = .ok (.iload_n 2, 1) := by decide +kernel
theorem dX7_put_16 : decode cX7_put 16 = .ok (.iload_n 3, 1) := by decide +kernel
theorem dX7_put_17 : decode cX7_put 17 = .ok (.i2b, 1) := by decide +kernel
theorem dX7_put_18 : decode cX7_put 18 = .ok (.iastore, 1) := by decide +kernel
theorem dX7_put_19 : decode cX7_put 19 = .ok (.goto 35, 3) := by decide +kernel
theorem dX7_put_22 : decode cX7_put 22 = .ok (.aload_n 0, 1) := by decide +kernel
theorem dX7_put_23 : decode cX7_put 23 = .ok (.getfield 9, 3) := by decide +kernel
theorem dX7_put_26 : decode cX7_put 26 = .ok (.iload_n 1, 1) := by decide +kernel
theorem dX7_put_27 : decode cX7_put 27 = .ok (.iaload, 1) := by decide +kernel
theorem dX7_put_28 : decode cX7_put 28 = .ok (.iconst 1, 1) := by decide +kernel
theorem dX7_put_29 : decode cX7_put 29 = .ok (.if_icmp .ne 16, 3) := by decide +kernel
theorem dX7_put_32 : decode cX7_put 32 = .ok (.aload_n 0, 1) := by decide +kernel
theorem dX7_put_33 : decode cX7_put 33 = .ok (.getfield 20, 3) := by decide +kernel
theorem dX7_put_36 : decode cX7_put 36 = .ok (.iload_n 1, 1) := by decide +kernel
theorem dX7_put_37 : decode cX7_put 37 = .ok (.aaload, 1) := by decide +kernel
theorem dX7_put_38 : decode cX7_put 38 = .ok (.iload_n 2, 1) := by decide +kernel
theorem dX7_put_39 : decode cX7_put 39 = .ok (.iload_n 3, 1) := by decide +kernel
theorem dX7_put_40 : decode cX7_put 40 = .ok (.i2s, 1) := by decide +kernel
theorem dX7_put_41 : decode cX7_put 41 = .ok (.iastore, 1) := by decide +kernel
theorem dX7_put_42 : decode cX7_put 42 = .ok (.goto 12, 3) := by decide +kernel
theorem dX7_put_45 : decode cX7_put 45 = .ok (.aload_n 0, 1) := by decide +kernel
theorem dX7_put_46 : decode cX7_put 46 = .ok (.getfield 20, 3) := by decide +kernel
theorem dX7_put_49 : decode cX7_put 49 = .ok (.iload_n 1, 1) := by decide +kernel
theorem dX7_put_50 : decode cX7_put 50 = .ok (.aaload, 1) := by decide +kernel
theorem dX7_put_51 : decode cX7_put 51 = .ok (.iload_n 2, 1) := by decide +kernel
theorem dX7_put_52 : decode cX7_put 52 = .ok (.iload_n 3, 1) := by decide +kernel
theorem dX7_put_53 : decode cX7_put 53 = .ok (.iastore, 1) := by decide +kernel
theorem dX7_put_54 : decode cX7_put 54 = .ok (.return_, 1) := by decide +kernel
theorem dX8_has_0 : decode cX8_has 0 = .ok (.iload_n 1, 1) := by decide +kernel
theorem dX8_has_1 : decode cX8_has 1 = .ok (.ifCond .lt 15, 3) := by decide +kernel
theorem dX8_has_4 : decode cX8_has 4 = .ok (.iload_n 1, 1) := by decide +kernel
theorem dX8_has_5 : decode cX8_has 5 = .ok (.aload_n 0, 1) := by decide +kernel
theorem dX8_has_6 : decode cX8_has 6 = .ok (.getfield 23, 3) := by decide +kernel
theorem dX8_has_9 : decode cX8_has 9 = .ok (.if_icmp .ge 7, 3) := by decide +kernel
theorem dX8_has_12 : decode cX8_has 12 = .ok (.iconst 1, 1) := by decide +kernel
theorem dX8_has_13 : decode cX8_has 13 = .ok (.goto 4, 3) := by decide +kernel
theorem dX8_has_16 : decode cX8_has 16 = .ok (.iconst 0, 1) := by decide +kernel
theorem dX8_has_17 : decode cX8_has 17 = .ok (.ireturn, 1) := by decide +kernel
theorem dX8_isOf_0 : decode cX8_isOf 0 = .ok (.aload_n 0, 1) := by decide +kernel
theorem dX8_isOf_1 : decode cX8_isOf 1 = .ok (.getfield 9, 3) := by decide +kernel
theorem dX8_isOf_4 : decode cX8_isOf 4 = .ok (.iload_n 1, 1) := by decide +kernel
theorem dX8_isOf_5 : decode cX8_isOf 5 = .ok (.iaload, 1) := by decide +kernel
theorem dX8_isOf_6 : decode cX8_isOf 6 = .ok (.iload_n 2, 1) := by decide +kernel
theorem dX8_isOf_7 : decode cX8_isOf 7 = .ok (.if_icmp .ne 7, 3) := by decide +kernel
theorem dX8_isOf_10 : decode cX8_isOf 10 = .ok (.iconst 1, 1) := by decide +kernel
theorem dX8_isOf_11 : decode cX8_isOf 11 = .ok (.goto 4, 3) := by decide +kernel
theorem dX8_isOf_14 : decode cX8_isOf 14 = .ok (.iconst 0, 1) := by decide +kernel
theorem dX8_isOf_15 : decode cX8_isOf 15 = .ok (.ireturn, 1) := by decide +kernel
theorem dX8_add_0 : decode cX8_add 0 = .ok (.aload_n 0, 1) := by decide +kernel
theorem dX8_add_1 : decode cX8_add 1 = .ok (.getfield 23, 3) := by decide +kernel
theorem dX8_add_4 : decode cX8_add 4 = .ok (.bipush 12, 2) := by decide +kernel
theorem dX8_add_6 : decode cX8_add 6 = .ok (.if_icmp .lt 6, 3) := by decide +kernel
theorem dX8_add_9 : decode cX8_add 9 = .ok (.bipush (-3), 2) := by decide +kernel
theorem dX8_add_11 : decode cX8_add 11 = .ok (.ireturn, 1) := by decide +kernel
theorem dX8_add_12 : decode cX8_add 12 = .ok (.aload_n 0, 1) := by decide +kernel
theorem dX8_add_13 : decode cX8_add 13 = .ok (.getfield 9, 3) := by decide +kernel
theorem dX8_add_16 : decode cX8_add 16 = .ok (.aload_n 0, 1) := by decide +kernel
theorem dX8_add_17 : decode cX8_add 17 = .ok (.getfield 23, 3) := by decide +kernel
theorem dX8_add_20 : decode cX8_add 20 = .ok (.iload_n 1, 1) := by decide +kernel
theorem dX8_add_21 : decode cX8_add 21 = .ok (.iastore, 1) := by decide +kernel
theorem dX8_add_22 : decode cX8_add 22 = .ok (.aload_n 0, 1) := by decide +kernel
theorem dX8_add_23 : decode cX8_add 23 = .ok (.dup, 1) := by decide +kernel
theorem dX8_add_24 : decode cX8_add 24 = .ok (.getfield 23, 3) := by decide +kernel
theorem dX8_add_27 : decode cX8_add 27 = .ok (.dup_x1, 1) := by decide +kernel
theorem dX8_add_28 : decode cX8_add 28 = .ok (.iconst 1, 1) := by decide +kernel
theorem dX8_add_29 : decode cX8_add 29 = .ok (.iadd, 1) := by decide +kernel
theorem dX8_add_30 : decode cX8_add 30 = .ok (.putfield 23, 3) := by decide +kernel
theorem dX8_add_33 : decode cX8_add 33 = .ok (.ireturn, 1) := by decide +kernel
theorem dX8_limit_0 : decode cX8_limit 0 = .ok (.aload_n 0, 1) := by decide +kernel
theorem dX8_limit_1 : decode cX8_limit 1 = .ok (.getfield 17, 3) := by decide +kernel
theorem dX8_limit_4 : decode cX8_limit 4 = .ok (.iload_n 1, 1) := by decide +kernel
theorem dX8_limit_5 : decode cX8_limit 5 = .ok (.aaload, 1) := by decide +kernel
theorem dX8_limit_6 : decode cX8_limit 6 = .ok (.iload_n 2, 1) := by decide +kernel
theorem dX8_limit_7 : decode cX8_limit 7 = .ok (.iload_n 3, 1) := by decide +kernel
theorem dX8_limit_8 : decode cX8_limit 8 = .ok (.iastore, 1) := by decide +kernel
theorem dX8_limit_9 : decode cX8_limit 9 = .ok (.aload_n 0, 1) := by decide +kernel
theorem dX8_limit_10 : decode cX8_limit 10 = .ok (.getfield 20, 3) := by decide +kernel
theorem dX8_limit_13 : decode cX8_limit 13 = .ok (.iload_n 1, 1) := by decide +kernel
theorem dX8_limit_14 : decode cX8_limit 14 = .ok (.aaload, 1) := by decide +kernel
theorem dX8_limit_15 : decode cX8_limit 15 = .ok (.iload_n 2, 1) := by decide +kernel
theorem dX8_limit_16 : decode cX8_limit 16 = .ok (.iload 4, 2) := by decide +kernel
theorem dX8_limit_18 : decode cX8_limit 18 = .ok (.iastore, 1) := by decide +kernel
theorem dX8_limit_19 : decode cX8_limit 19 = .ok (.return_, 1) := by decide +kernel
theorem dX8_outside_0 : decode cX8_outside 0 = .ok (.iconst 0, 1) := by decide +kernel
theorem dX8_outside_1 : decode cX8_outside 1 = .ok (.aload_n 0, 1) := by decide +kernel
theorem dX8_outside_2 : decode cX8_outside 2 = .ok (.getfield 17, 3) := by decide +kernel
theorem dX8_outside_5 : decode cX8_outside 5 = .ok (.iload_n 1, 1) := by decide +kernel
theorem dX8_outside_6 : decode cX8_outside 6 = .ok (.aaload, 1) := by decide +kernel
theorem dX8_outside_7 : decode cX8_outside 7 = .ok (.iload_n 2, 1) := by decide +kernel
theorem dX8_outside_8 : decode cX8_outside 8 = .ok (.iaload, 1) := by decide +kernel
theorem dX8_outside_9 : decode cX8_outside 9 = .ok (.iload_n 3, 1) := by decide +kernel
theorem dX8_outside_10 : decode cX8_outside 10 = .ok (.isub, 1) := by decide +kernel
theorem dX8_outside_11 : decode cX8_outside 11 = .ok (.iload_n 3, 1) := by decide +kernel
theorem dX8_outside_12 : decode cX8_outside 12 = .ok (.aload_n 0, 1) := by decide +kernel
theorem dX8_outside_13 : decode cX8_outside 13 = .ok (.getfield 20, 3) := by decide +kernel
theorem dX8_outside_16 : decode cX8_outside 16 = .ok (.iload_n 1, 1) := by decide +kernel
theorem dX8_outside_17 : decode cX8_outside 17 = .ok (.aaload, 1) := by decide +kernel
theorem dX8_outside_18 : decode cX8_outside 18 = .ok (.iload_n 2, 1) := by decide +kernel
theorem dX8_outside_19 : decode cX8_outside 19 = .ok (.iaload, 1) := by decide +kernel
theorem dX8_outside_20 : decode cX8_outside 20 = .ok (.isub, 1) := by decide +kernel
theorem dX8_outside_21 : decode cX8_outside 21 = .ok (.invokestatic 27, 3) := by decide +kernel
theorem dX8_outside_24 : decode cX8_outside 24 = .ok (.invokestatic 27, 3) := by decide +kernel
theorem dX8_outside_27 : decode cX8_outside 27 = .ok (.ireturn, 1) := by decide +kernel
theorem dX9_has_0 : decode cX9_has 0 = .ok (.iload_n 1, 1) := by decide +kernel
theorem dX9_has_1 : decode cX9_has 1 = .ok (.ifCond .lt 15, 3) := by decide +kernel
theorem dX9_has_4 : decode cX9_has 4 = .ok (.iload_n 1, 1) := by decide +kernel
theorem dX9_has_5 : decode cX9_has 5 = .ok (.aload_n 0, 1) := by decide +kernel
theorem dX9_has_6 : decode cX9_has 6 = .ok (.getfield 35, 3) := by decide +kernel
theorem dX9_has_9 : decode cX9_has 9 = .ok (.if_icmp .ge 7, 3) := by decide +kernel
theorem dX9_has_12 : decode cX9_has 12 = .ok (.iconst 1, 1) := by decide +kernel
theorem dX9_has_13 : decode cX9_has 13 = .ok (.goto 4, 3) := by decide +kernel
theorem dX9_has_16 : decode cX9_has 16 = .ok (.iconst 0, 1) := by decide +kernel
theorem dX9_has_17 : decode cX9_has 17 = .ok (.ireturn, 1) := by decide +kernel
theorem dX9_add_0 : decode cX9_add 0 = .ok (.aload_n 0, 1) := by decide +kernel
theorem dX9_add_1 : decode cX9_add 1 = .ok (.getfield 35, 3) := by decide +kernel
theorem dX9_add_4 : decode cX9_add 4 = .ok (.iconst 4, 1) := by decide +kernel
theorem dX9_add_5 : decode cX9_add 5 = .ok (.if_icmp .lt 8, 3) := by decide +kernel
theorem dX9_add_8 : decode cX9_add 8 = .ok (.bipush (-3), 2) := by decide +kernel
theorem dX9_add_10 : decode cX9_add 10 = .ok (.goto 14, 3) := by decide +kernel
theorem dX9_add_13 : decode cX9_add 13 = .ok (.aload_n 0, 1) := by decide +kernel
theorem dX9_add_14 : decode cX9_add 14 = .ok (.dup, 1) := by decide +kernel
theorem dX9_add_15 : decode cX9_add 15 = .ok (.getfield 35, 3) := by decide +kernel
theorem dX9_add_18 : decode cX9_add 18 = .ok (.dup_x1, 1) := by decide +kernel
theorem dX9_add_19 : decode cX9_add 19 = .ok (.iconst 1, 1) := by decide +kernel
theorem dX9_add_20 : decode cX9_add 20 = .ok (.iadd, 1) := by decide +kernel
theorem dX9_add_21 : decode cX9_add 21 = .ok (.putfield 35, 3) := by decide +kernel
theorem dX9_add_24 : decode cX9_add 24 = .ok (.ireturn, 1) := by decide +kernel
theorem dX9_weigh_0 : decode cX9_weigh 0 = .ok (.aload_n 0, 1) := by decide +kernel
theorem dX9_weigh_1 : decode cX9_weigh 1 = .ok (.getfield 23, 3) := by decide +kernel
theorem dX9_weigh_4 : decode cX9_weigh 4 = .ok (.iload_n 1, 1) := by decide +kernel
theorem dX9_weigh_5 : decode cX9_weigh 5 = .ok (.iconst 0, 1) := by decide +kernel
theorem dX9_weigh_6 : decode cX9_weigh 6 = .ok (.iload_n 2, 1) := by decide +kernel
theorem dX9_weigh_7 : decode cX9_weigh 7 = .ok (.iload_n 3, 1) := by decide +kernel
theorem dX9_weigh_8 : decode cX9_weigh 8 = .ok (.isub, 1) := by decide +kernel
theorem dX9_weigh_9 : decode cX9_weigh 9 = .ok (.invokestatic 39, 3) := by decide +kernel
theorem dX9_weigh_12 : decode cX9_weigh 12 = .ok (.iastore, 1) := by decide +kernel
theorem dX9_weigh_13 : decode cX9_weigh 13 = .ok (.aload_n 0, 1) := by decide +kernel
theorem dX9_weigh_14 : decode cX9_weigh 14 = .ok (.getfield 26, 3) := by decide +kernel
theorem dX9_weigh_17 : decode cX9_weigh 17 = .ok (.iload_n 1, 1) := by decide +kernel
theorem dX9_weigh_18 : decode cX9_weigh 18 = .ok (.iconst 0, 1) := by decide +kernel
theorem dX9_weigh_19 : decode cX9_weigh 19 = .ok (.iload_n 3, 1) := by decide +kernel
theorem dX9_weigh_20 : decode cX9_weigh 20 = .ok (.iload_n 2, 1) := by decide +kernel
theorem dX9_weigh_21 : decode cX9_weigh 21 = .ok (.isub, 1) := by decide +kernel
theorem dX9_weigh_22 : decode cX9_weigh 22 = .ok (.invokestatic 39, 3) := by decide +kernel
theorem dX9_weigh_25 : decode cX9_weigh 25 = .ok (.iastore, 1) := by decide +kernel
theorem dX9_weigh_26 : decode cX9_weigh 26 = .ok (.return_, 1) := by decide +kernel
theorem dX9_plan_0 : decode cX9_plan 0 = .ok (.aload_n 0, 1) := by decide +kernel
theorem dX9_plan_1 : decode cX9_plan 1 = .ok (.ldc 45, 2) := by decide +kernel
theorem dX9_plan_3 : decode cX9_plan 3 = .ok (.putfield 46, 3) := by decide +kernel
theorem dX9_plan_6 : decode cX9_plan 6 = .ok (.aload_n 0, 1) := by decide +kernel
theorem dX9_plan_7 : decode cX9_plan 7 = .ok (.iconst 0, 1) := by decide +kernel
theorem dX9_plan_8 : decode cX9_plan 8 = .ok (.iconst 0, 1) := by decide +kernel
theorem dX9_plan_9 : decode cX9_plan 9 = .ok (.invokestatic 49, 3) := by decide +kernel
theorem dX9_plan_12 : decode cX9_plan 12 = .ok (.return_, 1) := by decide +kernel
theorem dX9_movedBetween_0 : decode cX9_movedBetween 0 = .ok (.aload_n 0, 1) := by decide +kernel
theorem dX9_movedBetween_1 : decode cX9_movedBetween 1 = .ok (.getfield 16, 3) := by decide +kernel
theorem dX9_movedBetween_4 : decode cX9_movedBetween 4 = .ok (.iload_n 1, 1) := by decide +kernel
theorem dX9_movedBetween_5 : decode cX9_movedBetween 5 = .ok (.iload_n 2, 1) := by decide +kernel
theorem dX9_movedBetween_6 : decode cX9_movedBetween 6 = .ok (.invokestatic 53, 3) := by decide +kernel
theorem dX9_movedBetween_9 : decode cX9_movedBetween 9 = .ok (.iaload, 1) := by decide +kernel
theorem dX9_movedBetween_10 : decode cX9_movedBetween 10 = .ok (.ireturn, 1) := by decide +kernel
theorem dX9_laneOf_0 : decode cX9_laneOf 0 = .ok (.iconst 4, 1) := by decide +kernel
theorem dX9_laneOf_1 : decode cX9_laneOf 1 = .ok (.iload_n 0, 1) := by decide +kernel
theorem dX9_laneOf_2 : decode cX9_laneOf 2 = .ok (.imul, 1) := by decide +kernel
theorem dX9_laneOf_3 : decode cX9_laneOf 3 = .ok (.iload_n 1, 1) := by decide +kernel
theorem dX9_laneOf_4 : decode cX9_laneOf 4 = .ok (.iadd, 1) := by decide +kernel
theorem dX9_laneOf_5 : decode cX9_laneOf 5 = .ok (.ireturn, 1) := by decide +kernel
theorem dX9_tryLane_0 : decode cX9_tryLane 0 = .ok (.iload_n 2, 1) := by decide +kernel
theorem dX9_tryLane_1 : decode cX9_tryLane 1 = .ok (.aload_n 0, 1) := by decide +kernel
theorem dX9_tryLane_2 : decode cX9_tryLane 2 = .ok (.getfield 46, 3) := by decide +kernel
theorem dX9_tryLane_5 : decode cX9_tryLane 5 = .ok (.if_icmp .lt 4, 3) := by decide +kernel
theorem dX9_tryLane_8 : decode cX9_tryLane 8 = .ok (.return_, 1) := by decide +kernel
theorem dX9_tryLane_9 : decode cX9_tryLane 9 = .ok (.iload_n 1, 1) := by decide +kernel
theorem dX9_tryLane_10 : decode cX9_tryLane 10 = .ok (.bipush 16, 2) := by decide +kernel
theorem dX9_tryLane_12 : decode cX9_tryLane 12 = .ok (.if_icmp .lt 24, 3) := by decide +kernel
theorem dX9_tryLane_15 : decode cX9_tryLane 15 = .ok (.aload_n 0, 1) := by decide +kernel
theorem dX9_tryLane_16 : decode cX9_tryLane 16 = .ok (.iload_n 2, 1) := by decide +kernel
theorem dX9_tryLane_17 : decode cX9_tryLane 17 = .ok (.putfield 46, 3) := by decide +kernel
theorem dX9_tryLane_20 : decode cX9_tryLane 20 = .ok (.aload_n 0, 1) := by decide +kernel
theorem dX9_tryLane_21 : decode cX9_tryLane 21 = .ok (.getfield 20, 3) := by decide +kernel
theorem dX9_tryLane_24 : decode cX9_tryLane 24 = .ok (.iconst 0, 1) := by decide +kernel
theorem dX9_tryLane_25 : decode cX9_tryLane 25 = .ok (.aload_n 0, 1) := by decide +kernel
theorem dX9_tryLane_26 : decode cX9_tryLane 26 = .ok (.getfield 16, 3) := by decide +kernel
theorem dX9_tryLane_29 : decode cX9_tryLane 29 = .ok (.iconst 0, 1) := by decide +kernel
theorem dX9_tryLane_30 : decode cX9_tryLane 30 = .ok (.bipush 16, 2) := by decide +kernel
theorem dX9_tryLane_32 : decode cX9_tryLane 32 = .ok (.invokestatic 56, 3) := by decide +kernel
theorem dX9_tryLane_35 : decode cX9_tryLane 35 = .ok (.return_, 1) := by decide +kernel
theorem dX9_tryLane_36 : decode cX9_tryLane 36 = .ok (.iload_n 1, 1) := by decide +kernel
theorem dX9_tryLane_37 : decode cX9_tryLane 37 = .ok (.iconst 4, 1) := by decide +kernel
theorem dX9_tryLane_38 : decode cX9_tryLane 38 = .ok (.idiv, 1) := by decide +kernel
theorem dX9_tryLane_39 : decode cX9_tryLane 39 = .ok (.istore_n 3, 1) := by decide +kernel
theorem dX9_tryLane_40 : decode cX9_tryLane 40 = .ok (.iload_n 1, 1) := by decide +kernel
theorem dX9_tryLane_41 : decode cX9_tryLane 41 = .ok (.iconst 4, 1) := by decide +kernel
theorem dX9_tryLane_42 : decode cX9_tryLane 42 = .ok (.irem, 1) := by decide +kernel
theorem dX9_tryLane_43 : decode cX9_tryLane 43 = .ok (.istore 4, 2) := by decide +kernel
theorem dX9_tryLane_45 : decode cX9_tryLane 45 = .ok (.aload_n 0, 1) := by decide +kernel
theorem dX9_tryLane_46 : decode cX9_tryLane 46 = .ok (.getfield 23, 3) := by decide +kernel
theorem dX9_tryLane_49 : decode cX9_tryLane 49 = .ok (.iload_n 3, 1) := by decide +kernel
theorem dX9_tryLane_50 : decode cX9_tryLane 50 = .ok (.iaload, 1) := by decide +kernel
theorem dX9_tryLane_51 : decode cX9_tryLane 51 = .ok (.aload_n 0, 1) := by decide +kernel
theorem dX9_tryLane_52 : decode cX9_tryLane 52 = .ok (.getfield 26, 3) := by decide +kernel
theorem dX9_tryLane_55 : decode cX9_tryLane 55 = .ok (.iload 4, 2) := by decide +kernel
theorem dX9_tryLane_57 : decode cX9_tryLane 57 = .ok (.iaload, 1) := by decide +kernel
theorem dX9_tryLane_58 : decode cX9_tryLane 58 = .ok (.invokestatic 62, 3) := by decide +kernel
theorem dX9_tryLane_61 : decode cX9_tryLane 61 = .ok (.istore 5, 2) := by decide +kernel
theorem dX9_tryLane_63 : decode cX9_tryLane 63 = .ok (.iconst 0, 1) := by decide +kernel
theorem dX9_tryLane_64 : decode cX9_tryLane 64 = .ok (.aload_n 0, 1) := by decide +kernel
theorem dX9_tryLane_65 : decode cX9_tryLane 65 = .ok (.getfield 26, 3) := by decide +kernel
theorem dX9_tryLane_68 : decode cX9_tryLane 68 = .ok (.iload 4, 2) := by decide +kernel
theorem dX9_tryLane_70 : decode cX9_tryLane 70 = .ok (.iaload, 1) := by decide +kernel
theorem dX9_tryLane_71 : decode cX9_tryLane 71 = .ok (.aload_n 0, 1) := by decide +kernel
theorem dX9_tryLane_72 : decode cX9_tryLane 72 = .ok (.iload_n 3, 1) := by decide +kernel
theorem dX9_tryLane_73 : decode cX9_tryLane 73 = .ok (.invokevirtual 65, 3) := by decide +kernel
theorem dX9_tryLane_76 : decode cX9_tryLane 76 = .ok (.isub, 1) := by decide +kernel
theorem dX9_tryLane_77 : decode cX9_tryLane 77 = .ok (.invokestatic 39, 3) := by decide +kernel
theorem dX9_tryLane_80 : decode cX9_tryLane 80 = .ok (.istore 6, 2) := by decide +kernel
theorem dX9_tryLane_82 : decode cX9_tryLane 82 = .ok (.iload 6, 2) := by decide +kernel
theorem dX9_tryLane_84 : decode cX9_tryLane 84 = .ok (.iload 5, 2) := by decide +kernel
theorem dX9_tryLane_86 : decode cX9_tryLane 86 = .ok (.if_icmp .gt 45, 3) := by decide +kernel
theorem dX9_tryLane_89 : decode cX9_tryLane 89 = .ok (.aload_n 0, 1) := by decide +kernel
theorem dX9_tryLane_90 : decode cX9_tryLane 90 = .ok (.iload_n 1, 1) := by decide +kernel
theorem dX9_tryLane_91 : decode cX9_tryLane 91 = .ok (.iload 6, 2) := by decide +kernel
theorem dX9_tryLane_93 : decode cX9_tryLane 93 = .ok (.invokevirtual 69, 3) := by decide +kernel
theorem dX9_tryLane_96 : decode cX9_tryLane 96 = .ok (.aload_n 0, 1) := by decide +kernel
theorem dX9_tryLane_97 : decode cX9_tryLane 97 = .ok (.iload_n 1, 1) := by decide +kernel
theorem dX9_tryLane_98 : decode cX9_tryLane 98 = .ok (.iconst 1, 1) := by decide +kernel
theorem dX9_tryLane_99 : decode cX9_tryLane 99 = .ok (.iadd, 1) := by decide +kernel
theorem dX9_tryLane_100 : decode cX9_tryLane 100 = .ok (.iload_n 2, 1) := by decide +kernel
theorem dX9_tryLane_101 : decode cX9_tryLane 101 = .ok (.iload 6, 2) := by decide +kernel
theorem dX9_tryLane_103 : decode cX9_tryLane 103 = .ok (.aload_n 0, 1) := by decide +kernel
theorem dX9_tryLane_104 : decode cX9_tryLane 104 = .ok (.getfield 11, 3) := by decide +kernel
theorem dX9_tryLane_107 : decode cX9_tryLane 107 = .ok (.iload_n 3, 1) := by decide +kernel
theorem dX9_tryLane_108 : decode cX9_tryLane 108 = .ok (.aaload, 1) := by decide +kernel
theorem dX9_tryLane_109 : decode cX9_tryLane 109 = .ok (.iload 4, 2) := by decide +kernel
theorem dX9_tryLane_111 : decode cX9_tryLane 111 = .ok (.iaload, 1) := by decide +kernel
theorem dX9_tryLane_112 : decode cX9_tryLane 112 = .ok (.imul, 1) := by decide +kernel
theorem dX9_tryLane_113 : decode cX9_tryLane 113 = .ok (.iadd, 1) := by decide +kernel
theorem dX9_tryLane_114 : decode cX9_tryLane 114 = .ok (.invokestatic 49, 3) := by decide +kernel
theorem dX9_tryLane_117 : decode cX9_tryLane 117 = .ok (.aload_n 0, 1) := by decide +kernel
theorem dX9_tryLane_118 : decode cX9_tryLane 118 = .ok (.iload_n 1, 1) := by decide +kernel
theorem dX9_tryLane_119 : decode cX9_tryLane 119 = .ok (.iload 6, 2) := by decide +kernel
theorem dX9_tryLane_121 : decode cX9_tryLane 121 = .ok (.ineg, 1) := by decide +kernel
theorem dX9_tryLane_122 : decode cX9_tryLane 122 = .ok (.invokevirtual 69, 3) := by decide +kernel
theorem dX9_tryLane_125 : decode cX9_tryLane 125 = .ok (.iinc 6 1, 3) := by decide +kernel
theorem dX9_tryLane_128 : decode cX9_tryLane 128 = .ok (.goto (-46), 3) := by decide +kernel
theorem dX9_tryLane_131 : decode cX9_tryLane 131 = .ok (.return_, 1) := by decide +kernel
theorem dX9_spareBehind_0 : decode cX9_spareBehind 0 = .ok (.iconst 0, 1) := by decide +kernel
theorem dX9_spareBehind_1 : decode cX9_spareBehind 1 = .ok (.istore_n 2, 1) := by decide +kernel
theorem dX9_spareBehind_2 : decode cX9_spareBehind 2 = .ok (.iload_n 1, 1) := by decide +kernel
theorem dX9_spareBehind_3 : decode cX9_spareBehind 3 = .ok (.iconst 1, 1) := by decide +kernel
theorem dX9_spareBehind_4 : decode cX9_spareBehind 4 = .ok (.iadd, 1) := by decide +kernel
theorem dX9_spareBehind_5 : decode cX9_spareBehind 5 = .ok (.istore_n 3, 1) := by decide +kernel
theorem dX9_spareBehind_6 : decode cX9_spareBehind 6 = .ok (.iload_n 3, 1) := by decide +kernel
theorem dX9_spareBehind_7 : decode cX9_spareBehind 7 = .ok (.iconst 4, 1) := by decide +kernel
theorem dX9_spareBehind_8 : decode cX9_spareBehind 8 = .ok (.if_icmp .ge 18, 3) := by decide +kernel
theorem dX9_spareBehind_11 : decode cX9_spareBehind 11 = .ok (.iload_n 2, 1) := by decide +kernel
theorem dX9_spareBehind_12 : decode cX9_spareBehind 12 = .ok (.aload_n 0, 1) := by decide +kernel
theorem dX9_spareBehind_13 : decode cX9_spareBehind 13 = .ok (.getfield 23, 3) := by decide +kernel
theorem dX9_spareBehind_16 : decode cX9_spareBehind 16 = .ok (.iload_n 3, 1) := by decide +kernel
theorem dX9_spareBehind_17 : decode cX9_spareBehind 17 = .ok (.iaload, 1) := by decide +kernel
theorem dX9_spareBehind_18 : decode cX9_spareBehind 18 = .ok (.iadd, 1) := by decide +kernel
theorem dX9_spareBehind_19 : decode cX9_spareBehind 19 = .ok (.istore_n 2, 1) := by decide +kernel
theorem dX9_spareBehind_20 : decode cX9_spareBehind 20 = .ok (.iinc 3 1, 3) := by decide +kernel
theorem dX9_spareBehind_23 : decode cX9_spareBehind 23 = .ok (.goto (-17), 3) := by decide +kernel
theorem dX9_spareBehind_26 : decode cX9_spareBehind 26 = .ok (.iload_n 2, 1) := by decide +kernel
theorem dX9_spareBehind_27 : decode cX9_spareBehind 27 = .ok (.ireturn, 1) := by decide +kernel
theorem dX9_send_0 : decode cX9_send 0 = .ok (.aload_n 0, 1) := by decide +kernel
theorem dX9_send_1 : decode cX9_send 1 = .ok (.getfield 20, 3) := by decide +kernel
theorem dX9_send_4 : decode cX9_send 4 = .ok (.iload_n 1, 1) := by decide +kernel
theorem dX9_send_5 : decode cX9_send 5 = .ok (.dup2, 1) := by decide +kernel
theorem dX9_send_6 : decode cX9_send 6 = .ok (.iaload, 1) := by decide +kernel
theorem dX9_send_7 : decode cX9_send 7 = .ok (.iload_n 2, 1) := by decide +kernel
theorem dX9_send_8 : decode cX9_send 8 = .ok (.iadd, 1) := by decide +kernel
theorem dX9_send_9 : decode cX9_send 9 = .ok (.iastore, 1) := by decide +kernel
theorem dX9_send_10 : decode cX9_send 10 = .ok (.aload_n 0, 1) := by decide +kernel
theorem dX9_send_11 : decode cX9_send 11 = .ok (.getfield 23, 3) := by decide +kernel
theorem dX9_send_14 : decode cX9_send 14 = .ok (.iload_n 1, 1) := by decide +kernel
theorem dX9_send_15 : decode cX9_send 15 = .ok (.iconst 4, 1) := by decide +kernel
theorem dX9_send_16 : decode cX9_send 16 = .ok (.idiv, 1) := by decide +kernel
theorem dX9_send_17 : decode cX9_send 17 = .ok (.dup2, 1) := by decide +kernel
theorem dX9_send_18 : decode cX9_send 18 = .ok (.iaload, 1) := by decide +kernel
theorem dX9_send_19 : decode cX9_send 19 = .ok (.iload_n 2, 1) := by decide +kernel
theorem dX9_send_20 : decode cX9_send 20 = .ok (.isub, 1) := by decide +kernel
theorem dX9_send_21 : decode cX9_send 21 = .ok (.iastore, 1) := by decide +kernel
theorem dX9_send_22 : decode cX9_send 22 = .ok (.aload_n 0, 1) := by decide +kernel
theorem dX9_send_23 : decode cX9_send 23 = .ok (.getfield 26, 3) := by decide +kernel
theorem dX9_send_26 : decode cX9_send 26 = .ok (.iload_n 1, 1) := by decide +kernel
theorem dX9_send_27 : decode cX9_send 27 = .ok (.iconst 4, 1) := by decide +kernel
theorem dX9_send_28 : decode cX9_send 28 = .ok (.irem, 1) := by decide +kernel
theorem dX9_send_29 : decode cX9_send 29 = .ok (.dup2, 1) := by decide +kernel
theorem dX9_send_30 : decode cX9_send 30 = .ok (.iaload, 1) := by decide +kernel
theorem dX9_send_31 : decode cX9_send 31 = .ok (.iload_n 2, 1) := by decide +kernel
theorem dX9_send_32 : decode cX9_send 32 = .ok (.isub, 1) := by decide +kernel
theorem dX9_send_33 : decode cX9_send 33 = .ok (.iastore, 1) := by decide +kernel
theorem dX9_send_34 : decode cX9_send 34 = .ok (.return_, 1) := by decide +kernel
theorem dX10_add_0 : decode cX10_add 0 = .ok (.aload_n 0, 1) := by decide +kernel
theorem dX10_add_1 : decode cX10_add 1 = .ok (.getfield 25, 3) := by decide +kernel
theorem dX10_add_4 : decode cX10_add 4 = .ok (.bipush 8, 2) := by decide +kernel
theorem dX10_add_6 : decode cX10_add 6 = .ok (.iadd, 1) := by decide +kernel
theorem dX10_add_7 : decode cX10_add 7 = .ok (.sipush 240, 3) := by decide +kernel
theorem dX10_add_10 : decode cX10_add 10 = .ok (.if_icmp .le 6, 3) := by decide +kernel
theorem dX10_add_13 : decode cX10_add 13 = .ok (.bipush (-3), 2) := by decide +kernel
theorem dX10_add_15 : decode cX10_add 15 = .ok (.ireturn, 1) := by decide +kernel
theorem dX10_add_16 : decode cX10_add 16 = .ok (.bipush 56, 2) := by decide +kernel
theorem dX10_add_18 : decode cX10_add 18 = .ok (.istore_n 3, 1) := by decide +kernel
theorem dX10_add_19 : decode cX10_add 19 = .ok (.iload_n 3, 1) := by decide +kernel
theorem dX10_add_20 : decode cX10_add 20 = .ok (.ifCond .lt 33, 3) := by decide +kernel
theorem dX10_add_23 : decode cX10_add 23 = .ok (.aload_n 0, 1) := by decide +kernel
theorem dX10_add_24 : decode cX10_add 24 = .ok (.getfield 9, 3) := by decide +kernel
theorem dX10_add_27 : decode cX10_add 27 = .ok (.aload_n 0, 1) := by decide +kernel
theorem dX10_add_28 : decode cX10_add 28 = .ok (.getfield 25, 3) := by decide +kernel
theorem dX10_add_31 : decode cX10_add 31 = .ok (.lload_n 1, 1) := by decide +kernel
theorem dX10_add_32 : decode cX10_add 32 = .ok (.iload_n 3, 1) := by decide +kernel
theorem dX10_add_33 : decode cX10_add 33 = .ok (.lshr, 1) := by decide +kernel
theorem dX10_add_34 : decode cX10_add 34 = .ok (.l2i, 1) := by decide +kernel
theorem dX10_add_35 : decode cX10_add 35 = .ok (.i2b, 1) := by decide +kernel
theorem dX10_add_36 : decode cX10_add 36 = .ok (.bastore, 1) := by decide +kernel
theorem dX10_add_37 : decode cX10_add 37 = .ok (.aload_n 0, 1) := by decide +kernel
theorem dX10_add_38 : decode cX10_add 38 = .ok (.dup, 1) := by decide +kernel
theorem dX10_add_39 : decode cX10_add 39 = .ok (.getfield 25, 3) := by decide +kernel
theorem dX10_add_42 : decode cX10_add 42 = .ok (.iconst 1, 1) := by decide +kernel
theorem dX10_add_43 : decode cX10_add 43 = .ok (.iadd, 1) := by decide +kernel
theorem dX10_add_44 : decode cX10_add 44 = .ok (.putfield 25, 3) := by decide +kernel
theorem dX10_add_47 : decode cX10_add 47 = .ok (.iinc 3 (-8), 3) := by decide +kernel
theorem dX10_add_50 : decode cX10_add 50 = .ok (.goto (-31), 3) := by decide +kernel
theorem dX10_add_53 : decode cX10_add 53 = .ok (.aload_n 0, 1) := by decide +kernel
theorem dX10_add_54 : decode cX10_add 54 = .ok (.getfield 25, 3) := by decide +kernel
theorem dX10_add_57 : decode cX10_add 57 = .ok (.ireturn, 1) := by decide +kernel
theorem dX10_cut_0 : decode cX10_cut 0 = .ok (.aload_n 0, 1) := by decide +kernel
theorem dX10_cut_1 : decode cX10_cut 1 = .ok (.iconst 0, 1) := by decide +kernel
theorem dX10_cut_2 : decode cX10_cut 2 = .ok (.putfield 29, 3) := by decide +kernel
theorem dX10_cut_5 : decode cX10_cut 5 = .ok (.iconst 0, 1) := by decide +kernel
theorem dX10_cut_6 : decode cX10_cut 6 = .ok (.istore_n 1, 1) := by decide +kernel
theorem dX10_cut_7 : decode cX10_cut 7 = .ok (.iconst 0, 1) := by decide +kernel
theorem dX10_cut_8 : decode cX10_cut 8 = .ok (.istore_n 2, 1) := by decide +kernel
theorem dX10_cut_9 : decode cX10_cut 9 = .ok (.iload_n 2, 1) := by decide +kernel
theorem dX10_cut_10 : decode cX10_cut 10 = .ok (.aload_n 0, 1) := by decide +kernel
theorem dX10_cut_11 : decode cX10_cut 11 = .ok (.getfield 25, 3) := by decide +kernel
theorem dX10_cut_14 : decode cX10_cut 14 = .ok (.if_icmp .ge 68, 3) := by decide +kernel
theorem dX10_cut_17 : decode cX10_cut 17 = .ok (.iload_n 2, 1) := by decide +kernel
theorem dX10_cut_18 : decode cX10_cut 18 = .ok (.iload_n 1, 1) := by decide +kernel
theorem dX10_cut_19 : decode cX10_cut 19 = .ok (.if_icmp .lt 57, 3) := by decide +kernel
theorem dX10_cut_22 : decode cX10_cut 22 = .ok (.aload_n 0, 1) := by decide +kernel
theorem dX10_cut_23 : decode cX10_cut 23 = .ok (.getfield 9, 3) := by decide +kernel
theorem dX10_cut_26 : decode cX10_cut 26 = .ok (.iload_n 2, 1) := by decide +kernel
theorem dX10_cut_27 : decode cX10_cut 27 = .ok (.baload, 1) := by decide +kernel
theorem dX10_cut_28 : decode cX10_cut 28 = .ok (.bipush 32, 2) := by decide +kernel
theorem dX10_cut_30 : decode cX10_cut 30 = .ok (.if_icmp .ne 6, 3) := by decide +kernel
theorem dX10_cut_33 : decode cX10_cut 33 = .ok (.goto 43, 3) := by decide +kernel
theorem dX10_cut_36 : decode cX10_cut 36 = .ok (.aload_n 0, 1) := by decide +kernel
theorem dX10_cut_37 : decode cX10_cut 37 = .ok (.iload_n 2, 1) := by decide +kernel
theorem dX10_cut_38 : decode cX10_cut 38 = .ok (.invokevirtual 32, 3) := by decide +kernel
theorem dX10_cut_41 : decode cX10_cut 41 = .ok (.istore_n 1, 1) := by decide +kernel
theorem dX10_cut_42 : decode cX10_cut 42 = .ok (.aload_n 0, 1) := by decide +kernel
theorem dX10_cut_43 : decode cX10_cut 43 = .ok (.iload_n 2, 1) := by decide +kernel
theorem dX10_cut_44 : decode cX10_cut 44 = .ok (.iload_n 1, 1) := by decide +kernel
theorem dX10_cut_45 : decode cX10_cut 45 = .ok (.invokevirtual 36, 3) := by decide +kernel
theorem dX10_cut_48 : decode cX10_cut 48 = .ok (.istore_n 3, 1) := by decide +kernel
theorem dX10_cut_49 : decode cX10_cut 49 = .ok (.aload_n 0, 1) := by decide +kernel
theorem dX10_cut_50 : decode cX10_cut 50 = .ok (.iload_n 3, 1) := by decide +kernel
theorem dX10_cut_51 : decode cX10_cut 51 = .ok (.iload_n 2, 1) := by decide +kernel
theorem dX10_cut_52 : decode cX10_cut 52 = .ok (.iload_n 3, 1) := by decide +kernel
theorem dX10_cut_53 : decode cX10_cut 53 = .ok (.iconst 2, 1) := by decide +kernel
theorem dX10_cut_54 : decode cX10_cut 54 = .ok (.if_icmp .ne 12, 3) := by decide +kernel
theorem dX10_cut_57 : decode cX10_cut 57 = .ok (.aload_n 0, 1) := by decide +kernel
theorem dX10_cut_58 : decode cX10_cut 58 = .ok (.iload_n 2, 1) := by decide +kernel
theorem dX10_cut_59 : decode cX10_cut 59 = .ok (.iload_n 1, 1) := by decide +kernel
theorem dX10_cut_60 : decode cX10_cut 60 = .ok (.invokevirtual 40, 3) := by decide +kernel
theorem dX10_cut_63 : decode cX10_cut 63 = .ok (.goto 4, 3) := by decide +kernel
theorem dX10_cut_66 : decode cX10_cut 66 = .ok (.iconst 0, 1) := by decide +kernel
theorem dX10_cut_67 : decode cX10_cut 67 = .ok (.invokevirtual 43, 3) := by decide +kernel
theorem dX10_cut_70 : decode cX10_cut 70 = .ok (.iload_n 3, 1) := by decide +kernel
theorem dX10_cut_71 : decode cX10_cut 71 = .ok (.iconst 1, 1) := by decide +kernel
theorem dX10_cut_72 : decode cX10_cut 72 = .ok (.if_icmp .ne 4, 3) := by decide +kernel
theorem dX10_cut_75 : decode cX10_cut 75 = .ok (.return_, 1) := by decide +kernel
theorem dX10_cut_76 : decode cX10_cut 76 = .ok (.iinc 2 1, 3) := by decide +kernel
theorem dX10_cut_79 : decode cX10_cut 79 = .ok (.goto (-70), 3) := by decide +kernel
theorem dX10_cut_82 : decode cX10_cut 82 = .ok (.aload_n 0, 1) := by decide +kernel
theorem dX10_cut_83 : decode cX10_cut 83 = .ok (.iconst 0, 1) := by decide +kernel
theorem dX10_cut_84 : decode cX10_cut 84 = .ok (.aload_n 0, 1) := by decide +kernel
theorem dX10_cut_85 : decode cX10_cut 85 = .ok (.getfield 25, 3) := by decide +kernel
theorem dX10_cut_88 : decode cX10_cut 88 = .ok (.iconst 0, 1) := by decide +kernel
theorem dX10_cut_89 : decode cX10_cut 89 = .ok (.invokevirtual 43, 3) := by decide +kernel
theorem dX10_cut_92 : decode cX10_cut 92 = .ok (.return_, 1) := by decide +kernel
theorem dX10_tokenAt_0 : decode cX10_tokenAt 0 = .ok (.iload_n 1, 1) := by decide +kernel
