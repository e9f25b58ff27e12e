theorem dX10_tokenAt_1 : decode cX10_tokenAt 1 = .ok (.ifCond .lt 20, 3) := by decide +kernel
theorem dX10_tokenAt_4 : decode cX10_tokenAt 4 = .ok (.iload_n 1, 1) := by decide +kernel
theorem dX10_tokenAt_5 : decode cX10_tokenAt 5 = .ok (.aload_n 0, 1) := by decide +kernel
theorem dX10_tokenAt_6 : decode cX10_tokenAt 6 = .ok (.getfield 29, 3) := by decide +kernel
theorem dX10_tokenAt_9 : decode cX10_tokenAt 9 = .ok (.if_icmp .ge 12, 3) := by decide +kernel
theorem dX10_tokenAt_12 : decode cX10_tokenAt 12 = .ok (.aload_n 0, 1) := by decide +kernel
theorem dX10_tokenAt_13 : decode cX10_tokenAt 13 = .ok (.getfield 15, 3) := by decide +kernel
theorem dX10_tokenAt_16 : decode cX10_tokenAt 16 = .ok (.iload_n 1, 1) := by decide +kernel
theorem dX10_tokenAt_17 : decode cX10_tokenAt 17 = .ok (.iaload, 1) := by decide +kernel
theorem dX10_tokenAt_18 : decode cX10_tokenAt 18 = .ok (.goto 4, 3) := by decide +kernel
theorem dX10_tokenAt_21 : decode cX10_tokenAt 21 = .ok (.iconst 0, 1) := by decide +kernel
theorem dX10_tokenAt_22 : decode cX10_tokenAt 22 = .ok (.ireturn, 1) := by decide +kernel
theorem dX10_placeAt_0 : decode cX10_placeAt 0 = .ok (.iload_n 1, 1) := by decide +kernel
theorem dX10_placeAt_1 : decode cX10_placeAt 1 = .ok (.ifCond .lt 20, 3) := by decide +kernel
theorem dX10_placeAt_4 : decode cX10_placeAt 4 = .ok (.iload_n 1, 1) := by decide +kernel
theorem dX10_placeAt_5 : decode cX10_placeAt 5 = .ok (.aload_n 0, 1) := by decide +kernel
theorem dX10_placeAt_6 : decode cX10_placeAt 6 = .ok (.getfield 29, 3) := by decide +kernel
theorem dX10_placeAt_9 : decode cX10_placeAt 9 = .ok (.if_icmp .ge 12, 3) := by decide +kernel
theorem dX10_placeAt_12 : decode cX10_placeAt 12 = .ok (.aload_n 0, 1) := by decide +kernel
theorem dX10_placeAt_13 : decode cX10_placeAt 13 = .ok (.getfield 19, 3) := by decide +kernel
theorem dX10_placeAt_16 : decode cX10_placeAt 16 = .ok (.iload_n 1, 1) := by decide +kernel
theorem dX10_placeAt_17 : decode cX10_placeAt 17 = .ok (.iaload, 1) := by decide +kernel
theorem dX10_placeAt_18 : decode cX10_placeAt 18 = .ok (.goto 4, 3) := by decide +kernel
theorem dX10_placeAt_21 : decode cX10_placeAt 21 = .ok (.iconst 0, 1) := by decide +kernel
theorem dX10_placeAt_22 : decode cX10_placeAt 22 = .ok (.ireturn, 1) := by decide +kernel
theorem dX10_valueAt_0 : decode cX10_valueAt 0 = .ok (.iload_n 1, 1) := by decide +kernel
theorem dX10_valueAt_1 : decode cX10_valueAt 1 = .ok (.ifCond .lt 20, 3) := by decide +kernel
theorem dX10_valueAt_4 : decode cX10_valueAt 4 = .ok (.iload_n 1, 1) := by decide +kernel
theorem dX10_valueAt_5 : decode cX10_valueAt 5 = .ok (.aload_n 0, 1) := by decide +kernel
theorem dX10_valueAt_6 : decode cX10_valueAt 6 = .ok (.getfield 29, 3) := by decide +kernel
theorem dX10_valueAt_9 : decode cX10_valueAt 9 = .ok (.if_icmp .ge 12, 3) := by decide +kernel
theorem dX10_valueAt_12 : decode cX10_valueAt 12 = .ok (.aload_n 0, 1) := by decide +kernel
theorem dX10_valueAt_13 : decode cX10_valueAt 13 = .ok (.getfield 22, 3) := by decide +kernel
theorem dX10_valueAt_16 : decode cX10_valueAt 16 = .ok (.iload_n 1, 1) := by decide +kernel
theorem dX10_valueAt_17 : decode cX10_valueAt 17 = .ok (.iaload, 1) := by decide +kernel
theorem dX10_valueAt_18 : decode cX10_valueAt 18 = .ok (.goto 4, 3) := by decide +kernel
theorem dX10_valueAt_21 : decode cX10_valueAt 21 = .ok (.iconst 0, 1) := by decide +kernel
theorem dX10_valueAt_22 : decode cX10_valueAt 22 = .ok (.ireturn, 1) := by decide +kernel
theorem dX10_keep_0 : decode cX10_keep 0 = .ok (.aload_n 0, 1) := by decide +kernel
theorem dX10_keep_1 : decode cX10_keep 1 = .ok (.getfield 29, 3) := by decide +kernel
theorem dX10_keep_4 : decode cX10_keep 4 = .ok (.aload_n 0, 1) := by decide +kernel
theorem dX10_keep_5 : decode cX10_keep 5 = .ok (.getfield 15, 3) := by decide +kernel
theorem dX10_keep_8 : decode cX10_keep 8 = .ok (.arraylength, 1) := by decide +kernel
theorem dX10_keep_9 : decode cX10_keep 9 = .ok (.if_icmp .ge 43, 3) := by decide +kernel
theorem dX10_keep_12 : decode cX10_keep 12 = .ok (.aload_n 0, 1) := by decide +kernel
theorem dX10_keep_13 : decode cX10_keep 13 = .ok (.getfield 15, 3) := by decide +kernel
theorem dX10_keep_16 : decode cX10_keep 16 = .ok (.aload_n 0, 1) := by decide +kernel
theorem dX10_keep_17 : decode cX10_keep 17 = .ok (.getfield 29, 3) := by decide +kernel
theorem dX10_keep_20 : decode cX10_keep 20 = .ok (.iload_n 1, 1) := by decide +kernel
theorem dX10_keep_21 : decode cX10_keep 21 = .ok (.iastore, 1) := by decide +kernel
theorem dX10_keep_22 : decode cX10_keep 22 = .ok (.aload_n 0, 1) := by decide +kernel
theorem dX10_keep_23 : decode cX10_keep 23 = .ok (.getfield 19, 3) := by decide +kernel
theorem dX10_keep_26 : decode cX10_keep 26 = .ok (.aload_n 0, 1) := by decide +kernel
theorem dX10_keep_27 : decode cX10_keep 27 = .ok (.getfield 29, 3) := by decide +kernel
theorem dX10_keep_30 : decode cX10_keep 30 = .ok (.iload_n 2, 1) := by decide +kernel
theorem dX10_keep_31 : decode cX10_keep 31 = .ok (.iastore, 1) := by decide +kernel
theorem dX10_keep_32 : decode cX10_keep 32 = .ok (.aload_n 0, 1) := by decide +kernel
theorem dX10_keep_33 : decode cX10_keep 33 = .ok (.getfield 22, 3) := by decide +kernel
theorem dX10_keep_36 : decode cX10_keep 36 = .ok (.aload_n 0, 1) := by decide +kernel
theorem dX10_keep_37 : decode cX10_keep 37 = .ok (.getfield 29, 3) := by decide +kernel
theorem dX10_keep_40 : decode cX10_keep 40 = .ok (.iload_n 3, 1) := by decide +kernel
theorem dX10_keep_41 : decode cX10_keep 41 = .ok (.iastore, 1) := by decide +kernel
theorem dX10_keep_42 : decode cX10_keep 42 = .ok (.aload_n 0, 1) := by decide +kernel
theorem dX10_keep_43 : decode cX10_keep 43 = .ok (.dup, 1) := by decide +kernel
theorem dX10_keep_44 : decode cX10_keep 44 = .ok (.getfield 29, 3) := by decide +kernel
theorem dX10_keep_47 : decode cX10_keep 47 = .ok (.iconst 1, 1) := by decide +kernel
theorem dX10_keep_48 : decode cX10_keep 48 = .ok (.iadd, 1) := by decide +kernel
theorem dX10_keep_49 : decode cX10_keep 49 = .ok (.putfield 29, 3) := by decide +kernel
theorem dX10_keep_52 : decode cX10_keep 52 = .ok (.return_, 1) := by decide +kernel
theorem dX10_runBehind_0 : decode cX10_runBehind 0 = .ok (.aload_n 0, 1) := by decide +kernel
theorem dX10_runBehind_1 : decode cX10_runBehind 1 = .ok (.getfield 9, 3) := by decide +kernel
theorem dX10_runBehind_4 : decode cX10_runBehind 4 = .ok (.iload_n 1, 1) := by decide +kernel
theorem dX10_runBehind_5 : decode cX10_runBehind 5 = .ok (.baload, 1) := by decide +kernel
theorem dX10_runBehind_6 : decode cX10_runBehind 6 = .ok (.invokestatic 47, 3) := by decide +kernel
theorem dX10_runBehind_9 : decode cX10_runBehind 9 = .ok (.istore_n 2, 1) := by decide +kernel
theorem dX10_runBehind_10 : decode cX10_runBehind 10 = .ok (.aload_n 0, 1) := by decide +kernel
theorem dX10_runBehind_11 : decode cX10_runBehind 11 = .ok (.getfield 9, 3) := by decide +kernel
theorem dX10_runBehind_14 : decode cX10_runBehind 14 = .ok (.iload_n 1, 1) := by decide +kernel
theorem dX10_runBehind_15 : decode cX10_runBehind 15 = .ok (.baload, 1) := by decide +kernel
theorem dX10_runBehind_16 : decode cX10_runBehind 16 = .ok (.invokestatic 51, 3) := by decide +kernel
theorem dX10_runBehind_19 : decode cX10_runBehind 19 = .ok (.istore_n 3, 1) := by decide +kernel
theorem dX10_runBehind_20 : decode cX10_runBehind 20 = .ok (.iload_n 1, 1) := by decide +kernel
theorem dX10_runBehind_21 : decode cX10_runBehind 21 = .ok (.iconst 1, 1) := by decide +kernel
theorem dX10_runBehind_22 : decode cX10_runBehind 22 = .ok (.iadd, 1) := by decide +kernel
theorem dX10_runBehind_23 : decode cX10_runBehind 23 = .ok (.istore 4, 2) := by decide +kernel
theorem dX10_runBehind_25 : decode cX10_runBehind 25 = .ok (.iload 4, 2) := by decide +kernel
theorem dX10_runBehind_27 : decode cX10_runBehind 27 = .ok (.aload_n 0, 1) := by decide +kernel
theorem dX10_runBehind_28 : decode cX10_runBehind 28 = .ok (.getfield 25, 3) := by decide +kernel
theorem dX10_runBehind_31 : decode cX10_runBehind 31 = .ok (.if_icmp .ge 43, 3) := by decide +kernel
theorem dX10_runBehind_34 : decode cX10_runBehind 34 = .ok (.iload_n 2, 1) := by decide +kernel
theorem dX10_runBehind_35 : decode cX10_runBehind 35 = .ok (.ifCond .eq 16, 3) := by decide +kernel
theorem dX10_runBehind_38 : decode cX10_runBehind 38 = .ok (.aload_n 0, 1) := by decide +kernel
theorem dX10_runBehind_39 : decode cX10_runBehind 39 = .ok (.getfield 9, 3) := by decide +kernel
theorem dX10_runBehind_42 : decode cX10_runBehind 42 = .ok (.iload 4, 2) := by decide +kernel
theorem dX10_runBehind_44 : decode cX10_runBehind 44 = .ok (.baload, 1) := by decide +kernel
theorem dX10_runBehind_45 : decode cX10_runBehind 45 = .ok (.invokestatic 47, 3) := by decide +kernel
theorem dX10_runBehind_48 : decode cX10_runBehind 48 = .ok (.ifCond .ne 20, 3) := by decide +kernel
theorem dX10_runBehind_51 : decode cX10_runBehind 51 = .ok (.iload_n 3, 1) := by decide +kernel
theorem dX10_runBehind_52 : decode cX10_runBehind 52 = .ok (.ifCond .eq 22, 3) := by decide +kernel
theorem dX10_runBehind_55 : decode cX10_runBehind 55 = .ok (.aload_n 0, 1) := by decide +kernel
theorem dX10_runBehind_56 : decode cX10_runBehind 56 = .ok (.getfield 9, 3) := by decide +kernel
theorem dX10_runBehind_59 : decode cX10_runBehind 59 = .ok (.iload 4, 2) := by decide +kernel
theorem dX10_runBehind_61 : decode cX10_runBehind 61 = .ok (.baload, 1) := by decide +kernel
theorem dX10_runBehind_62 : decode cX10_runBehind 62 = .ok (.invokestatic 51, 3) := by decide +kernel
theorem dX10_runBehind_65 : decode cX10_runBehind 65 = .ok (.ifCond .eq 9, 3) := by decide +kernel
theorem dX10_runBehind_68 : decode cX10_runBehind 68 = .ok (.iinc 4 1, 3) := by decide +kernel
theorem dX10_runBehind_71 : decode cX10_runBehind 71 = .ok (.goto (-46), 3) := by decide +kernel
theorem dX10_runBehind_74 : decode cX10_runBehind 74 = .ok (.iload 4, 2) := by decide +kernel
theorem dX10_runBehind_76 : decode cX10_runBehind 76 = .ok (.ireturn, 1) := by decide +kernel
theorem dX10_kindOfRun_0 : decode cX10_kindOfRun 0 = .ok (.aload_n 0, 1) := by decide +kernel
theorem dX10_kindOfRun_1 : decode cX10_kindOfRun 1 = .ok (.getfield 9, 3) := by decide +kernel
theorem dX10_kindOfRun_4 : decode cX10_kindOfRun 4 = .ok (.iload_n 1, 1) := by decide +kernel
theorem dX10_kindOfRun_5 : decode cX10_kindOfRun 5 = .ok (.baload, 1) := by decide +kernel
theorem dX10_kindOfRun_6 : decode cX10_kindOfRun 6 = .ok (.invokestatic 47, 3) := by decide +kernel
theorem dX10_kindOfRun_9 : decode cX10_kindOfRun 9 = .ok (.ifCond .eq 10, 3) := by decide +kernel
theorem dX10_kindOfRun_12 : decode cX10_kindOfRun 12 = .ok (.aload_n 0, 1) := by decide +kernel
theorem dX10_kindOfRun_13 : decode cX10_kindOfRun 13 = .ok (.iload_n 1, 1) := by decide +kernel
theorem dX10_kindOfRun_14 : decode cX10_kindOfRun 14 = .ok (.iload_n 2, 1) := by decide +kernel
theorem dX10_kindOfRun_15 : decode cX10_kindOfRun 15 = .ok (.invokevirtual 54, 3) := by decide +kernel
theorem dX10_kindOfRun_18 : decode cX10_kindOfRun 18 = .ok (.ireturn, 1) := by decide +kernel
theorem dX10_kindOfRun_19 : decode cX10_kindOfRun 19 = .ok (.aload_n 0, 1) := by decide +kernel
theorem dX10_kindOfRun_20 : decode cX10_kindOfRun 20 = .ok (.getfield 9, 3) := by decide +kernel
theorem dX10_kindOfRun_23 : decode cX10_kindOfRun 23 = .ok (.iload_n 1, 1) := by decide +kernel
theorem dX10_kindOfRun_24 : decode cX10_kindOfRun 24 = .ok (.baload, 1) := by decide +kernel
theorem dX10_kindOfRun_25 : decode cX10_kindOfRun 25 = .ok (.invokestatic 51, 3) := by decide +kernel
theorem dX10_kindOfRun_28 : decode cX10_kindOfRun 28 = .ok (.ifCond .eq 16, 3) := by decide +kernel
theorem dX10_kindOfRun_31 : decode cX10_kindOfRun 31 = .ok (.iload_n 2, 1) := by decide +kernel
theorem dX10_kindOfRun_32 : decode cX10_kindOfRun 32 = .ok (.iload_n 1, 1) := by decide +kernel
theorem dX10_kindOfRun_33 : decode cX10_kindOfRun 33 = .ok (.isub, 1) := by decide +kernel
theorem dX10_kindOfRun_34 : decode cX10_kindOfRun 34 = .ok (.iconst 4, 1) := by decide +kernel
theorem dX10_kindOfRun_35 : decode cX10_kindOfRun 35 = .ok (.if_icmp .le 7, 3) := by decide +kernel
theorem dX10_kindOfRun_38 : decode cX10_kindOfRun 38 = .ok (.iconst 1, 1) := by decide +kernel
theorem dX10_kindOfRun_39 : decode cX10_kindOfRun 39 = .ok (.goto 4, 3) := by decide +kernel
theorem dX10_kindOfRun_42 : decode cX10_kindOfRun 42 = .ok (.iconst 2, 1) := by decide +kernel
theorem dX10_kindOfRun_43 : decode cX10_kindOfRun 43 = .ok (.ireturn, 1) := by decide +kernel
theorem dX10_kindOfRun_44 : decode cX10_kindOfRun 44 = .ok (.aload_n 0, 1) := by decide +kernel
theorem dX10_kindOfRun_45 : decode cX10_kindOfRun 45 = .ok (.getfield 9, 3) := by decide +kernel
theorem dX10_kindOfRun_48 : decode cX10_kindOfRun 48 = .ok (.iload_n 1, 1) := by decide +kernel
theorem dX10_kindOfRun_49 : decode cX10_kindOfRun 49 = .ok (.baload, 1) := by decide +kernel
theorem dX10_kindOfRun_50 : decode cX10_kindOfRun 50 = .ok (.tableswitch 39 59 62 #[36, 30, 32, 34], 30) := by decide +kernel
theorem dX10_kindOfRun_80 : decode cX10_kindOfRun 80 = .ok (.iconst 3, 1) := by decide +kernel
theorem dX10_kindOfRun_81 : decode cX10_kindOfRun 81 = .ok (.ireturn, 1) := by decide +kernel
theorem dX10_kindOfRun_82 : decode cX10_kindOfRun 82 = .ok (.iconst 4, 1) := by decide +kernel
theorem dX10_kindOfRun_83 : decode cX10_kindOfRun 83 = .ok (.ireturn, 1) := by decide +kernel
theorem dX10_kindOfRun_84 : decode cX10_kindOfRun 84 = .ok (.iconst 5, 1) := by decide +kernel
theorem dX10_kindOfRun_85 : decode cX10_kindOfRun 85 = .ok (.ireturn, 1) := by decide +kernel
theorem dX10_kindOfRun_86 : decode cX10_kindOfRun 86 = .ok (.bipush 6, 2) := by decide +kernel
theorem dX10_kindOfRun_88 : decode cX10_kindOfRun 88 = .ok (.ireturn, 1) := by decide +kernel
theorem dX10_kindOfRun_89 : decode cX10_kindOfRun 89 = .ok (.iconst 1, 1) := by decide +kernel
theorem dX10_kindOfRun_90 : decode cX10_kindOfRun 90 = .ok (.ireturn, 1) := by decide +kernel
theorem dX10_nameIn_0 : decode cX10_nameIn 0 = .ok (.aload_n 0, 1) := by decide +kernel
theorem dX10_nameIn_1 : decode cX10_nameIn 1 = .ok (.ldc 57, 2) := by decide +kernel
theorem dX10_nameIn_3 : decode cX10_nameIn 3 = .ok (.iload_n 1, 1) := by decide +kernel
theorem dX10_nameIn_4 : decode cX10_nameIn 4 = .ok (.iload_n 2, 1) := by decide +kernel
theorem dX10_nameIn_5 : decode cX10_nameIn 5 = .ok (.invokevirtual 59, 3) := by decide +kernel
theorem dX10_nameIn_8 : decode cX10_nameIn 8 = .ok (.ifCond .eq 6, 3) := by decide +kernel
theorem dX10_nameIn_11 : decode cX10_nameIn 11 = .ok (.bipush 7, 2) := by decide +kernel
theorem dX10_nameIn_13 : decode cX10_nameIn 13 = .ok (.ireturn, 1) := by decide +kernel
theorem dX10_nameIn_14 : decode cX10_nameIn 14 = .ok (.aload_n 0, 1) := by decide +kernel
theorem dX10_nameIn_15 : decode cX10_nameIn 15 = .ok (.ldc 63, 2) := by decide +kernel
theorem dX10_nameIn_17 : decode cX10_nameIn 17 = .ok (.iload_n 1, 1) := by decide +kernel
theorem dX10_nameIn_18 : decode cX10_nameIn 18 = .ok (.iload_n 2, 1) := by decide +kernel
theorem dX10_nameIn_19 : decode cX10_nameIn 19 = .ok (.invokevirtual 59, 3) := by decide +kernel
theorem dX10_nameIn_22 : decode cX10_nameIn 22 = .ok (.ifCond .eq 6, 3) := by decide +kernel
theorem dX10_nameIn_25 : decode cX10_nameIn 25 = .ok (.bipush 8, 2) := by decide +kernel
theorem dX10_nameIn_27 : decode cX10_nameIn 27 = .ok (.ireturn, 1) := by decide +kernel
theorem dX10_nameIn_28 : decode cX10_nameIn 28 = .ok (.aload_n 0, 1) := by decide +kernel
theorem dX10_nameIn_29 : decode cX10_nameIn 29 = .ok (.ldc 65, 2) := by decide +kernel
theorem dX10_nameIn_31 : decode cX10_nameIn 31 = .ok (.iload_n 1, 1) := by decide +kernel
theorem dX10_nameIn_32 : decode cX10_nameIn 32 = .ok (.iload_n 2, 1) := by decide +kernel
theorem dX10_nameIn_33 : decode cX10_nameIn 33 = .ok (.invokevirtual 59, 3) := by decide +kernel
theorem dX10_nameIn_36 : decode cX10_nameIn 36 = .ok (.ifCond .eq 6, 3) := by decide +kernel
theorem dX10_nameIn_39 : decode cX10_nameIn 39 = .ok (.bipush 9, 2) := by decide +kernel
theorem dX10_nameIn_41 : decode cX10_nameIn 41 = .ok (.ireturn, 1) := by decide +kernel
theorem dX10_nameIn_42 : decode cX10_nameIn 42 = .ok (.aload_n 0, 1) := by decide +kernel
theorem dX10_nameIn_43 : decode cX10_nameIn 43 = .ok (.ldc 67, 2) := by decide +kernel
theorem dX10_nameIn_45 : decode cX10_nameIn 45 = .ok (.iload_n 1, 1) := by decide +kernel
theorem dX10_nameIn_46 : decode cX10_nameIn 46 = .ok (.iload_n 2, 1) := by decide +kernel
theorem dX10_nameIn_47 : decode cX10_nameIn 47 = .ok (.invokevirtual 59, 3) := by decide +kernel
theorem dX10_nameIn_50 : decode cX10_nameIn 50 = .ok (.ifCond .eq 6, 3) := by decide +kernel
theorem dX10_nameIn_53 : decode cX10_nameIn 53 = .ok (.bipush 10, 2) := by decide +kernel
theorem dX10_nameIn_55 : decode cX10_nameIn 55 = .ok (.ireturn, 1) := by decide +kernel
theorem dX10_nameIn_56 : decode cX10_nameIn 56 = .ok (.aload_n 0, 1) := by decide +kernel
theorem dX10_nameIn_57 : decode cX10_nameIn 57 = .ok (.ldc 69, 2) := by decide +kernel
theorem dX10_nameIn_59 : decode cX10_nameIn 59 = .ok (.iload_n 1, 1) := by decide +kernel
theorem dX10_nameIn_60 : decode cX10_nameIn 60 = .ok (.iload_n 2, 1) := by decide +kernel
theorem dX10_nameIn_61 : decode cX10_nameIn 61 = .ok (.invokevirtual 59, 3) := by decide +kernel
theorem dX10_nameIn_64 : decode cX10_nameIn 64 = .ok (.ifCond .eq 6, 3) := by decide +kernel
theorem dX10_nameIn_67 : decode cX10_nameIn 67 = .ok (.bipush 11, 2) := by decide +kernel
theorem dX10_nameIn_69 : decode cX10_nameIn 69 = .ok (.ireturn, 1) := by decide +kernel
theorem dX10_nameIn_70 : decode cX10_nameIn 70 = .ok (.aload_n 0, 1) := by decide +kernel
theorem dX10_nameIn_71 : decode cX10_nameIn 71 = .ok (.ldc 71, 2) := by decide +kernel
theorem dX10_nameIn_73 : decode cX10_nameIn 73 = .ok (.iload_n 1, 1) := by decide +kernel
theorem dX10_nameIn_74 : decode cX10_nameIn 74 = .ok (.iload_n 2, 1) := by decide +kernel
theorem dX10_nameIn_75 : decode cX10_nameIn 75 = .ok (.invokevirtual 59, 3) := by decide +kernel
theorem dX10_nameIn_78 : decode cX10_nameIn 78 = .ok (.ifCond .eq 6, 3) := by decide +kernel
theorem dX10_nameIn_81 : decode cX10_nameIn 81 = .ok (.bipush 12, 2) := by decide +kernel
theorem dX10_nameIn_83 : decode cX10_nameIn 83 = .ok (.ireturn, 1) := by decide +kernel
theorem dX10_nameIn_84 : decode cX10_nameIn 84 = .ok (.aload_n 0, 1) := by decide +kernel
theorem dX10_nameIn_85 : decode cX10_nameIn 85 = .ok (.ldc 73, 2) := by decide +kernel
theorem dX10_nameIn_87 : decode cX10_nameIn 87 = .ok (.iload_n 1, 1) := by decide +kernel
theorem dX10_nameIn_88 : decode cX10_nameIn 88 = .ok (.iload_n 2, 1) := by decide +kernel
theorem dX10_nameIn_89 : decode cX10_nameIn 89 = .ok (.invokevirtual 59, 3) := by decide +kernel
theorem dX10_nameIn_92 : decode cX10_nameIn 92 = .ok (.ifCond .eq 6, 3) := by decide +kernel
theorem dX10_nameIn_95 : decode cX10_nameIn 95 = .ok (.bipush 13, 2) := by decide +kernel
theorem dX10_nameIn_97 : decode cX10_nameIn 97 = .ok (.ireturn, 1) := by decide +kernel
theorem dX10_nameIn_98 : decode cX10_nameIn 98 = .ok (.aload_n 0, 1) := by decide +kernel
theorem dX10_nameIn_99 : decode cX10_nameIn 99 = .ok (.ldc 75, 2) := by decide +kernel
theorem dX10_nameIn_101 : decode cX10_nameIn 101 = .ok (.iload_n 1, 1) := by decide +kernel
theorem dX10_nameIn_102 : decode cX10_nameIn 102 = .ok (.iload_n 2, 1) := by decide +kernel
theorem dX10_nameIn_103 : decode cX10_nameIn 103 = .ok (.invokevirtual 59, 3) := by decide +kernel
theorem dX10_nameIn_106 : decode cX10_nameIn 106 = .ok (.ifCond .eq 6, 3) := by decide +kernel
theorem dX10_nameIn_109 : decode cX10_nameIn 109 = .ok (.bipush 14, 2) := by decide +kernel
theorem dX10_nameIn_111 : decode cX10_nameIn 111 = .ok (.ireturn, 1) := by decide +kernel
theorem dX10_nameIn_112 : decode cX10_nameIn 112 = .ok (.aload_n 0, 1) := by decide +kernel
theorem dX10_nameIn_113 : decode cX10_nameIn 113 = .ok (.ldc 77, 2) := by decide +kernel
theorem dX10_nameIn_115 : decode cX10_nameIn 115 = .ok (.iload_n 1, 1) := by decide +kernel
theorem dX10_nameIn_116 : decode cX10_nameIn 116 = .ok (.iload_n 2, 1) := by decide +kernel
theorem dX10_nameIn_117 : decode cX10_nameIn 117 = .ok (.invokevirtual 59, 3) := by decide +kernel
theorem dX10_nameIn_120 : decode cX10_nameIn 120 = .ok (.ifCond .eq 8, 3) := by decide +kernel
theorem dX10_nameIn_123 : decode cX10_nameIn 123 = .ok (.bipush 15, 2) := by decide +kernel
theorem dX10_nameIn_125 : decode cX10_nameIn 125 = .ok (.goto 4, 3) := by decide +kernel
theorem dX10_nameIn_128 : decode cX10_nameIn 128 = .ok (.iconst 1, 1) := by decide +kernel
theorem dX10_nameIn_129 : decode cX10_nameIn 129 = .ok (.ireturn, 1) := by decide +kernel
theorem dX10_spells_0 : decode cX10_spells 0 = .ok (.aload_n 1, 1) := by decide +kernel
theorem dX10_spells_1 : decode cX10_spells 1 = .ok (.invokevirtual 79, 3) := by decide +kernel
theorem dX10_spells_4 : decode cX10_spells 4 = .ok (.iload_n 3, 1) := by decide +kernel
theorem dX10_spells_5 : decode cX10_spells 5 = .ok (.iload_n 2, 1) := by decide +kernel
theorem dX10_spells_6 : decode cX10_spells 6 = .ok (.isub, 1) := by decide +kernel
theorem dX10_spells_7 : decode cX10_spells 7 = .ok (.if_icmp .eq 5, 3) := by decide +kernel
theorem dX10_spells_10 : decode cX10_spells 10 = .ok (.iconst 0, 1) := by decide +kernel
theorem dX10_spells_11 : decode cX10_spells 11 = .ok (.ireturn, 1) := by decide +kernel
theorem dX10_spells_12 : decode cX10_spells 12 = .ok (.iconst 0, 1) := by decide +kernel
theorem dX10_spells_13 : decode cX10_spells 13 = .ok (.istore 4, 2) := by decide +kernel
theorem dX10_spells_15 : decode cX10_spells 15 = .ok (.iload 4, 2) := by decide +kernel
theorem dX10_spells_17 : decode cX10_spells 17 = .ok (.aload_n 1, 1) := by decide +kernel
theorem dX10_spells_18 : decode cX10_spells 18 = .ok (.invokevirtual 79, 3) := by decide +kernel
theorem dX10_spells_21 : decode cX10_spells 21 = .ok (.if_icmp .ge 29, 3) := by decide +kernel
theorem dX10_spells_24 : decode cX10_spells 24 = .ok (.aload_n 0, 1) := by decide +kernel
theorem dX10_spells_25 : decode cX10_spells 25 = .ok (.getfield 9, 3) := by decide +kernel
theorem dX10_spells_28 : decode cX10_spells 28 = .ok (.iload_n 2, 1) := by decide +kernel
theorem dX10_spells_29 : decode cX10_spells 29 = .ok (.iload 4, 2) := by decide +kernel
theorem dX10_spells_31 : decode cX10_spells 31 = .ok (.iadd, 1) := by decide +kernel
theorem dX10_spells_32 : decode cX10_spells 32 = .ok (.baload, 1) := by decide +kernel
theorem dX10_spells_33 : decode cX10_spells 33 = .ok (.aload_n 1, 1) := by decide +kernel
theorem dX10_spells_34 : decode cX10_spells 34 = .ok (.iload 4, 2) := by decide +kernel
theorem dX10_spells_36 : decode cX10_spells 36 = .ok (.invokevirtual 84, 3) := by decide +kernel
theorem dX10_spells_39 : decode cX10_spells 39 = .ok (.if_icmp .eq 5, 3) := by decide +kernel
theorem dX10_spells_42 : decode cX10_spells 42 = .ok (.iconst 0, 1) := by decide +kernel
theorem dX10_spells_43 : decode cX10_spells 43 = .ok (.ireturn, 1) := by decide +kernel
theorem dX10_spells_44 : decode cX10_spells 44 = .ok (.iinc 4 1, 3) := by decide +kernel
theorem dX10_spells_47 : decode cX10_spells 47 = .ok (.goto (-32), 3) := by decide +kernel
theorem dX10_spells_50 : decode cX10_spells 50 = .ok (.iconst 1, 1) := by decide +kernel
theorem dX10_spells_51 : decode cX10_spells 51 = .ok (.ireturn, 1) := by decide +kernel
theorem dX10_numberIn_0 : decode cX10_numberIn 0 = .ok (.iconst 0, 1) := by decide +kernel
theorem dX10_numberIn_1 : decode cX10_numberIn 1 = .ok (.istore_n 3, 1) := by decide +kernel
theorem dX10_numberIn_2 : decode cX10_numberIn 2 = .ok (.iload_n 1, 1) := by decide +kernel
theorem dX10_numberIn_3 : decode cX10_numberIn 3 = .ok (.istore 4, 2) := by decide +kernel
theorem dX10_numberIn_5 : decode cX10_numberIn 5 = .ok (.iload 4, 2) := by decide +kernel
theorem dX10_numberIn_7 : decode cX10_numberIn 7 = .ok (.iload_n 2, 1) := by decide +kernel
theorem dX10_numberIn_8 : decode cX10_numberIn 8 = .ok (.if_icmp .ge 25, 3) := by decide +kernel
theorem dX10_numberIn_11 : decode cX10_numberIn 11 = .ok (.bipush 10, 2) := by decide +kernel
theorem dX10_numberIn_13 : decode cX10_numberIn 13 = .ok (.iload_n 3, 1) := by decide +kernel
theorem dX10_numberIn_14 : decode cX10_numberIn 14 = .ok (.imul, 1) := by decide +kernel
theorem dX10_numberIn_15 : decode cX10_numberIn 15 = .ok (.aload_n 0, 1) := by decide +kernel
theorem dX10_numberIn_16 : decode cX10_numberIn 16 = .ok (.getfield 9, 3) := by decide +kernel
theorem dX10_numberIn_19 : decode cX10_numberIn 19 = .ok (.iload 4, 2) := by decide +kernel
theorem dX10_numberIn_21 : decode cX10_numberIn 21 = .ok (.baload, 1) := by decide +kernel
theorem dX10_numberIn_22 : decode cX10_numberIn 22 = .ok (.iadd, 1) := by decide +kernel
theorem dX10_numberIn_23 : decode cX10_numberIn 23 = .ok (.bipush 48, 2) := by decide +kernel
theorem dX10_numberIn_25 : decode cX10_numberIn 25 = .ok (.isub, 1) := by decide +kernel
theorem dX10_numberIn_26 : decode cX10_numberIn 26 = .ok (.istore_n 3, 1) := by decide +kernel
theorem dX10_numberIn_27 : decode cX10_numberIn 27 = .ok (.iinc 4 1, 3) := by decide +kernel
theorem dX10_numberIn_30 : decode cX10_numberIn 30 = .ok (.goto (-25), 3) := by decide +kernel
theorem dX10_numberIn_33 : decode cX10_numberIn 33 = .ok (.iload_n 3, 1) := by decide +kernel
theorem dX10_numberIn_34 : decode cX10_numberIn 34 = .ok (.ireturn, 1) := by decide +kernel
theorem dX10_isLetter_0 : decode cX10_isLetter 0 = .ok (.iload_n 0, 1) := by decide +kernel
theorem dX10_isLetter_1 : decode cX10_isLetter 1 = .ok (.bipush 97, 2) := by decide +kernel
theorem dX10_isLetter_3 : decode cX10_isLetter 3 = .ok (.if_icmp .lt 13, 3) := by decide +kernel
theorem dX10_isLetter_6 : decode cX10_isLetter 6 = .ok (.iload_n 0, 1) := by decide +kernel
theorem dX10_isLetter_7 : decode cX10_isLetter 7 = .ok (.bipush 122, 2) := by decide +kernel
theorem dX10_isLetter_9 : decode cX10_isLetter 9 = .ok (.if_icmp .gt 7, 3) := by decide +kernel
theorem dX10_isLetter_12 : decode cX10_isLetter 12 = .ok (.iconst 1, 1) := by decide +kernel
theorem dX10_isLetter_13 : decode cX10_isLetter 13 = .ok (.goto 4, 3) := by decide +kernel
theorem dX10_isLetter_16 : decode cX10_isLetter 16 = .ok (.iconst 0, 1) := by decide +kernel
theorem dX10_isLetter_17 : decode cX10_isLetter 17 = .ok (.ireturn, 1) := by decide +kernel
theorem dX10_isFigure_0 : decode cX10_isFigure 0 = .ok (.iload_n 0, 1) := by decide +kernel
theorem dX10_isFigure_1 : decode cX10_isFigure 1 = .ok (.bipush 48, 2) := by decide +kernel
theorem dX10_isFigure_3 : decode cX10_isFigure 3 = .ok (.if_icmp .lt 13, 3) := by decide +kernel
theorem dX10_isFigure_6 : decode cX10_isFigure 6 = .ok (.iload_n 0, 1) := by decide +kernel
theorem dX10_isFigure_7 : decode cX10_isFigure 7 = .ok (.bipush 57, 2) := by decide +kernel
theorem dX10_isFigure_9 : decode cX10_isFigure 9 = .ok (.if_icmp .gt 7, 3) := by decide +kernel
theorem dX10_isFigure_12 : decode cX10_isFigure 12 = .ok (.iconst 1, 1) := by decide +kernel
theorem dX10_isFigure_13 : decode cX10_isFigure 13 = .ok (.goto 4, 3) := by decide +kernel
theorem dX10_isFigure_16 : decode cX10_isFigure 16 = .ok (.iconst 0, 1) := by decide +kernel
theorem dX10_isFigure_17 : decode cX10_isFigure 17 = .ok (.ireturn, 1) := by decide +kernel
theorem dX11_day_0 : decode cX11_day 0 = .ok (.iload_n 1, 1) := by decide +kernel
theorem dX11_day_1 : decode cX11_day 1 = .ok (.aload_n 0, 1) := by decide +kernel
theorem dX11_day_2 : decode cX11_day 2 = .ok (.getfield 89, 3) := by decide +kernel
theorem dX11_day_5 : decode cX11_day 5 = .ok (.sipush 9999, 3) := by decide +kernel
theorem dX11_day_8 : decode cX11_day 8 = .ok (.invokestatic 93, 3) := by decide +kernel
theorem dX11_day_11 : decode cX11_day 11 = .ok (.ifCond .ne 5, 3) := by decide +kernel
theorem dX11_day_14 : decode cX11_day 14 = .ok (.iconst (-1), 1) := by decide +kernel
theorem dX11_day_15 : decode cX11_day 15 = .ok (.ireturn, 1) := by decide +kernel
theorem dX11_day_16 : decode cX11_day 16 = .ok (.aload_n 0, 1) := by decide +kernel
theorem dX11_day_17 : decode cX11_day 17 = .ok (.getfield 89, 3) := by decide +kernel
theorem dX11_day_20 : decode cX11_day 20 = .ok (.istore_n 2, 1) := by decide +kernel
theorem dX11_day_21 : decode cX11_day 21 = .ok (.aload_n 0, 1) := by decide +kernel
theorem dX11_day_22 : decode cX11_day 22 = .ok (.iload_n 1, 1) := by decide +kernel
theorem dX11_day_23 : decode cX11_day 23 = .ok (.putfield 89, 3) := by decide +kernel
theorem dX11_day_26 : decode cX11_day 26 = .ok (.iload_n 2, 1) := by decide +kernel
theorem dX11_day_27 : decode cX11_day 27 = .ok (.ireturn, 1) := by decide +kernel
theorem dX11_body_0 : decode cX11_body 0 = .ok (.iconst 0, 1) := by decide +kernel
theorem dX11_body_1 : decode cX11_body 1 = .ok (.iload_n 1, 1) := by decide +kernel
theorem dX11_body_2 : decode cX11_body 2 = .ok (.invokestatic 97, 3) := by decide +kernel
theorem dX11_body_5 : decode cX11_body 5 = .ok (.ifCond .eq 19, 3) := by decide +kernel
theorem dX11_body_8 : decode cX11_body 8 = .ok (.iconst 1, 1) := by decide +kernel
theorem dX11_body_9 : decode cX11_body 9 = .ok (.iload_n 2, 1) := by decide +kernel
theorem dX11_body_10 : decode cX11_body 10 = .ok (.invokestatic 97, 3) := by decide +kernel
theorem dX11_body_13 : decode cX11_body 13 = .ok (.ifCond .eq 11, 3) := by decide +kernel
theorem dX11_body_16 : decode cX11_body 16 = .ok (.iconst 2, 1) := by decide +kernel
theorem dX11_body_17 : decode cX11_body 17 = .ok (.iload_n 3, 1) := by decide +kernel
theorem dX11_body_18 : decode cX11_body 18 = .ok (.invokestatic 97, 3) := by decide +kernel
theorem dX11_body_21 : decode cX11_body 21 = .ok (.ifCond .ne 5, 3) := by decide +kernel
theorem dX11_body_24 : decode cX11_body 24 = .ok (.iconst (-1), 1) := by decide +kernel
theorem dX11_body_25 : decode cX11_body 25 = .ok (.ireturn, 1) := by decide +kernel
theorem dX11_body_26 : decode cX11_body 26 = .ok (.aload_n 0, 1) := by decide +kernel
theorem dX11_body_27 : decode cX11_body 27 = .ok (.getfield 10, 3) := by decide +kernel
theorem dX11_body_30 : decode cX11_body 30 = .ok (.iload_n 1, 1) := by decide +kernel
theorem dX11_body_31 : decode cX11_body 31 = .ok (.iload_n 2, 1) := by decide +kernel
theorem dX11_body_32 : decode cX11_body 32 = .ok (.iload_n 3, 1) := by decide +kernel
theorem dX11_body_33 : decode cX11_body 33 = .ok (.invokevirtual 101, 3) := by decide +kernel
theorem dX11_body_36 : decode cX11_body 36 = .ok (.ireturn, 1) := by decide +kernel
theorem dX11_becomes_0 : decode cX11_becomes 0 = .ok (.aload_n 0, 1) := by decide +kernel
theorem dX11_becomes_1 : decode cX11_becomes 1 = .ok (.getfield 10, 3) := by decide +kernel
theorem dX11_becomes_4 : decode cX11_becomes 4 = .ok (.iload_n 1, 1) := by decide +kernel
theorem dX11_becomes_5 : decode cX11_becomes 5 = .ok (.invokevirtual 105, 3) := by decide +kernel
theorem dX11_becomes_8 : decode cX11_becomes 8 = .ok (.ifCond .eq 11, 3) := by decide +kernel
theorem dX11_becomes_11 : decode cX11_becomes 11 = .ok (.iload_n 2, 1) := by decide +kernel
theorem dX11_becomes_12 : decode cX11_becomes 12 = .ok (.iload_n 3, 1) := by decide +kernel
theorem dX11_becomes_13 : decode cX11_becomes 13 = .ok (.invokestatic 97, 3) := by decide +kernel
theorem dX11_becomes_16 : decode cX11_becomes 16 = .ok (.ifCond .ne 5, 3) := by decide +kernel
theorem dX11_becomes_19 : decode cX11_becomes 19 = .ok (.iconst (-1), 1) := by decide +kernel
theorem dX11_becomes_20 : decode cX11_becomes 20 = .ok (.ireturn, 1) := by decide +kernel
theorem dX11_becomes_21 : decode cX11_becomes 21 = .ok (.aload_n 0, 1) := by decide +kernel
theorem dX11_becomes_22 : decode cX11_becomes 22 = .ok (.getfield 10, 3) := by decide +kernel
theorem dX11_becomes_25 : decode cX11_becomes 25 = .ok (.getfield 109, 3) := by decide +kernel
theorem dX11_becomes_28 : decode cX11_becomes 28 = .ok (.iload_n 1, 1) := by decide +kernel
theorem dX11_becomes_29 : decode cX11_becomes 29 = .ok (.aaload, 1) := by decide +kernel
theorem dX11_becomes_30 : decode cX11_becomes 30 = .ok (.iload_n 2, 1) := by decide +kernel
theorem dX11_becomes_31 : decode cX11_becomes 31 = .ok (.iaload, 1) := by decide +kernel
theorem dX11_becomes_32 : decode cX11_becomes 32 = .ok (.istore 4, 2) := by decide +kernel
theorem dX11_becomes_34 : decode cX11_becomes 34 = .ok (.aload_n 0, 1) := by decide +kernel
theorem dX11_becomes_35 : decode cX11_becomes 35 = .ok (.getfield 10, 3) := by decide +kernel
theorem dX11_becomes_38 : decode cX11_becomes 38 = .ok (.getfield 109, 3) := by decide +kernel
theorem dX11_becomes_41 : decode cX11_becomes 41 = .ok (.iload_n 1, 1) := by decide +kernel
theorem dX11_becomes_42 : decode cX11_becomes 42 = .ok (.aaload, 1) := by decide +kernel
theorem dX11_becomes_43 : decode cX11_becomes 43 = .ok (.iload_n 2, 1) := by decide +kernel
theorem dX11_becomes_44 : decode cX11_becomes 44 = .ok (.iload_n 3, 1) := by decide +kernel
theorem dX11_becomes_45 : decode cX11_becomes 45 = .ok (.iastore, 1) := by decide +kernel
theorem dX11_becomes_46 : decode cX11_becomes 46 = .ok (.iload 4, 2) := by decide +kernel
theorem dX11_becomes_48 : decode cX11_becomes 48 = .ok (.ireturn, 1) := by decide +kernel
theorem dX11_measure_0 : decode cX11_measure 0 = .ok (.aload_n 0, 1) := by decide +kernel
theorem dX11_measure_1 : decode cX11_measure 1 = .ok (.getfield 10, 3) := by decide +kernel
theorem dX11_measure_4 : decode cX11_measure 4 = .ok (.iload_n 1, 1) := by decide +kernel
theorem dX11_measure_5 : decode cX11_measure 5 = .ok (.invokevirtual 105, 3) := by decide +kernel
theorem dX11_measure_8 : decode cX11_measure 8 = .ok (.ifCond .eq 25, 3) := by decide +kernel
theorem dX11_measure_11 : decode cX11_measure 11 = .ok (.iload_n 2, 1) := by decide +kernel
theorem dX11_measure_12 : decode cX11_measure 12 = .ok (.invokestatic 113, 3) := by decide +kernel
theorem dX11_measure_15 : decode cX11_measure 15 = .ok (.ifCond .eq 18, 3) := by decide +kernel
theorem dX11_measure_18 : decode cX11_measure 18 = .ok (.iload_n 3, 1) := by decide +kernel
theorem dX11_measure_19 : decode cX11_measure 19 = .ok (.invokestatic 116, 3) := by decide +kernel
theorem dX11_measure_22 : decode cX11_measure 22 = .ok (.ifCond .eq 11, 3) := by decide +kernel
theorem dX11_measure_25 : decode cX11_measure 25 = .ok (.iload 4, 2) := by decide +kernel
theorem dX11_measure_27 : decode cX11_measure 27 = .ok (.invokestatic 119, 3) := by decide +kernel
theorem dX11_measure_30 : decode cX11_measure 30 = .ok (.ifCond .ne 5, 3) := by decide +kernel
theorem dX11_measure_33 : decode cX11_measure 33 = .ok (.iconst (-1), 1) := by decide +kernel
theorem dX11_measure_34 : decode cX11_measure 34 = .ok (.ireturn, 1) := by decide +kernel
theorem dX11_measure_35 : decode cX11_measure 35 = .ok (.aload_n 0, 1) := by decide +kernel
theorem dX11_measure_36 : decode cX11_measure 36 = .ok (.getfield 19, 3) := by decide +kernel
theorem dX11_measure_39 : decode cX11_measure 39 = .ok (.iload_n 1, 1) := by decide +kernel
theorem dX11_measure_40 : decode cX11_measure 40 = .ok (.iload_n 2, 1) := by decide +kernel
theorem dX11_measure_41 : decode cX11_measure 41 = .ok (.iload_n 3, 1) := by decide +kernel
theorem dX11_measure_42 : decode cX11_measure 42 = .ok (.iload 4, 2) := by decide +kernel
theorem dX11_measure_44 : decode cX11_measure 44 = .ok (.aload_n 0, 1) := by decide +kernel
theorem dX11_measure_45 : decode cX11_measure 45 = .ok (.getfield 89, 3) := by decide +kernel
theorem dX11_measure_48 : decode cX11_measure 48 = .ok (.invokevirtual 122, 3) := by decide +kernel
theorem dX11_measure_51 : decode cX11_measure 51 = .ok (.ireturn, 1) := by decide +kernel
theorem dX11_known_0 : decode cX11_known 0 = .ok (.aload_n 0, 1) := by decide +kernel
theorem dX11_known_1 : decode cX11_known 1 = .ok (.getfield 10, 3) := by decide +kernel
theorem dX11_known_4 : decode cX11_known 4 = .ok (.iload_n 1, 1) := by decide +kernel
theorem dX11_known_5 : decode cX11_known 5 = .ok (.invokevirtual 105, 3) := by decide +kernel
theorem dX11_known_8 : decode cX11_known 8 = .ok (.ifCond .eq 25, 3) := by decide +kernel
theorem dX11_known_11 : decode cX11_known 11 = .ok (.iload_n 2, 1) := by decide +kernel
theorem dX11_known_12 : decode cX11_known 12 = .ok (.invokestatic 113, 3) := by decide +kernel
theorem dX11_known_15 : decode cX11_known 15 = .ok (.ifCond .eq 18, 3) := by decide +kernel
theorem dX11_known_18 : decode cX11_known 18 = .ok (.iload_n 3, 1) := by decide +kernel
theorem dX11_known_19 : decode cX11_known 19 = .ok (.invokestatic 119, 3) := by decide +kernel
theorem dX11_known_22 : decode cX11_known 22 = .ok (.ifCond .eq 11, 3) := by decide +kernel
theorem dX11_known_25 : decode cX11_known 25 = .ok (.iload 4, 2) := by decide +kernel
theorem dX11_known_27 : decode cX11_known 27 = .ok (.invokestatic 119, 3) := by decide +kernel
theorem dX11_known_30 : decode cX11_known 30 = .ok (.ifCond .ne 5, 3) := by decide +kernel
theorem dX11_known_33 : decode cX11_known 33 = .ok (.iconst (-1), 1) := by decide +kernel
theorem dX11_known_34 : decode cX11_known 34 = .ok (.ireturn, 1) := by decide +kernel
theorem dX11_known_35 : decode cX11_known 35 = .ok (.aload_n 0, 1) := by decide +kernel
theorem dX11_known_36 : decode cX11_known 36 = .ok (.getfield 19, 3) := by decide +kernel
theorem dX11_known_39 : decode cX11_known 39 = .ok (.iload_n 1, 1) := by decide +kernel
theorem dX11_known_40 : decode cX11_known 40 = .ok (.iload_n 2, 1) := by decide +kernel
theorem dX11_known_41 : decode cX11_known 41 = .ok (.iload_n 3, 1) := by decide +kernel
theorem dX11_known_42 : decode cX11_known 42 = .ok (.iload 4, 2) := by decide +kernel
theorem dX11_known_44 : decode cX11_known 44 = .ok (.invokevirtual 125, 3) := by decide +kernel
theorem dX11_known_47 : decode cX11_known 47 = .ok (.ireturn, 1) := by decide +kernel
theorem dX11_told_0 : decode cX11_told 0 = .ok (.aload_n 0, 1) := by decide +kernel
theorem dX11_told_1 : decode cX11_told 1 = .ok (.getfield 10, 3) := by decide +kernel
theorem dX11_told_4 : decode cX11_told 4 = .ok (.iload_n 1, 1) := by decide +kernel
theorem dX11_told_5 : decode cX11_told 5 = .ok (.invokevirtual 105, 3) := by decide +kernel
theorem dX11_told_8 : decode cX11_told 8 = .ok (.ifCond .ne 5, 3) := by decide +kernel
theorem dX11_told_11 : decode cX11_told 11 = .ok (.iconst (-1), 1) := by decide +kernel
theorem dX11_told_12 : decode cX11_told 12 = .ok (.ireturn, 1) := by decide +kernel
theorem dX11_told_13 : decode cX11_told 13 = .ok (.iload_n 2, 1) := by decide +kernel
theorem dX11_told_14 : decode cX11_told 14 = .ok (.iconst 0, 1) := by decide +kernel
theorem dX11_told_15 : decode cX11_told 15 = .ok (.iconst 2, 1) := by decide +kernel
theorem dX11_told_16 : decode cX11_told 16 = .ok (.invokestatic 93, 3) := by decide +kernel
theorem dX11_told_19 : decode cX11_told 19 = .ok (.ifCond .eq 15, 3) := by decide +kernel
theorem dX11_told_22 : decode cX11_told 22 = .ok (.aload_n 0, 1) := by decide +kernel
theorem dX11_told_23 : decode cX11_told 23 = .ok (.getfield 10, 3) := by decide +kernel
theorem dX11_told_26 : decode cX11_told 26 = .ok (.getfield 109, 3) := by decide +kernel
theorem dX11_told_29 : decode cX11_told 29 = .ok (.iload_n 1, 1) := by decide +kernel
theorem dX11_told_30 : decode cX11_told 30 = .ok (.aaload, 1) := by decide +kernel
theorem dX11_told_31 : decode cX11_told 31 = .ok (.iload_n 2, 1) := by decide +kernel
theorem dX11_told_32 : decode cX11_told 32 = .ok (.iaload, 1) := by decide +kernel
theorem dX11_told_33 : decode cX11_told 33 = .ok (.ireturn, 1) := by decide +kernel
theorem dX11_told_34 : decode cX11_told 34 = .ok (.iload_n 2, 1) := by decide +kernel
theorem dX11_told_35 : decode cX11_told 35 = .ok (.iconst 3, 1) := by decide +kernel
theorem dX11_told_36 : decode cX11_told 36 = .ok (.iconst 5, 1) := by decide +kernel
theorem dX11_told_37 : decode cX11_told 37 = .ok (.invokestatic 93, 3) := by decide +kernel
theorem dX11_told_40 : decode cX11_told 40 = .ok (.ifCond .eq 12, 3) := by decide +kernel
theorem dX11_told_43 : decode cX11_told 43 = .ok (.aload_n 0, 1) := by decide +kernel
theorem dX11_told_44 : decode cX11_told 44 = .ok (.iload_n 1, 1) := by decide +kernel
theorem dX11_told_45 : decode cX11_told 45 = .ok (.iload_n 2, 1) := by decide +kernel
theorem dX11_told_46 : decode cX11_told 46 = .ok (.iconst 3, 1) := by decide +kernel
theorem dX11_told_47 : decode cX11_told 47 = .ok (.isub, 1) := by decide +kernel
theorem dX11_told_48 : decode cX11_told 48 = .ok (.invokevirtual 129, 3) := by decide +kernel
theorem dX11_told_51 : decode cX11_told 51 = .ok (.ireturn, 1) := by decide +kernel
theorem dX11_told_52 : decode cX11_told 52 = .ok (.iload_n 2, 1) := by decide +kernel
theorem dX11_told_53 : decode cX11_told 53 = .ok (.bipush 6, 2) := by decide +kernel
theorem dX11_told_55 : decode cX11_told 55 = .ok (.if_icmp .ne 12, 3) := by decide +kernel
theorem dX11_told_58 : decode cX11_told 58 = .ok (.aload_n 0, 1) := by decide +kernel
theorem dX11_told_59 : decode cX11_told 59 = .ok (.getfield 64, 3) := by decide +kernel
theorem dX11_told_62 : decode cX11_told 62 = .ok (.iload_n 1, 1) := by decide +kernel
theorem dX11_told_63 : decode cX11_told 63 = .ok (.invokevirtual 133, 3) := by decide +kernel
theorem dX11_told_66 : decode cX11_told 66 = .ok (.ireturn, 1) := by decide +kernel
theorem dX11_told_67 : decode cX11_told 67 = .ok (.iload_n 2, 1) := by decide +kernel
theorem dX11_told_68 : decode cX11_told 68 = .ok (.bipush 7, 2) := by decide +kernel
theorem dX11_told_70 : decode cX11_told 70 = .ok (.if_icmp .ne 13, 3) := by decide +kernel
theorem dX11_told_73 : decode cX11_told 73 = .ok (.aload_n 0, 1) := by decide +kernel
theorem dX11_told_74 : decode cX11_told 74 = .ok (.getfield 10, 3) := by decide +kernel
theorem dX11_told_77 : decode cX11_told 77 = .ok (.getfield 137, 3) := by decide +kernel
theorem dX11_told_80 : decode cX11_told 80 = .ok (.iload_n 1, 1) := by decide +kernel
theorem dX11_told_81 : decode cX11_told 81 = .ok (.iaload, 1) := by decide +kernel
theorem dX11_told_82 : decode cX11_told 82 = .ok (.ireturn, 1) := by decide +kernel
theorem dX11_told_83 : decode cX11_told 83 = .ok (.iload_n 2, 1) := by decide +kernel
theorem dX11_told_84 : decode cX11_told 84 = .ok (.bipush 10, 2) := by decide +kernel
theorem dX11_told_86 : decode cX11_told 86 = .ok (.bipush 13, 2) := by decide +kernel
theorem dX11_told_88 : decode cX11_told 88 = .ok (.invokestatic 93, 3) := by decide +kernel
theorem dX11_told_91 : decode cX11_told 91 = .ok (.ifCond .eq 13, 3) := by decide +kernel
theorem dX11_told_94 : decode cX11_told 94 = .ok (.aload_n 0, 1) := by decide +kernel
theorem dX11_told_95 : decode cX11_told 95 = .ok (.iload_n 1, 1) := by decide +kernel
theorem dX11_told_96 : decode cX11_told 96 = .ok (.iload_n 2, 1) := by decide +kernel
theorem dX11_told_97 : decode cX11_told 97 = .ok (.bipush 10, 2) := by decide +kernel
theorem dX11_told_99 : decode cX11_told 99 = .ok (.isub, 1) := by decide +kernel
theorem dX11_told_100 : decode cX11_told 100 = .ok (.invokevirtual 141, 3) := by decide +kernel
theorem dX11_told_103 : decode cX11_told 103 = .ok (.ireturn, 1) := by decide +kernel
theorem dX11_told_104 : decode cX11_told 104 = .ok (.iload_n 2, 1) := by decide +kernel
theorem dX11_told_105 : decode cX11_told 105 = .ok (.bipush 20, 2) := by decide +kernel
theorem dX11_told_107 : decode cX11_told 107 = .ok (.bipush 23, 2) := by decide +kernel
theorem dX11_told_109 : decode cX11_told 109 = .ok (.invokestatic 93, 3) := by decide +kernel
theorem dX11_told_112 : decode cX11_told 112 = .ok (.ifCond .eq 17, 3) := by decide +kernel
theorem dX11_told_115 : decode cX11_told 115 = .ok (.aload_n 0, 1) := by decide +kernel
theorem dX11_told_116 : decode cX11_told 116 = .ok (.iload_n 1, 1) := by decide +kernel
theorem dX11_told_117 : decode cX11_told 117 = .ok (.iload_n 2, 1) := by decide +kernel
theorem dX11_told_118 : decode cX11_told 118 = .ok (.bipush 20, 2) := by decide +kernel
theorem dX11_told_120 : decode cX11_told 120 = .ok (.isub, 1) := by decide +kernel
theorem dX11_told_121 : decode cX11_told 121 = .ok (.aload_n 0, 1) := by decide +kernel
theorem dX11_told_122 : decode cX11_told 122 = .ok (.getfield 89, 3) := by decide +kernel
theorem dX11_told_125 : decode cX11_told 125 = .ok (.invokevirtual 144, 3) := by decide +kernel
theorem dX11_told_128 : decode cX11_told 128 = .ok (.ireturn, 1) := by decide +kernel
theorem dX11_told_129 : decode cX11_told 129 = .ok (.iconst (-1), 1) := by decide +kernel
theorem dX11_told_130 : decode cX11_told 130 = .ok (.ireturn, 1) := by decide +kernel
theorem dX11_size_0 : decode cX11_size 0 = .ok (.iload_n 1, 1) := by decide +kernel
theorem dX11_size_1 : decode cX11_size 1 = .ok (.invokestatic 147, 3) := by decide +kernel
theorem dX11_size_4 : decode cX11_size 4 = .ok (.ifCond .eq 31, 3) := by decide +kernel
theorem dX11_size_7 : decode cX11_size 7 = .ok (.iload_n 2, 1) := by decide +kernel
theorem dX11_size_8 : decode cX11_size 8 = .ok (.iload_n 3, 1) := by decide +kernel
theorem dX11_size_9 : decode cX11_size 9 = .ok (.invokestatic 150, 3) := by decide +kernel
theorem dX11_size_12 : decode cX11_size 12 = .ok (.ifCond .eq 23, 3) := by decide +kernel
theorem dX11_size_15 : decode cX11_size 15 = .ok (.iload 4, 2) := by decide +kernel
theorem dX11_size_17 : decode cX11_size 17 = .ok (.iload 5, 2) := by decide +kernel
theorem dX11_size_19 : decode cX11_size 19 = .ok (.invokestatic 150, 3) := by decide +kernel
theorem dX11_size_22 : decode cX11_size 22 = .ok (.ifCond .eq 13, 3) := by decide +kernel
theorem dX11_size_25 : decode cX11_size 25 = .ok (.iload 6, 2) := by decide +kernel
theorem dX11_size_27 : decode cX11_size 27 = .ok (.iload 7, 2) := by decide +kernel
theorem dX11_size_29 : decode cX11_size 29 = .ok (.invokestatic 150, 3) := by decide +kernel
theorem dX11_size_32 : decode cX11_size 32 = .ok (.ifCond .ne 5, 3) := by decide +kernel
theorem dX11_size_35 : decode cX11_size 35 = .ok (.iconst (-1), 1) := by decide +kernel
theorem dX11_size_36 : decode cX11_size 36 = .ok (.ireturn, 1) := by decide +kernel
theorem dX11_size_37 : decode cX11_size 37 = .ok (.aload_n 0, 1) := by decide +kernel
theorem dX11_size_38 : decode cX11_size 38 = .ok (.getfield 26, 3) := by decide +kernel
theorem dX11_size_41 : decode cX11_size 41 = .ok (.iload_n 1, 1) := by decide +kernel
theorem dX11_size_42 : decode cX11_size 42 = .ok (.invokevirtual 153, 3) := by decide +kernel
theorem dX11_size_45 : decode cX11_size 45 = .ok (.istore 8, 2) := by decide +kernel
theorem dX11_size_47 : decode cX11_size 47 = .ok (.iload 8, 2) := by decide +kernel
theorem dX11_size_49 : decode cX11_size 49 = .ok (.ifCond .lt 43, 3) := by decide +kernel
theorem dX11_size_52 : decode cX11_size 52 = .ok (.aload_n 0, 1) := by decide +kernel
theorem dX11_size_53 : decode cX11_size 53 = .ok (.getfield 26, 3) := by decide +kernel
theorem dX11_size_56 : decode cX11_size 56 = .ok (.iload 8, 2) := by decide +kernel
theorem dX11_size_58 : decode cX11_size 58 = .ok (.iconst 0, 1) := by decide +kernel
theorem dX11_size_59 : decode cX11_size 59 = .ok (.iload_n 2, 1) := by decide +kernel
theorem dX11_size_60 : decode cX11_size 60 = .ok (.iload_n 3, 1) := by decide +kernel
theorem dX11_size_61 : decode cX11_size 61 = .ok (.invokevirtual 155, 3) := by decide +kernel
theorem dX11_size_64 : decode cX11_size 64 = .ok (.aload_n 0, 1) := by decide +kernel
theorem dX11_size_65 : decode cX11_size 65 = .ok (.getfield 26, 3) := by decide +kernel
theorem dX11_size_68 : decode cX11_size 68 = .ok (.iload 8, 2) := by decide +kernel
theorem dX11_size_70 : decode cX11_size 70 = .ok (.iconst 1, 1) := by decide +kernel
theorem dX11_size_71 : decode cX11_size 71 = .ok (.iload 4, 2) := by decide +kernel
theorem dX11_size_73 : decode cX11_size 73 = .ok (.iload 5, 2) := by decide +kernel
theorem dX11_size_75 : decode cX11_size 75 = .ok (.invokevirtual 155, 3) := by decide +kernel
theorem dX11_size_78 : decode cX11_size 78 = .ok (.aload_n 0, 1) := by decide +kernel
theorem dX11_size_79 : decode cX11_size 79 = .ok (.getfield 26, 3) := by decide +kernel
theorem dX11_size_82 : decode cX11_size 82 = .ok (.iload 8, 2) := by decide +kernel
theorem dX11_size_84 : decode cX11_size 84 = .ok (.iconst 2, 1) := by decide +kernel
theorem dX11_size_85 : decode cX11_size 85 = .ok (.iload 6, 2) := by decide +kernel
theorem dX11_size_87 : decode cX11_size 87 = .ok (.iload 7, 2) := by decide +kernel
theorem dX11_size_89 : decode cX11_size 89 = .ok (.invokevirtual 155, 3) := by decide +kernel
theorem dX11_size_92 : decode cX11_size 92 = .ok (.iload 8, 2) := by decide +kernel
theorem dX11_size_94 : decode cX11_size 94 = .ok (.ireturn, 1) := by decide +kernel
theorem dX11_fits_0 : decode cX11_fits 0 = .ok (.aload_n 0, 1) := by decide +kernel
theorem dX11_fits_1 : decode cX11_fits 1 = .ok (.getfield 26, 3) := by decide +kernel
theorem dX11_fits_4 : decode cX11_fits 4 = .ok (.iload_n 1, 1) := by decide +kernel
theorem dX11_fits_5 : decode cX11_fits 5 = .ok (.invokevirtual 159, 3) := by decide +kernel
theorem dX11_fits_8 : decode cX11_fits 8 = .ok (.ifCond .eq 24, 3) := by decide +kernel
theorem dX11_fits_11 : decode cX11_fits 11 = .ok (.aload_n 0, 1) := by decide +kernel
theorem dX11_fits_12 : decode cX11_fits 12 = .ok (.getfield 10, 3) := by decide +kernel
theorem dX11_fits_15 : decode cX11_fits 15 = .ok (.iload_n 2, 1) := by decide +kernel
theorem dX11_fits_16 : decode cX11_fits 16 = .ok (.invokevirtual 105, 3) := by decide +kernel
theorem dX11_fits_19 : decode cX11_fits 19 = .ok (.ifCond .eq 13, 3) := by decide +kernel
theorem dX11_fits_22 : decode cX11_fits 22 = .ok (.iload_n 3, 1) := by decide +kernel
theorem dX11_fits_23 : decode cX11_fits 23 = .ok (.iconst 0, 1) := by decide +kernel
theorem dX11_fits_24 : decode cX11_fits 24 = .ok (.bipush 50, 2) := by decide +kernel
theorem dX11_fits_26 : decode cX11_fits 26 = .ok (.invokestatic 93, 3) := by decide +kernel
theorem dX11_fits_29 : decode cX11_fits 29 = .ok (.ifCond .ne 5, 3) := by decide +kernel
theorem dX11_fits_32 : decode cX11_fits 32 = .ok (.iconst (-1), 1) := by decide +kernel
theorem dX11_fits_33 : decode cX11_fits 33 = .ok (.ireturn, 1) := by decide +kernel
theorem dX11_fits_34 : decode cX11_fits 34 = .ok (.aload_n 0, 1) := by decide +kernel
theorem dX11_fits_35 : decode cX11_fits 35 = .ok (.iload_n 1, 1) := by decide +kernel
theorem dX11_fits_36 : decode cX11_fits 36 = .ok (.iload_n 2, 1) := by decide +kernel
theorem dX11_fits_37 : decode cX11_fits 37 = .ok (.invokevirtual 160, 3) := by decide +kernel
theorem dX11_fits_40 : decode cX11_fits 40 = .ok (.iload_n 3, 1) := by decide +kernel
theorem dX11_fits_41 : decode cX11_fits 41 = .ok (.if_icmp .gt 7, 3) := by decide +kernel
theorem dX11_fits_44 : decode cX11_fits 44 = .ok (.iconst 1, 1) := by decide +kernel
theorem dX11_fits_45 : decode cX11_fits 45 = .ok (.goto 4, 3) := by decide +kernel
theorem dX11_fits_48 : decode cX11_fits 48 = .ok (.iconst 0, 1) := by decide +kernel
theorem dX11_fits_49 : decode cX11_fits 49 = .ok (.ireturn, 1) := by decide +kernel
theorem dX11_sized_0 : decode cX11_sized 0 = .ok (.aload_n 0, 1) := by decide +kernel
theorem dX11_sized_1 : decode cX11_sized 1 = .ok (.getfield 10, 3) := by decide +kernel
theorem dX11_sized_4 : decode cX11_sized 4 = .ok (.iload_n 1, 1) := by decide +kernel
theorem dX11_sized_5 : decode cX11_sized 5 = .ok (.invokevirtual 105, 3) := by decide +kernel
theorem dX11_sized_8 : decode cX11_sized 8 = .ok (.ifCond .eq 20, 3) := by decide +kernel
theorem dX11_sized_11 : decode cX11_sized 11 = .ok (.iload_n 2, 1) := by decide +kernel
theorem dX11_sized_12 : decode cX11_sized 12 = .ok (.invokestatic 147, 3) := by decide +kernel
theorem dX11_sized_15 : decode cX11_sized 15 = .ok (.ifCond .eq 13, 3) := by decide +kernel
theorem dX11_sized_18 : decode cX11_sized 18 = .ok (.iload 4, 2) := by decide +kernel
theorem dX11_sized_20 : decode cX11_sized 20 = .ok (.iconst 0, 1) := by decide +kernel
theorem dX11_sized_21 : decode cX11_sized 21 = .ok (.iconst 2, 1) := by decide +kernel
theorem dX11_sized_22 : decode cX11_sized 22 = .ok (.invokestatic 93, 3) := by decide +kernel
theorem dX11_sized_25 : decode cX11_sized 25 = .ok (.ifCond .ne 5, 3) := by decide +kernel
theorem dX11_sized_28 : decode cX11_sized 28 = .ok (.iconst (-1), 1) := by decide +kernel
theorem dX11_sized_29 : decode cX11_sized 29 = .ok (.ireturn, 1) := by decide +kernel
theorem dX11_sized_30 : decode cX11_sized 30 = .ok (.iload 4, 2) := by decide +kernel
theorem dX11_sized_32 : decode cX11_sized 32 = .ok (.iconst 2, 1) := by decide +kernel
theorem dX11_sized_33 : decode cX11_sized 33 = .ok (.if_icmp .ne 10, 3) := by decide +kernel
theorem dX11_sized_36 : decode cX11_sized 36 = .ok (.aload_n 0, 1) := by decide +kernel
theorem dX11_sized_37 : decode cX11_sized 37 = .ok (.iload_n 1, 1) := by decide +kernel
theorem dX11_sized_38 : decode cX11_sized 38 = .ok (.iload_n 2, 1) := by decide +kernel
theorem dX11_sized_39 : decode cX11_sized 39 = .ok (.invokevirtual 163, 3) := by decide +kernel
theorem dX11_sized_42 : decode cX11_sized 42 = .ok (.ireturn, 1) := by decide +kernel
theorem dX11_sized_43 : decode cX11_sized 43 = .ok (.iload_n 3, 1) := by decide +kernel
theorem dX11_sized_44 : decode cX11_sized 44 = .ok (.iconst 0, 1) := by decide +kernel
theorem dX11_sized_45 : decode cX11_sized 45 = .ok (.bipush 50, 2) := by decide +kernel
theorem dX11_sized_47 : decode cX11_sized 47 = .ok (.invokestatic 93, 3) := by decide +kernel
theorem dX11_sized_50 : decode cX11_sized 50 = .ok (.ifCond .ne 5, 3) := by decide +kernel
theorem dX11_sized_53 : decode cX11_sized 53 = .ok (.iconst (-1), 1) := by decide +kernel
theorem dX11_sized_54 : decode cX11_sized 54 = .ok (.ireturn, 1) := by decide +kernel
theorem dX11_sized_55 : decode cX11_sized 55 = .ok (.iconst 0, 1) := by decide +kernel
theorem dX11_sized_56 : decode cX11_sized 56 = .ok (.istore 5, 2) := by decide +kernel
theorem dX11_sized_58 : decode cX11_sized 58 = .ok (.bipush (-4), 2) := by decide +kernel
theorem dX11_sized_60 : decode cX11_sized 60 = .ok (.istore 6, 2) := by decide +kernel
theorem dX11_sized_62 : decode cX11_sized 62 = .ok (.aload_n 0, 1) := by decide +kernel
theorem dX11_sized_63 : decode cX11_sized 63 = .ok (.getfield 26, 3) := by decide +kernel
theorem dX11_sized_66 : decode cX11_sized 66 = .ok (.getfield 166, 3) := by decide +kernel
theorem dX11_sized_69 : decode cX11_sized 69 = .ok (.iconst 1, 1) := by decide +kernel
theorem dX11_sized_70 : decode cX11_sized 70 = .ok (.isub, 1) := by decide +kernel
theorem dX11_sized_71 : decode cX11_sized 71 = .ok (.istore 7, 2) := by decide +kernel
theorem dX11_sized_73 : decode cX11_sized 73 = .ok (.iload 7, 2) := by decide +kernel
theorem dX11_sized_75 : decode cX11_sized 75 = .ok (.ifCond .lt 40, 3) := by decide +kernel
theorem dX11_sized_78 : decode cX11_sized 78 = .ok (.aload_n 0, 1) := by decide +kernel
theorem dX11_sized_79 : decode cX11_sized 79 = .ok (.getfield 26, 3) := by decide +kernel
theorem dX11_sized_82 : decode cX11_sized 82 = .ok (.iload 7, 2) := by decide +kernel
theorem dX11_sized_84 : decode cX11_sized 84 = .ok (.iload_n 2, 1) := by decide +kernel
theorem dX11_sized_85 : decode cX11_sized 85 = .ok (.invokevirtual 169, 3) := by decide +kernel
theorem dX11_sized_88 : decode cX11_sized 88 = .ok (.ifCond .eq 21, 3) := by decide +kernel
theorem dX11_sized_91 : decode cX11_sized 91 = .ok (.aload_n 0, 1) := by decide +kernel
theorem dX11_sized_92 : decode cX11_sized 92 = .ok (.iload 7, 2) := by decide +kernel
theorem dX11_sized_94 : decode cX11_sized 94 = .ok (.iload_n 1, 1) := by decide +kernel
theorem dX11_sized_95 : decode cX11_sized 95 = .ok (.invokevirtual 160, 3) := by decide +kernel
theorem dX11_sized_98 : decode cX11_sized 98 = .ok (.iload_n 3, 1) := by decide +kernel
theorem dX11_sized_99 : decode cX11_sized 99 = .ok (.if_icmp .gt 10, 3) := by decide +kernel
theorem dX11_sized_102 : decode cX11_sized 102 = .ok (.iinc 5 1, 3) := by decide +kernel
theorem dX11_sized_105 : decode cX11_sized 105 = .ok (.iload 7, 2) := by decide +kernel
theorem dX11_sized_107 : decode cX11_sized 107 = .ok (.istore 6, 2) := by decide +kernel
theorem dX11_sized_109 : decode cX11_sized 109 = .ok (.iinc 7 (-1), 3) := by decide +kernel
theorem dX11_sized_112 : decode cX11_sized 112 = .ok (.goto (-39), 3) := by decide +kernel
theorem dX11_sized_115 : decode cX11_sized 115 = .ok (.iload 4, 2) := by decide +kernel
theorem dX11_sized_117 : decode cX11_sized 117 = .ok (.ifCond .ne 8, 3) := by decide +kernel
theorem dX11_sized_120 : decode cX11_sized 120 = .ok (.iload 5, 2) := by decide +kernel
theorem dX11_sized_122 : decode cX11_sized 122 = .ok (.goto 5, 3) := by decide +kernel
theorem dX11_sized_125 : decode cX11_sized 125 = .ok (.iload 6, 2) := by decide +kernel
theorem dX11_sized_127 : decode cX11_sized 127 = .ok (.ireturn, 1) := by decide +kernel
theorem dX11_chosen_0 : decode cX11_chosen 0 = .ok (.iload_n 1, 1) := by decide +kernel
theorem dX11_chosen_1 : decode cX11_chosen 1 = .ok (.invokestatic 147, 3) := by decide +kernel
theorem dX11_chosen_4 : decode cX11_chosen 4 = .ok (.ifCond .eq 22, 3) := by decide +kernel
theorem dX11_chosen_7 : decode cX11_chosen 7 = .ok (.iload_n 2, 1) := by decide +kernel
theorem dX11_chosen_8 : decode cX11_chosen 8 = .ok (.iconst 0, 1) := by decide +kernel
theorem dX11_chosen_9 : decode cX11_chosen 9 = .ok (.bipush 10, 2) := by decide +kernel
theorem dX11_chosen_11 : decode cX11_chosen 11 = .ok (.invokestatic 93, 3) := by decide +kernel
theorem dX11_chosen_14 : decode cX11_chosen 14 = .ok (.ifCond .eq 12, 3) := by decide +kernel
theorem dX11_chosen_17 : decode cX11_chosen 17 = .ok (.iload_n 3, 1) := by decide +kernel
theorem dX11_chosen_18 : decode cX11_chosen 18 = .ok (.iconst 0, 1) := by decide +kernel
theorem dX11_chosen_19 : decode cX11_chosen 19 = .ok (.iconst 2, 1) := by decide +kernel
theorem dX11_chosen_20 : decode cX11_chosen 20 = .ok (.invokestatic 93, 3) := by decide +kernel
theorem dX11_chosen_23 : decode cX11_chosen 23 = .ok (.ifCond .ne 5, 3) := by decide +kernel
theorem dX11_chosen_26 : decode cX11_chosen 26 = .ok (.iconst (-1), 1) := by decide +kernel
theorem dX11_chosen_27 : decode cX11_chosen 27 = .ok (.ireturn, 1) := by decide +kernel
theorem dX11_chosen_28 : decode cX11_chosen 28 = .ok (.aload_n 0, 1) := by decide +kernel
theorem dX11_chosen_29 : decode cX11_chosen 29 = .ok (.getfield 71, 3) := by decide +kernel
theorem dX11_chosen_32 : decode cX11_chosen 32 = .ok (.invokevirtual 172, 3) := by decide +kernel
theorem dX11_chosen_35 : decode cX11_chosen 35 = .ok (.iconst 0, 1) := by decide +kernel
theorem dX11_chosen_36 : decode cX11_chosen 36 = .ok (.istore 4, 2) := by decide +kernel
theorem dX11_chosen_38 : decode cX11_chosen 38 = .ok (.iload 4, 2) := by decide +kernel
theorem dX11_chosen_40 : decode cX11_chosen 40 = .ok (.aload_n 0, 1) := by decide +kernel
theorem dX11_chosen_41 : decode cX11_chosen 41 = .ok (.getfield 26, 3) := by decide +kernel
theorem dX11_chosen_44 : decode cX11_chosen 44 = .ok (.getfield 166, 3) := by decide +kernel
theorem dX11_chosen_47 : decode cX11_chosen 47 = .ok (.if_icmp .ge 43, 3) := by decide +kernel
theorem dX11_chosen_50 : decode cX11_chosen 50 = .ok (.aload_n 0, 1) := by decide +kernel
theorem dX11_chosen_51 : decode cX11_chosen 51 = .ok (.getfield 26, 3) := by decide +kernel
theorem dX11_chosen_54 : decode cX11_chosen 54 = .ok (.iload 4, 2) := by decide +kernel
theorem dX11_chosen_56 : decode cX11_chosen 56 = .ok (.iload_n 1, 1) := by decide +kernel
theorem dX11_chosen_57 : decode cX11_chosen 57 = .ok (.invokevirtual 169, 3) := by decide +kernel
theorem dX11_chosen_60 : decode cX11_chosen 60 = .ok (.ifCond .eq 24, 3) := by decide +kernel
theorem dX11_chosen_63 : decode cX11_chosen 63 = .ok (.aload_n 0, 1) := by decide +kernel
theorem dX11_chosen_64 : decode cX11_chosen 64 = .ok (.getfield 71, 3) := by decide +kernel
theorem dX11_chosen_67 : decode cX11_chosen 67 = .ok (.iload 4, 2) := by decide +kernel
theorem dX11_chosen_69 : decode cX11_chosen 69 = .ok (.aload_n 0, 1) := by decide +kernel
theorem dX11_chosen_70 : decode cX11_chosen 70 = .ok (.iload 4, 2) := by decide +kernel
theorem dX11_chosen_72 : decode cX11_chosen 72 = .ok (.invokevirtual 175, 3) := by decide +kernel
theorem dX11_chosen_75 : decode cX11_chosen 75 = .ok (.invokevirtual 178, 3) := by decide +kernel
theorem dX11_chosen_78 : decode cX11_chosen 78 = .ok (.ifCond .ne 6, 3) := by decide +kernel
theorem dX11_chosen_81 : decode cX11_chosen 81 = .ok (.bipush (-2), 2) := by decide +kernel
theorem dX11_chosen_83 : decode cX11_chosen 83 = .ok (.ireturn, 1) := by decide +kernel
theorem dX11_chosen_84 : decode cX11_chosen 84 = .ok (.iinc 4 1, 3) := by decide +kernel
theorem dX11_chosen_87 : decode cX11_chosen 87 = .ok (.goto (-49), 3) := by decide +kernel
theorem dX11_chosen_90 : decode cX11_chosen 90 = .ok (.aload_n 0, 1) := by decide +kernel
theorem dX11_chosen_91 : decode cX11_chosen 91 = .ok (.getfield 71, 3) := by decide +kernel
theorem dX11_chosen_94 : decode cX11_chosen 94 = .ok (.iload_n 2, 1) := by decide +kernel
theorem dX11_chosen_95 : decode cX11_chosen 95 = .ok (.invokevirtual 181, 3) := by decide +kernel
theorem dX11_chosen_98 : decode cX11_chosen 98 = .ok (.iload_n 3, 1) := by decide +kernel
theorem dX11_chosen_99 : decode cX11_chosen 99 = .ok (.ifCond .ne 14, 3) := by decide +kernel
theorem dX11_chosen_102 : decode cX11_chosen 102 = .ok (.aload_n 0, 1) := by decide +kernel
theorem dX11_chosen_103 : decode cX11_chosen 103 = .ok (.getfield 71, 3) := by decide +kernel
theorem dX11_chosen_106 : decode cX11_chosen 106 = .ok (.getfield 185, 3) := by decide +kernel
theorem dX11_chosen_109 : decode cX11_chosen 109 = .ok (.invokestatic 188, 3) := by decide +kernel
theorem dX11_chosen_112 : decode cX11_chosen 112 = .ok (.ireturn, 1) := by decide +kernel
theorem dX11_chosen_113 : decode cX11_chosen 113 = .ok (.iload_n 3, 1) := by decide +kernel
theorem dX11_chosen_114 : decode cX11_chosen 114 = .ok (.iconst 1, 1) := by decide +kernel
theorem dX11_chosen_115 : decode cX11_chosen 115 = .ok (.if_icmp .ne 13, 3) := by decide +kernel
theorem dX11_chosen_118 : decode cX11_chosen 118 = .ok (.aload_n 0, 1) := by decide +kernel
theorem dX11_chosen_119 : decode cX11_chosen 119 = .ok (.getfield 71, 3) := by decide +kernel
theorem dX11_chosen_122 : decode cX11_chosen 122 = .ok (.invokevirtual 193, 3) := by decide +kernel
theorem dX11_chosen_125 : decode cX11_chosen 125 = .ok (.goto 20, 3) := by decide +kernel
theorem dX11_chosen_128 : decode cX11_chosen 128 = .ok (.aload_n 0, 1) := by decide +kernel
theorem dX11_chosen_129 : decode cX11_chosen 129 = .ok (.getfield 10, 3) := by decide +kernel
theorem dX11_chosen_132 : decode cX11_chosen 132 = .ok (.invokevirtual 197, 3) := by decide +kernel
theorem dX11_chosen_135 : decode cX11_chosen 135 = .ok (.aload_n 0, 1) := by decide +kernel
theorem dX11_chosen_136 : decode cX11_chosen 136 = .ok (.getfield 71, 3) := by decide +kernel
theorem dX11_chosen_139 : decode cX11_chosen 139 = .ok (.getfield 185, 3) := by decide +kernel
theorem dX11_chosen_142 : decode cX11_chosen 142 = .ok (.iconst (-1), 1) := by decide +kernel
theorem dX11_chosen_143 : decode cX11_chosen 143 = .ok (.ixor, 1) := by decide +kernel
theorem dX11_chosen_144 : decode cX11_chosen 144 = .ok (.iand, 1) := by decide +kernel
theorem dX11_chosen_145 : decode cX11_chosen 145 = .ok (.ireturn, 1) := by decide +kernel
theorem dX11_feed_0 : decode cX11_feed 0 = .ok (.aload_n 0, 1) := by decide +kernel
theorem dX11_feed_1 : decode cX11_feed 1 = .ok (.getfield 33, 3) := by decide +kernel
theorem dX11_feed_4 : decode cX11_feed 4 = .ok (.lload_n 1, 1) := by decide +kernel
theorem dX11_feed_5 : decode cX11_feed 5 = .ok (.invokevirtual 200, 3) := by decide +kernel
theorem dX11_feed_8 : decode cX11_feed 8 = .ok (.ireturn, 1) := by decide +kernel
theorem dX11_end_0 : decode cX11_end 0 = .ok (.iload_n 1, 1) := by decide +kernel
theorem dX11_end_1 : decode cX11_end 1 = .ok (.iconst 0, 1) := by decide +kernel
theorem dX11_end_2 : decode cX11_end 2 = .ok (.aload_n 0, 1) := by decide +kernel
theorem dX11_end_3 : decode cX11_end 3 = .ok (.getfield 33, 3) := by decide +kernel
theorem dX11_end_6 : decode cX11_end 6 = .ok (.getfield 203, 3) := by decide +kernel
theorem dX11_end_9 : decode cX11_end 9 = .ok (.invokestatic 93, 3) := by decide +kernel
theorem dX11_end_12 : decode cX11_end 12 = .ok (.ifCond .ne 5, 3) := by decide +kernel
theorem dX11_end_15 : decode cX11_end 15 = .ok (.iconst (-1), 1) := by decide +kernel
theorem dX11_end_16 : decode cX11_end 16 = .ok (.ireturn, 1) := by decide +kernel
theorem dX11_end_17 : decode cX11_end 17 = .ok (.aload_n 0, 1) := by decide +kernel
theorem dX11_end_18 : decode cX11_end 18 = .ok (.getfield 33, 3) := by decide +kernel
theorem dX11_end_21 : decode cX11_end 21 = .ok (.getfield 203, 3) := by decide +kernel
theorem dX11_end_24 : decode cX11_end 24 = .ok (.istore_n 2, 1) := by decide +kernel
theorem dX11_end_25 : decode cX11_end 25 = .ok (.aload_n 0, 1) := by decide +kernel
theorem dX11_end_26 : decode cX11_end 26 = .ok (.getfield 33, 3) := by decide +kernel
theorem dX11_end_29 : decode cX11_end 29 = .ok (.iload_n 1, 1) := by decide +kernel
theorem dX11_end_30 : decode cX11_end 30 = .ok (.putfield 203, 3) := by decide +kernel
theorem dX11_end_33 : decode cX11_end 33 = .ok (.iload_n 2, 1) := by decide +kernel
theorem dX11_end_34 : decode cX11_end 34 = .ok (.ireturn, 1) := by decide +kernel
theorem dX11_text_0 : decode cX11_text 0 = .ok (.aload_n 0, 1) := by decide +kernel
theorem dX11_text_1 : decode cX11_text 1 = .ok (.getfield 33, 3) := by decide +kernel
theorem dX11_text_4 : decode cX11_text 4 = .ok (.invokevirtual 206, 3) := by decide +kernel
theorem dX11_text_7 : decode cX11_text 7 = .ok (.aload_n 0, 1) := by decide +kernel
theorem dX11_text_8 : decode cX11_text 8 = .ok (.getfield 33, 3) := by decide +kernel
theorem dX11_text_11 : decode cX11_text 11 = .ok (.iconst 0, 1) := by decide +kernel
theorem dX11_text_12 : decode cX11_text 12 = .ok (.putfield 203, 3) := by decide +kernel
theorem dX11_text_15 : decode cX11_text 15 = .ok (.aload_n 0, 1) := by decide +kernel
theorem dX11_text_16 : decode cX11_text 16 = .ok (.getfield 51, 3) := by decide +kernel
theorem dX11_text_19 : decode cX11_text 19 = .ok (.iconst 0, 1) := by decide +kernel
theorem dX11_text_20 : decode cX11_text 20 = .ok (.putfield 209, 3) := by decide +kernel
theorem dX11_text_23 : decode cX11_text 23 = .ok (.aload_n 0, 1) := by decide +kernel
theorem dX11_text_24 : decode cX11_text 24 = .ok (.aload_n 0, 1) := by decide +kernel
theorem dX11_text_25 : decode cX11_text 25 = .ok (.getfield 40, 3) := by decide +kernel
theorem dX11_text_28 : decode cX11_text 28 = .ok (.aload_n 0, 1) := by decide +kernel
theorem dX11_text_29 : decode cX11_text 29 = .ok (.getfield 33, 3) := by decide +kernel
theorem dX11_text_32 : decode cX11_text 32 = .ok (.aload_n 0, 1) := by decide +kernel
theorem dX11_text_33 : decode cX11_text 33 = .ok (.getfield 51, 3) := by decide +kernel
theorem dX11_text_36 : decode cX11_text 36 = .ok (.invokevirtual 212, 3) := by decide +kernel
theorem dX11_text_39 : decode cX11_text 39 = .ok (.putfield 216, 3) := by decide +kernel
theorem dX11_text_42 : decode cX11_text 42 = .ok (.aload_n 0, 1) := by decide +kernel
theorem dX11_text_43 : decode cX11_text 43 = .ok (.getfield 216, 3) := by decide +kernel
theorem dX11_text_46 : decode cX11_text 46 = .ok (.ifCond .eq 14, 3) := by decide +kernel
theorem dX11_text_49 : decode cX11_text 49 = .ok (.bipush (-10), 2) := by decide +kernel
theorem dX11_text_51 : decode cX11_text 51 = .ok (.aload_n 0, 1) := by decide +kernel
theorem dX11_text_52 : decode cX11_text 52 = .ok (.getfield 40, 3) := by decide +kernel
theorem dX11_text_55 : decode cX11_text 55 = .ok (.getfield 219, 3) := by decide +kernel
theorem dX11_text_58 : decode cX11_text 58 = .ok (.isub, 1) := by decide +kernel
theorem dX11_text_59 : decode cX11_text 59 = .ok (.ireturn, 1) := by decide +kernel
theorem dX11_text_60 : decode cX11_text 60 = .ok (.aload_n 0, 1) := by decide +kernel
theorem dX11_text_61 : decode cX11_text 61 = .ok (.getfield 47, 3) := by decide +kernel
theorem dX11_text_64 : decode cX11_text 64 = .ok (.astore_n 1, 1) := by decide +kernel
theorem dX11_text_65 : decode cX11_text 65 = .ok (.aload_n 0, 1) := by decide +kernel
theorem dX11_text_66 : decode cX11_text 66 = .ok (.aload_n 0, 1) := by decide +kernel
theorem dX11_text_67 : decode cX11_text 67 = .ok (.getfield 51, 3) := by decide +kernel
theorem dX11_text_70 : decode cX11_text 70 = .ok (.putfield 47, 3) := by decide +kernel
theorem dX11_text_73 : decode cX11_text 73 = .ok (.aload_n 0, 1) := by decide +kernel
theorem dX11_text_74 : decode cX11_text 74 = .ok (.aload_n 1, 1) := by decide +kernel
theorem dX11_text_75 : decode cX11_text 75 = .ok (.putfield 51, 3) := by decide +kernel
theorem dX11_text_78 : decode cX11_text 78 = .ok (.aload_n 0, 1) := by decide +kernel
theorem dX11_text_79 : decode cX11_text 79 = .ok (.getfield 47, 3) := by decide +kernel
theorem dX11_text_82 : decode cX11_text 82 = .ok (.getfield 209, 3) := by decide +kernel
theorem dX11_text_85 : decode cX11_text 85 = .ok (.ireturn, 1) := by decide +kernel
theorem dX11_fault_0 : decode cX11_fault 0 = .ok (.aload_n 0, 1) := by decide +kernel
theorem dX11_fault_1 : decode cX11_fault 1 = .ok (.getfield 216, 3) := by decide +kernel
theorem dX11_fault_4 : decode cX11_fault 4 = .ok (.ireturn, 1) := by decide +kernel
theorem dX11_due_0 : decode cX11_due 0 = .ok (.aload_n 0, 1) := by decide +kernel
theorem dX11_due_1 : decode cX11_due 1 = .ok (.getfield 10, 3) := by decide +kernel
theorem dX11_due_4 : decode cX11_due 4 = .ok (.iload_n 1, 1) := by decide +kernel
theorem dX11_due_5 : decode cX11_due 5 = .ok (.invokevirtual 105, 3) := by decide +kernel
theorem dX11_due_8 : decode cX11_due 8 = .ok (.ifCond .eq 17, 3) := by decide +kernel
theorem dX11_due_11 : decode cX11_due 11 = .ok (.iload_n 2, 1) := by decide +kernel
theorem dX11_due_12 : decode cX11_due 12 = .ok (.invokestatic 147, 3) := by decide +kernel
theorem dX11_due_15 : decode cX11_due 15 = .ok (.ifCond .eq 10, 3) := by decide +kernel
theorem dX11_due_18 : decode cX11_due 18 = .ok (.iload_n 3, 1) := by decide +kernel
theorem dX11_due_19 : decode cX11_due 19 = .ok (.invokestatic 119, 3) := by decide +kernel
theorem dX11_due_22 : decode cX11_due 22 = .ok (.ifCond .ne 5, 3) := by decide +kernel
theorem dX11_due_25 : decode cX11_due 25 = .ok (.iconst (-1), 1) := by decide +kernel
theorem dX11_due_26 : decode cX11_due 26 = .ok (.ireturn, 1) := by decide +kernel
theorem dX11_due_27 : decode cX11_due 27 = .ok (.aload_n 0, 1) := by decide +kernel
theorem dX11_due_28 : decode cX11_due 28 = .ok (.iload_n 1, 1) := by decide +kernel
theorem dX11_due_29 : decode cX11_due 29 = .ok (.iload_n 2, 1) := by decide +kernel
theorem dX11_due_30 : decode cX11_due 30 = .ok (.iload_n 3, 1) := by decide +kernel
theorem dX11_due_31 : decode cX11_due 31 = .ok (.invokevirtual 144, 3) := by decide +kernel
theorem dX11_due_34 : decode cX11_due 34 = .ok (.ireturn, 1) := by decide +kernel
theorem dX11_why_0 : decode cX11_why 0 = .ok (.aload_n 0, 1) := by decide +kernel
theorem dX11_why_1 : decode cX11_why 1 = .ok (.getfield 10, 3) := by decide +kernel
theorem dX11_why_4 : decode cX11_why 4 = .ok (.iload_n 1, 1) := by decide +kernel
theorem dX11_why_5 : decode cX11_why 5 = .ok (.invokevirtual 105, 3) := by decide +kernel
theorem dX11_why_8 : decode cX11_why 8 = .ok (.ifCond .eq 17, 3) := by decide +kernel
theorem dX11_why_11 : decode cX11_why 11 = .ok (.iload_n 2, 1) := by decide +kernel
theorem dX11_why_12 : decode cX11_why 12 = .ok (.invokestatic 147, 3) := by decide +kernel
theorem dX11_why_15 : decode cX11_why 15 = .ok (.ifCond .eq 10, 3) := by decide +kernel
theorem dX11_why_18 : decode cX11_why 18 = .ok (.iload_n 3, 1) := by decide +kernel
theorem dX11_why_19 : decode cX11_why 19 = .ok (.invokestatic 119, 3) := by decide +kernel
theorem dX11_why_22 : decode cX11_why 22 = .ok (.ifCond .ne 5, 3) := by decide +kernel
theorem dX11_why_25 : decode cX11_why 25 = .ok (.iconst (-1), 1) := by decide +kernel
theorem dX11_why_26 : decode cX11_why 26 = .ok (.ireturn, 1) := by decide +kernel
theorem dX11_why_27 : decode cX11_why 27 = .ok (.aload_n 0, 1) := by decide +kernel
theorem dX11_why_28 : decode cX11_why 28 = .ok (.getfield 47, 3) := by decide +kernel
theorem dX11_why_31 : decode cX11_why 31 = .ok (.aload_n 0, 1) := by decide +kernel
theorem dX11_why_32 : decode cX11_why 32 = .ok (.getfield 10, 3) := by decide +kernel
theorem dX11_why_35 : decode cX11_why 35 = .ok (.getfield 109, 3) := by decide +kernel
theorem dX11_why_38 : decode cX11_why 38 = .ok (.iload_n 1, 1) := by decide +kernel
theorem dX11_why_39 : decode cX11_why 39 = .ok (.aaload, 1) := by decide +kernel
theorem dX11_why_40 : decode cX11_why 40 = .ok (.iload_n 2, 1) := by decide +kernel
theorem dX11_why_41 : decode cX11_why 41 = .ok (.iload_n 3, 1) := by decide +kernel
theorem dX11_why_42 : decode cX11_why 42 = .ok (.invokevirtual 222, 3) := by decide +kernel
theorem dX11_why_45 : decode cX11_why 45 = .ok (.ireturn, 1) := by decide +kernel
theorem dX11_rule_0 : decode cX11_rule 0 = .ok (.iload_n 1, 1) := by decide +kernel
theorem dX11_rule_1 : decode cX11_rule 1 = .ok (.invokestatic 147, 3) := by decide +kernel
theorem dX11_rule_4 : decode cX11_rule 4 = .ok (.ifCond .eq 19, 3) := by decide +kernel
theorem dX11_rule_7 : decode cX11_rule 7 = .ok (.iload_n 2, 1) := by decide +kernel
theorem dX11_rule_8 : decode cX11_rule 8 = .ok (.iconst 0, 1) := by decide +kernel
theorem dX11_rule_9 : decode cX11_rule 9 = .ok (.iconst 1, 1) := by decide +kernel
theorem dX11_rule_10 : decode cX11_rule 10 = .ok (.invokestatic 93, 3) := by decide +kernel
theorem dX11_rule_13 : decode cX11_rule 13 = .ok (.ifCond .eq 10, 3) := by decide +kernel
theorem dX11_rule_16 : decode cX11_rule 16 = .ok (.iload_n 3, 1) := by decide +kernel
theorem dX11_rule_17 : decode cX11_rule 17 = .ok (.invokestatic 119, 3) := by decide +kernel
theorem dX11_rule_20 : decode cX11_rule 20 = .ok (.ifCond .ne 5, 3) := by decide +kernel
theorem dX11_rule_23 : decode cX11_rule 23 = .ok (.iconst (-1), 1) := by decide +kernel
theorem dX11_rule_24 : decode cX11_rule 24 = .ok (.ireturn, 1) := by decide +kernel
theorem dX11_rule_25 : decode cX11_rule 25 = .ok (.iload_n 2, 1) := by decide +kernel
theorem dX11_rule_26 : decode cX11_rule 26 = .ok (.ifCond .ne 12, 3) := by decide +kernel
theorem dX11_rule_29 : decode cX11_rule 29 = .ok (.aload_n 0, 1) := by decide +kernel
theorem dX11_rule_30 : decode cX11_rule 30 = .ok (.iload_n 1, 1) := by decide +kernel
theorem dX11_rule_31 : decode cX11_rule 31 = .ok (.iload_n 3, 1) := by decide +kernel
theorem dX11_rule_32 : decode cX11_rule 32 = .ok (.invokevirtual 226, 3) := by decide +kernel
theorem dX11_rule_35 : decode cX11_rule 35 = .ok (.goto 9, 3) := by decide +kernel
theorem dX11_rule_38 : decode cX11_rule 38 = .ok (.aload_n 0, 1) := by decide +kernel
theorem dX11_rule_39 : decode cX11_rule 39 = .ok (.iload_n 1, 1) := by decide +kernel
theorem dX11_rule_40 : decode cX11_rule 40 = .ok (.iload_n 3, 1) := by decide +kernel
theorem dX11_rule_41 : decode cX11_rule 41 = .ok (.invokevirtual 229, 3) := by decide +kernel
theorem dX11_rule_44 : decode cX11_rule 44 = .ok (.ireturn, 1) := by decide +kernel
theorem dX11_store_0 : decode cX11_store 0 = .ok (.aload_n 0, 1) := by decide +kernel
theorem dX11_store_1 : decode cX11_store 1 = .ok (.getfield 57, 3) := by decide +kernel
theorem dX11_store_4 : decode cX11_store 4 = .ok (.invokevirtual 232, 3) := by decide +kernel
theorem dX11_store_7 : decode cX11_store 7 = .ok (.ireturn, 1) := by decide +kernel
theorem dX11_road_0 : decode cX11_road 0 = .ok (.aload_n 0, 1) := by decide +kernel
theorem dX11_road_1 : decode cX11_road 1 = .ok (.getfield 57, 3) := by decide +kernel
theorem dX11_road_4 : decode cX11_road 4 = .ok (.iload_n 1, 1) := by decide +kernel
theorem dX11_road_5 : decode cX11_road 5 = .ok (.invokevirtual 234, 3) := by decide +kernel
theorem dX11_road_8 : decode cX11_road 8 = .ok (.ifCond .eq 29, 3) := by decide +kernel
theorem dX11_road_11 : decode cX11_road 11 = .ok (.aload_n 0, 1) := by decide +kernel
theorem dX11_road_12 : decode cX11_road 12 = .ok (.getfield 57, 3) := by decide +kernel
theorem dX11_road_15 : decode cX11_road 15 = .ok (.iload_n 2, 1) := by decide +kernel
theorem dX11_road_16 : decode cX11_road 16 = .ok (.invokevirtual 234, 3) := by decide +kernel
theorem dX11_road_19 : decode cX11_road 19 = .ok (.ifCond .eq 18, 3) := by decide +kernel
theorem dX11_road_22 : decode cX11_road 22 = .ok (.iload_n 1, 1) := by decide +kernel
theorem dX11_road_23 : decode cX11_road 23 = .ok (.iload_n 2, 1) := by decide +kernel
theorem dX11_road_24 : decode cX11_road 24 = .ok (.if_icmp .eq 13, 3) := by decide +kernel
theorem dX11_road_27 : decode cX11_road 27 = .ok (.iload_n 3, 1) := by decide +kernel
theorem dX11_road_28 : decode cX11_road 28 = .ok (.iconst 0, 1) := by decide +kernel
theorem dX11_road_29 : decode cX11_road 29 = .ok (.bipush 99, 2) := by decide +kernel
theorem dX11_road_31 : decode cX11_road 31 = .ok (.invokestatic 93, 3) := by decide +kernel
theorem dX11_road_34 : decode cX11_road 34 = .ok (.ifCond .ne 5, 3) := by decide +kernel
theorem dX11_road_37 : decode cX11_road 37 = .ok (.iconst (-1), 1) := by decide +kernel
theorem dX11_road_38 : decode cX11_road 38 = .ok (.ireturn, 1) := by decide +kernel
theorem dX11_road_39 : decode cX11_road 39 = .ok (.aload_n 0, 1) := by decide +kernel
theorem dX11_road_40 : decode cX11_road 40 = .ok (.getfield 57, 3) := by decide +kernel
theorem dX11_road_43 : decode cX11_road 43 = .ok (.getfield 235, 3) := by decide +kernel
theorem dX11_road_46 : decode cX11_road 46 = .ok (.iload_n 1, 1) := by decide +kernel
theorem dX11_road_47 : decode cX11_road 47 = .ok (.aaload, 1) := by decide +kernel
theorem dX11_road_48 : decode cX11_road 48 = .ok (.iload_n 2, 1) := by decide +kernel
theorem dX11_road_49 : decode cX11_road 49 = .ok (.iaload, 1) := by decide +kernel
theorem dX11_road_50 : decode cX11_road 50 = .ok (.istore 4, 2) := by decide +kernel
theorem dX11_road_52 : decode cX11_road 52 = .ok (.aload_n 0, 1) := by decide +kernel
theorem dX11_road_53 : decode cX11_road 53 = .ok (.getfield 57, 3) := by decide +kernel
theorem dX11_road_56 : decode cX11_road 56 = .ok (.getfield 235, 3) := by decide +kernel
theorem dX11_road_59 : decode cX11_road 59 = .ok (.iload_n 1, 1) := by decide +kernel
theorem dX11_road_60 : decode cX11_road 60 = .ok (.aaload, 1) := by decide +kernel
theorem dX11_road_61 : decode cX11_road 61 = .ok (.iload_n 2, 1) := by decide +kernel
theorem dX11_road_62 : decode cX11_road 62 = .ok (.iload_n 3, 1) := by decide +kernel
theorem dX11_road_63 : decode cX11_road 63 = .ok (.iastore, 1) := by decide +kernel
theorem dX11_road_64 : decode cX11_road 64 = .ok (.aload_n 0, 1) := by decide +kernel
theorem dX11_road_65 : decode cX11_road 65 = .ok (.getfield 57, 3) := by decide +kernel
theorem dX11_road_68 : decode cX11_road 68 = .ok (.getfield 235, 3) := by decide +kernel
theorem dX11_road_71 : decode cX11_road 71 = .ok (.iload_n 2, 1) := by decide +kernel
theorem dX11_road_72 : decode cX11_road 72 = .ok (.aaload, 1) := by decide +kernel
theorem dX11_road_73 : decode cX11_road 73 = .ok (.iload_n 1, 1) := by decide +kernel
theorem dX11_road_74 : decode cX11_road 74 = .ok (.iload_n 3, 1) := by decide +kernel
theorem dX11_road_75 : decode cX11_road 75 = .ok (.iastore, 1) := by decide +kernel
theorem dX11_road_76 : decode cX11_road 76 = .ok (.iload 4, 2) := by decide +kernel
theorem dX11_road_78 : decode cX11_road 78 = .ok (.ireturn, 1) := by decide +kernel
theorem dX11_piece_0 : decode cX11_piece 0 = .ok (.aload_n 0, 1) := by decide +kernel
theorem dX11_piece_1 : decode cX11_piece 1 = .ok (.getfield 57, 3) := by decide +kernel
theorem dX11_piece_4 : decode cX11_piece 4 = .ok (.iload_n 1, 1) := by decide +kernel
theorem dX11_piece_5 : decode cX11_piece 5 = .ok (.invokevirtual 234, 3) := by decide +kernel
theorem dX11_piece_8 : decode cX11_piece 8 = .ok (.ifCond .eq 29, 3) := by decide +kernel
theorem dX11_piece_11 : decode cX11_piece 11 = .ok (.aload_n 0, 1) := by decide +kernel
theorem dX11_piece_12 : decode cX11_piece 12 = .ok (.getfield 26, 3) := by decide +kernel
theorem dX11_piece_15 : decode cX11_piece 15 = .ok (.iload_n 2, 1) := by decide +kernel
theorem dX11_piece_16 : decode cX11_piece 16 = .ok (.invokevirtual 159, 3) := by decide +kernel
theorem dX11_piece_19 : decode cX11_piece 19 = .ok (.ifCond .eq 18, 3) := by decide +kernel
theorem dX11_piece_22 : decode cX11_piece 22 = .ok (.iload_n 3, 1) := by decide +kernel
theorem dX11_piece_23 : decode cX11_piece 23 = .ok (.invokestatic 238, 3) := by decide +kernel
theorem dX11_piece_26 : decode cX11_piece 26 = .ok (.ifCond .eq 11, 3) := by decide +kernel
theorem dX11_piece_29 : decode cX11_piece 29 = .ok (.iload 4, 2) := by decide +kernel
theorem dX11_piece_31 : decode cX11_piece 31 = .ok (.invokestatic 241, 3) := by decide +kernel
theorem dX11_piece_34 : decode cX11_piece 34 = .ok (.ifCond .ne 5, 3) := by decide +kernel
theorem dX11_piece_37 : decode cX11_piece 37 = .ok (.iconst (-1), 1) := by decide +kernel
theorem dX11_piece_38 : decode cX11_piece 38 = .ok (.ireturn, 1) := by decide +kernel
theorem dX11_piece_39 : decode cX11_piece 39 = .ok (.aload_n 0, 1) := by decide +kernel
theorem dX11_piece_40 : decode cX11_piece 40 = .ok (.getfield 64, 3) := by decide +kernel
theorem dX11_piece_43 : decode cX11_piece 43 = .ok (.iload_n 1, 1) := by decide +kernel
theorem dX11_piece_44 : decode cX11_piece 44 = .ok (.iload_n 2, 1) := by decide +kernel
theorem dX11_piece_45 : decode cX11_piece 45 = .ok (.iload_n 3, 1) := by decide +kernel
theorem dX11_piece_46 : decode cX11_piece 46 = .ok (.iload 4, 2) := by decide +kernel
theorem dX11_piece_48 : decode cX11_piece 48 = .ok (.invokevirtual 244, 3) := by decide +kernel
theorem dX11_piece_51 : decode cX11_piece 51 = .ok (.ireturn, 1) := by decide +kernel
theorem dX11_pieceOf_0 : decode cX11_pieceOf 0 = .ok (.aload_n 0, 1) := by decide +kernel
theorem dX11_pieceOf_1 : decode cX11_pieceOf 1 = .ok (.getfield 64, 3) := by decide +kernel
theorem dX11_pieceOf_4 : decode cX11_pieceOf 4 = .ok (.iload_n 1, 1) := by decide +kernel
theorem dX11_pieceOf_5 : decode cX11_pieceOf 5 = .ok (.invokevirtual 246, 3) := by decide +kernel
theorem dX11_pieceOf_8 : decode cX11_pieceOf 8 = .ok (.ifCond .ne 5, 3) := by decide +kernel
theorem dX11_pieceOf_11 : decode cX11_pieceOf 11 = .ok (.iconst (-1), 1) := by decide +kernel
theorem dX11_pieceOf_12 : decode cX11_pieceOf 12 = .ok (.ireturn, 1) := by decide +kernel
theorem dX11_pieceOf_13 : decode cX11_pieceOf 13 = .ok (.iload_n 2, 1) := by decide +kernel
theorem dX11_pieceOf_14 : decode cX11_pieceOf 14 = .ok (.tableswitch 143 0 8 #[50, 60, 70, 80, 90, 100, 113, 123, 133], 50) := by decide +kernel
theorem dX11_pieceOf_64 : decode cX11_pieceOf 64 = .ok (.aload_n 0, 1) := by decide +kernel
theorem dX11_pieceOf_65 : decode cX11_pieceOf 65 = .ok (.getfield 64, 3) := by decide +kernel
theorem dX11_pieceOf_68 : decode cX11_pieceOf 68 = .ok (.getfield 247, 3) := by decide +kernel
theorem dX11_pieceOf_71 : decode cX11_pieceOf 71 = .ok (.iload_n 1, 1) := by decide +kernel
theorem dX11_pieceOf_72 : decode cX11_pieceOf 72 = .ok (.iaload, 1) := by decide +kernel
theorem dX11_pieceOf_73 : decode cX11_pieceOf 73 = .ok (.ireturn, 1) := by decide +kernel
theorem dX11_pieceOf_74 : decode cX11_pieceOf 74 = .ok (.aload_n 0, 1) := by decide +kernel
theorem dX11_pieceOf_75 : decode cX11_pieceOf 75 = .ok (.getfield 64, 3) := by decide +kernel
theorem dX11_pieceOf_78 : decode cX11_pieceOf 78 = .ok (.getfield 250, 3) := by decide +kernel
theorem dX11_pieceOf_81 : decode cX11_pieceOf 81 = .ok (.iload_n 1, 1) := by decide +kernel
theorem dX11_pieceOf_82 : decode cX11_pieceOf 82 = .ok (.iaload, 1) := by decide +kernel
theorem dX11_pieceOf_83 : decode cX11_pieceOf 83 = .ok (.ireturn, 1) := by decide +kernel
theorem dX11_pieceOf_84 : decode cX11_pieceOf 84 = .ok (.aload_n 0, 1) := by decide +kernel
theorem dX11_pieceOf_85 : decode cX11_pieceOf 85 = .ok (.getfield 64, 3) := by decide +kernel
theorem dX11_pieceOf_88 : decode cX11_pieceOf 88 = .ok (.getfield 253, 3) := by decide +kernel
theorem dX11_pieceOf_91 : decode cX11_pieceOf 91 = .ok (.iload_n 1, 1) := by decide +kernel
theorem dX11_pieceOf_92 : decode cX11_pieceOf 92 = .ok (.iaload, 1) := by decide +kernel
theorem dX11_pieceOf_93 : decode cX11_pieceOf 93 = .ok (.ireturn, 1) := by decide +kernel
theorem dX11_pieceOf_94 : decode cX11_pieceOf 94 = .ok (.aload_n 0, 1) := by decide +kernel
theorem dX11_pieceOf_95 : decode cX11_pieceOf 95 = .ok (.getfield 64, 3) := by decide +kernel
theorem dX11_pieceOf_98 : decode cX11_pieceOf 98 = .ok (.getfield 256, 3) := by decide +kernel
theorem dX11_pieceOf_101 : decode cX11_pieceOf 101 = .ok (.iload_n 1, 1) := by decide +kernel
theorem dX11_pieceOf_102 : decode cX11_pieceOf 102 = .ok (.iaload, 1) := by decide +kernel
theorem dX11_pieceOf_103 : decode cX11_pieceOf 103 = .ok (.ireturn, 1) := by decide +kernel
theorem dX11_pieceOf_104 : decode cX11_pieceOf 104 = .ok (.aload_n 0, 1) := by decide +kernel
theorem dX11_pieceOf_105 : decode cX11_pieceOf 105 = .ok (.getfield 64, 3) := by decide +kernel
theorem dX11_pieceOf_108 : decode cX11_pieceOf 108 = .ok (.getfield 259, 3) := by decide +kernel
theorem dX11_pieceOf_111 : decode cX11_pieceOf 111 = .ok (.iload_n 1, 1) := by decide +kernel
theorem dX11_pieceOf_112 : decode cX11_pieceOf 112 = .ok (.iaload, 1) := by decide +kernel
theorem dX11_pieceOf_113 : decode cX11_pieceOf 113 = .ok (.ireturn, 1) := by decide +kernel
theorem dX11_pieceOf_114 : decode cX11_pieceOf 114 = .ok (.aload_n 0, 1) := by decide +kernel
theorem dX11_pieceOf_115 : decode cX11_pieceOf 115 = .ok (.getfield 64, 3) := by decide +kernel
theorem dX11_pieceOf_118 : decode cX11_pieceOf 118 = .ok (.iload_n 1, 1) := by decide +kernel
theorem dX11_pieceOf_119 : decode cX11_pieceOf 119 = .ok (.aload_n 0, 1) := by decide +kernel
theorem dX11_pieceOf_120 : decode cX11_pieceOf 120 = .ok (.getfield 89, 3) := by decide +kernel
theorem dX11_pieceOf_123 : decode cX11_pieceOf 123 = .ok (.invokevirtual 262, 3) := by decide +kernel
theorem dX11_pieceOf_126 : decode cX11_pieceOf 126 = .ok (.ireturn, 1) := by decide +kernel
theorem dX11_pieceOf_127 : decode cX11_pieceOf 127 = .ok (.aload_n 0, 1) := by decide +kernel
theorem dX11_pieceOf_128 : decode cX11_pieceOf 128 = .ok (.getfield 64, 3) := by decide +kernel
theorem dX11_pieceOf_131 : decode cX11_pieceOf 131 = .ok (.getfield 265, 3) := by decide +kernel
theorem dX11_pieceOf_134 : decode cX11_pieceOf 134 = .ok (.iload_n 1, 1) := by decide +kernel
theorem dX11_pieceOf_135 : decode cX11_pieceOf 135 = .ok (.iaload, 1) := by decide +kernel
theorem dX11_pieceOf_136 : decode cX11_pieceOf 136 = .ok (.ireturn, 1) := by decide +kernel
theorem dX11_pieceOf_137 : decode cX11_pieceOf 137 = .ok (.aload_n 0, 1) := by decide +kernel
theorem dX11_pieceOf_138 : decode cX11_pieceOf 138 = .ok (.getfield 64, 3) := by decide +kernel
theorem dX11_pieceOf_141 : decode cX11_pieceOf 141 = .ok (.getfield 268, 3) := by decide +kernel
theorem dX11_pieceOf_144 : decode cX11_pieceOf 144 = .ok (.iload_n 1, 1) := by decide +kernel
theorem dX11_pieceOf_145 : decode cX11_pieceOf 145 = .ok (.iaload, 1) := by decide +kernel
theorem dX11_pieceOf_146 : decode cX11_pieceOf 146 = .ok (.ireturn, 1) := by decide +kernel
theorem dX11_pieceOf_147 : decode cX11_pieceOf 147 = .ok (.aload_n 0, 1) := by decide +kernel
theorem dX11_pieceOf_148 : decode cX11_pieceOf 148 = .ok (.getfield 64, 3) := by decide +kernel
theorem dX11_pieceOf_151 : decode cX11_pieceOf 151 = .ok (.getfield 271, 3) := by decide +kernel
theorem dX11_pieceOf_154 : decode cX11_pieceOf 154 = .ok (.iload_n 1, 1) := by decide +kernel
theorem dX11_pieceOf_155 : decode cX11_pieceOf 155 = .ok (.iaload, 1) := by decide +kernel
theorem dX11_pieceOf_156 : decode cX11_pieceOf 156 = .ok (.ireturn, 1) := by decide +kernel
theorem dX11_pieceOf_157 : decode cX11_pieceOf 157 = .ok (.iconst (-1), 1) := by decide +kernel
theorem dX11_pieceOf_158 : decode cX11_pieceOf 158 = .ok (.ireturn, 1) := by decide +kernel
theorem dX11_issue_0 : decode cX11_issue 0 = .ok (.aload_n 0, 1) := by decide +kernel
theorem dX11_issue_1 : decode cX11_issue 1 = .ok (.getfield 64, 3) := by decide +kernel
theorem dX11_issue_4 : decode cX11_issue 4 = .ok (.iload_n 1, 1) := by decide +kernel
theorem dX11_issue_5 : decode cX11_issue 5 = .ok (.invokevirtual 246, 3) := by decide +kernel
theorem dX11_issue_8 : decode cX11_issue 8 = .ok (.ifCond .eq 14, 3) := by decide +kernel
theorem dX11_issue_11 : decode cX11_issue 11 = .ok (.aload_n 0, 1) := by decide +kernel
theorem dX11_issue_12 : decode cX11_issue 12 = .ok (.getfield 10, 3) := by decide +kernel
theorem dX11_issue_15 : decode cX11_issue 15 = .ok (.iload_n 2, 1) := by decide +kernel
theorem dX11_issue_16 : decode cX11_issue 16 = .ok (.invokevirtual 105, 3) := by decide +kernel
theorem dX11_issue_19 : decode cX11_issue 19 = .ok (.ifCond .ne 5, 3) := by decide +kernel
theorem dX11_issue_22 : decode cX11_issue 22 = .ok (.iconst (-1), 1) := by decide +kernel
theorem dX11_issue_23 : decode cX11_issue 23 = .ok (.ireturn, 1) := by decide +kernel
theorem dX11_issue_24 : decode cX11_issue 24 = .ok (.aload_n 0, 1) := by decide +kernel
theorem dX11_issue_25 : decode cX11_issue 25 = .ok (.iload_n 1, 1) := by decide +kernel
theorem dX11_issue_26 : decode cX11_issue 26 = .ok (.invokevirtual 274, 3) := by decide +kernel
theorem dX11_issue_29 : decode cX11_issue 29 = .ok (.istore_n 3, 1) := by decide +kernel
theorem dX11_issue_30 : decode cX11_issue 30 = .ok (.aload_n 0, 1) := by decide +kernel
theorem dX11_issue_31 : decode cX11_issue 31 = .ok (.aload_n 0, 1) := by decide +kernel
theorem dX11_issue_32 : decode cX11_issue 32 = .ok (.getfield 64, 3) := by decide +kernel
theorem dX11_issue_35 : decode cX11_issue 35 = .ok (.getfield 247, 3) := by decide +kernel
theorem dX11_issue_38 : decode cX11_issue 38 = .ok (.iload_n 1, 1) := by decide +kernel
theorem dX11_issue_39 : decode cX11_issue 39 = .ok (.iaload, 1) := by decide +kernel
theorem dX11_issue_40 : decode cX11_issue 40 = .ok (.iload_n 2, 1) := by decide +kernel
theorem dX11_issue_41 : decode cX11_issue 41 = .ok (.invokevirtual 160, 3) := by decide +kernel
theorem dX11_issue_44 : decode cX11_issue 44 = .ok (.istore 4, 2) := by decide +kernel
theorem dX11_issue_46 : decode cX11_issue 46 = .ok (.aload_n 0, 1) := by decide +kernel
theorem dX11_issue_47 : decode cX11_issue 47 = .ok (.getfield 64, 3) := by decide +kernel
theorem dX11_issue_50 : decode cX11_issue 50 = .ok (.iload_n 1, 1) := by decide +kernel
theorem dX11_issue_51 : decode cX11_issue 51 = .ok (.invokevirtual 277, 3) := by decide +kernel
theorem dX11_issue_54 : decode cX11_issue 54 = .ok (.ifCond .eq 17, 3) := by decide +kernel
theorem dX11_issue_57 : decode cX11_issue 57 = .ok (.iload 4, 2) := by decide +kernel
theorem dX11_issue_59 : decode cX11_issue 59 = .ok (.iconst 5, 1) := by decide +kernel
theorem dX11_issue_60 : decode cX11_issue 60 = .ok (.if_icmp .gt 11, 3) := by decide +kernel
theorem dX11_issue_63 : decode cX11_issue 63 = .ok (.aload_n 0, 1) := by decide +kernel
theorem dX11_issue_64 : decode cX11_issue 64 = .ok (.iload_n 1, 1) := by decide +kernel
theorem dX11_issue_65 : decode cX11_issue 65 = .ok (.invokevirtual 280, 3) := by decide +kernel
theorem dX11_issue_68 : decode cX11_issue 68 = .ok (.ifCond .eq 6, 3) := by decide +kernel
theorem dX11_issue_71 : decode cX11_issue 71 = .ok (.bipush (-2), 2) := by decide +kernel
theorem dX11_issue_73 : decode cX11_issue 73 = .ok (.ireturn, 1) := by decide +kernel
theorem dX11_issue_74 : decode cX11_issue 74 = .ok (.aload_n 0, 1) := by decide +kernel
theorem dX11_issue_75 : decode cX11_issue 75 = .ok (.iload_n 2, 1) := by decide +kernel
theorem dX11_issue_76 : decode cX11_issue 76 = .ok (.iload_n 3, 1) := by decide +kernel
theorem dX11_issue_77 : decode cX11_issue 77 = .ok (.invokevirtual 141, 3) := by decide +kernel
theorem dX11_issue_80 : decode cX11_issue 80 = .ok (.aload_n 0, 1) := by decide +kernel
theorem dX11_issue_81 : decode cX11_issue 81 = .ok (.iload_n 2, 1) := by decide +kernel
theorem dX11_issue_82 : decode cX11_issue 82 = .ok (.iload_n 3, 1) := by decide +kernel
theorem dX11_issue_83 : decode cX11_issue 83 = .ok (.aload_n 0, 1) := by decide +kernel
theorem dX11_issue_84 : decode cX11_issue 84 = .ok (.getfield 89, 3) := by decide +kernel
theorem dX11_issue_87 : decode cX11_issue 87 = .ok (.invokevirtual 144, 3) := by decide +kernel
theorem dX11_issue_90 : decode cX11_issue 90 = .ok (.if_icmp .lt 6, 3) := by decide +kernel
theorem dX11_issue_93 : decode cX11_issue 93 = .ok (.bipush (-2), 2) := by decide +kernel
theorem dX11_issue_95 : decode cX11_issue 95 = .ok (.ireturn, 1) := by decide +kernel
theorem dX11_issue_96 : decode cX11_issue 96 = .ok (.aload_n 0, 1) := by decide +kernel
theorem dX11_issue_97 : decode cX11_issue 97 = .ok (.getfield 64, 3) := by decide +kernel
theorem dX11_issue_100 : decode cX11_issue 100 = .ok (.iload_n 1, 1) := by decide +kernel
theorem dX11_issue_101 : decode cX11_issue 101 = .ok (.iload_n 2, 1) := by decide +kernel
theorem dX11_issue_102 : decode cX11_issue 102 = .ok (.aload_n 0, 1) := by decide +kernel
theorem dX11_issue_103 : decode cX11_issue 103 = .ok (.getfield 89, 3) := by decide +kernel
theorem dX11_issue_106 : decode cX11_issue 106 = .ok (.invokevirtual 283, 3) := by decide +kernel
theorem dX11_issue_109 : decode cX11_issue 109 = .ok (.iload 4, 2) := by decide +kernel
theorem dX11_issue_111 : decode cX11_issue 111 = .ok (.ifCond .ne 7, 3) := by decide +kernel
theorem dX11_issue_114 : decode cX11_issue 114 = .ok (.iconst 1, 1) := by decide +kernel
theorem dX11_issue_115 : decode cX11_issue 115 = .ok (.goto 4, 3) := by decide +kernel
theorem dX11_issue_118 : decode cX11_issue 118 = .ok (.iconst 0, 1) := by decide +kernel
theorem dX11_issue_119 : decode cX11_issue 119 = .ok (.ireturn, 1) := by decide +kernel
theorem dX11_back_0 : decode cX11_back 0 = .ok (.aload_n 0, 1) := by decide +kernel
theorem dX11_back_1 : decode cX11_back 1 = .ok (.getfield 64, 3) := by decide +kernel
theorem dX11_back_4 : decode cX11_back 4 = .ok (.iload_n 1, 1) := by decide +kernel
theorem dX11_back_5 : decode cX11_back 5 = .ok (.invokevirtual 246, 3) := by decide +kernel
theorem dX11_back_8 : decode cX11_back 8 = .ok (.ifCond .eq 14, 3) := by decide +kernel
theorem dX11_back_11 : decode cX11_back 11 = .ok (.aload_n 0, 1) := by decide +kernel
theorem dX11_back_12 : decode cX11_back 12 = .ok (.getfield 57, 3) := by decide +kernel
theorem dX11_back_15 : decode cX11_back 15 = .ok (.iload_n 2, 1) := by decide +kernel
theorem dX11_back_16 : decode cX11_back 16 = .ok (.invokevirtual 234, 3) := by decide +kernel
theorem dX11_back_19 : decode cX11_back 19 = .ok (.ifCond .ne 5, 3) := by decide +kernel
theorem dX11_back_22 : decode cX11_back 22 = .ok (.iconst (-1), 1) := by decide +kernel
theorem dX11_back_23 : decode cX11_back 23 = .ok (.ireturn, 1) := by decide +kernel
theorem dX11_back_24 : decode cX11_back 24 = .ok (.aload_n 0, 1) := by decide +kernel
theorem dX11_back_25 : decode cX11_back 25 = .ok (.getfield 64, 3) := by decide +kernel
theorem dX11_back_28 : decode cX11_back 28 = .ok (.iload_n 1, 1) := by decide +kernel
theorem dX11_back_29 : decode cX11_back 29 = .ok (.invokevirtual 287, 3) := by decide +kernel
theorem dX11_back_32 : decode cX11_back 32 = .ok (.ifCond .ne 6, 3) := by decide +kernel
theorem dX11_back_35 : decode cX11_back 35 = .ok (.bipush (-2), 2) := by decide +kernel
theorem dX11_back_37 : decode cX11_back 37 = .ok (.ireturn, 1) := by decide +kernel
theorem dX11_back_38 : decode cX11_back 38 = .ok (.aload_n 0, 1) := by decide +kernel
theorem dX11_back_39 : decode cX11_back 39 = .ok (.getfield 64, 3) := by decide +kernel
theorem dX11_back_42 : decode cX11_back 42 = .ok (.iload_n 1, 1) := by decide +kernel
theorem dX11_back_43 : decode cX11_back 43 = .ok (.aload_n 0, 1) := by decide +kernel
theorem dX11_back_44 : decode cX11_back 44 = .ok (.getfield 89, 3) := by decide +kernel
theorem dX11_back_47 : decode cX11_back 47 = .ok (.invokevirtual 290, 3) := by decide +kernel
theorem dX11_back_50 : decode cX11_back 50 = .ok (.aload_n 0, 1) := by decide +kernel
theorem dX11_back_51 : decode cX11_back 51 = .ok (.getfield 64, 3) := by decide +kernel
theorem dX11_back_54 : decode cX11_back 54 = .ok (.getfield 256, 3) := by decide +kernel
theorem dX11_back_57 : decode cX11_back 57 = .ok (.iload_n 1, 1) := by decide +kernel
theorem dX11_back_58 : decode cX11_back 58 = .ok (.iload_n 2, 1) := by decide +kernel
theorem dX11_back_59 : decode cX11_back 59 = .ok (.iastore, 1) := by decide +kernel
theorem dX11_back_60 : decode cX11_back 60 = .ok (.aload_n 0, 1) := by decide +kernel
theorem dX11_back_61 : decode cX11_back 61 = .ok (.getfield 64, 3) := by decide +kernel
theorem dX11_back_64 : decode cX11_back 64 = .ok (.iload_n 1, 1) := by decide +kernel
theorem dX11_back_65 : decode cX11_back 65 = .ok (.aload_n 0, 1) := by decide +kernel
theorem dX11_back_66 : decode cX11_back 66 = .ok (.getfield 89, 3) := by decide +kernel
theorem dX11_back_69 : decode cX11_back 69 = .ok (.invokevirtual 262, 3) := by decide +kernel
theorem dX11_back_72 : decode cX11_back 72 = .ok (.ireturn, 1) := by decide +kernel
theorem dX11_lost_0 : decode cX11_lost 0 = .ok (.aload_n 0, 1) := by decide +kernel
theorem dX11_lost_1 : decode cX11_lost 1 = .ok (.getfield 64, 3) := by decide +kernel
theorem dX11_lost_4 : decode cX11_lost 4 = .ok (.iload_n 1, 1) := by decide +kernel
theorem dX11_lost_5 : decode cX11_lost 5 = .ok (.invokevirtual 246, 3) := by decide +kernel
theorem dX11_lost_8 : decode cX11_lost 8 = .ok (.ifCond .ne 5, 3) := by decide +kernel
theorem dX11_lost_11 : decode cX11_lost 11 = .ok (.iconst (-1), 1) := by decide +kernel
theorem dX11_lost_12 : decode cX11_lost 12 = .ok (.ireturn, 1) := by decide +kernel
theorem dX11_lost_13 : decode cX11_lost 13 = .ok (.aload_n 0, 1) := by decide +kernel
theorem dX11_lost_14 : decode cX11_lost 14 = .ok (.getfield 64, 3) := by decide +kernel
theorem dX11_lost_17 : decode cX11_lost 17 = .ok (.iload_n 1, 1) := by decide +kernel
theorem dX11_lost_18 : decode cX11_lost 18 = .ok (.invokevirtual 287, 3) := by decide +kernel
theorem dX11_lost_21 : decode cX11_lost 21 = .ok (.ifCond .ne 6, 3) := by decide +kernel
theorem dX11_lost_24 : decode cX11_lost 24 = .ok (.bipush (-2), 2) := by decide +kernel
theorem dX11_lost_26 : decode cX11_lost 26 = .ok (.ireturn, 1) := by decide +kernel
theorem dX11_lost_27 : decode cX11_lost 27 = .ok (.aload_n 0, 1) := by decide +kernel
theorem dX11_lost_28 : decode cX11_lost 28 = .ok (.getfield 64, 3) := by decide +kernel
theorem dX11_lost_31 : decode cX11_lost 31 = .ok (.getfield 259, 3) := by decide +kernel
theorem dX11_lost_34 : decode cX11_lost 34 = .ok (.iload_n 1, 1) := by decide +kernel
theorem dX11_lost_35 : decode cX11_lost 35 = .ok (.iaload, 1) := by decide +kernel
theorem dX11_lost_36 : decode cX11_lost 36 = .ok (.istore_n 2, 1) := by decide +kernel
theorem dX11_lost_37 : decode cX11_lost 37 = .ok (.aload_n 0, 1) := by decide +kernel
theorem dX11_lost_38 : decode cX11_lost 38 = .ok (.iload_n 1, 1) := by decide +kernel
theorem dX11_lost_39 : decode cX11_lost 39 = .ok (.invokevirtual 294, 3) := by decide +kernel
theorem dX11_lost_42 : decode cX11_lost 42 = .ok (.istore_n 3, 1) := by decide +kernel
theorem dX11_lost_43 : decode cX11_lost 43 = .ok (.aload_n 0, 1) := by decide +kernel
theorem dX11_lost_44 : decode cX11_lost 44 = .ok (.getfield 64, 3) := by decide +kernel
theorem dX11_lost_47 : decode cX11_lost 47 = .ok (.iload_n 1, 1) := by decide +kernel
theorem dX11_lost_48 : decode cX11_lost 48 = .ok (.aload_n 0, 1) := by decide +kernel
theorem dX11_lost_49 : decode cX11_lost 49 = .ok (.getfield 89, 3) := by decide +kernel
theorem dX11_lost_52 : decode cX11_lost 52 = .ok (.invokevirtual 290, 3) := by decide +kernel
theorem dX11_lost_55 : decode cX11_lost 55 = .ok (.aload_n 0, 1) := by decide +kernel
theorem dX11_lost_56 : decode cX11_lost 56 = .ok (.getfield 10, 3) := by decide +kernel
theorem dX11_lost_59 : decode cX11_lost 59 = .ok (.iload_n 2, 1) := by decide +kernel
theorem dX11_lost_60 : decode cX11_lost 60 = .ok (.invokevirtual 105, 3) := by decide +kernel
theorem dX11_lost_63 : decode cX11_lost 63 = .ok (.ifCond .eq 16, 3) := by decide +kernel
theorem dX11_lost_66 : decode cX11_lost 66 = .ok (.aload_n 0, 1) := by decide +kernel
theorem dX11_lost_67 : decode cX11_lost 67 = .ok (.getfield 10, 3) := by decide +kernel
theorem dX11_lost_70 : decode cX11_lost 70 = .ok (.getfield 137, 3) := by decide +kernel
theorem dX11_lost_73 : decode cX11_lost 73 = .ok (.iload_n 2, 1) := by decide +kernel
theorem dX11_lost_74 : decode cX11_lost 74 = .ok (.dup2, 1) := by decide +kernel
theorem dX11_lost_75 : decode cX11_lost 75 = .ok (.iaload, 1) := by decide +kernel
theorem dX11_lost_76 : decode cX11_lost 76 = .ok (.iload_n 3, 1) := by decide +kernel
theorem dX11_lost_77 : decode cX11_lost 77 = .ok (.iadd, 1) := by decide +kernel
theorem dX11_lost_78 : decode cX11_lost 78 = .ok (.iastore, 1) := by decide +kernel
theorem dX11_lost_79 : decode cX11_lost 79 = .ok (.iload_n 3, 1) := by decide +kernel
theorem dX11_lost_80 : decode cX11_lost 80 = .ok (.ireturn, 1) := by decide +kernel
theorem dX11_move_0 : decode cX11_move 0 = .ok (.aload_n 0, 1) := by decide +kernel
theorem dX11_move_1 : decode cX11_move 1 = .ok (.getfield 64, 3) := by decide +kernel
theorem dX11_move_4 : decode cX11_move 4 = .ok (.iload_n 1, 1) := by decide +kernel
theorem dX11_move_5 : decode cX11_move 5 = .ok (.invokevirtual 246, 3) := by decide +kernel
theorem dX11_move_8 : decode cX11_move 8 = .ok (.ifCond .eq 27, 3) := by decide +kernel
theorem dX11_move_11 : decode cX11_move 11 = .ok (.aload_n 0, 1) := by decide +kernel
theorem dX11_move_12 : decode cX11_move 12 = .ok (.getfield 57, 3) := by decide +kernel
theorem dX11_move_15 : decode cX11_move 15 = .ok (.iload_n 2, 1) := by decide +kernel
theorem dX11_move_16 : decode cX11_move 16 = .ok (.invokevirtual 234, 3) := by decide +kernel
theorem dX11_move_19 : decode cX11_move 19 = .ok (.ifCond .eq 16, 3) := by decide +kernel
theorem dX11_move_22 : decode cX11_move 22 = .ok (.aload_n 0, 1) := by decide +kernel
theorem dX11_move_23 : decode cX11_move 23 = .ok (.getfield 64, 3) := by decide +kernel
theorem dX11_move_26 : decode cX11_move 26 = .ok (.getfield 256, 3) := by decide +kernel
theorem dX11_move_29 : decode cX11_move 29 = .ok (.iload_n 1, 1) := by decide +kernel
theorem dX11_move_30 : decode cX11_move 30 = .ok (.iaload, 1) := by decide +kernel
theorem dX11_move_31 : decode cX11_move 31 = .ok (.iload_n 2, 1) := by decide +kernel
theorem dX11_move_32 : decode cX11_move 32 = .ok (.if_icmp .ne 5, 3) := by decide +kernel
theorem dX11_move_35 : decode cX11_move 35 = .ok (.iconst (-1), 1) := by decide +kernel
theorem dX11_move_36 : decode cX11_move 36 = .ok (.ireturn, 1) := by decide +kernel
theorem dX11_move_37 : decode cX11_move 37 = .ok (.aload_n 0, 1) := by decide +kernel
theorem dX11_move_38 : decode cX11_move 38 = .ok (.getfield 64, 3) := by decide +kernel
theorem dX11_move_41 : decode cX11_move 41 = .ok (.iload_n 1, 1) := by decide +kernel
theorem dX11_move_42 : decode cX11_move 42 = .ok (.invokevirtual 277, 3) := by decide +kernel
theorem dX11_move_45 : decode cX11_move 45 = .ok (.ifCond .ne 6, 3) := by decide +kernel
theorem dX11_move_48 : decode cX11_move 48 = .ok (.bipush (-2), 2) := by decide +kernel
theorem dX11_move_50 : decode cX11_move 50 = .ok (.ireturn, 1) := by decide +kernel
theorem dX11_move_51 : decode cX11_move 51 = .ok (.aload_n 0, 1) := by decide +kernel
theorem dX11_move_52 : decode cX11_move 52 = .ok (.getfield 57, 3) := by decide +kernel
theorem dX11_move_55 : decode cX11_move 55 = .ok (.getfield 235, 3) := by decide +kernel
theorem dX11_move_58 : decode cX11_move 58 = .ok (.aload_n 0, 1) := by decide +kernel
theorem dX11_move_59 : decode cX11_move 59 = .ok (.getfield 64, 3) := by decide +kernel
theorem dX11_move_62 : decode cX11_move 62 = .ok (.getfield 256, 3) := by decide +kernel
theorem dX11_move_65 : decode cX11_move 65 = .ok (.iload_n 1, 1) := by decide +kernel
theorem dX11_move_66 : decode cX11_move 66 = .ok (.iaload, 1) := by decide +kernel
theorem dX11_move_67 : decode cX11_move 67 = .ok (.aaload, 1) := by decide +kernel
theorem dX11_move_68 : decode cX11_move 68 = .ok (.iload_n 2, 1) := by decide +kernel
theorem dX11_move_69 : decode cX11_move 69 = .ok (.iaload, 1) := by decide +kernel
theorem dX11_move_70 : decode cX11_move 70 = .ok (.istore_n 3, 1) := by decide +kernel
theorem dX11_move_71 : decode cX11_move 71 = .ok (.aload_n 0, 1) := by decide +kernel
theorem dX11_move_72 : decode cX11_move 72 = .ok (.getfield 64, 3) := by decide +kernel
theorem dX11_move_75 : decode cX11_move 75 = .ok (.getfield 256, 3) := by decide +kernel
theorem dX11_move_78 : decode cX11_move 78 = .ok (.iload_n 1, 1) := by decide +kernel
theorem dX11_move_79 : decode cX11_move 79 = .ok (.iload_n 2, 1) := by decide +kernel
theorem dX11_move_80 : decode cX11_move 80 = .ok (.iastore, 1) := by decide +kernel
theorem dX11_move_81 : decode cX11_move 81 = .ok (.iload_n 3, 1) := by decide +kernel
theorem dX11_move_82 : decode cX11_move 82 = .ok (.ireturn, 1) := by decide +kernel
theorem dX11_fail_0 : decode cX11_fail 0 = .ok (.aload_n 0, 1) := by decide +kernel
theorem dX11_fail_1 : decode cX11_fail 1 = .ok (.getfield 64, 3) := by decide +kernel
theorem dX11_fail_4 : decode cX11_fail 4 = .ok (.iload_n 1, 1) := by decide +kernel
theorem dX11_fail_5 : decode cX11_fail 5 = .ok (.invokevirtual 246, 3) := by decide +kernel
theorem dX11_fail_8 : decode cX11_fail 8 = .ok (.ifCond .ne 5, 3) := by decide +kernel
theorem dX11_fail_11 : decode cX11_fail 11 = .ok (.iconst (-1), 1) := by decide +kernel
theorem dX11_fail_12 : decode cX11_fail 12 = .ok (.ireturn, 1) := by decide +kernel
theorem dX11_fail_13 : decode cX11_fail 13 = .ok (.aload_n 0, 1) := by decide +kernel
theorem dX11_fail_14 : decode cX11_fail 14 = .ok (.getfield 64, 3) := by decide +kernel
theorem dX11_fail_17 : decode cX11_fail 17 = .ok (.iload_n 1, 1) := by decide +kernel
theorem dX11_fail_18 : decode cX11_fail 18 = .ok (.invokevirtual 297, 3) := by decide +kernel
theorem dX11_fail_21 : decode cX11_fail 21 = .ok (.ifCond .eq 6, 3) := by decide +kernel
theorem dX11_fail_24 : decode cX11_fail 24 = .ok (.bipush (-2), 2) := by decide +kernel
theorem dX11_fail_26 : decode cX11_fail 26 = .ok (.ireturn, 1) := by decide +kernel
theorem dX11_fail_27 : decode cX11_fail 27 = .ok (.aload_n 0, 1) := by decide +kernel
theorem dX11_fail_28 : decode cX11_fail 28 = .ok (.getfield 64, 3) := by decide +kernel
theorem dX11_fail_31 : decode cX11_fail 31 = .ok (.iload_n 1, 1) := by decide +kernel
theorem dX11_fail_32 : decode cX11_fail 32 = .ok (.aload_n 0, 1) := by decide +kernel
theorem dX11_fail_33 : decode cX11_fail 33 = .ok (.getfield 89, 3) := by decide +kernel
theorem dX11_fail_36 : decode cX11_fail 36 = .ok (.invokevirtual 290, 3) := by decide +kernel
theorem dX11_fail_39 : decode cX11_fail 39 = .ok (.aload_n 0, 1) := by decide +kernel
theorem dX11_fail_40 : decode cX11_fail 40 = .ok (.getfield 64, 3) := by decide +kernel
theorem dX11_fail_43 : decode cX11_fail 43 = .ok (.getfield 256, 3) := by decide +kernel
theorem dX11_fail_46 : decode cX11_fail 46 = .ok (.iload_n 1, 1) := by decide +kernel
theorem dX11_fail_47 : decode cX11_fail 47 = .ok (.bipush (-4), 2) := by decide +kernel
theorem dX11_fail_49 : decode cX11_fail 49 = .ok (.iastore, 1) := by decide +kernel
theorem dX11_fail_50 : decode cX11_fail 50 = .ok (.aload_n 0, 1) := by decide +kernel
theorem dX11_fail_51 : decode cX11_fail 51 = .ok (.getfield 64, 3) := by decide +kernel
theorem dX11_fail_54 : decode cX11_fail 54 = .ok (.getfield 268, 3) := by decide +kernel
theorem dX11_fail_57 : decode cX11_fail 57 = .ok (.iload_n 1, 1) := by decide +kernel
theorem dX11_fail_58 : decode cX11_fail 58 = .ok (.iconst 1, 1) := by decide +kernel
theorem dX11_fail_59 : decode cX11_fail 59 = .ok (.iastore, 1) := by decide +kernel
theorem dX11_fail_60 : decode cX11_fail 60 = .ok (.aload_n 0, 1) := by decide +kernel
theorem dX11_fail_61 : decode cX11_fail 61 = .ok (.getfield 64, 3) := by decide +kernel
theorem dX11_fail_64 : decode cX11_fail 64 = .ok (.iload_n 1, 1) := by decide +kernel
theorem dX11_fail_65 : decode cX11_fail 65 = .ok (.aload_n 0, 1) := by decide +kernel
theorem dX11_fail_66 : decode cX11_fail 66 = .ok (.getfield 89, 3) := by decide +kernel
theorem dX11_fail_69 : decode cX11_fail 69 = .ok (.invokevirtual 262, 3) := by decide +kernel
theorem dX11_fail_72 : decode cX11_fail 72 = .ok (.ireturn, 1) := by decide +kernel
theorem dX11_stock_0 : decode cX11_stock 0 = .ok (.aload_n 0, 1) := by decide +kernel
theorem dX11_stock_1 : decode cX11_stock 1 = .ok (.getfield 57, 3) := by decide +kernel
theorem dX11_stock_4 : decode cX11_stock 4 = .ok (.iload_n 1, 1) := by decide +kernel
theorem dX11_stock_5 : decode cX11_stock 5 = .ok (.invokevirtual 234, 3) := by decide +kernel
theorem dX11_stock_8 : decode cX11_stock 8 = .ok (.ifCond .eq 10, 3) := by decide +kernel
theorem dX11_stock_11 : decode cX11_stock 11 = .ok (.iload_n 2, 1) := by decide +kernel
theorem dX11_stock_12 : decode cX11_stock 12 = .ok (.invokestatic 147, 3) := by decide +kernel
theorem dX11_stock_15 : decode cX11_stock 15 = .ok (.ifCond .ne 5, 3) := by decide +kernel
theorem dX11_stock_18 : decode cX11_stock 18 = .ok (.iconst (-1), 1) := by decide +kernel
theorem dX11_stock_19 : decode cX11_stock 19 = .ok (.ireturn, 1) := by decide +kernel
theorem dX11_stock_20 : decode cX11_stock 20 = .ok (.aload_n 0, 1) := by decide +kernel
theorem dX11_stock_21 : decode cX11_stock 21 = .ok (.iload_n 1, 1) := by decide +kernel
theorem dX11_stock_22 : decode cX11_stock 22 = .ok (.iload_n 2, 1) := by decide +kernel
theorem dX11_stock_23 : decode cX11_stock 23 = .ok (.invokevirtual 300, 3) := by decide +kernel
theorem dX11_stock_26 : decode cX11_stock 26 = .ok (.ireturn, 1) := by decide +kernel
theorem dX11_parade_0 : decode cX11_parade 0 = .ok (.iload_n 3, 1) := by decide +kernel
theorem dX11_parade_1 : decode cX11_parade 1 = .ok (.iconst 0, 1) := by decide +kernel
theorem dX11_parade_2 : decode cX11_parade 2 = .ok (.iconst 1, 1) := by decide +kernel
theorem dX11_parade_3 : decode cX11_parade 3 = .ok (.invokestatic 93, 3) := by decide +kernel
theorem dX11_parade_6 : decode cX11_parade 6 = .ok (.ifCond .ne 23, 3) := by decide +kernel
theorem dX11_parade_9 : decode cX11_parade 9 = .ok (.iload_n 3, 1) := by decide +kernel
theorem dX11_parade_10 : decode cX11_parade 10 = .ok (.bipush 10, 2) := by decide +kernel
theorem dX11_parade_12 : decode cX11_parade 12 = .ok (.if_icmp .lt 21, 3) := by decide +kernel
theorem dX11_parade_15 : decode cX11_parade 15 = .ok (.aload_n 0, 1) := by decide +kernel
theorem dX11_parade_16 : decode cX11_parade 16 = .ok (.getfield 10, 3) := by decide +kernel
theorem dX11_parade_19 : decode cX11_parade 19 = .ok (.iload_n 3, 1) := by decide +kernel
theorem dX11_parade_20 : decode cX11_parade 20 = .ok (.bipush 10, 2) := by decide +kernel
theorem dX11_parade_22 : decode cX11_parade 22 = .ok (.isub, 1) := by decide +kernel
theorem dX11_parade_23 : decode cX11_parade 23 = .ok (.invokevirtual 105, 3) := by decide +kernel
theorem dX11_parade_26 : decode cX11_parade 26 = .ok (.ifCond .eq 7, 3) := by decide +kernel
theorem dX11_parade_29 : decode cX11_parade 29 = .ok (.iconst 1, 1) := by decide +kernel
theorem dX11_parade_30 : decode cX11_parade 30 = .ok (.goto 4, 3) := by decide +kernel
theorem dX11_parade_33 : decode cX11_parade 33 = .ok (.iconst 0, 1) := by decide +kernel
theorem dX11_parade_34 : decode cX11_parade 34 = .ok (.istore 4, 2) := by decide +kernel
theorem dX11_parade_36 : decode cX11_parade 36 = .ok (.iload_n 1, 1) := by decide +kernel
theorem dX11_parade_37 : decode cX11_parade 37 = .ok (.invokestatic 147, 3) := by decide +kernel
theorem dX11_parade_40 : decode cX11_parade 40 = .ok (.ifCond .eq 18, 3) := by decide +kernel
theorem dX11_parade_43 : decode cX11_parade 43 = .ok (.iload_n 2, 1) := by decide +kernel
theorem dX11_parade_44 : decode cX11_parade 44 = .ok (.iconst 0, 1) := by decide +kernel
theorem dX11_parade_45 : decode cX11_parade 45 = .ok (.bipush 99, 2) := by decide +kernel
theorem dX11_parade_47 : decode cX11_parade 47 = .ok (.invokestatic 93, 3) := by decide +kernel
theorem dX11_parade_50 : decode cX11_parade 50 = .ok (.ifCond .eq 8, 3) := by decide +kernel
theorem dX11_parade_53 : decode cX11_parade 53 = .ok (.iload 4, 2) := by decide +kernel
theorem dX11_parade_55 : decode cX11_parade 55 = .ok (.ifCond .ne 5, 3) := by decide +kernel
theorem dX11_parade_58 : decode cX11_parade 58 = .ok (.iconst (-1), 1) := by decide +kernel
theorem dX11_parade_59 : decode cX11_parade 59 = .ok (.ireturn, 1) := by decide +kernel
theorem dX11_parade_60 : decode cX11_parade 60 = .ok (.aload_n 0, 1) := by decide +kernel
theorem dX11_parade_61 : decode cX11_parade 61 = .ok (.iload_n 1, 1) := by decide +kernel
theorem dX11_parade_62 : decode cX11_parade 62 = .ok (.invokevirtual 303, 3) := by decide +kernel
theorem dX11_parade_65 : decode cX11_parade 65 = .ok (.aload_n 0, 1) := by decide +kernel
theorem dX11_parade_66 : decode cX11_parade 66 = .ok (.getfield 78, 3) := by decide +kernel
theorem dX11_parade_69 : decode cX11_parade 69 = .ok (.iload_n 2, 1) := by decide +kernel
theorem dX11_parade_70 : decode cX11_parade 70 = .ok (.invokevirtual 306, 3) := by decide +kernel
theorem dX11_parade_73 : decode cX11_parade 73 = .ok (.iload_n 3, 1) := by decide +kernel
theorem dX11_parade_74 : decode cX11_parade 74 = .ok (.ifCond .ne 11, 3) := by decide +kernel
theorem dX11_parade_77 : decode cX11_parade 77 = .ok (.aload_n 0, 1) := by decide +kernel
theorem dX11_parade_78 : decode cX11_parade 78 = .ok (.getfield 78, 3) := by decide +kernel
theorem dX11_parade_81 : decode cX11_parade 81 = .ok (.getfield 309, 3) := by decide +kernel
theorem dX11_parade_84 : decode cX11_parade 84 = .ok (.ireturn, 1) := by decide +kernel
theorem dX11_parade_85 : decode cX11_parade 85 = .ok (.iload_n 3, 1) := by decide +kernel
theorem dX11_parade_86 : decode cX11_parade 86 = .ok (.iconst 1, 1) := by decide +kernel
theorem dX11_parade_87 : decode cX11_parade 87 = .ok (.if_icmp .ne 26, 3) := by decide +kernel
theorem dX11_parade_90 : decode cX11_parade 90 = .ok (.aload_n 0, 1) := by decide +kernel
theorem dX11_parade_91 : decode cX11_parade 91 = .ok (.getfield 78, 3) := by decide +kernel
theorem dX11_parade_94 : decode cX11_parade 94 = .ok (.getfield 309, 3) := by decide +kernel
theorem dX11_parade_97 : decode cX11_parade 97 = .ok (.ifCond .ne 8, 3) := by decide +kernel
theorem dX11_parade_100 : decode cX11_parade 100 = .ok (.bipush (-4), 2) := by decide +kernel
theorem dX11_parade_102 : decode cX11_parade 102 = .ok (.goto 10, 3) := by decide +kernel
theorem dX11_parade_105 : decode cX11_parade 105 = .ok (.aload_n 0, 1) := by decide +kernel
theorem dX11_parade_106 : decode cX11_parade 106 = .ok (.getfield 78, 3) := by decide +kernel
theorem dX11_parade_109 : decode cX11_parade 109 = .ok (.getfield 312, 3) := by decide +kernel
theorem dX11_parade_112 : decode cX11_parade 112 = .ok (.ireturn, 1) := by decide +kernel
theorem dX11_parade_113 : decode cX11_parade 113 = .ok (.aload_n 0, 1) := by decide +kernel
theorem dX11_parade_114 : decode cX11_parade 114 = .ok (.getfield 78, 3) := by decide +kernel
theorem dX11_parade_117 : decode cX11_parade 117 = .ok (.iload_n 3, 1) := by decide +kernel
theorem dX11_parade_118 : decode cX11_parade 118 = .ok (.bipush 10, 2) := by decide +kernel
theorem dX11_parade_120 : decode cX11_parade 120 = .ok (.isub, 1) := by decide +kernel
theorem dX11_parade_121 : decode cX11_parade 121 = .ok (.invokevirtual 315, 3) := by decide +kernel
theorem dX11_parade_124 : decode cX11_parade 124 = .ok (.ireturn, 1) := by decide +kernel
theorem dX11_order_0 : decode cX11_order 0 = .ok (.aload_n 0, 1) := by decide +kernel
theorem dX11_order_1 : decode cX11_order 1 = .ok (.iload_n 1, 1) := by decide +kernel
theorem dX11_order_2 : decode cX11_order 2 = .ok (.iload_n 2, 1) := by decide +kernel
theorem dX11_order_3 : decode cX11_order 3 = .ok (.invokevirtual 318, 3) := by decide +kernel
theorem dX11_order_6 : decode cX11_order 6 = .ok (.istore_n 3, 1) := by decide +kernel
theorem dX11_order_7 : decode cX11_order 7 = .ok (.iload_n 3, 1) := by decide +kernel
theorem dX11_order_8 : decode cX11_order 8 = .ok (.ifCond .ge 7, 3) := by decide +kernel
theorem dX11_order_11 : decode cX11_order 11 = .ok (.iload_n 3, 1) := by decide +kernel
theorem dX11_order_12 : decode cX11_order 12 = .ok (.goto 10, 3) := by decide +kernel
theorem dX11_order_15 : decode cX11_order 15 = .ok (.aload_n 0, 1) := by decide +kernel
theorem dX11_order_16 : decode cX11_order 16 = .ok (.getfield 57, 3) := by decide +kernel
theorem dX11_order_19 : decode cX11_order 19 = .ok (.getfield 321, 3) := by decide +kernel
theorem dX11_order_22 : decode cX11_order 22 = .ok (.ireturn, 1) := by decide +kernel
theorem dX11_ordered_0 : decode cX11_ordered 0 = .ok (.aload_n 0, 1) := by decide +kernel
theorem dX11_ordered_1 : decode cX11_ordered 1 = .ok (.getfield 57, 3) := by decide +kernel
theorem dX11_ordered_4 : decode cX11_ordered 4 = .ok (.iload_n 3, 1) := by decide +kernel
theorem dX11_ordered_5 : decode cX11_ordered 5 = .ok (.invokevirtual 234, 3) := by decide +kernel
theorem dX11_ordered_8 : decode cX11_ordered 8 = .ok (.ifCond .eq 15, 3) := by decide +kernel
theorem dX11_ordered_11 : decode cX11_ordered 11 = .ok (.aload_n 0, 1) := by decide +kernel
theorem dX11_ordered_12 : decode cX11_ordered 12 = .ok (.getfield 57, 3) := by decide +kernel
theorem dX11_ordered_15 : decode cX11_ordered 15 = .ok (.iload 4, 2) := by decide +kernel
theorem dX11_ordered_17 : decode cX11_ordered 17 = .ok (.invokevirtual 234, 3) := by decide +kernel
theorem dX11_ordered_20 : decode cX11_ordered 20 = .ok (.ifCond .ne 5, 3) := by decide +kernel
theorem dX11_ordered_23 : decode cX11_ordered 23 = .ok (.iconst (-1), 1) := by decide +kernel
theorem dX11_ordered_24 : decode cX11_ordered 24 = .ok (.ireturn, 1) := by decide +kernel
theorem dX11_ordered_25 : decode cX11_ordered 25 = .ok (.aload_n 0, 1) := by decide +kernel
theorem dX11_ordered_26 : decode cX11_ordered 26 = .ok (.iload_n 1, 1) := by decide +kernel
theorem dX11_ordered_27 : decode cX11_ordered 27 = .ok (.iload_n 2, 1) := by decide +kernel
theorem dX11_ordered_28 : decode cX11_ordered 28 = .ok (.invokevirtual 318, 3) := by decide +kernel
theorem dX11_ordered_31 : decode cX11_ordered 31 = .ok (.istore 5, 2) := by decide +kernel
theorem dX11_ordered_33 : decode cX11_ordered 33 = .ok (.iload 5, 2) := by decide +kernel
theorem dX11_ordered_35 : decode cX11_ordered 35 = .ok (.ifCond .ge 8, 3) := by decide +kernel
theorem dX11_ordered_38 : decode cX11_ordered 38 = .ok (.iload 5, 2) := by decide +kernel
theorem dX11_ordered_40 : decode cX11_ordered 40 = .ok (.goto 13, 3) := by decide +kernel
theorem dX11_ordered_43 : decode cX11_ordered 43 = .ok (.aload_n 0, 1) := by decide +kernel
theorem dX11_ordered_44 : decode cX11_ordered 44 = .ok (.getfield 57, 3) := by decide +kernel
theorem dX11_ordered_47 : decode cX11_ordered 47 = .ok (.iload_n 3, 1) := by decide +kernel
theorem dX11_ordered_48 : decode cX11_ordered 48 = .ok (.iload 4, 2) := by decide +kernel
theorem dX11_ordered_50 : decode cX11_ordered 50 = .ok (.invokevirtual 324, 3) := by decide +kernel
theorem dX11_ordered_53 : decode cX11_ordered 53 = .ok (.ireturn, 1) := by decide +kernel
theorem dX11_lot_0 : decode cX11_lot 0 = .ok (.iload_n 1, 1) := by decide +kernel
theorem dX11_lot_1 : decode cX11_lot 1 = .ok (.invokestatic 238, 3) := by decide +kernel
theorem dX11_lot_4 : decode cX11_lot 4 = .ok (.ifCond .eq 12, 3) := by decide +kernel
theorem dX11_lot_7 : decode cX11_lot 7 = .ok (.iload_n 2, 1) := by decide +kernel
theorem dX11_lot_8 : decode cX11_lot 8 = .ok (.iconst 0, 1) := by decide +kernel
theorem dX11_lot_9 : decode cX11_lot 9 = .ok (.iconst 3, 1) := by decide +kernel
theorem dX11_lot_10 : decode cX11_lot 10 = .ok (.invokestatic 93, 3) := by decide +kernel
theorem dX11_lot_13 : decode cX11_lot 13 = .ok (.ifCond .ne 7, 3) := by decide +kernel
theorem dX11_lot_16 : decode cX11_lot 16 = .ok (.ldc2_w 327, 3) := by decide +kernel
theorem dX11_lot_19 : decode cX11_lot 19 = .ok (.lreturn, 1) := by decide +kernel
theorem dX11_lot_20 : decode cX11_lot 20 = .ok (.iload_n 2, 1) := by decide +kernel
theorem dX11_lot_21 : decode cX11_lot 21 = .ok (.ifCond .ne 13, 3) := by decide +kernel
theorem dX11_lot_24 : decode cX11_lot 24 = .ok (.aload_n 0, 1) := by decide +kernel
theorem dX11_lot_25 : decode cX11_lot 25 = .ok (.getfield 64, 3) := by decide +kernel
theorem dX11_lot_28 : decode cX11_lot 28 = .ok (.iload_n 1, 1) := by decide +kernel
theorem dX11_lot_29 : decode cX11_lot 29 = .ok (.invokevirtual 329, 3) := by decide +kernel
theorem dX11_lot_32 : decode cX11_lot 32 = .ok (.i2l, 1) := by decide +kernel
theorem dX11_lot_33 : decode cX11_lot 33 = .ok (.lreturn, 1) := by decide +kernel
theorem dX11_lot_34 : decode cX11_lot 34 = .ok (.iload_n 2, 1) := by decide +kernel
theorem dX11_lot_35 : decode cX11_lot 35 = .ok (.iconst 1, 1) := by decide +kernel
theorem dX11_lot_36 : decode cX11_lot 36 = .ok (.if_icmp .ne 13, 3) := by decide +kernel
theorem dX11_lot_39 : decode cX11_lot 39 = .ok (.aload_n 0, 1) := by decide +kernel
theorem dX11_lot_40 : decode cX11_lot 40 = .ok (.getfield 64, 3) := by decide +kernel
theorem dX11_lot_43 : decode cX11_lot 43 = .ok (.iload_n 1, 1) := by decide +kernel
theorem dX11_lot_44 : decode cX11_lot 44 = .ok (.invokevirtual 332, 3) := by decide +kernel
theorem dX11_lot_47 : decode cX11_lot 47 = .ok (.i2l, 1) := by decide +kernel
theorem dX11_lot_48 : decode cX11_lot 48 = .ok (.lreturn, 1) := by decide +kernel
theorem dX11_lot_49 : decode cX11_lot 49 = .ok (.aload_n 0, 1) := by decide +kernel
theorem dX11_lot_50 : decode cX11_lot 50 = .ok (.getfield 64, 3) := by decide +kernel
theorem dX11_lot_53 : decode cX11_lot 53 = .ok (.iload_n 1, 1) := by decide +kernel
theorem dX11_lot_54 : decode cX11_lot 54 = .ok (.invokevirtual 335, 3) := by decide +kernel
theorem dX11_lot_57 : decode cX11_lot 57 = .ok (.lstore_n 3, 1) := by decide +kernel
theorem dX11_lot_58 : decode cX11_lot 58 = .ok (.aload_n 0, 1) := by decide +kernel
theorem dX11_lot_59 : decode cX11_lot 59 = .ok (.getfield 64, 3) := by decide +kernel
theorem dX11_lot_62 : decode cX11_lot 62 = .ok (.getfield 339, 3) := by decide +kernel
theorem dX11_lot_65 : decode cX11_lot 65 = .ok (.aload_n 0, 1) := by decide +kernel
theorem dX11_lot_66 : decode cX11_lot 66 = .ok (.getfield 64, 3) := by decide +kernel
theorem dX11_lot_69 : decode cX11_lot 69 = .ok (.invokevirtual 340, 3) := by decide +kernel
theorem dX11_lot_72 : decode cX11_lot 72 = .ok (.invokestatic 343, 3) := by decide +kernel
theorem dX11_lot_75 : decode cX11_lot 75 = .ok (.lstore 5, 2) := by decide +kernel
theorem dX11_lot_77 : decode cX11_lot 77 = .ok (.lconst 1, 1) := by decide +kernel
theorem dX11_lot_78 : decode cX11_lot 78 = .ok (.lload_n 3, 1) := by decide +kernel
theorem dX11_lot_79 : decode cX11_lot 79 = .ok (.lload 5, 2) := by decide +kernel
theorem dX11_lot_81 : decode cX11_lot 81 = .ok (.invokestatic 347, 3) := by decide +kernel
theorem dX11_lot_84 : decode cX11_lot 84 = .ok (.invokestatic 351, 3) := by decide +kernel
theorem dX11_lot_87 : decode cX11_lot 87 = .ok (.lstore 7, 2) := by decide +kernel
theorem dX11_lot_89 : decode cX11_lot 89 = .ok (.iload_n 2, 1) := by decide +kernel
theorem dX11_lot_90 : decode cX11_lot 90 = .ok (.iconst 2, 1) := by decide +kernel
theorem dX11_lot_91 : decode cX11_lot 91 = .ok (.if_icmp .ne 10, 3) := by decide +kernel
theorem dX11_lot_94 : decode cX11_lot 94 = .ok (.lload_n 3, 1) := by decide +kernel
theorem dX11_lot_95 : decode cX11_lot 95 = .ok (.lload 7, 2) := by decide +kernel
theorem dX11_lot_97 : decode cX11_lot 97 = .ok (.ldiv, 1) := by decide +kernel
theorem dX11_lot_98 : decode cX11_lot 98 = .ok (.goto 8, 3) := by decide +kernel
theorem dX11_lot_101 : decode cX11_lot 101 = .ok (.lload 5, 2) := by decide +kernel
theorem dX11_lot_103 : decode cX11_lot 103 = .ok (.lload 7, 2) := by decide +kernel
theorem dX11_lot_105 : decode cX11_lot 105 = .ok (.ldiv, 1) := by decide +kernel
theorem dX11_lot_106 : decode cX11_lot 106 = .ok (.lreturn, 1) := by decide +kernel
theorem dX11_worst_0 : decode cX11_worst 0 = .ok (.aload_n 0, 1) := by decide +kernel
theorem dX11_worst_1 : decode cX11_worst 1 = .ok (.getfield 64, 3) := by decide +kernel
theorem dX11_worst_4 : decode cX11_worst 4 = .ok (.invokevirtual 340, 3) := by decide +kernel
theorem dX11_worst_7 : decode cX11_worst 7 = .ok (.ifCond .ne 6, 3) := by decide +kernel
theorem dX11_worst_10 : decode cX11_worst 10 = .ok (.bipush (-4), 2) := by decide +kernel
theorem dX11_worst_12 : decode cX11_worst 12 = .ok (.ireturn, 1) := by decide +kernel
theorem dX11_worst_13 : decode cX11_worst 13 = .ok (.iconst 0, 1) := by decide +kernel
theorem dX11_worst_14 : decode cX11_worst 14 = .ok (.istore_n 1, 1) := by decide +kernel
theorem dX11_worst_15 : decode cX11_worst 15 = .ok (.aload_n 0, 1) := by decide +kernel
theorem dX11_worst_16 : decode cX11_worst 16 = .ok (.getfield 64, 3) := by decide +kernel
theorem dX11_worst_19 : decode cX11_worst 19 = .ok (.iconst 0, 1) := by decide +kernel
theorem dX11_worst_20 : decode cX11_worst 20 = .ok (.invokevirtual 335, 3) := by decide +kernel
theorem dX11_worst_23 : decode cX11_worst 23 = .ok (.lstore_n 2, 1) := by decide +kernel
theorem dX11_worst_24 : decode cX11_worst 24 = .ok (.iconst 1, 1) := by decide +kernel
theorem dX11_worst_25 : decode cX11_worst 25 = .ok (.istore 4, 2) := by decide +kernel
theorem dX11_worst_27 : decode cX11_worst 27 = .ok (.iload 4, 2) := by decide +kernel
theorem dX11_worst_29 : decode cX11_worst 29 = .ok (.bipush 6, 2) := by decide +kernel
theorem dX11_worst_31 : decode cX11_worst 31 = .ok (.if_icmp .ge 33, 3) := by decide +kernel
theorem dX11_worst_34 : decode cX11_worst 34 = .ok (.aload_n 0, 1) := by decide +kernel
theorem dX11_worst_35 : decode cX11_worst 35 = .ok (.getfield 64, 3) := by decide +kernel
theorem dX11_worst_38 : decode cX11_worst 38 = .ok (.iload 4, 2) := by decide +kernel
theorem dX11_worst_40 : decode cX11_worst 40 = .ok (.invokevirtual 335, 3) := by decide +kernel
theorem dX11_worst_43 : decode cX11_worst 43 = .ok (.lstore 5, 2) := by decide +kernel
theorem dX11_worst_45 : decode cX11_worst 45 = .ok (.lload 5, 2) := by decide +kernel
theorem dX11_worst_47 : decode cX11_worst 47 = .ok (.lload_n 2, 1) := by decide +kernel
theorem dX11_worst_48 : decode cX11_worst 48 = .ok (.lcmp, 1) := by decide +kernel
theorem dX11_worst_49 : decode cX11_worst 49 = .ok (.ifCond .ge 9, 3) := by decide +kernel
theorem dX11_worst_52 : decode cX11_worst 52 = .ok (.lload 5, 2) := by decide +kernel
theorem dX11_worst_54 : decode cX11_worst 54 = .ok (.lstore_n 2, 1) := by decide +kernel
theorem dX11_worst_55 : decode cX11_worst 55 = .ok (.iload 4, 2) := by decide +kernel
theorem dX11_worst_57 : decode cX11_worst 57 = .ok (.istore_n 1, 1) := by decide +kernel
theorem dX11_worst_58 : decode cX11_worst 58 = .ok (.iinc 4 1, 3) := by decide +kernel
theorem dX11_worst_61 : decode cX11_worst 61 = .ok (.goto (-34), 3) := by decide +kernel
theorem dX11_worst_64 : decode cX11_worst 64 = .ok (.iload_n 1, 1) := by decide +kernel
theorem dX11_worst_65 : decode cX11_worst 65 = .ok (.ireturn, 1) := by decide +kernel
theorem dX11_sheet_0 : decode cX11_sheet 0 = .ok (.iload_n 1, 1) := by decide +kernel
theorem dX11_sheet_1 : decode cX11_sheet 1 = .ok (.invokestatic 356, 3) := by decide +kernel
theorem dX11_sheet_4 : decode cX11_sheet 4 = .ok (.ifCond .eq 16, 3) := by decide +kernel
theorem dX11_sheet_7 : decode cX11_sheet 7 = .ok (.iload_n 2, 1) := by decide +kernel
theorem dX11_sheet_8 : decode cX11_sheet 8 = .ok (.invokestatic 359, 3) := by decide +kernel
theorem dX11_sheet_11 : decode cX11_sheet 11 = .ok (.ifCond .eq 9, 3) := by decide +kernel
theorem dX11_sheet_14 : decode cX11_sheet 14 = .ok (.iload_n 3, 1) := by decide +kernel
theorem dX11_sheet_15 : decode cX11_sheet 15 = .ok (.bipush 60, 2) := by decide +kernel
theorem dX11_sheet_17 : decode cX11_sheet 17 = .ok (.if_icmp .le 5, 3) := by decide +kernel
theorem dX11_sheet_20 : decode cX11_sheet 20 = .ok (.iconst (-1), 1) := by decide +kernel
theorem dX11_sheet_21 : decode cX11_sheet 21 = .ok (.ireturn, 1) := by decide +kernel
theorem dX11_sheet_22 : decode cX11_sheet 22 = .ok (.iload_n 3, 1) := by decide +kernel
theorem dX11_sheet_23 : decode cX11_sheet 23 = .ok (.ifCond .ge 6, 3) := by decide +kernel
theorem dX11_sheet_26 : decode cX11_sheet 26 = .ok (.bipush (-14), 2) := by decide +kernel
theorem dX11_sheet_28 : decode cX11_sheet 28 = .ok (.ireturn, 1) := by decide +kernel
theorem dX11_sheet_29 : decode cX11_sheet 29 = .ok (.aload_n 0, 1) := by decide +kernel
theorem dX11_sheet_30 : decode cX11_sheet 30 = .ok (.getfield 85, 3) := by decide +kernel
theorem dX11_sheet_33 : decode cX11_sheet 33 = .ok (.iload_n 1, 1) := by decide +kernel
theorem dX11_sheet_34 : decode cX11_sheet 34 = .ok (.iload_n 2, 1) := by decide +kernel
theorem dX11_sheet_35 : decode cX11_sheet 35 = .ok (.iload_n 3, 1) := by decide +kernel
theorem dX11_sheet_36 : decode cX11_sheet 36 = .ok (.invokevirtual 362, 3) := by decide +kernel
theorem dX11_sheet_39 : decode cX11_sheet 39 = .ok (.iconst 1, 1) := by decide +kernel
theorem dX11_sheet_40 : decode cX11_sheet 40 = .ok (.ireturn, 1) := by decide +kernel
theorem dX11_lay_0 : decode cX11_lay 0 = .ok (.iload_n 1, 1) := by decide +kernel
theorem dX11_lay_1 : decode cX11_lay 1 = .ok (.invokestatic 356, 3) := by decide +kernel
theorem dX11_lay_4 : decode cX11_lay 4 = .ok (.ifCond .ne 5, 3) := by decide +kernel
theorem dX11_lay_7 : decode cX11_lay 7 = .ok (.iconst (-1), 1) := by decide +kernel
theorem dX11_lay_8 : decode cX11_lay 8 = .ok (.ireturn, 1) := by decide +kernel
theorem dX11_lay_9 : decode cX11_lay 9 = .ok (.aload_n 0, 1) := by decide +kernel
theorem dX11_lay_10 : decode cX11_lay 10 = .ok (.getfield 85, 3) := by decide +kernel
theorem dX11_lay_13 : decode cX11_lay 13 = .ok (.iload_n 1, 1) := by decide +kernel
theorem dX11_lay_14 : decode cX11_lay 14 = .ok (.invokevirtual 365, 3) := by decide +kernel
theorem dX11_lay_17 : decode cX11_lay 17 = .ok (.ifCond .eq 6, 3) := by decide +kernel
theorem dX11_lay_20 : decode cX11_lay 20 = .ok (.bipush (-11), 2) := by decide +kernel
theorem dX11_lay_22 : decode cX11_lay 22 = .ok (.ireturn, 1) := by decide +kernel
theorem dX11_lay_23 : decode cX11_lay 23 = .ok (.aload_n 0, 1) := by decide +kernel
theorem dX11_lay_24 : decode cX11_lay 24 = .ok (.getfield 85, 3) := by decide +kernel
theorem dX11_lay_27 : decode cX11_lay 27 = .ok (.iload_n 1, 1) := by decide +kernel
theorem dX11_lay_28 : decode cX11_lay 28 = .ok (.iload_n 2, 1) := by decide +kernel
theorem dX11_lay_29 : decode cX11_lay 29 = .ok (.invokevirtual 368, 3) := by decide +kernel
theorem dX11_lay_32 : decode cX11_lay 32 = .ok (.ifCond .ne 6, 3) := by decide +kernel
theorem dX11_lay_35 : decode cX11_lay 35 = .ok (.bipush (-12), 2) := by decide +kernel
theorem dX11_lay_37 : decode cX11_lay 37 = .ok (.ireturn, 1) := by decide +kernel
theorem dX11_lay_38 : decode cX11_lay 38 = .ok (.aload_n 0, 1) := by decide +kernel
theorem dX11_lay_39 : decode cX11_lay 39 = .ok (.getfield 85, 3) := by decide +kernel
theorem dX11_lay_42 : decode cX11_lay 42 = .ok (.iload_n 1, 1) := by decide +kernel
theorem dX11_lay_43 : decode cX11_lay 43 = .ok (.iload_n 2, 1) := by decide +kernel
theorem dX11_lay_44 : decode cX11_lay 44 = .ok (.iload_n 3, 1) := by decide +kernel
theorem dX11_lay_45 : decode cX11_lay 45 = .ok (.invokevirtual 371, 3) := by decide +kernel
theorem dX11_lay_48 : decode cX11_lay 48 = .ok (.iconst 1, 1) := by decide +kernel
theorem dX11_lay_49 : decode cX11_lay 49 = .ok (.ireturn, 1) := by decide +kernel
theorem dX11_scan_0 : decode cX11_scan 0 = .ok (.iload_n 1, 1) := by decide +kernel
theorem dX11_scan_1 : decode cX11_scan 1 = .ok (.invokestatic 356, 3) := by decide +kernel
theorem dX11_scan_4 : decode cX11_scan 4 = .ok (.ifCond .eq 10, 3) := by decide +kernel
theorem dX11_scan_7 : decode cX11_scan 7 = .ok (.iload_n 2, 1) := by decide +kernel
theorem dX11_scan_8 : decode cX11_scan 8 = .ok (.invokestatic 359, 3) := by decide +kernel
theorem dX11_scan_11 : decode cX11_scan 11 = .ok (.ifCond .ne 5, 3) := by decide +kernel
theorem dX11_scan_14 : decode cX11_scan 14 = .ok (.iconst (-1), 1) := by decide +kernel
theorem dX11_scan_15 : decode cX11_scan 15 = .ok (.ireturn, 1) := by decide +kernel
theorem dX11_scan_16 : decode cX11_scan 16 = .ok (.aload_n 0, 1) := by decide +kernel
theorem dX11_scan_17 : decode cX11_scan 17 = .ok (.getfield 85, 3) := by decide +kernel
theorem dX11_scan_20 : decode cX11_scan 20 = .ok (.iload_n 1, 1) := by decide +kernel
theorem dX11_scan_21 : decode cX11_scan 21 = .ok (.invokevirtual 365, 3) := by decide +kernel
theorem dX11_scan_24 : decode cX11_scan 24 = .ok (.ifCond .eq 6, 3) := by decide +kernel
theorem dX11_scan_27 : decode cX11_scan 27 = .ok (.bipush (-11), 2) := by decide +kernel
theorem dX11_scan_29 : decode cX11_scan 29 = .ok (.ireturn, 1) := by decide +kernel
theorem dX11_scan_30 : decode cX11_scan 30 = .ok (.aload_n 0, 1) := by decide +kernel
theorem dX11_scan_31 : decode cX11_scan 31 = .ok (.getfield 85, 3) := by decide +kernel
theorem dX11_scan_34 : decode cX11_scan 34 = .ok (.getfield 374, 3) := by decide +kernel
theorem dX11_scan_37 : decode cX11_scan 37 = .ok (.iload_n 1, 1) := by decide +kernel
theorem dX11_scan_38 : decode cX11_scan 38 = .ok (.iaload, 1) := by decide +kernel
theorem dX11_scan_39 : decode cX11_scan 39 = .ok (.iload_n 2, 1) := by decide +kernel
theorem dX11_scan_40 : decode cX11_scan 40 = .ok (.if_icmp .eq 6, 3) := by decide +kernel
theorem dX11_scan_43 : decode cX11_scan 43 = .ok (.bipush (-13), 2) := by decide +kernel
theorem dX11_scan_45 : decode cX11_scan 45 = .ok (.ireturn, 1) := by decide +kernel
theorem dX11_scan_46 : decode cX11_scan 46 = .ok (.iconst 3, 1) := by decide +kernel
theorem dX11_scan_47 : decode cX11_scan 47 = .ok (.aload_n 0, 1) := by decide +kernel
theorem dX11_scan_48 : decode cX11_scan 48 = .ok (.getfield 10, 3) := by decide +kernel
theorem dX11_scan_51 : decode cX11_scan 51 = .ok (.getfield 377, 3) := by decide +kernel
theorem dX11_scan_54 : decode cX11_scan 54 = .ok (.imul, 1) := by decide +kernel
theorem dX11_scan_55 : decode cX11_scan 55 = .ok (.istore 4, 2) := by decide +kernel
theorem dX11_scan_57 : decode cX11_scan 57 = .ok (.iconst 0, 1) := by decide +kernel
theorem dX11_scan_58 : decode cX11_scan 58 = .ok (.istore 5, 2) := by decide +kernel
theorem dX11_scan_60 : decode cX11_scan 60 = .ok (.iload 5, 2) := by decide +kernel
theorem dX11_scan_62 : decode cX11_scan 62 = .ok (.iload 4, 2) := by decide +kernel
theorem dX11_scan_64 : decode cX11_scan 64 = .ok (.if_icmp .ge 27, 3) := by decide +kernel
theorem dX11_scan_67 : decode cX11_scan 67 = .ok (.aload_n 0, 1) := by decide +kernel
theorem dX11_scan_68 : decode cX11_scan 68 = .ok (.iload_n 1, 1) := by decide +kernel
theorem dX11_scan_69 : decode cX11_scan 69 = .ok (.iload_n 3, 1) := by decide +kernel
theorem dX11_scan_70 : decode cX11_scan 70 = .ok (.iload 5, 2) := by decide +kernel
theorem dX11_scan_72 : decode cX11_scan 72 = .ok (.invokevirtual 378, 3) := by decide +kernel
theorem dX11_scan_75 : decode cX11_scan 75 = .ok (.istore 6, 2) := by decide +kernel
theorem dX11_scan_77 : decode cX11_scan 77 = .ok (.iload 6, 2) := by decide +kernel
theorem dX11_scan_79 : decode cX11_scan 79 = .ok (.ifCond .eq 6, 3) := by decide +kernel
theorem dX11_scan_82 : decode cX11_scan 82 = .ok (.iload 6, 2) := by decide +kernel
theorem dX11_scan_84 : decode cX11_scan 84 = .ok (.ireturn, 1) := by decide +kernel
theorem dX11_scan_85 : decode cX11_scan 85 = .ok (.iinc 5 1, 3) := by decide +kernel
theorem dX11_scan_88 : decode cX11_scan 88 = .ok (.goto (-28), 3) := by decide +kernel
theorem dX11_scan_91 : decode cX11_scan 91 = .ok (.aload_n 0, 1) := by decide +kernel
theorem dX11_scan_92 : decode cX11_scan 92 = .ok (.getfield 19, 3) := by decide +kernel
theorem dX11_scan_95 : decode cX11_scan 95 = .ok (.getfield 381, 3) := by decide +kernel
theorem dX11_scan_98 : decode cX11_scan 98 = .ok (.iload 4, 2) := by decide +kernel
theorem dX11_scan_100 : decode cX11_scan 100 = .ok (.iadd, 1) := by decide +kernel
theorem dX11_scan_101 : decode cX11_scan 101 = .ok (.bipush 60, 2) := by decide +kernel
theorem dX11_scan_103 : decode cX11_scan 103 = .ok (.if_icmp .le 6, 3) := by decide +kernel
theorem dX11_scan_106 : decode cX11_scan 106 = .ok (.bipush (-3), 2) := by decide +kernel
theorem dX11_scan_108 : decode cX11_scan 108 = .ok (.ireturn, 1) := by decide +kernel
theorem dX11_scan_109 : decode cX11_scan 109 = .ok (.iconst 0, 1) := by decide +kernel
theorem dX11_scan_110 : decode cX11_scan 110 = .ok (.istore 5, 2) := by decide +kernel
theorem dX11_scan_112 : decode cX11_scan 112 = .ok (.iload 5, 2) := by decide +kernel
theorem dX11_scan_114 : decode cX11_scan 114 = .ok (.iload 4, 2) := by decide +kernel
theorem dX11_scan_116 : decode cX11_scan 116 = .ok (.if_icmp .ge 47, 3) := by decide +kernel
theorem dX11_scan_119 : decode cX11_scan 119 = .ok (.aload_n 0, 1) := by decide +kernel
theorem dX11_scan_120 : decode cX11_scan 120 = .ok (.getfield 19, 3) := by decide +kernel
theorem dX11_scan_123 : decode cX11_scan 123 = .ok (.iload 5, 2) := by decide +kernel
theorem dX11_scan_125 : decode cX11_scan 125 = .ok (.iconst 3, 1) := by decide +kernel
theorem dX11_scan_126 : decode cX11_scan 126 = .ok (.idiv, 1) := by decide +kernel
theorem dX11_scan_127 : decode cX11_scan 127 = .ok (.iload 5, 2) := by decide +kernel
theorem dX11_scan_129 : decode cX11_scan 129 = .ok (.iconst 3, 1) := by decide +kernel
theorem dX11_scan_130 : decode cX11_scan 130 = .ok (.irem, 1) := by decide +kernel
theorem dX11_scan_131 : decode cX11_scan 131 = .ok (.aload_n 0, 1) := by decide +kernel
theorem dX11_scan_132 : decode cX11_scan 132 = .ok (.getfield 85, 3) := by decide +kernel
theorem dX11_scan_135 : decode cX11_scan 135 = .ok (.getfield 382, 3) := by decide +kernel
theorem dX11_scan_138 : decode cX11_scan 138 = .ok (.iload_n 1, 1) := by decide +kernel
theorem dX11_scan_139 : decode cX11_scan 139 = .ok (.aaload, 1) := by decide +kernel
theorem dX11_scan_140 : decode cX11_scan 140 = .ok (.iload_n 3, 1) := by decide +kernel
theorem dX11_scan_141 : decode cX11_scan 141 = .ok (.iload 5, 2) := by decide +kernel
theorem dX11_scan_143 : decode cX11_scan 143 = .ok (.iadd, 1) := by decide +kernel
theorem dX11_scan_144 : decode cX11_scan 144 = .ok (.iaload, 1) := by decide +kernel
theorem dX11_scan_145 : decode cX11_scan 145 = .ok (.aload_n 0, 1) := by decide +kernel
theorem dX11_scan_146 : decode cX11_scan 146 = .ok (.getfield 89, 3) := by decide +kernel
theorem dX11_scan_149 : decode cX11_scan 149 = .ok (.aload_n 0, 1) := by decide +kernel
theorem dX11_scan_150 : decode cX11_scan 150 = .ok (.getfield 89, 3) := by decide +kernel
theorem dX11_scan_153 : decode cX11_scan 153 = .ok (.invokevirtual 122, 3) := by decide +kernel
theorem dX11_scan_156 : decode cX11_scan 156 = .ok (.pop, 1) := by decide +kernel
theorem dX11_scan_157 : decode cX11_scan 157 = .ok (.iinc 5 1, 3) := by decide +kernel
theorem dX11_scan_160 : decode cX11_scan 160 = .ok (.goto (-48), 3) := by decide +kernel
theorem dX11_scan_163 : decode cX11_scan 163 = .ok (.aload_n 0, 1) := by decide +kernel
theorem dX11_scan_164 : decode cX11_scan 164 = .ok (.getfield 19, 3) := by decide +kernel
theorem dX11_scan_167 : decode cX11_scan 167 = .ok (.getfield 381, 3) := by decide +kernel
theorem dX11_scan_170 : decode cX11_scan 170 = .ok (.ireturn, 1) := by decide +kernel
theorem dX11_count_0 : decode cX11_count 0 = .ok (.iload_n 1, 1) := by decide +kernel
theorem dX11_count_1 : decode cX11_count 1 = .ok (.tableswitch 202 0 12 #[67, 75, 83, 91, 99, 107, 115, 139, 147, 155, 160, 168, 176], 67) := by decide +kernel
theorem dX11_count_68 : decode cX11_count 68 = .ok (.aload_n 0, 1) := by decide +kernel
theorem dX11_count_69 : decode cX11_count 69 = .ok (.getfield 10, 3) := by decide +kernel
theorem dX11_count_72 : decode cX11_count 72 = .ok (.getfield 377, 3) := by decide +kernel
theorem dX11_count_75 : decode cX11_count 75 = .ok (.ireturn, 1) := by decide +kernel
theorem dX11_count_76 : decode cX11_count 76 = .ok (.aload_n 0, 1) := by decide +kernel
theorem dX11_count_77 : decode cX11_count 77 = .ok (.getfield 26, 3) := by decide +kernel
theorem dX11_count_80 : decode cX11_count 80 = .ok (.getfield 166, 3) := by decide +kernel
theorem dX11_count_83 : decode cX11_count 83 = .ok (.ireturn, 1) := by decide +kernel
theorem dX11_count_84 : decode cX11_count 84 = .ok (.aload_n 0, 1) := by decide +kernel
theorem dX11_count_85 : decode cX11_count 85 = .ok (.getfield 57, 3) := by decide +kernel
theorem dX11_count_88 : decode cX11_count 88 = .ok (.getfield 385, 3) := by decide +kernel
theorem dX11_count_91 : decode cX11_count 91 = .ok (.ireturn, 1) := by decide +kernel
theorem dX11_count_92 : decode cX11_count 92 = .ok (.aload_n 0, 1) := by decide +kernel
theorem dX11_count_93 : decode cX11_count 93 = .ok (.getfield 64, 3) := by decide +kernel
theorem dX11_count_96 : decode cX11_count 96 = .ok (.getfield 339, 3) := by decide +kernel
theorem dX11_count_99 : decode cX11_count 99 = .ok (.ireturn, 1) := by decide +kernel
theorem dX11_count_100 : decode cX11_count 100 = .ok (.aload_n 0, 1) := by decide +kernel
theorem dX11_count_101 : decode cX11_count 101 = .ok (.getfield 64, 3) := by decide +kernel
theorem dX11_count_104 : decode cX11_count 104 = .ok (.invokevirtual 386, 3) := by decide +kernel
theorem dX11_count_107 : decode cX11_count 107 = .ok (.ireturn, 1) := by decide +kernel
theorem dX11_count_108 : decode cX11_count 108 = .ok (.aload_n 0, 1) := by decide +kernel
theorem dX11_count_109 : decode cX11_count 109 = .ok (.getfield 64, 3) := by decide +kernel
theorem dX11_count_112 : decode cX11_count 112 = .ok (.invokevirtual 389, 3) := by decide +kernel
theorem dX11_count_115 : decode cX11_count 115 = .ok (.ireturn, 1) := by decide +kernel
theorem dX11_count_116 : decode cX11_count 116 = .ok (.aload_n 0, 1) := by decide +kernel
theorem dX11_count_117 : decode cX11_count 117 = .ok (.getfield 64, 3) := by decide +kernel
theorem dX11_count_120 : decode cX11_count 120 = .ok (.getfield 339, 3) := by decide +kernel
theorem dX11_count_123 : decode cX11_count 123 = .ok (.aload_n 0, 1) := by decide +kernel
theorem dX11_count_124 : decode cX11_count 124 = .ok (.getfield 64, 3) := by decide +kernel
theorem dX11_count_127 : decode cX11_count 127 = .ok (.invokevirtual 386, 3) := by decide +kernel
theorem dX11_count_130 : decode cX11_count 130 = .ok (.isub, 1) := by decide +kernel
theorem dX11_count_131 : decode cX11_count 131 = .ok (.aload_n 0, 1) := by decide +kernel
theorem dX11_count_132 : decode cX11_count 132 = .ok (.getfield 64, 3) := by decide +kernel
theorem dX11_count_135 : decode cX11_count 135 = .ok (.invokevirtual 389, 3) := by decide +kernel
theorem dX11_count_138 : decode cX11_count 138 = .ok (.isub, 1) := by decide +kernel
theorem dX11_count_139 : decode cX11_count 139 = .ok (.ireturn, 1) := by decide +kernel
theorem dX11_count_140 : decode cX11_count 140 = .ok (.aload_n 0, 1) := by decide +kernel
theorem dX11_count_141 : decode cX11_count 141 = .ok (.getfield 47, 3) := by decide +kernel
theorem dX11_count_144 : decode cX11_count 144 = .ok (.getfield 209, 3) := by decide +kernel
theorem dX11_count_147 : decode cX11_count 147 = .ok (.ireturn, 1) := by decide +kernel
theorem dX11_count_148 : decode cX11_count 148 = .ok (.aload_n 0, 1) := by decide +kernel
theorem dX11_count_149 : decode cX11_count 149 = .ok (.getfield 19, 3) := by decide +kernel
theorem dX11_count_152 : decode cX11_count 152 = .ok (.getfield 381, 3) := by decide +kernel
theorem dX11_count_155 : decode cX11_count 155 = .ok (.ireturn, 1) := by decide +kernel
theorem dX11_count_156 : decode cX11_count 156 = .ok (.aload_n 0, 1) := by decide +kernel
theorem dX11_count_157 : decode cX11_count 157 = .ok (.getfield 89, 3) := by decide +kernel
theorem dX11_count_160 : decode cX11_count 160 = .ok (.ireturn, 1) := by decide +kernel
theorem dX11_count_161 : decode cX11_count 161 = .ok (.aload_n 0, 1) := by decide +kernel
theorem dX11_count_162 : decode cX11_count 162 = .ok (.getfield 10, 3) := by decide +kernel
theorem dX11_count_165 : decode cX11_count 165 = .ok (.invokevirtual 392, 3) := by decide +kernel
theorem dX11_count_168 : decode cX11_count 168 = .ok (.ireturn, 1) := by decide +kernel
theorem dX11_count_169 : decode cX11_count 169 = .ok (.aload_n 0, 1) := by decide +kernel
theorem dX11_count_170 : decode cX11_count 170 = .ok (.getfield 33, 3) := by decide +kernel
theorem dX11_count_173 : decode cX11_count 173 = .ok (.getfield 203, 3) := by decide +kernel
theorem dX11_count_176 : decode cX11_count 176 = .ok (.ireturn, 1) := by decide +kernel
theorem dX11_count_177 : decode cX11_count 177 = .ok (.aload_n 0, 1) := by decide +kernel
theorem dX11_count_178 : decode cX11_count 178 = .ok (.getfield 85, 3) := by decide +kernel
theorem dX11_count_181 : decode cX11_count 181 = .ok (.iconst 0, 1) := by decide +kernel
theorem dX11_count_182 : decode cX11_count 182 = .ok (.invokevirtual 365, 3) := by decide +kernel
theorem dX11_count_185 : decode cX11_count 185 = .ok (.ifCond .eq 8, 3) := by decide +kernel
theorem dX11_count_188 : decode cX11_count 188 = .ok (.bipush (-4), 2) := by decide +kernel
theorem dX11_count_190 : decode cX11_count 190 = .ok (.goto 12, 3) := by decide +kernel
theorem dX11_count_193 : decode cX11_count 193 = .ok (.aload_n 0, 1) := by decide +kernel
theorem dX11_count_194 : decode cX11_count 194 = .ok (.getfield 85, 3) := by decide +kernel
theorem dX11_count_197 : decode cX11_count 197 = .ok (.getfield 395, 3) := by decide +kernel
theorem dX11_count_200 : decode cX11_count 200 = .ok (.iconst 0, 1) := by decide +kernel
theorem dX11_count_201 : decode cX11_count 201 = .ok (.iaload, 1) := by decide +kernel
theorem dX11_count_202 : decode cX11_count 202 = .ok (.ireturn, 1) := by decide +kernel
theorem dX11_count_203 : decode cX11_count 203 = .ok (.iconst (-1), 1) := by decide +kernel
theorem dX11_count_204 : decode cX11_count 204 = .ok (.ireturn, 1) := by decide +kernel
theorem dX11_isWithin_0 : decode cX11_isWithin 0 = .ok (.iload_n 0, 1) := by decide +kernel
theorem dX11_isWithin_1 : decode cX11_isWithin 1 = .ok (.iload_n 1, 1) := by decide +kernel
theorem dX11_isWithin_2 : decode cX11_isWithin 2 = .ok (.if_icmp .lt 12, 3) := by decide +kernel
theorem dX11_isWithin_5 : decode cX11_isWithin 5 = .ok (.iload_n 0, 1) := by decide +kernel
theorem dX11_isWithin_6 : decode cX11_isWithin 6 = .ok (.iload_n 2, 1) := by decide +kernel
theorem dX11_isWithin_7 : decode cX11_isWithin 7 = .ok (.if_icmp .gt 7, 3) := by decide +kernel
theorem dX11_isWithin_10 : decode cX11_isWithin 10 = .ok (.iconst 1, 1) := by decide +kernel
theorem dX11_isWithin_11 : decode cX11_isWithin 11 = .ok (.goto 4, 3) := by decide +kernel
theorem dX11_isWithin_14 : decode cX11_isWithin 14 = .ok (.iconst 0, 1) := by decide +kernel
theorem dX11_isWithin_15 : decode cX11_isWithin 15 = .ok (.ireturn, 1) := by decide +kernel
theorem dX11_isDay_0 : decode cX11_isDay 0 = .ok (.iload_n 0, 1) := by decide +kernel
theorem dX11_isDay_1 : decode cX11_isDay 1 = .ok (.iconst 0, 1) := by decide +kernel
theorem dX11_isDay_2 : decode cX11_isDay 2 = .ok (.sipush 9999, 3) := by decide +kernel
theorem dX11_isDay_5 : decode cX11_isDay 5 = .ok (.invokestatic 93, 3) := by decide +kernel
theorem dX11_isDay_8 : decode cX11_isDay 8 = .ok (.ireturn, 1) := by decide +kernel
theorem dX11_isKind_0 : decode cX11_isKind 0 = .ok (.iload_n 0, 1) := by decide +kernel
theorem dX11_isKind_1 : decode cX11_isKind 1 = .ok (.iconst 0, 1) := by decide +kernel
theorem dX11_isKind_2 : decode cX11_isKind 2 = .ok (.iconst 3, 1) := by decide +kernel
theorem dX11_isKind_3 : decode cX11_isKind 3 = .ok (.invokestatic 93, 3) := by decide +kernel
theorem dX11_isKind_6 : decode cX11_isKind 6 = .ok (.ireturn, 1) := by decide +kernel
theorem dX11_isTrait_0 : decode cX11_isTrait 0 = .ok (.iload_n 0, 1) := by decide +kernel
theorem dX11_isTrait_1 : decode cX11_isTrait 1 = .ok (.tableswitch 48 0 2 #[27, 34, 41], 27) := by decide +kernel
theorem dX11_isTrait_28 : decode cX11_isTrait 28 = .ok (.iload_n 1, 1) := by decide +kernel
theorem dX11_isTrait_29 : decode cX11_isTrait 29 = .ok (.iconst 0, 1) := by decide +kernel
theorem dX11_isTrait_30 : decode cX11_isTrait 30 = .ok (.iconst 5, 1) := by decide +kernel
theorem dX11_isTrait_31 : decode cX11_isTrait 31 = .ok (.invokestatic 93, 3) := by decide +kernel
theorem dX11_isTrait_34 : decode cX11_isTrait 34 = .ok (.ireturn, 1) := by decide +kernel
theorem dX11_isTrait_35 : decode cX11_isTrait 35 = .ok (.iload_n 1, 1) := by decide +kernel
theorem dX11_isTrait_36 : decode cX11_isTrait 36 = .ok (.iconst 0, 1) := by decide +kernel
theorem dX11_isTrait_37 : decode cX11_isTrait 37 = .ok (.iconst 3, 1) := by decide +kernel
theorem dX11_isTrait_38 : decode cX11_isTrait 38 = .ok (.invokestatic 93, 3) := by decide +kernel
theorem dX11_isTrait_41 : decode cX11_isTrait 41 = .ok (.ireturn, 1) := by decide +kernel
theorem dX11_isTrait_42 : decode cX11_isTrait 42 = .ok (.iload_n 1, 1) := by decide +kernel
theorem dX11_isTrait_43 : decode cX11_isTrait 43 = .ok (.iconst 0, 1) := by decide +kernel
theorem dX11_isTrait_44 : decode cX11_isTrait 44 = .ok (.iconst 2, 1) := by decide +kernel
theorem dX11_isTrait_45 : decode cX11_isTrait 45 = .ok (.invokestatic 93, 3) := by decide +kernel
theorem dX11_isTrait_48 : decode cX11_isTrait 48 = .ok (.ireturn, 1) := by decide +kernel
theorem dX11_isTrait_49 : decode cX11_isTrait 49 = .ok (.iconst 0, 1) := by decide +kernel
theorem dX11_isTrait_50 : decode cX11_isTrait 50 = .ok (.ireturn, 1) := by decide +kernel
theorem dX11_isMeasureKind_0 : decode cX11_isMeasureKind 0 = .ok (.iload_n 0, 1) := by decide +kernel
theorem dX11_isMeasureKind_1 : decode cX11_isMeasureKind 1 = .ok (.iconst 0, 1) := by decide +kernel
theorem dX11_isMeasureKind_2 : decode cX11_isMeasureKind 2 = .ok (.iconst 2, 1) := by decide +kernel
theorem dX11_isMeasureKind_3 : decode cX11_isMeasureKind 3 = .ok (.invokestatic 93, 3) := by decide +kernel
theorem dX11_isMeasureKind_6 : decode cX11_isMeasureKind 6 = .ok (.ireturn, 1) := by decide +kernel
theorem dX11_isMeasure_0 : decode cX11_isMeasure 0 = .ok (.iload_n 0, 1) := by decide +kernel
theorem dX11_isMeasure_1 : decode cX11_isMeasure 1 = .ok (.iconst 0, 1) := by decide +kernel
theorem dX11_isMeasure_2 : decode cX11_isMeasure 2 = .ok (.sipush 250, 3) := by decide +kernel
theorem dX11_isMeasure_5 : decode cX11_isMeasure 5 = .ok (.invokestatic 93, 3) := by decide +kernel
theorem dX11_isMeasure_8 : decode cX11_isMeasure 8 = .ok (.ireturn, 1) := by decide +kernel
theorem dX11_isSpan_0 : decode cX11_isSpan 0 = .ok (.iload_n 0, 1) := by decide +kernel
theorem dX11_isSpan_1 : decode cX11_isSpan 1 = .ok (.invokestatic 116, 3) := by decide +kernel
theorem dX11_isSpan_4 : decode cX11_isSpan 4 = .ok (.ifCond .eq 19, 3) := by decide +kernel
theorem dX11_isSpan_7 : decode cX11_isSpan 7 = .ok (.iload_n 1, 1) := by decide +kernel
theorem dX11_isSpan_8 : decode cX11_isSpan 8 = .ok (.invokestatic 116, 3) := by decide +kernel
theorem dX11_isSpan_11 : decode cX11_isSpan 11 = .ok (.ifCond .eq 12, 3) := by decide +kernel
theorem dX11_isSpan_14 : decode cX11_isSpan 14 = .ok (.iload_n 0, 1) := by decide +kernel
theorem dX11_isSpan_15 : decode cX11_isSpan 15 = .ok (.iload_n 1, 1) := by decide +kernel
theorem dX11_isSpan_16 : decode cX11_isSpan 16 = .ok (.if_icmp .gt 7, 3) := by decide +kernel
theorem dX11_isSpan_19 : decode cX11_isSpan 19 = .ok (.iconst 1, 1) := by decide +kernel
theorem dX11_isSpan_20 : decode cX11_isSpan 20 = .ok (.goto 4, 3) := by decide +kernel
theorem dX11_isSpan_23 : decode cX11_isSpan 23 = .ok (.iconst 0, 1) := by decide +kernel
theorem dX11_isSpan_24 : decode cX11_isSpan 24 = .ok (.ireturn, 1) := by decide +kernel
theorem dX11_isLot_0 : decode cX11_isLot 0 = .ok (.iload_n 0, 1) := by decide +kernel
theorem dX11_isLot_1 : decode cX11_isLot 1 = .ok (.iconst 0, 1) := by decide +kernel
theorem dX11_isLot_2 : decode cX11_isLot 2 = .ok (.iconst 5, 1) := by decide +kernel
theorem dX11_isLot_3 : decode cX11_isLot 3 = .ok (.invokestatic 93, 3) := by decide +kernel
theorem dX11_isLot_6 : decode cX11_isLot 6 = .ok (.ireturn, 1) := by decide +kernel
theorem dX11_isShade_0 : decode cX11_isShade 0 = .ok (.iload_n 0, 1) := by decide +kernel
theorem dX11_isShade_1 : decode cX11_isShade 1 = .ok (.iconst 0, 1) := by decide +kernel
theorem dX11_isShade_2 : decode cX11_isShade 2 = .ok (.bipush 99, 2) := by decide +kernel
theorem dX11_isShade_4 : decode cX11_isShade 4 = .ok (.invokestatic 93, 3) := by decide +kernel
theorem dX11_isShade_7 : decode cX11_isShade 7 = .ok (.ireturn, 1) := by decide +kernel
theorem dX11_isSheet_0 : decode cX11_isSheet 0 = .ok (.iload_n 0, 1) := by decide +kernel
theorem dX11_isSheet_1 : decode cX11_isSheet 1 = .ok (.iconst 0, 1) := by decide +kernel
theorem dX11_isSheet_2 : decode cX11_isSheet 2 = .ok (.iconst 3, 1) := by decide +kernel
theorem dX11_isSheet_3 : decode cX11_isSheet 3 = .ok (.invokestatic 93, 3) := by decide +kernel
theorem dX11_isSheet_6 : decode cX11_isSheet 6 = .ok (.ireturn, 1) := by decide +kernel
theorem dX11_isLane_0 : decode cX11_isLane 0 = .ok (.iload_n 0, 1) := by decide +kernel
theorem dX11_isLane_1 : decode cX11_isLane 1 = .ok (.iconst 0, 1) := by decide +kernel
theorem dX11_isLane_2 : decode cX11_isLane 2 = .ok (.iconst 2, 1) := by decide +kernel
theorem dX11_isLane_3 : decode cX11_isLane 3 = .ok (.invokestatic 93, 3) := by decide +kernel
theorem dX11_isLane_6 : decode cX11_isLane 6 = .ok (.ireturn, 1) := by decide +kernel
theorem dX11_measureNow_0 : decode cX11_measureNow 0 = .ok (.aload_n 0, 1) := by decide +kernel
theorem dX11_measureNow_1 : decode cX11_measureNow 1 = .ok (.getfield 19, 3) := by decide +kernel
theorem dX11_measureNow_4 : decode cX11_measureNow 4 = .ok (.iload_n 1, 1) := by decide +kernel
theorem dX11_measureNow_5 : decode cX11_measureNow 5 = .ok (.iload_n 2, 1) := by decide +kernel
theorem dX11_measureNow_6 : decode cX11_measureNow 6 = .ok (.aload_n 0, 1) := by decide +kernel
theorem dX11_measureNow_7 : decode cX11_measureNow 7 = .ok (.getfield 89, 3) := by decide +kernel
theorem dX11_measureNow_10 : decode cX11_measureNow 10 = .ok (.aload_n 0, 1) := by decide +kernel
theorem dX11_measureNow_11 : decode cX11_measureNow 11 = .ok (.getfield 89, 3) := by decide +kernel
theorem dX11_measureNow_14 : decode cX11_measureNow 14 = .ok (.invokevirtual 125, 3) := by decide +kernel
theorem dX11_measureNow_17 : decode cX11_measureNow 17 = .ok (.ireturn, 1) := by decide +kernel
theorem dX11_leewayNeeded_0 : decode cX11_leewayNeeded 0 = .ok (.iconst 0, 1) := by decide +kernel
theorem dX11_leewayNeeded_1 : decode cX11_leewayNeeded 1 = .ok (.istore_n 3, 1) := by decide +kernel
theorem dX11_leewayNeeded_2 : decode cX11_leewayNeeded 2 = .ok (.iconst 0, 1) := by decide +kernel
theorem dX11_leewayNeeded_3 : decode cX11_leewayNeeded 3 = .ok (.istore 4, 2) := by decide +kernel
theorem dX11_leewayNeeded_5 : decode cX11_leewayNeeded 5 = .ok (.iload 4, 2) := by decide +kernel
theorem dX11_leewayNeeded_7 : decode cX11_leewayNeeded 7 = .ok (.iconst 3, 1) := by decide +kernel
theorem dX11_leewayNeeded_8 : decode cX11_leewayNeeded 8 = .ok (.if_icmp .ge 31, 3) := by decide +kernel
theorem dX11_leewayNeeded_11 : decode cX11_leewayNeeded 11 = .ok (.iload_n 3, 1) := by decide +kernel
theorem dX11_leewayNeeded_12 : decode cX11_leewayNeeded 12 = .ok (.aload_n 0, 1) := by decide +kernel
theorem dX11_leewayNeeded_13 : decode cX11_leewayNeeded 13 = .ok (.getfield 26, 3) := by decide +kernel
theorem dX11_leewayNeeded_16 : decode cX11_leewayNeeded 16 = .ok (.iload_n 1, 1) := by decide +kernel
theorem dX11_leewayNeeded_17 : decode cX11_leewayNeeded 17 = .ok (.iload 4, 2) := by decide +kernel
theorem dX11_leewayNeeded_19 : decode cX11_leewayNeeded 19 = .ok (.aload_n 0, 1) := by decide +kernel
theorem dX11_leewayNeeded_20 : decode cX11_leewayNeeded 20 = .ok (.iload_n 2, 1) := by decide +kernel
theorem dX11_leewayNeeded_21 : decode cX11_leewayNeeded 21 = .ok (.iload 4, 2) := by decide +kernel
theorem dX11_leewayNeeded_23 : decode cX11_leewayNeeded 23 = .ok (.invokevirtual 129, 3) := by decide +kernel
theorem dX11_leewayNeeded_26 : decode cX11_leewayNeeded 26 = .ok (.invokevirtual 398, 3) := by decide +kernel
theorem dX11_leewayNeeded_29 : decode cX11_leewayNeeded 29 = .ok (.invokestatic 401, 3) := by decide +kernel
theorem dX11_leewayNeeded_32 : decode cX11_leewayNeeded 32 = .ok (.istore_n 3, 1) := by decide +kernel
theorem dX11_leewayNeeded_33 : decode cX11_leewayNeeded 33 = .ok (.iinc 4 1, 3) := by decide +kernel
theorem dX11_leewayNeeded_36 : decode cX11_leewayNeeded 36 = .ok (.goto (-31), 3) := by decide +kernel
theorem dX11_leewayNeeded_39 : decode cX11_leewayNeeded 39 = .ok (.iload_n 3, 1) := by decide +kernel
theorem dX11_leewayNeeded_40 : decode cX11_leewayNeeded 40 = .ok (.ireturn, 1) := by decide +kernel
theorem dX11_leastLeeway_0 : decode cX11_leastLeeway 0 = .ok (.bipush 51, 2) := by decide +kernel
theorem dX11_leastLeeway_2 : decode cX11_leastLeeway 2 = .ok (.istore_n 3, 1) := by decide +kernel
theorem dX11_leastLeeway_3 : decode cX11_leastLeeway 3 = .ok (.iconst 0, 1) := by decide +kernel
theorem dX11_leastLeeway_4 : decode cX11_leastLeeway 4 = .ok (.istore 4, 2) := by decide +kernel
theorem dX11_leastLeeway_6 : decode cX11_leastLeeway 6 = .ok (.iload 4, 2) := by decide +kernel
theorem dX11_leastLeeway_8 : decode cX11_leastLeeway 8 = .ok (.aload_n 0, 1) := by decide +kernel
theorem dX11_leastLeeway_9 : decode cX11_leastLeeway 9 = .ok (.getfield 26, 3) := by decide +kernel
theorem dX11_leastLeeway_12 : decode cX11_leastLeeway 12 = .ok (.getfield 166, 3) := by decide +kernel
theorem dX11_leastLeeway_15 : decode cX11_leastLeeway 15 = .ok (.if_icmp .ge 34, 3) := by decide +kernel
theorem dX11_leastLeeway_18 : decode cX11_leastLeeway 18 = .ok (.aload_n 0, 1) := by decide +kernel
theorem dX11_leastLeeway_19 : decode cX11_leastLeeway 19 = .ok (.getfield 26, 3) := by decide +kernel
theorem dX11_leastLeeway_22 : decode cX11_leastLeeway 22 = .ok (.iload 4, 2) := by decide +kernel
theorem dX11_leastLeeway_24 : decode cX11_leastLeeway 24 = .ok (.iload_n 2, 1) := by decide +kernel
theorem dX11_leastLeeway_25 : decode cX11_leastLeeway 25 = .ok (.invokevirtual 169, 3) := by decide +kernel
theorem dX11_leastLeeway_28 : decode cX11_leastLeeway 28 = .ok (.ifCond .eq 15, 3) := by decide +kernel
theorem dX11_leastLeeway_31 : decode cX11_leastLeeway 31 = .ok (.iload_n 3, 1) := by decide +kernel
theorem dX11_leastLeeway_32 : decode cX11_leastLeeway 32 = .ok (.aload_n 0, 1) := by decide +kernel
theorem dX11_leastLeeway_33 : decode cX11_leastLeeway 33 = .ok (.iload 4, 2) := by decide +kernel
theorem dX11_leastLeeway_35 : decode cX11_leastLeeway 35 = .ok (.iload_n 1, 1) := by decide +kernel
theorem dX11_leastLeeway_36 : decode cX11_leastLeeway 36 = .ok (.invokevirtual 160, 3) := by decide +kernel
theorem dX11_leastLeeway_39 : decode cX11_leastLeeway 39 = .ok (.invokestatic 403, 3) := by decide +kernel
theorem dX11_leastLeeway_42 : decode cX11_leastLeeway 42 = .ok (.istore_n 3, 1) := by decide +kernel
theorem dX11_leastLeeway_43 : decode cX11_leastLeeway 43 = .ok (.iinc 4 1, 3) := by decide +kernel
theorem dX11_leastLeeway_46 : decode cX11_leastLeeway 46 = .ok (.goto (-40), 3) := by decide +kernel
theorem dX11_leastLeeway_49 : decode cX11_leastLeeway 49 = .ok (.iload_n 3, 1) := by decide +kernel
theorem dX11_leastLeeway_50 : decode cX11_leastLeeway 50 = .ok (.bipush 50, 2) := by decide +kernel
theorem dX11_leastLeeway_52 : decode cX11_leastLeeway 52 = .ok (.if_icmp .le 8, 3) := by decide +kernel
theorem dX11_leastLeeway_55 : decode cX11_leastLeeway 55 = .ok (.bipush (-4), 2) := by decide +kernel
theorem dX11_leastLeeway_57 : decode cX11_leastLeeway 57 = .ok (.goto 4, 3) := by decide +kernel
theorem dX11_leastLeeway_60 : decode cX11_leastLeeway 60 = .ok (.iload_n 3, 1) := by decide +kernel
theorem dX11_leastLeeway_61 : decode cX11_leastLeeway 61 = .ok (.ireturn, 1) := by decide +kernel
theorem dX11_fittedBy_0 : decode cX11_fittedBy 0 = .ok (.iconst 0, 1) := by decide +kernel
theorem dX11_fittedBy_1 : decode cX11_fittedBy 1 = .ok (.istore_n 2, 1) := by decide +kernel
theorem dX11_fittedBy_2 : decode cX11_fittedBy 2 = .ok (.iconst 0, 1) := by decide +kernel
theorem dX11_fittedBy_3 : decode cX11_fittedBy 3 = .ok (.istore_n 3, 1) := by decide +kernel
theorem dX11_fittedBy_4 : decode cX11_fittedBy 4 = .ok (.iload_n 3, 1) := by decide +kernel
theorem dX11_fittedBy_5 : decode cX11_fittedBy 5 = .ok (.aload_n 0, 1) := by decide +kernel
theorem dX11_fittedBy_6 : decode cX11_fittedBy 6 = .ok (.getfield 10, 3) := by decide +kernel
theorem dX11_fittedBy_9 : decode cX11_fittedBy 9 = .ok (.getfield 377, 3) := by decide +kernel
theorem dX11_fittedBy_12 : decode cX11_fittedBy 12 = .ok (.if_icmp .ge 24, 3) := by decide +kernel
theorem dX11_fittedBy_15 : decode cX11_fittedBy 15 = .ok (.aload_n 0, 1) := by decide +kernel
theorem dX11_fittedBy_16 : decode cX11_fittedBy 16 = .ok (.iload_n 1, 1) := by decide +kernel
theorem dX11_fittedBy_17 : decode cX11_fittedBy 17 = .ok (.iload_n 3, 1) := by decide +kernel
theorem dX11_fittedBy_18 : decode cX11_fittedBy 18 = .ok (.invokevirtual 160, 3) := by decide +kernel
theorem dX11_fittedBy_21 : decode cX11_fittedBy 21 = .ok (.ifCond .ne 9, 3) := by decide +kernel
theorem dX11_fittedBy_24 : decode cX11_fittedBy 24 = .ok (.iload_n 2, 1) := by decide +kernel
theorem dX11_fittedBy_25 : decode cX11_fittedBy 25 = .ok (.iconst 1, 1) := by decide +kernel
theorem dX11_fittedBy_26 : decode cX11_fittedBy 26 = .ok (.iload_n 3, 1) := by decide +kernel
theorem dX11_fittedBy_27 : decode cX11_fittedBy 27 = .ok (.ishl, 1) := by decide +kernel
theorem dX11_fittedBy_28 : decode cX11_fittedBy 28 = .ok (.ior, 1) := by decide +kernel
theorem dX11_fittedBy_29 : decode cX11_fittedBy 29 = .ok (.istore_n 2, 1) := by decide +kernel
theorem dX11_fittedBy_30 : decode cX11_fittedBy 30 = .ok (.iinc 3 1, 3) := by decide +kernel
theorem dX11_fittedBy_33 : decode cX11_fittedBy 33 = .ok (.goto (-29), 3) := by decide +kernel
theorem dX11_fittedBy_36 : decode cX11_fittedBy 36 = .ok (.iload_n 2, 1) := by decide +kernel
theorem dX11_fittedBy_37 : decode cX11_fittedBy 37 = .ok (.ireturn, 1) := by decide +kernel
theorem dX11_dueTo_0 : decode cX11_dueTo 0 = .ok (.aload_n 0, 1) := by decide +kernel
theorem dX11_dueTo_1 : decode cX11_dueTo 1 = .ok (.getfield 47, 3) := by decide +kernel
theorem dX11_dueTo_4 : decode cX11_dueTo 4 = .ok (.aload_n 0, 1) := by decide +kernel
theorem dX11_dueTo_5 : decode cX11_dueTo 5 = .ok (.getfield 47, 3) := by decide +kernel
theorem dX11_dueTo_8 : decode cX11_dueTo 8 = .ok (.aload_n 0, 1) := by decide +kernel
theorem dX11_dueTo_9 : decode cX11_dueTo 9 = .ok (.getfield 10, 3) := by decide +kernel
theorem dX11_dueTo_12 : decode cX11_dueTo 12 = .ok (.getfield 109, 3) := by decide +kernel
theorem dX11_dueTo_15 : decode cX11_dueTo 15 = .ok (.iload_n 1, 1) := by decide +kernel
theorem dX11_dueTo_16 : decode cX11_dueTo 16 = .ok (.aaload, 1) := by decide +kernel
theorem dX11_dueTo_17 : decode cX11_dueTo 17 = .ok (.iload_n 2, 1) := by decide +kernel
theorem dX11_dueTo_18 : decode cX11_dueTo 18 = .ok (.iload_n 3, 1) := by decide +kernel
theorem dX11_dueTo_19 : decode cX11_dueTo 19 = .ok (.invokevirtual 222, 3) := by decide +kernel
theorem dX11_dueTo_22 : decode cX11_dueTo 22 = .ok (.invokevirtual 406, 3) := by decide +kernel
theorem dX11_dueTo_25 : decode cX11_dueTo 25 = .ok (.ireturn, 1) := by decide +kernel
theorem dX11_lifeOn_0 : decode cX11_lifeOn 0 = .ok (.aload_n 0, 1) := by decide +kernel
theorem dX11_lifeOn_1 : decode cX11_lifeOn 1 = .ok (.getfield 47, 3) := by decide +kernel
theorem dX11_lifeOn_4 : decode cX11_lifeOn 4 = .ok (.bipush 9, 2) := by decide +kernel
theorem dX11_lifeOn_6 : decode cX11_lifeOn 6 = .ok (.iload_n 1, 1) := by decide +kernel
theorem dX11_lifeOn_7 : decode cX11_lifeOn 7 = .ok (.iload_n 2, 1) := by decide +kernel
theorem dX11_lifeOn_8 : decode cX11_lifeOn 8 = .ok (.sipush 365, 3) := by decide +kernel
theorem dX11_lifeOn_11 : decode cX11_lifeOn 11 = .ok (.invokevirtual 409, 3) := by decide +kernel
theorem dX11_lifeOn_14 : decode cX11_lifeOn 14 = .ok (.ireturn, 1) := by decide +kernel
theorem dX11_priceOn_0 : decode cX11_priceOn 0 = .ok (.aload_n 0, 1) := by decide +kernel
theorem dX11_priceOn_1 : decode cX11_priceOn 1 = .ok (.getfield 47, 3) := by decide +kernel
theorem dX11_priceOn_4 : decode cX11_priceOn 4 = .ok (.bipush 10, 2) := by decide +kernel
theorem dX11_priceOn_6 : decode cX11_priceOn 6 = .ok (.iload_n 1, 1) := by decide +kernel
theorem dX11_priceOn_7 : decode cX11_priceOn 7 = .ok (.iload_n 2, 1) := by decide +kernel
theorem dX11_priceOn_8 : decode cX11_priceOn 8 = .ok (.bipush 100, 2) := by decide +kernel
theorem dX11_priceOn_10 : decode cX11_priceOn 10 = .ok (.invokevirtual 409, 3) := by decide +kernel
theorem dX11_priceOn_13 : decode cX11_priceOn 13 = .ok (.ireturn, 1) := by decide +kernel
theorem dX11_kindOf_0 : decode cX11_kindOf 0 = .ok (.aload_n 0, 1) := by decide +kernel
theorem dX11_kindOf_1 : decode cX11_kindOf 1 = .ok (.getfield 26, 3) := by decide +kernel
theorem dX11_kindOf_4 : decode cX11_kindOf 4 = .ok (.getfield 412, 3) := by decide +kernel
theorem dX11_kindOf_7 : decode cX11_kindOf 7 = .ok (.aload_n 0, 1) := by decide +kernel
theorem dX11_kindOf_8 : decode cX11_kindOf 8 = .ok (.getfield 64, 3) := by decide +kernel
theorem dX11_kindOf_11 : decode cX11_kindOf 11 = .ok (.getfield 247, 3) := by decide +kernel
theorem dX11_kindOf_14 : decode cX11_kindOf 14 = .ok (.iload_n 1, 1) := by decide +kernel
theorem dX11_kindOf_15 : decode cX11_kindOf 15 = .ok (.iaload, 1) := by decide +kernel
theorem dX11_kindOf_16 : decode cX11_kindOf 16 = .ok (.iaload, 1) := by decide +kernel
theorem dX11_kindOf_17 : decode cX11_kindOf 17 = .ok (.ireturn, 1) := by decide +kernel
theorem dX11_isWornOut_0 : decode cX11_isWornOut 0 = .ok (.aload_n 0, 1) := by decide +kernel
theorem dX11_isWornOut_1 : decode cX11_isWornOut 1 = .ok (.getfield 64, 3) := by decide +kernel
theorem dX11_isWornOut_4 : decode cX11_isWornOut 4 = .ok (.iload_n 1, 1) := by decide +kernel
theorem dX11_isWornOut_5 : decode cX11_isWornOut 5 = .ok (.aload_n 0, 1) := by decide +kernel
theorem dX11_isWornOut_6 : decode cX11_isWornOut 6 = .ok (.getfield 89, 3) := by decide +kernel
theorem dX11_isWornOut_9 : decode cX11_isWornOut 9 = .ok (.invokevirtual 262, 3) := by decide +kernel
theorem dX11_isWornOut_12 : decode cX11_isWornOut 12 = .ok (.aload_n 0, 1) := by decide +kernel
theorem dX11_isWornOut_13 : decode cX11_isWornOut 13 = .ok (.aload_n 0, 1) := by decide +kernel
theorem dX11_isWornOut_14 : decode cX11_isWornOut 14 = .ok (.iload_n 1, 1) := by decide +kernel
theorem dX11_isWornOut_15 : decode cX11_isWornOut 15 = .ok (.invokevirtual 274, 3) := by decide +kernel
theorem dX11_isWornOut_18 : decode cX11_isWornOut 18 = .ok (.aload_n 0, 1) := by decide +kernel
theorem dX11_isWornOut_19 : decode cX11_isWornOut 19 = .ok (.getfield 89, 3) := by decide +kernel
theorem dX11_isWornOut_22 : decode cX11_isWornOut 22 = .ok (.invokevirtual 226, 3) := by decide +kernel
theorem dX11_isWornOut_25 : decode cX11_isWornOut 25 = .ok (.if_icmp .lt 7, 3) := by decide +kernel
theorem dX11_isWornOut_28 : decode cX11_isWornOut 28 = .ok (.iconst 1, 1) := by decide +kernel
theorem dX11_isWornOut_29 : decode cX11_isWornOut 29 = .ok (.goto 4, 3) := by decide +kernel
theorem dX11_isWornOut_32 : decode cX11_isWornOut 32 = .ok (.iconst 0, 1) := by decide +kernel
theorem dX11_isWornOut_33 : decode cX11_isWornOut 33 = .ok (.ireturn, 1) := by decide +kernel
theorem dX11_usableWith_0 : decode cX11_usableWith 0 = .ok (.iconst 0, 1) := by decide +kernel
theorem dX11_usableWith_1 : decode cX11_usableWith 1 = .ok (.istore_n 3, 1) := by decide +kernel
theorem dX11_usableWith_2 : decode cX11_usableWith 2 = .ok (.iconst 0, 1) := by decide +kernel
theorem dX11_usableWith_3 : decode cX11_usableWith 3 = .ok (.istore 4, 2) := by decide +kernel
theorem dX11_usableWith_5 : decode cX11_usableWith 5 = .ok (.iload 4, 2) := by decide +kernel
theorem dX11_usableWith_7 : decode cX11_usableWith 7 = .ok (.aload_n 0, 1) := by decide +kernel
theorem dX11_usableWith_8 : decode cX11_usableWith 8 = .ok (.getfield 64, 3) := by decide +kernel
theorem dX11_usableWith_11 : decode cX11_usableWith 11 = .ok (.getfield 339, 3) := by decide +kernel
theorem dX11_usableWith_14 : decode cX11_usableWith 14 = .ok (.if_icmp .ge 45, 3) := by decide +kernel
theorem dX11_usableWith_17 : decode cX11_usableWith 17 = .ok (.aload_n 0, 1) := by decide +kernel
theorem dX11_usableWith_18 : decode cX11_usableWith 18 = .ok (.getfield 64, 3) := by decide +kernel
theorem dX11_usableWith_21 : decode cX11_usableWith 21 = .ok (.getfield 259, 3) := by decide +kernel
theorem dX11_usableWith_24 : decode cX11_usableWith 24 = .ok (.iload 4, 2) := by decide +kernel
theorem dX11_usableWith_26 : decode cX11_usableWith 26 = .ok (.iaload, 1) := by decide +kernel
theorem dX11_usableWith_27 : decode cX11_usableWith 27 = .ok (.iload_n 1, 1) := by decide +kernel
theorem dX11_usableWith_28 : decode cX11_usableWith 28 = .ok (.if_icmp .ne 25, 3) := by decide +kernel
theorem dX11_usableWith_31 : decode cX11_usableWith 31 = .ok (.aload_n 0, 1) := by decide +kernel
theorem dX11_usableWith_32 : decode cX11_usableWith 32 = .ok (.iload 4, 2) := by decide +kernel
theorem dX11_usableWith_34 : decode cX11_usableWith 34 = .ok (.invokevirtual 274, 3) := by decide +kernel
theorem dX11_usableWith_37 : decode cX11_usableWith 37 = .ok (.iload_n 2, 1) := by decide +kernel
theorem dX11_usableWith_38 : decode cX11_usableWith 38 = .ok (.if_icmp .ne 15, 3) := by decide +kernel
theorem dX11_usableWith_41 : decode cX11_usableWith 41 = .ok (.aload_n 0, 1) := by decide +kernel
theorem dX11_usableWith_42 : decode cX11_usableWith 42 = .ok (.iload 4, 2) := by decide +kernel
theorem dX11_usableWith_44 : decode cX11_usableWith 44 = .ok (.invokevirtual 280, 3) := by decide +kernel
theorem dX11_usableWith_47 : decode cX11_usableWith 47 = .ok (.ifCond .ne 6, 3) := by decide +kernel
theorem dX11_usableWith_50 : decode cX11_usableWith 50 = .ok (.iinc 3 1, 3) := by decide +kernel
theorem dX11_usableWith_53 : decode cX11_usableWith 53 = .ok (.iinc 4 1, 3) := by decide +kernel
theorem dX11_usableWith_56 : decode cX11_usableWith 56 = .ok (.goto (-51), 3) := by decide +kernel
theorem dX11_usableWith_59 : decode cX11_usableWith 59 = .ok (.iload_n 3, 1) := by decide +kernel
theorem dX11_usableWith_60 : decode cX11_usableWith 60 = .ok (.ireturn, 1) := by decide +kernel
theorem dX11_chargeFor_0 : decode cX11_chargeFor 0 = .ok (.aload_n 0, 1) := by decide +kernel
theorem dX11_chargeFor_1 : decode cX11_chargeFor 1 = .ok (.aload_n 0, 1) := by decide +kernel
theorem dX11_chargeFor_2 : decode cX11_chargeFor 2 = .ok (.iload_n 1, 1) := by decide +kernel
theorem dX11_chargeFor_3 : decode cX11_chargeFor 3 = .ok (.invokevirtual 274, 3) := by decide +kernel
theorem dX11_chargeFor_6 : decode cX11_chargeFor 6 = .ok (.aload_n 0, 1) := by decide +kernel
theorem dX11_chargeFor_7 : decode cX11_chargeFor 7 = .ok (.getfield 89, 3) := by decide +kernel
theorem dX11_chargeFor_10 : decode cX11_chargeFor 10 = .ok (.invokevirtual 226, 3) := by decide +kernel
theorem dX11_chargeFor_13 : decode cX11_chargeFor 13 = .ok (.istore_n 2, 1) := by decide +kernel
theorem dX11_chargeFor_14 : decode cX11_chargeFor 14 = .ok (.iconst 0, 1) := by decide +kernel
theorem dX11_chargeFor_15 : decode cX11_chargeFor 15 = .ok (.iload_n 2, 1) := by decide +kernel
theorem dX11_chargeFor_16 : decode cX11_chargeFor 16 = .ok (.aload_n 0, 1) := by decide +kernel
theorem dX11_chargeFor_17 : decode cX11_chargeFor 17 = .ok (.getfield 64, 3) := by decide +kernel
theorem dX11_chargeFor_20 : decode cX11_chargeFor 20 = .ok (.iload_n 1, 1) := by decide +kernel
theorem dX11_chargeFor_21 : decode cX11_chargeFor 21 = .ok (.aload_n 0, 1) := by decide +kernel
theorem dX11_chargeFor_22 : decode cX11_chargeFor 22 = .ok (.getfield 89, 3) := by decide +kernel
theorem dX11_chargeFor_25 : decode cX11_chargeFor 25 = .ok (.invokevirtual 262, 3) := by decide +kernel
theorem dX11_chargeFor_28 : decode cX11_chargeFor 28 = .ok (.isub, 1) := by decide +kernel
theorem dX11_chargeFor_29 : decode cX11_chargeFor 29 = .ok (.invokestatic 401, 3) := by decide +kernel
theorem dX11_chargeFor_32 : decode cX11_chargeFor 32 = .ok (.istore_n 3, 1) := by decide +kernel
theorem dX11_chargeFor_33 : decode cX11_chargeFor 33 = .ok (.iload_n 2, 1) := by decide +kernel
theorem dX11_chargeFor_34 : decode cX11_chargeFor 34 = .ok (.iconst 1, 1) := by decide +kernel
theorem dX11_chargeFor_35 : decode cX11_chargeFor 35 = .ok (.if_icmp .ge 7, 3) := by decide +kernel
theorem dX11_chargeFor_38 : decode cX11_chargeFor 38 = .ok (.iconst 0, 1) := by decide +kernel
theorem dX11_chargeFor_39 : decode cX11_chargeFor 39 = .ok (.goto 20, 3) := by decide +kernel
theorem dX11_chargeFor_42 : decode cX11_chargeFor 42 = .ok (.aload_n 0, 1) := by decide +kernel
theorem dX11_chargeFor_43 : decode cX11_chargeFor 43 = .ok (.aload_n 0, 1) := by decide +kernel
theorem dX11_chargeFor_44 : decode cX11_chargeFor 44 = .ok (.iload_n 1, 1) := by decide +kernel
theorem dX11_chargeFor_45 : decode cX11_chargeFor 45 = .ok (.invokevirtual 274, 3) := by decide +kernel
theorem dX11_chargeFor_48 : decode cX11_chargeFor 48 = .ok (.aload_n 0, 1) := by decide +kernel
theorem dX11_chargeFor_49 : decode cX11_chargeFor 49 = .ok (.getfield 89, 3) := by decide +kernel
theorem dX11_chargeFor_52 : decode cX11_chargeFor 52 = .ok (.invokevirtual 229, 3) := by decide +kernel
theorem dX11_chargeFor_55 : decode cX11_chargeFor 55 = .ok (.iload_n 3, 1) := by decide +kernel
theorem dX11_chargeFor_56 : decode cX11_chargeFor 56 = .ok (.imul, 1) := by decide +kernel
theorem dX11_chargeFor_57 : decode cX11_chargeFor 57 = .ok (.iload_n 2, 1) := by decide +kernel
theorem dX11_chargeFor_58 : decode cX11_chargeFor 58 = .ok (.idiv, 1) := by decide +kernel
theorem dX11_chargeFor_59 : decode cX11_chargeFor 59 = .ok (.ireturn, 1) := by decide +kernel
theorem dX11_stockOf_0 : decode cX11_stockOf 0 = .ok (.iconst 0, 1) := by decide +kernel
theorem dX11_stockOf_1 : decode cX11_stockOf 1 = .ok (.istore_n 3, 1) := by decide +kernel
theorem dX11_stockOf_2 : decode cX11_stockOf 2 = .ok (.iconst 0, 1) := by decide +kernel
theorem dX11_stockOf_3 : decode cX11_stockOf 3 = .ok (.istore 4, 2) := by decide +kernel
theorem dX11_stockOf_5 : decode cX11_stockOf 5 = .ok (.iload 4, 2) := by decide +kernel
theorem dX11_stockOf_7 : decode cX11_stockOf 7 = .ok (.aload_n 0, 1) := by decide +kernel
theorem dX11_stockOf_8 : decode cX11_stockOf 8 = .ok (.getfield 64, 3) := by decide +kernel
theorem dX11_stockOf_11 : decode cX11_stockOf 11 = .ok (.getfield 339, 3) := by decide +kernel
theorem dX11_stockOf_14 : decode cX11_stockOf 14 = .ok (.if_icmp .ge 36, 3) := by decide +kernel
theorem dX11_stockOf_17 : decode cX11_stockOf 17 = .ok (.aload_n 0, 1) := by decide +kernel
theorem dX11_stockOf_18 : decode cX11_stockOf 18 = .ok (.getfield 64, 3) := by decide +kernel
theorem dX11_stockOf_21 : decode cX11_stockOf 21 = .ok (.getfield 256, 3) := by decide +kernel
theorem dX11_stockOf_24 : decode cX11_stockOf 24 = .ok (.iload 4, 2) := by decide +kernel
theorem dX11_stockOf_26 : decode cX11_stockOf 26 = .ok (.iaload, 1) := by decide +kernel
theorem dX11_stockOf_27 : decode cX11_stockOf 27 = .ok (.iload_n 1, 1) := by decide +kernel
theorem dX11_stockOf_28 : decode cX11_stockOf 28 = .ok (.if_icmp .ne 16, 3) := by decide +kernel
theorem dX11_stockOf_31 : decode cX11_stockOf 31 = .ok (.aload_n 0, 1) := by decide +kernel
theorem dX11_stockOf_32 : decode cX11_stockOf 32 = .ok (.iload 4, 2) := by decide +kernel
theorem dX11_stockOf_34 : decode cX11_stockOf 34 = .ok (.invokevirtual 274, 3) := by decide +kernel
theorem dX11_stockOf_37 : decode cX11_stockOf 37 = .ok (.iload_n 2, 1) := by decide +kernel
theorem dX11_stockOf_38 : decode cX11_stockOf 38 = .ok (.if_icmp .ne 6, 3) := by decide +kernel
theorem dX11_stockOf_41 : decode cX11_stockOf 41 = .ok (.iinc 3 1, 3) := by decide +kernel
theorem dX11_stockOf_44 : decode cX11_stockOf 44 = .ok (.iinc 4 1, 3) := by decide +kernel
theorem dX11_stockOf_47 : decode cX11_stockOf 47 = .ok (.goto (-42), 3) := by decide +kernel
theorem dX11_stockOf_50 : decode cX11_stockOf 50 = .ok (.iload_n 3, 1) := by decide +kernel
theorem dX11_stockOf_51 : decode cX11_stockOf 51 = .ok (.ireturn, 1) := by decide +kernel
theorem dX11_layOut_0 : decode cX11_layOut 0 = .ok (.aload_n 0, 1) := by decide +kernel
theorem dX11_layOut_1 : decode cX11_layOut 1 = .ok (.getfield 78, 3) := by decide +kernel
theorem dX11_layOut_4 : decode cX11_layOut 4 = .ok (.aload_n 0, 1) := by decide +kernel
theorem dX11_layOut_5 : decode cX11_layOut 5 = .ok (.getfield 10, 3) := by decide +kernel
theorem dX11_layOut_8 : decode cX11_layOut 8 = .ok (.getfield 377, 3) := by decide +kernel
theorem dX11_layOut_11 : decode cX11_layOut 11 = .ok (.invokevirtual 415, 3) := by decide +kernel
theorem dX11_layOut_14 : decode cX11_layOut 14 = .ok (.iconst 0, 1) := by decide +kernel
theorem dX11_layOut_15 : decode cX11_layOut 15 = .ok (.istore_n 2, 1) := by decide +kernel
theorem dX11_layOut_16 : decode cX11_layOut 16 = .ok (.iload_n 2, 1) := by decide +kernel
theorem dX11_layOut_17 : decode cX11_layOut 17 = .ok (.aload_n 0, 1) := by decide +kernel
theorem dX11_layOut_18 : decode cX11_layOut 18 = .ok (.getfield 26, 3) := by decide +kernel
theorem dX11_layOut_21 : decode cX11_layOut 21 = .ok (.getfield 166, 3) := by decide +kernel
theorem dX11_layOut_24 : decode cX11_layOut 24 = .ok (.if_icmp .ge 97, 3) := by decide +kernel
theorem dX11_layOut_27 : decode cX11_layOut 27 = .ok (.aload_n 0, 1) := by decide +kernel
theorem dX11_layOut_28 : decode cX11_layOut 28 = .ok (.getfield 26, 3) := by decide +kernel
theorem dX11_layOut_31 : decode cX11_layOut 31 = .ok (.iload_n 2, 1) := by decide +kernel
theorem dX11_layOut_32 : decode cX11_layOut 32 = .ok (.iload_n 1, 1) := by decide +kernel
theorem dX11_layOut_33 : decode cX11_layOut 33 = .ok (.invokevirtual 169, 3) := by decide +kernel
theorem dX11_layOut_36 : decode cX11_layOut 36 = .ok (.ifCond .ne 6, 3) := by decide +kernel
theorem dX11_layOut_39 : decode cX11_layOut 39 = .ok (.goto 76, 3) := by decide +kernel
theorem dX11_layOut_42 : decode cX11_layOut 42 = .ok (.aload_n 0, 1) := by decide +kernel
theorem dX11_layOut_43 : decode cX11_layOut 43 = .ok (.iload_n 2, 1) := by decide +kernel
theorem dX11_layOut_44 : decode cX11_layOut 44 = .ok (.invokevirtual 175, 3) := by decide +kernel
theorem dX11_layOut_47 : decode cX11_layOut 47 = .ok (.istore_n 3, 1) := by decide +kernel
theorem dX11_layOut_48 : decode cX11_layOut 48 = .ok (.iconst 0, 1) := by decide +kernel
theorem dX11_layOut_49 : decode cX11_layOut 49 = .ok (.istore 4, 2) := by decide +kernel
theorem dX11_layOut_51 : decode cX11_layOut 51 = .ok (.iload 4, 2) := by decide +kernel
theorem dX11_layOut_53 : decode cX11_layOut 53 = .ok (.aload_n 0, 1) := by decide +kernel
theorem dX11_layOut_54 : decode cX11_layOut 54 = .ok (.getfield 64, 3) := by decide +kernel
theorem dX11_layOut_57 : decode cX11_layOut 57 = .ok (.getfield 339, 3) := by decide +kernel
theorem dX11_layOut_60 : decode cX11_layOut 60 = .ok (.if_icmp .ge 55, 3) := by decide +kernel
theorem dX11_layOut_63 : decode cX11_layOut 63 = .ok (.aload_n 0, 1) := by decide +kernel
theorem dX11_layOut_64 : decode cX11_layOut 64 = .ok (.getfield 64, 3) := by decide +kernel
theorem dX11_layOut_67 : decode cX11_layOut 67 = .ok (.getfield 247, 3) := by decide +kernel
theorem dX11_layOut_70 : decode cX11_layOut 70 = .ok (.iload 4, 2) := by decide +kernel
theorem dX11_layOut_72 : decode cX11_layOut 72 = .ok (.iaload, 1) := by decide +kernel
theorem dX11_layOut_73 : decode cX11_layOut 73 = .ok (.iload_n 2, 1) := by decide +kernel
theorem dX11_layOut_74 : decode cX11_layOut 74 = .ok (.if_icmp .ne 35, 3) := by decide +kernel
theorem dX11_layOut_77 : decode cX11_layOut 77 = .ok (.aload_n 0, 1) := by decide +kernel
theorem dX11_layOut_78 : decode cX11_layOut 78 = .ok (.getfield 64, 3) := by decide +kernel
theorem dX11_layOut_81 : decode cX11_layOut 81 = .ok (.iload 4, 2) := by decide +kernel
theorem dX11_layOut_83 : decode cX11_layOut 83 = .ok (.invokevirtual 277, 3) := by decide +kernel
theorem dX11_layOut_86 : decode cX11_layOut 86 = .ok (.ifCond .eq 23, 3) := by decide +kernel
theorem dX11_layOut_89 : decode cX11_layOut 89 = .ok (.aload_n 0, 1) := by decide +kernel
theorem dX11_layOut_90 : decode cX11_layOut 90 = .ok (.getfield 78, 3) := by decide +kernel
theorem dX11_layOut_93 : decode cX11_layOut 93 = .ok (.iload 4, 2) := by decide +kernel
theorem dX11_layOut_95 : decode cX11_layOut 95 = .ok (.aload_n 0, 1) := by decide +kernel
theorem dX11_layOut_96 : decode cX11_layOut 96 = .ok (.getfield 64, 3) := by decide +kernel
theorem dX11_layOut_99 : decode cX11_layOut 99 = .ok (.getfield 253, 3) := by decide +kernel
theorem dX11_layOut_102 : decode cX11_layOut 102 = .ok (.iload 4, 2) := by decide +kernel
theorem dX11_layOut_104 : decode cX11_layOut 104 = .ok (.iaload, 1) := by decide +kernel
theorem dX11_layOut_105 : decode cX11_layOut 105 = .ok (.iload_n 3, 1) := by decide +kernel
theorem dX11_layOut_106 : decode cX11_layOut 106 = .ok (.invokevirtual 417, 3) := by decide +kernel
theorem dX11_layOut_109 : decode cX11_layOut 109 = .ok (.iinc 4 1, 3) := by decide +kernel
theorem dX11_layOut_112 : decode cX11_layOut 112 = .ok (.goto (-61), 3) := by decide +kernel
theorem dX11_layOut_115 : decode cX11_layOut 115 = .ok (.iinc 2 1, 3) := by decide +kernel
theorem dX11_layOut_118 : decode cX11_layOut 118 = .ok (.goto (-102), 3) := by decide +kernel
theorem dX11_layOut_121 : decode cX11_layOut 121 = .ok (.return_, 1) := by decide +kernel
theorem dX11_planned_0 : decode cX11_planned 0 = .ok (.iload_n 1, 1) := by decide +kernel
theorem dX11_planned_1 : decode cX11_planned 1 = .ok (.invokestatic 147, 3) := by decide +kernel
theorem dX11_planned_4 : decode cX11_planned 4 = .ok (.ifCond .eq 21, 3) := by decide +kernel
theorem dX11_planned_7 : decode cX11_planned 7 = .ok (.iload_n 2, 1) := by decide +kernel
theorem dX11_planned_8 : decode cX11_planned 8 = .ok (.ifCond .lt 17, 3) := by decide +kernel
theorem dX11_planned_11 : decode cX11_planned 11 = .ok (.iload_n 2, 1) := by decide +kernel
theorem dX11_planned_12 : decode cX11_planned 12 = .ok (.iconst 4, 1) := by decide +kernel
theorem dX11_planned_13 : decode cX11_planned 13 = .ok (.aload_n 0, 1) := by decide +kernel
theorem dX11_planned_14 : decode cX11_planned 14 = .ok (.getfield 57, 3) := by decide +kernel
theorem dX11_planned_17 : decode cX11_planned 17 = .ok (.getfield 385, 3) := by decide +kernel
theorem dX11_planned_20 : decode cX11_planned 20 = .ok (.imul, 1) := by decide +kernel
theorem dX11_planned_21 : decode cX11_planned 21 = .ok (.ishr, 1) := by decide +kernel
theorem dX11_planned_22 : decode cX11_planned 22 = .ok (.ifCond .eq 5, 3) := by decide +kernel
theorem dX11_planned_25 : decode cX11_planned 25 = .ok (.iconst (-1), 1) := by decide +kernel
theorem dX11_planned_26 : decode cX11_planned 26 = .ok (.ireturn, 1) := by decide +kernel
theorem dX11_planned_27 : decode cX11_planned 27 = .ok (.iconst 0, 1) := by decide +kernel
theorem dX11_planned_28 : decode cX11_planned 28 = .ok (.istore_n 3, 1) := by decide +kernel
theorem dX11_planned_29 : decode cX11_planned 29 = .ok (.iconst 0, 1) := by decide +kernel
theorem dX11_planned_30 : decode cX11_planned 30 = .ok (.istore 4, 2) := by decide +kernel
theorem dX11_planned_32 : decode cX11_planned 32 = .ok (.iload 4, 2) := by decide +kernel
theorem dX11_planned_34 : decode cX11_planned 34 = .ok (.aload_n 0, 1) := by decide +kernel
theorem dX11_planned_35 : decode cX11_planned 35 = .ok (.getfield 57, 3) := by decide +kernel
theorem dX11_planned_38 : decode cX11_planned 38 = .ok (.getfield 385, 3) := by decide +kernel
theorem dX11_planned_41 : decode cX11_planned 41 = .ok (.if_icmp .ge 50, 3) := by decide +kernel
theorem dX11_planned_44 : decode cX11_planned 44 = .ok (.aload_n 0, 1) := by decide +kernel
theorem dX11_planned_45 : decode cX11_planned 45 = .ok (.iload 4, 2) := by decide +kernel
theorem dX11_planned_47 : decode cX11_planned 47 = .ok (.iload_n 1, 1) := by decide +kernel
theorem dX11_planned_48 : decode cX11_planned 48 = .ok (.invokevirtual 300, 3) := by decide +kernel
theorem dX11_planned_51 : decode cX11_planned 51 = .ok (.istore 5, 2) := by decide +kernel
theorem dX11_planned_53 : decode cX11_planned 53 = .ok (.iload_n 2, 1) := by decide +kernel
theorem dX11_planned_54 : decode cX11_planned 54 = .ok (.iconst 4, 1) := by decide +kernel
theorem dX11_planned_55 : decode cX11_planned 55 = .ok (.iload 4, 2) := by decide +kernel
theorem dX11_planned_57 : decode cX11_planned 57 = .ok (.imul, 1) := by decide +kernel
theorem dX11_planned_58 : decode cX11_planned 58 = .ok (.ishr, 1) := by decide +kernel
theorem dX11_planned_59 : decode cX11_planned 59 = .ok (.bipush 15, 2) := by decide +kernel
theorem dX11_planned_61 : decode cX11_planned 61 = .ok (.iand, 1) := by decide +kernel
theorem dX11_planned_62 : decode cX11_planned 62 = .ok (.istore 6, 2) := by decide +kernel
theorem dX11_planned_64 : decode cX11_planned 64 = .ok (.aload_n 0, 1) := by decide +kernel
theorem dX11_planned_65 : decode cX11_planned 65 = .ok (.getfield 57, 3) := by decide +kernel
theorem dX11_planned_68 : decode cX11_planned 68 = .ok (.iload 4, 2) := by decide +kernel
theorem dX11_planned_70 : decode cX11_planned 70 = .ok (.iload 5, 2) := by decide +kernel
theorem dX11_planned_72 : decode cX11_planned 72 = .ok (.iload 6, 2) := by decide +kernel
theorem dX11_planned_74 : decode cX11_planned 74 = .ok (.invokevirtual 419, 3) := by decide +kernel
theorem dX11_planned_77 : decode cX11_planned 77 = .ok (.iload_n 3, 1) := by decide +kernel
theorem dX11_planned_78 : decode cX11_planned 78 = .ok (.iload 5, 2) := by decide +kernel
theorem dX11_planned_80 : decode cX11_planned 80 = .ok (.iload 6, 2) := by decide +kernel
theorem dX11_planned_82 : decode cX11_planned 82 = .ok (.isub, 1) := by decide +kernel
theorem dX11_planned_83 : decode cX11_planned 83 = .ok (.iadd, 1) := by decide +kernel
theorem dX11_planned_84 : decode cX11_planned 84 = .ok (.istore_n 3, 1) := by decide +kernel
theorem dX11_planned_85 : decode cX11_planned 85 = .ok (.iinc 4 1, 3) := by decide +kernel
theorem dX11_planned_88 : decode cX11_planned 88 = .ok (.goto (-56), 3) := by decide +kernel
theorem dX11_planned_91 : decode cX11_planned 91 = .ok (.iload_n 3, 1) := by decide +kernel
theorem dX11_planned_92 : decode cX11_planned 92 = .ok (.ifCond .ge 6, 3) := by decide +kernel
theorem dX11_planned_95 : decode cX11_planned 95 = .ok (.bipush (-4), 2) := by decide +kernel
theorem dX11_planned_97 : decode cX11_planned 97 = .ok (.ireturn, 1) := by decide +kernel
theorem dX11_planned_98 : decode cX11_planned 98 = .ok (.aload_n 0, 1) := by decide +kernel
theorem dX11_planned_99 : decode cX11_planned 99 = .ok (.getfield 57, 3) := by decide +kernel
theorem dX11_planned_102 : decode cX11_planned 102 = .ok (.invokevirtual 422, 3) := by decide +kernel
theorem dX11_planned_105 : decode cX11_planned 105 = .ok (.iconst 0, 1) := by decide +kernel
theorem dX11_planned_106 : decode cX11_planned 106 = .ok (.ireturn, 1) := by decide +kernel
theorem dX11_refusalOfCell_0 : decode cX11_refusalOfCell 0 = .ok (.aload_n 0, 1) := by decide +kernel
theorem dX11_refusalOfCell_1 : decode cX11_refusalOfCell 1 = .ok (.getfield 85, 3) := by decide +kernel
theorem dX11_refusalOfCell_4 : decode cX11_refusalOfCell 4 = .ok (.iload_n 1, 1) := by decide +kernel
theorem dX11_refusalOfCell_5 : decode cX11_refusalOfCell 5 = .ok (.iload_n 2, 1) := by decide +kernel
theorem dX11_refusalOfCell_6 : decode cX11_refusalOfCell 6 = .ok (.iload_n 3, 1) := by decide +kernel
theorem dX11_refusalOfCell_7 : decode cX11_refusalOfCell 7 = .ok (.iadd, 1) := by decide +kernel
theorem dX11_refusalOfCell_8 : decode cX11_refusalOfCell 8 = .ok (.invokevirtual 368, 3) := by decide +kernel
theorem dX11_refusalOfCell_11 : decode cX11_refusalOfCell 11 = .ok (.ifCond .ne 6, 3) := by decide +kernel
theorem dX11_refusalOfCell_14 : decode cX11_refusalOfCell 14 = .ok (.bipush (-12), 2) := by decide +kernel
theorem dX11_refusalOfCell_16 : decode cX11_refusalOfCell 16 = .ok (.ireturn, 1) := by decide +kernel
theorem dX11_refusalOfCell_17 : decode cX11_refusalOfCell 17 = .ok (.aload_n 0, 1) := by decide +kernel
theorem dX11_refusalOfCell_18 : decode cX11_refusalOfCell 18 = .ok (.getfield 85, 3) := by decide +kernel
theorem dX11_refusalOfCell_21 : decode cX11_refusalOfCell 21 = .ok (.getfield 382, 3) := by decide +kernel
theorem dX11_refusalOfCell_24 : decode cX11_refusalOfCell 24 = .ok (.iload_n 1, 1) := by decide +kernel
theorem dX11_refusalOfCell_25 : decode cX11_refusalOfCell 25 = .ok (.aaload, 1) := by decide +kernel
theorem dX11_refusalOfCell_26 : decode cX11_refusalOfCell 26 = .ok (.iload_n 2, 1) := by decide +kernel
theorem dX11_refusalOfCell_27 : decode cX11_refusalOfCell 27 = .ok (.iload_n 3, 1) := by decide +kernel
theorem dX11_refusalOfCell_28 : decode cX11_refusalOfCell 28 = .ok (.iadd, 1) := by decide +kernel
theorem dX11_refusalOfCell_29 : decode cX11_refusalOfCell 29 = .ok (.iaload, 1) := by decide +kernel
theorem dX11_refusalOfCell_30 : decode cX11_refusalOfCell 30 = .ok (.invokestatic 116, 3) := by decide +kernel
theorem dX11_refusalOfCell_33 : decode cX11_refusalOfCell 33 = .ok (.ifCond .eq 7, 3) := by decide +kernel
theorem dX11_refusalOfCell_36 : decode cX11_refusalOfCell 36 = .ok (.iconst 0, 1) := by decide +kernel
theorem dX11_refusalOfCell_37 : decode cX11_refusalOfCell 37 = .ok (.goto 7, 3) := by decide +kernel
theorem dX11_refusalOfCell_40 : decode cX11_refusalOfCell 40 = .ok (.bipush (-100), 2) := by decide +kernel
theorem dX11_refusalOfCell_42 : decode cX11_refusalOfCell 42 = .ok (.iload_n 3, 1) := by decide +kernel
theorem dX11_refusalOfCell_43 : decode cX11_refusalOfCell 43 = .ok (.isub, 1) := by decide +kernel
theorem dX11_refusalOfCell_44 : decode cX11_refusalOfCell 44 = .ok (.ireturn, 1) := by decide +kernel
theorem dX11_waysToDraw_0 : decode cX11_waysToDraw 0 = .ok (.iload_n 1, 1) := by decide +kernel
theorem dX11_waysToDraw_1 : decode cX11_waysToDraw 1 = .ok (.ifCond .lt 8, 3) := by decide +kernel
theorem dX11_waysToDraw_4 : decode cX11_waysToDraw 4 = .ok (.iload_n 1, 1) := by decide +kernel
theorem dX11_waysToDraw_5 : decode cX11_waysToDraw 5 = .ok (.iload_n 0, 1) := by decide +kernel
theorem dX11_waysToDraw_6 : decode cX11_waysToDraw 6 = .ok (.if_icmp .le 5, 3) := by decide +kernel
theorem dX11_waysToDraw_9 : decode cX11_waysToDraw 9 = .ok (.lconst 0, 1) := by decide +kernel
theorem dX11_waysToDraw_10 : decode cX11_waysToDraw 10 = .ok (.lreturn, 1) := by decide +kernel
theorem dX11_waysToDraw_11 : decode cX11_waysToDraw 11 = .ok (.lconst 1, 1) := by decide +kernel
theorem dX11_waysToDraw_12 : decode cX11_waysToDraw 12 = .ok (.lstore_n 2, 1) := by decide +kernel
theorem dX11_waysToDraw_13 : decode cX11_waysToDraw 13 = .ok (.iconst 1, 1) := by decide +kernel
theorem dX11_waysToDraw_14 : decode cX11_waysToDraw 14 = .ok (.istore 4, 2) := by decide +kernel
theorem dX11_waysToDraw_16 : decode cX11_waysToDraw 16 = .ok (.iload 4, 2) := by decide +kernel
theorem dX11_waysToDraw_18 : decode cX11_waysToDraw 18 = .ok (.iload_n 1, 1) := by decide +kernel
theorem dX11_waysToDraw_19 : decode cX11_waysToDraw 19 = .ok (.if_icmp .gt 23, 3) := by decide +kernel
theorem dX11_waysToDraw_22 : decode cX11_waysToDraw 22 = .ok (.lload_n 2, 1) := by decide +kernel
theorem dX11_waysToDraw_23 : decode cX11_waysToDraw 23 = .ok (.iload_n 0, 1) := by decide +kernel
theorem dX11_waysToDraw_24 : decode cX11_waysToDraw 24 = .ok (.iload_n 1, 1) := by decide +kernel
