theorem dX0_init_0 : decode cX0_init 0 = .ok (.aload_n 0, 1) := by decide +kernel
theorem dX0_init_1 : decode cX0_init 1 = .ok (.invokespecial 3, 3) := by decide +kernel
theorem dX0_init_4 : decode cX0_init 4 = .ok (.aload_n 0, 1) := by decide +kernel
theorem dX0_init_5 : decode cX0_init 5 = .ok (.bipush 6, 2) := by decide +kernel
theorem dX0_init_7 : decode cX0_init 7 = .ok (.sipush 256, 3) := by decide +kernel
theorem dX0_init_10 : decode cX0_init 10 = .ok (.multianewarray 9 2, 4) := by decide +kernel
theorem dX0_init_14 : decode cX0_init 14 = .ok (.putfield 11, 3) := by decide +kernel
theorem dX0_init_17 : decode cX0_init 17 = .ok (.return_, 1) := by decide +kernel
theorem dX0_place_0 : decode cX0_place 0 = .ok (.iconst 5, 1) := by decide +kernel
theorem dX0_place_1 : decode cX0_place 1 = .ok (.istore_n 2, 1) := by decide +kernel
theorem dX0_place_2 : decode cX0_place 2 = .ok (.aload_n 0, 1) := by decide +kernel
theorem dX0_place_3 : decode cX0_place 3 = .ok (.getfield 11, 3) := by decide +kernel
theorem dX0_place_6 : decode cX0_place 6 = .ok (.iload_n 2, 1) := by decide +kernel
theorem dX0_place_7 : decode cX0_place 7 = .ok (.aaload, 1) := by decide +kernel
theorem dX0_place_8 : decode cX0_place 8 = .ok (.ldc 16, 2) := by decide +kernel
theorem dX0_place_10 : decode cX0_place 10 = .ok (.invokestatic 17, 3) := by decide +kernel
theorem dX0_place_13 : decode cX0_place 13 = .ok (.aload_n 0, 1) := by decide +kernel
theorem dX0_place_14 : decode cX0_place 14 = .ok (.getfield 11, 3) := by decide +kernel
theorem dX0_place_17 : decode cX0_place 17 = .ok (.iload_n 2, 1) := by decide +kernel
theorem dX0_place_18 : decode cX0_place 18 = .ok (.aaload, 1) := by decide +kernel
theorem dX0_place_19 : decode cX0_place 19 = .ok (.iconst 0, 1) := by decide +kernel
theorem dX0_place_20 : decode cX0_place 20 = .ok (.iconst 0, 1) := by decide +kernel
theorem dX0_place_21 : decode cX0_place 21 = .ok (.iastore, 1) := by decide +kernel
theorem dX0_place_22 : decode cX0_place 22 = .ok (.iconst 0, 1) := by decide +kernel
theorem dX0_place_23 : decode cX0_place 23 = .ok (.istore_n 3, 1) := by decide +kernel
theorem dX0_place_24 : decode cX0_place 24 = .ok (.iload_n 2, 1) := by decide +kernel
theorem dX0_place_25 : decode cX0_place 25 = .ok (.istore 4, 2) := by decide +kernel
theorem dX0_place_27 : decode cX0_place 27 = .ok (.iload 4, 2) := by decide +kernel
theorem dX0_place_29 : decode cX0_place 29 = .ok (.ifCond .le 51, 3) := by decide +kernel
theorem dX0_place_32 : decode cX0_place 32 = .ok (.aload_n 0, 1) := by decide +kernel
theorem dX0_place_33 : decode cX0_place 33 = .ok (.getfield 11, 3) := by decide +kernel
theorem dX0_place_36 : decode cX0_place 36 = .ok (.iload 4, 2) := by decide +kernel
theorem dX0_place_38 : decode cX0_place 38 = .ok (.aaload, 1) := by decide +kernel
theorem dX0_place_39 : decode cX0_place 39 = .ok (.iconst 0, 1) := by decide +kernel
theorem dX0_place_40 : decode cX0_place 40 = .ok (.aload_n 0, 1) := by decide +kernel
theorem dX0_place_41 : decode cX0_place 41 = .ok (.getfield 11, 3) := by decide +kernel
theorem dX0_place_44 : decode cX0_place 44 = .ok (.iload 4, 2) := by decide +kernel
theorem dX0_place_46 : decode cX0_place 46 = .ok (.iconst 1, 1) := by decide +kernel
theorem dX0_place_47 : decode cX0_place 47 = .ok (.isub, 1) := by decide +kernel
theorem dX0_place_48 : decode cX0_place 48 = .ok (.aaload, 1) := by decide +kernel
theorem dX0_place_49 : decode cX0_place 49 = .ok (.iconst 0, 1) := by decide +kernel
theorem dX0_place_50 : decode cX0_place 50 = .ok (.sipush 256, 3) := by decide +kernel
theorem dX0_place_53 : decode cX0_place 53 = .ok (.invokestatic 23, 3) := by decide +kernel
theorem dX0_place_56 : decode cX0_place 56 = .ok (.aload_n 0, 1) := by decide +kernel
theorem dX0_place_57 : decode cX0_place 57 = .ok (.aload_n 1, 1) := by decide +kernel
theorem dX0_place_58 : decode cX0_place 58 = .ok (.iload 4, 2) := by decide +kernel
theorem dX0_place_60 : decode cX0_place 60 = .ok (.iload_n 3, 1) := by decide +kernel
theorem dX0_place_61 : decode cX0_place 61 = .ok (.invokevirtual 29, 3) := by decide +kernel
theorem dX0_place_64 : decode cX0_place 64 = .ok (.iload_n 3, 1) := by decide +kernel
theorem dX0_place_65 : decode cX0_place 65 = .ok (.aload_n 1, 1) := by decide +kernel
theorem dX0_place_66 : decode cX0_place 66 = .ok (.getfield 33, 3) := by decide +kernel
theorem dX0_place_69 : decode cX0_place 69 = .ok (.iload 4, 2) := by decide +kernel
theorem dX0_place_71 : decode cX0_place 71 = .ok (.iaload, 1) := by decide +kernel
theorem dX0_place_72 : decode cX0_place 72 = .ok (.ior, 1) := by decide +kernel
theorem dX0_place_73 : decode cX0_place 73 = .ok (.istore_n 3, 1) := by decide +kernel
theorem dX0_place_74 : decode cX0_place 74 = .ok (.iinc 4 (-1), 3) := by decide +kernel
theorem dX0_place_77 : decode cX0_place 77 = .ok (.goto (-50), 3) := by decide +kernel
theorem dX0_place_80 : decode cX0_place 80 = .ok (.aload_n 0, 1) := by decide +kernel
theorem dX0_place_81 : decode cX0_place 81 = .ok (.aload_n 1, 1) := by decide +kernel
theorem dX0_place_82 : decode cX0_place 82 = .ok (.invokevirtual 39, 3) := by decide +kernel
theorem dX0_place_85 : decode cX0_place 85 = .ok (.ireturn, 1) := by decide +kernel
theorem dX0_admit_0 : decode cX0_admit 0 = .ok (.aload_n 1, 1) := by decide +kernel
theorem dX0_admit_1 : decode cX0_admit 1 = .ok (.getfield 33, 3) := by decide +kernel
theorem dX0_admit_4 : decode cX0_admit 4 = .ok (.iload_n 2, 1) := by decide +kernel
theorem dX0_admit_5 : decode cX0_admit 5 = .ok (.iaload, 1) := by decide +kernel
theorem dX0_admit_6 : decode cX0_admit 6 = .ok (.istore 4, 2) := by decide +kernel
theorem dX0_admit_8 : decode cX0_admit 8 = .ok (.iload 4, 2) := by decide +kernel
theorem dX0_admit_10 : decode cX0_admit 10 = .ok (.istore 5, 2) := by decide +kernel
theorem dX0_admit_12 : decode cX0_admit 12 = .ok (.iload 5, 2) := by decide +kernel
theorem dX0_admit_14 : decode cX0_admit 14 = .ok (.ifCond .le 45, 3) := by decide +kernel
theorem dX0_admit_17 : decode cX0_admit 17 = .ok (.aload_n 1, 1) := by decide +kernel
theorem dX0_admit_18 : decode cX0_admit 18 = .ok (.iload_n 2, 1) := by decide +kernel
theorem dX0_admit_19 : decode cX0_admit 19 = .ok (.iload 5, 2) := by decide +kernel
theorem dX0_admit_21 : decode cX0_admit 21 = .ok (.invokevirtual 43, 3) := by decide +kernel
theorem dX0_admit_24 : decode cX0_admit 24 = .ok (.ifCond .eq 23, 3) := by decide +kernel
theorem dX0_admit_27 : decode cX0_admit 27 = .ok (.aload_n 0, 1) := by decide +kernel
theorem dX0_admit_28 : decode cX0_admit 28 = .ok (.iload_n 2, 1) := by decide +kernel
theorem dX0_admit_29 : decode cX0_admit 29 = .ok (.iload 5, 2) := by decide +kernel
theorem dX0_admit_31 : decode cX0_admit 31 = .ok (.aload_n 1, 1) := by decide +kernel
theorem dX0_admit_32 : decode cX0_admit 32 = .ok (.iload_n 2, 1) := by decide +kernel
theorem dX0_admit_33 : decode cX0_admit 33 = .ok (.iload 5, 2) := by decide +kernel
theorem dX0_admit_35 : decode cX0_admit 35 = .ok (.invokestatic 47, 3) := by decide +kernel
theorem dX0_admit_38 : decode cX0_admit 38 = .ok (.iload_n 3, 1) := by decide +kernel
theorem dX0_admit_39 : decode cX0_admit 39 = .ok (.iload 5, 2) := by decide +kernel
theorem dX0_admit_41 : decode cX0_admit 41 = .ok (.iconst (-1), 1) := by decide +kernel
theorem dX0_admit_42 : decode cX0_admit 42 = .ok (.ixor, 1) := by decide +kernel
theorem dX0_admit_43 : decode cX0_admit 43 = .ok (.iand, 1) := by decide +kernel
theorem dX0_admit_44 : decode cX0_admit 44 = .ok (.invokevirtual 51, 3) := by decide +kernel
theorem dX0_admit_47 : decode cX0_admit 47 = .ok (.iload 5, 2) := by decide +kernel
theorem dX0_admit_49 : decode cX0_admit 49 = .ok (.iconst 1, 1) := by decide +kernel
theorem dX0_admit_50 : decode cX0_admit 50 = .ok (.isub, 1) := by decide +kernel
theorem dX0_admit_51 : decode cX0_admit 51 = .ok (.iload 4, 2) := by decide +kernel
theorem dX0_admit_53 : decode cX0_admit 53 = .ok (.iand, 1) := by decide +kernel
theorem dX0_admit_54 : decode cX0_admit 54 = .ok (.istore 5, 2) := by decide +kernel
theorem dX0_admit_56 : decode cX0_admit 56 = .ok (.goto (-44), 3) := by decide +kernel
theorem dX0_admit_59 : decode cX0_admit 59 = .ok (.return_, 1) := by decide +kernel
theorem dX0_spread_0 : decode cX0_spread 0 = .ok (.aload_n 0, 1) := by decide +kernel
theorem dX0_spread_1 : decode cX0_spread 1 = .ok (.getfield 11, 3) := by decide +kernel
theorem dX0_spread_4 : decode cX0_spread 4 = .ok (.iload_n 1, 1) := by decide +kernel
theorem dX0_spread_5 : decode cX0_spread 5 = .ok (.aaload, 1) := by decide +kernel
theorem dX0_spread_6 : decode cX0_spread 6 = .ok (.astore 5, 2) := by decide +kernel
theorem dX0_spread_8 : decode cX0_spread 8 = .ok (.aload_n 0, 1) := by decide +kernel
theorem dX0_spread_9 : decode cX0_spread 9 = .ok (.getfield 11, 3) := by decide +kernel
theorem dX0_spread_12 : decode cX0_spread 12 = .ok (.iload_n 1, 1) := by decide +kernel
theorem dX0_spread_13 : decode cX0_spread 13 = .ok (.iconst 1, 1) := by decide +kernel
theorem dX0_spread_14 : decode cX0_spread 14 = .ok (.isub, 1) := by decide +kernel
theorem dX0_spread_15 : decode cX0_spread 15 = .ok (.aaload, 1) := by decide +kernel
theorem dX0_spread_16 : decode cX0_spread 16 = .ok (.astore 6, 2) := by decide +kernel
theorem dX0_spread_18 : decode cX0_spread 18 = .ok (.aload 6, 2) := by decide +kernel
theorem dX0_spread_20 : decode cX0_spread 20 = .ok (.iload_n 2, 1) := by decide +kernel
theorem dX0_spread_21 : decode cX0_spread 21 = .ok (.aload 6, 2) := by decide +kernel
theorem dX0_spread_23 : decode cX0_spread 23 = .ok (.iload_n 2, 1) := by decide +kernel
theorem dX0_spread_24 : decode cX0_spread 24 = .ok (.iaload, 1) := by decide +kernel
theorem dX0_spread_25 : decode cX0_spread 25 = .ok (.iload_n 3, 1) := by decide +kernel
theorem dX0_spread_26 : decode cX0_spread 26 = .ok (.invokestatic 55, 3) := by decide +kernel
theorem dX0_spread_29 : decode cX0_spread 29 = .ok (.iastore, 1) := by decide +kernel
theorem dX0_spread_30 : decode cX0_spread 30 = .ok (.iload 4, 2) := by decide +kernel
theorem dX0_spread_32 : decode cX0_spread 32 = .ok (.istore 7, 2) := by decide +kernel
theorem dX0_spread_34 : decode cX0_spread 34 = .ok (.iload 7, 2) := by decide +kernel
theorem dX0_spread_36 : decode cX0_spread 36 = .ok (.ifCond .le 45, 3) := by decide +kernel
theorem dX0_spread_39 : decode cX0_spread 39 = .ok (.iload_n 3, 1) := by decide +kernel
theorem dX0_spread_40 : decode cX0_spread 40 = .ok (.aload 5, 2) := by decide +kernel
theorem dX0_spread_42 : decode cX0_spread 42 = .ok (.iload 7, 2) := by decide +kernel
theorem dX0_spread_44 : decode cX0_spread 44 = .ok (.iaload, 1) := by decide +kernel
theorem dX0_spread_45 : decode cX0_spread 45 = .ok (.iadd, 1) := by decide +kernel
theorem dX0_spread_46 : decode cX0_spread 46 = .ok (.istore 8, 2) := by decide +kernel
theorem dX0_spread_48 : decode cX0_spread 48 = .ok (.iload 8, 2) := by decide +kernel
theorem dX0_spread_50 : decode cX0_spread 50 = .ok (.aload 6, 2) := by decide +kernel
theorem dX0_spread_52 : decode cX0_spread 52 = .ok (.iload_n 2, 1) := by decide +kernel
theorem dX0_spread_53 : decode cX0_spread 53 = .ok (.iload 7, 2) := by decide +kernel
theorem dX0_spread_55 : decode cX0_spread 55 = .ok (.ior, 1) := by decide +kernel
theorem dX0_spread_56 : decode cX0_spread 56 = .ok (.iaload, 1) := by decide +kernel
theorem dX0_spread_57 : decode cX0_spread 57 = .ok (.if_icmp .ge 12, 3) := by decide +kernel
theorem dX0_spread_60 : decode cX0_spread 60 = .ok (.aload 6, 2) := by decide +kernel
theorem dX0_spread_62 : decode cX0_spread 62 = .ok (.iload_n 2, 1) := by decide +kernel
theorem dX0_spread_63 : decode cX0_spread 63 = .ok (.iload 7, 2) := by decide +kernel
theorem dX0_spread_65 : decode cX0_spread 65 = .ok (.ior, 1) := by decide +kernel
theorem dX0_spread_66 : decode cX0_spread 66 = .ok (.iload 8, 2) := by decide +kernel
theorem dX0_spread_68 : decode cX0_spread 68 = .ok (.iastore, 1) := by decide +kernel
theorem dX0_spread_69 : decode cX0_spread 69 = .ok (.iload 7, 2) := by decide +kernel
theorem dX0_spread_71 : decode cX0_spread 71 = .ok (.iconst 1, 1) := by decide +kernel
theorem dX0_spread_72 : decode cX0_spread 72 = .ok (.isub, 1) := by decide +kernel
theorem dX0_spread_73 : decode cX0_spread 73 = .ok (.iload 4, 2) := by decide +kernel
theorem dX0_spread_75 : decode cX0_spread 75 = .ok (.iand, 1) := by decide +kernel
theorem dX0_spread_76 : decode cX0_spread 76 = .ok (.istore 7, 2) := by decide +kernel
theorem dX0_spread_78 : decode cX0_spread 78 = .ok (.goto (-44), 3) := by decide +kernel
theorem dX0_spread_81 : decode cX0_spread 81 = .ok (.return_, 1) := by decide +kernel
theorem dX0_choose_0 : decode cX0_choose 0 = .ok (.aload_n 1, 1) := by decide +kernel
theorem dX0_choose_1 : decode cX0_choose 1 = .ok (.getfield 61, 3) := by decide +kernel
theorem dX0_choose_4 : decode cX0_choose 4 = .ok (.istore_n 2, 1) := by decide +kernel
theorem dX0_choose_5 : decode cX0_choose 5 = .ok (.iconst 0, 1) := by decide +kernel
theorem dX0_choose_6 : decode cX0_choose 6 = .ok (.istore_n 3, 1) := by decide +kernel
theorem dX0_choose_7 : decode cX0_choose 7 = .ok (.iload_n 3, 1) := by decide +kernel
theorem dX0_choose_8 : decode cX0_choose 8 = .ok (.bipush 6, 2) := by decide +kernel
theorem dX0_choose_10 : decode cX0_choose 10 = .ok (.if_icmp .ge 42, 3) := by decide +kernel
theorem dX0_choose_13 : decode cX0_choose 13 = .ok (.aload_n 0, 1) := by decide +kernel
theorem dX0_choose_14 : decode cX0_choose 14 = .ok (.aload_n 1, 1) := by decide +kernel
theorem dX0_choose_15 : decode cX0_choose 15 = .ok (.iload_n 3, 1) := by decide +kernel
theorem dX0_choose_16 : decode cX0_choose 16 = .ok (.iload_n 2, 1) := by decide +kernel
theorem dX0_choose_17 : decode cX0_choose 17 = .ok (.invokevirtual 65, 3) := by decide +kernel
theorem dX0_choose_20 : decode cX0_choose 20 = .ok (.istore 4, 2) := by decide +kernel
theorem dX0_choose_22 : decode cX0_choose 22 = .ok (.iload 4, 2) := by decide +kernel
theorem dX0_choose_24 : decode cX0_choose 24 = .ok (.ldc 68, 2) := by decide +kernel
theorem dX0_choose_26 : decode cX0_choose 26 = .ok (.if_icmp .ne 5, 3) := by decide +kernel
theorem dX0_choose_29 : decode cX0_choose 29 = .ok (.iconst 0, 1) := by decide +kernel
theorem dX0_choose_30 : decode cX0_choose 30 = .ok (.ireturn, 1) := by decide +kernel
theorem dX0_choose_31 : decode cX0_choose 31 = .ok (.aload_n 1, 1) := by decide +kernel
theorem dX0_choose_32 : decode cX0_choose 32 = .ok (.getfield 69, 3) := by decide +kernel
theorem dX0_choose_35 : decode cX0_choose 35 = .ok (.iload_n 3, 1) := by decide +kernel
theorem dX0_choose_36 : decode cX0_choose 36 = .ok (.iload 4, 2) := by decide +kernel
theorem dX0_choose_38 : decode cX0_choose 38 = .ok (.iastore, 1) := by decide +kernel
theorem dX0_choose_39 : decode cX0_choose 39 = .ok (.iload_n 2, 1) := by decide +kernel
theorem dX0_choose_40 : decode cX0_choose 40 = .ok (.iload 4, 2) := by decide +kernel
theorem dX0_choose_42 : decode cX0_choose 42 = .ok (.iconst (-1), 1) := by decide +kernel
theorem dX0_choose_43 : decode cX0_choose 43 = .ok (.ixor, 1) := by decide +kernel
theorem dX0_choose_44 : decode cX0_choose 44 = .ok (.iand, 1) := by decide +kernel
theorem dX0_choose_45 : decode cX0_choose 45 = .ok (.istore_n 2, 1) := by decide +kernel
theorem dX0_choose_46 : decode cX0_choose 46 = .ok (.iinc 3 1, 3) := by decide +kernel
theorem dX0_choose_49 : decode cX0_choose 49 = .ok (.goto (-42), 3) := by decide +kernel
theorem dX0_choose_52 : decode cX0_choose 52 = .ok (.iconst 1, 1) := by decide +kernel
theorem dX0_choose_53 : decode cX0_choose 53 = .ok (.ireturn, 1) := by decide +kernel
theorem dX0_cheapestSet_0 : decode cX0_cheapestSet 0 = .ok (.aload_n 0, 1) := by decide +kernel
theorem dX0_cheapestSet_1 : decode cX0_cheapestSet 1 = .ok (.getfield 11, 3) := by decide +kernel
theorem dX0_cheapestSet_4 : decode cX0_cheapestSet 4 = .ok (.iload_n 2, 1) := by decide +kernel
theorem dX0_cheapestSet_5 : decode cX0_cheapestSet 5 = .ok (.aaload, 1) := by decide +kernel
theorem dX0_cheapestSet_6 : decode cX0_cheapestSet 6 = .ok (.iload_n 3, 1) := by decide +kernel
theorem dX0_cheapestSet_7 : decode cX0_cheapestSet 7 = .ok (.iaload, 1) := by decide +kernel
theorem dX0_cheapestSet_8 : decode cX0_cheapestSet 8 = .ok (.istore 4, 2) := by decide +kernel
theorem dX0_cheapestSet_10 : decode cX0_cheapestSet 10 = .ok (.iload 4, 2) := by decide +kernel
theorem dX0_cheapestSet_12 : decode cX0_cheapestSet 12 = .ok (.ldc 16, 2) := by decide +kernel
theorem dX0_cheapestSet_14 : decode cX0_cheapestSet 14 = .ok (.if_icmp .ge 7, 3) := by decide +kernel
theorem dX0_cheapestSet_17 : decode cX0_cheapestSet 17 = .ok (.iconst 0, 1) := by decide +kernel
theorem dX0_cheapestSet_18 : decode cX0_cheapestSet 18 = .ok (.goto 5, 3) := by decide +kernel
theorem dX0_cheapestSet_21 : decode cX0_cheapestSet 21 = .ok (.ldc 68, 2) := by decide +kernel
theorem dX0_cheapestSet_23 : decode cX0_cheapestSet 23 = .ok (.istore 5, 2) := by decide +kernel
theorem dX0_cheapestSet_25 : decode cX0_cheapestSet 25 = .ok (.iconst 1, 1) := by decide +kernel
theorem dX0_cheapestSet_26 : decode cX0_cheapestSet 26 = .ok (.istore 6, 2) := by decide +kernel
theorem dX0_cheapestSet_28 : decode cX0_cheapestSet 28 = .ok (.iload 6, 2) := by decide +kernel
theorem dX0_cheapestSet_30 : decode cX0_cheapestSet 30 = .ok (.iload_n 3, 1) := by decide +kernel
theorem dX0_cheapestSet_31 : decode cX0_cheapestSet 31 = .ok (.if_icmp .gt 64, 3) := by decide +kernel
theorem dX0_cheapestSet_34 : decode cX0_cheapestSet 34 = .ok (.iload 6, 2) := by decide +kernel
theorem dX0_cheapestSet_36 : decode cX0_cheapestSet 36 = .ok (.iload_n 3, 1) := by decide +kernel
theorem dX0_cheapestSet_37 : decode cX0_cheapestSet 37 = .ok (.iconst (-1), 1) := by decide +kernel
theorem dX0_cheapestSet_38 : decode cX0_cheapestSet 38 = .ok (.ixor, 1) := by decide +kernel
theorem dX0_cheapestSet_39 : decode cX0_cheapestSet 39 = .ok (.iand, 1) := by decide +kernel
theorem dX0_cheapestSet_40 : decode cX0_cheapestSet 40 = .ok (.ifCond .ne 49, 3) := by decide +kernel
theorem dX0_cheapestSet_43 : decode cX0_cheapestSet 43 = .ok (.aload_n 1, 1) := by decide +kernel
theorem dX0_cheapestSet_44 : decode cX0_cheapestSet 44 = .ok (.iload_n 2, 1) := by decide +kernel
theorem dX0_cheapestSet_45 : decode cX0_cheapestSet 45 = .ok (.iload 6, 2) := by decide +kernel
theorem dX0_cheapestSet_47 : decode cX0_cheapestSet 47 = .ok (.invokevirtual 43, 3) := by decide +kernel
theorem dX0_cheapestSet_50 : decode cX0_cheapestSet 50 = .ok (.ifCond .eq 39, 3) := by decide +kernel
theorem dX0_cheapestSet_53 : decode cX0_cheapestSet 53 = .ok (.aload_n 1, 1) := by decide +kernel
theorem dX0_cheapestSet_54 : decode cX0_cheapestSet 54 = .ok (.iload_n 2, 1) := by decide +kernel
theorem dX0_cheapestSet_55 : decode cX0_cheapestSet 55 = .ok (.iload 6, 2) := by decide +kernel
theorem dX0_cheapestSet_57 : decode cX0_cheapestSet 57 = .ok (.invokestatic 47, 3) := by decide +kernel
theorem dX0_cheapestSet_60 : decode cX0_cheapestSet 60 = .ok (.aload_n 0, 1) := by decide +kernel
theorem dX0_cheapestSet_61 : decode cX0_cheapestSet 61 = .ok (.getfield 11, 3) := by decide +kernel
theorem dX0_cheapestSet_64 : decode cX0_cheapestSet 64 = .ok (.iload_n 2, 1) := by decide +kernel
theorem dX0_cheapestSet_65 : decode cX0_cheapestSet 65 = .ok (.aaload, 1) := by decide +kernel
theorem dX0_cheapestSet_66 : decode cX0_cheapestSet 66 = .ok (.iload_n 3, 1) := by decide +kernel
theorem dX0_cheapestSet_67 : decode cX0_cheapestSet 67 = .ok (.iload 6, 2) := by decide +kernel
theorem dX0_cheapestSet_69 : decode cX0_cheapestSet 69 = .ok (.ixor, 1) := by decide +kernel
theorem dX0_cheapestSet_70 : decode cX0_cheapestSet 70 = .ok (.iaload, 1) := by decide +kernel
theorem dX0_cheapestSet_71 : decode cX0_cheapestSet 71 = .ok (.iadd, 1) := by decide +kernel
theorem dX0_cheapestSet_72 : decode cX0_cheapestSet 72 = .ok (.istore 7, 2) := by decide +kernel
theorem dX0_cheapestSet_74 : decode cX0_cheapestSet 74 = .ok (.iload 7, 2) := by decide +kernel
theorem dX0_cheapestSet_76 : decode cX0_cheapestSet 76 = .ok (.iload 4, 2) := by decide +kernel
theorem dX0_cheapestSet_78 : decode cX0_cheapestSet 78 = .ok (.if_icmp .ge 11, 3) := by decide +kernel
theorem dX0_cheapestSet_81 : decode cX0_cheapestSet 81 = .ok (.iload 7, 2) := by decide +kernel
theorem dX0_cheapestSet_83 : decode cX0_cheapestSet 83 = .ok (.istore 4, 2) := by decide +kernel
theorem dX0_cheapestSet_85 : decode cX0_cheapestSet 85 = .ok (.iload 6, 2) := by decide +kernel
theorem dX0_cheapestSet_87 : decode cX0_cheapestSet 87 = .ok (.istore 5, 2) := by decide +kernel
theorem dX0_cheapestSet_89 : decode cX0_cheapestSet 89 = .ok (.iinc 6 1, 3) := by decide +kernel
theorem dX0_cheapestSet_92 : decode cX0_cheapestSet 92 = .ok (.goto (-64), 3) := by decide +kernel
theorem dX0_cheapestSet_95 : decode cX0_cheapestSet 95 = .ok (.iload 5, 2) := by decide +kernel
theorem dX0_cheapestSet_97 : decode cX0_cheapestSet 97 = .ok (.ireturn, 1) := by decide +kernel
theorem dX0_priceOf_0 : decode cX0_priceOf 0 = .ok (.aload_n 0, 1) := by decide +kernel
theorem dX0_priceOf_1 : decode cX0_priceOf 1 = .ok (.iload_n 1, 1) := by decide +kernel
theorem dX0_priceOf_2 : decode cX0_priceOf 2 = .ok (.iload_n 2, 1) := by decide +kernel
theorem dX0_priceOf_3 : decode cX0_priceOf 3 = .ok (.invokevirtual 72, 3) := by decide +kernel
theorem dX0_priceOf_6 : decode cX0_priceOf 6 = .ok (.bipush 16, 2) := by decide +kernel
theorem dX0_priceOf_8 : decode cX0_priceOf 8 = .ok (.imul, 1) := by decide +kernel
theorem dX0_priceOf_9 : decode cX0_priceOf 9 = .ok (.iconst 1, 1) := by decide +kernel
theorem dX0_priceOf_10 : decode cX0_priceOf 10 = .ok (.iadd, 1) := by decide +kernel
theorem dX0_priceOf_11 : decode cX0_priceOf 11 = .ok (.ireturn, 1) := by decide +kernel
theorem dX1_init_0 : decode cX1_init 0 = .ok (.aload_n 0, 1) := by decide +kernel
theorem dX1_init_1 : decode cX1_init 1 = .ok (.invokespecial 3, 3) := by decide +kernel
theorem dX1_init_4 : decode cX1_init 4 = .ok (.aload_n 0, 1) := by decide +kernel
theorem dX1_init_5 : decode cX1_init 5 = .ok (.ldc 9, 2) := by decide +kernel
theorem dX1_init_7 : decode cX1_init 7 = .ok (.putfield 10, 3) := by decide +kernel
theorem dX1_init_10 : decode cX1_init 10 = .ok (.aload_n 0, 1) := by decide +kernel
theorem dX1_init_11 : decode cX1_init 11 = .ok (.iconst 4, 1) := by decide +kernel
theorem dX1_init_12 : decode cX1_init 12 = .ok (.newarray .int, 2) := by decide +kernel
theorem dX1_init_14 : decode cX1_init 14 = .ok (.putfield 16, 3) := by decide +kernel
theorem dX1_init_17 : decode cX1_init 17 = .ok (.aload_n 0, 1) := by decide +kernel
theorem dX1_init_18 : decode cX1_init 18 = .ok (.bipush 6, 2) := by decide +kernel
theorem dX1_init_20 : decode cX1_init 20 = .ok (.newarray .int, 2) := by decide +kernel
theorem dX1_init_22 : decode cX1_init 22 = .ok (.putfield 20, 3) := by decide +kernel
theorem dX1_init_25 : decode cX1_init 25 = .ok (.aload_n 0, 1) := by decide +kernel
theorem dX1_init_26 : decode cX1_init 26 = .ok (.bipush 6, 2) := by decide +kernel
theorem dX1_init_28 : decode cX1_init 28 = .ok (.newarray .int, 2) := by decide +kernel
theorem dX1_init_30 : decode cX1_init 30 = .ok (.putfield 23, 3) := by decide +kernel
theorem dX1_init_33 : decode cX1_init 33 = .ok (.aload_n 0, 1) := by decide +kernel
theorem dX1_init_34 : decode cX1_init 34 = .ok (.bipush 6, 2) := by decide +kernel
theorem dX1_init_36 : decode cX1_init 36 = .ok (.newarray .int, 2) := by decide +kernel
theorem dX1_init_38 : decode cX1_init 38 = .ok (.putfield 26, 3) := by decide +kernel
theorem dX1_init_41 : decode cX1_init 41 = .ok (.aload_n 0, 1) := by decide +kernel
theorem dX1_init_42 : decode cX1_init 42 = .ok (.bipush 6, 2) := by decide +kernel
theorem dX1_init_44 : decode cX1_init 44 = .ok (.newarray .int, 2) := by decide +kernel
theorem dX1_init_46 : decode cX1_init 46 = .ok (.putfield 29, 3) := by decide +kernel
theorem dX1_init_49 : decode cX1_init 49 = .ok (.aload_n 0, 1) := by decide +kernel
theorem dX1_init_50 : decode cX1_init 50 = .ok (.bipush 8, 2) := by decide +kernel
theorem dX1_init_52 : decode cX1_init 52 = .ok (.newarray .int, 2) := by decide +kernel
theorem dX1_init_54 : decode cX1_init 54 = .ok (.putfield 32, 3) := by decide +kernel
theorem dX1_init_57 : decode cX1_init 57 = .ok (.aload_n 0, 1) := by decide +kernel
theorem dX1_init_58 : decode cX1_init 58 = .ok (.bipush 8, 2) := by decide +kernel
theorem dX1_init_60 : decode cX1_init 60 = .ok (.newarray .int, 2) := by decide +kernel
theorem dX1_init_62 : decode cX1_init 62 = .ok (.putfield 35, 3) := by decide +kernel
theorem dX1_init_65 : decode cX1_init 65 = .ok (.aload_n 0, 1) := by decide +kernel
theorem dX1_init_66 : decode cX1_init 66 = .ok (.bipush 8, 2) := by decide +kernel
theorem dX1_init_68 : decode cX1_init 68 = .ok (.newarray .int, 2) := by decide +kernel
theorem dX1_init_70 : decode cX1_init 70 = .ok (.putfield 38, 3) := by decide +kernel
theorem dX1_init_73 : decode cX1_init 73 = .ok (.aload_n 0, 1) := by decide +kernel
theorem dX1_init_74 : decode cX1_init 74 = .ok (.bipush 8, 2) := by decide +kernel
theorem dX1_init_76 : decode cX1_init 76 = .ok (.newarray .int, 2) := by decide +kernel
theorem dX1_init_78 : decode cX1_init 78 = .ok (.putfield 41, 3) := by decide +kernel
theorem dX1_init_81 : decode cX1_init 81 = .ok (.aload_n 0, 1) := by decide +kernel
theorem dX1_init_82 : decode cX1_init 82 = .ok (.bipush 8, 2) := by decide +kernel
theorem dX1_init_84 : decode cX1_init 84 = .ok (.newarray .int, 2) := by decide +kernel
theorem dX1_init_86 : decode cX1_init 86 = .ok (.putfield 44, 3) := by decide +kernel
theorem dX1_init_89 : decode cX1_init 89 = .ok (.aload_n 0, 1) := by decide +kernel
theorem dX1_init_90 : decode cX1_init 90 = .ok (.bipush 8, 2) := by decide +kernel
theorem dX1_init_92 : decode cX1_init 92 = .ok (.newarray .int, 2) := by decide +kernel
theorem dX1_init_94 : decode cX1_init 94 = .ok (.putfield 47, 3) := by decide +kernel
theorem dX1_init_97 : decode cX1_init 97 = .ok (.return_, 1) := by decide +kernel
theorem dX1_isEmpty_0 : decode cX1_isEmpty 0 = .ok (.aload_n 0, 1) := by decide +kernel
theorem dX1_isEmpty_1 : decode cX1_isEmpty 1 = .ok (.getfield 50, 3) := by decide +kernel
theorem dX1_isEmpty_4 : decode cX1_isEmpty 4 = .ok (.ifCond .ne 7, 3) := by decide +kernel
theorem dX1_isEmpty_7 : decode cX1_isEmpty 7 = .ok (.iconst 1, 1) := by decide +kernel
theorem dX1_isEmpty_8 : decode cX1_isEmpty 8 = .ok (.goto 4, 3) := by decide +kernel
theorem dX1_isEmpty_11 : decode cX1_isEmpty 11 = .ok (.iconst 0, 1) := by decide +kernel
theorem dX1_isEmpty_12 : decode cX1_isEmpty 12 = .ok (.ireturn, 1) := by decide +kernel
theorem dX1_clear_0 : decode cX1_clear 0 = .ok (.aload_n 0, 1) := by decide +kernel
theorem dX1_clear_1 : decode cX1_clear 1 = .ok (.iconst 0, 1) := by decide +kernel
theorem dX1_clear_2 : decode cX1_clear 2 = .ok (.putfield 50, 3) := by decide +kernel
theorem dX1_clear_5 : decode cX1_clear 5 = .ok (.aload_n 0, 1) := by decide +kernel
theorem dX1_clear_6 : decode cX1_clear 6 = .ok (.iconst 0, 1) := by decide +kernel
theorem dX1_clear_7 : decode cX1_clear 7 = .ok (.putfield 53, 3) := by decide +kernel
theorem dX1_clear_10 : decode cX1_clear 10 = .ok (.aload_n 0, 1) := by decide +kernel
theorem dX1_clear_11 : decode cX1_clear 11 = .ok (.iconst 0, 1) := by decide +kernel
theorem dX1_clear_12 : decode cX1_clear 12 = .ok (.putfield 56, 3) := by decide +kernel
theorem dX1_clear_15 : decode cX1_clear 15 = .ok (.aload_n 0, 1) := by decide +kernel
theorem dX1_clear_16 : decode cX1_clear 16 = .ok (.ldc 9, 2) := by decide +kernel
theorem dX1_clear_18 : decode cX1_clear 18 = .ok (.putfield 10, 3) := by decide +kernel
theorem dX1_clear_21 : decode cX1_clear 21 = .ok (.aload_n 0, 1) := by decide +kernel
theorem dX1_clear_22 : decode cX1_clear 22 = .ok (.iconst 0, 1) := by decide +kernel
theorem dX1_clear_23 : decode cX1_clear 23 = .ok (.putfield 59, 3) := by decide +kernel
theorem dX1_clear_26 : decode cX1_clear 26 = .ok (.aload_n 0, 1) := by decide +kernel
theorem dX1_clear_27 : decode cX1_clear 27 = .ok (.iconst 0, 1) := by decide +kernel
theorem dX1_clear_28 : decode cX1_clear 28 = .ok (.putfield 62, 3) := by decide +kernel
theorem dX1_clear_31 : decode cX1_clear 31 = .ok (.aload_n 0, 1) := by decide +kernel
theorem dX1_clear_32 : decode cX1_clear 32 = .ok (.iconst 0, 1) := by decide +kernel
theorem dX1_clear_33 : decode cX1_clear 33 = .ok (.putfield 65, 3) := by decide +kernel
theorem dX1_clear_36 : decode cX1_clear 36 = .ok (.aload_n 0, 1) := by decide +kernel
theorem dX1_clear_37 : decode cX1_clear 37 = .ok (.iconst 0, 1) := by decide +kernel
theorem dX1_clear_38 : decode cX1_clear 38 = .ok (.putfield 68, 3) := by decide +kernel
theorem dX1_clear_41 : decode cX1_clear 41 = .ok (.aload_n 0, 1) := by decide +kernel
theorem dX1_clear_42 : decode cX1_clear 42 = .ok (.iconst 0, 1) := by decide +kernel
theorem dX1_clear_43 : decode cX1_clear 43 = .ok (.putfield 71, 3) := by decide +kernel
theorem dX1_clear_46 : decode cX1_clear 46 = .ok (.return_, 1) := by decide +kernel
theorem dX1_copyFrom_0 : decode cX1_copyFrom 0 = .ok (.aload_n 0, 1) := by decide +kernel
theorem dX1_copyFrom_1 : decode cX1_copyFrom 1 = .ok (.aload_n 1, 1) := by decide +kernel
theorem dX1_copyFrom_2 : decode cX1_copyFrom 2 = .ok (.getfield 50, 3) := by decide +kernel
theorem dX1_copyFrom_5 : decode cX1_copyFrom 5 = .ok (.putfield 50, 3) := by decide +kernel
theorem dX1_copyFrom_8 : decode cX1_copyFrom 8 = .ok (.aload_n 0, 1) := by decide +kernel
theorem dX1_copyFrom_9 : decode cX1_copyFrom 9 = .ok (.aload_n 1, 1) := by decide +kernel
theorem dX1_copyFrom_10 : decode cX1_copyFrom 10 = .ok (.getfield 53, 3) := by decide +kernel
theorem dX1_copyFrom_13 : decode cX1_copyFrom 13 = .ok (.putfield 53, 3) := by decide +kernel
theorem dX1_copyFrom_16 : decode cX1_copyFrom 16 = .ok (.aload_n 0, 1) := by decide +kernel
theorem dX1_copyFrom_17 : decode cX1_copyFrom 17 = .ok (.aload_n 1, 1) := by decide +kernel
theorem dX1_copyFrom_18 : decode cX1_copyFrom 18 = .ok (.getfield 56, 3) := by decide +kernel
theorem dX1_copyFrom_21 : decode cX1_copyFrom 21 = .ok (.putfield 56, 3) := by decide +kernel
theorem dX1_copyFrom_24 : decode cX1_copyFrom 24 = .ok (.aload_n 0, 1) := by decide +kernel
theorem dX1_copyFrom_25 : decode cX1_copyFrom 25 = .ok (.aload_n 1, 1) := by decide +kernel
theorem dX1_copyFrom_26 : decode cX1_copyFrom 26 = .ok (.getfield 10, 3) := by decide +kernel
theorem dX1_copyFrom_29 : decode cX1_copyFrom 29 = .ok (.putfield 10, 3) := by decide +kernel
theorem dX1_copyFrom_32 : decode cX1_copyFrom 32 = .ok (.aload_n 0, 1) := by decide +kernel
theorem dX1_copyFrom_33 : decode cX1_copyFrom 33 = .ok (.aload_n 1, 1) := by decide +kernel
theorem dX1_copyFrom_34 : decode cX1_copyFrom 34 = .ok (.getfield 59, 3) := by decide +kernel
theorem dX1_copyFrom_37 : decode cX1_copyFrom 37 = .ok (.putfield 59, 3) := by decide +kernel
theorem dX1_copyFrom_40 : decode cX1_copyFrom 40 = .ok (.aload_n 0, 1) := by decide +kernel
theorem dX1_copyFrom_41 : decode cX1_copyFrom 41 = .ok (.aload_n 1, 1) := by decide +kernel
theorem dX1_copyFrom_42 : decode cX1_copyFrom 42 = .ok (.getfield 62, 3) := by decide +kernel
theorem dX1_copyFrom_45 : decode cX1_copyFrom 45 = .ok (.putfield 62, 3) := by decide +kernel
theorem dX1_copyFrom_48 : decode cX1_copyFrom 48 = .ok (.aload_n 0, 1) := by decide +kernel
theorem dX1_copyFrom_49 : decode cX1_copyFrom 49 = .ok (.aload_n 1, 1) := by decide +kernel
theorem dX1_copyFrom_50 : decode cX1_copyFrom 50 = .ok (.getfield 65, 3) := by decide +kernel
theorem dX1_copyFrom_53 : decode cX1_copyFrom 53 = .ok (.putfield 65, 3) := by decide +kernel
theorem dX1_copyFrom_56 : decode cX1_copyFrom 56 = .ok (.aload_n 0, 1) := by decide +kernel
theorem dX1_copyFrom_57 : decode cX1_copyFrom 57 = .ok (.aload_n 1, 1) := by decide +kernel
theorem dX1_copyFrom_58 : decode cX1_copyFrom 58 = .ok (.getfield 68, 3) := by decide +kernel
theorem dX1_copyFrom_61 : decode cX1_copyFrom 61 = .ok (.putfield 68, 3) := by decide +kernel
theorem dX1_copyFrom_64 : decode cX1_copyFrom 64 = .ok (.aload_n 0, 1) := by decide +kernel
theorem dX1_copyFrom_65 : decode cX1_copyFrom 65 = .ok (.aload_n 1, 1) := by decide +kernel
theorem dX1_copyFrom_66 : decode cX1_copyFrom 66 = .ok (.getfield 71, 3) := by decide +kernel
theorem dX1_copyFrom_69 : decode cX1_copyFrom 69 = .ok (.putfield 71, 3) := by decide +kernel
theorem dX1_copyFrom_72 : decode cX1_copyFrom 72 = .ok (.aload_n 1, 1) := by decide +kernel
theorem dX1_copyFrom_73 : decode cX1_copyFrom 73 = .ok (.getfield 16, 3) := by decide +kernel
theorem dX1_copyFrom_76 : decode cX1_copyFrom 76 = .ok (.iconst 0, 1) := by decide +kernel
theorem dX1_copyFrom_77 : decode cX1_copyFrom 77 = .ok (.aload_n 0, 1) := by decide +kernel
theorem dX1_copyFrom_78 : decode cX1_copyFrom 78 = .ok (.getfield 16, 3) := by decide +kernel
theorem dX1_copyFrom_81 : decode cX1_copyFrom 81 = .ok (.iconst 0, 1) := by decide +kernel
theorem dX1_copyFrom_82 : decode cX1_copyFrom 82 = .ok (.iconst 4, 1) := by decide +kernel
theorem dX1_copyFrom_83 : decode cX1_copyFrom 83 = .ok (.invokestatic 74, 3) := by decide +kernel
theorem dX1_copyFrom_86 : decode cX1_copyFrom 86 = .ok (.aload_n 1, 1) := by decide +kernel
theorem dX1_copyFrom_87 : decode cX1_copyFrom 87 = .ok (.getfield 20, 3) := by decide +kernel
theorem dX1_copyFrom_90 : decode cX1_copyFrom 90 = .ok (.iconst 0, 1) := by decide +kernel
theorem dX1_copyFrom_91 : decode cX1_copyFrom 91 = .ok (.aload_n 0, 1) := by decide +kernel
theorem dX1_copyFrom_92 : decode cX1_copyFrom 92 = .ok (.getfield 20, 3) := by decide +kernel
theorem dX1_copyFrom_95 : decode cX1_copyFrom 95 = .ok (.iconst 0, 1) := by decide +kernel
theorem dX1_copyFrom_96 : decode cX1_copyFrom 96 = .ok (.bipush 6, 2) := by decide +kernel
theorem dX1_copyFrom_98 : decode cX1_copyFrom 98 = .ok (.invokestatic 74, 3) := by decide +kernel
theorem dX1_copyFrom_101 : decode cX1_copyFrom 101 = .ok (.aload_n 1, 1) := by decide +kernel
theorem dX1_copyFrom_102 : decode cX1_copyFrom 102 = .ok (.getfield 23, 3) := by decide +kernel
theorem dX1_copyFrom_105 : decode cX1_copyFrom 105 = .ok (.iconst 0, 1) := by decide +kernel
theorem dX1_copyFrom_106 : decode cX1_copyFrom 106 = .ok (.aload_n 0, 1) := by decide +kernel
theorem dX1_copyFrom_107 : decode cX1_copyFrom 107 = .ok (.getfield 23, 3) := by decide +kernel
theorem dX1_copyFrom_110 : decode cX1_copyFrom 110 = .ok (.iconst 0, 1) := by decide +kernel
theorem dX1_copyFrom_111 : decode cX1_copyFrom 111 = .ok (.bipush 6, 2) := by decide +kernel
theorem dX1_copyFrom_113 : decode cX1_copyFrom 113 = .ok (.invokestatic 74, 3) := by decide +kernel
theorem dX1_copyFrom_116 : decode cX1_copyFrom 116 = .ok (.aload_n 1, 1) := by decide +kernel
theorem dX1_copyFrom_117 : decode cX1_copyFrom 117 = .ok (.getfield 26, 3) := by decide +kernel
theorem dX1_copyFrom_120 : decode cX1_copyFrom 120 = .ok (.iconst 0, 1) := by decide +kernel
theorem dX1_copyFrom_121 : decode cX1_copyFrom 121 = .ok (.aload_n 0, 1) := by decide +kernel
theorem dX1_copyFrom_122 : decode cX1_copyFrom 122 = .ok (.getfield 26, 3) := by decide +kernel
theorem dX1_copyFrom_125 : decode cX1_copyFrom 125 = .ok (.iconst 0, 1) := by decide +kernel
theorem dX1_copyFrom_126 : decode cX1_copyFrom 126 = .ok (.bipush 6, 2) := by decide +kernel
theorem dX1_copyFrom_128 : decode cX1_copyFrom 128 = .ok (.invokestatic 74, 3) := by decide +kernel
theorem dX1_copyFrom_131 : decode cX1_copyFrom 131 = .ok (.aload_n 1, 1) := by decide +kernel
theorem dX1_copyFrom_132 : decode cX1_copyFrom 132 = .ok (.getfield 29, 3) := by decide +kernel
theorem dX1_copyFrom_135 : decode cX1_copyFrom 135 = .ok (.iconst 0, 1) := by decide +kernel
theorem dX1_copyFrom_136 : decode cX1_copyFrom 136 = .ok (.aload_n 0, 1) := by decide +kernel
theorem dX1_copyFrom_137 : decode cX1_copyFrom 137 = .ok (.getfield 29, 3) := by decide +kernel
theorem dX1_copyFrom_140 : decode cX1_copyFrom 140 = .ok (.iconst 0, 1) := by decide +kernel
theorem dX1_copyFrom_141 : decode cX1_copyFrom 141 = .ok (.bipush 6, 2) := by decide +kernel
theorem dX1_copyFrom_143 : decode cX1_copyFrom 143 = .ok (.invokestatic 74, 3) := by decide +kernel
theorem dX1_copyFrom_146 : decode cX1_copyFrom 146 = .ok (.aload_n 1, 1) := by decide +kernel
theorem dX1_copyFrom_147 : decode cX1_copyFrom 147 = .ok (.getfield 32, 3) := by decide +kernel
theorem dX1_copyFrom_150 : decode cX1_copyFrom 150 = .ok (.iconst 0, 1) := by decide +kernel
theorem dX1_copyFrom_151 : decode cX1_copyFrom 151 = .ok (.aload_n 0, 1) := by decide +kernel
theorem dX1_copyFrom_152 : decode cX1_copyFrom 152 = .ok (.getfield 32, 3) := by decide +kernel
theorem dX1_copyFrom_155 : decode cX1_copyFrom 155 = .ok (.iconst 0, 1) := by decide +kernel
theorem dX1_copyFrom_156 : decode cX1_copyFrom 156 = .ok (.bipush 8, 2) := by decide +kernel
theorem dX1_copyFrom_158 : decode cX1_copyFrom 158 = .ok (.invokestatic 74, 3) := by decide +kernel
theorem dX1_copyFrom_161 : decode cX1_copyFrom 161 = .ok (.aload_n 1, 1) := by decide +kernel
theorem dX1_copyFrom_162 : decode cX1_copyFrom 162 = .ok (.getfield 35, 3) := by decide +kernel
theorem dX1_copyFrom_165 : decode cX1_copyFrom 165 = .ok (.iconst 0, 1) := by decide +kernel
theorem dX1_copyFrom_166 : decode cX1_copyFrom 166 = .ok (.aload_n 0, 1) := by decide +kernel
theorem dX1_copyFrom_167 : decode cX1_copyFrom 167 = .ok (.getfield 35, 3) := by decide +kernel
theorem dX1_copyFrom_170 : decode cX1_copyFrom 170 = .ok (.iconst 0, 1) := by decide +kernel
theorem dX1_copyFrom_171 : decode cX1_copyFrom 171 = .ok (.bipush 8, 2) := by decide +kernel
theorem dX1_copyFrom_173 : decode cX1_copyFrom 173 = .ok (.invokestatic 74, 3) := by decide +kernel
theorem dX1_copyFrom_176 : decode cX1_copyFrom 176 = .ok (.aload_n 1, 1) := by decide +kernel
theorem dX1_copyFrom_177 : decode cX1_copyFrom 177 = .ok (.getfield 38, 3) := by decide +kernel
theorem dX1_copyFrom_180 : decode cX1_copyFrom 180 = .ok (.iconst 0, 1) := by decide +kernel
theorem dX1_copyFrom_181 : decode cX1_copyFrom 181 = .ok (.aload_n 0, 1) := by decide +kernel
theorem dX1_copyFrom_182 : decode cX1_copyFrom 182 = .ok (.getfield 38, 3) := by decide +kernel
theorem dX1_copyFrom_185 : decode cX1_copyFrom 185 = .ok (.iconst 0, 1) := by decide +kernel
theorem dX1_copyFrom_186 : decode cX1_copyFrom 186 = .ok (.bipush 8, 2) := by decide +kernel
theorem dX1_copyFrom_188 : decode cX1_copyFrom 188 = .ok (.invokestatic 74, 3) := by decide +kernel
theorem dX1_copyFrom_191 : decode cX1_copyFrom 191 = .ok (.aload_n 1, 1) := by decide +kernel
theorem dX1_copyFrom_192 : decode cX1_copyFrom 192 = .ok (.getfield 41, 3) := by decide +kernel
theorem dX1_copyFrom_195 : decode cX1_copyFrom 195 = .ok (.iconst 0, 1) := by decide +kernel
theorem dX1_copyFrom_196 : decode cX1_copyFrom 196 = .ok (.aload_n 0, 1) := by decide +kernel
theorem dX1_copyFrom_197 : decode cX1_copyFrom 197 = .ok (.getfield 41, 3) := by decide +kernel
theorem dX1_copyFrom_200 : decode cX1_copyFrom 200 = .ok (.iconst 0, 1) := by decide +kernel
theorem dX1_copyFrom_201 : decode cX1_copyFrom 201 = .ok (.bipush 8, 2) := by decide +kernel
theorem dX1_copyFrom_203 : decode cX1_copyFrom 203 = .ok (.invokestatic 74, 3) := by decide +kernel
theorem dX1_copyFrom_206 : decode cX1_copyFrom 206 = .ok (.aload_n 1, 1) := by decide +kernel
theorem dX1_copyFrom_207 : decode cX1_copyFrom 207 = .ok (.getfield 44, 3) := by decide +kernel
theorem dX1_copyFrom_210 : decode cX1_copyFrom 210 = .ok (.iconst 0, 1) := by decide +kernel
theorem dX1_copyFrom_211 : decode cX1_copyFrom 211 = .ok (.aload_n 0, 1) := by decide +kernel
theorem dX1_copyFrom_212 : decode cX1_copyFrom 212 = .ok (.getfield 44, 3) := by decide +kernel
theorem dX1_copyFrom_215 : decode cX1_copyFrom 215 = .ok (.iconst 0, 1) := by decide +kernel
theorem dX1_copyFrom_216 : decode cX1_copyFrom 216 = .ok (.bipush 8, 2) := by decide +kernel
theorem dX1_copyFrom_218 : decode cX1_copyFrom 218 = .ok (.invokestatic 74, 3) := by decide +kernel
theorem dX1_copyFrom_221 : decode cX1_copyFrom 221 = .ok (.aload_n 1, 1) := by decide +kernel
theorem dX1_copyFrom_222 : decode cX1_copyFrom 222 = .ok (.getfield 47, 3) := by decide +kernel
theorem dX1_copyFrom_225 : decode cX1_copyFrom 225 = .ok (.iconst 0, 1) := by decide +kernel
theorem dX1_copyFrom_226 : decode cX1_copyFrom 226 = .ok (.aload_n 0, 1) := by decide +kernel
theorem dX1_copyFrom_227 : decode cX1_copyFrom 227 = .ok (.getfield 47, 3) := by decide +kernel
theorem dX1_copyFrom_230 : decode cX1_copyFrom 230 = .ok (.iconst 0, 1) := by decide +kernel
theorem dX1_copyFrom_231 : decode cX1_copyFrom 231 = .ok (.bipush 8, 2) := by decide +kernel
theorem dX1_copyFrom_233 : decode cX1_copyFrom 233 = .ok (.invokestatic 74, 3) := by decide +kernel
theorem dX1_copyFrom_236 : decode cX1_copyFrom 236 = .ok (.return_, 1) := by decide +kernel
theorem dX1_hasCan_0 : decode cX1_hasCan 0 = .ok (.iload_n 1, 1) := by decide +kernel
theorem dX1_hasCan_1 : decode cX1_hasCan 1 = .ok (.ifCond .lt 15, 3) := by decide +kernel
theorem dX1_hasCan_4 : decode cX1_hasCan 4 = .ok (.iload_n 1, 1) := by decide +kernel
theorem dX1_hasCan_5 : decode cX1_hasCan 5 = .ok (.aload_n 0, 1) := by decide +kernel
theorem dX1_hasCan_6 : decode cX1_hasCan 6 = .ok (.getfield 50, 3) := by decide +kernel
theorem dX1_hasCan_9 : decode cX1_hasCan 9 = .ok (.if_icmp .ge 7, 3) := by decide +kernel
theorem dX1_hasCan_12 : decode cX1_hasCan 12 = .ok (.iconst 1, 1) := by decide +kernel
theorem dX1_hasCan_13 : decode cX1_hasCan 13 = .ok (.goto 4, 3) := by decide +kernel
theorem dX1_hasCan_16 : decode cX1_hasCan 16 = .ok (.iconst 0, 1) := by decide +kernel
theorem dX1_hasCan_17 : decode cX1_hasCan 17 = .ok (.ireturn, 1) := by decide +kernel
theorem dX1_hasTake_0 : decode cX1_hasTake 0 = .ok (.iload_n 1, 1) := by decide +kernel
theorem dX1_hasTake_1 : decode cX1_hasTake 1 = .ok (.ifCond .lt 15, 3) := by decide +kernel
theorem dX1_hasTake_4 : decode cX1_hasTake 4 = .ok (.iload_n 1, 1) := by decide +kernel
theorem dX1_hasTake_5 : decode cX1_hasTake 5 = .ok (.aload_n 0, 1) := by decide +kernel
theorem dX1_hasTake_6 : decode cX1_hasTake 6 = .ok (.getfield 53, 3) := by decide +kernel
theorem dX1_hasTake_9 : decode cX1_hasTake 9 = .ok (.if_icmp .ge 7, 3) := by decide +kernel
theorem dX1_hasTake_12 : decode cX1_hasTake 12 = .ok (.iconst 1, 1) := by decide +kernel
theorem dX1_hasTake_13 : decode cX1_hasTake 13 = .ok (.goto 4, 3) := by decide +kernel
theorem dX1_hasTake_16 : decode cX1_hasTake 16 = .ok (.iconst 0, 1) := by decide +kernel
theorem dX1_hasTake_17 : decode cX1_hasTake 17 = .ok (.ireturn, 1) := by decide +kernel
theorem dX1_isOpen_0 : decode cX1_isOpen 0 = .ok (.aload_n 0, 1) := by decide +kernel
theorem dX1_isOpen_1 : decode cX1_isOpen 1 = .ok (.getfield 38, 3) := by decide +kernel
theorem dX1_isOpen_4 : decode cX1_isOpen 4 = .ok (.iload_n 1, 1) := by decide +kernel
theorem dX1_isOpen_5 : decode cX1_isOpen 5 = .ok (.iaload, 1) := by decide +kernel
theorem dX1_isOpen_6 : decode cX1_isOpen 6 = .ok (.ldc 9, 2) := by decide +kernel
theorem dX1_isOpen_8 : decode cX1_isOpen 8 = .ok (.if_icmp .ne 7, 3) := by decide +kernel
theorem dX1_isOpen_11 : decode cX1_isOpen 11 = .ok (.iconst 1, 1) := by decide +kernel
theorem dX1_isOpen_12 : decode cX1_isOpen 12 = .ok (.goto 4, 3) := by decide +kernel
theorem dX1_isOpen_15 : decode cX1_isOpen 15 = .ok (.iconst 0, 1) := by decide +kernel
theorem dX1_isOpen_16 : decode cX1_isOpen 16 = .ok (.ireturn, 1) := by decide +kernel
theorem dX1_isRoom_0 : decode cX1_isRoom 0 = .ok (.aload_n 0, 1) := by decide +kernel
theorem dX1_isRoom_1 : decode cX1_isRoom 1 = .ok (.getfield 26, 3) := by decide +kernel
theorem dX1_isRoom_4 : decode cX1_isRoom 4 = .ok (.iload_n 1, 1) := by decide +kernel
theorem dX1_isRoom_5 : decode cX1_isRoom 5 = .ok (.iaload, 1) := by decide +kernel
theorem dX1_isRoom_6 : decode cX1_isRoom 6 = .ok (.iconst 2, 1) := by decide +kernel
theorem dX1_isRoom_7 : decode cX1_isRoom 7 = .ok (.if_icmp .eq 7, 3) := by decide +kernel
theorem dX1_isRoom_10 : decode cX1_isRoom 10 = .ok (.iconst 1, 1) := by decide +kernel
theorem dX1_isRoom_11 : decode cX1_isRoom 11 = .ok (.goto 4, 3) := by decide +kernel
theorem dX1_isRoom_14 : decode cX1_isRoom 14 = .ok (.iconst 0, 1) := by decide +kernel
theorem dX1_isRoom_15 : decode cX1_isRoom 15 = .ok (.ireturn, 1) := by decide +kernel
theorem dX1_serves_0 : decode cX1_serves 0 = .ok (.aload_n 0, 1) := by decide +kernel
theorem dX1_serves_1 : decode cX1_serves 1 = .ok (.getfield 20, 3) := by decide +kernel
theorem dX1_serves_4 : decode cX1_serves 4 = .ok (.iload_n 1, 1) := by decide +kernel
theorem dX1_serves_5 : decode cX1_serves 5 = .ok (.iaload, 1) := by decide +kernel
theorem dX1_serves_6 : decode cX1_serves 6 = .ok (.aload_n 0, 1) := by decide +kernel
theorem dX1_serves_7 : decode cX1_serves 7 = .ok (.getfield 32, 3) := by decide +kernel
theorem dX1_serves_10 : decode cX1_serves 10 = .ok (.iload_n 2, 1) := by decide +kernel
theorem dX1_serves_11 : decode cX1_serves 11 = .ok (.iaload, 1) := by decide +kernel
theorem dX1_serves_12 : decode cX1_serves 12 = .ok (.invokestatic 80, 3) := by decide +kernel
theorem dX1_serves_15 : decode cX1_serves 15 = .ok (.ireturn, 1) := by decide +kernel
theorem dX1_leadOf_0 : decode cX1_leadOf 0 = .ok (.aload_n 0, 1) := by decide +kernel
theorem dX1_leadOf_1 : decode cX1_leadOf 1 = .ok (.getfield 20, 3) := by decide +kernel
theorem dX1_leadOf_4 : decode cX1_leadOf 4 = .ok (.iload_n 1, 1) := by decide +kernel
theorem dX1_leadOf_5 : decode cX1_leadOf 5 = .ok (.iaload, 1) := by decide +kernel
theorem dX1_leadOf_6 : decode cX1_leadOf 6 = .ok (.aload_n 0, 1) := by decide +kernel
theorem dX1_leadOf_7 : decode cX1_leadOf 7 = .ok (.getfield 16, 3) := by decide +kernel
theorem dX1_leadOf_10 : decode cX1_leadOf 10 = .ok (.iconst 0, 1) := by decide +kernel
theorem dX1_leadOf_11 : decode cX1_leadOf 11 = .ok (.iaload, 1) := by decide +kernel
theorem dX1_leadOf_12 : decode cX1_leadOf 12 = .ok (.invokestatic 86, 3) := by decide +kernel
theorem dX1_leadOf_15 : decode cX1_leadOf 15 = .ok (.ireturn, 1) := by decide +kernel
theorem dX1_leastKeptOf_0 : decode cX1_leastKeptOf 0 = .ok (.aload_n 0, 1) := by decide +kernel
theorem dX1_leastKeptOf_1 : decode cX1_leastKeptOf 1 = .ok (.getfield 20, 3) := by decide +kernel
theorem dX1_leastKeptOf_4 : decode cX1_leastKeptOf 4 = .ok (.iload_n 1, 1) := by decide +kernel
theorem dX1_leastKeptOf_5 : decode cX1_leastKeptOf 5 = .ok (.iaload, 1) := by decide +kernel
theorem dX1_leastKeptOf_6 : decode cX1_leastKeptOf 6 = .ok (.aload_n 0, 1) := by decide +kernel
theorem dX1_leastKeptOf_7 : decode cX1_leastKeptOf 7 = .ok (.getfield 16, 3) := by decide +kernel
theorem dX1_leastKeptOf_10 : decode cX1_leastKeptOf 10 = .ok (.iconst 1, 1) := by decide +kernel
theorem dX1_leastKeptOf_11 : decode cX1_leastKeptOf 11 = .ok (.iaload, 1) := by decide +kernel
theorem dX1_leastKeptOf_12 : decode cX1_leastKeptOf 12 = .ok (.invokestatic 90, 3) := by decide +kernel
theorem dX1_leastKeptOf_15 : decode cX1_leastKeptOf 15 = .ok (.ireturn, 1) := by decide +kernel
theorem dX1_openTakes_0 : decode cX1_openTakes 0 = .ok (.aload_n 0, 1) := by decide +kernel
theorem dX1_openTakes_1 : decode cX1_openTakes 1 = .ok (.ldc 9, 2) := by decide +kernel
theorem dX1_openTakes_3 : decode cX1_openTakes 3 = .ok (.invokevirtual 93, 3) := by decide +kernel
theorem dX1_openTakes_6 : decode cX1_openTakes 6 = .ok (.ireturn, 1) := by decide +kernel
theorem dX1_takesShotOn_0 : decode cX1_takesShotOn 0 = .ok (.iconst 0, 1) := by decide +kernel
theorem dX1_takesShotOn_1 : decode cX1_takesShotOn 1 = .ok (.istore_n 2, 1) := by decide +kernel
theorem dX1_takesShotOn_2 : decode cX1_takesShotOn 2 = .ok (.iconst 0, 1) := by decide +kernel
theorem dX1_takesShotOn_3 : decode cX1_takesShotOn 3 = .ok (.istore_n 3, 1) := by decide +kernel
theorem dX1_takesShotOn_4 : decode cX1_takesShotOn 4 = .ok (.iload_n 3, 1) := by decide +kernel
theorem dX1_takesShotOn_5 : decode cX1_takesShotOn 5 = .ok (.aload_n 0, 1) := by decide +kernel
theorem dX1_takesShotOn_6 : decode cX1_takesShotOn 6 = .ok (.getfield 53, 3) := by decide +kernel
theorem dX1_takesShotOn_9 : decode cX1_takesShotOn 9 = .ok (.if_icmp .ge 25, 3) := by decide +kernel
theorem dX1_takesShotOn_12 : decode cX1_takesShotOn 12 = .ok (.aload_n 0, 1) := by decide +kernel
theorem dX1_takesShotOn_13 : decode cX1_takesShotOn 13 = .ok (.getfield 38, 3) := by decide +kernel
theorem dX1_takesShotOn_16 : decode cX1_takesShotOn 16 = .ok (.iload_n 3, 1) := by decide +kernel
theorem dX1_takesShotOn_17 : decode cX1_takesShotOn 17 = .ok (.iaload, 1) := by decide +kernel
theorem dX1_takesShotOn_18 : decode cX1_takesShotOn 18 = .ok (.iload_n 1, 1) := by decide +kernel
theorem dX1_takesShotOn_19 : decode cX1_takesShotOn 19 = .ok (.if_icmp .ne 9, 3) := by decide +kernel
theorem dX1_takesShotOn_22 : decode cX1_takesShotOn 22 = .ok (.iload_n 2, 1) := by decide +kernel
theorem dX1_takesShotOn_23 : decode cX1_takesShotOn 23 = .ok (.iconst 1, 1) := by decide +kernel
theorem dX1_takesShotOn_24 : decode cX1_takesShotOn 24 = .ok (.iload_n 3, 1) := by decide +kernel
theorem dX1_takesShotOn_25 : decode cX1_takesShotOn 25 = .ok (.ishl, 1) := by decide +kernel
theorem dX1_takesShotOn_26 : decode cX1_takesShotOn 26 = .ok (.ior, 1) := by decide +kernel
theorem dX1_takesShotOn_27 : decode cX1_takesShotOn 27 = .ok (.istore_n 2, 1) := by decide +kernel
theorem dX1_takesShotOn_28 : decode cX1_takesShotOn 28 = .ok (.iinc 3 1, 3) := by decide +kernel
theorem dX1_takesShotOn_31 : decode cX1_takesShotOn 31 = .ok (.goto (-27), 3) := by decide +kernel
theorem dX1_takesShotOn_34 : decode cX1_takesShotOn 34 = .ok (.iload_n 2, 1) := by decide +kernel
theorem dX1_takesShotOn_35 : decode cX1_takesShotOn 35 = .ok (.ireturn, 1) := by decide +kernel
theorem dX1_takesServedBy_0 : decode cX1_takesServedBy 0 = .ok (.iconst 0, 1) := by decide +kernel
theorem dX1_takesServedBy_1 : decode cX1_takesServedBy 1 = .ok (.istore_n 2, 1) := by decide +kernel
theorem dX1_takesServedBy_2 : decode cX1_takesServedBy 2 = .ok (.iconst 0, 1) := by decide +kernel
theorem dX1_takesServedBy_3 : decode cX1_takesServedBy 3 = .ok (.istore_n 3, 1) := by decide +kernel
theorem dX1_takesServedBy_4 : decode cX1_takesServedBy 4 = .ok (.iload_n 3, 1) := by decide +kernel
theorem dX1_takesServedBy_5 : decode cX1_takesServedBy 5 = .ok (.aload_n 0, 1) := by decide +kernel
theorem dX1_takesServedBy_6 : decode cX1_takesServedBy 6 = .ok (.getfield 53, 3) := by decide +kernel
theorem dX1_takesServedBy_9 : decode cX1_takesServedBy 9 = .ok (.if_icmp .ge 28, 3) := by decide +kernel
theorem dX1_takesServedBy_12 : decode cX1_takesServedBy 12 = .ok (.iload_n 1, 1) := by decide +kernel
theorem dX1_takesServedBy_13 : decode cX1_takesServedBy 13 = .ok (.aload_n 0, 1) := by decide +kernel
theorem dX1_takesServedBy_14 : decode cX1_takesServedBy 14 = .ok (.getfield 32, 3) := by decide +kernel
theorem dX1_takesServedBy_17 : decode cX1_takesServedBy 17 = .ok (.iload_n 3, 1) := by decide +kernel
theorem dX1_takesServedBy_18 : decode cX1_takesServedBy 18 = .ok (.iaload, 1) := by decide +kernel
theorem dX1_takesServedBy_19 : decode cX1_takesServedBy 19 = .ok (.invokestatic 80, 3) := by decide +kernel
theorem dX1_takesServedBy_22 : decode cX1_takesServedBy 22 = .ok (.ifCond .eq 9, 3) := by decide +kernel
theorem dX1_takesServedBy_25 : decode cX1_takesServedBy 25 = .ok (.iload_n 2, 1) := by decide +kernel
theorem dX1_takesServedBy_26 : decode cX1_takesServedBy 26 = .ok (.iconst 1, 1) := by decide +kernel
theorem dX1_takesServedBy_27 : decode cX1_takesServedBy 27 = .ok (.iload_n 3, 1) := by decide +kernel
theorem dX1_takesServedBy_28 : decode cX1_takesServedBy 28 = .ok (.ishl, 1) := by decide +kernel
theorem dX1_takesServedBy_29 : decode cX1_takesServedBy 29 = .ok (.ior, 1) := by decide +kernel
theorem dX1_takesServedBy_30 : decode cX1_takesServedBy 30 = .ok (.istore_n 2, 1) := by decide +kernel
theorem dX1_takesServedBy_31 : decode cX1_takesServedBy 31 = .ok (.iinc 3 1, 3) := by decide +kernel
theorem dX1_takesServedBy_34 : decode cX1_takesServedBy 34 = .ok (.goto (-30), 3) := by decide +kernel
theorem dX1_takesServedBy_37 : decode cX1_takesServedBy 37 = .ok (.iload_n 2, 1) := by decide +kernel
theorem dX1_takesServedBy_38 : decode cX1_takesServedBy 38 = .ok (.ireturn, 1) := by decide +kernel
theorem dX1_cansThatServe_0 : decode cX1_cansThatServe 0 = .ok (.iconst 0, 1) := by decide +kernel
theorem dX1_cansThatServe_1 : decode cX1_cansThatServe 1 = .ok (.istore_n 2, 1) := by decide +kernel
theorem dX1_cansThatServe_2 : decode cX1_cansThatServe 2 = .ok (.iconst 0, 1) := by decide +kernel
theorem dX1_cansThatServe_3 : decode cX1_cansThatServe 3 = .ok (.istore_n 3, 1) := by decide +kernel
theorem dX1_cansThatServe_4 : decode cX1_cansThatServe 4 = .ok (.iload_n 3, 1) := by decide +kernel
theorem dX1_cansThatServe_5 : decode cX1_cansThatServe 5 = .ok (.aload_n 0, 1) := by decide +kernel
theorem dX1_cansThatServe_6 : decode cX1_cansThatServe 6 = .ok (.getfield 50, 3) := by decide +kernel
theorem dX1_cansThatServe_9 : decode cX1_cansThatServe 9 = .ok (.if_icmp .ge 24, 3) := by decide +kernel
theorem dX1_cansThatServe_12 : decode cX1_cansThatServe 12 = .ok (.aload_n 0, 1) := by decide +kernel
theorem dX1_cansThatServe_13 : decode cX1_cansThatServe 13 = .ok (.iload_n 3, 1) := by decide +kernel
theorem dX1_cansThatServe_14 : decode cX1_cansThatServe 14 = .ok (.iload_n 1, 1) := by decide +kernel
theorem dX1_cansThatServe_15 : decode cX1_cansThatServe 15 = .ok (.invokevirtual 97, 3) := by decide +kernel
theorem dX1_cansThatServe_18 : decode cX1_cansThatServe 18 = .ok (.ifCond .eq 9, 3) := by decide +kernel
theorem dX1_cansThatServe_21 : decode cX1_cansThatServe 21 = .ok (.iload_n 2, 1) := by decide +kernel
theorem dX1_cansThatServe_22 : decode cX1_cansThatServe 22 = .ok (.iconst 1, 1) := by decide +kernel
theorem dX1_cansThatServe_23 : decode cX1_cansThatServe 23 = .ok (.iload_n 3, 1) := by decide +kernel
theorem dX1_cansThatServe_24 : decode cX1_cansThatServe 24 = .ok (.ishl, 1) := by decide +kernel
theorem dX1_cansThatServe_25 : decode cX1_cansThatServe 25 = .ok (.ior, 1) := by decide +kernel
theorem dX1_cansThatServe_26 : decode cX1_cansThatServe 26 = .ok (.istore_n 2, 1) := by decide +kernel
theorem dX1_cansThatServe_27 : decode cX1_cansThatServe 27 = .ok (.iinc 3 1, 3) := by decide +kernel
theorem dX1_cansThatServe_30 : decode cX1_cansThatServe 30 = .ok (.goto (-26), 3) := by decide +kernel
theorem dX1_cansThatServe_33 : decode cX1_cansThatServe 33 = .ok (.iload_n 2, 1) := by decide +kernel
theorem dX1_cansThatServe_34 : decode cX1_cansThatServe 34 = .ok (.ireturn, 1) := by decide +kernel
theorem dX1_rooms_0 : decode cX1_rooms 0 = .ok (.iconst 0, 1) := by decide +kernel
theorem dX1_rooms_1 : decode cX1_rooms 1 = .ok (.istore_n 1, 1) := by decide +kernel
theorem dX1_rooms_2 : decode cX1_rooms 2 = .ok (.iconst 0, 1) := by decide +kernel
theorem dX1_rooms_3 : decode cX1_rooms 3 = .ok (.istore_n 2, 1) := by decide +kernel
theorem dX1_rooms_4 : decode cX1_rooms 4 = .ok (.iload_n 2, 1) := by decide +kernel
theorem dX1_rooms_5 : decode cX1_rooms 5 = .ok (.aload_n 0, 1) := by decide +kernel
theorem dX1_rooms_6 : decode cX1_rooms 6 = .ok (.getfield 50, 3) := by decide +kernel
theorem dX1_rooms_9 : decode cX1_rooms 9 = .ok (.if_icmp .ge 23, 3) := by decide +kernel
theorem dX1_rooms_12 : decode cX1_rooms 12 = .ok (.aload_n 0, 1) := by decide +kernel
theorem dX1_rooms_13 : decode cX1_rooms 13 = .ok (.iload_n 2, 1) := by decide +kernel
theorem dX1_rooms_14 : decode cX1_rooms 14 = .ok (.invokevirtual 100, 3) := by decide +kernel
theorem dX1_rooms_17 : decode cX1_rooms 17 = .ok (.ifCond .eq 9, 3) := by decide +kernel
theorem dX1_rooms_20 : decode cX1_rooms 20 = .ok (.iload_n 1, 1) := by decide +kernel
theorem dX1_rooms_21 : decode cX1_rooms 21 = .ok (.iconst 1, 1) := by decide +kernel
theorem dX1_rooms_22 : decode cX1_rooms 22 = .ok (.iload_n 2, 1) := by decide +kernel
theorem dX1_rooms_23 : decode cX1_rooms 23 = .ok (.ishl, 1) := by decide +kernel
theorem dX1_rooms_24 : decode cX1_rooms 24 = .ok (.ior, 1) := by decide +kernel
theorem dX1_rooms_25 : decode cX1_rooms 25 = .ok (.istore_n 1, 1) := by decide +kernel
theorem dX1_rooms_26 : decode cX1_rooms 26 = .ok (.iinc 2 1, 3) := by decide +kernel
theorem dX1_rooms_29 : decode cX1_rooms 29 = .ok (.goto (-25), 3) := by decide +kernel
theorem dX1_rooms_32 : decode cX1_rooms 32 = .ok (.iload_n 1, 1) := by decide +kernel
theorem dX1_rooms_33 : decode cX1_rooms 33 = .ok (.ireturn, 1) := by decide +kernel
theorem dX1_feetOnShelf_0 : decode cX1_feetOnShelf 0 = .ok (.iconst 0, 1) := by decide +kernel
theorem dX1_feetOnShelf_1 : decode cX1_feetOnShelf 1 = .ok (.istore_n 1, 1) := by decide +kernel
theorem dX1_feetOnShelf_2 : decode cX1_feetOnShelf 2 = .ok (.iconst 0, 1) := by decide +kernel
theorem dX1_feetOnShelf_3 : decode cX1_feetOnShelf 3 = .ok (.istore_n 2, 1) := by decide +kernel
theorem dX1_feetOnShelf_4 : decode cX1_feetOnShelf 4 = .ok (.iload_n 2, 1) := by decide +kernel
theorem dX1_feetOnShelf_5 : decode cX1_feetOnShelf 5 = .ok (.aload_n 0, 1) := by decide +kernel
theorem dX1_feetOnShelf_6 : decode cX1_feetOnShelf 6 = .ok (.getfield 50, 3) := by decide +kernel
theorem dX1_feetOnShelf_9 : decode cX1_feetOnShelf 9 = .ok (.if_icmp .ge 27, 3) := by decide +kernel
theorem dX1_feetOnShelf_12 : decode cX1_feetOnShelf 12 = .ok (.aload_n 0, 1) := by decide +kernel
theorem dX1_feetOnShelf_13 : decode cX1_feetOnShelf 13 = .ok (.getfield 26, 3) := by decide +kernel
theorem dX1_feetOnShelf_16 : decode cX1_feetOnShelf 16 = .ok (.iload_n 2, 1) := by decide +kernel
theorem dX1_feetOnShelf_17 : decode cX1_feetOnShelf 17 = .ok (.iaload, 1) := by decide +kernel
theorem dX1_feetOnShelf_18 : decode cX1_feetOnShelf 18 = .ok (.ifCond .ne 12, 3) := by decide +kernel
theorem dX1_feetOnShelf_21 : decode cX1_feetOnShelf 21 = .ok (.iload_n 1, 1) := by decide +kernel
theorem dX1_feetOnShelf_22 : decode cX1_feetOnShelf 22 = .ok (.aload_n 0, 1) := by decide +kernel
theorem dX1_feetOnShelf_23 : decode cX1_feetOnShelf 23 = .ok (.getfield 23, 3) := by decide +kernel
theorem dX1_feetOnShelf_26 : decode cX1_feetOnShelf 26 = .ok (.iload_n 2, 1) := by decide +kernel
theorem dX1_feetOnShelf_27 : decode cX1_feetOnShelf 27 = .ok (.iaload, 1) := by decide +kernel
theorem dX1_feetOnShelf_28 : decode cX1_feetOnShelf 28 = .ok (.iadd, 1) := by decide +kernel
theorem dX1_feetOnShelf_29 : decode cX1_feetOnShelf 29 = .ok (.istore_n 1, 1) := by decide +kernel
theorem dX1_feetOnShelf_30 : decode cX1_feetOnShelf 30 = .ok (.iinc 2 1, 3) := by decide +kernel
theorem dX1_feetOnShelf_33 : decode cX1_feetOnShelf 33 = .ok (.goto (-29), 3) := by decide +kernel
theorem dX1_feetOnShelf_36 : decode cX1_feetOnShelf 36 = .ok (.iload_n 1, 1) := by decide +kernel
theorem dX1_feetOnShelf_37 : decode cX1_feetOnShelf 37 = .ok (.ireturn, 1) := by decide +kernel
theorem dX1_feetThatWait_0 : decode cX1_feetThatWait 0 = .ok (.iconst 0, 1) := by decide +kernel
theorem dX1_feetThatWait_1 : decode cX1_feetThatWait 1 = .ok (.istore_n 1, 1) := by decide +kernel
theorem dX1_feetThatWait_2 : decode cX1_feetThatWait 2 = .ok (.iconst 0, 1) := by decide +kernel
theorem dX1_feetThatWait_3 : decode cX1_feetThatWait 3 = .ok (.istore_n 2, 1) := by decide +kernel
theorem dX1_feetThatWait_4 : decode cX1_feetThatWait 4 = .ok (.iload_n 2, 1) := by decide +kernel
theorem dX1_feetThatWait_5 : decode cX1_feetThatWait 5 = .ok (.aload_n 0, 1) := by decide +kernel
theorem dX1_feetThatWait_6 : decode cX1_feetThatWait 6 = .ok (.getfield 56, 3) := by decide +kernel
theorem dX1_feetThatWait_9 : decode cX1_feetThatWait 9 = .ok (.if_icmp .ge 18, 3) := by decide +kernel
theorem dX1_feetThatWait_12 : decode cX1_feetThatWait 12 = .ok (.iload_n 1, 1) := by decide +kernel
theorem dX1_feetThatWait_13 : decode cX1_feetThatWait 13 = .ok (.aload_n 0, 1) := by decide +kernel
theorem dX1_feetThatWait_14 : decode cX1_feetThatWait 14 = .ok (.getfield 44, 3) := by decide +kernel
theorem dX1_feetThatWait_17 : decode cX1_feetThatWait 17 = .ok (.iload_n 2, 1) := by decide +kernel
theorem dX1_feetThatWait_18 : decode cX1_feetThatWait 18 = .ok (.iaload, 1) := by decide +kernel
theorem dX1_feetThatWait_19 : decode cX1_feetThatWait 19 = .ok (.iadd, 1) := by decide +kernel
theorem dX1_feetThatWait_20 : decode cX1_feetThatWait 20 = .ok (.istore_n 1, 1) := by decide +kernel
theorem dX1_feetThatWait_21 : decode cX1_feetThatWait 21 = .ok (.iinc 2 1, 3) := by decide +kernel
theorem dX1_feetThatWait_24 : decode cX1_feetThatWait 24 = .ok (.goto (-20), 3) := by decide +kernel
theorem dX1_feetThatWait_27 : decode cX1_feetThatWait 27 = .ok (.iload_n 1, 1) := by decide +kernel
theorem dX1_feetThatWait_28 : decode cX1_feetThatWait 28 = .ok (.ireturn, 1) := by decide +kernel
theorem dX1_addCan_0 : decode cX1_addCan 0 = .ok (.aload_n 0, 1) := by decide +kernel
theorem dX1_addCan_1 : decode cX1_addCan 1 = .ok (.getfield 50, 3) := by decide +kernel
theorem dX1_addCan_4 : decode cX1_addCan 4 = .ok (.bipush 6, 2) := by decide +kernel
theorem dX1_addCan_6 : decode cX1_addCan 6 = .ok (.if_icmp .lt 6, 3) := by decide +kernel
theorem dX1_addCan_9 : decode cX1_addCan 9 = .ok (.ldc 9, 2) := by decide +kernel
theorem dX1_addCan_11 : decode cX1_addCan 11 = .ok (.ireturn, 1) := by decide +kernel
theorem dX1_addCan_12 : decode cX1_addCan 12 = .ok (.aload_n 0, 1) := by decide +kernel
theorem dX1_addCan_13 : decode cX1_addCan 13 = .ok (.getfield 50, 3) := by decide +kernel
theorem dX1_addCan_16 : decode cX1_addCan 16 = .ok (.istore_n 3, 1) := by decide +kernel
theorem dX1_addCan_17 : decode cX1_addCan 17 = .ok (.aload_n 0, 1) := by decide +kernel
theorem dX1_addCan_18 : decode cX1_addCan 18 = .ok (.getfield 20, 3) := by decide +kernel
theorem dX1_addCan_21 : decode cX1_addCan 21 = .ok (.iload_n 3, 1) := by decide +kernel
theorem dX1_addCan_22 : decode cX1_addCan 22 = .ok (.iload_n 1, 1) := by decide +kernel
theorem dX1_addCan_23 : decode cX1_addCan 23 = .ok (.iastore, 1) := by decide +kernel
theorem dX1_addCan_24 : decode cX1_addCan 24 = .ok (.aload_n 0, 1) := by decide +kernel
theorem dX1_addCan_25 : decode cX1_addCan 25 = .ok (.getfield 23, 3) := by decide +kernel
theorem dX1_addCan_28 : decode cX1_addCan 28 = .ok (.iload_n 3, 1) := by decide +kernel
theorem dX1_addCan_29 : decode cX1_addCan 29 = .ok (.iload_n 2, 1) := by decide +kernel
theorem dX1_addCan_30 : decode cX1_addCan 30 = .ok (.iastore, 1) := by decide +kernel
theorem dX1_addCan_31 : decode cX1_addCan 31 = .ok (.aload_n 0, 1) := by decide +kernel
theorem dX1_addCan_32 : decode cX1_addCan 32 = .ok (.getfield 26, 3) := by decide +kernel
theorem dX1_addCan_35 : decode cX1_addCan 35 = .ok (.iload_n 3, 1) := by decide +kernel
theorem dX1_addCan_36 : decode cX1_addCan 36 = .ok (.iconst 0, 1) := by decide +kernel
theorem dX1_addCan_37 : decode cX1_addCan 37 = .ok (.iastore, 1) := by decide +kernel
theorem dX1_addCan_38 : decode cX1_addCan 38 = .ok (.aload_n 0, 1) := by decide +kernel
theorem dX1_addCan_39 : decode cX1_addCan 39 = .ok (.getfield 29, 3) := by decide +kernel
theorem dX1_addCan_42 : decode cX1_addCan 42 = .ok (.iload_n 3, 1) := by decide +kernel
theorem dX1_addCan_43 : decode cX1_addCan 43 = .ok (.iconst 0, 1) := by decide +kernel
theorem dX1_addCan_44 : decode cX1_addCan 44 = .ok (.iastore, 1) := by decide +kernel
theorem dX1_addCan_45 : decode cX1_addCan 45 = .ok (.aload_n 0, 1) := by decide +kernel
theorem dX1_addCan_46 : decode cX1_addCan 46 = .ok (.dup, 1) := by decide +kernel
theorem dX1_addCan_47 : decode cX1_addCan 47 = .ok (.getfield 62, 3) := by decide +kernel
theorem dX1_addCan_50 : decode cX1_addCan 50 = .ok (.iload_n 2, 1) := by decide +kernel
theorem dX1_addCan_51 : decode cX1_addCan 51 = .ok (.iadd, 1) := by decide +kernel
theorem dX1_addCan_52 : decode cX1_addCan 52 = .ok (.putfield 62, 3) := by decide +kernel
theorem dX1_addCan_55 : decode cX1_addCan 55 = .ok (.aload_n 0, 1) := by decide +kernel
theorem dX1_addCan_56 : decode cX1_addCan 56 = .ok (.dup, 1) := by decide +kernel
theorem dX1_addCan_57 : decode cX1_addCan 57 = .ok (.getfield 50, 3) := by decide +kernel
theorem dX1_addCan_60 : decode cX1_addCan 60 = .ok (.iconst 1, 1) := by decide +kernel
theorem dX1_addCan_61 : decode cX1_addCan 61 = .ok (.iadd, 1) := by decide +kernel
theorem dX1_addCan_62 : decode cX1_addCan 62 = .ok (.putfield 50, 3) := by decide +kernel
theorem dX1_addCan_65 : decode cX1_addCan 65 = .ok (.iload_n 3, 1) := by decide +kernel
theorem dX1_addCan_66 : decode cX1_addCan 66 = .ok (.ireturn, 1) := by decide +kernel
theorem dX1_addTake_0 : decode cX1_addTake 0 = .ok (.aload_n 0, 1) := by decide +kernel
theorem dX1_addTake_1 : decode cX1_addTake 1 = .ok (.getfield 53, 3) := by decide +kernel
theorem dX1_addTake_4 : decode cX1_addTake 4 = .ok (.bipush 8, 2) := by decide +kernel
theorem dX1_addTake_6 : decode cX1_addTake 6 = .ok (.if_icmp .lt 6, 3) := by decide +kernel
theorem dX1_addTake_9 : decode cX1_addTake 9 = .ok (.ldc 9, 2) := by decide +kernel
theorem dX1_addTake_11 : decode cX1_addTake 11 = .ok (.ireturn, 1) := by decide +kernel
theorem dX1_addTake_12 : decode cX1_addTake 12 = .ok (.aload_n 0, 1) := by decide +kernel
theorem dX1_addTake_13 : decode cX1_addTake 13 = .ok (.getfield 53, 3) := by decide +kernel
theorem dX1_addTake_16 : decode cX1_addTake 16 = .ok (.istore_n 3, 1) := by decide +kernel
theorem dX1_addTake_17 : decode cX1_addTake 17 = .ok (.aload_n 0, 1) := by decide +kernel
theorem dX1_addTake_18 : decode cX1_addTake 18 = .ok (.getfield 32, 3) := by decide +kernel
theorem dX1_addTake_21 : decode cX1_addTake 21 = .ok (.iload_n 3, 1) := by decide +kernel
theorem dX1_addTake_22 : decode cX1_addTake 22 = .ok (.iload_n 1, 1) := by decide +kernel
theorem dX1_addTake_23 : decode cX1_addTake 23 = .ok (.iastore, 1) := by decide +kernel
theorem dX1_addTake_24 : decode cX1_addTake 24 = .ok (.aload_n 0, 1) := by decide +kernel
theorem dX1_addTake_25 : decode cX1_addTake 25 = .ok (.getfield 35, 3) := by decide +kernel
theorem dX1_addTake_28 : decode cX1_addTake 28 = .ok (.iload_n 3, 1) := by decide +kernel
theorem dX1_addTake_29 : decode cX1_addTake 29 = .ok (.iload_n 2, 1) := by decide +kernel
theorem dX1_addTake_30 : decode cX1_addTake 30 = .ok (.iastore, 1) := by decide +kernel
theorem dX1_addTake_31 : decode cX1_addTake 31 = .ok (.aload_n 0, 1) := by decide +kernel
theorem dX1_addTake_32 : decode cX1_addTake 32 = .ok (.getfield 38, 3) := by decide +kernel
theorem dX1_addTake_35 : decode cX1_addTake 35 = .ok (.iload_n 3, 1) := by decide +kernel
theorem dX1_addTake_36 : decode cX1_addTake 36 = .ok (.ldc 9, 2) := by decide +kernel
theorem dX1_addTake_38 : decode cX1_addTake 38 = .ok (.iastore, 1) := by decide +kernel
theorem dX1_addTake_39 : decode cX1_addTake 39 = .ok (.aload_n 0, 1) := by decide +kernel
theorem dX1_addTake_40 : decode cX1_addTake 40 = .ok (.dup, 1) := by decide +kernel
theorem dX1_addTake_41 : decode cX1_addTake 41 = .ok (.getfield 53, 3) := by decide +kernel
theorem dX1_addTake_44 : decode cX1_addTake 44 = .ok (.iconst 1, 1) := by decide +kernel
theorem dX1_addTake_45 : decode cX1_addTake 45 = .ok (.iadd, 1) := by decide +kernel
theorem dX1_addTake_46 : decode cX1_addTake 46 = .ok (.putfield 53, 3) := by decide +kernel
theorem dX1_addTake_49 : decode cX1_addTake 49 = .ok (.iload_n 3, 1) := by decide +kernel
theorem dX1_addTake_50 : decode cX1_addTake 50 = .ok (.ireturn, 1) := by decide +kernel
theorem dX1_thread_0 : decode cX1_thread 0 = .ok (.aload_n 0, 1) := by decide +kernel
theorem dX1_thread_1 : decode cX1_thread 1 = .ok (.iload_n 1, 1) := by decide +kernel
theorem dX1_thread_2 : decode cX1_thread 2 = .ok (.invokevirtual 104, 3) := by decide +kernel
theorem dX1_thread_5 : decode cX1_thread 5 = .ok (.istore_n 2, 1) := by decide +kernel
theorem dX1_thread_6 : decode cX1_thread 6 = .ok (.aload_n 0, 1) := by decide +kernel
theorem dX1_thread_7 : decode cX1_thread 7 = .ok (.getfield 26, 3) := by decide +kernel
theorem dX1_thread_10 : decode cX1_thread 10 = .ok (.iload_n 1, 1) := by decide +kernel
theorem dX1_thread_11 : decode cX1_thread 11 = .ok (.iconst 1, 1) := by decide +kernel
theorem dX1_thread_12 : decode cX1_thread 12 = .ok (.iastore, 1) := by decide +kernel
theorem dX1_thread_13 : decode cX1_thread 13 = .ok (.aload_n 0, 1) := by decide +kernel
theorem dX1_thread_14 : decode cX1_thread 14 = .ok (.getfield 23, 3) := by decide +kernel
theorem dX1_thread_17 : decode cX1_thread 17 = .ok (.iload_n 1, 1) := by decide +kernel
theorem dX1_thread_18 : decode cX1_thread 18 = .ok (.dup2, 1) := by decide +kernel
theorem dX1_thread_19 : decode cX1_thread 19 = .ok (.iaload, 1) := by decide +kernel
theorem dX1_thread_20 : decode cX1_thread 20 = .ok (.iload_n 2, 1) := by decide +kernel
theorem dX1_thread_21 : decode cX1_thread 21 = .ok (.isub, 1) := by decide +kernel
theorem dX1_thread_22 : decode cX1_thread 22 = .ok (.iastore, 1) := by decide +kernel
theorem dX1_thread_23 : decode cX1_thread 23 = .ok (.aload_n 0, 1) := by decide +kernel
theorem dX1_thread_24 : decode cX1_thread 24 = .ok (.dup, 1) := by decide +kernel
theorem dX1_thread_25 : decode cX1_thread 25 = .ok (.getfield 68, 3) := by decide +kernel
theorem dX1_thread_28 : decode cX1_thread 28 = .ok (.iload_n 2, 1) := by decide +kernel
theorem dX1_thread_29 : decode cX1_thread 29 = .ok (.iadd, 1) := by decide +kernel
theorem dX1_thread_30 : decode cX1_thread 30 = .ok (.putfield 68, 3) := by decide +kernel
theorem dX1_thread_33 : decode cX1_thread 33 = .ok (.aload_n 0, 1) := by decide +kernel
theorem dX1_thread_34 : decode cX1_thread 34 = .ok (.iload_n 1, 1) := by decide +kernel
theorem dX1_thread_35 : decode cX1_thread 35 = .ok (.putfield 10, 3) := by decide +kernel
theorem dX1_thread_38 : decode cX1_thread 38 = .ok (.aload_n 0, 1) := by decide +kernel
theorem dX1_thread_39 : decode cX1_thread 39 = .ok (.iconst 0, 1) := by decide +kernel
theorem dX1_thread_40 : decode cX1_thread 40 = .ok (.putfield 59, 3) := by decide +kernel
theorem dX1_thread_43 : decode cX1_thread 43 = .ok (.return_, 1) := by decide +kernel
theorem dX1_expose_0 : decode cX1_expose 0 = .ok (.aload_n 0, 1) := by decide +kernel
theorem dX1_expose_1 : decode cX1_expose 1 = .ok (.getfield 35, 3) := by decide +kernel
theorem dX1_expose_4 : decode cX1_expose 4 = .ok (.iload_n 2, 1) := by decide +kernel
theorem dX1_expose_5 : decode cX1_expose 5 = .ok (.iaload, 1) := by decide +kernel
theorem dX1_expose_6 : decode cX1_expose 6 = .ok (.istore_n 3, 1) := by decide +kernel
theorem dX1_expose_7 : decode cX1_expose 7 = .ok (.aload_n 0, 1) := by decide +kernel
theorem dX1_expose_8 : decode cX1_expose 8 = .ok (.getfield 20, 3) := by decide +kernel
theorem dX1_expose_11 : decode cX1_expose 11 = .ok (.iload_n 1, 1) := by decide +kernel
theorem dX1_expose_12 : decode cX1_expose 12 = .ok (.iaload, 1) := by decide +kernel
theorem dX1_expose_13 : decode cX1_expose 13 = .ok (.invokestatic 106, 3) := by decide +kernel
theorem dX1_expose_16 : decode cX1_expose 16 = .ok (.istore 4, 2) := by decide +kernel
theorem dX1_expose_18 : decode cX1_expose 18 = .ok (.aload_n 0, 1) := by decide +kernel
theorem dX1_expose_19 : decode cX1_expose 19 = .ok (.getfield 23, 3) := by decide +kernel
theorem dX1_expose_22 : decode cX1_expose 22 = .ok (.iload_n 1, 1) := by decide +kernel
theorem dX1_expose_23 : decode cX1_expose 23 = .ok (.dup2, 1) := by decide +kernel
theorem dX1_expose_24 : decode cX1_expose 24 = .ok (.iaload, 1) := by decide +kernel
theorem dX1_expose_25 : decode cX1_expose 25 = .ok (.iload_n 3, 1) := by decide +kernel
theorem dX1_expose_26 : decode cX1_expose 26 = .ok (.iload 4, 2) := by decide +kernel
theorem dX1_expose_28 : decode cX1_expose 28 = .ok (.iadd, 1) := by decide +kernel
theorem dX1_expose_29 : decode cX1_expose 29 = .ok (.isub, 1) := by decide +kernel
theorem dX1_expose_30 : decode cX1_expose 30 = .ok (.iastore, 1) := by decide +kernel
theorem dX1_expose_31 : decode cX1_expose 31 = .ok (.aload_n 0, 1) := by decide +kernel
theorem dX1_expose_32 : decode cX1_expose 32 = .ok (.dup, 1) := by decide +kernel
theorem dX1_expose_33 : decode cX1_expose 33 = .ok (.getfield 65, 3) := by decide +kernel
theorem dX1_expose_36 : decode cX1_expose 36 = .ok (.iload_n 3, 1) := by decide +kernel
theorem dX1_expose_37 : decode cX1_expose 37 = .ok (.iadd, 1) := by decide +kernel
theorem dX1_expose_38 : decode cX1_expose 38 = .ok (.putfield 65, 3) := by decide +kernel
theorem dX1_expose_41 : decode cX1_expose 41 = .ok (.aload_n 0, 1) := by decide +kernel
theorem dX1_expose_42 : decode cX1_expose 42 = .ok (.dup, 1) := by decide +kernel
theorem dX1_expose_43 : decode cX1_expose 43 = .ok (.getfield 68, 3) := by decide +kernel
theorem dX1_expose_46 : decode cX1_expose 46 = .ok (.iload 4, 2) := by decide +kernel
theorem dX1_expose_48 : decode cX1_expose 48 = .ok (.iadd, 1) := by decide +kernel
theorem dX1_expose_49 : decode cX1_expose 49 = .ok (.putfield 68, 3) := by decide +kernel
theorem dX1_expose_52 : decode cX1_expose 52 = .ok (.aload_n 0, 1) := by decide +kernel
theorem dX1_expose_53 : decode cX1_expose 53 = .ok (.dup, 1) := by decide +kernel
theorem dX1_expose_54 : decode cX1_expose 54 = .ok (.getfield 59, 3) := by decide +kernel
theorem dX1_expose_57 : decode cX1_expose 57 = .ok (.iload_n 3, 1) := by decide +kernel
theorem dX1_expose_58 : decode cX1_expose 58 = .ok (.iadd, 1) := by decide +kernel
theorem dX1_expose_59 : decode cX1_expose 59 = .ok (.putfield 59, 3) := by decide +kernel
theorem dX1_expose_62 : decode cX1_expose 62 = .ok (.aload_n 0, 1) := by decide +kernel
theorem dX1_expose_63 : decode cX1_expose 63 = .ok (.getfield 38, 3) := by decide +kernel
theorem dX1_expose_66 : decode cX1_expose 66 = .ok (.iload_n 2, 1) := by decide +kernel
theorem dX1_expose_67 : decode cX1_expose 67 = .ok (.iload_n 1, 1) := by decide +kernel
theorem dX1_expose_68 : decode cX1_expose 68 = .ok (.iastore, 1) := by decide +kernel
theorem dX1_expose_69 : decode cX1_expose 69 = .ok (.return_, 1) := by decide +kernel
theorem dX1_takeOut_0 : decode cX1_takeOut 0 = .ok (.aload_n 0, 1) := by decide +kernel
theorem dX1_takeOut_1 : decode cX1_takeOut 1 = .ok (.getfield 59, 3) := by decide +kernel
theorem dX1_takeOut_4 : decode cX1_takeOut 4 = .ok (.ifCond .le 63, 3) := by decide +kernel
theorem dX1_takeOut_7 : decode cX1_takeOut 7 = .ok (.aload_n 0, 1) := by decide +kernel
theorem dX1_takeOut_8 : decode cX1_takeOut 8 = .ok (.getfield 56, 3) := by decide +kernel
theorem dX1_takeOut_11 : decode cX1_takeOut 11 = .ok (.bipush 8, 2) := by decide +kernel
theorem dX1_takeOut_13 : decode cX1_takeOut 13 = .ok (.if_icmp .ge 54, 3) := by decide +kernel
theorem dX1_takeOut_16 : decode cX1_takeOut 16 = .ok (.aload_n 0, 1) := by decide +kernel
theorem dX1_takeOut_17 : decode cX1_takeOut 17 = .ok (.getfield 41, 3) := by decide +kernel
theorem dX1_takeOut_20 : decode cX1_takeOut 20 = .ok (.aload_n 0, 1) := by decide +kernel
theorem dX1_takeOut_21 : decode cX1_takeOut 21 = .ok (.getfield 56, 3) := by decide +kernel
theorem dX1_takeOut_24 : decode cX1_takeOut 24 = .ok (.iload_n 1, 1) := by decide +kernel
theorem dX1_takeOut_25 : decode cX1_takeOut 25 = .ok (.iastore, 1) := by decide +kernel
theorem dX1_takeOut_26 : decode cX1_takeOut 26 = .ok (.aload_n 0, 1) := by decide +kernel
theorem dX1_takeOut_27 : decode cX1_takeOut 27 = .ok (.getfield 44, 3) := by decide +kernel
theorem dX1_takeOut_30 : decode cX1_takeOut 30 = .ok (.aload_n 0, 1) := by decide +kernel
theorem dX1_takeOut_31 : decode cX1_takeOut 31 = .ok (.getfield 56, 3) := by decide +kernel
theorem dX1_takeOut_34 : decode cX1_takeOut 34 = .ok (.aload_n 0, 1) := by decide +kernel
theorem dX1_takeOut_35 : decode cX1_takeOut 35 = .ok (.getfield 59, 3) := by decide +kernel
theorem dX1_takeOut_38 : decode cX1_takeOut 38 = .ok (.iastore, 1) := by decide +kernel
theorem dX1_takeOut_39 : decode cX1_takeOut 39 = .ok (.aload_n 0, 1) := by decide +kernel
theorem dX1_takeOut_40 : decode cX1_takeOut 40 = .ok (.getfield 47, 3) := by decide +kernel
theorem dX1_takeOut_43 : decode cX1_takeOut 43 = .ok (.aload_n 0, 1) := by decide +kernel
theorem dX1_takeOut_44 : decode cX1_takeOut 44 = .ok (.getfield 56, 3) := by decide +kernel
theorem dX1_takeOut_47 : decode cX1_takeOut 47 = .ok (.aload_n 0, 1) := by decide +kernel
theorem dX1_takeOut_48 : decode cX1_takeOut 48 = .ok (.getfield 20, 3) := by decide +kernel
theorem dX1_takeOut_51 : decode cX1_takeOut 51 = .ok (.iload_n 1, 1) := by decide +kernel
theorem dX1_takeOut_52 : decode cX1_takeOut 52 = .ok (.iaload, 1) := by decide +kernel
theorem dX1_takeOut_53 : decode cX1_takeOut 53 = .ok (.invokestatic 109, 3) := by decide +kernel
theorem dX1_takeOut_56 : decode cX1_takeOut 56 = .ok (.iastore, 1) := by decide +kernel
theorem dX1_takeOut_57 : decode cX1_takeOut 57 = .ok (.aload_n 0, 1) := by decide +kernel
theorem dX1_takeOut_58 : decode cX1_takeOut 58 = .ok (.dup, 1) := by decide +kernel
theorem dX1_takeOut_59 : decode cX1_takeOut 59 = .ok (.getfield 56, 3) := by decide +kernel
theorem dX1_takeOut_62 : decode cX1_takeOut 62 = .ok (.iconst 1, 1) := by decide +kernel
theorem dX1_takeOut_63 : decode cX1_takeOut 63 = .ok (.iadd, 1) := by decide +kernel
theorem dX1_takeOut_64 : decode cX1_takeOut 64 = .ok (.putfield 56, 3) := by decide +kernel
theorem dX1_takeOut_67 : decode cX1_takeOut 67 = .ok (.aload_n 0, 1) := by decide +kernel
theorem dX1_takeOut_68 : decode cX1_takeOut 68 = .ok (.iconst 0, 1) := by decide +kernel
theorem dX1_takeOut_69 : decode cX1_takeOut 69 = .ok (.putfield 59, 3) := by decide +kernel
theorem dX1_takeOut_72 : decode cX1_takeOut 72 = .ok (.aload_n 0, 1) := by decide +kernel
theorem dX1_takeOut_73 : decode cX1_takeOut 73 = .ok (.ldc 9, 2) := by decide +kernel
theorem dX1_takeOut_75 : decode cX1_takeOut 75 = .ok (.putfield 10, 3) := by decide +kernel
theorem dX1_takeOut_78 : decode cX1_takeOut 78 = .ok (.aload_n 0, 1) := by decide +kernel
theorem dX1_takeOut_79 : decode cX1_takeOut 79 = .ok (.getfield 23, 3) := by decide +kernel
theorem dX1_takeOut_82 : decode cX1_takeOut 82 = .ok (.iload_n 1, 1) := by decide +kernel
theorem dX1_takeOut_83 : decode cX1_takeOut 83 = .ok (.iaload, 1) := by decide +kernel
theorem dX1_takeOut_84 : decode cX1_takeOut 84 = .ok (.aload_n 0, 1) := by decide +kernel
theorem dX1_takeOut_85 : decode cX1_takeOut 85 = .ok (.iload_n 1, 1) := by decide +kernel
theorem dX1_takeOut_86 : decode cX1_takeOut 86 = .ok (.invokevirtual 112, 3) := by decide +kernel
theorem dX1_takeOut_89 : decode cX1_takeOut 89 = .ok (.invokestatic 115, 3) := by decide +kernel
theorem dX1_takeOut_92 : decode cX1_takeOut 92 = .ok (.ifCond .eq 20, 3) := by decide +kernel
theorem dX1_takeOut_95 : decode cX1_takeOut 95 = .ok (.aload_n 0, 1) := by decide +kernel
theorem dX1_takeOut_96 : decode cX1_takeOut 96 = .ok (.getfield 26, 3) := by decide +kernel
theorem dX1_takeOut_99 : decode cX1_takeOut 99 = .ok (.iload_n 1, 1) := by decide +kernel
theorem dX1_takeOut_100 : decode cX1_takeOut 100 = .ok (.iconst 0, 1) := by decide +kernel
theorem dX1_takeOut_101 : decode cX1_takeOut 101 = .ok (.iastore, 1) := by decide +kernel
theorem dX1_takeOut_102 : decode cX1_takeOut 102 = .ok (.aload_n 0, 1) := by decide +kernel
theorem dX1_takeOut_103 : decode cX1_takeOut 103 = .ok (.getfield 29, 3) := by decide +kernel
theorem dX1_takeOut_106 : decode cX1_takeOut 106 = .ok (.iload_n 1, 1) := by decide +kernel
theorem dX1_takeOut_107 : decode cX1_takeOut 107 = .ok (.iconst 1, 1) := by decide +kernel
theorem dX1_takeOut_108 : decode cX1_takeOut 108 = .ok (.iastore, 1) := by decide +kernel
theorem dX1_takeOut_109 : decode cX1_takeOut 109 = .ok (.goto 32, 3) := by decide +kernel
theorem dX1_takeOut_112 : decode cX1_takeOut 112 = .ok (.aload_n 0, 1) := by decide +kernel
theorem dX1_takeOut_113 : decode cX1_takeOut 113 = .ok (.dup, 1) := by decide +kernel
theorem dX1_takeOut_114 : decode cX1_takeOut 114 = .ok (.getfield 68, 3) := by decide +kernel
theorem dX1_takeOut_117 : decode cX1_takeOut 117 = .ok (.aload_n 0, 1) := by decide +kernel
theorem dX1_takeOut_118 : decode cX1_takeOut 118 = .ok (.getfield 23, 3) := by decide +kernel
theorem dX1_takeOut_121 : decode cX1_takeOut 121 = .ok (.iload_n 1, 1) := by decide +kernel
theorem dX1_takeOut_122 : decode cX1_takeOut 122 = .ok (.iaload, 1) := by decide +kernel
theorem dX1_takeOut_123 : decode cX1_takeOut 123 = .ok (.iadd, 1) := by decide +kernel
theorem dX1_takeOut_124 : decode cX1_takeOut 124 = .ok (.putfield 68, 3) := by decide +kernel
theorem dX1_takeOut_127 : decode cX1_takeOut 127 = .ok (.aload_n 0, 1) := by decide +kernel
theorem dX1_takeOut_128 : decode cX1_takeOut 128 = .ok (.getfield 23, 3) := by decide +kernel
theorem dX1_takeOut_131 : decode cX1_takeOut 131 = .ok (.iload_n 1, 1) := by decide +kernel
theorem dX1_takeOut_132 : decode cX1_takeOut 132 = .ok (.iconst 0, 1) := by decide +kernel
theorem dX1_takeOut_133 : decode cX1_takeOut 133 = .ok (.iastore, 1) := by decide +kernel
theorem dX1_takeOut_134 : decode cX1_takeOut 134 = .ok (.aload_n 0, 1) := by decide +kernel
theorem dX1_takeOut_135 : decode cX1_takeOut 135 = .ok (.getfield 26, 3) := by decide +kernel
theorem dX1_takeOut_138 : decode cX1_takeOut 138 = .ok (.iload_n 1, 1) := by decide +kernel
theorem dX1_takeOut_139 : decode cX1_takeOut 139 = .ok (.iconst 2, 1) := by decide +kernel
theorem dX1_takeOut_140 : decode cX1_takeOut 140 = .ok (.iastore, 1) := by decide +kernel
theorem dX1_takeOut_141 : decode cX1_takeOut 141 = .ok (.return_, 1) := by decide +kernel
theorem dX1_develop_0 : decode cX1_develop 0 = .ok (.aload_n 0, 1) := by decide +kernel
theorem dX1_develop_1 : decode cX1_develop 1 = .ok (.dup, 1) := by decide +kernel
theorem dX1_develop_2 : decode cX1_develop 2 = .ok (.getfield 71, 3) := by decide +kernel
theorem dX1_develop_5 : decode cX1_develop 5 = .ok (.aload_n 0, 1) := by decide +kernel
theorem dX1_develop_6 : decode cX1_develop 6 = .ok (.getfield 16, 3) := by decide +kernel
theorem dX1_develop_9 : decode cX1_develop 9 = .ok (.iconst 3, 1) := by decide +kernel
theorem dX1_develop_10 : decode cX1_develop 10 = .ok (.iaload, 1) := by decide +kernel
theorem dX1_develop_11 : decode cX1_develop 11 = .ok (.iload_n 1, 1) := by decide +kernel
theorem dX1_develop_12 : decode cX1_develop 12 = .ok (.imul, 1) := by decide +kernel
theorem dX1_develop_13 : decode cX1_develop 13 = .ok (.aload_n 0, 1) := by decide +kernel
theorem dX1_develop_14 : decode cX1_develop 14 = .ok (.invokevirtual 118, 3) := by decide +kernel
theorem dX1_develop_17 : decode cX1_develop 17 = .ok (.iadd, 1) := by decide +kernel
theorem dX1_develop_18 : decode cX1_develop 18 = .ok (.iadd, 1) := by decide +kernel
theorem dX1_develop_19 : decode cX1_develop 19 = .ok (.putfield 71, 3) := by decide +kernel
theorem dX1_develop_22 : decode cX1_develop 22 = .ok (.aload_n 0, 1) := by decide +kernel
theorem dX1_develop_23 : decode cX1_develop 23 = .ok (.iconst 0, 1) := by decide +kernel
theorem dX1_develop_24 : decode cX1_develop 24 = .ok (.putfield 56, 3) := by decide +kernel
theorem dX1_develop_27 : decode cX1_develop 27 = .ok (.return_, 1) := by decide +kernel
theorem dX1_reopen_0 : decode cX1_reopen 0 = .ok (.aload_n 0, 1) := by decide +kernel
theorem dX1_reopen_1 : decode cX1_reopen 1 = .ok (.dup, 1) := by decide +kernel
theorem dX1_reopen_2 : decode cX1_reopen 2 = .ok (.getfield 65, 3) := by decide +kernel
theorem dX1_reopen_5 : decode cX1_reopen 5 = .ok (.aload_n 0, 1) := by decide +kernel
theorem dX1_reopen_6 : decode cX1_reopen 6 = .ok (.getfield 35, 3) := by decide +kernel
theorem dX1_reopen_9 : decode cX1_reopen 9 = .ok (.iload_n 1, 1) := by decide +kernel
theorem dX1_reopen_10 : decode cX1_reopen 10 = .ok (.iaload, 1) := by decide +kernel
theorem dX1_reopen_11 : decode cX1_reopen 11 = .ok (.isub, 1) := by decide +kernel
theorem dX1_reopen_12 : decode cX1_reopen 12 = .ok (.putfield 65, 3) := by decide +kernel
theorem dX1_reopen_15 : decode cX1_reopen 15 = .ok (.aload_n 0, 1) := by decide +kernel
theorem dX1_reopen_16 : decode cX1_reopen 16 = .ok (.dup, 1) := by decide +kernel
theorem dX1_reopen_17 : decode cX1_reopen 17 = .ok (.getfield 68, 3) := by decide +kernel
theorem dX1_reopen_20 : decode cX1_reopen 20 = .ok (.aload_n 0, 1) := by decide +kernel
theorem dX1_reopen_21 : decode cX1_reopen 21 = .ok (.getfield 35, 3) := by decide +kernel
theorem dX1_reopen_24 : decode cX1_reopen 24 = .ok (.iload_n 1, 1) := by decide +kernel
theorem dX1_reopen_25 : decode cX1_reopen 25 = .ok (.iaload, 1) := by decide +kernel
theorem dX1_reopen_26 : decode cX1_reopen 26 = .ok (.iadd, 1) := by decide +kernel
theorem dX1_reopen_27 : decode cX1_reopen 27 = .ok (.putfield 68, 3) := by decide +kernel
theorem dX1_reopen_30 : decode cX1_reopen 30 = .ok (.aload_n 0, 1) := by decide +kernel
theorem dX1_reopen_31 : decode cX1_reopen 31 = .ok (.getfield 38, 3) := by decide +kernel
theorem dX1_reopen_34 : decode cX1_reopen 34 = .ok (.iload_n 1, 1) := by decide +kernel
theorem dX1_reopen_35 : decode cX1_reopen 35 = .ok (.ldc 9, 2) := by decide +kernel
theorem dX1_reopen_37 : decode cX1_reopen 37 = .ok (.iastore, 1) := by decide +kernel
theorem dX1_reopen_38 : decode cX1_reopen 38 = .ok (.return_, 1) := by decide +kernel
theorem dX2_init_0 : decode cX2_init 0 = .ok (.aload_n 0, 1) := by decide +kernel
theorem dX2_init_1 : decode cX2_init 1 = .ok (.invokespecial 3, 3) := by decide +kernel
theorem dX2_init_4 : decode cX2_init 4 = .ok (.aload_n 0, 1) := by decide +kernel
theorem dX2_init_5 : decode cX2_init 5 = .ok (.bipush 20, 2) := by decide +kernel
theorem dX2_init_7 : decode cX2_init 7 = .ok (.anewarray 9, 3) := by decide +kernel
theorem dX2_init_10 : decode cX2_init 10 = .ok (.putfield 11, 3) := by decide +kernel
theorem dX2_init_13 : decode cX2_init 13 = .ok (.iconst 0, 1) := by decide +kernel
theorem dX2_init_14 : decode cX2_init 14 = .ok (.istore_n 1, 1) := by decide +kernel
theorem dX2_init_15 : decode cX2_init 15 = .ok (.iload_n 1, 1) := by decide +kernel
theorem dX2_init_16 : decode cX2_init 16 = .ok (.bipush 20, 2) := by decide +kernel
theorem dX2_init_18 : decode cX2_init 18 = .ok (.if_icmp .ge 22, 3) := by decide +kernel
theorem dX2_init_21 : decode cX2_init 21 = .ok (.aload_n 0, 1) := by decide +kernel
theorem dX2_init_22 : decode cX2_init 22 = .ok (.getfield 11, 3) := by decide +kernel
theorem dX2_init_25 : decode cX2_init 25 = .ok (.iload_n 1, 1) := by decide +kernel
theorem dX2_init_26 : decode cX2_init 26 = .ok (.new 9, 3) := by decide +kernel
theorem dX2_init_29 : decode cX2_init 29 = .ok (.dup, 1) := by decide +kernel
theorem dX2_init_30 : decode cX2_init 30 = .ok (.invokespecial 17, 3) := by decide +kernel
theorem dX2_init_33 : decode cX2_init 33 = .ok (.aastore, 1) := by decide +kernel
theorem dX2_init_34 : decode cX2_init 34 = .ok (.iinc 1 1, 3) := by decide +kernel
theorem dX2_init_37 : decode cX2_init 37 = .ok (.goto (-22), 3) := by decide +kernel
theorem dX2_init_40 : decode cX2_init 40 = .ok (.return_, 1) := by decide +kernel
theorem dX2_keep_0 : decode cX2_keep 0 = .ok (.aload_n 0, 1) := by decide +kernel
theorem dX2_keep_1 : decode cX2_keep 1 = .ok (.getfield 11, 3) := by decide +kernel
theorem dX2_keep_4 : decode cX2_keep 4 = .ok (.aload_n 0, 1) := by decide +kernel
theorem dX2_keep_5 : decode cX2_keep 5 = .ok (.getfield 18, 3) := by decide +kernel
theorem dX2_keep_8 : decode cX2_keep 8 = .ok (.aaload, 1) := by decide +kernel
theorem dX2_keep_9 : decode cX2_keep 9 = .ok (.aload_n 1, 1) := by decide +kernel
theorem dX2_keep_10 : decode cX2_keep 10 = .ok (.invokevirtual 22, 3) := by decide +kernel
theorem dX2_keep_13 : decode cX2_keep 13 = .ok (.aload_n 0, 1) := by decide +kernel
theorem dX2_keep_14 : decode cX2_keep 14 = .ok (.aload_n 0, 1) := by decide +kernel
theorem dX2_keep_15 : decode cX2_keep 15 = .ok (.getfield 18, 3) := by decide +kernel
theorem dX2_keep_18 : decode cX2_keep 18 = .ok (.iconst 1, 1) := by decide +kernel
theorem dX2_keep_19 : decode cX2_keep 19 = .ok (.iadd, 1) := by decide +kernel
theorem dX2_keep_20 : decode cX2_keep 20 = .ok (.bipush 20, 2) := by decide +kernel
theorem dX2_keep_22 : decode cX2_keep 22 = .ok (.if_icmp .ge 12, 3) := by decide +kernel
theorem dX2_keep_25 : decode cX2_keep 25 = .ok (.aload_n 0, 1) := by decide +kernel
theorem dX2_keep_26 : decode cX2_keep 26 = .ok (.getfield 18, 3) := by decide +kernel
theorem dX2_keep_29 : decode cX2_keep 29 = .ok (.iconst 1, 1) := by decide +kernel
theorem dX2_keep_30 : decode cX2_keep 30 = .ok (.iadd, 1) := by decide +kernel
theorem dX2_keep_31 : decode cX2_keep 31 = .ok (.goto 4, 3) := by decide +kernel
theorem dX2_keep_34 : decode cX2_keep 34 = .ok (.iconst 0, 1) := by decide +kernel
theorem dX2_keep_35 : decode cX2_keep 35 = .ok (.putfield 18, 3) := by decide +kernel
theorem dX2_keep_38 : decode cX2_keep 38 = .ok (.aload_n 0, 1) := by decide +kernel
theorem dX2_keep_39 : decode cX2_keep 39 = .ok (.aload_n 0, 1) := by decide +kernel
theorem dX2_keep_40 : decode cX2_keep 40 = .ok (.getfield 26, 3) := by decide +kernel
theorem dX2_keep_43 : decode cX2_keep 43 = .ok (.iconst 1, 1) := by decide +kernel
theorem dX2_keep_44 : decode cX2_keep 44 = .ok (.iadd, 1) := by decide +kernel
theorem dX2_keep_45 : decode cX2_keep 45 = .ok (.bipush 20, 2) := by decide +kernel
theorem dX2_keep_47 : decode cX2_keep 47 = .ok (.invokestatic 29, 3) := by decide +kernel
theorem dX2_keep_50 : decode cX2_keep 50 = .ok (.putfield 26, 3) := by decide +kernel
theorem dX2_keep_53 : decode cX2_keep 53 = .ok (.return_, 1) := by decide +kernel
theorem dX2_stepBack_0 : decode cX2_stepBack 0 = .ok (.aload_n 0, 1) := by decide +kernel
theorem dX2_stepBack_1 : decode cX2_stepBack 1 = .ok (.getfield 26, 3) := by decide +kernel
theorem dX2_stepBack_4 : decode cX2_stepBack 4 = .ok (.ifCond .ne 5, 3) := by decide +kernel
theorem dX2_stepBack_7 : decode cX2_stepBack 7 = .ok (.iconst 0, 1) := by decide +kernel
theorem dX2_stepBack_8 : decode cX2_stepBack 8 = .ok (.ireturn, 1) := by decide +kernel
theorem dX2_stepBack_9 : decode cX2_stepBack 9 = .ok (.aload_n 0, 1) := by decide +kernel
theorem dX2_stepBack_10 : decode cX2_stepBack 10 = .ok (.aload_n 0, 1) := by decide +kernel
theorem dX2_stepBack_11 : decode cX2_stepBack 11 = .ok (.getfield 18, 3) := by decide +kernel
theorem dX2_stepBack_14 : decode cX2_stepBack 14 = .ok (.ifCond .le 12, 3) := by decide +kernel
theorem dX2_stepBack_17 : decode cX2_stepBack 17 = .ok (.aload_n 0, 1) := by decide +kernel
theorem dX2_stepBack_18 : decode cX2_stepBack 18 = .ok (.getfield 18, 3) := by decide +kernel
theorem dX2_stepBack_21 : decode cX2_stepBack 21 = .ok (.iconst 1, 1) := by decide +kernel
theorem dX2_stepBack_22 : decode cX2_stepBack 22 = .ok (.isub, 1) := by decide +kernel
theorem dX2_stepBack_23 : decode cX2_stepBack 23 = .ok (.goto 5, 3) := by decide +kernel
theorem dX2_stepBack_26 : decode cX2_stepBack 26 = .ok (.bipush 19, 2) := by decide +kernel
theorem dX2_stepBack_28 : decode cX2_stepBack 28 = .ok (.putfield 18, 3) := by decide +kernel
theorem dX2_stepBack_31 : decode cX2_stepBack 31 = .ok (.aload_n 0, 1) := by decide +kernel
theorem dX2_stepBack_32 : decode cX2_stepBack 32 = .ok (.dup, 1) := by decide +kernel
theorem dX2_stepBack_33 : decode cX2_stepBack 33 = .ok (.getfield 26, 3) := by decide +kernel
theorem dX2_stepBack_36 : decode cX2_stepBack 36 = .ok (.iconst 1, 1) := by decide +kernel
theorem dX2_stepBack_37 : decode cX2_stepBack 37 = .ok (.isub, 1) := by decide +kernel
theorem dX2_stepBack_38 : decode cX2_stepBack 38 = .ok (.putfield 26, 3) := by decide +kernel
theorem dX2_stepBack_41 : decode cX2_stepBack 41 = .ok (.aload_n 1, 1) := by decide +kernel
theorem dX2_stepBack_42 : decode cX2_stepBack 42 = .ok (.aload_n 0, 1) := by decide +kernel
theorem dX2_stepBack_43 : decode cX2_stepBack 43 = .ok (.getfield 11, 3) := by decide +kernel
theorem dX2_stepBack_46 : decode cX2_stepBack 46 = .ok (.aload_n 0, 1) := by decide +kernel
theorem dX2_stepBack_47 : decode cX2_stepBack 47 = .ok (.getfield 18, 3) := by decide +kernel
theorem dX2_stepBack_50 : decode cX2_stepBack 50 = .ok (.aaload, 1) := by decide +kernel
theorem dX2_stepBack_51 : decode cX2_stepBack 51 = .ok (.invokevirtual 22, 3) := by decide +kernel
theorem dX2_stepBack_54 : decode cX2_stepBack 54 = .ok (.iconst 1, 1) := by decide +kernel
theorem dX2_stepBack_55 : decode cX2_stepBack 55 = .ok (.ireturn, 1) := by decide +kernel
theorem dX2_forget_0 : decode cX2_forget 0 = .ok (.aload_n 0, 1) := by decide +kernel
theorem dX2_forget_1 : decode cX2_forget 1 = .ok (.iconst 0, 1) := by decide +kernel
theorem dX2_forget_2 : decode cX2_forget 2 = .ok (.putfield 26, 3) := by decide +kernel
theorem dX2_forget_5 : decode cX2_forget 5 = .ok (.return_, 1) := by decide +kernel
theorem dX3_isKind_0 : decode cX3_isKind 0 = .ok (.iload_n 0, 1) := by decide +kernel
theorem dX3_isKind_1 : decode cX3_isKind 1 = .ok (.ifCond .lt 15, 3) := by decide +kernel
theorem dX3_isKind_4 : decode cX3_isKind 4 = .ok (.iload_n 0, 1) := by decide +kernel
theorem dX3_isKind_5 : decode cX3_isKind 5 = .ok (.getstatic 9, 3) := by decide +kernel
theorem dX3_isKind_8 : decode cX3_isKind 8 = .ok (.arraylength, 1) := by decide +kernel
theorem dX3_isKind_9 : decode cX3_isKind 9 = .ok (.if_icmp .ge 7, 3) := by decide +kernel
theorem dX3_isKind_12 : decode cX3_isKind 12 = .ok (.iconst 1, 1) := by decide +kernel
theorem dX3_isKind_13 : decode cX3_isKind 13 = .ok (.goto 4, 3) := by decide +kernel
theorem dX3_isKind_16 : decode cX3_isKind 16 = .ok (.iconst 0, 1) := by decide +kernel
theorem dX3_isKind_17 : decode cX3_isKind 17 = .ok (.ireturn, 1) := by decide +kernel
theorem dX3_isOf_0 : decode cX3_isOf 0 = .ok (.iload_n 0, 1) := by decide +kernel
theorem dX3_isOf_1 : decode cX3_isOf 1 = .ok (.invokestatic 15, 3) := by decide +kernel
theorem dX3_isOf_4 : decode cX3_isOf 4 = .ok (.ifCond .eq 27, 3) := by decide +kernel
theorem dX3_isOf_7 : decode cX3_isOf 7 = .ok (.iload_n 1, 1) := by decide +kernel
theorem dX3_isOf_8 : decode cX3_isOf 8 = .ok (.invokestatic 15, 3) := by decide +kernel
theorem dX3_isOf_11 : decode cX3_isOf 11 = .ok (.ifCond .eq 20, 3) := by decide +kernel
theorem dX3_isOf_14 : decode cX3_isOf 14 = .ok (.getstatic 9, 3) := by decide +kernel
theorem dX3_isOf_17 : decode cX3_isOf 17 = .ok (.iload_n 0, 1) := by decide +kernel
theorem dX3_isOf_18 : decode cX3_isOf 18 = .ok (.iaload, 1) := by decide +kernel
theorem dX3_isOf_19 : decode cX3_isOf 19 = .ok (.iload_n 1, 1) := by decide +kernel
theorem dX3_isOf_20 : decode cX3_isOf 20 = .ok (.ishr, 1) := by decide +kernel
theorem dX3_isOf_21 : decode cX3_isOf 21 = .ok (.iconst 1, 1) := by decide +kernel
theorem dX3_isOf_22 : decode cX3_isOf 22 = .ok (.iand, 1) := by decide +kernel
theorem dX3_isOf_23 : decode cX3_isOf 23 = .ok (.iconst 1, 1) := by decide +kernel
theorem dX3_isOf_24 : decode cX3_isOf 24 = .ok (.if_icmp .ne 7, 3) := by decide +kernel
theorem dX3_isOf_27 : decode cX3_isOf 27 = .ok (.iconst 1, 1) := by decide +kernel
theorem dX3_isOf_28 : decode cX3_isOf 28 = .ok (.goto 4, 3) := by decide +kernel
theorem dX3_isOf_31 : decode cX3_isOf 31 = .ok (.iconst 0, 1) := by decide +kernel
theorem dX3_isOf_32 : decode cX3_isOf 32 = .ok (.ireturn, 1) := by decide +kernel
theorem dX3_familyOf_0 : decode cX3_familyOf 0 = .ok (.iload_n 0, 1) := by decide +kernel
theorem dX3_familyOf_1 : decode cX3_familyOf 1 = .ok (.iconst 4, 1) := by decide +kernel
theorem dX3_familyOf_2 : decode cX3_familyOf 2 = .ok (.invokestatic 19, 3) := by decide +kernel
theorem dX3_familyOf_5 : decode cX3_familyOf 5 = .ok (.ifCond .eq 7, 3) := by decide +kernel
theorem dX3_familyOf_8 : decode cX3_familyOf 8 = .ok (.iconst 1, 1) := by decide +kernel
theorem dX3_familyOf_9 : decode cX3_familyOf 9 = .ok (.goto 4, 3) := by decide +kernel
theorem dX3_familyOf_12 : decode cX3_familyOf 12 = .ok (.iconst 0, 1) := by decide +kernel
theorem dX3_familyOf_13 : decode cX3_familyOf 13 = .ok (.ireturn, 1) := by decide +kernel
theorem dX3_leadOf_0 : decode cX3_leadOf 0 = .ok (.iload_n 0, 1) := by decide +kernel
theorem dX3_leadOf_1 : decode cX3_leadOf 1 = .ok (.iconst 4, 1) := by decide +kernel
theorem dX3_leadOf_2 : decode cX3_leadOf 2 = .ok (.invokestatic 19, 3) := by decide +kernel
theorem dX3_leadOf_5 : decode cX3_leadOf 5 = .ok (.ifCond .eq 9, 3) := by decide +kernel
theorem dX3_leadOf_8 : decode cX3_leadOf 8 = .ok (.iconst 2, 1) := by decide +kernel
theorem dX3_leadOf_9 : decode cX3_leadOf 9 = .ok (.iload_n 1, 1) := by decide +kernel
theorem dX3_leadOf_10 : decode cX3_leadOf 10 = .ok (.imul, 1) := by decide +kernel
theorem dX3_leadOf_11 : decode cX3_leadOf 11 = .ok (.goto 4, 3) := by decide +kernel
theorem dX3_leadOf_14 : decode cX3_leadOf 14 = .ok (.iload_n 1, 1) := by decide +kernel
theorem dX3_leadOf_15 : decode cX3_leadOf 15 = .ok (.ireturn, 1) := by decide +kernel
theorem dX3_slateOf_0 : decode cX3_slateOf 0 = .ok (.iload_n 0, 1) := by decide +kernel
theorem dX3_slateOf_1 : decode cX3_slateOf 1 = .ok (.iconst 3, 1) := by decide +kernel
theorem dX3_slateOf_2 : decode cX3_slateOf 2 = .ok (.invokestatic 19, 3) := by decide +kernel
theorem dX3_slateOf_5 : decode cX3_slateOf 5 = .ok (.ifCond .eq 7, 3) := by decide +kernel
theorem dX3_slateOf_8 : decode cX3_slateOf 8 = .ok (.iconst 1, 1) := by decide +kernel
theorem dX3_slateOf_9 : decode cX3_slateOf 9 = .ok (.goto 4, 3) := by decide +kernel
theorem dX3_slateOf_12 : decode cX3_slateOf 12 = .ok (.iconst 0, 1) := by decide +kernel
theorem dX3_slateOf_13 : decode cX3_slateOf 13 = .ok (.ireturn, 1) := by decide +kernel
theorem dX3_leastKept_0 : decode cX3_leastKept 0 = .ok (.iload_n 0, 1) := by decide +kernel
theorem dX3_leastKept_1 : decode cX3_leastKept 1 = .ok (.iconst 5, 1) := by decide +kernel
theorem dX3_leastKept_2 : decode cX3_leastKept 2 = .ok (.invokestatic 19, 3) := by decide +kernel
theorem dX3_leastKept_5 : decode cX3_leastKept 5 = .ok (.ifCond .eq 6, 3) := by decide +kernel
theorem dX3_leastKept_8 : decode cX3_leastKept 8 = .ok (.ldc 23, 2) := by decide +kernel
theorem dX3_leastKept_10 : decode cX3_leastKept 10 = .ok (.ireturn, 1) := by decide +kernel
theorem dX3_leastKept_11 : decode cX3_leastKept 11 = .ok (.iconst 1, 1) := by decide +kernel
theorem dX3_leastKept_12 : decode cX3_leastKept 12 = .ok (.iload_n 0, 1) := by decide +kernel
theorem dX3_leastKept_13 : decode cX3_leastKept 13 = .ok (.iconst 2, 1) := by decide +kernel
theorem dX3_leastKept_14 : decode cX3_leastKept 14 = .ok (.invokestatic 19, 3) := by decide +kernel
theorem dX3_leastKept_17 : decode cX3_leastKept 17 = .ok (.ifCond .eq 9, 3) := by decide +kernel
theorem dX3_leastKept_20 : decode cX3_leastKept 20 = .ok (.iload_n 1, 1) := by decide +kernel
theorem dX3_leastKept_21 : decode cX3_leastKept 21 = .ok (.iconst 2, 1) := by decide +kernel
theorem dX3_leastKept_22 : decode cX3_leastKept 22 = .ok (.idiv, 1) := by decide +kernel
theorem dX3_leastKept_23 : decode cX3_leastKept 23 = .ok (.goto 4, 3) := by decide +kernel
theorem dX3_leastKept_26 : decode cX3_leastKept 26 = .ok (.iload_n 1, 1) := by decide +kernel
theorem dX3_leastKept_27 : decode cX3_leastKept 27 = .ok (.invokestatic 24, 3) := by decide +kernel
theorem dX3_leastKept_30 : decode cX3_leastKept 30 = .ok (.ireturn, 1) := by decide +kernel
theorem dX3_isKept_0 : decode cX3_isKept 0 = .ok (.iload_n 1, 1) := by decide +kernel
theorem dX3_isKept_1 : decode cX3_isKept 1 = .ok (.ldc 23, 2) := by decide +kernel
theorem dX3_isKept_3 : decode cX3_isKept 3 = .ok (.if_icmp .eq 12, 3) := by decide +kernel
theorem dX3_isKept_6 : decode cX3_isKept 6 = .ok (.iload_n 0, 1) := by decide +kernel
theorem dX3_isKept_7 : decode cX3_isKept 7 = .ok (.iload_n 1, 1) := by decide +kernel
theorem dX3_isKept_8 : decode cX3_isKept 8 = .ok (.if_icmp .lt 7, 3) := by decide +kernel
theorem dX3_isKept_11 : decode cX3_isKept 11 = .ok (.iconst 1, 1) := by decide +kernel
theorem dX3_isKept_12 : decode cX3_isKept 12 = .ok (.goto 4, 3) := by decide +kernel
theorem dX3_isKept_15 : decode cX3_isKept 15 = .ok (.iconst 0, 1) := by decide +kernel
theorem dX3_isKept_16 : decode cX3_isKept 16 = .ok (.ireturn, 1) := by decide +kernel
theorem dX3_ofLetter_0 : decode cX3_ofLetter 0 = .ok (.iload_n 0, 1) := by decide +kernel
theorem dX3_ofLetter_1 : decode cX3_ofLetter 1 = .ok (.tableswitch 81 102 115 #[73, 75, 81, 81, 81, 81, 81, 81, 71, 81, 81, 81, 77, 79], 71) := by decide +kernel
theorem dX3_ofLetter_72 : decode cX3_ofLetter 72 = .ok (.iconst 1, 1) := by decide +kernel
theorem dX3_ofLetter_73 : decode cX3_ofLetter 73 = .ok (.ireturn, 1) := by decide +kernel
theorem dX3_ofLetter_74 : decode cX3_ofLetter 74 = .ok (.iconst 2, 1) := by decide +kernel
theorem dX3_ofLetter_75 : decode cX3_ofLetter 75 = .ok (.ireturn, 1) := by decide +kernel
theorem dX3_ofLetter_76 : decode cX3_ofLetter 76 = .ok (.iconst 3, 1) := by decide +kernel
theorem dX3_ofLetter_77 : decode cX3_ofLetter 77 = .ok (.ireturn, 1) := by decide +kernel
theorem dX3_ofLetter_78 : decode cX3_ofLetter 78 = .ok (.iconst 4, 1) := by decide +kernel
theorem dX3_ofLetter_79 : decode cX3_ofLetter 79 = .ok (.ireturn, 1) := by decide +kernel
theorem dX3_ofLetter_80 : decode cX3_ofLetter 80 = .ok (.iconst 5, 1) := by decide +kernel
theorem dX3_ofLetter_81 : decode cX3_ofLetter 81 = .ok (.ireturn, 1) := by decide +kernel
theorem dX3_ofLetter_82 : decode cX3_ofLetter 82 = .ok (.ldc 23, 2) := by decide +kernel
theorem dX3_ofLetter_84 : decode cX3_ofLetter 84 = .ok (.ireturn, 1) := by decide +kernel
theorem dX4_init_0 : decode cX4_init 0 = .ok (.aload_n 0, 1) := by decide +kernel
theorem dX4_init_1 : decode cX4_init 1 = .ok (.invokespecial 3, 3) := by decide +kernel
theorem dX4_init_4 : decode cX4_init 4 = .ok (.aload_n 0, 1) := by decide +kernel
theorem dX4_init_5 : decode cX4_init 5 = .ok (.bipush 8, 2) := by decide +kernel
theorem dX4_init_7 : decode cX4_init 7 = .ok (.newarray .int, 2) := by decide +kernel
theorem dX4_init_9 : decode cX4_init 9 = .ok (.putfield 9, 3) := by decide +kernel
theorem dX4_init_12 : decode cX4_init 12 = .ok (.aload_n 0, 1) := by decide +kernel
theorem dX4_init_13 : decode cX4_init 13 = .ok (.bipush 8, 2) := by decide +kernel
theorem dX4_init_15 : decode cX4_init 15 = .ok (.newarray .int, 2) := by decide +kernel
theorem dX4_init_17 : decode cX4_init 17 = .ok (.putfield 15, 3) := by decide +kernel
theorem dX4_init_20 : decode cX4_init 20 = .ok (.aload_n 0, 1) := by decide +kernel
theorem dX4_init_21 : decode cX4_init 21 = .ok (.sipush 256, 3) := by decide +kernel
theorem dX4_init_24 : decode cX4_init 24 = .ok (.newarray .int, 2) := by decide +kernel
theorem dX4_init_26 : decode cX4_init 26 = .ok (.putfield 18, 3) := by decide +kernel
theorem dX4_init_29 : decode cX4_init 29 = .ok (.aload_n 0, 1) := by decide +kernel
theorem dX4_init_30 : decode cX4_init 30 = .ok (.sipush 256, 3) := by decide +kernel
theorem dX4_init_33 : decode cX4_init 33 = .ok (.newarray .int, 2) := by decide +kernel
theorem dX4_init_35 : decode cX4_init 35 = .ok (.putfield 21, 3) := by decide +kernel
theorem dX4_init_38 : decode cX4_init 38 = .ok (.return_, 1) := by decide +kernel
theorem dX4_byLab_0 : decode cX4_byLab 0 = .ok (.iconst 0, 1) := by decide +kernel
theorem dX4_byLab_1 : decode cX4_byLab 1 = .ok (.istore_n 2, 1) := by decide +kernel
theorem dX4_byLab_2 : decode cX4_byLab 2 = .ok (.iconst 0, 1) := by decide +kernel
theorem dX4_byLab_3 : decode cX4_byLab 3 = .ok (.istore_n 3, 1) := by decide +kernel
theorem dX4_byLab_4 : decode cX4_byLab 4 = .ok (.iload_n 3, 1) := by decide +kernel
theorem dX4_byLab_5 : decode cX4_byLab 5 = .ok (.aload_n 1, 1) := by decide +kernel
theorem dX4_byLab_6 : decode cX4_byLab 6 = .ok (.getfield 24, 3) := by decide +kernel
theorem dX4_byLab_9 : decode cX4_byLab 9 = .ok (.if_icmp .ge 64, 3) := by decide +kernel
theorem dX4_byLab_12 : decode cX4_byLab 12 = .ok (.aload_n 0, 1) := by decide +kernel
theorem dX4_byLab_13 : decode cX4_byLab 13 = .ok (.aload_n 1, 1) := by decide +kernel
theorem dX4_byLab_14 : decode cX4_byLab 14 = .ok (.iload_n 3, 1) := by decide +kernel
theorem dX4_byLab_15 : decode cX4_byLab 15 = .ok (.iload_n 2, 1) := by decide +kernel
theorem dX4_byLab_16 : decode cX4_byLab 16 = .ok (.invokevirtual 30, 3) := by decide +kernel
theorem dX4_byLab_19 : decode cX4_byLab 19 = .ok (.istore 4, 2) := by decide +kernel
theorem dX4_byLab_21 : decode cX4_byLab 21 = .ok (.iload 4, 2) := by decide +kernel
theorem dX4_byLab_23 : decode cX4_byLab 23 = .ok (.iload_n 2, 1) := by decide +kernel
theorem dX4_byLab_24 : decode cX4_byLab 24 = .ok (.if_icmp .ne 27, 3) := by decide +kernel
theorem dX4_byLab_27 : decode cX4_byLab 27 = .ok (.aload_n 0, 1) := by decide +kernel
theorem dX4_byLab_28 : decode cX4_byLab 28 = .ok (.getfield 9, 3) := by decide +kernel
theorem dX4_byLab_31 : decode cX4_byLab 31 = .ok (.iload 4, 2) := by decide +kernel
theorem dX4_byLab_33 : decode cX4_byLab 33 = .ok (.iconst 0, 1) := by decide +kernel
theorem dX4_byLab_34 : decode cX4_byLab 34 = .ok (.iastore, 1) := by decide +kernel
theorem dX4_byLab_35 : decode cX4_byLab 35 = .ok (.aload_n 0, 1) := by decide +kernel
theorem dX4_byLab_36 : decode cX4_byLab 36 = .ok (.getfield 15, 3) := by decide +kernel
theorem dX4_byLab_39 : decode cX4_byLab 39 = .ok (.iload 4, 2) := by decide +kernel
theorem dX4_byLab_41 : decode cX4_byLab 41 = .ok (.aload_n 1, 1) := by decide +kernel
theorem dX4_byLab_42 : decode cX4_byLab 42 = .ok (.getfield 34, 3) := by decide +kernel
theorem dX4_byLab_45 : decode cX4_byLab 45 = .ok (.iload_n 3, 1) := by decide +kernel
theorem dX4_byLab_46 : decode cX4_byLab 46 = .ok (.iaload, 1) := by decide +kernel
theorem dX4_byLab_47 : decode cX4_byLab 47 = .ok (.iastore, 1) := by decide +kernel
theorem dX4_byLab_48 : decode cX4_byLab 48 = .ok (.iinc 2 1, 3) := by decide +kernel
theorem dX4_byLab_51 : decode cX4_byLab 51 = .ok (.aload_n 0, 1) := by decide +kernel
theorem dX4_byLab_52 : decode cX4_byLab 52 = .ok (.getfield 9, 3) := by decide +kernel
theorem dX4_byLab_55 : decode cX4_byLab 55 = .ok (.iload 4, 2) := by decide +kernel
theorem dX4_byLab_57 : decode cX4_byLab 57 = .ok (.dup2, 1) := by decide +kernel
theorem dX4_byLab_58 : decode cX4_byLab 58 = .ok (.iaload, 1) := by decide +kernel
theorem dX4_byLab_59 : decode cX4_byLab 59 = .ok (.aload_n 1, 1) := by decide +kernel
theorem dX4_byLab_60 : decode cX4_byLab 60 = .ok (.getfield 37, 3) := by decide +kernel
theorem dX4_byLab_63 : decode cX4_byLab 63 = .ok (.iload_n 3, 1) := by decide +kernel
theorem dX4_byLab_64 : decode cX4_byLab 64 = .ok (.iaload, 1) := by decide +kernel
theorem dX4_byLab_65 : decode cX4_byLab 65 = .ok (.iadd, 1) := by decide +kernel
theorem dX4_byLab_66 : decode cX4_byLab 66 = .ok (.iastore, 1) := by decide +kernel
theorem dX4_byLab_67 : decode cX4_byLab 67 = .ok (.iinc 3 1, 3) := by decide +kernel
theorem dX4_byLab_70 : decode cX4_byLab 70 = .ok (.goto (-66), 3) := by decide +kernel
theorem dX4_byLab_73 : decode cX4_byLab 73 = .ok (.iload_n 2, 1) := by decide +kernel
theorem dX4_byLab_74 : decode cX4_byLab 74 = .ok (.ireturn, 1) := by decide +kernel
theorem dX4_firstWithRoom_0 : decode cX4_firstWithRoom 0 = .ok (.iconst 0, 1) := by decide +kernel
theorem dX4_firstWithRoom_1 : decode cX4_firstWithRoom 1 = .ok (.istore 4, 2) := by decide +kernel
theorem dX4_firstWithRoom_3 : decode cX4_firstWithRoom 3 = .ok (.iload 4, 2) := by decide +kernel
theorem dX4_firstWithRoom_5 : decode cX4_firstWithRoom 5 = .ok (.iload_n 3, 1) := by decide +kernel
theorem dX4_firstWithRoom_6 : decode cX4_firstWithRoom 6 = .ok (.if_icmp .ge 51, 3) := by decide +kernel
theorem dX4_firstWithRoom_9 : decode cX4_firstWithRoom 9 = .ok (.aload_n 0, 1) := by decide +kernel
theorem dX4_firstWithRoom_10 : decode cX4_firstWithRoom 10 = .ok (.getfield 15, 3) := by decide +kernel
theorem dX4_firstWithRoom_13 : decode cX4_firstWithRoom 13 = .ok (.iload 4, 2) := by decide +kernel
theorem dX4_firstWithRoom_15 : decode cX4_firstWithRoom 15 = .ok (.iaload, 1) := by decide +kernel
theorem dX4_firstWithRoom_16 : decode cX4_firstWithRoom 16 = .ok (.aload_n 1, 1) := by decide +kernel
theorem dX4_firstWithRoom_17 : decode cX4_firstWithRoom 17 = .ok (.getfield 34, 3) := by decide +kernel
theorem dX4_firstWithRoom_20 : decode cX4_firstWithRoom 20 = .ok (.iload_n 2, 1) := by decide +kernel
theorem dX4_firstWithRoom_21 : decode cX4_firstWithRoom 21 = .ok (.iaload, 1) := by decide +kernel
theorem dX4_firstWithRoom_22 : decode cX4_firstWithRoom 22 = .ok (.if_icmp .ne 29, 3) := by decide +kernel
theorem dX4_firstWithRoom_25 : decode cX4_firstWithRoom 25 = .ok (.aload_n 0, 1) := by decide +kernel
theorem dX4_firstWithRoom_26 : decode cX4_firstWithRoom 26 = .ok (.getfield 9, 3) := by decide +kernel
theorem dX4_firstWithRoom_29 : decode cX4_firstWithRoom 29 = .ok (.iload 4, 2) := by decide +kernel
theorem dX4_firstWithRoom_31 : decode cX4_firstWithRoom 31 = .ok (.iaload, 1) := by decide +kernel
theorem dX4_firstWithRoom_32 : decode cX4_firstWithRoom 32 = .ok (.aload_n 1, 1) := by decide +kernel
theorem dX4_firstWithRoom_33 : decode cX4_firstWithRoom 33 = .ok (.getfield 37, 3) := by decide +kernel
theorem dX4_firstWithRoom_36 : decode cX4_firstWithRoom 36 = .ok (.iload_n 2, 1) := by decide +kernel
theorem dX4_firstWithRoom_37 : decode cX4_firstWithRoom 37 = .ok (.iaload, 1) := by decide +kernel
theorem dX4_firstWithRoom_38 : decode cX4_firstWithRoom 38 = .ok (.iadd, 1) := by decide +kernel
theorem dX4_firstWithRoom_39 : decode cX4_firstWithRoom 39 = .ok (.aload_n 1, 1) := by decide +kernel
theorem dX4_firstWithRoom_40 : decode cX4_firstWithRoom 40 = .ok (.getfield 40, 3) := by decide +kernel
theorem dX4_firstWithRoom_43 : decode cX4_firstWithRoom 43 = .ok (.iconst 2, 1) := by decide +kernel
theorem dX4_firstWithRoom_44 : decode cX4_firstWithRoom 44 = .ok (.iaload, 1) := by decide +kernel
theorem dX4_firstWithRoom_45 : decode cX4_firstWithRoom 45 = .ok (.if_icmp .gt 6, 3) := by decide +kernel
theorem dX4_firstWithRoom_48 : decode cX4_firstWithRoom 48 = .ok (.iload 4, 2) := by decide +kernel
theorem dX4_firstWithRoom_50 : decode cX4_firstWithRoom 50 = .ok (.ireturn, 1) := by decide +kernel
theorem dX4_firstWithRoom_51 : decode cX4_firstWithRoom 51 = .ok (.iinc 4 1, 3) := by decide +kernel
theorem dX4_firstWithRoom_54 : decode cX4_firstWithRoom 54 = .ok (.goto (-51), 3) := by decide +kernel
theorem dX4_firstWithRoom_57 : decode cX4_firstWithRoom 57 = .ok (.iload_n 3, 1) := by decide +kernel
theorem dX4_firstWithRoom_58 : decode cX4_firstWithRoom 58 = .ok (.ireturn, 1) := by decide +kernel
theorem dX4_leastBatches_0 : decode cX4_leastBatches 0 = .ok (.aload_n 0, 1) := by decide +kernel
theorem dX4_leastBatches_1 : decode cX4_leastBatches 1 = .ok (.aload_n 1, 1) := by decide +kernel
theorem dX4_leastBatches_2 : decode cX4_leastBatches 2 = .ok (.invokevirtual 43, 3) := by decide +kernel
theorem dX4_leastBatches_5 : decode cX4_leastBatches 5 = .ok (.aload_n 0, 1) := by decide +kernel
theorem dX4_leastBatches_6 : decode cX4_leastBatches 6 = .ok (.aload_n 1, 1) := by decide +kernel
theorem dX4_leastBatches_7 : decode cX4_leastBatches 7 = .ok (.invokevirtual 47, 3) := by decide +kernel
theorem dX4_leastBatches_10 : decode cX4_leastBatches 10 = .ok (.istore_n 2, 1) := by decide +kernel
theorem dX4_leastBatches_11 : decode cX4_leastBatches 11 = .ok (.iconst 1, 1) := by decide +kernel
theorem dX4_leastBatches_12 : decode cX4_leastBatches 12 = .ok (.aload_n 1, 1) := by decide +kernel
theorem dX4_leastBatches_13 : decode cX4_leastBatches 13 = .ok (.getfield 24, 3) := by decide +kernel
theorem dX4_leastBatches_16 : decode cX4_leastBatches 16 = .ok (.ishl, 1) := by decide +kernel
theorem dX4_leastBatches_17 : decode cX4_leastBatches 17 = .ok (.iconst 1, 1) := by decide +kernel
theorem dX4_leastBatches_18 : decode cX4_leastBatches 18 = .ok (.isub, 1) := by decide +kernel
theorem dX4_leastBatches_19 : decode cX4_leastBatches 19 = .ok (.istore_n 3, 1) := by decide +kernel
theorem dX4_leastBatches_20 : decode cX4_leastBatches 20 = .ok (.aload_n 0, 1) := by decide +kernel
theorem dX4_leastBatches_21 : decode cX4_leastBatches 21 = .ok (.getfield 21, 3) := by decide +kernel
theorem dX4_leastBatches_24 : decode cX4_leastBatches 24 = .ok (.iconst 0, 1) := by decide +kernel
theorem dX4_leastBatches_25 : decode cX4_leastBatches 25 = .ok (.iconst 0, 1) := by decide +kernel
theorem dX4_leastBatches_26 : decode cX4_leastBatches 26 = .ok (.iastore, 1) := by decide +kernel
theorem dX4_leastBatches_27 : decode cX4_leastBatches 27 = .ok (.iconst 1, 1) := by decide +kernel
theorem dX4_leastBatches_28 : decode cX4_leastBatches 28 = .ok (.istore 4, 2) := by decide +kernel
theorem dX4_leastBatches_30 : decode cX4_leastBatches 30 = .ok (.iload 4, 2) := by decide +kernel
theorem dX4_leastBatches_32 : decode cX4_leastBatches 32 = .ok (.iload_n 3, 1) := by decide +kernel
theorem dX4_leastBatches_33 : decode cX4_leastBatches 33 = .ok (.if_icmp .gt 29, 3) := by decide +kernel
theorem dX4_leastBatches_36 : decode cX4_leastBatches 36 = .ok (.aload_n 0, 1) := by decide +kernel
theorem dX4_leastBatches_37 : decode cX4_leastBatches 37 = .ok (.getfield 21, 3) := by decide +kernel
theorem dX4_leastBatches_40 : decode cX4_leastBatches 40 = .ok (.iload 4, 2) := by decide +kernel
theorem dX4_leastBatches_42 : decode cX4_leastBatches 42 = .ok (.aload_n 0, 1) := by decide +kernel
theorem dX4_leastBatches_43 : decode cX4_leastBatches 43 = .ok (.iload 4, 2) := by decide +kernel
theorem dX4_leastBatches_45 : decode cX4_leastBatches 45 = .ok (.iload_n 2, 1) := by decide +kernel
theorem dX4_leastBatches_46 : decode cX4_leastBatches 46 = .ok (.aload_n 1, 1) := by decide +kernel
theorem dX4_leastBatches_47 : decode cX4_leastBatches 47 = .ok (.getfield 40, 3) := by decide +kernel
theorem dX4_leastBatches_50 : decode cX4_leastBatches 50 = .ok (.iconst 2, 1) := by decide +kernel
theorem dX4_leastBatches_51 : decode cX4_leastBatches 51 = .ok (.iaload, 1) := by decide +kernel
theorem dX4_leastBatches_52 : decode cX4_leastBatches 52 = .ok (.invokevirtual 51, 3) := by decide +kernel
theorem dX4_leastBatches_55 : decode cX4_leastBatches 55 = .ok (.iastore, 1) := by decide +kernel
theorem dX4_leastBatches_56 : decode cX4_leastBatches 56 = .ok (.iinc 4 1, 3) := by decide +kernel
theorem dX4_leastBatches_59 : decode cX4_leastBatches 59 = .ok (.goto (-29), 3) := by decide +kernel
theorem dX4_leastBatches_62 : decode cX4_leastBatches 62 = .ok (.aload_n 0, 1) := by decide +kernel
theorem dX4_leastBatches_63 : decode cX4_leastBatches 63 = .ok (.getfield 21, 3) := by decide +kernel
theorem dX4_leastBatches_66 : decode cX4_leastBatches 66 = .ok (.iload_n 3, 1) := by decide +kernel
theorem dX4_leastBatches_67 : decode cX4_leastBatches 67 = .ok (.iaload, 1) := by decide +kernel
theorem dX4_leastBatches_68 : decode cX4_leastBatches 68 = .ok (.ireturn, 1) := by decide +kernel
theorem dX4_leastOf_0 : decode cX4_leastOf 0 = .ok (.iload_n 1, 1) := by decide +kernel
theorem dX4_leastOf_1 : decode cX4_leastOf 1 = .ok (.iload_n 1, 1) := by decide +kernel
theorem dX4_leastOf_2 : decode cX4_leastOf 2 = .ok (.ineg, 1) := by decide +kernel
theorem dX4_leastOf_3 : decode cX4_leastOf 3 = .ok (.iand, 1) := by decide +kernel
theorem dX4_leastOf_4 : decode cX4_leastOf 4 = .ok (.istore 4, 2) := by decide +kernel
theorem dX4_leastOf_6 : decode cX4_leastOf 6 = .ok (.iload_n 1, 1) := by decide +kernel
theorem dX4_leastOf_7 : decode cX4_leastOf 7 = .ok (.iload 4, 2) := by decide +kernel
theorem dX4_leastOf_9 : decode cX4_leastOf 9 = .ok (.ixor, 1) := by decide +kernel
theorem dX4_leastOf_10 : decode cX4_leastOf 10 = .ok (.istore 5, 2) := by decide +kernel
theorem dX4_leastOf_12 : decode cX4_leastOf 12 = .ok (.iconst 1, 1) := by decide +kernel
theorem dX4_leastOf_13 : decode cX4_leastOf 13 = .ok (.aload_n 0, 1) := by decide +kernel
theorem dX4_leastOf_14 : decode cX4_leastOf 14 = .ok (.getfield 21, 3) := by decide +kernel
theorem dX4_leastOf_17 : decode cX4_leastOf 17 = .ok (.iload 5, 2) := by decide +kernel
theorem dX4_leastOf_19 : decode cX4_leastOf 19 = .ok (.iaload, 1) := by decide +kernel
theorem dX4_leastOf_20 : decode cX4_leastOf 20 = .ok (.iadd, 1) := by decide +kernel
theorem dX4_leastOf_21 : decode cX4_leastOf 21 = .ok (.istore 6, 2) := by decide +kernel
theorem dX4_leastOf_23 : decode cX4_leastOf 23 = .ok (.iload 5, 2) := by decide +kernel
theorem dX4_leastOf_25 : decode cX4_leastOf 25 = .ok (.istore 7, 2) := by decide +kernel
theorem dX4_leastOf_27 : decode cX4_leastOf 27 = .ok (.iload 7, 2) := by decide +kernel
theorem dX4_leastOf_29 : decode cX4_leastOf 29 = .ok (.ifCond .le 81, 3) := by decide +kernel
theorem dX4_leastOf_32 : decode cX4_leastOf 32 = .ok (.iload 7, 2) := by decide +kernel
theorem dX4_leastOf_34 : decode cX4_leastOf 34 = .ok (.iload 4, 2) := by decide +kernel
theorem dX4_leastOf_36 : decode cX4_leastOf 36 = .ok (.ior, 1) := by decide +kernel
theorem dX4_leastOf_37 : decode cX4_leastOf 37 = .ok (.istore 8, 2) := by decide +kernel
theorem dX4_leastOf_39 : decode cX4_leastOf 39 = .ok (.iload 8, 2) := by decide +kernel
theorem dX4_leastOf_41 : decode cX4_leastOf 41 = .ok (.iload_n 2, 1) := by decide +kernel
theorem dX4_leastOf_42 : decode cX4_leastOf 42 = .ok (.iand, 1) := by decide +kernel
theorem dX4_leastOf_43 : decode cX4_leastOf 43 = .ok (.istore 9, 2) := by decide +kernel
theorem dX4_leastOf_45 : decode cX4_leastOf 45 = .ok (.iload 9, 2) := by decide +kernel
theorem dX4_leastOf_47 : decode cX4_leastOf 47 = .ok (.ifCond .eq 10, 3) := by decide +kernel
theorem dX4_leastOf_50 : decode cX4_leastOf 50 = .ok (.iload 9, 2) := by decide +kernel
theorem dX4_leastOf_52 : decode cX4_leastOf 52 = .ok (.iload 8, 2) := by decide +kernel
theorem dX4_leastOf_54 : decode cX4_leastOf 54 = .ok (.if_icmp .ne 7, 3) := by decide +kernel
theorem dX4_leastOf_57 : decode cX4_leastOf 57 = .ok (.iconst 1, 1) := by decide +kernel
theorem dX4_leastOf_58 : decode cX4_leastOf 58 = .ok (.goto 4, 3) := by decide +kernel
theorem dX4_leastOf_61 : decode cX4_leastOf 61 = .ok (.iconst 0, 1) := by decide +kernel
theorem dX4_leastOf_62 : decode cX4_leastOf 62 = .ok (.istore 10, 2) := by decide +kernel
theorem dX4_leastOf_64 : decode cX4_leastOf 64 = .ok (.iload 10, 2) := by decide +kernel
theorem dX4_leastOf_66 : decode cX4_leastOf 66 = .ok (.ifCond .eq 32, 3) := by decide +kernel
theorem dX4_leastOf_69 : decode cX4_leastOf 69 = .ok (.aload_n 0, 1) := by decide +kernel
theorem dX4_leastOf_70 : decode cX4_leastOf 70 = .ok (.getfield 18, 3) := by decide +kernel
theorem dX4_leastOf_73 : decode cX4_leastOf 73 = .ok (.iload 8, 2) := by decide +kernel
theorem dX4_leastOf_75 : decode cX4_leastOf 75 = .ok (.iaload, 1) := by decide +kernel
theorem dX4_leastOf_76 : decode cX4_leastOf 76 = .ok (.iload_n 3, 1) := by decide +kernel
theorem dX4_leastOf_77 : decode cX4_leastOf 77 = .ok (.if_icmp .gt 21, 3) := by decide +kernel
theorem dX4_leastOf_80 : decode cX4_leastOf 80 = .ok (.iload 6, 2) := by decide +kernel
theorem dX4_leastOf_82 : decode cX4_leastOf 82 = .ok (.iconst 1, 1) := by decide +kernel
theorem dX4_leastOf_83 : decode cX4_leastOf 83 = .ok (.aload_n 0, 1) := by decide +kernel
theorem dX4_leastOf_84 : decode cX4_leastOf 84 = .ok (.getfield 21, 3) := by decide +kernel
theorem dX4_leastOf_87 : decode cX4_leastOf 87 = .ok (.iload_n 1, 1) := by decide +kernel
theorem dX4_leastOf_88 : decode cX4_leastOf 88 = .ok (.iload 8, 2) := by decide +kernel
theorem dX4_leastOf_90 : decode cX4_leastOf 90 = .ok (.ixor, 1) := by decide +kernel
theorem dX4_leastOf_91 : decode cX4_leastOf 91 = .ok (.iaload, 1) := by decide +kernel
theorem dX4_leastOf_92 : decode cX4_leastOf 92 = .ok (.iadd, 1) := by decide +kernel
theorem dX4_leastOf_93 : decode cX4_leastOf 93 = .ok (.invokestatic 55, 3) := by decide +kernel
theorem dX4_leastOf_96 : decode cX4_leastOf 96 = .ok (.istore 6, 2) := by decide +kernel
theorem dX4_leastOf_98 : decode cX4_leastOf 98 = .ok (.iload 7, 2) := by decide +kernel
theorem dX4_leastOf_100 : decode cX4_leastOf 100 = .ok (.iconst 1, 1) := by decide +kernel
theorem dX4_leastOf_101 : decode cX4_leastOf 101 = .ok (.isub, 1) := by decide +kernel
theorem dX4_leastOf_102 : decode cX4_leastOf 102 = .ok (.iload 5, 2) := by decide +kernel
theorem dX4_leastOf_104 : decode cX4_leastOf 104 = .ok (.iand, 1) := by decide +kernel
theorem dX4_leastOf_105 : decode cX4_leastOf 105 = .ok (.istore 7, 2) := by decide +kernel
theorem dX4_leastOf_107 : decode cX4_leastOf 107 = .ok (.goto (-80), 3) := by decide +kernel
theorem dX4_leastOf_110 : decode cX4_leastOf 110 = .ok (.iload 6, 2) := by decide +kernel
theorem dX4_leastOf_112 : decode cX4_leastOf 112 = .ok (.ireturn, 1) := by decide +kernel
theorem dX4_sumUp_0 : decode cX4_sumUp 0 = .ok (.aload_n 0, 1) := by decide +kernel
theorem dX4_sumUp_1 : decode cX4_sumUp 1 = .ok (.getfield 18, 3) := by decide +kernel
theorem dX4_sumUp_4 : decode cX4_sumUp 4 = .ok (.iconst 0, 1) := by decide +kernel
theorem dX4_sumUp_5 : decode cX4_sumUp 5 = .ok (.iconst 0, 1) := by decide +kernel
theorem dX4_sumUp_6 : decode cX4_sumUp 6 = .ok (.iastore, 1) := by decide +kernel
theorem dX4_sumUp_7 : decode cX4_sumUp 7 = .ok (.iconst 0, 1) := by decide +kernel
theorem dX4_sumUp_8 : decode cX4_sumUp 8 = .ok (.istore_n 2, 1) := by decide +kernel
theorem dX4_sumUp_9 : decode cX4_sumUp 9 = .ok (.iload_n 2, 1) := by decide +kernel
theorem dX4_sumUp_10 : decode cX4_sumUp 10 = .ok (.aload_n 1, 1) := by decide +kernel
theorem dX4_sumUp_11 : decode cX4_sumUp 11 = .ok (.getfield 24, 3) := by decide +kernel
theorem dX4_sumUp_14 : decode cX4_sumUp 14 = .ok (.if_icmp .ge 51, 3) := by decide +kernel
theorem dX4_sumUp_17 : decode cX4_sumUp 17 = .ok (.iconst 1, 1) := by decide +kernel
theorem dX4_sumUp_18 : decode cX4_sumUp 18 = .ok (.iload_n 2, 1) := by decide +kernel
theorem dX4_sumUp_19 : decode cX4_sumUp 19 = .ok (.ishl, 1) := by decide +kernel
theorem dX4_sumUp_20 : decode cX4_sumUp 20 = .ok (.istore_n 3, 1) := by decide +kernel
theorem dX4_sumUp_21 : decode cX4_sumUp 21 = .ok (.iconst 0, 1) := by decide +kernel
theorem dX4_sumUp_22 : decode cX4_sumUp 22 = .ok (.istore 4, 2) := by decide +kernel
theorem dX4_sumUp_24 : decode cX4_sumUp 24 = .ok (.iload 4, 2) := by decide +kernel
theorem dX4_sumUp_26 : decode cX4_sumUp 26 = .ok (.iload_n 3, 1) := by decide +kernel
theorem dX4_sumUp_27 : decode cX4_sumUp 27 = .ok (.if_icmp .ge 32, 3) := by decide +kernel
theorem dX4_sumUp_30 : decode cX4_sumUp 30 = .ok (.aload_n 0, 1) := by decide +kernel
theorem dX4_sumUp_31 : decode cX4_sumUp 31 = .ok (.getfield 18, 3) := by decide +kernel
theorem dX4_sumUp_34 : decode cX4_sumUp 34 = .ok (.iload 4, 2) := by decide +kernel
theorem dX4_sumUp_36 : decode cX4_sumUp 36 = .ok (.iload_n 3, 1) := by decide +kernel
theorem dX4_sumUp_37 : decode cX4_sumUp 37 = .ok (.ior, 1) := by decide +kernel
theorem dX4_sumUp_38 : decode cX4_sumUp 38 = .ok (.aload_n 0, 1) := by decide +kernel
theorem dX4_sumUp_39 : decode cX4_sumUp 39 = .ok (.getfield 18, 3) := by decide +kernel
theorem dX4_sumUp_42 : decode cX4_sumUp 42 = .ok (.iload 4, 2) := by decide +kernel
theorem dX4_sumUp_44 : decode cX4_sumUp 44 = .ok (.iaload, 1) := by decide +kernel
theorem dX4_sumUp_45 : decode cX4_sumUp 45 = .ok (.aload_n 1, 1) := by decide +kernel
theorem dX4_sumUp_46 : decode cX4_sumUp 46 = .ok (.getfield 37, 3) := by decide +kernel
theorem dX4_sumUp_49 : decode cX4_sumUp 49 = .ok (.iload_n 2, 1) := by decide +kernel
theorem dX4_sumUp_50 : decode cX4_sumUp 50 = .ok (.iaload, 1) := by decide +kernel
theorem dX4_sumUp_51 : decode cX4_sumUp 51 = .ok (.iadd, 1) := by decide +kernel
theorem dX4_sumUp_52 : decode cX4_sumUp 52 = .ok (.iastore, 1) := by decide +kernel
theorem dX4_sumUp_53 : decode cX4_sumUp 53 = .ok (.iinc 4 1, 3) := by decide +kernel
theorem dX4_sumUp_56 : decode cX4_sumUp 56 = .ok (.goto (-32), 3) := by decide +kernel
theorem dX4_sumUp_59 : decode cX4_sumUp 59 = .ok (.iinc 2 1, 3) := by decide +kernel
theorem dX4_sumUp_62 : decode cX4_sumUp 62 = .ok (.goto (-53), 3) := by decide +kernel
theorem dX4_sumUp_65 : decode cX4_sumUp 65 = .ok (.return_, 1) := by decide +kernel
theorem dX4_reversalRolls_0 : decode cX4_reversalRolls 0 = .ok (.iconst 0, 1) := by decide +kernel
theorem dX4_reversalRolls_1 : decode cX4_reversalRolls 1 = .ok (.istore_n 2, 1) := by decide +kernel
theorem dX4_reversalRolls_2 : decode cX4_reversalRolls 2 = .ok (.iconst 0, 1) := by decide +kernel
theorem dX4_reversalRolls_3 : decode cX4_reversalRolls 3 = .ok (.istore_n 3, 1) := by decide +kernel
theorem dX4_reversalRolls_4 : decode cX4_reversalRolls 4 = .ok (.iload_n 3, 1) := by decide +kernel
theorem dX4_reversalRolls_5 : decode cX4_reversalRolls 5 = .ok (.aload_n 1, 1) := by decide +kernel
theorem dX4_reversalRolls_6 : decode cX4_reversalRolls 6 = .ok (.getfield 24, 3) := by decide +kernel
theorem dX4_reversalRolls_9 : decode cX4_reversalRolls 9 = .ok (.if_icmp .ge 25, 3) := by decide +kernel
theorem dX4_reversalRolls_12 : decode cX4_reversalRolls 12 = .ok (.aload_n 1, 1) := by decide +kernel
theorem dX4_reversalRolls_13 : decode cX4_reversalRolls 13 = .ok (.getfield 34, 3) := by decide +kernel
theorem dX4_reversalRolls_16 : decode cX4_reversalRolls 16 = .ok (.iload_n 3, 1) := by decide +kernel
theorem dX4_reversalRolls_17 : decode cX4_reversalRolls 17 = .ok (.iaload, 1) := by decide +kernel
theorem dX4_reversalRolls_18 : decode cX4_reversalRolls 18 = .ok (.iconst 1, 1) := by decide +kernel
theorem dX4_reversalRolls_19 : decode cX4_reversalRolls 19 = .ok (.if_icmp .ne 9, 3) := by decide +kernel
theorem dX4_reversalRolls_22 : decode cX4_reversalRolls 22 = .ok (.iload_n 2, 1) := by decide +kernel
theorem dX4_reversalRolls_23 : decode cX4_reversalRolls 23 = .ok (.iconst 1, 1) := by decide +kernel
theorem dX4_reversalRolls_24 : decode cX4_reversalRolls 24 = .ok (.iload_n 3, 1) := by decide +kernel
theorem dX4_reversalRolls_25 : decode cX4_reversalRolls 25 = .ok (.ishl, 1) := by decide +kernel
theorem dX4_reversalRolls_26 : decode cX4_reversalRolls 26 = .ok (.ior, 1) := by decide +kernel
theorem dX4_reversalRolls_27 : decode cX4_reversalRolls 27 = .ok (.istore_n 2, 1) := by decide +kernel
theorem dX4_reversalRolls_28 : decode cX4_reversalRolls 28 = .ok (.iinc 3 1, 3) := by decide +kernel
theorem dX4_reversalRolls_31 : decode cX4_reversalRolls 31 = .ok (.goto (-27), 3) := by decide +kernel
theorem dX4_reversalRolls_34 : decode cX4_reversalRolls 34 = .ok (.iload_n 2, 1) := by decide +kernel
theorem dX4_reversalRolls_35 : decode cX4_reversalRolls 35 = .ok (.ireturn, 1) := by decide +kernel
theorem dX5_init_0 : decode cX5_init 0 = .ok (.aload_n 0, 1) := by decide +kernel
theorem dX5_init_1 : decode cX5_init 1 = .ok (.invokespecial 3, 3) := by decide +kernel
theorem dX5_init_4 : decode cX5_init 4 = .ok (.aload_n 0, 1) := by decide +kernel
theorem dX5_init_5 : decode cX5_init 5 = .ok (.sipush 256, 3) := by decide +kernel
theorem dX5_init_8 : decode cX5_init 8 = .ok (.newarray .long, 2) := by decide +kernel
theorem dX5_init_10 : decode cX5_init 10 = .ok (.putfield 9, 3) := by decide +kernel
theorem dX5_init_13 : decode cX5_init 13 = .ok (.aload_n 0, 1) := by decide +kernel
theorem dX5_init_14 : decode cX5_init 14 = .ok (.sipush 256, 3) := by decide +kernel
theorem dX5_init_17 : decode cX5_init 17 = .ok (.newarray .int, 2) := by decide +kernel
theorem dX5_init_19 : decode cX5_init 19 = .ok (.putfield 15, 3) := by decide +kernel
theorem dX5_init_22 : decode cX5_init 22 = .ok (.return_, 1) := by decide +kernel
theorem dX5_work_0 : decode cX5_work 0 = .ok (.aload_n 0, 1) := by decide +kernel
theorem dX5_work_1 : decode cX5_work 1 = .ok (.getfield 9, 3) := by decide +kernel
theorem dX5_work_4 : decode cX5_work 4 = .ok (.iconst 0, 1) := by decide +kernel
theorem dX5_work_5 : decode cX5_work 5 = .ok (.ldc2_w 19, 3) := by decide +kernel
theorem dX5_work_8 : decode cX5_work 8 = .ok (.lastore, 1) := by decide +kernel
theorem dX5_work_9 : decode cX5_work 9 = .ok (.iconst 1, 1) := by decide +kernel
theorem dX5_work_10 : decode cX5_work 10 = .ok (.istore_n 2, 1) := by decide +kernel
theorem dX5_work_11 : decode cX5_work 11 = .ok (.iload_n 2, 1) := by decide +kernel
theorem dX5_work_12 : decode cX5_work 12 = .ok (.aload_n 1, 1) := by decide +kernel
theorem dX5_work_13 : decode cX5_work 13 = .ok (.getfield 21, 3) := by decide +kernel
theorem dX5_work_16 : decode cX5_work 16 = .ok (.if_icmp .gt 43, 3) := by decide +kernel
theorem dX5_work_19 : decode cX5_work 19 = .ok (.iload_n 2, 1) := by decide +kernel
theorem dX5_work_20 : decode cX5_work 20 = .ok (.aload_n 1, 1) := by decide +kernel
theorem dX5_work_21 : decode cX5_work 21 = .ok (.getfield 21, 3) := by decide +kernel
theorem dX5_work_24 : decode cX5_work 24 = .ok (.iconst (-1), 1) := by decide +kernel
theorem dX5_work_25 : decode cX5_work 25 = .ok (.ixor, 1) := by decide +kernel
theorem dX5_work_26 : decode cX5_work 26 = .ok (.iand, 1) := by decide +kernel
theorem dX5_work_27 : decode cX5_work 27 = .ok (.ifCond .ne 26, 3) := by decide +kernel
theorem dX5_work_30 : decode cX5_work 30 = .ok (.aload_n 0, 1) := by decide +kernel
theorem dX5_work_31 : decode cX5_work 31 = .ok (.getfield 15, 3) := by decide +kernel
theorem dX5_work_34 : decode cX5_work 34 = .ok (.iload_n 2, 1) := by decide +kernel
theorem dX5_work_35 : decode cX5_work 35 = .ok (.aload_n 0, 1) := by decide +kernel
theorem dX5_work_36 : decode cX5_work 36 = .ok (.aload_n 1, 1) := by decide +kernel
theorem dX5_work_37 : decode cX5_work 37 = .ok (.iload_n 2, 1) := by decide +kernel
theorem dX5_work_38 : decode cX5_work 38 = .ok (.invokevirtual 27, 3) := by decide +kernel
theorem dX5_work_41 : decode cX5_work 41 = .ok (.iastore, 1) := by decide +kernel
theorem dX5_work_42 : decode cX5_work 42 = .ok (.aload_n 0, 1) := by decide +kernel
theorem dX5_work_43 : decode cX5_work 43 = .ok (.getfield 9, 3) := by decide +kernel
theorem dX5_work_46 : decode cX5_work 46 = .ok (.iload_n 2, 1) := by decide +kernel
theorem dX5_work_47 : decode cX5_work 47 = .ok (.aload_n 0, 1) := by decide +kernel
theorem dX5_work_48 : decode cX5_work 48 = .ok (.iload_n 2, 1) := by decide +kernel
theorem dX5_work_49 : decode cX5_work 49 = .ok (.invokevirtual 31, 3) := by decide +kernel
theorem dX5_work_52 : decode cX5_work 52 = .ok (.lastore, 1) := by decide +kernel
theorem dX5_work_53 : decode cX5_work 53 = .ok (.iinc 2 1, 3) := by decide +kernel
theorem dX5_work_56 : decode cX5_work 56 = .ok (.goto (-45), 3) := by decide +kernel
theorem dX5_work_59 : decode cX5_work 59 = .ok (.return_, 1) := by decide +kernel
theorem dX5_holdersOf_0 : decode cX5_holdersOf 0 = .ok (.iconst 0, 1) := by decide +kernel
theorem dX5_holdersOf_1 : decode cX5_holdersOf 1 = .ok (.istore_n 3, 1) := by decide +kernel
theorem dX5_holdersOf_2 : decode cX5_holdersOf 2 = .ok (.iconst 0, 1) := by decide +kernel
theorem dX5_holdersOf_3 : decode cX5_holdersOf 3 = .ok (.istore 4, 2) := by decide +kernel
theorem dX5_holdersOf_5 : decode cX5_holdersOf 5 = .ok (.iload 4, 2) := by decide +kernel
theorem dX5_holdersOf_7 : decode cX5_holdersOf 7 = .ok (.bipush 6, 2) := by decide +kernel
theorem dX5_holdersOf_9 : decode cX5_holdersOf 9 = .ok (.if_icmp .ge 26, 3) := by decide +kernel
theorem dX5_holdersOf_12 : decode cX5_holdersOf 12 = .ok (.aload_n 1, 1) := by decide +kernel
theorem dX5_holdersOf_13 : decode cX5_holdersOf 13 = .ok (.iload 4, 2) := by decide +kernel
theorem dX5_holdersOf_15 : decode cX5_holdersOf 15 = .ok (.iload_n 2, 1) := by decide +kernel
theorem dX5_holdersOf_16 : decode cX5_holdersOf 16 = .ok (.invokevirtual 35, 3) := by decide +kernel
theorem dX5_holdersOf_19 : decode cX5_holdersOf 19 = .ok (.ifCond .eq 10, 3) := by decide +kernel
theorem dX5_holdersOf_22 : decode cX5_holdersOf 22 = .ok (.iload_n 3, 1) := by decide +kernel
theorem dX5_holdersOf_23 : decode cX5_holdersOf 23 = .ok (.iconst 1, 1) := by decide +kernel
theorem dX5_holdersOf_24 : decode cX5_holdersOf 24 = .ok (.iload 4, 2) := by decide +kernel
theorem dX5_holdersOf_26 : decode cX5_holdersOf 26 = .ok (.ishl, 1) := by decide +kernel
theorem dX5_holdersOf_27 : decode cX5_holdersOf 27 = .ok (.ior, 1) := by decide +kernel
theorem dX5_holdersOf_28 : decode cX5_holdersOf 28 = .ok (.istore_n 3, 1) := by decide +kernel
theorem dX5_holdersOf_29 : decode cX5_holdersOf 29 = .ok (.iinc 4 1, 3) := by decide +kernel
theorem dX5_holdersOf_32 : decode cX5_holdersOf 32 = .ok (.goto (-27), 3) := by decide +kernel
theorem dX5_holdersOf_35 : decode cX5_holdersOf 35 = .ok (.iload_n 3, 1) := by decide +kernel
theorem dX5_holdersOf_36 : decode cX5_holdersOf 36 = .ok (.ireturn, 1) := by decide +kernel
theorem dX5_roomSetsFor_0 : decode cX5_roomSetsFor 0 = .ok (.iload_n 1, 1) := by decide +kernel
theorem dX5_roomSetsFor_1 : decode cX5_roomSetsFor 1 = .ok (.iload_n 1, 1) := by decide +kernel
theorem dX5_roomSetsFor_2 : decode cX5_roomSetsFor 2 = .ok (.ineg, 1) := by decide +kernel
theorem dX5_roomSetsFor_3 : decode cX5_roomSetsFor 3 = .ok (.iand, 1) := by decide +kernel
theorem dX5_roomSetsFor_4 : decode cX5_roomSetsFor 4 = .ok (.istore_n 2, 1) := by decide +kernel
theorem dX5_roomSetsFor_5 : decode cX5_roomSetsFor 5 = .ok (.iload_n 1, 1) := by decide +kernel
theorem dX5_roomSetsFor_6 : decode cX5_roomSetsFor 6 = .ok (.iload_n 2, 1) := by decide +kernel
theorem dX5_roomSetsFor_7 : decode cX5_roomSetsFor 7 = .ok (.ixor, 1) := by decide +kernel
theorem dX5_roomSetsFor_8 : decode cX5_roomSetsFor 8 = .ok (.istore_n 3, 1) := by decide +kernel
theorem dX5_roomSetsFor_9 : decode cX5_roomSetsFor 9 = .ok (.aload_n 0, 1) := by decide +kernel
theorem dX5_roomSetsFor_10 : decode cX5_roomSetsFor 10 = .ok (.aload_n 0, 1) := by decide +kernel
theorem dX5_roomSetsFor_11 : decode cX5_roomSetsFor 11 = .ok (.getfield 9, 3) := by decide +kernel
theorem dX5_roomSetsFor_14 : decode cX5_roomSetsFor 14 = .ok (.iload_n 3, 1) := by decide +kernel
theorem dX5_roomSetsFor_15 : decode cX5_roomSetsFor 15 = .ok (.laload, 1) := by decide +kernel
theorem dX5_roomSetsFor_16 : decode cX5_roomSetsFor 16 = .ok (.aload_n 0, 1) := by decide +kernel
theorem dX5_roomSetsFor_17 : decode cX5_roomSetsFor 17 = .ok (.getfield 15, 3) := by decide +kernel
theorem dX5_roomSetsFor_20 : decode cX5_roomSetsFor 20 = .ok (.iload_n 2, 1) := by decide +kernel
theorem dX5_roomSetsFor_21 : decode cX5_roomSetsFor 21 = .ok (.iaload, 1) := by decide +kernel
theorem dX5_roomSetsFor_22 : decode cX5_roomSetsFor 22 = .ok (.invokevirtual 39, 3) := by decide +kernel
theorem dX5_roomSetsFor_25 : decode cX5_roomSetsFor 25 = .ok (.lstore 4, 2) := by decide +kernel
theorem dX5_roomSetsFor_27 : decode cX5_roomSetsFor 27 = .ok (.iload_n 3, 1) := by decide +kernel
theorem dX5_roomSetsFor_28 : decode cX5_roomSetsFor 28 = .ok (.istore 6, 2) := by decide +kernel
theorem dX5_roomSetsFor_30 : decode cX5_roomSetsFor 30 = .ok (.iload 6, 2) := by decide +kernel
theorem dX5_roomSetsFor_32 : decode cX5_roomSetsFor 32 = .ok (.ifCond .le 41, 3) := by decide +kernel
theorem dX5_roomSetsFor_35 : decode cX5_roomSetsFor 35 = .ok (.lload 4, 2) := by decide +kernel
theorem dX5_roomSetsFor_37 : decode cX5_roomSetsFor 37 = .ok (.aload_n 0, 1) := by decide +kernel
theorem dX5_roomSetsFor_38 : decode cX5_roomSetsFor 38 = .ok (.aload_n 0, 1) := by decide +kernel
theorem dX5_roomSetsFor_39 : decode cX5_roomSetsFor 39 = .ok (.getfield 9, 3) := by decide +kernel
theorem dX5_roomSetsFor_42 : decode cX5_roomSetsFor 42 = .ok (.iload_n 3, 1) := by decide +kernel
theorem dX5_roomSetsFor_43 : decode cX5_roomSetsFor 43 = .ok (.iload 6, 2) := by decide +kernel
theorem dX5_roomSetsFor_45 : decode cX5_roomSetsFor 45 = .ok (.ixor, 1) := by decide +kernel
theorem dX5_roomSetsFor_46 : decode cX5_roomSetsFor 46 = .ok (.laload, 1) := by decide +kernel
theorem dX5_roomSetsFor_47 : decode cX5_roomSetsFor 47 = .ok (.aload_n 0, 1) := by decide +kernel
theorem dX5_roomSetsFor_48 : decode cX5_roomSetsFor 48 = .ok (.getfield 15, 3) := by decide +kernel
theorem dX5_roomSetsFor_51 : decode cX5_roomSetsFor 51 = .ok (.iload 6, 2) := by decide +kernel
theorem dX5_roomSetsFor_53 : decode cX5_roomSetsFor 53 = .ok (.iload_n 2, 1) := by decide +kernel
theorem dX5_roomSetsFor_54 : decode cX5_roomSetsFor 54 = .ok (.ior, 1) := by decide +kernel
theorem dX5_roomSetsFor_55 : decode cX5_roomSetsFor 55 = .ok (.iaload, 1) := by decide +kernel
theorem dX5_roomSetsFor_56 : decode cX5_roomSetsFor 56 = .ok (.invokevirtual 39, 3) := by decide +kernel
theorem dX5_roomSetsFor_59 : decode cX5_roomSetsFor 59 = .ok (.lor, 1) := by decide +kernel
theorem dX5_roomSetsFor_60 : decode cX5_roomSetsFor 60 = .ok (.lstore 4, 2) := by decide +kernel
theorem dX5_roomSetsFor_62 : decode cX5_roomSetsFor 62 = .ok (.iload 6, 2) := by decide +kernel
theorem dX5_roomSetsFor_64 : decode cX5_roomSetsFor 64 = .ok (.iconst 1, 1) := by decide +kernel
theorem dX5_roomSetsFor_65 : decode cX5_roomSetsFor 65 = .ok (.isub, 1) := by decide +kernel
theorem dX5_roomSetsFor_66 : decode cX5_roomSetsFor 66 = .ok (.iload_n 3, 1) := by decide +kernel
theorem dX5_roomSetsFor_67 : decode cX5_roomSetsFor 67 = .ok (.iand, 1) := by decide +kernel
theorem dX5_roomSetsFor_68 : decode cX5_roomSetsFor 68 = .ok (.istore 6, 2) := by decide +kernel
theorem dX5_roomSetsFor_70 : decode cX5_roomSetsFor 70 = .ok (.goto (-40), 3) := by decide +kernel
theorem dX5_roomSetsFor_73 : decode cX5_roomSetsFor 73 = .ok (.lload 4, 2) := by decide +kernel
theorem dX5_roomSetsFor_75 : decode cX5_roomSetsFor 75 = .ok (.lreturn, 1) := by decide +kernel
theorem dX5_withOneMore_0 : decode cX5_withOneMore 0 = .ok (.lconst 0, 1) := by decide +kernel
theorem dX5_withOneMore_1 : decode cX5_withOneMore 1 = .ok (.lstore 4, 2) := by decide +kernel
theorem dX5_withOneMore_3 : decode cX5_withOneMore 3 = .ok (.lload_n 1, 1) := by decide +kernel
theorem dX5_withOneMore_4 : decode cX5_withOneMore 4 = .ok (.lconst 0, 1) := by decide +kernel
theorem dX5_withOneMore_5 : decode cX5_withOneMore 5 = .ok (.lcmp, 1) := by decide +kernel
theorem dX5_withOneMore_6 : decode cX5_withOneMore 6 = .ok (.ifCond .eq 51, 3) := by decide +kernel
theorem dX5_withOneMore_9 : decode cX5_withOneMore 9 = .ok (.iload_n 3, 1) := by decide +kernel
theorem dX5_withOneMore_10 : decode cX5_withOneMore 10 = .ok (.ifCond .eq 47, 3) := by decide +kernel
theorem dX5_withOneMore_13 : decode cX5_withOneMore 13 = .ok (.iconst 0, 1) := by decide +kernel
theorem dX5_withOneMore_14 : decode cX5_withOneMore 14 = .ok (.istore 6, 2) := by decide +kernel
theorem dX5_withOneMore_16 : decode cX5_withOneMore 16 = .ok (.iload 6, 2) := by decide +kernel
theorem dX5_withOneMore_18 : decode cX5_withOneMore 18 = .ok (.bipush 6, 2) := by decide +kernel
theorem dX5_withOneMore_20 : decode cX5_withOneMore 20 = .ok (.if_icmp .ge 37, 3) := by decide +kernel
theorem dX5_withOneMore_23 : decode cX5_withOneMore 23 = .ok (.iload_n 3, 1) := by decide +kernel
theorem dX5_withOneMore_24 : decode cX5_withOneMore 24 = .ok (.iload 6, 2) := by decide +kernel
theorem dX5_withOneMore_26 : decode cX5_withOneMore 26 = .ok (.ishr, 1) := by decide +kernel
theorem dX5_withOneMore_27 : decode cX5_withOneMore 27 = .ok (.iconst 1, 1) := by decide +kernel
theorem dX5_withOneMore_28 : decode cX5_withOneMore 28 = .ok (.iand, 1) := by decide +kernel
theorem dX5_withOneMore_29 : decode cX5_withOneMore 29 = .ok (.iconst 1, 1) := by decide +kernel
theorem dX5_withOneMore_30 : decode cX5_withOneMore 30 = .ok (.if_icmp .ne 21, 3) := by decide +kernel
theorem dX5_withOneMore_33 : decode cX5_withOneMore 33 = .ok (.lload 4, 2) := by decide +kernel
theorem dX5_withOneMore_35 : decode cX5_withOneMore 35 = .ok (.lload_n 1, 1) := by decide +kernel
theorem dX5_withOneMore_36 : decode cX5_withOneMore 36 = .ok (.getstatic 43, 3) := by decide +kernel
theorem dX5_withOneMore_39 : decode cX5_withOneMore 39 = .ok (.iload 6, 2) := by decide +kernel
theorem dX5_withOneMore_41 : decode cX5_withOneMore 41 = .ok (.laload, 1) := by decide +kernel
theorem dX5_withOneMore_42 : decode cX5_withOneMore 42 = .ok (.land, 1) := by decide +kernel
theorem dX5_withOneMore_43 : decode cX5_withOneMore 43 = .ok (.iconst 1, 1) := by decide +kernel
theorem dX5_withOneMore_44 : decode cX5_withOneMore 44 = .ok (.iload 6, 2) := by decide +kernel
theorem dX5_withOneMore_46 : decode cX5_withOneMore 46 = .ok (.ishl, 1) := by decide +kernel
theorem dX5_withOneMore_47 : decode cX5_withOneMore 47 = .ok (.lshl, 1) := by decide +kernel
theorem dX5_withOneMore_48 : decode cX5_withOneMore 48 = .ok (.lor, 1) := by decide +kernel
theorem dX5_withOneMore_49 : decode cX5_withOneMore 49 = .ok (.lstore 4, 2) := by decide +kernel
theorem dX5_withOneMore_51 : decode cX5_withOneMore 51 = .ok (.iinc 6 1, 3) := by decide +kernel
theorem dX5_withOneMore_54 : decode cX5_withOneMore 54 = .ok (.goto (-38), 3) := by decide +kernel
theorem dX5_withOneMore_57 : decode cX5_withOneMore 57 = .ok (.lload 4, 2) := by decide +kernel
theorem dX5_withOneMore_59 : decode cX5_withOneMore 59 = .ok (.lreturn, 1) := by decide +kernel
theorem dX5_isPlaced_0 : decode cX5_isPlaced 0 = .ok (.aload_n 0, 1) := by decide +kernel
theorem dX5_isPlaced_1 : decode cX5_isPlaced 1 = .ok (.getfield 9, 3) := by decide +kernel
theorem dX5_isPlaced_4 : decode cX5_isPlaced 4 = .ok (.iload_n 1, 1) := by decide +kernel
theorem dX5_isPlaced_5 : decode cX5_isPlaced 5 = .ok (.laload, 1) := by decide +kernel
theorem dX5_isPlaced_6 : decode cX5_isPlaced 6 = .ok (.iload_n 2, 1) := by decide +kernel
theorem dX5_isPlaced_7 : decode cX5_isPlaced 7 = .ok (.lushr, 1) := by decide +kernel
theorem dX5_isPlaced_8 : decode cX5_isPlaced 8 = .ok (.lconst 1, 1) := by decide +kernel
theorem dX5_isPlaced_9 : decode cX5_isPlaced 9 = .ok (.land, 1) := by decide +kernel
theorem dX5_isPlaced_10 : decode cX5_isPlaced 10 = .ok (.lconst 1, 1) := by decide +kernel
theorem dX5_isPlaced_11 : decode cX5_isPlaced 11 = .ok (.lcmp, 1) := by decide +kernel
theorem dX5_isPlaced_12 : decode cX5_isPlaced 12 = .ok (.ifCond .ne 7, 3) := by decide +kernel
theorem dX5_isPlaced_15 : decode cX5_isPlaced 15 = .ok (.iconst 1, 1) := by decide +kernel
theorem dX5_isPlaced_16 : decode cX5_isPlaced 16 = .ok (.goto 4, 3) := by decide +kernel
theorem dX5_isPlaced_19 : decode cX5_isPlaced 19 = .ok (.iconst 0, 1) := by decide +kernel
theorem dX5_isPlaced_20 : decode cX5_isPlaced 20 = .ok (.ireturn, 1) := by decide +kernel
theorem dX5_canPlaceAll_0 : decode cX5_canPlaceAll 0 = .ok (.aload_n 0, 1) := by decide +kernel
theorem dX5_canPlaceAll_1 : decode cX5_canPlaceAll 1 = .ok (.aload_n 1, 1) := by decide +kernel
theorem dX5_canPlaceAll_2 : decode cX5_canPlaceAll 2 = .ok (.getfield 21, 3) := by decide +kernel
theorem dX5_canPlaceAll_5 : decode cX5_canPlaceAll 5 = .ok (.bipush 63, 2) := by decide +kernel
theorem dX5_canPlaceAll_7 : decode cX5_canPlaceAll 7 = .ok (.invokevirtual 46, 3) := by decide +kernel
theorem dX5_canPlaceAll_10 : decode cX5_canPlaceAll 10 = .ok (.ireturn, 1) := by decide +kernel
theorem dX5_roomsNeeded_0 : decode cX5_roomsNeeded 0 = .ok (.iconst 0, 1) := by decide +kernel
theorem dX5_roomsNeeded_1 : decode cX5_roomsNeeded 1 = .ok (.istore_n 2, 1) := by decide +kernel
theorem dX5_roomsNeeded_2 : decode cX5_roomsNeeded 2 = .ok (.iconst 0, 1) := by decide +kernel
theorem dX5_roomsNeeded_3 : decode cX5_roomsNeeded 3 = .ok (.istore_n 3, 1) := by decide +kernel
theorem dX5_roomsNeeded_4 : decode cX5_roomsNeeded 4 = .ok (.iload_n 3, 1) := by decide +kernel
theorem dX5_roomsNeeded_5 : decode cX5_roomsNeeded 5 = .ok (.bipush 6, 2) := by decide +kernel
theorem dX5_roomsNeeded_7 : decode cX5_roomsNeeded 7 = .ok (.if_icmp .ge 40, 3) := by decide +kernel
theorem dX5_roomsNeeded_10 : decode cX5_roomsNeeded 10 = .ok (.aload_n 1, 1) := by decide +kernel
theorem dX5_roomsNeeded_11 : decode cX5_roomsNeeded 11 = .ok (.iload_n 3, 1) := by decide +kernel
theorem dX5_roomsNeeded_12 : decode cX5_roomsNeeded 12 = .ok (.invokevirtual 49, 3) := by decide +kernel
theorem dX5_roomsNeeded_15 : decode cX5_roomsNeeded 15 = .ok (.ifCond .eq 26, 3) := by decide +kernel
theorem dX5_roomsNeeded_18 : decode cX5_roomsNeeded 18 = .ok (.aload_n 0, 1) := by decide +kernel
theorem dX5_roomsNeeded_19 : decode cX5_roomsNeeded 19 = .ok (.aload_n 1, 1) := by decide +kernel
theorem dX5_roomsNeeded_20 : decode cX5_roomsNeeded 20 = .ok (.getfield 21, 3) := by decide +kernel
theorem dX5_roomsNeeded_23 : decode cX5_roomsNeeded 23 = .ok (.bipush 63, 2) := by decide +kernel
theorem dX5_roomsNeeded_25 : decode cX5_roomsNeeded 25 = .ok (.iconst 1, 1) := by decide +kernel
theorem dX5_roomsNeeded_26 : decode cX5_roomsNeeded 26 = .ok (.iload_n 3, 1) := by decide +kernel
theorem dX5_roomsNeeded_27 : decode cX5_roomsNeeded 27 = .ok (.ishl, 1) := by decide +kernel
theorem dX5_roomsNeeded_28 : decode cX5_roomsNeeded 28 = .ok (.ixor, 1) := by decide +kernel
theorem dX5_roomsNeeded_29 : decode cX5_roomsNeeded 29 = .ok (.invokevirtual 46, 3) := by decide +kernel
theorem dX5_roomsNeeded_32 : decode cX5_roomsNeeded 32 = .ok (.ifCond .ne 9, 3) := by decide +kernel
theorem dX5_roomsNeeded_35 : decode cX5_roomsNeeded 35 = .ok (.iload_n 2, 1) := by decide +kernel
theorem dX5_roomsNeeded_36 : decode cX5_roomsNeeded 36 = .ok (.iconst 1, 1) := by decide +kernel
theorem dX5_roomsNeeded_37 : decode cX5_roomsNeeded 37 = .ok (.iload_n 3, 1) := by decide +kernel
theorem dX5_roomsNeeded_38 : decode cX5_roomsNeeded 38 = .ok (.ishl, 1) := by decide +kernel
theorem dX5_roomsNeeded_39 : decode cX5_roomsNeeded 39 = .ok (.ior, 1) := by decide +kernel
theorem dX5_roomsNeeded_40 : decode cX5_roomsNeeded 40 = .ok (.istore_n 2, 1) := by decide +kernel
theorem dX5_roomsNeeded_41 : decode cX5_roomsNeeded 41 = .ok (.iinc 3 1, 3) := by decide +kernel
theorem dX5_roomsNeeded_44 : decode cX5_roomsNeeded 44 = .ok (.goto (-40), 3) := by decide +kernel
theorem dX5_roomsNeeded_47 : decode cX5_roomsNeeded 47 = .ok (.iload_n 2, 1) := by decide +kernel
theorem dX5_roomsNeeded_48 : decode cX5_roomsNeeded 48 = .ok (.ireturn, 1) := by decide +kernel
theorem dX5_casesAmongTens_0 : decode cX5_casesAmongTens 0 = .ok (.lconst 0, 1) := by decide +kernel
theorem dX5_casesAmongTens_1 : decode cX5_casesAmongTens 1 = .ok (.lstore_n 3, 1) := by decide +kernel
theorem dX5_casesAmongTens_2 : decode cX5_casesAmongTens 2 = .ok (.iconst 0, 1) := by decide +kernel
theorem dX5_casesAmongTens_3 : decode cX5_casesAmongTens 3 = .ok (.istore 5, 2) := by decide +kernel
theorem dX5_casesAmongTens_5 : decode cX5_casesAmongTens 5 = .ok (.iload 5, 2) := by decide +kernel
theorem dX5_casesAmongTens_7 : decode cX5_casesAmongTens 7 = .ok (.bipush 64, 2) := by decide +kernel
theorem dX5_casesAmongTens_9 : decode cX5_casesAmongTens 9 = .ok (.if_icmp .ge 68, 3) := by decide +kernel
theorem dX5_casesAmongTens_12 : decode cX5_casesAmongTens 12 = .ok (.iload 5, 2) := by decide +kernel
theorem dX5_casesAmongTens_14 : decode cX5_casesAmongTens 14 = .ok (.aload_n 1, 1) := by decide +kernel
theorem dX5_casesAmongTens_15 : decode cX5_casesAmongTens 15 = .ok (.getfield 53, 3) := by decide +kernel
theorem dX5_casesAmongTens_18 : decode cX5_casesAmongTens 18 = .ok (.iconst (-1), 1) := by decide +kernel
theorem dX5_casesAmongTens_19 : decode cX5_casesAmongTens 19 = .ok (.ixor, 1) := by decide +kernel
theorem dX5_casesAmongTens_20 : decode cX5_casesAmongTens 20 = .ok (.iand, 1) := by decide +kernel
theorem dX5_casesAmongTens_21 : decode cX5_casesAmongTens 21 = .ok (.ifCond .ne 50, 3) := by decide +kernel
theorem dX5_casesAmongTens_24 : decode cX5_casesAmongTens 24 = .ok (.aload_n 0, 1) := by decide +kernel
theorem dX5_casesAmongTens_25 : decode cX5_casesAmongTens 25 = .ok (.aload_n 1, 1) := by decide +kernel
theorem dX5_casesAmongTens_26 : decode cX5_casesAmongTens 26 = .ok (.getfield 21, 3) := by decide +kernel
theorem dX5_casesAmongTens_29 : decode cX5_casesAmongTens 29 = .ok (.iload 5, 2) := by decide +kernel
theorem dX5_casesAmongTens_31 : decode cX5_casesAmongTens 31 = .ok (.invokevirtual 46, 3) := by decide +kernel
theorem dX5_casesAmongTens_34 : decode cX5_casesAmongTens 34 = .ok (.ifCond .eq 37, 3) := by decide +kernel
theorem dX5_casesAmongTens_37 : decode cX5_casesAmongTens 37 = .ok (.iload 5, 2) := by decide +kernel
theorem dX5_casesAmongTens_39 : decode cX5_casesAmongTens 39 = .ok (.invokestatic 56, 3) := by decide +kernel
theorem dX5_casesAmongTens_42 : decode cX5_casesAmongTens 42 = .ok (.istore 6, 2) := by decide +kernel
theorem dX5_casesAmongTens_44 : decode cX5_casesAmongTens 44 = .ok (.lload_n 3, 1) := by decide +kernel
theorem dX5_casesAmongTens_45 : decode cX5_casesAmongTens 45 = .ok (.bipush 10, 2) := by decide +kernel
theorem dX5_casesAmongTens_47 : decode cX5_casesAmongTens 47 = .ok (.iload_n 2, 1) := by decide +kernel
theorem dX5_casesAmongTens_48 : decode cX5_casesAmongTens 48 = .ok (.isub, 1) := by decide +kernel
theorem dX5_casesAmongTens_49 : decode cX5_casesAmongTens 49 = .ok (.iload 6, 2) := by decide +kernel
theorem dX5_casesAmongTens_51 : decode cX5_casesAmongTens 51 = .ok (.invokestatic 62, 3) := by decide +kernel
theorem dX5_casesAmongTens_54 : decode cX5_casesAmongTens 54 = .ok (.iload_n 2, 1) := by decide +kernel
theorem dX5_casesAmongTens_55 : decode cX5_casesAmongTens 55 = .ok (.aload_n 1, 1) := by decide +kernel
theorem dX5_casesAmongTens_56 : decode cX5_casesAmongTens 56 = .ok (.getfield 53, 3) := by decide +kernel
theorem dX5_casesAmongTens_59 : decode cX5_casesAmongTens 59 = .ok (.invokestatic 56, 3) := by decide +kernel
theorem dX5_casesAmongTens_62 : decode cX5_casesAmongTens 62 = .ok (.iload 6, 2) := by decide +kernel
theorem dX5_casesAmongTens_64 : decode cX5_casesAmongTens 64 = .ok (.isub, 1) := by decide +kernel
theorem dX5_casesAmongTens_65 : decode cX5_casesAmongTens 65 = .ok (.invokestatic 62, 3) := by decide +kernel
theorem dX5_casesAmongTens_68 : decode cX5_casesAmongTens 68 = .ok (.lmul, 1) := by decide +kernel
theorem dX5_casesAmongTens_69 : decode cX5_casesAmongTens 69 = .ok (.ladd, 1) := by decide +kernel
theorem dX5_casesAmongTens_70 : decode cX5_casesAmongTens 70 = .ok (.lstore_n 3, 1) := by decide +kernel
theorem dX5_casesAmongTens_71 : decode cX5_casesAmongTens 71 = .ok (.iinc 5 1, 3) := by decide +kernel
theorem dX5_casesAmongTens_74 : decode cX5_casesAmongTens 74 = .ok (.goto (-69), 3) := by decide +kernel
theorem dX5_casesAmongTens_77 : decode cX5_casesAmongTens 77 = .ok (.lload_n 3, 1) := by decide +kernel
theorem dX5_casesAmongTens_78 : decode cX5_casesAmongTens 78 = .ok (.lreturn, 1) := by decide +kernel
theorem dX5_longestOf_0 : decode cX5_longestOf 0 = .ok (.iconst 1, 1) := by decide +kernel
theorem dX5_longestOf_1 : decode cX5_longestOf 1 = .ok (.iload_n 1, 1) := by decide +kernel
theorem dX5_longestOf_2 : decode cX5_longestOf 2 = .ok (.ishl, 1) := by decide +kernel
theorem dX5_longestOf_3 : decode cX5_longestOf 3 = .ok (.istore_n 3, 1) := by decide +kernel
theorem dX5_longestOf_4 : decode cX5_longestOf 4 = .ok (.aload_n 2, 1) := by decide +kernel
theorem dX5_longestOf_5 : decode cX5_longestOf 5 = .ok (.getfield 21, 3) := by decide +kernel
theorem dX5_longestOf_8 : decode cX5_longestOf 8 = .ok (.iload_n 3, 1) := by decide +kernel
theorem dX5_longestOf_9 : decode cX5_longestOf 9 = .ok (.iconst (-1), 1) := by decide +kernel
theorem dX5_longestOf_10 : decode cX5_longestOf 10 = .ok (.ixor, 1) := by decide +kernel
theorem dX5_longestOf_11 : decode cX5_longestOf 11 = .ok (.iand, 1) := by decide +kernel
theorem dX5_longestOf_12 : decode cX5_longestOf 12 = .ok (.istore 4, 2) := by decide +kernel
theorem dX5_longestOf_14 : decode cX5_longestOf 14 = .ok (.iconst 0, 1) := by decide +kernel
theorem dX5_longestOf_15 : decode cX5_longestOf 15 = .ok (.istore 5, 2) := by decide +kernel
theorem dX5_longestOf_17 : decode cX5_longestOf 17 = .ok (.iconst 0, 1) := by decide +kernel
theorem dX5_longestOf_18 : decode cX5_longestOf 18 = .ok (.istore 6, 2) := by decide +kernel
theorem dX5_longestOf_20 : decode cX5_longestOf 20 = .ok (.iload 6, 2) := by decide +kernel
theorem dX5_longestOf_22 : decode cX5_longestOf 22 = .ok (.bipush 6, 2) := by decide +kernel
theorem dX5_longestOf_24 : decode cX5_longestOf 24 = .ok (.if_icmp .ge 26, 3) := by decide +kernel
theorem dX5_longestOf_27 : decode cX5_longestOf 27 = .ok (.iload 5, 2) := by decide +kernel
theorem dX5_longestOf_29 : decode cX5_longestOf 29 = .ok (.aload_n 0, 1) := by decide +kernel
theorem dX5_longestOf_30 : decode cX5_longestOf 30 = .ok (.iload 6, 2) := by decide +kernel
theorem dX5_longestOf_32 : decode cX5_longestOf 32 = .ok (.iload_n 3, 1) := by decide +kernel
theorem dX5_longestOf_33 : decode cX5_longestOf 33 = .ok (.iload 4, 2) := by decide +kernel
theorem dX5_longestOf_35 : decode cX5_longestOf 35 = .ok (.aload_n 2, 1) := by decide +kernel
theorem dX5_longestOf_36 : decode cX5_longestOf 36 = .ok (.invokevirtual 66, 3) := by decide +kernel
theorem dX5_longestOf_39 : decode cX5_longestOf 39 = .ok (.invokestatic 70, 3) := by decide +kernel
theorem dX5_longestOf_42 : decode cX5_longestOf 42 = .ok (.istore 5, 2) := by decide +kernel
theorem dX5_longestOf_44 : decode cX5_longestOf 44 = .ok (.iinc 6 1, 3) := by decide +kernel
theorem dX5_longestOf_47 : decode cX5_longestOf 47 = .ok (.goto (-27), 3) := by decide +kernel
theorem dX5_longestOf_50 : decode cX5_longestOf 50 = .ok (.iload 5, 2) := by decide +kernel
theorem dX5_longestOf_52 : decode cX5_longestOf 52 = .ok (.ireturn, 1) := by decide +kernel
theorem dX5_longestOn_0 : decode cX5_longestOn 0 = .ok (.iconst 0, 1) := by decide +kernel
theorem dX5_longestOn_1 : decode cX5_longestOn 1 = .ok (.istore 5, 2) := by decide +kernel
theorem dX5_longestOn_3 : decode cX5_longestOn 3 = .ok (.iconst 0, 1) := by decide +kernel
theorem dX5_longestOn_4 : decode cX5_longestOn 4 = .ok (.istore 6, 2) := by decide +kernel
theorem dX5_longestOn_6 : decode cX5_longestOn 6 = .ok (.iload 6, 2) := by decide +kernel
theorem dX5_longestOn_8 : decode cX5_longestOn 8 = .ok (.iload_n 3, 1) := by decide +kernel
theorem dX5_longestOn_9 : decode cX5_longestOn 9 = .ok (.if_icmp .gt 62, 3) := by decide +kernel
theorem dX5_longestOn_12 : decode cX5_longestOn 12 = .ok (.iload 6, 2) := by decide +kernel
theorem dX5_longestOn_14 : decode cX5_longestOn 14 = .ok (.iload_n 3, 1) := by decide +kernel
theorem dX5_longestOn_15 : decode cX5_longestOn 15 = .ok (.iconst (-1), 1) := by decide +kernel
theorem dX5_longestOn_16 : decode cX5_longestOn 16 = .ok (.ixor, 1) := by decide +kernel
theorem dX5_longestOn_17 : decode cX5_longestOn 17 = .ok (.iand, 1) := by decide +kernel
theorem dX5_longestOn_18 : decode cX5_longestOn 18 = .ok (.ifCond .ne 47, 3) := by decide +kernel
theorem dX5_longestOn_21 : decode cX5_longestOn 21 = .ok (.aload_n 0, 1) := by decide +kernel
theorem dX5_longestOn_22 : decode cX5_longestOn 22 = .ok (.iload_n 3, 1) := by decide +kernel
theorem dX5_longestOn_23 : decode cX5_longestOn 23 = .ok (.iload 6, 2) := by decide +kernel
theorem dX5_longestOn_25 : decode cX5_longestOn 25 = .ok (.ixor, 1) := by decide +kernel
theorem dX5_longestOn_26 : decode cX5_longestOn 26 = .ok (.bipush 63, 2) := by decide +kernel
theorem dX5_longestOn_28 : decode cX5_longestOn 28 = .ok (.iconst 1, 1) := by decide +kernel
theorem dX5_longestOn_29 : decode cX5_longestOn 29 = .ok (.iload_n 1, 1) := by decide +kernel
theorem dX5_longestOn_30 : decode cX5_longestOn 30 = .ok (.ishl, 1) := by decide +kernel
theorem dX5_longestOn_31 : decode cX5_longestOn 31 = .ok (.ixor, 1) := by decide +kernel
theorem dX5_longestOn_32 : decode cX5_longestOn 32 = .ok (.invokevirtual 46, 3) := by decide +kernel
theorem dX5_longestOn_35 : decode cX5_longestOn 35 = .ok (.ifCond .eq 30, 3) := by decide +kernel
theorem dX5_longestOn_38 : decode cX5_longestOn 38 = .ok (.iload 5, 2) := by decide +kernel
theorem dX5_longestOn_40 : decode cX5_longestOn 40 = .ok (.aload 4, 2) := by decide +kernel
theorem dX5_longestOn_42 : decode cX5_longestOn 42 = .ok (.getfield 76, 3) := by decide +kernel
theorem dX5_longestOn_45 : decode cX5_longestOn 45 = .ok (.iload_n 1, 1) := by decide +kernel
theorem dX5_longestOn_46 : decode cX5_longestOn 46 = .ok (.aaload, 1) := by decide +kernel
theorem dX5_longestOn_47 : decode cX5_longestOn 47 = .ok (.iload 6, 2) := by decide +kernel
theorem dX5_longestOn_49 : decode cX5_longestOn 49 = .ok (.iload_n 2, 1) := by decide +kernel
theorem dX5_longestOn_50 : decode cX5_longestOn 50 = .ok (.ior, 1) := by decide +kernel
theorem dX5_longestOn_51 : decode cX5_longestOn 51 = .ok (.iaload, 1) := by decide +kernel
theorem dX5_longestOn_52 : decode cX5_longestOn 52 = .ok (.aload 4, 2) := by decide +kernel
theorem dX5_longestOn_54 : decode cX5_longestOn 54 = .ok (.getfield 80, 3) := by decide +kernel
theorem dX5_longestOn_57 : decode cX5_longestOn 57 = .ok (.iload_n 2, 1) := by decide +kernel
theorem dX5_longestOn_58 : decode cX5_longestOn 58 = .ok (.iaload, 1) := by decide +kernel
theorem dX5_longestOn_59 : decode cX5_longestOn 59 = .ok (.iadd, 1) := by decide +kernel
theorem dX5_longestOn_60 : decode cX5_longestOn 60 = .ok (.invokestatic 70, 3) := by decide +kernel
theorem dX5_longestOn_63 : decode cX5_longestOn 63 = .ok (.istore 5, 2) := by decide +kernel
theorem dX5_longestOn_65 : decode cX5_longestOn 65 = .ok (.iinc 6 1, 3) := by decide +kernel
theorem dX5_longestOn_68 : decode cX5_longestOn 68 = .ok (.goto (-62), 3) := by decide +kernel
theorem dX5_longestOn_71 : decode cX5_longestOn 71 = .ok (.iload 5, 2) := by decide +kernel
theorem dX5_longestOn_73 : decode cX5_longestOn 73 = .ok (.ireturn, 1) := by decide +kernel
theorem dX5_leastRest_0 : decode cX5_leastRest 0 = .ok (.bipush 100, 2) := by decide +kernel
theorem dX5_leastRest_2 : decode cX5_leastRest 2 = .ok (.istore 5, 2) := by decide +kernel
theorem dX5_leastRest_4 : decode cX5_leastRest 4 = .ok (.iconst 1, 1) := by decide +kernel
theorem dX5_leastRest_5 : decode cX5_leastRest 5 = .ok (.istore 6, 2) := by decide +kernel
theorem dX5_leastRest_7 : decode cX5_leastRest 7 = .ok (.iload 6, 2) := by decide +kernel
theorem dX5_leastRest_9 : decode cX5_leastRest 9 = .ok (.aload_n 1, 1) := by decide +kernel
theorem dX5_leastRest_10 : decode cX5_leastRest 10 = .ok (.getfield 21, 3) := by decide +kernel
theorem dX5_leastRest_13 : decode cX5_leastRest 13 = .ok (.if_icmp .gt 68, 3) := by decide +kernel
theorem dX5_leastRest_16 : decode cX5_leastRest 16 = .ok (.iload 6, 2) := by decide +kernel
theorem dX5_leastRest_18 : decode cX5_leastRest 18 = .ok (.aload_n 1, 1) := by decide +kernel
theorem dX5_leastRest_19 : decode cX5_leastRest 19 = .ok (.getfield 21, 3) := by decide +kernel
theorem dX5_leastRest_22 : decode cX5_leastRest 22 = .ok (.iload_n 2, 1) := by decide +kernel
theorem dX5_leastRest_23 : decode cX5_leastRest 23 = .ok (.iand, 1) := by decide +kernel
theorem dX5_leastRest_24 : decode cX5_leastRest 24 = .ok (.iconst (-1), 1) := by decide +kernel
theorem dX5_leastRest_25 : decode cX5_leastRest 25 = .ok (.ixor, 1) := by decide +kernel
theorem dX5_leastRest_26 : decode cX5_leastRest 26 = .ok (.iand, 1) := by decide +kernel
theorem dX5_leastRest_27 : decode cX5_leastRest 27 = .ok (.ifCond .ne 48, 3) := by decide +kernel
theorem dX5_leastRest_30 : decode cX5_leastRest 30 = .ok (.aload_n 0, 1) := by decide +kernel
theorem dX5_leastRest_31 : decode cX5_leastRest 31 = .ok (.aload_n 1, 1) := by decide +kernel
theorem dX5_leastRest_32 : decode cX5_leastRest 32 = .ok (.getfield 21, 3) := by decide +kernel
theorem dX5_leastRest_35 : decode cX5_leastRest 35 = .ok (.iload 6, 2) := by decide +kernel
theorem dX5_leastRest_37 : decode cX5_leastRest 37 = .ok (.ixor, 1) := by decide +kernel
theorem dX5_leastRest_38 : decode cX5_leastRest 38 = .ok (.bipush 63, 2) := by decide +kernel
theorem dX5_leastRest_40 : decode cX5_leastRest 40 = .ok (.invokevirtual 46, 3) := by decide +kernel
theorem dX5_leastRest_43 : decode cX5_leastRest 43 = .ok (.ifCond .eq 32, 3) := by decide +kernel
theorem dX5_leastRest_46 : decode cX5_leastRest 46 = .ok (.iload_n 3, 1) := by decide +kernel
theorem dX5_leastRest_47 : decode cX5_leastRest 47 = .ok (.iload 4, 2) := by decide +kernel
theorem dX5_leastRest_49 : decode cX5_leastRest 49 = .ok (.iload 6, 2) := by decide +kernel
theorem dX5_leastRest_51 : decode cX5_leastRest 51 = .ok (.invokestatic 56, 3) := by decide +kernel
theorem dX5_leastRest_54 : decode cX5_leastRest 54 = .ok (.imul, 1) := by decide +kernel
theorem dX5_leastRest_55 : decode cX5_leastRest 55 = .ok (.iadd, 1) := by decide +kernel
theorem dX5_leastRest_56 : decode cX5_leastRest 56 = .ok (.aload_n 1, 1) := by decide +kernel
theorem dX5_leastRest_57 : decode cX5_leastRest 57 = .ok (.getfield 80, 3) := by decide +kernel
theorem dX5_leastRest_60 : decode cX5_leastRest 60 = .ok (.iload 6, 2) := by decide +kernel
theorem dX5_leastRest_62 : decode cX5_leastRest 62 = .ok (.iaload, 1) := by decide +kernel
theorem dX5_leastRest_63 : decode cX5_leastRest 63 = .ok (.iadd, 1) := by decide +kernel
theorem dX5_leastRest_64 : decode cX5_leastRest 64 = .ok (.istore 7, 2) := by decide +kernel
theorem dX5_leastRest_66 : decode cX5_leastRest 66 = .ok (.iload 5, 2) := by decide +kernel
theorem dX5_leastRest_68 : decode cX5_leastRest 68 = .ok (.iload 7, 2) := by decide +kernel
theorem dX5_leastRest_70 : decode cX5_leastRest 70 = .ok (.invokestatic 83, 3) := by decide +kernel
theorem dX5_leastRest_73 : decode cX5_leastRest 73 = .ok (.istore 5, 2) := by decide +kernel
theorem dX5_leastRest_75 : decode cX5_leastRest 75 = .ok (.iinc 6 1, 3) := by decide +kernel
theorem dX5_leastRest_78 : decode cX5_leastRest 78 = .ok (.goto (-71), 3) := by decide +kernel
theorem dX5_leastRest_81 : decode cX5_leastRest 81 = .ok (.iload 5, 2) := by decide +kernel
theorem dX5_leastRest_83 : decode cX5_leastRest 83 = .ok (.ireturn, 1) := by decide +kernel
theorem dX6_init_0 : decode cX6_init 0 = .ok (.aload_n 0, 1) := by decide +kernel
theorem dX6_init_1 : decode cX6_init 1 = .ok (.invokespecial 3, 3) := by decide +kernel
theorem dX6_init_4 : decode cX6_init 4 = .ok (.aload_n 0, 1) := by decide +kernel
theorem dX6_init_5 : decode cX6_init 5 = .ok (.bipush 6, 2) := by decide +kernel
theorem dX6_init_7 : decode cX6_init 7 = .ok (.newarray .int, 2) := by decide +kernel
theorem dX6_init_9 : decode cX6_init 9 = .ok (.putfield 9, 3) := by decide +kernel
theorem dX6_init_12 : decode cX6_init 12 = .ok (.aload_n 0, 1) := by decide +kernel
theorem dX6_init_13 : decode cX6_init 13 = .ok (.bipush 6, 2) := by decide +kernel
theorem dX6_init_15 : decode cX6_init 15 = .ok (.newarray .int, 2) := by decide +kernel
theorem dX6_init_17 : decode cX6_init 17 = .ok (.putfield 15, 3) := by decide +kernel
theorem dX6_init_20 : decode cX6_init 20 = .ok (.aload_n 0, 1) := by decide +kernel
theorem dX6_init_21 : decode cX6_init 21 = .ok (.bipush 6, 2) := by decide +kernel
theorem dX6_init_23 : decode cX6_init 23 = .ok (.newarray .int, 2) := by decide +kernel
theorem dX6_init_25 : decode cX6_init 25 = .ok (.putfield 18, 3) := by decide +kernel
theorem dX6_init_28 : decode cX6_init 28 = .ok (.aload_n 0, 1) := by decide +kernel
theorem dX6_init_29 : decode cX6_init 29 = .ok (.bipush 6, 2) := by decide +kernel
theorem dX6_init_31 : decode cX6_init 31 = .ok (.newarray .int, 2) := by decide +kernel
theorem dX6_init_33 : decode cX6_init 33 = .ok (.putfield 21, 3) := by decide +kernel
theorem dX6_init_36 : decode cX6_init 36 = .ok (.aload_n 0, 1) := by decide +kernel
theorem dX6_init_37 : decode cX6_init 37 = .ok (.bipush 6, 2) := by decide +kernel
theorem dX6_init_39 : decode cX6_init 39 = .ok (.newarray .int, 2) := by decide +kernel
theorem dX6_init_41 : decode cX6_init 41 = .ok (.putfield 24, 3) := by decide +kernel
theorem dX6_init_44 : decode cX6_init 44 = .ok (.aload_n 0, 1) := by decide +kernel
theorem dX6_init_45 : decode cX6_init 45 = .ok (.bipush 8, 2) := by decide +kernel
theorem dX6_init_47 : decode cX6_init 47 = .ok (.newarray .int, 2) := by decide +kernel
theorem dX6_init_49 : decode cX6_init 49 = .ok (.putfield 27, 3) := by decide +kernel
theorem dX6_init_52 : decode cX6_init 52 = .ok (.aload_n 0, 1) := by decide +kernel
theorem dX6_init_53 : decode cX6_init 53 = .ok (.sipush 256, 3) := by decide +kernel
theorem dX6_init_56 : decode cX6_init 56 = .ok (.newarray .int, 2) := by decide +kernel
theorem dX6_init_58 : decode cX6_init 58 = .ok (.putfield 30, 3) := by decide +kernel
theorem dX6_init_61 : decode cX6_init 61 = .ok (.aload_n 0, 1) := by decide +kernel
theorem dX6_init_62 : decode cX6_init 62 = .ok (.bipush 6, 2) := by decide +kernel
theorem dX6_init_64 : decode cX6_init 64 = .ok (.sipush 256, 3) := by decide +kernel
theorem dX6_init_67 : decode cX6_init 67 = .ok (.multianewarray 33 2, 4) := by decide +kernel
theorem dX6_init_71 : decode cX6_init 71 = .ok (.putfield 35, 3) := by decide +kernel
theorem dX6_init_74 : decode cX6_init 74 = .ok (.aload_n 0, 1) := by decide +kernel
theorem dX6_init_75 : decode cX6_init 75 = .ok (.bipush 6, 2) := by decide +kernel
theorem dX6_init_77 : decode cX6_init 77 = .ok (.newarray .int, 2) := by decide +kernel
theorem dX6_init_79 : decode cX6_init 79 = .ok (.putfield 38, 3) := by decide +kernel
theorem dX6_init_82 : decode cX6_init 82 = .ok (.return_, 1) := by decide +kernel
theorem dX6_lookAt_0 : decode cX6_lookAt 0 = .ok (.aload_n 0, 1) := by decide +kernel
theorem dX6_lookAt_1 : decode cX6_lookAt 1 = .ok (.aload_n 1, 1) := by decide +kernel
theorem dX6_lookAt_2 : decode cX6_lookAt 2 = .ok (.invokevirtual 41, 3) := by decide +kernel
theorem dX6_lookAt_5 : decode cX6_lookAt 5 = .ok (.putfield 47, 3) := by decide +kernel
theorem dX6_lookAt_8 : decode cX6_lookAt 8 = .ok (.aload_n 0, 1) := by decide +kernel
theorem dX6_lookAt_9 : decode cX6_lookAt 9 = .ok (.aload_n 1, 1) := by decide +kernel
theorem dX6_lookAt_10 : decode cX6_lookAt 10 = .ok (.invokevirtual 51, 3) := by decide +kernel
theorem dX6_lookAt_13 : decode cX6_lookAt 13 = .ok (.putfield 54, 3) := by decide +kernel
theorem dX6_lookAt_16 : decode cX6_lookAt 16 = .ok (.iconst 0, 1) := by decide +kernel
theorem dX6_lookAt_17 : decode cX6_lookAt 17 = .ok (.istore_n 2, 1) := by decide +kernel
theorem dX6_lookAt_18 : decode cX6_lookAt 18 = .ok (.iload_n 2, 1) := by decide +kernel
theorem dX6_lookAt_19 : decode cX6_lookAt 19 = .ok (.bipush 6, 2) := by decide +kernel
theorem dX6_lookAt_21 : decode cX6_lookAt 21 = .ok (.if_icmp .ge 15, 3) := by decide +kernel
theorem dX6_lookAt_24 : decode cX6_lookAt 24 = .ok (.aload_n 0, 1) := by decide +kernel
theorem dX6_lookAt_25 : decode cX6_lookAt 25 = .ok (.aload_n 1, 1) := by decide +kernel
theorem dX6_lookAt_26 : decode cX6_lookAt 26 = .ok (.iload_n 2, 1) := by decide +kernel
theorem dX6_lookAt_27 : decode cX6_lookAt 27 = .ok (.invokevirtual 57, 3) := by decide +kernel
theorem dX6_lookAt_30 : decode cX6_lookAt 30 = .ok (.iinc 2 1, 3) := by decide +kernel
theorem dX6_lookAt_33 : decode cX6_lookAt 33 = .ok (.goto (-15), 3) := by decide +kernel
theorem dX6_lookAt_36 : decode cX6_lookAt 36 = .ok (.iconst 0, 1) := by decide +kernel
theorem dX6_lookAt_37 : decode cX6_lookAt 37 = .ok (.istore_n 2, 1) := by decide +kernel
theorem dX6_lookAt_38 : decode cX6_lookAt 38 = .ok (.iload_n 2, 1) := by decide +kernel
theorem dX6_lookAt_39 : decode cX6_lookAt 39 = .ok (.bipush 8, 2) := by decide +kernel
theorem dX6_lookAt_41 : decode cX6_lookAt 41 = .ok (.if_icmp .ge 33, 3) := by decide +kernel
theorem dX6_lookAt_44 : decode cX6_lookAt 44 = .ok (.aload_n 0, 1) := by decide +kernel
theorem dX6_lookAt_45 : decode cX6_lookAt 45 = .ok (.getfield 27, 3) := by decide +kernel
theorem dX6_lookAt_48 : decode cX6_lookAt 48 = .ok (.iload_n 2, 1) := by decide +kernel
theorem dX6_lookAt_49 : decode cX6_lookAt 49 = .ok (.aload_n 0, 1) := by decide +kernel
theorem dX6_lookAt_50 : decode cX6_lookAt 50 = .ok (.iload_n 2, 1) := by decide +kernel
theorem dX6_lookAt_51 : decode cX6_lookAt 51 = .ok (.invokevirtual 61, 3) := by decide +kernel
theorem dX6_lookAt_54 : decode cX6_lookAt 54 = .ok (.ifCond .eq 12, 3) := by decide +kernel
theorem dX6_lookAt_57 : decode cX6_lookAt 57 = .ok (.aload_n 1, 1) := by decide +kernel
theorem dX6_lookAt_58 : decode cX6_lookAt 58 = .ok (.getfield 65, 3) := by decide +kernel
theorem dX6_lookAt_61 : decode cX6_lookAt 61 = .ok (.iload_n 2, 1) := by decide +kernel
theorem dX6_lookAt_62 : decode cX6_lookAt 62 = .ok (.iaload, 1) := by decide +kernel
theorem dX6_lookAt_63 : decode cX6_lookAt 63 = .ok (.goto 4, 3) := by decide +kernel
theorem dX6_lookAt_66 : decode cX6_lookAt 66 = .ok (.iconst 0, 1) := by decide +kernel
theorem dX6_lookAt_67 : decode cX6_lookAt 67 = .ok (.iastore, 1) := by decide +kernel
theorem dX6_lookAt_68 : decode cX6_lookAt 68 = .ok (.iinc 2 1, 3) := by decide +kernel
theorem dX6_lookAt_71 : decode cX6_lookAt 71 = .ok (.goto (-33), 3) := by decide +kernel
theorem dX6_lookAt_74 : decode cX6_lookAt 74 = .ok (.aload_n 0, 1) := by decide +kernel
theorem dX6_lookAt_75 : decode cX6_lookAt 75 = .ok (.invokevirtual 66, 3) := by decide +kernel
theorem dX6_lookAt_78 : decode cX6_lookAt 78 = .ok (.return_, 1) := by decide +kernel
theorem dX6_lookAtCan_0 : decode cX6_lookAtCan 0 = .ok (.aload_n 0, 1) := by decide +kernel
theorem dX6_lookAtCan_1 : decode cX6_lookAtCan 1 = .ok (.getfield 24, 3) := by decide +kernel
theorem dX6_lookAtCan_4 : decode cX6_lookAtCan 4 = .ok (.iload_n 2, 1) := by decide +kernel
theorem dX6_lookAtCan_5 : decode cX6_lookAtCan 5 = .ok (.iconst 0, 1) := by decide +kernel
theorem dX6_lookAtCan_6 : decode cX6_lookAtCan 6 = .ok (.iastore, 1) := by decide +kernel
theorem dX6_lookAtCan_7 : decode cX6_lookAtCan 7 = .ok (.aload_n 0, 1) := by decide +kernel
theorem dX6_lookAtCan_8 : decode cX6_lookAtCan 8 = .ok (.iload_n 2, 1) := by decide +kernel
theorem dX6_lookAtCan_9 : decode cX6_lookAtCan 9 = .ok (.invokevirtual 69, 3) := by decide +kernel
theorem dX6_lookAtCan_12 : decode cX6_lookAtCan 12 = .ok (.ifCond .eq 108, 3) := by decide +kernel
theorem dX6_lookAtCan_15 : decode cX6_lookAtCan 15 = .ok (.aload_n 1, 1) := by decide +kernel
theorem dX6_lookAtCan_16 : decode cX6_lookAtCan 16 = .ok (.getfield 72, 3) := by decide +kernel
theorem dX6_lookAtCan_19 : decode cX6_lookAtCan 19 = .ok (.iload_n 2, 1) := by decide +kernel
theorem dX6_lookAtCan_20 : decode cX6_lookAtCan 20 = .ok (.iaload, 1) := by decide +kernel
theorem dX6_lookAtCan_21 : decode cX6_lookAtCan 21 = .ok (.istore_n 3, 1) := by decide +kernel
theorem dX6_lookAtCan_22 : decode cX6_lookAtCan 22 = .ok (.iload_n 3, 1) := by decide +kernel
theorem dX6_lookAtCan_23 : decode cX6_lookAtCan 23 = .ok (.aload_n 1, 1) := by decide +kernel
theorem dX6_lookAtCan_24 : decode cX6_lookAtCan 24 = .ok (.getfield 75, 3) := by decide +kernel
theorem dX6_lookAtCan_27 : decode cX6_lookAtCan 27 = .ok (.iconst 1, 1) := by decide +kernel
theorem dX6_lookAtCan_28 : decode cX6_lookAtCan 28 = .ok (.iaload, 1) := by decide +kernel
theorem dX6_lookAtCan_29 : decode cX6_lookAtCan 29 = .ok (.invokestatic 78, 3) := by decide +kernel
theorem dX6_lookAtCan_32 : decode cX6_lookAtCan 32 = .ok (.istore 4, 2) := by decide +kernel
theorem dX6_lookAtCan_34 : decode cX6_lookAtCan 34 = .ok (.aload_n 0, 1) := by decide +kernel
theorem dX6_lookAtCan_35 : decode cX6_lookAtCan 35 = .ok (.getfield 9, 3) := by decide +kernel
theorem dX6_lookAtCan_38 : decode cX6_lookAtCan 38 = .ok (.iload_n 2, 1) := by decide +kernel
theorem dX6_lookAtCan_39 : decode cX6_lookAtCan 39 = .ok (.aload_n 1, 1) := by decide +kernel
theorem dX6_lookAtCan_40 : decode cX6_lookAtCan 40 = .ok (.getfield 84, 3) := by decide +kernel
theorem dX6_lookAtCan_43 : decode cX6_lookAtCan 43 = .ok (.iload_n 2, 1) := by decide +kernel
theorem dX6_lookAtCan_44 : decode cX6_lookAtCan 44 = .ok (.iaload, 1) := by decide +kernel
theorem dX6_lookAtCan_45 : decode cX6_lookAtCan 45 = .ok (.iastore, 1) := by decide +kernel
theorem dX6_lookAtCan_46 : decode cX6_lookAtCan 46 = .ok (.aload_n 0, 1) := by decide +kernel
theorem dX6_lookAtCan_47 : decode cX6_lookAtCan 47 = .ok (.getfield 15, 3) := by decide +kernel
theorem dX6_lookAtCan_50 : decode cX6_lookAtCan 50 = .ok (.iload_n 2, 1) := by decide +kernel
theorem dX6_lookAtCan_51 : decode cX6_lookAtCan 51 = .ok (.iload_n 2, 1) := by decide +kernel
theorem dX6_lookAtCan_52 : decode cX6_lookAtCan 52 = .ok (.aload_n 1, 1) := by decide +kernel
theorem dX6_lookAtCan_53 : decode cX6_lookAtCan 53 = .ok (.getfield 87, 3) := by decide +kernel
theorem dX6_lookAtCan_56 : decode cX6_lookAtCan 56 = .ok (.if_icmp .ne 7, 3) := by decide +kernel
theorem dX6_lookAtCan_59 : decode cX6_lookAtCan 59 = .ok (.iconst 0, 1) := by decide +kernel
theorem dX6_lookAtCan_60 : decode cX6_lookAtCan 60 = .ok (.goto 13, 3) := by decide +kernel
theorem dX6_lookAtCan_63 : decode cX6_lookAtCan 63 = .ok (.iload_n 3, 1) := by decide +kernel
theorem dX6_lookAtCan_64 : decode cX6_lookAtCan 64 = .ok (.aload_n 1, 1) := by decide +kernel
theorem dX6_lookAtCan_65 : decode cX6_lookAtCan 65 = .ok (.getfield 75, 3) := by decide +kernel
theorem dX6_lookAtCan_68 : decode cX6_lookAtCan 68 = .ok (.iconst 0, 1) := by decide +kernel
theorem dX6_lookAtCan_69 : decode cX6_lookAtCan 69 = .ok (.iaload, 1) := by decide +kernel
theorem dX6_lookAtCan_70 : decode cX6_lookAtCan 70 = .ok (.invokestatic 90, 3) := by decide +kernel
theorem dX6_lookAtCan_73 : decode cX6_lookAtCan 73 = .ok (.iastore, 1) := by decide +kernel
theorem dX6_lookAtCan_74 : decode cX6_lookAtCan 74 = .ok (.aload_n 0, 1) := by decide +kernel
theorem dX6_lookAtCan_75 : decode cX6_lookAtCan 75 = .ok (.getfield 18, 3) := by decide +kernel
theorem dX6_lookAtCan_78 : decode cX6_lookAtCan 78 = .ok (.iload_n 2, 1) := by decide +kernel
theorem dX6_lookAtCan_79 : decode cX6_lookAtCan 79 = .ok (.iload_n 3, 1) := by decide +kernel
theorem dX6_lookAtCan_80 : decode cX6_lookAtCan 80 = .ok (.invokestatic 93, 3) := by decide +kernel
theorem dX6_lookAtCan_83 : decode cX6_lookAtCan 83 = .ok (.iastore, 1) := by decide +kernel
theorem dX6_lookAtCan_84 : decode cX6_lookAtCan 84 = .ok (.aload_n 0, 1) := by decide +kernel
theorem dX6_lookAtCan_85 : decode cX6_lookAtCan 85 = .ok (.getfield 21, 3) := by decide +kernel
theorem dX6_lookAtCan_88 : decode cX6_lookAtCan 88 = .ok (.iload_n 2, 1) := by decide +kernel
theorem dX6_lookAtCan_89 : decode cX6_lookAtCan 89 = .ok (.iload 4, 2) := by decide +kernel
theorem dX6_lookAtCan_91 : decode cX6_lookAtCan 91 = .ok (.ldc 97, 2) := by decide +kernel
theorem dX6_lookAtCan_93 : decode cX6_lookAtCan 93 = .ok (.if_icmp .ne 8, 3) := by decide +kernel
theorem dX6_lookAtCan_96 : decode cX6_lookAtCan 96 = .ok (.bipush 100, 2) := by decide +kernel
theorem dX6_lookAtCan_98 : decode cX6_lookAtCan 98 = .ok (.goto 5, 3) := by decide +kernel
theorem dX6_lookAtCan_101 : decode cX6_lookAtCan 101 = .ok (.iload 4, 2) := by decide +kernel
theorem dX6_lookAtCan_103 : decode cX6_lookAtCan 103 = .ok (.iastore, 1) := by decide +kernel
theorem dX6_lookAtCan_104 : decode cX6_lookAtCan 104 = .ok (.aload_n 0, 1) := by decide +kernel
theorem dX6_lookAtCan_105 : decode cX6_lookAtCan 105 = .ok (.getfield 24, 3) := by decide +kernel
theorem dX6_lookAtCan_108 : decode cX6_lookAtCan 108 = .ok (.iload_n 2, 1) := by decide +kernel
theorem dX6_lookAtCan_109 : decode cX6_lookAtCan 109 = .ok (.aload_n 0, 1) := by decide +kernel
theorem dX6_lookAtCan_110 : decode cX6_lookAtCan 110 = .ok (.getfield 54, 3) := by decide +kernel
theorem dX6_lookAtCan_113 : decode cX6_lookAtCan 113 = .ok (.aload_n 1, 1) := by decide +kernel
theorem dX6_lookAtCan_114 : decode cX6_lookAtCan 114 = .ok (.iload_n 3, 1) := by decide +kernel
theorem dX6_lookAtCan_115 : decode cX6_lookAtCan 115 = .ok (.invokevirtual 98, 3) := by decide +kernel
theorem dX6_lookAtCan_118 : decode cX6_lookAtCan 118 = .ok (.iand, 1) := by decide +kernel
theorem dX6_lookAtCan_119 : decode cX6_lookAtCan 119 = .ok (.iastore, 1) := by decide +kernel
theorem dX6_lookAtCan_120 : decode cX6_lookAtCan 120 = .ok (.return_, 1) := by decide +kernel
theorem dX6_drawLength_0 : decode cX6_drawLength 0 = .ok (.aload_n 0, 1) := by decide +kernel
theorem dX6_drawLength_1 : decode cX6_drawLength 1 = .ok (.getfield 54, 3) := by decide +kernel
theorem dX6_drawLength_4 : decode cX6_drawLength 4 = .ok (.invokestatic 101, 3) := by decide +kernel
theorem dX6_drawLength_7 : decode cX6_drawLength 7 = .ok (.istore_n 3, 1) := by decide +kernel
theorem dX6_drawLength_8 : decode cX6_drawLength 8 = .ok (.iload_n 3, 1) := by decide +kernel
theorem dX6_drawLength_9 : decode cX6_drawLength 9 = .ok (.ifCond .eq 9, 3) := by decide +kernel
theorem dX6_drawLength_12 : decode cX6_drawLength 12 = .ok (.lload_n 1, 1) := by decide +kernel
theorem dX6_drawLength_13 : decode cX6_drawLength 13 = .ok (.lconst 0, 1) := by decide +kernel
theorem dX6_drawLength_14 : decode cX6_drawLength 14 = .ok (.lcmp, 1) := by decide +kernel
theorem dX6_drawLength_15 : decode cX6_drawLength 15 = .ok (.ifCond .ge 4, 3) := by decide +kernel
theorem dX6_drawLength_18 : decode cX6_drawLength 18 = .ok (.return_, 1) := by decide +kernel
theorem dX6_drawLength_19 : decode cX6_drawLength 19 = .ok (.lload_n 1, 1) := by decide +kernel
theorem dX6_drawLength_20 : decode cX6_drawLength 20 = .ok (.iload_n 3, 1) := by decide +kernel
theorem dX6_drawLength_21 : decode cX6_drawLength 21 = .ok (.i2l, 1) := by decide +kernel
theorem dX6_drawLength_22 : decode cX6_drawLength 22 = .ok (.lrem, 1) := by decide +kernel
theorem dX6_drawLength_23 : decode cX6_drawLength 23 = .ok (.l2i, 1) := by decide +kernel
theorem dX6_drawLength_24 : decode cX6_drawLength 24 = .ok (.istore 4, 2) := by decide +kernel
theorem dX6_drawLength_26 : decode cX6_drawLength 26 = .ok (.iconst 0, 1) := by decide +kernel
theorem dX6_drawLength_27 : decode cX6_drawLength 27 = .ok (.istore 5, 2) := by decide +kernel
theorem dX6_drawLength_29 : decode cX6_drawLength 29 = .ok (.iload 5, 2) := by decide +kernel
theorem dX6_drawLength_31 : decode cX6_drawLength 31 = .ok (.bipush 8, 2) := by decide +kernel
theorem dX6_drawLength_33 : decode cX6_drawLength 33 = .ok (.if_icmp .ge 45, 3) := by decide +kernel
theorem dX6_drawLength_36 : decode cX6_drawLength 36 = .ok (.aload_n 0, 1) := by decide +kernel
theorem dX6_drawLength_37 : decode cX6_drawLength 37 = .ok (.iload 5, 2) := by decide +kernel
theorem dX6_drawLength_39 : decode cX6_drawLength 39 = .ok (.invokevirtual 61, 3) := by decide +kernel
theorem dX6_drawLength_42 : decode cX6_drawLength 42 = .ok (.ifCond .eq 30, 3) := by decide +kernel
theorem dX6_drawLength_45 : decode cX6_drawLength 45 = .ok (.iload 4, 2) := by decide +kernel
theorem dX6_drawLength_47 : decode cX6_drawLength 47 = .ok (.ifCond .ne 22, 3) := by decide +kernel
theorem dX6_drawLength_50 : decode cX6_drawLength 50 = .ok (.aload_n 0, 1) := by decide +kernel
theorem dX6_drawLength_51 : decode cX6_drawLength 51 = .ok (.getfield 27, 3) := by decide +kernel
theorem dX6_drawLength_54 : decode cX6_drawLength 54 = .ok (.iload 5, 2) := by decide +kernel
theorem dX6_drawLength_56 : decode cX6_drawLength 56 = .ok (.iconst 1, 1) := by decide +kernel
theorem dX6_drawLength_57 : decode cX6_drawLength 57 = .ok (.lload_n 1, 1) := by decide +kernel
theorem dX6_drawLength_58 : decode cX6_drawLength 58 = .ok (.ldc2_w 106, 3) := by decide +kernel
theorem dX6_drawLength_61 : decode cX6_drawLength 61 = .ok (.ldiv, 1) := by decide +kernel
theorem dX6_drawLength_62 : decode cX6_drawLength 62 = .ok (.ldc2_w 108, 3) := by decide +kernel
theorem dX6_drawLength_65 : decode cX6_drawLength 65 = .ok (.lrem, 1) := by decide +kernel
theorem dX6_drawLength_66 : decode cX6_drawLength 66 = .ok (.l2i, 1) := by decide +kernel
theorem dX6_drawLength_67 : decode cX6_drawLength 67 = .ok (.iadd, 1) := by decide +kernel
theorem dX6_drawLength_68 : decode cX6_drawLength 68 = .ok (.iastore, 1) := by decide +kernel
theorem dX6_drawLength_69 : decode cX6_drawLength 69 = .ok (.iinc 4 (-1), 3) := by decide +kernel
theorem dX6_drawLength_72 : decode cX6_drawLength 72 = .ok (.iinc 5 1, 3) := by decide +kernel
theorem dX6_drawLength_75 : decode cX6_drawLength 75 = .ok (.goto (-46), 3) := by decide +kernel
theorem dX6_drawLength_78 : decode cX6_drawLength 78 = .ok (.aload_n 0, 1) := by decide +kernel
theorem dX6_drawLength_79 : decode cX6_drawLength 79 = .ok (.invokevirtual 66, 3) := by decide +kernel
theorem dX6_drawLength_82 : decode cX6_drawLength 82 = .ok (.return_, 1) := by decide +kernel
theorem dX6_measure_0 : decode cX6_measure 0 = .ok (.aload_n 0, 1) := by decide +kernel
theorem dX6_measure_1 : decode cX6_measure 1 = .ok (.getfield 30, 3) := by decide +kernel
theorem dX6_measure_4 : decode cX6_measure 4 = .ok (.iconst 0, 1) := by decide +kernel
theorem dX6_measure_5 : decode cX6_measure 5 = .ok (.iconst 0, 1) := by decide +kernel
theorem dX6_measure_6 : decode cX6_measure 6 = .ok (.iastore, 1) := by decide +kernel
theorem dX6_measure_7 : decode cX6_measure 7 = .ok (.iconst 0, 1) := by decide +kernel
theorem dX6_measure_8 : decode cX6_measure 8 = .ok (.istore_n 1, 1) := by decide +kernel
theorem dX6_measure_9 : decode cX6_measure 9 = .ok (.iload_n 1, 1) := by decide +kernel
theorem dX6_measure_10 : decode cX6_measure 10 = .ok (.bipush 8, 2) := by decide +kernel
theorem dX6_measure_12 : decode cX6_measure 12 = .ok (.if_icmp .ge 47, 3) := by decide +kernel
theorem dX6_measure_15 : decode cX6_measure 15 = .ok (.iconst 1, 1) := by decide +kernel
theorem dX6_measure_16 : decode cX6_measure 16 = .ok (.iload_n 1, 1) := by decide +kernel
theorem dX6_measure_17 : decode cX6_measure 17 = .ok (.ishl, 1) := by decide +kernel
theorem dX6_measure_18 : decode cX6_measure 18 = .ok (.istore_n 2, 1) := by decide +kernel
theorem dX6_measure_19 : decode cX6_measure 19 = .ok (.iconst 0, 1) := by decide +kernel
theorem dX6_measure_20 : decode cX6_measure 20 = .ok (.istore_n 3, 1) := by decide +kernel
theorem dX6_measure_21 : decode cX6_measure 21 = .ok (.iload_n 3, 1) := by decide +kernel
theorem dX6_measure_22 : decode cX6_measure 22 = .ok (.iload_n 2, 1) := by decide +kernel
theorem dX6_measure_23 : decode cX6_measure 23 = .ok (.if_icmp .ge 30, 3) := by decide +kernel
theorem dX6_measure_26 : decode cX6_measure 26 = .ok (.aload_n 0, 1) := by decide +kernel
theorem dX6_measure_27 : decode cX6_measure 27 = .ok (.getfield 30, 3) := by decide +kernel
theorem dX6_measure_30 : decode cX6_measure 30 = .ok (.iload_n 3, 1) := by decide +kernel
theorem dX6_measure_31 : decode cX6_measure 31 = .ok (.iload_n 2, 1) := by decide +kernel
theorem dX6_measure_32 : decode cX6_measure 32 = .ok (.ior, 1) := by decide +kernel
theorem dX6_measure_33 : decode cX6_measure 33 = .ok (.aload_n 0, 1) := by decide +kernel
theorem dX6_measure_34 : decode cX6_measure 34 = .ok (.getfield 30, 3) := by decide +kernel
theorem dX6_measure_37 : decode cX6_measure 37 = .ok (.iload_n 3, 1) := by decide +kernel
theorem dX6_measure_38 : decode cX6_measure 38 = .ok (.iaload, 1) := by decide +kernel
theorem dX6_measure_39 : decode cX6_measure 39 = .ok (.aload_n 0, 1) := by decide +kernel
theorem dX6_measure_40 : decode cX6_measure 40 = .ok (.getfield 27, 3) := by decide +kernel
theorem dX6_measure_43 : decode cX6_measure 43 = .ok (.iload_n 1, 1) := by decide +kernel
theorem dX6_measure_44 : decode cX6_measure 44 = .ok (.iaload, 1) := by decide +kernel
theorem dX6_measure_45 : decode cX6_measure 45 = .ok (.iadd, 1) := by decide +kernel
theorem dX6_measure_46 : decode cX6_measure 46 = .ok (.iastore, 1) := by decide +kernel
theorem dX6_measure_47 : decode cX6_measure 47 = .ok (.iinc 3 1, 3) := by decide +kernel
theorem dX6_measure_50 : decode cX6_measure 50 = .ok (.goto (-29), 3) := by decide +kernel
theorem dX6_measure_53 : decode cX6_measure 53 = .ok (.iinc 1 1, 3) := by decide +kernel
theorem dX6_measure_56 : decode cX6_measure 56 = .ok (.goto (-47), 3) := by decide +kernel
theorem dX6_measure_59 : decode cX6_measure 59 = .ok (.iconst 0, 1) := by decide +kernel
theorem dX6_measure_60 : decode cX6_measure 60 = .ok (.istore_n 1, 1) := by decide +kernel
theorem dX6_measure_61 : decode cX6_measure 61 = .ok (.iload_n 1, 1) := by decide +kernel
theorem dX6_measure_62 : decode cX6_measure 62 = .ok (.bipush 6, 2) := by decide +kernel
theorem dX6_measure_64 : decode cX6_measure 64 = .ok (.if_icmp .ge 25, 3) := by decide +kernel
theorem dX6_measure_67 : decode cX6_measure 67 = .ok (.aload_n 0, 1) := by decide +kernel
theorem dX6_measure_68 : decode cX6_measure 68 = .ok (.getfield 35, 3) := by decide +kernel
theorem dX6_measure_71 : decode cX6_measure 71 = .ok (.iload_n 1, 1) := by decide +kernel
theorem dX6_measure_72 : decode cX6_measure 72 = .ok (.aaload, 1) := by decide +kernel
theorem dX6_measure_73 : decode cX6_measure 73 = .ok (.ldc 97, 2) := by decide +kernel
theorem dX6_measure_75 : decode cX6_measure 75 = .ok (.invokestatic 110, 3) := by decide +kernel
theorem dX6_measure_78 : decode cX6_measure 78 = .ok (.aload_n 0, 1) := by decide +kernel
theorem dX6_measure_79 : decode cX6_measure 79 = .ok (.iload_n 1, 1) := by decide +kernel
theorem dX6_measure_80 : decode cX6_measure 80 = .ok (.invokevirtual 116, 3) := by decide +kernel
theorem dX6_measure_83 : decode cX6_measure 83 = .ok (.iinc 1 1, 3) := by decide +kernel
theorem dX6_measure_86 : decode cX6_measure 86 = .ok (.goto (-25), 3) := by decide +kernel
theorem dX6_measure_89 : decode cX6_measure 89 = .ok (.return_, 1) := by decide +kernel
theorem dX6_measureEnds_0 : decode cX6_measureEnds 0 = .ok (.aload_n 0, 1) := by decide +kernel
theorem dX6_measureEnds_1 : decode cX6_measureEnds 1 = .ok (.getfield 24, 3) := by decide +kernel
theorem dX6_measureEnds_4 : decode cX6_measureEnds 4 = .ok (.iload_n 1, 1) := by decide +kernel
theorem dX6_measureEnds_5 : decode cX6_measureEnds 5 = .ok (.iaload, 1) := by decide +kernel
theorem dX6_measureEnds_6 : decode cX6_measureEnds 6 = .ok (.istore_n 2, 1) := by decide +kernel
theorem dX6_measureEnds_7 : decode cX6_measureEnds 7 = .ok (.iload_n 2, 1) := by decide +kernel
theorem dX6_measureEnds_8 : decode cX6_measureEnds 8 = .ok (.istore_n 3, 1) := by decide +kernel
theorem dX6_measureEnds_9 : decode cX6_measureEnds 9 = .ok (.iload_n 3, 1) := by decide +kernel
theorem dX6_measureEnds_10 : decode cX6_measureEnds 10 = .ok (.ifCond .le 52, 3) := by decide +kernel
theorem dX6_measureEnds_13 : decode cX6_measureEnds 13 = .ok (.aload_n 0, 1) := by decide +kernel
theorem dX6_measureEnds_14 : decode cX6_measureEnds 14 = .ok (.getfield 35, 3) := by decide +kernel
theorem dX6_measureEnds_17 : decode cX6_measureEnds 17 = .ok (.iload_n 1, 1) := by decide +kernel
theorem dX6_measureEnds_18 : decode cX6_measureEnds 18 = .ok (.aaload, 1) := by decide +kernel
theorem dX6_measureEnds_19 : decode cX6_measureEnds 19 = .ok (.iload_n 3, 1) := by decide +kernel
theorem dX6_measureEnds_20 : decode cX6_measureEnds 20 = .ok (.aload_n 0, 1) := by decide +kernel
theorem dX6_measureEnds_21 : decode cX6_measureEnds 21 = .ok (.getfield 9, 3) := by decide +kernel
theorem dX6_measureEnds_24 : decode cX6_measureEnds 24 = .ok (.iload_n 1, 1) := by decide +kernel
theorem dX6_measureEnds_25 : decode cX6_measureEnds 25 = .ok (.iaload, 1) := by decide +kernel
theorem dX6_measureEnds_26 : decode cX6_measureEnds 26 = .ok (.aload_n 0, 1) := by decide +kernel
theorem dX6_measureEnds_27 : decode cX6_measureEnds 27 = .ok (.getfield 15, 3) := by decide +kernel
theorem dX6_measureEnds_30 : decode cX6_measureEnds 30 = .ok (.iload_n 1, 1) := by decide +kernel
theorem dX6_measureEnds_31 : decode cX6_measureEnds 31 = .ok (.iaload, 1) := by decide +kernel
theorem dX6_measureEnds_32 : decode cX6_measureEnds 32 = .ok (.isub, 1) := by decide +kernel
theorem dX6_measureEnds_33 : decode cX6_measureEnds 33 = .ok (.aload_n 0, 1) := by decide +kernel
theorem dX6_measureEnds_34 : decode cX6_measureEnds 34 = .ok (.getfield 18, 3) := by decide +kernel
theorem dX6_measureEnds_37 : decode cX6_measureEnds 37 = .ok (.iload_n 1, 1) := by decide +kernel
theorem dX6_measureEnds_38 : decode cX6_measureEnds 38 = .ok (.iaload, 1) := by decide +kernel
theorem dX6_measureEnds_39 : decode cX6_measureEnds 39 = .ok (.iload_n 3, 1) := by decide +kernel
theorem dX6_measureEnds_40 : decode cX6_measureEnds 40 = .ok (.invokestatic 101, 3) := by decide +kernel
theorem dX6_measureEnds_43 : decode cX6_measureEnds 43 = .ok (.imul, 1) := by decide +kernel
theorem dX6_measureEnds_44 : decode cX6_measureEnds 44 = .ok (.isub, 1) := by decide +kernel
theorem dX6_measureEnds_45 : decode cX6_measureEnds 45 = .ok (.aload_n 0, 1) := by decide +kernel
theorem dX6_measureEnds_46 : decode cX6_measureEnds 46 = .ok (.getfield 30, 3) := by decide +kernel
theorem dX6_measureEnds_49 : decode cX6_measureEnds 49 = .ok (.iload_n 3, 1) := by decide +kernel
theorem dX6_measureEnds_50 : decode cX6_measureEnds 50 = .ok (.iaload, 1) := by decide +kernel
theorem dX6_measureEnds_51 : decode cX6_measureEnds 51 = .ok (.isub, 1) := by decide +kernel
theorem dX6_measureEnds_52 : decode cX6_measureEnds 52 = .ok (.iastore, 1) := by decide +kernel
theorem dX6_measureEnds_53 : decode cX6_measureEnds 53 = .ok (.iload_n 3, 1) := by decide +kernel
theorem dX6_measureEnds_54 : decode cX6_measureEnds 54 = .ok (.iconst 1, 1) := by decide +kernel
theorem dX6_measureEnds_55 : decode cX6_measureEnds 55 = .ok (.isub, 1) := by decide +kernel
theorem dX6_measureEnds_56 : decode cX6_measureEnds 56 = .ok (.iload_n 2, 1) := by decide +kernel
theorem dX6_measureEnds_57 : decode cX6_measureEnds 57 = .ok (.iand, 1) := by decide +kernel
theorem dX6_measureEnds_58 : decode cX6_measureEnds 58 = .ok (.istore_n 3, 1) := by decide +kernel
theorem dX6_measureEnds_59 : decode cX6_measureEnds 59 = .ok (.goto (-50), 3) := by decide +kernel
theorem dX6_measureEnds_62 : decode cX6_measureEnds 62 = .ok (.return_, 1) := by decide +kernel
theorem dX6_has_0 : decode cX6_has 0 = .ok (.aload_n 0, 1) := by decide +kernel
theorem dX6_has_1 : decode cX6_has 1 = .ok (.getfield 47, 3) := by decide +kernel
theorem dX6_has_4 : decode cX6_has 4 = .ok (.iload_n 1, 1) := by decide +kernel
theorem dX6_has_5 : decode cX6_has 5 = .ok (.ishr, 1) := by decide +kernel
theorem dX6_has_6 : decode cX6_has 6 = .ok (.iconst 1, 1) := by decide +kernel
theorem dX6_has_7 : decode cX6_has 7 = .ok (.iand, 1) := by decide +kernel
theorem dX6_has_8 : decode cX6_has 8 = .ok (.iconst 1, 1) := by decide +kernel
theorem dX6_has_9 : decode cX6_has 9 = .ok (.if_icmp .ne 7, 3) := by decide +kernel
theorem dX6_has_12 : decode cX6_has 12 = .ok (.iconst 1, 1) := by decide +kernel
theorem dX6_has_13 : decode cX6_has 13 = .ok (.goto 4, 3) := by decide +kernel
theorem dX6_has_16 : decode cX6_has 16 = .ok (.iconst 0, 1) := by decide +kernel
theorem dX6_has_17 : decode cX6_has 17 = .ok (.ireturn, 1) := by decide +kernel
theorem dX6_isOpen_0 : decode cX6_isOpen 0 = .ok (.aload_n 0, 1) := by decide +kernel
theorem dX6_isOpen_1 : decode cX6_isOpen 1 = .ok (.getfield 54, 3) := by decide +kernel
theorem dX6_isOpen_4 : decode cX6_isOpen 4 = .ok (.iload_n 1, 1) := by decide +kernel
theorem dX6_isOpen_5 : decode cX6_isOpen 5 = .ok (.ishr, 1) := by decide +kernel
theorem dX6_isOpen_6 : decode cX6_isOpen 6 = .ok (.iconst 1, 1) := by decide +kernel
theorem dX6_isOpen_7 : decode cX6_isOpen 7 = .ok (.iand, 1) := by decide +kernel
theorem dX6_isOpen_8 : decode cX6_isOpen 8 = .ok (.iconst 1, 1) := by decide +kernel
theorem dX6_isOpen_9 : decode cX6_isOpen 9 = .ok (.if_icmp .ne 7, 3) := by decide +kernel
theorem dX6_isOpen_12 : decode cX6_isOpen 12 = .ok (.iconst 1, 1) := by decide +kernel
theorem dX6_isOpen_13 : decode cX6_isOpen 13 = .ok (.goto 4, 3) := by decide +kernel
theorem dX6_isOpen_16 : decode cX6_isOpen 16 = .ok (.iconst 0, 1) := by decide +kernel
theorem dX6_isOpen_17 : decode cX6_isOpen 17 = .ok (.ireturn, 1) := by decide +kernel
theorem dX6_holds_0 : decode cX6_holds 0 = .ok (.aload_n 0, 1) := by decide +kernel
theorem dX6_holds_1 : decode cX6_holds 1 = .ok (.getfield 35, 3) := by decide +kernel
theorem dX6_holds_4 : decode cX6_holds 4 = .ok (.iload_n 1, 1) := by decide +kernel
theorem dX6_holds_5 : decode cX6_holds 5 = .ok (.aaload, 1) := by decide +kernel
theorem dX6_holds_6 : decode cX6_holds 6 = .ok (.iload_n 2, 1) := by decide +kernel
theorem dX6_holds_7 : decode cX6_holds 7 = .ok (.iaload, 1) := by decide +kernel
theorem dX6_holds_8 : decode cX6_holds 8 = .ok (.ifCond .lt 7, 3) := by decide +kernel
theorem dX6_holds_11 : decode cX6_holds 11 = .ok (.iconst 1, 1) := by decide +kernel
theorem dX6_holds_12 : decode cX6_holds 12 = .ok (.goto 4, 3) := by decide +kernel
theorem dX6_holds_15 : decode cX6_holds 15 = .ok (.iconst 0, 1) := by decide +kernel
theorem dX6_holds_16 : decode cX6_holds 16 = .ok (.ireturn, 1) := by decide +kernel
theorem dX6_lossOf_0 : decode cX6_lossOf 0 = .ok (.aload_n 0, 1) := by decide +kernel
theorem dX6_lossOf_1 : decode cX6_lossOf 1 = .ok (.getfield 35, 3) := by decide +kernel
theorem dX6_lossOf_4 : decode cX6_lossOf 4 = .ok (.iload_n 1, 1) := by decide +kernel
theorem dX6_lossOf_5 : decode cX6_lossOf 5 = .ok (.aaload, 1) := by decide +kernel
theorem dX6_lossOf_6 : decode cX6_lossOf 6 = .ok (.iload_n 2, 1) := by decide +kernel
theorem dX6_lossOf_7 : decode cX6_lossOf 7 = .ok (.iaload, 1) := by decide +kernel
theorem dX6_lossOf_8 : decode cX6_lossOf 8 = .ok (.istore_n 3, 1) := by decide +kernel
theorem dX6_lossOf_9 : decode cX6_lossOf 9 = .ok (.aload_n 0, 1) := by decide +kernel
theorem dX6_lossOf_10 : decode cX6_lossOf 10 = .ok (.getfield 9, 3) := by decide +kernel
theorem dX6_lossOf_13 : decode cX6_lossOf 13 = .ok (.iload_n 1, 1) := by decide +kernel
theorem dX6_lossOf_14 : decode cX6_lossOf 14 = .ok (.iaload, 1) := by decide +kernel
theorem dX6_lossOf_15 : decode cX6_lossOf 15 = .ok (.aload_n 0, 1) := by decide +kernel
theorem dX6_lossOf_16 : decode cX6_lossOf 16 = .ok (.getfield 30, 3) := by decide +kernel
theorem dX6_lossOf_19 : decode cX6_lossOf 19 = .ok (.iload_n 2, 1) := by decide +kernel
theorem dX6_lossOf_20 : decode cX6_lossOf 20 = .ok (.iaload, 1) := by decide +kernel
theorem dX6_lossOf_21 : decode cX6_lossOf 21 = .ok (.isub, 1) := by decide +kernel
theorem dX6_lossOf_22 : decode cX6_lossOf 22 = .ok (.iload_n 3, 1) := by decide +kernel
theorem dX6_lossOf_23 : decode cX6_lossOf 23 = .ok (.aload_n 0, 1) := by decide +kernel
theorem dX6_lossOf_24 : decode cX6_lossOf 24 = .ok (.getfield 21, 3) := by decide +kernel
theorem dX6_lossOf_27 : decode cX6_lossOf 27 = .ok (.iload_n 1, 1) := by decide +kernel
theorem dX6_lossOf_28 : decode cX6_lossOf 28 = .ok (.iaload, 1) := by decide +kernel
theorem dX6_lossOf_29 : decode cX6_lossOf 29 = .ok (.if_icmp .lt 7, 3) := by decide +kernel
theorem dX6_lossOf_32 : decode cX6_lossOf 32 = .ok (.iload_n 3, 1) := by decide +kernel
theorem dX6_lossOf_33 : decode cX6_lossOf 33 = .ok (.goto 4, 3) := by decide +kernel
theorem dX6_lossOf_36 : decode cX6_lossOf 36 = .ok (.iconst 0, 1) := by decide +kernel
theorem dX6_lossOf_37 : decode cX6_lossOf 37 = .ok (.isub, 1) := by decide +kernel
theorem dX6_lossOf_38 : decode cX6_lossOf 38 = .ok (.ireturn, 1) := by decide +kernel
theorem dX6_losses_0 : decode cX6_losses 0 = .ok (.iconst 0, 1) := by decide +kernel
theorem dX6_losses_1 : decode cX6_losses 1 = .ok (.istore_n 1, 1) := by decide +kernel
theorem dX6_losses_2 : decode cX6_losses 2 = .ok (.iconst 0, 1) := by decide +kernel
theorem dX6_losses_3 : decode cX6_losses 3 = .ok (.istore_n 2, 1) := by decide +kernel
theorem dX6_losses_4 : decode cX6_losses 4 = .ok (.iload_n 2, 1) := by decide +kernel
theorem dX6_losses_5 : decode cX6_losses 5 = .ok (.bipush 6, 2) := by decide +kernel
theorem dX6_losses_7 : decode cX6_losses 7 = .ok (.if_icmp .ge 32, 3) := by decide +kernel
theorem dX6_losses_10 : decode cX6_losses 10 = .ok (.aload_n 0, 1) := by decide +kernel
theorem dX6_losses_11 : decode cX6_losses 11 = .ok (.getfield 38, 3) := by decide +kernel
theorem dX6_losses_14 : decode cX6_losses 14 = .ok (.iload_n 2, 1) := by decide +kernel
theorem dX6_losses_15 : decode cX6_losses 15 = .ok (.iaload, 1) := by decide +kernel
theorem dX6_losses_16 : decode cX6_losses 16 = .ok (.ifCond .eq 17, 3) := by decide +kernel
theorem dX6_losses_19 : decode cX6_losses 19 = .ok (.iload_n 1, 1) := by decide +kernel
theorem dX6_losses_20 : decode cX6_losses 20 = .ok (.aload_n 0, 1) := by decide +kernel
theorem dX6_losses_21 : decode cX6_losses 21 = .ok (.iload_n 2, 1) := by decide +kernel
theorem dX6_losses_22 : decode cX6_losses 22 = .ok (.aload_n 0, 1) := by decide +kernel
theorem dX6_losses_23 : decode cX6_losses 23 = .ok (.getfield 38, 3) := by decide +kernel
theorem dX6_losses_26 : decode cX6_losses 26 = .ok (.iload_n 2, 1) := by decide +kernel
theorem dX6_losses_27 : decode cX6_losses 27 = .ok (.iaload, 1) := by decide +kernel
theorem dX6_losses_28 : decode cX6_losses 28 = .ok (.invokevirtual 120, 3) := by decide +kernel
theorem dX6_losses_31 : decode cX6_losses 31 = .ok (.iadd, 1) := by decide +kernel
theorem dX6_losses_32 : decode cX6_losses 32 = .ok (.istore_n 1, 1) := by decide +kernel
theorem dX6_losses_33 : decode cX6_losses 33 = .ok (.iinc 2 1, 3) := by decide +kernel
theorem dX6_losses_36 : decode cX6_losses 36 = .ok (.goto (-32), 3) := by decide +kernel
theorem dX6_losses_39 : decode cX6_losses 39 = .ok (.iload_n 1, 1) := by decide +kernel
theorem dX6_losses_40 : decode cX6_losses 40 = .ok (.ireturn, 1) := by decide +kernel
theorem dX6_used_0 : decode cX6_used 0 = .ok (.iconst 0, 1) := by decide +kernel
theorem dX6_used_1 : decode cX6_used 1 = .ok (.istore_n 1, 1) := by decide +kernel
theorem dX6_used_2 : decode cX6_used 2 = .ok (.iconst 0, 1) := by decide +kernel
theorem dX6_used_3 : decode cX6_used 3 = .ok (.istore_n 2, 1) := by decide +kernel
theorem dX6_used_4 : decode cX6_used 4 = .ok (.iload_n 2, 1) := by decide +kernel
theorem dX6_used_5 : decode cX6_used 5 = .ok (.bipush 6, 2) := by decide +kernel
theorem dX6_used_7 : decode cX6_used 7 = .ok (.if_icmp .ge 21, 3) := by decide +kernel
theorem dX6_used_10 : decode cX6_used 10 = .ok (.aload_n 0, 1) := by decide +kernel
theorem dX6_used_11 : decode cX6_used 11 = .ok (.getfield 38, 3) := by decide +kernel
theorem dX6_used_14 : decode cX6_used 14 = .ok (.iload_n 2, 1) := by decide +kernel
theorem dX6_used_15 : decode cX6_used 15 = .ok (.iaload, 1) := by decide +kernel
theorem dX6_used_16 : decode cX6_used 16 = .ok (.ifCond .eq 6, 3) := by decide +kernel
theorem dX6_used_19 : decode cX6_used 19 = .ok (.iinc 1 1, 3) := by decide +kernel
theorem dX6_used_22 : decode cX6_used 22 = .ok (.iinc 2 1, 3) := by decide +kernel
theorem dX6_used_25 : decode cX6_used 25 = .ok (.goto (-21), 3) := by decide +kernel
theorem dX6_used_28 : decode cX6_used 28 = .ok (.iload_n 1, 1) := by decide +kernel
theorem dX6_used_29 : decode cX6_used 29 = .ok (.ireturn, 1) := by decide +kernel
theorem dX6_placeRising_0 : decode cX6_placeRising 0 = .ok (.aload_n 0, 1) := by decide +kernel
theorem dX6_placeRising_1 : decode cX6_placeRising 1 = .ok (.getfield 38, 3) := by decide +kernel
theorem dX6_placeRising_4 : decode cX6_placeRising 4 = .ok (.iconst 0, 1) := by decide +kernel
theorem dX6_placeRising_5 : decode cX6_placeRising 5 = .ok (.invokestatic 110, 3) := by decide +kernel
theorem dX6_placeRising_8 : decode cX6_placeRising 8 = .ok (.iconst 0, 1) := by decide +kernel
theorem dX6_placeRising_9 : decode cX6_placeRising 9 = .ok (.istore_n 2, 1) := by decide +kernel
theorem dX6_placeRising_10 : decode cX6_placeRising 10 = .ok (.iload_n 2, 1) := by decide +kernel
theorem dX6_placeRising_11 : decode cX6_placeRising 11 = .ok (.bipush 8, 2) := by decide +kernel
theorem dX6_placeRising_13 : decode cX6_placeRising 13 = .ok (.if_icmp .ge 59, 3) := by decide +kernel
theorem dX6_placeRising_16 : decode cX6_placeRising 16 = .ok (.aload_n 0, 1) := by decide +kernel
theorem dX6_placeRising_17 : decode cX6_placeRising 17 = .ok (.iload_n 2, 1) := by decide +kernel
theorem dX6_placeRising_18 : decode cX6_placeRising 18 = .ok (.invokevirtual 61, 3) := by decide +kernel
theorem dX6_placeRising_21 : decode cX6_placeRising 21 = .ok (.ifCond .eq 45, 3) := by decide +kernel
theorem dX6_placeRising_24 : decode cX6_placeRising 24 = .ok (.iload_n 1, 1) := by decide +kernel
theorem dX6_placeRising_25 : decode cX6_placeRising 25 = .ok (.ifCond .eq 13, 3) := by decide +kernel
theorem dX6_placeRising_28 : decode cX6_placeRising 28 = .ok (.aload_n 0, 1) := by decide +kernel
theorem dX6_placeRising_29 : decode cX6_placeRising 29 = .ok (.iconst 1, 1) := by decide +kernel
theorem dX6_placeRising_30 : decode cX6_placeRising 30 = .ok (.iload_n 2, 1) := by decide +kernel
theorem dX6_placeRising_31 : decode cX6_placeRising 31 = .ok (.ishl, 1) := by decide +kernel
theorem dX6_placeRising_32 : decode cX6_placeRising 32 = .ok (.invokevirtual 123, 3) := by decide +kernel
theorem dX6_placeRising_35 : decode cX6_placeRising 35 = .ok (.goto 10, 3) := by decide +kernel
theorem dX6_placeRising_38 : decode cX6_placeRising 38 = .ok (.aload_n 0, 1) := by decide +kernel
theorem dX6_placeRising_39 : decode cX6_placeRising 39 = .ok (.iconst 1, 1) := by decide +kernel
theorem dX6_placeRising_40 : decode cX6_placeRising 40 = .ok (.iload_n 2, 1) := by decide +kernel
theorem dX6_placeRising_41 : decode cX6_placeRising 41 = .ok (.ishl, 1) := by decide +kernel
theorem dX6_placeRising_42 : decode cX6_placeRising 42 = .ok (.invokevirtual 126, 3) := by decide +kernel
theorem dX6_placeRising_45 : decode cX6_placeRising 45 = .ok (.istore_n 3, 1) := by decide +kernel
theorem dX6_placeRising_46 : decode cX6_placeRising 46 = .ok (.iload_n 3, 1) := by decide +kernel
theorem dX6_placeRising_47 : decode cX6_placeRising 47 = .ok (.ldc 97, 2) := by decide +kernel
theorem dX6_placeRising_49 : decode cX6_placeRising 49 = .ok (.if_icmp .ne 5, 3) := by decide +kernel
theorem dX6_placeRising_52 : decode cX6_placeRising 52 = .ok (.iconst 0, 1) := by decide +kernel
theorem dX6_placeRising_53 : decode cX6_placeRising 53 = .ok (.ireturn, 1) := by decide +kernel
theorem dX6_placeRising_54 : decode cX6_placeRising 54 = .ok (.aload_n 0, 1) := by decide +kernel
theorem dX6_placeRising_55 : decode cX6_placeRising 55 = .ok (.getfield 38, 3) := by decide +kernel
theorem dX6_placeRising_58 : decode cX6_placeRising 58 = .ok (.iload_n 3, 1) := by decide +kernel
theorem dX6_placeRising_59 : decode cX6_placeRising 59 = .ok (.dup2, 1) := by decide +kernel
theorem dX6_placeRising_60 : decode cX6_placeRising 60 = .ok (.iaload, 1) := by decide +kernel
theorem dX6_placeRising_61 : decode cX6_placeRising 61 = .ok (.iconst 1, 1) := by decide +kernel
theorem dX6_placeRising_62 : decode cX6_placeRising 62 = .ok (.iload_n 2, 1) := by decide +kernel
theorem dX6_placeRising_63 : decode cX6_placeRising 63 = .ok (.ishl, 1) := by decide +kernel
theorem dX6_placeRising_64 : decode cX6_placeRising 64 = .ok (.ior, 1) := by decide +kernel
theorem dX6_placeRising_65 : decode cX6_placeRising 65 = .ok (.iastore, 1) := by decide +kernel
theorem dX6_placeRising_66 : decode cX6_placeRising 66 = .ok (.iinc 2 1, 3) := by decide +kernel
theorem dX6_placeRising_69 : decode cX6_placeRising 69 = .ok (.goto (-59), 3) := by decide +kernel
theorem dX6_placeRising_72 : decode cX6_placeRising 72 = .ok (.iconst 1, 1) := by decide +kernel
theorem dX6_placeRising_73 : decode cX6_placeRising 73 = .ok (.ireturn, 1) := by decide +kernel
theorem dX6_firstFor_0 : decode cX6_firstFor 0 = .ok (.iconst 0, 1) := by decide +kernel
theorem dX6_firstFor_1 : decode cX6_firstFor 1 = .ok (.istore_n 2, 1) := by decide +kernel
theorem dX6_firstFor_2 : decode cX6_firstFor 2 = .ok (.iload_n 2, 1) := by decide +kernel
theorem dX6_firstFor_3 : decode cX6_firstFor 3 = .ok (.bipush 6, 2) := by decide +kernel
theorem dX6_firstFor_5 : decode cX6_firstFor 5 = .ok (.if_icmp .ge 27, 3) := by decide +kernel
theorem dX6_firstFor_8 : decode cX6_firstFor 8 = .ok (.aload_n 0, 1) := by decide +kernel
theorem dX6_firstFor_9 : decode cX6_firstFor 9 = .ok (.iload_n 2, 1) := by decide +kernel
theorem dX6_firstFor_10 : decode cX6_firstFor 10 = .ok (.aload_n 0, 1) := by decide +kernel
theorem dX6_firstFor_11 : decode cX6_firstFor 11 = .ok (.getfield 38, 3) := by decide +kernel
theorem dX6_firstFor_14 : decode cX6_firstFor 14 = .ok (.iload_n 2, 1) := by decide +kernel
theorem dX6_firstFor_15 : decode cX6_firstFor 15 = .ok (.iaload, 1) := by decide +kernel
theorem dX6_firstFor_16 : decode cX6_firstFor 16 = .ok (.iload_n 1, 1) := by decide +kernel
theorem dX6_firstFor_17 : decode cX6_firstFor 17 = .ok (.ior, 1) := by decide +kernel
theorem dX6_firstFor_18 : decode cX6_firstFor 18 = .ok (.invokevirtual 129, 3) := by decide +kernel
theorem dX6_firstFor_21 : decode cX6_firstFor 21 = .ok (.ifCond .eq 5, 3) := by decide +kernel
theorem dX6_firstFor_24 : decode cX6_firstFor 24 = .ok (.iload_n 2, 1) := by decide +kernel
theorem dX6_firstFor_25 : decode cX6_firstFor 25 = .ok (.ireturn, 1) := by decide +kernel
theorem dX6_firstFor_26 : decode cX6_firstFor 26 = .ok (.iinc 2 1, 3) := by decide +kernel
theorem dX6_firstFor_29 : decode cX6_firstFor 29 = .ok (.goto (-27), 3) := by decide +kernel
theorem dX6_firstFor_32 : decode cX6_firstFor 32 = .ok (.ldc 97, 2) := by decide +kernel
theorem dX6_firstFor_34 : decode cX6_firstFor 34 = .ok (.ireturn, 1) := by decide +kernel
theorem dX6_tightestFor_0 : decode cX6_tightestFor 0 = .ok (.ldc 97, 2) := by decide +kernel
theorem dX6_tightestFor_2 : decode cX6_tightestFor 2 = .ok (.istore_n 2, 1) := by decide +kernel
theorem dX6_tightestFor_3 : decode cX6_tightestFor 3 = .ok (.bipush 100, 2) := by decide +kernel
theorem dX6_tightestFor_5 : decode cX6_tightestFor 5 = .ok (.istore_n 3, 1) := by decide +kernel
theorem dX6_tightestFor_6 : decode cX6_tightestFor 6 = .ok (.iconst 0, 1) := by decide +kernel
theorem dX6_tightestFor_7 : decode cX6_tightestFor 7 = .ok (.istore 4, 2) := by decide +kernel
theorem dX6_tightestFor_9 : decode cX6_tightestFor 9 = .ok (.iload 4, 2) := by decide +kernel
theorem dX6_tightestFor_11 : decode cX6_tightestFor 11 = .ok (.bipush 6, 2) := by decide +kernel
theorem dX6_tightestFor_13 : decode cX6_tightestFor 13 = .ok (.if_icmp .ge 45, 3) := by decide +kernel
theorem dX6_tightestFor_16 : decode cX6_tightestFor 16 = .ok (.aload_n 0, 1) := by decide +kernel
theorem dX6_tightestFor_17 : decode cX6_tightestFor 17 = .ok (.getfield 35, 3) := by decide +kernel
theorem dX6_tightestFor_20 : decode cX6_tightestFor 20 = .ok (.iload 4, 2) := by decide +kernel
theorem dX6_tightestFor_22 : decode cX6_tightestFor 22 = .ok (.aaload, 1) := by decide +kernel
theorem dX6_tightestFor_23 : decode cX6_tightestFor 23 = .ok (.aload_n 0, 1) := by decide +kernel
theorem dX6_tightestFor_24 : decode cX6_tightestFor 24 = .ok (.getfield 38, 3) := by decide +kernel
theorem dX6_tightestFor_27 : decode cX6_tightestFor 27 = .ok (.iload 4, 2) := by decide +kernel
theorem dX6_tightestFor_29 : decode cX6_tightestFor 29 = .ok (.iaload, 1) := by decide +kernel
theorem dX6_tightestFor_30 : decode cX6_tightestFor 30 = .ok (.iload_n 1, 1) := by decide +kernel
theorem dX6_tightestFor_31 : decode cX6_tightestFor 31 = .ok (.ior, 1) := by decide +kernel
theorem dX6_tightestFor_32 : decode cX6_tightestFor 32 = .ok (.iaload, 1) := by decide +kernel
theorem dX6_tightestFor_33 : decode cX6_tightestFor 33 = .ok (.istore 5, 2) := by decide +kernel
theorem dX6_tightestFor_35 : decode cX6_tightestFor 35 = .ok (.iload 5, 2) := by decide +kernel
theorem dX6_tightestFor_37 : decode cX6_tightestFor 37 = .ok (.ifCond .lt 15, 3) := by decide +kernel
theorem dX6_tightestFor_40 : decode cX6_tightestFor 40 = .ok (.iload 5, 2) := by decide +kernel
theorem dX6_tightestFor_42 : decode cX6_tightestFor 42 = .ok (.iload_n 3, 1) := by decide +kernel
theorem dX6_tightestFor_43 : decode cX6_tightestFor 43 = .ok (.if_icmp .ge 9, 3) := by decide +kernel
theorem dX6_tightestFor_46 : decode cX6_tightestFor 46 = .ok (.iload 5, 2) := by decide +kernel
theorem dX6_tightestFor_48 : decode cX6_tightestFor 48 = .ok (.istore_n 3, 1) := by decide +kernel
theorem dX6_tightestFor_49 : decode cX6_tightestFor 49 = .ok (.iload 4, 2) := by decide +kernel
theorem dX6_tightestFor_51 : decode cX6_tightestFor 51 = .ok (.istore_n 2, 1) := by decide +kernel
theorem dX6_tightestFor_52 : decode cX6_tightestFor 52 = .ok (.iinc 4 1, 3) := by decide +kernel
theorem dX6_tightestFor_55 : decode cX6_tightestFor 55 = .ok (.goto (-46), 3) := by decide +kernel
theorem dX6_tightestFor_58 : decode cX6_tightestFor 58 = .ok (.iload_n 2, 1) := by decide +kernel
theorem dX6_tightestFor_59 : decode cX6_tightestFor 59 = .ok (.ireturn, 1) := by decide +kernel
theorem dX7_init_0 : decode cX7_init 0 = .ok (.aload_n 0, 1) := by decide +kernel
theorem dX7_init_1 : decode cX7_init 1 = .ok (.invokespecial 3, 3) := by decide +kernel
theorem dX7_init_4 : decode cX7_init 4 = .ok (.aload_n 0, 1) := by decide +kernel
theorem dX7_init_5 : decode cX7_init 5 = .ok (.bipush 110, 2) := by decide +kernel
theorem dX7_init_7 : decode cX7_init 7 = .ok (.newarray .int, 2) := by decide +kernel
theorem dX7_init_9 : decode cX7_init 9 = .ok (.putfield 9, 3) := by decide +kernel
theorem dX7_init_12 : decode cX7_init 12 = .ok (.return_, 1) := by decide +kernel
theorem dX7_append_0 : decode cX7_append 0 = .ok (.aload_n 0, 1) := by decide +kernel
theorem dX7_append_1 : decode cX7_append 1 = .ok (.getfield 15, 3) := by decide +kernel
theorem dX7_append_4 : decode cX7_append 4 = .ok (.bipush 110, 2) := by decide +kernel
theorem dX7_append_6 : decode cX7_append 6 = .ok (.if_icmp .lt 5, 3) := by decide +kernel
theorem dX7_append_9 : decode cX7_append 9 = .ok (.iconst 0, 1) := by decide +kernel
theorem dX7_append_10 : decode cX7_append 10 = .ok (.ireturn, 1) := by decide +kernel
theorem dX7_append_11 : decode cX7_append 11 = .ok (.aload_n 0, 1) := by decide +kernel
theorem dX7_append_12 : decode cX7_append 12 = .ok (.getfield 9, 3) := by decide +kernel
theorem dX7_append_15 : decode cX7_append 15 = .ok (.aload_n 0, 1) := by decide +kernel
theorem dX7_append_16 : decode cX7_append 16 = .ok (.getfield 15, 3) := by decide +kernel
theorem dX7_append_19 : decode cX7_append 19 = .ok (.iload_n 1, 1) := by decide +kernel
theorem dX7_append_20 : decode cX7_append 20 = .ok (.iastore, 1) := by decide +kernel
theorem dX7_append_21 : decode cX7_append 21 = .ok (.aload_n 0, 1) := by decide +kernel
theorem dX7_append_22 : decode cX7_append 22 = .ok (.dup, 1) := by decide +kernel
theorem dX7_append_23 : decode cX7_append 23 = .ok (.getfield 15, 3) := by decide +kernel
theorem dX7_append_26 : decode cX7_append 26 = .ok (.iconst 1, 1) := by decide +kernel
theorem dX7_append_27 : decode cX7_append 27 = .ok (.iadd, 1) := by decide +kernel
theorem dX7_append_28 : decode cX7_append 28 = .ok (.putfield 15, 3) := by decide +kernel
theorem dX7_append_31 : decode cX7_append 31 = .ok (.iconst 1, 1) := by decide +kernel
theorem dX7_append_32 : decode cX7_append 32 = .ok (.ireturn, 1) := by decide +kernel
theorem dX7_readInto_0 : decode cX7_readInto 0 = .ok (.aload_n 0, 1) := by decide +kernel
theorem dX7_readInto_1 : decode cX7_readInto 1 = .ok (.iconst 0, 1) := by decide +kernel
theorem dX7_readInto_2 : decode cX7_readInto 2 = .ok (.putfield 19, 3) := by decide +kernel
theorem dX7_readInto_5 : decode cX7_readInto 5 = .ok (.aload_n 1, 1) := by decide +kernel
theorem dX7_readInto_6 : decode cX7_readInto 6 = .ok (.invokevirtual 22, 3) := by decide +kernel
theorem dX7_readInto_9 : decode cX7_readInto 9 = .ok (.aload_n 0, 1) := by decide +kernel
theorem dX7_readInto_10 : decode cX7_readInto 10 = .ok (.aload_n 1, 1) := by decide +kernel
theorem dX7_readInto_11 : decode cX7_readInto 11 = .ok (.invokevirtual 27, 3) := by decide +kernel
theorem dX7_readInto_14 : decode cX7_readInto 14 = .ok (.ifCond .eq 23, 3) := by decide +kernel
theorem dX7_readInto_17 : decode cX7_readInto 17 = .ok (.aload_n 0, 1) := by decide +kernel
theorem dX7_readInto_18 : decode cX7_readInto 18 = .ok (.aload_n 1, 1) := by decide +kernel
theorem dX7_readInto_19 : decode cX7_readInto 19 = .ok (.invokevirtual 31, 3) := by decide +kernel
theorem dX7_readInto_22 : decode cX7_readInto 22 = .ok (.ifCond .eq 15, 3) := by decide +kernel
theorem dX7_readInto_25 : decode cX7_readInto 25 = .ok (.aload_n 0, 1) := by decide +kernel
theorem dX7_readInto_26 : decode cX7_readInto 26 = .ok (.aload_n 1, 1) := by decide +kernel
theorem dX7_readInto_27 : decode cX7_readInto 27 = .ok (.invokevirtual 34, 3) := by decide +kernel
theorem dX7_readInto_30 : decode cX7_readInto 30 = .ok (.ifCond .eq 7, 3) := by decide +kernel
theorem dX7_readInto_33 : decode cX7_readInto 33 = .ok (.iconst 1, 1) := by decide +kernel
theorem dX7_readInto_34 : decode cX7_readInto 34 = .ok (.goto 4, 3) := by decide +kernel
theorem dX7_readInto_37 : decode cX7_readInto 37 = .ok (.iconst 0, 1) := by decide +kernel
theorem dX7_readInto_38 : decode cX7_readInto 38 = .ok (.istore_n 2, 1) := by decide +kernel
theorem dX7_readInto_39 : decode cX7_readInto 39 = .ok (.aload_n 0, 1) := by decide +kernel
theorem dX7_readInto_40 : decode cX7_readInto 40 = .ok (.iconst 0, 1) := by decide +kernel
theorem dX7_readInto_41 : decode cX7_readInto 41 = .ok (.putfield 15, 3) := by decide +kernel
theorem dX7_readInto_44 : decode cX7_readInto 44 = .ok (.iload_n 2, 1) := by decide +kernel
theorem dX7_readInto_45 : decode cX7_readInto 45 = .ok (.ireturn, 1) := by decide +kernel
theorem dX7_readLaws_0 : decode cX7_readLaws 0 = .ok (.aload_n 0, 1) := by decide +kernel
theorem dX7_readLaws_1 : decode cX7_readLaws 1 = .ok (.bipush 104, 2) := by decide +kernel
theorem dX7_readLaws_3 : decode cX7_readLaws 3 = .ok (.invokevirtual 37, 3) := by decide +kernel
theorem dX7_readLaws_6 : decode cX7_readLaws 6 = .ok (.ifCond .ne 5, 3) := by decide +kernel
theorem dX7_readLaws_9 : decode cX7_readLaws 9 = .ok (.iconst 0, 1) := by decide +kernel
theorem dX7_readLaws_10 : decode cX7_readLaws 10 = .ok (.ireturn, 1) := by decide +kernel
theorem dX7_readLaws_11 : decode cX7_readLaws 11 = .ok (.iconst 0, 1) := by decide +kernel
theorem dX7_readLaws_12 : decode cX7_readLaws 12 = .ok (.istore_n 2, 1) := by decide +kernel
theorem dX7_readLaws_13 : decode cX7_readLaws 13 = .ok (.iload_n 2, 1) := by decide +kernel
theorem dX7_readLaws_14 : decode cX7_readLaws 14 = .ok (.iconst 4, 1) := by decide +kernel
theorem dX7_readLaws_15 : decode cX7_readLaws 15 = .ok (.if_icmp .ge 58, 3) := by decide +kernel
theorem dX7_readLaws_18 : decode cX7_readLaws 18 = .ok (.aload_n 0, 1) := by decide +kernel
theorem dX7_readLaws_19 : decode cX7_readLaws 19 = .ok (.getstatic 41, 3) := by decide +kernel
theorem dX7_readLaws_22 : decode cX7_readLaws 22 = .ok (.iload_n 2, 1) := by decide +kernel
theorem dX7_readLaws_23 : decode cX7_readLaws 23 = .ok (.iaload, 1) := by decide +kernel
theorem dX7_readLaws_24 : decode cX7_readLaws 24 = .ok (.getstatic 44, 3) := by decide +kernel
theorem dX7_readLaws_27 : decode cX7_readLaws 27 = .ok (.iload_n 2, 1) := by decide +kernel
theorem dX7_readLaws_28 : decode cX7_readLaws 28 = .ok (.iaload, 1) := by decide +kernel
theorem dX7_readLaws_29 : decode cX7_readLaws 29 = .ok (.invokevirtual 47, 3) := by decide +kernel
theorem dX7_readLaws_32 : decode cX7_readLaws 32 = .ok (.istore_n 3, 1) := by decide +kernel
theorem dX7_readLaws_33 : decode cX7_readLaws 33 = .ok (.iload_n 3, 1) := by decide +kernel
theorem dX7_readLaws_34 : decode cX7_readLaws 34 = .ok (.ldc 51, 2) := by decide +kernel
theorem dX7_readLaws_36 : decode cX7_readLaws 36 = .ok (.if_icmp .eq 22, 3) := by decide +kernel
theorem dX7_readLaws_39 : decode cX7_readLaws 39 = .ok (.aload_n 0, 1) := by decide +kernel
theorem dX7_readLaws_40 : decode cX7_readLaws 40 = .ok (.iload_n 2, 1) := by decide +kernel
theorem dX7_readLaws_41 : decode cX7_readLaws 41 = .ok (.iconst 3, 1) := by decide +kernel
theorem dX7_readLaws_42 : decode cX7_readLaws 42 = .ok (.if_icmp .ge 8, 3) := by decide +kernel
theorem dX7_readLaws_45 : decode cX7_readLaws 45 = .ok (.bipush 44, 2) := by decide +kernel
theorem dX7_readLaws_47 : decode cX7_readLaws 47 = .ok (.goto 5, 3) := by decide +kernel
theorem dX7_readLaws_50 : decode cX7_readLaws 50 = .ok (.bipush 59, 2) := by decide +kernel
theorem dX7_readLaws_52 : decode cX7_readLaws 52 = .ok (.invokevirtual 37, 3) := by decide +kernel
theorem dX7_readLaws_55 : decode cX7_readLaws 55 = .ok (.ifCond .ne 5, 3) := by decide +kernel
theorem dX7_readLaws_58 : decode cX7_readLaws 58 = .ok (.iconst 0, 1) := by decide +kernel
theorem dX7_readLaws_59 : decode cX7_readLaws 59 = .ok (.ireturn, 1) := by decide +kernel
theorem dX7_readLaws_60 : decode cX7_readLaws 60 = .ok (.aload_n 1, 1) := by decide +kernel
theorem dX7_readLaws_61 : decode cX7_readLaws 61 = .ok (.getfield 52, 3) := by decide +kernel
theorem dX7_readLaws_64 : decode cX7_readLaws 64 = .ok (.iload_n 2, 1) := by decide +kernel
theorem dX7_readLaws_65 : decode cX7_readLaws 65 = .ok (.iload_n 3, 1) := by decide +kernel
theorem dX7_readLaws_66 : decode cX7_readLaws 66 = .ok (.iastore, 1) := by decide +kernel
theorem dX7_readLaws_67 : decode cX7_readLaws 67 = .ok (.iinc 2 1, 3) := by decide +kernel
theorem dX7_readLaws_70 : decode cX7_readLaws 70 = .ok (.goto (-57), 3) := by decide +kernel
theorem dX7_readLaws_73 : decode cX7_readLaws 73 = .ok (.iconst 1, 1) := by decide +kernel
theorem dX7_readLaws_74 : decode cX7_readLaws 74 = .ok (.ireturn, 1) := by decide +kernel
theorem dX7_readCans_0 : decode cX7_readCans 0 = .ok (.iconst 0, 1) := by decide +kernel
theorem dX7_readCans_1 : decode cX7_readCans 1 = .ok (.istore_n 2, 1) := by decide +kernel
theorem dX7_readCans_2 : decode cX7_readCans 2 = .ok (.iload_n 2, 1) := by decide +kernel
theorem dX7_readCans_3 : decode cX7_readCans 3 = .ok (.bipush 6, 2) := by decide +kernel
theorem dX7_readCans_5 : decode cX7_readCans 5 = .ok (.if_icmp .gt 31, 3) := by decide +kernel
theorem dX7_readCans_8 : decode cX7_readCans 8 = .ok (.aload_n 0, 1) := by decide +kernel
theorem dX7_readCans_9 : decode cX7_readCans 9 = .ok (.invokevirtual 55, 3) := by decide +kernel
theorem dX7_readCans_12 : decode cX7_readCans 12 = .ok (.invokestatic 59, 3) := by decide +kernel
theorem dX7_readCans_15 : decode cX7_readCans 15 = .ok (.ldc 51, 2) := by decide +kernel
theorem dX7_readCans_17 : decode cX7_readCans 17 = .ok (.if_icmp .eq 19, 3) := by decide +kernel
theorem dX7_readCans_20 : decode cX7_readCans 20 = .ok (.aload_n 0, 1) := by decide +kernel
theorem dX7_readCans_21 : decode cX7_readCans 21 = .ok (.aload_n 1, 1) := by decide +kernel
theorem dX7_readCans_22 : decode cX7_readCans 22 = .ok (.invokevirtual 65, 3) := by decide +kernel
theorem dX7_readCans_25 : decode cX7_readCans 25 = .ok (.ifCond .ne 5, 3) := by decide +kernel
theorem dX7_readCans_28 : decode cX7_readCans 28 = .ok (.iconst 0, 1) := by decide +kernel
theorem dX7_readCans_29 : decode cX7_readCans 29 = .ok (.ireturn, 1) := by decide +kernel
theorem dX7_readCans_30 : decode cX7_readCans 30 = .ok (.iinc 2 1, 3) := by decide +kernel
theorem dX7_readCans_33 : decode cX7_readCans 33 = .ok (.goto (-31), 3) := by decide +kernel
theorem dX7_readCans_36 : decode cX7_readCans 36 = .ok (.aload_n 1, 1) := by decide +kernel
theorem dX7_readCans_37 : decode cX7_readCans 37 = .ok (.getfield 68, 3) := by decide +kernel
theorem dX7_readCans_40 : decode cX7_readCans 40 = .ok (.ifCond .gt 11, 3) := by decide +kernel
theorem dX7_readCans_43 : decode cX7_readCans 43 = .ok (.aload_n 0, 1) := by decide +kernel
theorem dX7_readCans_44 : decode cX7_readCans 44 = .ok (.iconst 1, 1) := by decide +kernel
theorem dX7_readCans_45 : decode cX7_readCans 45 = .ok (.invokevirtual 71, 3) := by decide +kernel
theorem dX7_readCans_48 : decode cX7_readCans 48 = .ok (.ifCond .eq 7, 3) := by decide +kernel
theorem dX7_readCans_51 : decode cX7_readCans 51 = .ok (.iconst 1, 1) := by decide +kernel
theorem dX7_readCans_52 : decode cX7_readCans 52 = .ok (.goto 4, 3) := by decide +kernel
theorem dX7_readCans_55 : decode cX7_readCans 55 = .ok (.iconst 0, 1) := by decide +kernel
theorem dX7_readCans_56 : decode cX7_readCans 56 = .ok (.ireturn, 1) := by decide +kernel
theorem dX7_readCan_0 : decode cX7_readCan 0 = .ok (.aload_n 1, 1) := by decide +kernel
theorem dX7_readCan_1 : decode cX7_readCan 1 = .ok (.getfield 68, 3) := by decide +kernel
theorem dX7_readCan_4 : decode cX7_readCan 4 = .ok (.bipush 6, 2) := by decide +kernel
theorem dX7_readCan_6 : decode cX7_readCan 6 = .ok (.if_icmp .lt 9, 3) := by decide +kernel
theorem dX7_readCan_9 : decode cX7_readCan 9 = .ok (.aload_n 0, 1) := by decide +kernel
theorem dX7_readCan_10 : decode cX7_readCan 10 = .ok (.iconst 3, 1) := by decide +kernel
theorem dX7_readCan_11 : decode cX7_readCan 11 = .ok (.invokevirtual 71, 3) := by decide +kernel
theorem dX7_readCan_14 : decode cX7_readCan 14 = .ok (.ireturn, 1) := by decide +kernel
theorem dX7_readCan_15 : decode cX7_readCan 15 = .ok (.aload_n 0, 1) := by decide +kernel
theorem dX7_readCan_16 : decode cX7_readCan 16 = .ok (.invokevirtual 55, 3) := by decide +kernel
theorem dX7_readCan_19 : decode cX7_readCan 19 = .ok (.invokestatic 59, 3) := by decide +kernel
theorem dX7_readCan_22 : decode cX7_readCan 22 = .ok (.istore_n 2, 1) := by decide +kernel
theorem dX7_readCan_23 : decode cX7_readCan 23 = .ok (.aload_n 0, 1) := by decide +kernel
theorem dX7_readCan_24 : decode cX7_readCan 24 = .ok (.dup, 1) := by decide +kernel
theorem dX7_readCan_25 : decode cX7_readCan 25 = .ok (.getfield 19, 3) := by decide +kernel
theorem dX7_readCan_28 : decode cX7_readCan 28 = .ok (.iconst 1, 1) := by decide +kernel
theorem dX7_readCan_29 : decode cX7_readCan 29 = .ok (.iadd, 1) := by decide +kernel
theorem dX7_readCan_30 : decode cX7_readCan 30 = .ok (.putfield 19, 3) := by decide +kernel
theorem dX7_readCan_33 : decode cX7_readCan 33 = .ok (.aload_n 0, 1) := by decide +kernel
theorem dX7_readCan_34 : decode cX7_readCan 34 = .ok (.iconst 1, 1) := by decide +kernel
theorem dX7_readCan_35 : decode cX7_readCan 35 = .ok (.bipush 99, 2) := by decide +kernel
theorem dX7_readCan_37 : decode cX7_readCan 37 = .ok (.invokevirtual 47, 3) := by decide +kernel
theorem dX7_readCan_40 : decode cX7_readCan 40 = .ok (.istore_n 3, 1) := by decide +kernel
theorem dX7_readCan_41 : decode cX7_readCan 41 = .ok (.iload_n 3, 1) := by decide +kernel
theorem dX7_readCan_42 : decode cX7_readCan 42 = .ok (.ldc 51, 2) := by decide +kernel
theorem dX7_readCan_44 : decode cX7_readCan 44 = .ok (.if_icmp .eq 12, 3) := by decide +kernel
theorem dX7_readCan_47 : decode cX7_readCan 47 = .ok (.aload_n 0, 1) := by decide +kernel
theorem dX7_readCan_48 : decode cX7_readCan 48 = .ok (.bipush 59, 2) := by decide +kernel
theorem dX7_readCan_50 : decode cX7_readCan 50 = .ok (.invokevirtual 37, 3) := by decide +kernel
theorem dX7_readCan_53 : decode cX7_readCan 53 = .ok (.ifCond .ne 5, 3) := by decide +kernel
theorem dX7_readCan_56 : decode cX7_readCan 56 = .ok (.iconst 0, 1) := by decide +kernel
theorem dX7_readCan_57 : decode cX7_readCan 57 = .ok (.ireturn, 1) := by decide +kernel
theorem dX7_readCan_58 : decode cX7_readCan 58 = .ok (.aload_n 1, 1) := by decide +kernel
theorem dX7_readCan_59 : decode cX7_readCan 59 = .ok (.iload_n 2, 1) := by decide +kernel
theorem dX7_readCan_60 : decode cX7_readCan 60 = .ok (.iload_n 3, 1) := by decide +kernel
theorem dX7_readCan_61 : decode cX7_readCan 61 = .ok (.invokevirtual 74, 3) := by decide +kernel
theorem dX7_readCan_64 : decode cX7_readCan 64 = .ok (.pop, 1) := by decide +kernel
theorem dX7_readCan_65 : decode cX7_readCan 65 = .ok (.iconst 1, 1) := by decide +kernel
theorem dX7_readCan_66 : decode cX7_readCan 66 = .ok (.ireturn, 1) := by decide +kernel
theorem dX7_readTakes_0 : decode cX7_readTakes 0 = .ok (.iconst 0, 1) := by decide +kernel
theorem dX7_readTakes_1 : decode cX7_readTakes 1 = .ok (.istore_n 2, 1) := by decide +kernel
theorem dX7_readTakes_2 : decode cX7_readTakes 2 = .ok (.iload_n 2, 1) := by decide +kernel
theorem dX7_readTakes_3 : decode cX7_readTakes 3 = .ok (.bipush 8, 2) := by decide +kernel
theorem dX7_readTakes_5 : decode cX7_readTakes 5 = .ok (.if_icmp .gt 28, 3) := by decide +kernel
theorem dX7_readTakes_8 : decode cX7_readTakes 8 = .ok (.aload_n 0, 1) := by decide +kernel
theorem dX7_readTakes_9 : decode cX7_readTakes 9 = .ok (.invokevirtual 55, 3) := by decide +kernel
theorem dX7_readTakes_12 : decode cX7_readTakes 12 = .ok (.bipush 116, 2) := by decide +kernel
theorem dX7_readTakes_14 : decode cX7_readTakes 14 = .ok (.if_icmp .ne 19, 3) := by decide +kernel
theorem dX7_readTakes_17 : decode cX7_readTakes 17 = .ok (.aload_n 0, 1) := by decide +kernel
theorem dX7_readTakes_18 : decode cX7_readTakes 18 = .ok (.aload_n 1, 1) := by decide +kernel
theorem dX7_readTakes_19 : decode cX7_readTakes 19 = .ok (.invokevirtual 77, 3) := by decide +kernel
theorem dX7_readTakes_22 : decode cX7_readTakes 22 = .ok (.ifCond .ne 5, 3) := by decide +kernel
theorem dX7_readTakes_25 : decode cX7_readTakes 25 = .ok (.iconst 0, 1) := by decide +kernel
theorem dX7_readTakes_26 : decode cX7_readTakes 26 = .ok (.ireturn, 1) := by decide +kernel
theorem dX7_readTakes_27 : decode cX7_readTakes 27 = .ok (.iinc 2 1, 3) := by decide +kernel
theorem dX7_readTakes_30 : decode cX7_readTakes 30 = .ok (.goto (-28), 3) := by decide +kernel
theorem dX7_readTakes_33 : decode cX7_readTakes 33 = .ok (.aload_n 0, 1) := by decide +kernel
theorem dX7_readTakes_34 : decode cX7_readTakes 34 = .ok (.getfield 19, 3) := by decide +kernel
theorem dX7_readTakes_37 : decode cX7_readTakes 37 = .ok (.aload_n 0, 1) := by decide +kernel
theorem dX7_readTakes_38 : decode cX7_readTakes 38 = .ok (.getfield 15, 3) := by decide +kernel
theorem dX7_readTakes_41 : decode cX7_readTakes 41 = .ok (.if_icmp .eq 11, 3) := by decide +kernel
theorem dX7_readTakes_44 : decode cX7_readTakes 44 = .ok (.aload_n 0, 1) := by decide +kernel
theorem dX7_readTakes_45 : decode cX7_readTakes 45 = .ok (.iconst 1, 1) := by decide +kernel
theorem dX7_readTakes_46 : decode cX7_readTakes 46 = .ok (.invokevirtual 71, 3) := by decide +kernel
theorem dX7_readTakes_49 : decode cX7_readTakes 49 = .ok (.ifCond .eq 7, 3) := by decide +kernel
theorem dX7_readTakes_52 : decode cX7_readTakes 52 = .ok (.iconst 1, 1) := by decide +kernel
theorem dX7_readTakes_53 : decode cX7_readTakes 53 = .ok (.goto 4, 3) := by decide +kernel
theorem dX7_readTakes_56 : decode cX7_readTakes 56 = .ok (.iconst 0, 1) := by decide +kernel
theorem dX7_readTakes_57 : decode cX7_readTakes 57 = .ok (.ireturn, 1) := by decide +kernel
theorem dX7_readTake_0 : decode cX7_readTake 0 = .ok (.aload_n 1, 1) := by decide +kernel
theorem dX7_readTake_1 : decode cX7_readTake 1 = .ok (.getfield 80, 3) := by decide +kernel
theorem dX7_readTake_4 : decode cX7_readTake 4 = .ok (.bipush 8, 2) := by decide +kernel
theorem dX7_readTake_6 : decode cX7_readTake 6 = .ok (.if_icmp .lt 9, 3) := by decide +kernel
theorem dX7_readTake_9 : decode cX7_readTake 9 = .ok (.aload_n 0, 1) := by decide +kernel
theorem dX7_readTake_10 : decode cX7_readTake 10 = .ok (.iconst 3, 1) := by decide +kernel
theorem dX7_readTake_11 : decode cX7_readTake 11 = .ok (.invokevirtual 71, 3) := by decide +kernel
theorem dX7_readTake_14 : decode cX7_readTake 14 = .ok (.ireturn, 1) := by decide +kernel
theorem dX7_readTake_15 : decode cX7_readTake 15 = .ok (.aload_n 0, 1) := by decide +kernel
theorem dX7_readTake_16 : decode cX7_readTake 16 = .ok (.dup, 1) := by decide +kernel
theorem dX7_readTake_17 : decode cX7_readTake 17 = .ok (.getfield 19, 3) := by decide +kernel
theorem dX7_readTake_20 : decode cX7_readTake 20 = .ok (.iconst 1, 1) := by decide +kernel
theorem dX7_readTake_21 : decode cX7_readTake 21 = .ok (.iadd, 1) := by decide +kernel
theorem dX7_readTake_22 : decode cX7_readTake 22 = .ok (.putfield 19, 3) := by decide +kernel
theorem dX7_readTake_25 : decode cX7_readTake 25 = .ok (.aload_n 0, 1) := by decide +kernel
theorem dX7_readTake_26 : decode cX7_readTake 26 = .ok (.iconst 0, 1) := by decide +kernel
theorem dX7_readTake_27 : decode cX7_readTake 27 = .ok (.iconst 5, 1) := by decide +kernel
theorem dX7_readTake_28 : decode cX7_readTake 28 = .ok (.invokevirtual 47, 3) := by decide +kernel
theorem dX7_readTake_31 : decode cX7_readTake 31 = .ok (.istore_n 2, 1) := by decide +kernel
theorem dX7_readTake_32 : decode cX7_readTake 32 = .ok (.iload_n 2, 1) := by decide +kernel
theorem dX7_readTake_33 : decode cX7_readTake 33 = .ok (.ldc 51, 2) := by decide +kernel
theorem dX7_readTake_35 : decode cX7_readTake 35 = .ok (.if_icmp .eq 12, 3) := by decide +kernel
theorem dX7_readTake_38 : decode cX7_readTake 38 = .ok (.aload_n 0, 1) := by decide +kernel
theorem dX7_readTake_39 : decode cX7_readTake 39 = .ok (.bipush 44, 2) := by decide +kernel
theorem dX7_readTake_41 : decode cX7_readTake 41 = .ok (.invokevirtual 37, 3) := by decide +kernel
theorem dX7_readTake_44 : decode cX7_readTake 44 = .ok (.ifCond .ne 5, 3) := by decide +kernel
theorem dX7_readTake_47 : decode cX7_readTake 47 = .ok (.iconst 0, 1) := by decide +kernel
theorem dX7_readTake_48 : decode cX7_readTake 48 = .ok (.ireturn, 1) := by decide +kernel
theorem dX7_readTake_49 : decode cX7_readTake 49 = .ok (.aload_n 0, 1) := by decide +kernel
theorem dX7_readTake_50 : decode cX7_readTake 50 = .ok (.iconst 1, 1) := by decide +kernel
theorem dX7_readTake_51 : decode cX7_readTake 51 = .ok (.bipush 60, 2) := by decide +kernel
theorem dX7_readTake_53 : decode cX7_readTake 53 = .ok (.invokevirtual 47, 3) := by decide +kernel
theorem dX7_readTake_56 : decode cX7_readTake 56 = .ok (.istore_n 3, 1) := by decide +kernel
theorem dX7_readTake_57 : decode cX7_readTake 57 = .ok (.iload_n 3, 1) := by decide +kernel
theorem dX7_readTake_58 : decode cX7_readTake 58 = .ok (.ldc 51, 2) := by decide +kernel
theorem dX7_readTake_60 : decode cX7_readTake 60 = .ok (.if_icmp .eq 12, 3) := by decide +kernel
theorem dX7_readTake_63 : decode cX7_readTake 63 = .ok (.aload_n 0, 1) := by decide +kernel
theorem dX7_readTake_64 : decode cX7_readTake 64 = .ok (.bipush 59, 2) := by decide +kernel
theorem dX7_readTake_66 : decode cX7_readTake 66 = .ok (.invokevirtual 37, 3) := by decide +kernel
theorem dX7_readTake_69 : decode cX7_readTake 69 = .ok (.ifCond .ne 5, 3) := by decide +kernel
theorem dX7_readTake_72 : decode cX7_readTake 72 = .ok (.iconst 0, 1) := by decide +kernel
theorem dX7_readTake_73 : decode cX7_readTake 73 = .ok (.ireturn, 1) := by decide +kernel
theorem dX7_readTake_74 : decode cX7_readTake 74 = .ok (.aload_n 1, 1) := by decide +kernel
theorem dX7_readTake_75 : decode cX7_readTake 75 = .ok (.iload_n 2, 1) := by decide +kernel
theorem dX7_readTake_76 : decode cX7_readTake 76 = .ok (.iload_n 3, 1) := by decide +kernel
theorem dX7_readTake_77 : decode cX7_readTake 77 = .ok (.invokevirtual 83, 3) := by decide +kernel
theorem dX7_readTake_80 : decode cX7_readTake 80 = .ok (.pop, 1) := by decide +kernel
theorem dX7_readTake_81 : decode cX7_readTake 81 = .ok (.iconst 1, 1) := by decide +kernel
theorem dX7_readTake_82 : decode cX7_readTake 82 = .ok (.ireturn, 1) := by decide +kernel
theorem dX7_readNumber_0 : decode cX7_readNumber 0 = .ok (.aload_n 0, 1) := by decide +kernel
theorem dX7_readNumber_1 : decode cX7_readNumber 1 = .ok (.aload_n 0, 1) := by decide +kernel
theorem dX7_readNumber_2 : decode cX7_readNumber 2 = .ok (.getfield 19, 3) := by decide +kernel
theorem dX7_readNumber_5 : decode cX7_readNumber 5 = .ok (.invokevirtual 86, 3) := by decide +kernel
theorem dX7_readNumber_8 : decode cX7_readNumber 8 = .ok (.istore_n 3, 1) := by decide +kernel
theorem dX7_readNumber_9 : decode cX7_readNumber 9 = .ok (.iload_n 3, 1) := by decide +kernel
theorem dX7_readNumber_10 : decode cX7_readNumber 10 = .ok (.iconst 1, 1) := by decide +kernel
theorem dX7_readNumber_11 : decode cX7_readNumber 11 = .ok (.if_icmp .lt 8, 3) := by decide +kernel
theorem dX7_readNumber_14 : decode cX7_readNumber 14 = .ok (.iload_n 3, 1) := by decide +kernel
theorem dX7_readNumber_15 : decode cX7_readNumber 15 = .ok (.iconst 2, 1) := by decide +kernel
theorem dX7_readNumber_16 : decode cX7_readNumber 16 = .ok (.if_icmp .le 12, 3) := by decide +kernel
theorem dX7_readNumber_19 : decode cX7_readNumber 19 = .ok (.aload_n 0, 1) := by decide +kernel
theorem dX7_readNumber_20 : decode cX7_readNumber 20 = .ok (.iconst 1, 1) := by decide +kernel
theorem dX7_readNumber_21 : decode cX7_readNumber 21 = .ok (.invokevirtual 71, 3) := by decide +kernel
theorem dX7_readNumber_24 : decode cX7_readNumber 24 = .ok (.pop, 1) := by decide +kernel
theorem dX7_readNumber_25 : decode cX7_readNumber 25 = .ok (.ldc 51, 2) := by decide +kernel
theorem dX7_readNumber_27 : decode cX7_readNumber 27 = .ok (.ireturn, 1) := by decide +kernel
theorem dX7_readNumber_28 : decode cX7_readNumber 28 = .ok (.iconst 0, 1) := by decide +kernel
theorem dX7_readNumber_29 : decode cX7_readNumber 29 = .ok (.istore 4, 2) := by decide +kernel
theorem dX7_readNumber_31 : decode cX7_readNumber 31 = .ok (.iconst 0, 1) := by decide +kernel
theorem dX7_readNumber_32 : decode cX7_readNumber 32 = .ok (.istore 5, 2) := by decide +kernel
theorem dX7_readNumber_34 : decode cX7_readNumber 34 = .ok (.iload 5, 2) := by decide +kernel
theorem dX7_readNumber_36 : decode cX7_readNumber 36 = .ok (.iload_n 3, 1) := by decide +kernel
theorem dX7_readNumber_37 : decode cX7_readNumber 37 = .ok (.if_icmp .ge 31, 3) := by decide +kernel
theorem dX7_readNumber_40 : decode cX7_readNumber 40 = .ok (.iload 4, 2) := by decide +kernel
theorem dX7_readNumber_42 : decode cX7_readNumber 42 = .ok (.bipush 10, 2) := by decide +kernel
theorem dX7_readNumber_44 : decode cX7_readNumber 44 = .ok (.imul, 1) := by decide +kernel
theorem dX7_readNumber_45 : decode cX7_readNumber 45 = .ok (.aload_n 0, 1) := by decide +kernel
theorem dX7_readNumber_46 : decode cX7_readNumber 46 = .ok (.aload_n 0, 1) := by decide +kernel
theorem dX7_readNumber_47 : decode cX7_readNumber 47 = .ok (.getfield 19, 3) := by decide +kernel
theorem dX7_readNumber_50 : decode cX7_readNumber 50 = .ok (.iload 5, 2) := by decide +kernel
theorem dX7_readNumber_52 : decode cX7_readNumber 52 = .ok (.iadd, 1) := by decide +kernel
theorem dX7_readNumber_53 : decode cX7_readNumber 53 = .ok (.invokevirtual 89, 3) := by decide +kernel
theorem dX7_readNumber_56 : decode cX7_readNumber 56 = .ok (.iadd, 1) := by decide +kernel
theorem dX7_readNumber_57 : decode cX7_readNumber 57 = .ok (.bipush 48, 2) := by decide +kernel
theorem dX7_readNumber_59 : decode cX7_readNumber 59 = .ok (.isub, 1) := by decide +kernel
theorem dX7_readNumber_60 : decode cX7_readNumber 60 = .ok (.istore 4, 2) := by decide +kernel
theorem dX7_readNumber_62 : decode cX7_readNumber 62 = .ok (.iinc 5 1, 3) := by decide +kernel
theorem dX7_readNumber_65 : decode cX7_readNumber 65 = .ok (.goto (-31), 3) := by decide +kernel
theorem dX7_readNumber_68 : decode cX7_readNumber 68 = .ok (.iload 4, 2) := by decide +kernel
theorem dX7_readNumber_70 : decode cX7_readNumber 70 = .ok (.iload_n 1, 1) := by decide +kernel
theorem dX7_readNumber_71 : decode cX7_readNumber 71 = .ok (.if_icmp .lt 9, 3) := by decide +kernel
theorem dX7_readNumber_74 : decode cX7_readNumber 74 = .ok (.iload 4, 2) := by decide +kernel
theorem dX7_readNumber_76 : decode cX7_readNumber 76 = .ok (.iload_n 2, 1) := by decide +kernel
theorem dX7_readNumber_77 : decode cX7_readNumber 77 = .ok (.if_icmp .le 12, 3) := by decide +kernel
theorem dX7_readNumber_80 : decode cX7_readNumber 80 = .ok (.aload_n 0, 1) := by decide +kernel
theorem dX7_readNumber_81 : decode cX7_readNumber 81 = .ok (.iconst 2, 1) := by decide +kernel
theorem dX7_readNumber_82 : decode cX7_readNumber 82 = .ok (.invokevirtual 71, 3) := by decide +kernel
theorem dX7_readNumber_85 : decode cX7_readNumber 85 = .ok (.pop, 1) := by decide +kernel
theorem dX7_readNumber_86 : decode cX7_readNumber 86 = .ok (.ldc 51, 2) := by decide +kernel
theorem dX7_readNumber_88 : decode cX7_readNumber 88 = .ok (.ireturn, 1) := by decide +kernel
theorem dX7_readNumber_89 : decode cX7_readNumber 89 = .ok (.aload_n 0, 1) := by decide +kernel
theorem dX7_readNumber_90 : decode cX7_readNumber 90 = .ok (.dup, 1) := by decide +kernel
theorem dX7_readNumber_91 : decode cX7_readNumber 91 = .ok (.getfield 19, 3) := by decide +kernel
theorem dX7_readNumber_94 : decode cX7_readNumber 94 = .ok (.iload_n 3, 1) := by decide +kernel
theorem dX7_readNumber_95 : decode cX7_readNumber 95 = .ok (.iadd, 1) := by decide +kernel
theorem dX7_readNumber_96 : decode cX7_readNumber 96 = .ok (.putfield 19, 3) := by decide +kernel
theorem dX7_readNumber_99 : decode cX7_readNumber 99 = .ok (.iload 4, 2) := by decide +kernel
theorem dX7_readNumber_101 : decode cX7_readNumber 101 = .ok (.ireturn, 1) := by decide +kernel
theorem dX7_figuresFrom_0 : decode cX7_figuresFrom 0 = .ok (.iload_n 1, 1) := by decide +kernel
theorem dX7_figuresFrom_1 : decode cX7_figuresFrom 1 = .ok (.istore_n 2, 1) := by decide +kernel
theorem dX7_figuresFrom_2 : decode cX7_figuresFrom 2 = .ok (.iload_n 2, 1) := by decide +kernel
theorem dX7_figuresFrom_3 : decode cX7_figuresFrom 3 = .ok (.aload_n 0, 1) := by decide +kernel
theorem dX7_figuresFrom_4 : decode cX7_figuresFrom 4 = .ok (.getfield 15, 3) := by decide +kernel
theorem dX7_figuresFrom_7 : decode cX7_figuresFrom 7 = .ok (.if_icmp .ge 29, 3) := by decide +kernel
theorem dX7_figuresFrom_10 : decode cX7_figuresFrom 10 = .ok (.aload_n 0, 1) := by decide +kernel
theorem dX7_figuresFrom_11 : decode cX7_figuresFrom 11 = .ok (.iload_n 2, 1) := by decide +kernel
theorem dX7_figuresFrom_12 : decode cX7_figuresFrom 12 = .ok (.invokevirtual 89, 3) := by decide +kernel
theorem dX7_figuresFrom_15 : decode cX7_figuresFrom 15 = .ok (.bipush 48, 2) := by decide +kernel
theorem dX7_figuresFrom_17 : decode cX7_figuresFrom 17 = .ok (.if_icmp .lt 19, 3) := by decide +kernel
theorem dX7_figuresFrom_20 : decode cX7_figuresFrom 20 = .ok (.aload_n 0, 1) := by decide +kernel
theorem dX7_figuresFrom_21 : decode cX7_figuresFrom 21 = .ok (.iload_n 2, 1) := by decide +kernel
theorem dX7_figuresFrom_22 : decode cX7_figuresFrom 22 = .ok (.invokevirtual 89, 3) := by decide +kernel
theorem dX7_figuresFrom_25 : decode cX7_figuresFrom 25 = .ok (.bipush 57, 2) := by decide +kernel
theorem dX7_figuresFrom_27 : decode cX7_figuresFrom 27 = .ok (.if_icmp .gt 9, 3) := by decide +kernel
theorem dX7_figuresFrom_30 : decode cX7_figuresFrom 30 = .ok (.iinc 2 1, 3) := by decide +kernel
theorem dX7_figuresFrom_33 : decode cX7_figuresFrom 33 = .ok (.goto (-31), 3) := by decide +kernel
theorem dX7_figuresFrom_36 : decode cX7_figuresFrom 36 = .ok (.iload_n 2, 1) := by decide +kernel
theorem dX7_figuresFrom_37 : decode cX7_figuresFrom 37 = .ok (.iload_n 1, 1) := by decide +kernel
theorem dX7_figuresFrom_38 : decode cX7_figuresFrom 38 = .ok (.isub, 1) := by decide +kernel
theorem dX7_figuresFrom_39 : decode cX7_figuresFrom 39 = .ok (.ireturn, 1) := by decide +kernel
theorem dX7_pass_0 : decode cX7_pass 0 = .ok (.aload_n 0, 1) := by decide +kernel
theorem dX7_pass_1 : decode cX7_pass 1 = .ok (.invokevirtual 55, 3) := by decide +kernel
theorem dX7_pass_4 : decode cX7_pass 4 = .ok (.iload_n 1, 1) := by decide +kernel
theorem dX7_pass_5 : decode cX7_pass 5 = .ok (.if_icmp .eq 9, 3) := by decide +kernel
theorem dX7_pass_8 : decode cX7_pass 8 = .ok (.aload_n 0, 1) := by decide +kernel
theorem dX7_pass_9 : decode cX7_pass 9 = .ok (.iconst 1, 1) := by decide +kernel
theorem dX7_pass_10 : decode cX7_pass 10 = .ok (.invokevirtual 71, 3) := by decide +kernel
theorem dX7_pass_13 : decode cX7_pass 13 = .ok (.ireturn, 1) := by decide +kernel
theorem dX7_pass_14 : decode cX7_pass 14 = .ok (.aload_n 0, 1) := by decide +kernel
theorem dX7_pass_15 : decode cX7_pass 15 = .ok (.dup, 1) := by decide +kernel
theorem dX7_pass_16 : decode cX7_pass 16 = .ok (.getfield 19, 3) := by decide +kernel
theorem dX7_pass_19 : decode cX7_pass 19 = .ok (.iconst 1, 1) := by decide +kernel
theorem dX7_pass_20 : decode cX7_pass 20 = .ok (.iadd, 1) := by decide +kernel
theorem dX7_pass_21 : decode cX7_pass 21 = .ok (.putfield 19, 3) := by decide +kernel
theorem dX7_pass_24 : decode cX7_pass 24 = .ok (.iconst 1, 1) := by decide +kernel
theorem dX7_pass_25 : decode cX7_pass 25 = .ok (.ireturn, 1) := by decide +kernel
theorem dX7_refuse_0 : decode cX7_refuse 0 = .ok (.aload_n 0, 1) := by decide +kernel
theorem dX7_refuse_1 : decode cX7_refuse 1 = .ok (.iload_n 1, 1) := by decide +kernel
theorem dX7_refuse_2 : decode cX7_refuse 2 = .ok (.putfield 92, 3) := by decide +kernel
theorem dX7_refuse_5 : decode cX7_refuse 5 = .ok (.iconst 0, 1) := by decide +kernel
theorem dX7_refuse_6 : decode cX7_refuse 6 = .ok (.ireturn, 1) := by decide +kernel
theorem dX7_next_0 : decode cX7_next 0 = .ok (.aload_n 0, 1) := by decide +kernel
theorem dX7_next_1 : decode cX7_next 1 = .ok (.aload_n 0, 1) := by decide +kernel
theorem dX7_next_2 : decode cX7_next 2 = .ok (.getfield 19, 3) := by decide +kernel
theorem dX7_next_5 : decode cX7_next 5 = .ok (.invokevirtual 89, 3) := by decide +kernel
theorem dX7_next_8 : decode cX7_next 8 = .ok (.ireturn, 1) := by decide +kernel
theorem dX7_byteAt_0 : decode cX7_byteAt 0 = .ok (.iload_n 1, 1) := by decide +kernel
theorem dX7_byteAt_1 : decode cX7_byteAt 1 = .ok (.ifCond .lt 20, 3) := by decide +kernel
theorem dX7_byteAt_4 : decode cX7_byteAt 4 = .ok (.iload_n 1, 1) := by decide +kernel
theorem dX7_byteAt_5 : decode cX7_byteAt 5 = .ok (.aload_n 0, 1) := by decide +kernel
theorem dX7_byteAt_6 : decode cX7_byteAt 6 = .ok (.getfield 15, 3) := by decide +kernel
theorem dX7_byteAt_9 : decode cX7_byteAt 9 = .ok (.if_icmp .ge 12, 3) := by decide +kernel
theorem dX7_byteAt_12 : decode cX7_byteAt 12 = .ok (.aload_n 0, 1) := by decide +kernel
theorem dX7_byteAt_13 : decode cX7_byteAt 13 = .ok (.getfield 9, 3) := by decide +kernel
theorem dX7_byteAt_16 : decode cX7_byteAt 16 = .ok (.iload_n 1, 1) := by decide +kernel
theorem dX7_byteAt_17 : decode cX7_byteAt 17 = .ok (.iaload, 1) := by decide +kernel
theorem dX7_byteAt_18 : decode cX7_byteAt 18 = .ok (.goto 5, 3) := by decide +kernel
theorem dX7_byteAt_21 : decode cX7_byteAt 21 = .ok (.ldc 51, 2) := by decide +kernel
theorem dX7_byteAt_23 : decode cX7_byteAt 23 = .ok (.ireturn, 1) := by decide +kernel
theorem dX8_init_0 : decode cX8_init 0 = .ok (.aload_n 0, 1) := by decide +kernel
theorem dX8_init_1 : decode cX8_init 1 = .ok (.invokespecial 1, 3) := by decide +kernel
theorem dX8_init_4 : decode cX8_init 4 = .ok (.aload_n 0, 1) := by decide +kernel
theorem dX8_init_5 : decode cX8_init 5 = .ok (.new 7, 3) := by decide +kernel
theorem dX8_init_8 : decode cX8_init 8 = .ok (.dup, 1) := by decide +kernel
theorem dX8_init_9 : decode cX8_init 9 = .ok (.invokespecial 9, 3) := by decide +kernel
theorem dX8_init_12 : decode cX8_init 12 = .ok (.putfield 10, 3) := by decide +kernel
theorem dX8_init_15 : decode cX8_init 15 = .ok (.aload_n 0, 1) := by decide +kernel
theorem dX8_init_16 : decode cX8_init 16 = .ok (.new 16, 3) := by decide +kernel
theorem dX8_init_19 : decode cX8_init 19 = .ok (.dup, 1) := by decide +kernel
theorem dX8_init_20 : decode cX8_init 20 = .ok (.invokespecial 18, 3) := by decide +kernel
theorem dX8_init_23 : decode cX8_init 23 = .ok (.putfield 19, 3) := by decide +kernel
theorem dX8_init_26 : decode cX8_init 26 = .ok (.aload_n 0, 1) := by decide +kernel
theorem dX8_init_27 : decode cX8_init 27 = .ok (.new 16, 3) := by decide +kernel
theorem dX8_init_30 : decode cX8_init 30 = .ok (.dup, 1) := by decide +kernel
theorem dX8_init_31 : decode cX8_init 31 = .ok (.invokespecial 18, 3) := by decide +kernel
theorem dX8_init_34 : decode cX8_init 34 = .ok (.putfield 23, 3) := by decide +kernel
theorem dX8_init_37 : decode cX8_init 37 = .ok (.aload_n 0, 1) := by decide +kernel
theorem dX8_init_38 : decode cX8_init 38 = .ok (.new 26, 3) := by decide +kernel
theorem dX8_init_41 : decode cX8_init 41 = .ok (.dup, 1) := by decide +kernel
theorem dX8_init_42 : decode cX8_init 42 = .ok (.invokespecial 28, 3) := by decide +kernel
theorem dX8_init_45 : decode cX8_init 45 = .ok (.putfield 29, 3) := by decide +kernel
theorem dX8_init_48 : decode cX8_init 48 = .ok (.aload_n 0, 1) := by decide +kernel
theorem dX8_init_49 : decode cX8_init 49 = .ok (.iconst 2, 1) := by decide +kernel
theorem dX8_init_50 : decode cX8_init 50 = .ok (.anewarray 16, 3) := by decide +kernel
theorem dX8_init_53 : decode cX8_init 53 = .ok (.dup, 1) := by decide +kernel
theorem dX8_init_54 : decode cX8_init 54 = .ok (.iconst 0, 1) := by decide +kernel
theorem dX8_init_55 : decode cX8_init 55 = .ok (.new 16, 3) := by decide +kernel
theorem dX8_init_58 : decode cX8_init 58 = .ok (.dup, 1) := by decide +kernel
theorem dX8_init_59 : decode cX8_init 59 = .ok (.invokespecial 18, 3) := by decide +kernel
theorem dX8_init_62 : decode cX8_init 62 = .ok (.aastore, 1) := by decide +kernel
theorem dX8_init_63 : decode cX8_init 63 = .ok (.dup, 1) := by decide +kernel
theorem dX8_init_64 : decode cX8_init 64 = .ok (.iconst 1, 1) := by decide +kernel
theorem dX8_init_65 : decode cX8_init 65 = .ok (.new 16, 3) := by decide +kernel
theorem dX8_init_68 : decode cX8_init 68 = .ok (.dup, 1) := by decide +kernel
theorem dX8_init_69 : decode cX8_init 69 = .ok (.invokespecial 18, 3) := by decide +kernel
theorem dX8_init_72 : decode cX8_init 72 = .ok (.aastore, 1) := by decide +kernel
theorem dX8_init_73 : decode cX8_init 73 = .ok (.putfield 33, 3) := by decide +kernel
theorem dX8_init_76 : decode cX8_init 76 = .ok (.aload_n 0, 1) := by decide +kernel
theorem dX8_init_77 : decode cX8_init 77 = .ok (.new 37, 3) := by decide +kernel
theorem dX8_init_80 : decode cX8_init 80 = .ok (.dup, 1) := by decide +kernel
theorem dX8_init_81 : decode cX8_init 81 = .ok (.invokespecial 39, 3) := by decide +kernel
theorem dX8_init_84 : decode cX8_init 84 = .ok (.putfield 40, 3) := by decide +kernel
theorem dX8_init_87 : decode cX8_init 87 = .ok (.aload_n 0, 1) := by decide +kernel
theorem dX8_init_88 : decode cX8_init 88 = .ok (.new 44, 3) := by decide +kernel
theorem dX8_init_91 : decode cX8_init 91 = .ok (.dup, 1) := by decide +kernel
theorem dX8_init_92 : decode cX8_init 92 = .ok (.invokespecial 46, 3) := by decide +kernel
theorem dX8_init_95 : decode cX8_init 95 = .ok (.putfield 47, 3) := by decide +kernel
theorem dX8_init_98 : decode cX8_init 98 = .ok (.aload_n 0, 1) := by decide +kernel
theorem dX8_init_99 : decode cX8_init 99 = .ok (.new 51, 3) := by decide +kernel
theorem dX8_init_102 : decode cX8_init 102 = .ok (.dup, 1) := by decide +kernel
theorem dX8_init_103 : decode cX8_init 103 = .ok (.invokespecial 53, 3) := by decide +kernel
theorem dX8_init_106 : decode cX8_init 106 = .ok (.putfield 54, 3) := by decide +kernel
theorem dX8_init_109 : decode cX8_init 109 = .ok (.aload_n 0, 1) := by decide +kernel
theorem dX8_init_110 : decode cX8_init 110 = .ok (.new 58, 3) := by decide +kernel
theorem dX8_init_113 : decode cX8_init 113 = .ok (.dup, 1) := by decide +kernel
theorem dX8_init_114 : decode cX8_init 114 = .ok (.invokespecial 60, 3) := by decide +kernel
theorem dX8_init_117 : decode cX8_init 117 = .ok (.putfield 61, 3) := by decide +kernel
theorem dX8_init_120 : decode cX8_init 120 = .ok (.return_, 1) := by decide +kernel
theorem dX8_feed_0 : decode cX8_feed 0 = .ok (.iload_n 1, 1) := by decide +kernel
theorem dX8_feed_1 : decode cX8_feed 1 = .ok (.ifCond .lt 10, 3) := by decide +kernel
theorem dX8_feed_4 : decode cX8_feed 4 = .ok (.iload_n 1, 1) := by decide +kernel
theorem dX8_feed_5 : decode cX8_feed 5 = .ok (.sipush 255, 3) := by decide +kernel
theorem dX8_feed_8 : decode cX8_feed 8 = .ok (.if_icmp .le 6, 3) := by decide +kernel
theorem dX8_feed_11 : decode cX8_feed 11 = .ok (.ldc 65, 2) := by decide +kernel
theorem dX8_feed_13 : decode cX8_feed 13 = .ok (.ireturn, 1) := by decide +kernel
theorem dX8_feed_14 : decode cX8_feed 14 = .ok (.aload_n 0, 1) := by decide +kernel
theorem dX8_feed_15 : decode cX8_feed 15 = .ok (.getfield 10, 3) := by decide +kernel
theorem dX8_feed_18 : decode cX8_feed 18 = .ok (.iload_n 1, 1) := by decide +kernel
theorem dX8_feed_19 : decode cX8_feed 19 = .ok (.invokevirtual 66, 3) := by decide +kernel
theorem dX8_feed_22 : decode cX8_feed 22 = .ok (.ifCond .eq 13, 3) := by decide +kernel
theorem dX8_feed_25 : decode cX8_feed 25 = .ok (.aload_n 0, 1) := by decide +kernel
theorem dX8_feed_26 : decode cX8_feed 26 = .ok (.getfield 10, 3) := by decide +kernel
theorem dX8_feed_29 : decode cX8_feed 29 = .ok (.getfield 70, 3) := by decide +kernel
theorem dX8_feed_32 : decode cX8_feed 32 = .ok (.goto 5, 3) := by decide +kernel
theorem dX8_feed_35 : decode cX8_feed 35 = .ok (.ldc 74, 2) := by decide +kernel
theorem dX8_feed_37 : decode cX8_feed 37 = .ok (.ireturn, 1) := by decide +kernel
theorem dX8_book_0 : decode cX8_book 0 = .ok (.aload_n 0, 1) := by decide +kernel
theorem dX8_book_1 : decode cX8_book 1 = .ok (.getfield 10, 3) := by decide +kernel
theorem dX8_book_4 : decode cX8_book 4 = .ok (.aload_n 0, 1) := by decide +kernel
theorem dX8_book_5 : decode cX8_book 5 = .ok (.getfield 23, 3) := by decide +kernel
theorem dX8_book_8 : decode cX8_book 8 = .ok (.invokevirtual 75, 3) := by decide +kernel
theorem dX8_book_11 : decode cX8_book 11 = .ok (.ifCond .ne 14, 3) := by decide +kernel
theorem dX8_book_14 : decode cX8_book 14 = .ok (.ldc 79, 2) := by decide +kernel
theorem dX8_book_16 : decode cX8_book 16 = .ok (.aload_n 0, 1) := by decide +kernel
theorem dX8_book_17 : decode cX8_book 17 = .ok (.getfield 10, 3) := by decide +kernel
theorem dX8_book_20 : decode cX8_book 20 = .ok (.getfield 80, 3) := by decide +kernel
theorem dX8_book_23 : decode cX8_book 23 = .ok (.isub, 1) := by decide +kernel
theorem dX8_book_24 : decode cX8_book 24 = .ok (.ireturn, 1) := by decide +kernel
theorem dX8_book_25 : decode cX8_book 25 = .ok (.aload_n 0, 1) := by decide +kernel
theorem dX8_book_26 : decode cX8_book 26 = .ok (.getfield 19, 3) := by decide +kernel
theorem dX8_book_29 : decode cX8_book 29 = .ok (.aload_n 0, 1) := by decide +kernel
