theorem dX9_lab_38 : decode cX9_lab 38 = .ok (.aload_n 0, 1) := by decide +kernel
theorem dX9_lab_39 : decode cX9_lab 39 = .ok (.invokevirtual 197, 3) := by decide +kernel
theorem dX9_lab_42 : decode cX9_lab 42 = .ok (.iadd, 1) := by decide +kernel
theorem dX9_lab_43 : decode cX9_lab 43 = .ok (.iadd, 1) := by decide +kernel
theorem dX9_lab_44 : decode cX9_lab 44 = .ok (.iastore, 1) := by decide +kernel
theorem dX9_lab_45 : decode cX9_lab 45 = .ok (.aload_n 0, 1) := by decide +kernel
theorem dX9_lab_46 : decode cX9_lab 46 = .ok (.getfield 7, 3) := by decide +kernel
theorem dX9_lab_49 : decode cX9_lab 49 = .ok (.bipush 6, 2) := by decide +kernel
theorem dX9_lab_51 : decode cX9_lab 51 = .ok (.iconst 0, 1) := by decide +kernel
theorem dX9_lab_52 : decode cX9_lab 52 = .ok (.iastore, 1) := by decide +kernel
theorem dX9_lab_53 : decode cX9_lab 53 = .ok (.iload_n 1, 1) := by decide +kernel
theorem dX9_lab_54 : decode cX9_lab 54 = .ok (.ireturn, 1) := by decide +kernel
theorem dX9_again_0 : decode cX9_again 0 = .ok (.aload_n 0, 1) := by decide +kernel
theorem dX9_again_1 : decode cX9_again 1 = .ok (.iload_n 1, 1) := by decide +kernel
theorem dX9_again_2 : decode cX9_again 2 = .ok (.invokevirtual 190, 3) := by decide +kernel
theorem dX9_again_5 : decode cX9_again 5 = .ok (.ifCond .ne 6, 3) := by decide +kernel
theorem dX9_again_8 : decode cX9_again 8 = .ok (.ldc 156, 2) := by decide +kernel
theorem dX9_again_10 : decode cX9_again 10 = .ok (.ireturn, 1) := by decide +kernel
theorem dX9_again_11 : decode cX9_again 11 = .ok (.aload_n 0, 1) := by decide +kernel
theorem dX9_again_12 : decode cX9_again 12 = .ok (.getfield 7, 3) := by decide +kernel
theorem dX9_again_15 : decode cX9_again 15 = .ok (.iload_n 1, 1) := by decide +kernel
theorem dX9_again_16 : decode cX9_again 16 = .ok (.invokestatic 66, 3) := by decide +kernel
theorem dX9_again_19 : decode cX9_again 19 = .ok (.ifCond .eq 6, 3) := by decide +kernel
theorem dX9_again_22 : decode cX9_again 22 = .ok (.ldc 182, 2) := by decide +kernel
theorem dX9_again_24 : decode cX9_again 24 = .ok (.ireturn, 1) := by decide +kernel
theorem dX9_again_25 : decode cX9_again 25 = .ok (.aload_n 0, 1) := by decide +kernel
theorem dX9_again_26 : decode cX9_again 26 = .ok (.invokevirtual 187, 3) := by decide +kernel
theorem dX9_again_29 : decode cX9_again 29 = .ok (.aload_n 0, 1) := by decide +kernel
theorem dX9_again_30 : decode cX9_again 30 = .ok (.getfield 7, 3) := by decide +kernel
theorem dX9_again_33 : decode cX9_again 33 = .ok (.bipush 41, 2) := by decide +kernel
theorem dX9_again_35 : decode cX9_again 35 = .ok (.iconst 3, 1) := by decide +kernel
theorem dX9_again_36 : decode cX9_again 36 = .ok (.iload_n 1, 1) := by decide +kernel
theorem dX9_again_37 : decode cX9_again 37 = .ok (.imul, 1) := by decide +kernel
theorem dX9_again_38 : decode cX9_again 38 = .ok (.iadd, 1) := by decide +kernel
theorem dX9_again_39 : decode cX9_again 39 = .ok (.iconst 2, 1) := by decide +kernel
theorem dX9_again_40 : decode cX9_again 40 = .ok (.iadd, 1) := by decide +kernel
theorem dX9_again_41 : decode cX9_again 41 = .ok (.iaload, 1) := by decide +kernel
theorem dX9_again_42 : decode cX9_again 42 = .ok (.istore_n 2, 1) := by decide +kernel
theorem dX9_again_43 : decode cX9_again 43 = .ok (.aload_n 0, 1) := by decide +kernel
theorem dX9_again_44 : decode cX9_again 44 = .ok (.getfield 7, 3) := by decide +kernel
theorem dX9_again_47 : decode cX9_again 47 = .ok (.bipush 41, 2) := by decide +kernel
theorem dX9_again_49 : decode cX9_again 49 = .ok (.iconst 3, 1) := by decide +kernel
theorem dX9_again_50 : decode cX9_again 50 = .ok (.iload_n 1, 1) := by decide +kernel
theorem dX9_again_51 : decode cX9_again 51 = .ok (.imul, 1) := by decide +kernel
theorem dX9_again_52 : decode cX9_again 52 = .ok (.iadd, 1) := by decide +kernel
theorem dX9_again_53 : decode cX9_again 53 = .ok (.iconst 2, 1) := by decide +kernel
theorem dX9_again_54 : decode cX9_again 54 = .ok (.iadd, 1) := by decide +kernel
theorem dX9_again_55 : decode cX9_again 55 = .ok (.iconst (-1), 1) := by decide +kernel
theorem dX9_again_56 : decode cX9_again 56 = .ok (.iastore, 1) := by decide +kernel
theorem dX9_again_57 : decode cX9_again 57 = .ok (.aload_n 0, 1) := by decide +kernel
theorem dX9_again_58 : decode cX9_again 58 = .ok (.getfield 7, 3) := by decide +kernel
theorem dX9_again_61 : decode cX9_again 61 = .ok (.bipush 8, 2) := by decide +kernel
theorem dX9_again_63 : decode cX9_again 63 = .ok (.dup2, 1) := by decide +kernel
theorem dX9_again_64 : decode cX9_again 64 = .ok (.iaload, 1) := by decide +kernel
theorem dX9_again_65 : decode cX9_again 65 = .ok (.aload_n 0, 1) := by decide +kernel
theorem dX9_again_66 : decode cX9_again 66 = .ok (.getfield 7, 3) := by decide +kernel
theorem dX9_again_69 : decode cX9_again 69 = .ok (.bipush 41, 2) := by decide +kernel
theorem dX9_again_71 : decode cX9_again 71 = .ok (.iconst 3, 1) := by decide +kernel
theorem dX9_again_72 : decode cX9_again 72 = .ok (.iload_n 1, 1) := by decide +kernel
theorem dX9_again_73 : decode cX9_again 73 = .ok (.imul, 1) := by decide +kernel
theorem dX9_again_74 : decode cX9_again 74 = .ok (.iadd, 1) := by decide +kernel
theorem dX9_again_75 : decode cX9_again 75 = .ok (.iconst 1, 1) := by decide +kernel
theorem dX9_again_76 : decode cX9_again 76 = .ok (.iadd, 1) := by decide +kernel
theorem dX9_again_77 : decode cX9_again 77 = .ok (.iaload, 1) := by decide +kernel
theorem dX9_again_78 : decode cX9_again 78 = .ok (.isub, 1) := by decide +kernel
theorem dX9_again_79 : decode cX9_again 79 = .ok (.iastore, 1) := by decide +kernel
theorem dX9_again_80 : decode cX9_again 80 = .ok (.aload_n 0, 1) := by decide +kernel
theorem dX9_again_81 : decode cX9_again 81 = .ok (.getfield 7, 3) := by decide +kernel
theorem dX9_again_84 : decode cX9_again 84 = .ok (.bipush 9, 2) := by decide +kernel
theorem dX9_again_86 : decode cX9_again 86 = .ok (.dup2, 1) := by decide +kernel
theorem dX9_again_87 : decode cX9_again 87 = .ok (.iaload, 1) := by decide +kernel
theorem dX9_again_88 : decode cX9_again 88 = .ok (.aload_n 0, 1) := by decide +kernel
theorem dX9_again_89 : decode cX9_again 89 = .ok (.getfield 7, 3) := by decide +kernel
theorem dX9_again_92 : decode cX9_again 92 = .ok (.bipush 41, 2) := by decide +kernel
theorem dX9_again_94 : decode cX9_again 94 = .ok (.iconst 3, 1) := by decide +kernel
theorem dX9_again_95 : decode cX9_again 95 = .ok (.iload_n 1, 1) := by decide +kernel
theorem dX9_again_96 : decode cX9_again 96 = .ok (.imul, 1) := by decide +kernel
theorem dX9_again_97 : decode cX9_again 97 = .ok (.iadd, 1) := by decide +kernel
theorem dX9_again_98 : decode cX9_again 98 = .ok (.iconst 1, 1) := by decide +kernel
theorem dX9_again_99 : decode cX9_again 99 = .ok (.iadd, 1) := by decide +kernel
theorem dX9_again_100 : decode cX9_again 100 = .ok (.iaload, 1) := by decide +kernel
theorem dX9_again_101 : decode cX9_again 101 = .ok (.iadd, 1) := by decide +kernel
theorem dX9_again_102 : decode cX9_again 102 = .ok (.iastore, 1) := by decide +kernel
theorem dX9_again_103 : decode cX9_again 103 = .ok (.iload_n 2, 1) := by decide +kernel
theorem dX9_again_104 : decode cX9_again 104 = .ok (.ireturn, 1) := by decide +kernel
theorem dX9_buy_0 : decode cX9_buy 0 = .ok (.aload_n 0, 1) := by decide +kernel
theorem dX9_buy_1 : decode cX9_buy 1 = .ok (.invokevirtual 200, 3) := by decide +kernel
theorem dX9_buy_4 : decode cX9_buy 4 = .ok (.ifCond .ne 6, 3) := by decide +kernel
theorem dX9_buy_7 : decode cX9_buy 7 = .ok (.ldc 182, 2) := by decide +kernel
theorem dX9_buy_9 : decode cX9_buy 9 = .ok (.ireturn, 1) := by decide +kernel
theorem dX9_buy_10 : decode cX9_buy 10 = .ok (.iload_n 1, 1) := by decide +kernel
theorem dX9_buy_11 : decode cX9_buy 11 = .ok (.i2l, 1) := by decide +kernel
theorem dX9_buy_12 : decode cX9_buy 12 = .ok (.lconst 1, 1) := by decide +kernel
theorem dX9_buy_13 : decode cX9_buy 13 = .ok (.ldc2_w 203, 3) := by decide +kernel
theorem dX9_buy_16 : decode cX9_buy 16 = .ok (.invokestatic 47, 3) := by decide +kernel
theorem dX9_buy_19 : decode cX9_buy 19 = .ok (.ifCond .eq 15, 3) := by decide +kernel
theorem dX9_buy_22 : decode cX9_buy 22 = .ok (.iload_n 2, 1) := by decide +kernel
theorem dX9_buy_23 : decode cX9_buy 23 = .ok (.i2l, 1) := by decide +kernel
theorem dX9_buy_24 : decode cX9_buy 24 = .ok (.lconst 1, 1) := by decide +kernel
theorem dX9_buy_25 : decode cX9_buy 25 = .ok (.ldc2_w 205, 3) := by decide +kernel
theorem dX9_buy_28 : decode cX9_buy 28 = .ok (.invokestatic 47, 3) := by decide +kernel
theorem dX9_buy_31 : decode cX9_buy 31 = .ok (.ifCond .ne 6, 3) := by decide +kernel
theorem dX9_buy_34 : decode cX9_buy 34 = .ok (.ldc 156, 2) := by decide +kernel
theorem dX9_buy_36 : decode cX9_buy 36 = .ok (.ireturn, 1) := by decide +kernel
theorem dX9_buy_37 : decode cX9_buy 37 = .ok (.aload_n 0, 1) := by decide +kernel
theorem dX9_buy_38 : decode cX9_buy 38 = .ok (.getfield 7, 3) := by decide +kernel
theorem dX9_buy_41 : decode cX9_buy 41 = .ok (.iconst 4, 1) := by decide +kernel
theorem dX9_buy_42 : decode cX9_buy 42 = .ok (.iaload, 1) := by decide +kernel
theorem dX9_buy_43 : decode cX9_buy 43 = .ok (.bipush 6, 2) := by decide +kernel
theorem dX9_buy_45 : decode cX9_buy 45 = .ok (.if_icmp .ne 6, 3) := by decide +kernel
theorem dX9_buy_48 : decode cX9_buy 48 = .ok (.ldc 157, 2) := by decide +kernel
theorem dX9_buy_50 : decode cX9_buy 50 = .ok (.ireturn, 1) := by decide +kernel
theorem dX9_buy_51 : decode cX9_buy 51 = .ok (.aload_n 0, 1) := by decide +kernel
theorem dX9_buy_52 : decode cX9_buy 52 = .ok (.invokevirtual 187, 3) := by decide +kernel
theorem dX9_buy_55 : decode cX9_buy 55 = .ok (.aload_n 0, 1) := by decide +kernel
theorem dX9_buy_56 : decode cX9_buy 56 = .ok (.getfield 7, 3) := by decide +kernel
theorem dX9_buy_59 : decode cX9_buy 59 = .ok (.iload_n 1, 1) := by decide +kernel
theorem dX9_buy_60 : decode cX9_buy 60 = .ok (.iload_n 2, 1) := by decide +kernel
theorem dX9_buy_61 : decode cX9_buy 61 = .ok (.invokestatic 150, 3) := by decide +kernel
theorem dX9_buy_64 : decode cX9_buy 64 = .ok (.aload_n 0, 1) := by decide +kernel
theorem dX9_buy_65 : decode cX9_buy 65 = .ok (.getfield 7, 3) := by decide +kernel
theorem dX9_buy_68 : decode cX9_buy 68 = .ok (.iconst 4, 1) := by decide +kernel
theorem dX9_buy_69 : decode cX9_buy 69 = .ok (.iaload, 1) := by decide +kernel
theorem dX9_buy_70 : decode cX9_buy 70 = .ok (.iconst 1, 1) := by decide +kernel
theorem dX9_buy_71 : decode cX9_buy 71 = .ok (.isub, 1) := by decide +kernel
theorem dX9_buy_72 : decode cX9_buy 72 = .ok (.ireturn, 1) := by decide +kernel
theorem dX9_ask_0 : decode cX9_ask 0 = .ok (.aload_n 0, 1) := by decide +kernel
theorem dX9_ask_1 : decode cX9_ask 1 = .ok (.invokevirtual 200, 3) := by decide +kernel
theorem dX9_ask_4 : decode cX9_ask 4 = .ok (.ifCond .ne 6, 3) := by decide +kernel
theorem dX9_ask_7 : decode cX9_ask 7 = .ok (.ldc 182, 2) := by decide +kernel
theorem dX9_ask_9 : decode cX9_ask 9 = .ok (.ireturn, 1) := by decide +kernel
theorem dX9_ask_10 : decode cX9_ask 10 = .ok (.iload_n 1, 1) := by decide +kernel
theorem dX9_ask_11 : decode cX9_ask 11 = .ok (.i2l, 1) := by decide +kernel
theorem dX9_ask_12 : decode cX9_ask 12 = .ok (.lconst 0, 1) := by decide +kernel
theorem dX9_ask_13 : decode cX9_ask 13 = .ok (.ldc2_w 203, 3) := by decide +kernel
theorem dX9_ask_16 : decode cX9_ask 16 = .ok (.invokestatic 47, 3) := by decide +kernel
theorem dX9_ask_19 : decode cX9_ask 19 = .ok (.ifCond .eq 15, 3) := by decide +kernel
theorem dX9_ask_22 : decode cX9_ask 22 = .ok (.iload_n 2, 1) := by decide +kernel
theorem dX9_ask_23 : decode cX9_ask 23 = .ok (.i2l, 1) := by decide +kernel
theorem dX9_ask_24 : decode cX9_ask 24 = .ok (.lconst 1, 1) := by decide +kernel
theorem dX9_ask_25 : decode cX9_ask 25 = .ok (.ldc2_w 207, 3) := by decide +kernel
theorem dX9_ask_28 : decode cX9_ask 28 = .ok (.invokestatic 47, 3) := by decide +kernel
theorem dX9_ask_31 : decode cX9_ask 31 = .ok (.ifCond .ne 6, 3) := by decide +kernel
theorem dX9_ask_34 : decode cX9_ask 34 = .ok (.ldc 156, 2) := by decide +kernel
theorem dX9_ask_36 : decode cX9_ask 36 = .ok (.ireturn, 1) := by decide +kernel
theorem dX9_ask_37 : decode cX9_ask 37 = .ok (.aload_n 0, 1) := by decide +kernel
theorem dX9_ask_38 : decode cX9_ask 38 = .ok (.getfield 7, 3) := by decide +kernel
theorem dX9_ask_41 : decode cX9_ask 41 = .ok (.iconst 5, 1) := by decide +kernel
theorem dX9_ask_42 : decode cX9_ask 42 = .ok (.iaload, 1) := by decide +kernel
theorem dX9_ask_43 : decode cX9_ask 43 = .ok (.bipush 8, 2) := by decide +kernel
theorem dX9_ask_45 : decode cX9_ask 45 = .ok (.if_icmp .ne 6, 3) := by decide +kernel
theorem dX9_ask_48 : decode cX9_ask 48 = .ok (.ldc 157, 2) := by decide +kernel
theorem dX9_ask_50 : decode cX9_ask 50 = .ok (.ireturn, 1) := by decide +kernel
theorem dX9_ask_51 : decode cX9_ask 51 = .ok (.aload_n 0, 1) := by decide +kernel
theorem dX9_ask_52 : decode cX9_ask 52 = .ok (.invokevirtual 187, 3) := by decide +kernel
theorem dX9_ask_55 : decode cX9_ask 55 = .ok (.bipush 41, 2) := by decide +kernel
theorem dX9_ask_57 : decode cX9_ask 57 = .ok (.iconst 3, 1) := by decide +kernel
theorem dX9_ask_58 : decode cX9_ask 58 = .ok (.aload_n 0, 1) := by decide +kernel
theorem dX9_ask_59 : decode cX9_ask 59 = .ok (.getfield 7, 3) := by decide +kernel
theorem dX9_ask_62 : decode cX9_ask 62 = .ok (.iconst 5, 1) := by decide +kernel
theorem dX9_ask_63 : decode cX9_ask 63 = .ok (.iaload, 1) := by decide +kernel
theorem dX9_ask_64 : decode cX9_ask 64 = .ok (.imul, 1) := by decide +kernel
theorem dX9_ask_65 : decode cX9_ask 65 = .ok (.iadd, 1) := by decide +kernel
theorem dX9_ask_66 : decode cX9_ask 66 = .ok (.istore_n 3, 1) := by decide +kernel
theorem dX9_ask_67 : decode cX9_ask 67 = .ok (.aload_n 0, 1) := by decide +kernel
theorem dX9_ask_68 : decode cX9_ask 68 = .ok (.getfield 7, 3) := by decide +kernel
theorem dX9_ask_71 : decode cX9_ask 71 = .ok (.iload_n 3, 1) := by decide +kernel
theorem dX9_ask_72 : decode cX9_ask 72 = .ok (.iload_n 1, 1) := by decide +kernel
theorem dX9_ask_73 : decode cX9_ask 73 = .ok (.iastore, 1) := by decide +kernel
theorem dX9_ask_74 : decode cX9_ask 74 = .ok (.aload_n 0, 1) := by decide +kernel
theorem dX9_ask_75 : decode cX9_ask 75 = .ok (.getfield 7, 3) := by decide +kernel
theorem dX9_ask_78 : decode cX9_ask 78 = .ok (.iload_n 3, 1) := by decide +kernel
theorem dX9_ask_79 : decode cX9_ask 79 = .ok (.iconst 1, 1) := by decide +kernel
theorem dX9_ask_80 : decode cX9_ask 80 = .ok (.iadd, 1) := by decide +kernel
theorem dX9_ask_81 : decode cX9_ask 81 = .ok (.iload_n 2, 1) := by decide +kernel
theorem dX9_ask_82 : decode cX9_ask 82 = .ok (.iastore, 1) := by decide +kernel
theorem dX9_ask_83 : decode cX9_ask 83 = .ok (.aload_n 0, 1) := by decide +kernel
theorem dX9_ask_84 : decode cX9_ask 84 = .ok (.getfield 7, 3) := by decide +kernel
theorem dX9_ask_87 : decode cX9_ask 87 = .ok (.iload_n 3, 1) := by decide +kernel
theorem dX9_ask_88 : decode cX9_ask 88 = .ok (.iconst 2, 1) := by decide +kernel
theorem dX9_ask_89 : decode cX9_ask 89 = .ok (.iadd, 1) := by decide +kernel
theorem dX9_ask_90 : decode cX9_ask 90 = .ok (.iconst (-1), 1) := by decide +kernel
theorem dX9_ask_91 : decode cX9_ask 91 = .ok (.iastore, 1) := by decide +kernel
theorem dX9_ask_92 : decode cX9_ask 92 = .ok (.aload_n 0, 1) := by decide +kernel
theorem dX9_ask_93 : decode cX9_ask 93 = .ok (.getfield 7, 3) := by decide +kernel
theorem dX9_ask_96 : decode cX9_ask 96 = .ok (.iconst 5, 1) := by decide +kernel
theorem dX9_ask_97 : decode cX9_ask 97 = .ok (.dup2, 1) := by decide +kernel
theorem dX9_ask_98 : decode cX9_ask 98 = .ok (.iaload, 1) := by decide +kernel
theorem dX9_ask_99 : decode cX9_ask 99 = .ok (.iconst 1, 1) := by decide +kernel
theorem dX9_ask_100 : decode cX9_ask 100 = .ok (.iadd, 1) := by decide +kernel
theorem dX9_ask_101 : decode cX9_ask 101 = .ok (.iastore, 1) := by decide +kernel
theorem dX9_ask_102 : decode cX9_ask 102 = .ok (.aload_n 0, 1) := by decide +kernel
theorem dX9_ask_103 : decode cX9_ask 103 = .ok (.getfield 7, 3) := by decide +kernel
theorem dX9_ask_106 : decode cX9_ask 106 = .ok (.iconst 5, 1) := by decide +kernel
theorem dX9_ask_107 : decode cX9_ask 107 = .ok (.iaload, 1) := by decide +kernel
theorem dX9_ask_108 : decode cX9_ask 108 = .ok (.iconst 1, 1) := by decide +kernel
theorem dX9_ask_109 : decode cX9_ask 109 = .ok (.isub, 1) := by decide +kernel
theorem dX9_ask_110 : decode cX9_ask 110 = .ok (.ireturn, 1) := by decide +kernel
theorem dX9_become_0 : decode cX9_become 0 = .ok (.aload_n 0, 1) := by decide +kernel
theorem dX9_become_1 : decode cX9_become 1 = .ok (.iload_n 1, 1) := by decide +kernel
theorem dX9_become_2 : decode cX9_become 2 = .ok (.invokevirtual 183, 3) := by decide +kernel
theorem dX9_become_5 : decode cX9_become 5 = .ok (.ifCond .eq 15, 3) := by decide +kernel
theorem dX9_become_8 : decode cX9_become 8 = .ok (.iload_n 2, 1) := by decide +kernel
theorem dX9_become_9 : decode cX9_become 9 = .ok (.i2l, 1) := by decide +kernel
theorem dX9_become_10 : decode cX9_become 10 = .ok (.lconst 1, 1) := by decide +kernel
theorem dX9_become_11 : decode cX9_become 11 = .ok (.ldc2_w 203, 3) := by decide +kernel
theorem dX9_become_14 : decode cX9_become 14 = .ok (.invokestatic 47, 3) := by decide +kernel
theorem dX9_become_17 : decode cX9_become 17 = .ok (.ifCond .ne 6, 3) := by decide +kernel
theorem dX9_become_20 : decode cX9_become 20 = .ok (.ldc 156, 2) := by decide +kernel
theorem dX9_become_22 : decode cX9_become 22 = .ok (.ireturn, 1) := by decide +kernel
theorem dX9_become_23 : decode cX9_become 23 = .ok (.aload_n 0, 1) := by decide +kernel
theorem dX9_become_24 : decode cX9_become 24 = .ok (.getfield 7, 3) := by decide +kernel
theorem dX9_become_27 : decode cX9_become 27 = .ok (.iload_n 1, 1) := by decide +kernel
theorem dX9_become_28 : decode cX9_become 28 = .ok (.invokestatic 51, 3) := by decide +kernel
theorem dX9_become_31 : decode cX9_become 31 = .ok (.istore_n 3, 1) := by decide +kernel
theorem dX9_become_32 : decode cX9_become 32 = .ok (.iload_n 3, 1) := by decide +kernel
theorem dX9_become_33 : decode cX9_become 33 = .ok (.iload_n 2, 1) := by decide +kernel
theorem dX9_become_34 : decode cX9_become 34 = .ok (.if_icmp .eq 14, 3) := by decide +kernel
theorem dX9_become_37 : decode cX9_become 37 = .ok (.aload_n 0, 1) := by decide +kernel
theorem dX9_become_38 : decode cX9_become 38 = .ok (.getfield 7, 3) := by decide +kernel
theorem dX9_become_41 : decode cX9_become 41 = .ok (.iload_n 1, 1) := by decide +kernel
theorem dX9_become_42 : decode cX9_become 42 = .ok (.invokestatic 63, 3) := by decide +kernel
theorem dX9_become_45 : decode cX9_become 45 = .ok (.ifCond .eq 6, 3) := by decide +kernel
theorem dX9_become_48 : decode cX9_become 48 = .ok (.ldc 182, 2) := by decide +kernel
theorem dX9_become_50 : decode cX9_become 50 = .ok (.ireturn, 1) := by decide +kernel
theorem dX9_become_51 : decode cX9_become 51 = .ok (.aload_n 0, 1) := by decide +kernel
theorem dX9_become_52 : decode cX9_become 52 = .ok (.invokevirtual 187, 3) := by decide +kernel
theorem dX9_become_55 : decode cX9_become 55 = .ok (.aload_n 0, 1) := by decide +kernel
theorem dX9_become_56 : decode cX9_become 56 = .ok (.getfield 7, 3) := by decide +kernel
theorem dX9_become_59 : decode cX9_become 59 = .ok (.bipush 13, 2) := by decide +kernel
theorem dX9_become_61 : decode cX9_become 61 = .ok (.iconst 4, 1) := by decide +kernel
theorem dX9_become_62 : decode cX9_become 62 = .ok (.iload_n 1, 1) := by decide +kernel
theorem dX9_become_63 : decode cX9_become 63 = .ok (.imul, 1) := by decide +kernel
theorem dX9_become_64 : decode cX9_become 64 = .ok (.iadd, 1) := by decide +kernel
theorem dX9_become_65 : decode cX9_become 65 = .ok (.iload_n 2, 1) := by decide +kernel
theorem dX9_become_66 : decode cX9_become 66 = .ok (.iastore, 1) := by decide +kernel
theorem dX9_become_67 : decode cX9_become 67 = .ok (.iload_n 3, 1) := by decide +kernel
theorem dX9_become_68 : decode cX9_become 68 = .ok (.ireturn, 1) := by decide +kernel
theorem dX9_demand_0 : decode cX9_demand 0 = .ok (.aload_n 0, 1) := by decide +kernel
theorem dX9_demand_1 : decode cX9_demand 1 = .ok (.iload_n 1, 1) := by decide +kernel
theorem dX9_demand_2 : decode cX9_demand 2 = .ok (.invokevirtual 190, 3) := by decide +kernel
theorem dX9_demand_5 : decode cX9_demand 5 = .ok (.ifCond .eq 27, 3) := by decide +kernel
theorem dX9_demand_8 : decode cX9_demand 8 = .ok (.iload_n 2, 1) := by decide +kernel
theorem dX9_demand_9 : decode cX9_demand 9 = .ok (.i2l, 1) := by decide +kernel
theorem dX9_demand_10 : decode cX9_demand 10 = .ok (.lconst 0, 1) := by decide +kernel
theorem dX9_demand_11 : decode cX9_demand 11 = .ok (.ldc2_w 203, 3) := by decide +kernel
theorem dX9_demand_14 : decode cX9_demand 14 = .ok (.invokestatic 47, 3) := by decide +kernel
theorem dX9_demand_17 : decode cX9_demand 17 = .ok (.ifCond .eq 15, 3) := by decide +kernel
theorem dX9_demand_20 : decode cX9_demand 20 = .ok (.iload_n 3, 1) := by decide +kernel
theorem dX9_demand_21 : decode cX9_demand 21 = .ok (.i2l, 1) := by decide +kernel
theorem dX9_demand_22 : decode cX9_demand 22 = .ok (.lconst 1, 1) := by decide +kernel
theorem dX9_demand_23 : decode cX9_demand 23 = .ok (.ldc2_w 207, 3) := by decide +kernel
theorem dX9_demand_26 : decode cX9_demand 26 = .ok (.invokestatic 47, 3) := by decide +kernel
theorem dX9_demand_29 : decode cX9_demand 29 = .ok (.ifCond .ne 6, 3) := by decide +kernel
theorem dX9_demand_32 : decode cX9_demand 32 = .ok (.ldc 156, 2) := by decide +kernel
theorem dX9_demand_34 : decode cX9_demand 34 = .ok (.ireturn, 1) := by decide +kernel
theorem dX9_demand_35 : decode cX9_demand 35 = .ok (.aload_n 0, 1) := by decide +kernel
theorem dX9_demand_36 : decode cX9_demand 36 = .ok (.getfield 7, 3) := by decide +kernel
theorem dX9_demand_39 : decode cX9_demand 39 = .ok (.iload_n 1, 1) := by decide +kernel
theorem dX9_demand_40 : decode cX9_demand 40 = .ok (.invokestatic 66, 3) := by decide +kernel
theorem dX9_demand_43 : decode cX9_demand 43 = .ok (.ifCond .ne 6, 3) := by decide +kernel
theorem dX9_demand_46 : decode cX9_demand 46 = .ok (.ldc 182, 2) := by decide +kernel
theorem dX9_demand_48 : decode cX9_demand 48 = .ok (.ireturn, 1) := by decide +kernel
theorem dX9_demand_49 : decode cX9_demand 49 = .ok (.aload_n 0, 1) := by decide +kernel
theorem dX9_demand_50 : decode cX9_demand 50 = .ok (.invokevirtual 187, 3) := by decide +kernel
theorem dX9_demand_53 : decode cX9_demand 53 = .ok (.aload_n 0, 1) := by decide +kernel
theorem dX9_demand_54 : decode cX9_demand 54 = .ok (.getfield 7, 3) := by decide +kernel
theorem dX9_demand_57 : decode cX9_demand 57 = .ok (.bipush 41, 2) := by decide +kernel
theorem dX9_demand_59 : decode cX9_demand 59 = .ok (.iconst 3, 1) := by decide +kernel
theorem dX9_demand_60 : decode cX9_demand 60 = .ok (.iload_n 1, 1) := by decide +kernel
theorem dX9_demand_61 : decode cX9_demand 61 = .ok (.imul, 1) := by decide +kernel
theorem dX9_demand_62 : decode cX9_demand 62 = .ok (.iadd, 1) := by decide +kernel
theorem dX9_demand_63 : decode cX9_demand 63 = .ok (.iconst 1, 1) := by decide +kernel
theorem dX9_demand_64 : decode cX9_demand 64 = .ok (.iadd, 1) := by decide +kernel
theorem dX9_demand_65 : decode cX9_demand 65 = .ok (.iaload, 1) := by decide +kernel
theorem dX9_demand_66 : decode cX9_demand 66 = .ok (.istore 4, 2) := by decide +kernel
theorem dX9_demand_68 : decode cX9_demand 68 = .ok (.aload_n 0, 1) := by decide +kernel
theorem dX9_demand_69 : decode cX9_demand 69 = .ok (.getfield 7, 3) := by decide +kernel
theorem dX9_demand_72 : decode cX9_demand 72 = .ok (.bipush 41, 2) := by decide +kernel
theorem dX9_demand_74 : decode cX9_demand 74 = .ok (.iconst 3, 1) := by decide +kernel
theorem dX9_demand_75 : decode cX9_demand 75 = .ok (.iload_n 1, 1) := by decide +kernel
theorem dX9_demand_76 : decode cX9_demand 76 = .ok (.imul, 1) := by decide +kernel
theorem dX9_demand_77 : decode cX9_demand 77 = .ok (.iadd, 1) := by decide +kernel
theorem dX9_demand_78 : decode cX9_demand 78 = .ok (.iload_n 2, 1) := by decide +kernel
theorem dX9_demand_79 : decode cX9_demand 79 = .ok (.iastore, 1) := by decide +kernel
theorem dX9_demand_80 : decode cX9_demand 80 = .ok (.aload_n 0, 1) := by decide +kernel
theorem dX9_demand_81 : decode cX9_demand 81 = .ok (.getfield 7, 3) := by decide +kernel
theorem dX9_demand_84 : decode cX9_demand 84 = .ok (.bipush 41, 2) := by decide +kernel
theorem dX9_demand_86 : decode cX9_demand 86 = .ok (.iconst 3, 1) := by decide +kernel
theorem dX9_demand_87 : decode cX9_demand 87 = .ok (.iload_n 1, 1) := by decide +kernel
theorem dX9_demand_88 : decode cX9_demand 88 = .ok (.imul, 1) := by decide +kernel
theorem dX9_demand_89 : decode cX9_demand 89 = .ok (.iadd, 1) := by decide +kernel
theorem dX9_demand_90 : decode cX9_demand 90 = .ok (.iconst 1, 1) := by decide +kernel
theorem dX9_demand_91 : decode cX9_demand 91 = .ok (.iadd, 1) := by decide +kernel
theorem dX9_demand_92 : decode cX9_demand 92 = .ok (.iload_n 3, 1) := by decide +kernel
theorem dX9_demand_93 : decode cX9_demand 93 = .ok (.iastore, 1) := by decide +kernel
theorem dX9_demand_94 : decode cX9_demand 94 = .ok (.iload 4, 2) := by decide +kernel
theorem dX9_demand_96 : decode cX9_demand 96 = .ok (.ireturn, 1) := by decide +kernel
theorem dX9_law_0 : decode cX9_law 0 = .ok (.aload_n 0, 1) := by decide +kernel
theorem dX9_law_1 : decode cX9_law 1 = .ok (.invokevirtual 200, 3) := by decide +kernel
theorem dX9_law_4 : decode cX9_law 4 = .ok (.ifCond .ne 6, 3) := by decide +kernel
theorem dX9_law_7 : decode cX9_law 7 = .ok (.ldc 182, 2) := by decide +kernel
theorem dX9_law_9 : decode cX9_law 9 = .ok (.ireturn, 1) := by decide +kernel
theorem dX9_law_10 : decode cX9_law 10 = .ok (.iload_n 1, 1) := by decide +kernel
theorem dX9_law_11 : decode cX9_law 11 = .ok (.ifCond .ne 15, 3) := by decide +kernel
theorem dX9_law_14 : decode cX9_law 14 = .ok (.iload_n 2, 1) := by decide +kernel
theorem dX9_law_15 : decode cX9_law 15 = .ok (.i2l, 1) := by decide +kernel
theorem dX9_law_16 : decode cX9_law 16 = .ok (.lconst 0, 1) := by decide +kernel
theorem dX9_law_17 : decode cX9_law 17 = .ok (.ldc2_w 209, 3) := by decide +kernel
theorem dX9_law_20 : decode cX9_law 20 = .ok (.invokestatic 47, 3) := by decide +kernel
theorem dX9_law_23 : decode cX9_law 23 = .ok (.ifCond .ne 56, 3) := by decide +kernel
theorem dX9_law_26 : decode cX9_law 26 = .ok (.iload_n 1, 1) := by decide +kernel
theorem dX9_law_27 : decode cX9_law 27 = .ok (.iconst 1, 1) := by decide +kernel
theorem dX9_law_28 : decode cX9_law 28 = .ok (.if_icmp .ne 15, 3) := by decide +kernel
theorem dX9_law_31 : decode cX9_law 31 = .ok (.iload_n 2, 1) := by decide +kernel
theorem dX9_law_32 : decode cX9_law 32 = .ok (.i2l, 1) := by decide +kernel
theorem dX9_law_33 : decode cX9_law 33 = .ok (.lconst 1, 1) := by decide +kernel
theorem dX9_law_34 : decode cX9_law 34 = .ok (.ldc2_w 211, 3) := by decide +kernel
theorem dX9_law_37 : decode cX9_law 37 = .ok (.invokestatic 47, 3) := by decide +kernel
theorem dX9_law_40 : decode cX9_law 40 = .ok (.ifCond .ne 39, 3) := by decide +kernel
theorem dX9_law_43 : decode cX9_law 43 = .ok (.iload_n 1, 1) := by decide +kernel
theorem dX9_law_44 : decode cX9_law 44 = .ok (.iconst 2, 1) := by decide +kernel
theorem dX9_law_45 : decode cX9_law 45 = .ok (.if_icmp .ne 17, 3) := by decide +kernel
theorem dX9_law_48 : decode cX9_law 48 = .ok (.iload_n 2, 1) := by decide +kernel
theorem dX9_law_49 : decode cX9_law 49 = .ok (.i2l, 1) := by decide +kernel
theorem dX9_law_50 : decode cX9_law 50 = .ok (.ldc2_w 213, 3) := by decide +kernel
theorem dX9_law_53 : decode cX9_law 53 = .ok (.ldc2_w 205, 3) := by decide +kernel
theorem dX9_law_56 : decode cX9_law 56 = .ok (.invokestatic 47, 3) := by decide +kernel
theorem dX9_law_59 : decode cX9_law 59 = .ok (.ifCond .ne 20, 3) := by decide +kernel
theorem dX9_law_62 : decode cX9_law 62 = .ok (.iload_n 1, 1) := by decide +kernel
theorem dX9_law_63 : decode cX9_law 63 = .ok (.iconst 3, 1) := by decide +kernel
theorem dX9_law_64 : decode cX9_law 64 = .ok (.if_icmp .ne 19, 3) := by decide +kernel
theorem dX9_law_67 : decode cX9_law 67 = .ok (.iload_n 2, 1) := by decide +kernel
theorem dX9_law_68 : decode cX9_law 68 = .ok (.i2l, 1) := by decide +kernel
theorem dX9_law_69 : decode cX9_law 69 = .ok (.lconst 0, 1) := by decide +kernel
theorem dX9_law_70 : decode cX9_law 70 = .ok (.ldc2_w 215, 3) := by decide +kernel
theorem dX9_law_73 : decode cX9_law 73 = .ok (.invokestatic 47, 3) := by decide +kernel
theorem dX9_law_76 : decode cX9_law 76 = .ok (.ifCond .eq 7, 3) := by decide +kernel
theorem dX9_law_79 : decode cX9_law 79 = .ok (.iconst 1, 1) := by decide +kernel
theorem dX9_law_80 : decode cX9_law 80 = .ok (.goto 4, 3) := by decide +kernel
theorem dX9_law_83 : decode cX9_law 83 = .ok (.iconst 0, 1) := by decide +kernel
theorem dX9_law_84 : decode cX9_law 84 = .ok (.istore_n 3, 1) := by decide +kernel
theorem dX9_law_85 : decode cX9_law 85 = .ok (.iload_n 3, 1) := by decide +kernel
theorem dX9_law_86 : decode cX9_law 86 = .ok (.ifCond .ne 6, 3) := by decide +kernel
theorem dX9_law_89 : decode cX9_law 89 = .ok (.ldc 156, 2) := by decide +kernel
theorem dX9_law_91 : decode cX9_law 91 = .ok (.ireturn, 1) := by decide +kernel
theorem dX9_law_92 : decode cX9_law 92 = .ok (.aload_n 0, 1) := by decide +kernel
theorem dX9_law_93 : decode cX9_law 93 = .ok (.invokevirtual 187, 3) := by decide +kernel
theorem dX9_law_96 : decode cX9_law 96 = .ok (.aload_n 0, 1) := by decide +kernel
theorem dX9_law_97 : decode cX9_law 97 = .ok (.getfield 7, 3) := by decide +kernel
theorem dX9_law_100 : decode cX9_law 100 = .ok (.iload_n 1, 1) := by decide +kernel
theorem dX9_law_101 : decode cX9_law 101 = .ok (.iaload, 1) := by decide +kernel
theorem dX9_law_102 : decode cX9_law 102 = .ok (.istore 4, 2) := by decide +kernel
theorem dX9_law_104 : decode cX9_law 104 = .ok (.aload_n 0, 1) := by decide +kernel
theorem dX9_law_105 : decode cX9_law 105 = .ok (.getfield 7, 3) := by decide +kernel
theorem dX9_law_108 : decode cX9_law 108 = .ok (.iload_n 1, 1) := by decide +kernel
theorem dX9_law_109 : decode cX9_law 109 = .ok (.iload_n 2, 1) := by decide +kernel
theorem dX9_law_110 : decode cX9_law 110 = .ok (.iastore, 1) := by decide +kernel
theorem dX9_law_111 : decode cX9_law 111 = .ok (.iload 4, 2) := by decide +kernel
theorem dX9_law_113 : decode cX9_law 113 = .ok (.ireturn, 1) := by decide +kernel
theorem dX9_shotOn_0 : decode cX9_shotOn 0 = .ok (.iconst 0, 1) := by decide +kernel
theorem dX9_shotOn_1 : decode cX9_shotOn 1 = .ok (.istore_n 2, 1) := by decide +kernel
theorem dX9_shotOn_2 : decode cX9_shotOn 2 = .ok (.iconst 0, 1) := by decide +kernel
theorem dX9_shotOn_3 : decode cX9_shotOn 3 = .ok (.istore_n 3, 1) := by decide +kernel
theorem dX9_shotOn_4 : decode cX9_shotOn 4 = .ok (.iload_n 3, 1) := by decide +kernel
theorem dX9_shotOn_5 : decode cX9_shotOn 5 = .ok (.aload_n 0, 1) := by decide +kernel
theorem dX9_shotOn_6 : decode cX9_shotOn 6 = .ok (.getfield 7, 3) := by decide +kernel
theorem dX9_shotOn_9 : decode cX9_shotOn 9 = .ok (.iconst 5, 1) := by decide +kernel
theorem dX9_shotOn_10 : decode cX9_shotOn 10 = .ok (.iaload, 1) := by decide +kernel
theorem dX9_shotOn_11 : decode cX9_shotOn 11 = .ok (.if_icmp .ge 36, 3) := by decide +kernel
theorem dX9_shotOn_14 : decode cX9_shotOn 14 = .ok (.iload_n 2, 1) := by decide +kernel
theorem dX9_shotOn_15 : decode cX9_shotOn 15 = .ok (.aload_n 0, 1) := by decide +kernel
theorem dX9_shotOn_16 : decode cX9_shotOn 16 = .ok (.getfield 7, 3) := by decide +kernel
theorem dX9_shotOn_19 : decode cX9_shotOn 19 = .ok (.bipush 41, 2) := by decide +kernel
theorem dX9_shotOn_21 : decode cX9_shotOn 21 = .ok (.iconst 3, 1) := by decide +kernel
theorem dX9_shotOn_22 : decode cX9_shotOn 22 = .ok (.iload_n 3, 1) := by decide +kernel
theorem dX9_shotOn_23 : decode cX9_shotOn 23 = .ok (.imul, 1) := by decide +kernel
theorem dX9_shotOn_24 : decode cX9_shotOn 24 = .ok (.iadd, 1) := by decide +kernel
theorem dX9_shotOn_25 : decode cX9_shotOn 25 = .ok (.iconst 2, 1) := by decide +kernel
theorem dX9_shotOn_26 : decode cX9_shotOn 26 = .ok (.iadd, 1) := by decide +kernel
theorem dX9_shotOn_27 : decode cX9_shotOn 27 = .ok (.iaload, 1) := by decide +kernel
theorem dX9_shotOn_28 : decode cX9_shotOn 28 = .ok (.iload_n 1, 1) := by decide +kernel
theorem dX9_shotOn_29 : decode cX9_shotOn 29 = .ok (.if_icmp .ne 9, 3) := by decide +kernel
theorem dX9_shotOn_32 : decode cX9_shotOn 32 = .ok (.iconst 1, 1) := by decide +kernel
theorem dX9_shotOn_33 : decode cX9_shotOn 33 = .ok (.iload_n 3, 1) := by decide +kernel
theorem dX9_shotOn_34 : decode cX9_shotOn 34 = .ok (.ishl, 1) := by decide +kernel
theorem dX9_shotOn_35 : decode cX9_shotOn 35 = .ok (.goto 4, 3) := by decide +kernel
theorem dX9_shotOn_38 : decode cX9_shotOn 38 = .ok (.iconst 0, 1) := by decide +kernel
theorem dX9_shotOn_39 : decode cX9_shotOn 39 = .ok (.ior, 1) := by decide +kernel
theorem dX9_shotOn_40 : decode cX9_shotOn 40 = .ok (.istore_n 2, 1) := by decide +kernel
theorem dX9_shotOn_41 : decode cX9_shotOn 41 = .ok (.iinc 3 1, 3) := by decide +kernel
theorem dX9_shotOn_44 : decode cX9_shotOn 44 = .ok (.goto (-40), 3) := by decide +kernel
theorem dX9_shotOn_47 : decode cX9_shotOn 47 = .ok (.iload_n 2, 1) := by decide +kernel
theorem dX9_shotOn_48 : decode cX9_shotOn 48 = .ok (.ireturn, 1) := by decide +kernel
theorem dX9_can_0 : decode cX9_can 0 = .ok (.aload_n 0, 1) := by decide +kernel
theorem dX9_can_1 : decode cX9_can 1 = .ok (.iload_n 1, 1) := by decide +kernel
theorem dX9_can_2 : decode cX9_can 2 = .ok (.invokevirtual 183, 3) := by decide +kernel
theorem dX9_can_5 : decode cX9_can 5 = .ok (.ifCond .ne 6, 3) := by decide +kernel
theorem dX9_can_8 : decode cX9_can 8 = .ok (.ldc 156, 2) := by decide +kernel
theorem dX9_can_10 : decode cX9_can 10 = .ok (.ireturn, 1) := by decide +kernel
theorem dX9_can_11 : decode cX9_can 11 = .ok (.iload_n 2, 1) := by decide +kernel
theorem dX9_can_12 : decode cX9_can 12 = .ok (.tableswitch 95 0 7 #[48, 48, 48, 48, 62, 68, 77, 86], 48) := by decide +kernel
theorem dX9_can_60 : decode cX9_can 60 = .ok (.aload_n 0, 1) := by decide +kernel
theorem dX9_can_61 : decode cX9_can 61 = .ok (.getfield 7, 3) := by decide +kernel
theorem dX9_can_64 : decode cX9_can 64 = .ok (.bipush 13, 2) := by decide +kernel
theorem dX9_can_66 : decode cX9_can 66 = .ok (.iconst 4, 1) := by decide +kernel
theorem dX9_can_67 : decode cX9_can 67 = .ok (.iload_n 1, 1) := by decide +kernel
theorem dX9_can_68 : decode cX9_can 68 = .ok (.imul, 1) := by decide +kernel
theorem dX9_can_69 : decode cX9_can 69 = .ok (.iadd, 1) := by decide +kernel
theorem dX9_can_70 : decode cX9_can 70 = .ok (.iload_n 2, 1) := by decide +kernel
theorem dX9_can_71 : decode cX9_can 71 = .ok (.iadd, 1) := by decide +kernel
theorem dX9_can_72 : decode cX9_can 72 = .ok (.iaload, 1) := by decide +kernel
theorem dX9_can_73 : decode cX9_can 73 = .ok (.ireturn, 1) := by decide +kernel
theorem dX9_can_74 : decode cX9_can 74 = .ok (.aload_n 0, 1) := by decide +kernel
theorem dX9_can_75 : decode cX9_can 75 = .ok (.iload_n 1, 1) := by decide +kernel
theorem dX9_can_76 : decode cX9_can 76 = .ok (.invokevirtual 217, 3) := by decide +kernel
theorem dX9_can_79 : decode cX9_can 79 = .ok (.ireturn, 1) := by decide +kernel
theorem dX9_can_80 : decode cX9_can 80 = .ok (.aload_n 0, 1) := by decide +kernel
theorem dX9_can_81 : decode cX9_can 81 = .ok (.getfield 7, 3) := by decide +kernel
theorem dX9_can_84 : decode cX9_can 84 = .ok (.iload_n 1, 1) := by decide +kernel
theorem dX9_can_85 : decode cX9_can 85 = .ok (.invokestatic 73, 3) := by decide +kernel
theorem dX9_can_88 : decode cX9_can 88 = .ok (.ireturn, 1) := by decide +kernel
theorem dX9_can_89 : decode cX9_can 89 = .ok (.aload_n 0, 1) := by decide +kernel
theorem dX9_can_90 : decode cX9_can 90 = .ok (.getfield 7, 3) := by decide +kernel
theorem dX9_can_93 : decode cX9_can 93 = .ok (.iload_n 1, 1) := by decide +kernel
theorem dX9_can_94 : decode cX9_can 94 = .ok (.invokestatic 83, 3) := by decide +kernel
theorem dX9_can_97 : decode cX9_can 97 = .ok (.ireturn, 1) := by decide +kernel
theorem dX9_can_98 : decode cX9_can 98 = .ok (.aload_n 0, 1) := by decide +kernel
theorem dX9_can_99 : decode cX9_can 99 = .ok (.getfield 7, 3) := by decide +kernel
theorem dX9_can_102 : decode cX9_can 102 = .ok (.iload_n 1, 1) := by decide +kernel
theorem dX9_can_103 : decode cX9_can 103 = .ok (.invokestatic 60, 3) := by decide +kernel
theorem dX9_can_106 : decode cX9_can 106 = .ok (.ireturn, 1) := by decide +kernel
theorem dX9_can_107 : decode cX9_can 107 = .ok (.ldc 156, 2) := by decide +kernel
theorem dX9_can_109 : decode cX9_can 109 = .ok (.ireturn, 1) := by decide +kernel
theorem dX9_serving_0 : decode cX9_serving 0 = .ok (.iconst 0, 1) := by decide +kernel
theorem dX9_serving_1 : decode cX9_serving 1 = .ok (.istore_n 2, 1) := by decide +kernel
theorem dX9_serving_2 : decode cX9_serving 2 = .ok (.iconst 0, 1) := by decide +kernel
theorem dX9_serving_3 : decode cX9_serving 3 = .ok (.istore_n 3, 1) := by decide +kernel
theorem dX9_serving_4 : decode cX9_serving 4 = .ok (.iload_n 3, 1) := by decide +kernel
theorem dX9_serving_5 : decode cX9_serving 5 = .ok (.aload_n 0, 1) := by decide +kernel
theorem dX9_serving_6 : decode cX9_serving 6 = .ok (.getfield 7, 3) := by decide +kernel
theorem dX9_serving_9 : decode cX9_serving 9 = .ok (.iconst 4, 1) := by decide +kernel
theorem dX9_serving_10 : decode cX9_serving 10 = .ok (.iaload, 1) := by decide +kernel
theorem dX9_serving_11 : decode cX9_serving 11 = .ok (.if_icmp .ge 31, 3) := by decide +kernel
theorem dX9_serving_14 : decode cX9_serving 14 = .ok (.iload_n 2, 1) := by decide +kernel
theorem dX9_serving_15 : decode cX9_serving 15 = .ok (.aload_n 0, 1) := by decide +kernel
theorem dX9_serving_16 : decode cX9_serving 16 = .ok (.getfield 7, 3) := by decide +kernel
theorem dX9_serving_19 : decode cX9_serving 19 = .ok (.iload_n 3, 1) := by decide +kernel
theorem dX9_serving_20 : decode cX9_serving 20 = .ok (.iload_n 1, 1) := by decide +kernel
theorem dX9_serving_21 : decode cX9_serving 21 = .ok (.invokestatic 79, 3) := by decide +kernel
theorem dX9_serving_24 : decode cX9_serving 24 = .ok (.ifCond .eq 9, 3) := by decide +kernel
theorem dX9_serving_27 : decode cX9_serving 27 = .ok (.iconst 1, 1) := by decide +kernel
theorem dX9_serving_28 : decode cX9_serving 28 = .ok (.iload_n 3, 1) := by decide +kernel
theorem dX9_serving_29 : decode cX9_serving 29 = .ok (.ishl, 1) := by decide +kernel
theorem dX9_serving_30 : decode cX9_serving 30 = .ok (.goto 4, 3) := by decide +kernel
theorem dX9_serving_33 : decode cX9_serving 33 = .ok (.iconst 0, 1) := by decide +kernel
theorem dX9_serving_34 : decode cX9_serving 34 = .ok (.ior, 1) := by decide +kernel
theorem dX9_serving_35 : decode cX9_serving 35 = .ok (.istore_n 2, 1) := by decide +kernel
theorem dX9_serving_36 : decode cX9_serving 36 = .ok (.iinc 3 1, 3) := by decide +kernel
theorem dX9_serving_39 : decode cX9_serving 39 = .ok (.goto (-35), 3) := by decide +kernel
theorem dX9_serving_42 : decode cX9_serving 42 = .ok (.iload_n 2, 1) := by decide +kernel
theorem dX9_serving_43 : decode cX9_serving 43 = .ok (.ireturn, 1) := by decide +kernel
theorem dX9_take_0 : decode cX9_take 0 = .ok (.aload_n 0, 1) := by decide +kernel
theorem dX9_take_1 : decode cX9_take 1 = .ok (.iload_n 1, 1) := by decide +kernel
theorem dX9_take_2 : decode cX9_take 2 = .ok (.invokevirtual 190, 3) := by decide +kernel
theorem dX9_take_5 : decode cX9_take 5 = .ok (.ifCond .ne 6, 3) := by decide +kernel
theorem dX9_take_8 : decode cX9_take 8 = .ok (.ldc 156, 2) := by decide +kernel
theorem dX9_take_10 : decode cX9_take 10 = .ok (.ireturn, 1) := by decide +kernel
theorem dX9_take_11 : decode cX9_take 11 = .ok (.iload_n 2, 1) := by decide +kernel
theorem dX9_take_12 : decode cX9_take 12 = .ok (.tableswitch 82 0 3 #[32, 32, 46, 76], 32) := by decide +kernel
theorem dX9_take_44 : decode cX9_take 44 = .ok (.aload_n 0, 1) := by decide +kernel
theorem dX9_take_45 : decode cX9_take 45 = .ok (.getfield 7, 3) := by decide +kernel
theorem dX9_take_48 : decode cX9_take 48 = .ok (.bipush 41, 2) := by decide +kernel
theorem dX9_take_50 : decode cX9_take 50 = .ok (.iconst 3, 1) := by decide +kernel
theorem dX9_take_51 : decode cX9_take 51 = .ok (.iload_n 1, 1) := by decide +kernel
theorem dX9_take_52 : decode cX9_take 52 = .ok (.imul, 1) := by decide +kernel
theorem dX9_take_53 : decode cX9_take 53 = .ok (.iadd, 1) := by decide +kernel
theorem dX9_take_54 : decode cX9_take 54 = .ok (.iload_n 2, 1) := by decide +kernel
theorem dX9_take_55 : decode cX9_take 55 = .ok (.iadd, 1) := by decide +kernel
theorem dX9_take_56 : decode cX9_take 56 = .ok (.iaload, 1) := by decide +kernel
theorem dX9_take_57 : decode cX9_take 57 = .ok (.ireturn, 1) := by decide +kernel
theorem dX9_take_58 : decode cX9_take 58 = .ok (.aload_n 0, 1) := by decide +kernel
theorem dX9_take_59 : decode cX9_take 59 = .ok (.getfield 7, 3) := by decide +kernel
theorem dX9_take_62 : decode cX9_take 62 = .ok (.iload_n 1, 1) := by decide +kernel
theorem dX9_take_63 : decode cX9_take 63 = .ok (.invokestatic 66, 3) := by decide +kernel
theorem dX9_take_66 : decode cX9_take 66 = .ok (.ifCond .eq 8, 3) := by decide +kernel
theorem dX9_take_69 : decode cX9_take 69 = .ok (.ldc 59, 2) := by decide +kernel
theorem dX9_take_71 : decode cX9_take 71 = .ok (.goto 16, 3) := by decide +kernel
theorem dX9_take_74 : decode cX9_take 74 = .ok (.aload_n 0, 1) := by decide +kernel
theorem dX9_take_75 : decode cX9_take 75 = .ok (.getfield 7, 3) := by decide +kernel
theorem dX9_take_78 : decode cX9_take 78 = .ok (.bipush 41, 2) := by decide +kernel
theorem dX9_take_80 : decode cX9_take 80 = .ok (.iconst 3, 1) := by decide +kernel
theorem dX9_take_81 : decode cX9_take 81 = .ok (.iload_n 1, 1) := by decide +kernel
theorem dX9_take_82 : decode cX9_take 82 = .ok (.imul, 1) := by decide +kernel
theorem dX9_take_83 : decode cX9_take 83 = .ok (.iadd, 1) := by decide +kernel
theorem dX9_take_84 : decode cX9_take 84 = .ok (.iconst 2, 1) := by decide +kernel
theorem dX9_take_85 : decode cX9_take 85 = .ok (.iadd, 1) := by decide +kernel
theorem dX9_take_86 : decode cX9_take 86 = .ok (.iaload, 1) := by decide +kernel
theorem dX9_take_87 : decode cX9_take 87 = .ok (.ireturn, 1) := by decide +kernel
theorem dX9_take_88 : decode cX9_take 88 = .ok (.aload_n 0, 1) := by decide +kernel
theorem dX9_take_89 : decode cX9_take 89 = .ok (.iload_n 1, 1) := by decide +kernel
theorem dX9_take_90 : decode cX9_take 90 = .ok (.invokevirtual 220, 3) := by decide +kernel
theorem dX9_take_93 : decode cX9_take 93 = .ok (.ireturn, 1) := by decide +kernel
theorem dX9_take_94 : decode cX9_take 94 = .ok (.ldc 156, 2) := by decide +kernel
theorem dX9_take_96 : decode cX9_take 96 = .ok (.ireturn, 1) := by decide +kernel
theorem dX9_roll_0 : decode cX9_roll 0 = .ok (.iload_n 1, 1) := by decide +kernel
theorem dX9_roll_1 : decode cX9_roll 1 = .ok (.i2l, 1) := by decide +kernel
theorem dX9_roll_2 : decode cX9_roll 2 = .ok (.lconst 0, 1) := by decide +kernel
theorem dX9_roll_3 : decode cX9_roll 3 = .ok (.aload_n 0, 1) := by decide +kernel
theorem dX9_roll_4 : decode cX9_roll 4 = .ok (.getfield 7, 3) := by decide +kernel
theorem dX9_roll_7 : decode cX9_roll 7 = .ok (.bipush 6, 2) := by decide +kernel
theorem dX9_roll_9 : decode cX9_roll 9 = .ok (.iaload, 1) := by decide +kernel
theorem dX9_roll_10 : decode cX9_roll 10 = .ok (.iconst 1, 1) := by decide +kernel
theorem dX9_roll_11 : decode cX9_roll 11 = .ok (.isub, 1) := by decide +kernel
theorem dX9_roll_12 : decode cX9_roll 12 = .ok (.i2l, 1) := by decide +kernel
theorem dX9_roll_13 : decode cX9_roll 13 = .ok (.invokestatic 47, 3) := by decide +kernel
theorem dX9_roll_16 : decode cX9_roll 16 = .ok (.ifCond .eq 31, 3) := by decide +kernel
theorem dX9_roll_19 : decode cX9_roll 19 = .ok (.iload_n 2, 1) := by decide +kernel
theorem dX9_roll_20 : decode cX9_roll 20 = .ok (.i2l, 1) := by decide +kernel
theorem dX9_roll_21 : decode cX9_roll 21 = .ok (.lconst 0, 1) := by decide +kernel
theorem dX9_roll_22 : decode cX9_roll 22 = .ok (.ldc2_w 223, 3) := by decide +kernel
theorem dX9_roll_25 : decode cX9_roll 25 = .ok (.invokestatic 47, 3) := by decide +kernel
theorem dX9_roll_28 : decode cX9_roll 28 = .ok (.ifCond .eq 19, 3) := by decide +kernel
theorem dX9_roll_31 : decode cX9_roll 31 = .ok (.aload_n 0, 1) := by decide +kernel
theorem dX9_roll_32 : decode cX9_roll 32 = .ok (.getfield 7, 3) := by decide +kernel
theorem dX9_roll_35 : decode cX9_roll 35 = .ok (.bipush 65, 2) := by decide +kernel
theorem dX9_roll_37 : decode cX9_roll 37 = .ok (.iconst 3, 1) := by decide +kernel
theorem dX9_roll_38 : decode cX9_roll 38 = .ok (.iload_n 1, 1) := by decide +kernel
theorem dX9_roll_39 : decode cX9_roll 39 = .ok (.imul, 1) := by decide +kernel
theorem dX9_roll_40 : decode cX9_roll 40 = .ok (.iadd, 1) := by decide +kernel
theorem dX9_roll_41 : decode cX9_roll 41 = .ok (.iload_n 2, 1) := by decide +kernel
theorem dX9_roll_42 : decode cX9_roll 42 = .ok (.iadd, 1) := by decide +kernel
theorem dX9_roll_43 : decode cX9_roll 43 = .ok (.iaload, 1) := by decide +kernel
theorem dX9_roll_44 : decode cX9_roll 44 = .ok (.goto 5, 3) := by decide +kernel
theorem dX9_roll_47 : decode cX9_roll 47 = .ok (.ldc 156, 2) := by decide +kernel
theorem dX9_roll_49 : decode cX9_roll 49 = .ok (.ireturn, 1) := by decide +kernel
theorem dX9_onShelf_0 : decode cX9_onShelf 0 = .ok (.iconst 0, 1) := by decide +kernel
theorem dX9_onShelf_1 : decode cX9_onShelf 1 = .ok (.istore_n 1, 1) := by decide +kernel
theorem dX9_onShelf_2 : decode cX9_onShelf 2 = .ok (.iconst 0, 1) := by decide +kernel
theorem dX9_onShelf_3 : decode cX9_onShelf 3 = .ok (.istore_n 2, 1) := by decide +kernel
theorem dX9_onShelf_4 : decode cX9_onShelf 4 = .ok (.iload_n 2, 1) := by decide +kernel
theorem dX9_onShelf_5 : decode cX9_onShelf 5 = .ok (.aload_n 0, 1) := by decide +kernel
theorem dX9_onShelf_6 : decode cX9_onShelf 6 = .ok (.getfield 7, 3) := by decide +kernel
theorem dX9_onShelf_9 : decode cX9_onShelf 9 = .ok (.iconst 4, 1) := by decide +kernel
theorem dX9_onShelf_10 : decode cX9_onShelf 10 = .ok (.iaload, 1) := by decide +kernel
theorem dX9_onShelf_11 : decode cX9_onShelf 11 = .ok (.if_icmp .ge 35, 3) := by decide +kernel
theorem dX9_onShelf_14 : decode cX9_onShelf 14 = .ok (.iload_n 1, 1) := by decide +kernel
theorem dX9_onShelf_15 : decode cX9_onShelf 15 = .ok (.aload_n 0, 1) := by decide +kernel
theorem dX9_onShelf_16 : decode cX9_onShelf 16 = .ok (.getfield 7, 3) := by decide +kernel
theorem dX9_onShelf_19 : decode cX9_onShelf 19 = .ok (.iload_n 2, 1) := by decide +kernel
theorem dX9_onShelf_20 : decode cX9_onShelf 20 = .ok (.invokestatic 63, 3) := by decide +kernel
theorem dX9_onShelf_23 : decode cX9_onShelf 23 = .ok (.ifCond .ne 14, 3) := by decide +kernel
theorem dX9_onShelf_26 : decode cX9_onShelf 26 = .ok (.aload_n 0, 1) := by decide +kernel
theorem dX9_onShelf_27 : decode cX9_onShelf 27 = .ok (.getfield 7, 3) := by decide +kernel
theorem dX9_onShelf_30 : decode cX9_onShelf 30 = .ok (.iload_n 2, 1) := by decide +kernel
theorem dX9_onShelf_31 : decode cX9_onShelf 31 = .ok (.invokestatic 70, 3) := by decide +kernel
theorem dX9_onShelf_34 : decode cX9_onShelf 34 = .ok (.goto 4, 3) := by decide +kernel
theorem dX9_onShelf_37 : decode cX9_onShelf 37 = .ok (.iconst 0, 1) := by decide +kernel
theorem dX9_onShelf_38 : decode cX9_onShelf 38 = .ok (.iadd, 1) := by decide +kernel
theorem dX9_onShelf_39 : decode cX9_onShelf 39 = .ok (.istore_n 1, 1) := by decide +kernel
theorem dX9_onShelf_40 : decode cX9_onShelf 40 = .ok (.iinc 2 1, 3) := by decide +kernel
theorem dX9_onShelf_43 : decode cX9_onShelf 43 = .ok (.goto (-39), 3) := by decide +kernel
theorem dX9_onShelf_46 : decode cX9_onShelf 46 = .ok (.iload_n 1, 1) := by decide +kernel
theorem dX9_onShelf_47 : decode cX9_onShelf 47 = .ok (.ireturn, 1) := by decide +kernel
theorem dX9_sums_0 : decode cX9_sums 0 = .ok (.iload_n 1, 1) := by decide +kernel
theorem dX9_sums_1 : decode cX9_sums 1 = .ok (.tableswitch 126 0 7 #[47, 55, 60, 89, 97, 105, 110, 118], 47) := by decide +kernel
theorem dX9_sums_48 : decode cX9_sums 48 = .ok (.aload_n 0, 1) := by decide +kernel
theorem dX9_sums_49 : decode cX9_sums 49 = .ok (.getfield 7, 3) := by decide +kernel
theorem dX9_sums_52 : decode cX9_sums 52 = .ok (.bipush 7, 2) := by decide +kernel
theorem dX9_sums_54 : decode cX9_sums 54 = .ok (.iaload, 1) := by decide +kernel
theorem dX9_sums_55 : decode cX9_sums 55 = .ok (.ireturn, 1) := by decide +kernel
theorem dX9_sums_56 : decode cX9_sums 56 = .ok (.aload_n 0, 1) := by decide +kernel
theorem dX9_sums_57 : decode cX9_sums 57 = .ok (.invokevirtual 225, 3) := by decide +kernel
theorem dX9_sums_60 : decode cX9_sums 60 = .ok (.ireturn, 1) := by decide +kernel
theorem dX9_sums_61 : decode cX9_sums 61 = .ok (.aload_n 0, 1) := by decide +kernel
theorem dX9_sums_62 : decode cX9_sums 62 = .ok (.getfield 7, 3) := by decide +kernel
theorem dX9_sums_65 : decode cX9_sums 65 = .ok (.bipush 11, 2) := by decide +kernel
theorem dX9_sums_67 : decode cX9_sums 67 = .ok (.iaload, 1) := by decide +kernel
theorem dX9_sums_68 : decode cX9_sums 68 = .ok (.ifCond .ge 7, 3) := by decide +kernel
theorem dX9_sums_71 : decode cX9_sums 71 = .ok (.iconst 0, 1) := by decide +kernel
theorem dX9_sums_72 : decode cX9_sums 72 = .ok (.goto 17, 3) := by decide +kernel
theorem dX9_sums_75 : decode cX9_sums 75 = .ok (.aload_n 0, 1) := by decide +kernel
theorem dX9_sums_76 : decode cX9_sums 76 = .ok (.getfield 7, 3) := by decide +kernel
theorem dX9_sums_79 : decode cX9_sums 79 = .ok (.aload_n 0, 1) := by decide +kernel
theorem dX9_sums_80 : decode cX9_sums 80 = .ok (.getfield 7, 3) := by decide +kernel
theorem dX9_sums_83 : decode cX9_sums 83 = .ok (.bipush 11, 2) := by decide +kernel
theorem dX9_sums_85 : decode cX9_sums 85 = .ok (.iaload, 1) := by decide +kernel
theorem dX9_sums_86 : decode cX9_sums 86 = .ok (.invokestatic 70, 3) := by decide +kernel
theorem dX9_sums_89 : decode cX9_sums 89 = .ok (.ireturn, 1) := by decide +kernel
theorem dX9_sums_90 : decode cX9_sums 90 = .ok (.aload_n 0, 1) := by decide +kernel
theorem dX9_sums_91 : decode cX9_sums 91 = .ok (.getfield 7, 3) := by decide +kernel
theorem dX9_sums_94 : decode cX9_sums 94 = .ok (.bipush 8, 2) := by decide +kernel
theorem dX9_sums_96 : decode cX9_sums 96 = .ok (.iaload, 1) := by decide +kernel
theorem dX9_sums_97 : decode cX9_sums 97 = .ok (.ireturn, 1) := by decide +kernel
theorem dX9_sums_98 : decode cX9_sums 98 = .ok (.aload_n 0, 1) := by decide +kernel
theorem dX9_sums_99 : decode cX9_sums 99 = .ok (.getfield 7, 3) := by decide +kernel
theorem dX9_sums_102 : decode cX9_sums 102 = .ok (.bipush 9, 2) := by decide +kernel
theorem dX9_sums_104 : decode cX9_sums 104 = .ok (.iaload, 1) := by decide +kernel
theorem dX9_sums_105 : decode cX9_sums 105 = .ok (.ireturn, 1) := by decide +kernel
theorem dX9_sums_106 : decode cX9_sums 106 = .ok (.aload_n 0, 1) := by decide +kernel
theorem dX9_sums_107 : decode cX9_sums 107 = .ok (.invokevirtual 197, 3) := by decide +kernel
theorem dX9_sums_110 : decode cX9_sums 110 = .ok (.ireturn, 1) := by decide +kernel
theorem dX9_sums_111 : decode cX9_sums 111 = .ok (.aload_n 0, 1) := by decide +kernel
theorem dX9_sums_112 : decode cX9_sums 112 = .ok (.getfield 7, 3) := by decide +kernel
theorem dX9_sums_115 : decode cX9_sums 115 = .ok (.bipush 10, 2) := by decide +kernel
theorem dX9_sums_117 : decode cX9_sums 117 = .ok (.iaload, 1) := by decide +kernel
theorem dX9_sums_118 : decode cX9_sums 118 = .ok (.ireturn, 1) := by decide +kernel
theorem dX9_sums_119 : decode cX9_sums 119 = .ok (.aload_n 0, 1) := by decide +kernel
theorem dX9_sums_120 : decode cX9_sums 120 = .ok (.getfield 7, 3) := by decide +kernel
theorem dX9_sums_123 : decode cX9_sums 123 = .ok (.bipush 12, 2) := by decide +kernel
theorem dX9_sums_125 : decode cX9_sums 125 = .ok (.iaload, 1) := by decide +kernel
theorem dX9_sums_126 : decode cX9_sums 126 = .ok (.ireturn, 1) := by decide +kernel
theorem dX9_sums_127 : decode cX9_sums 127 = .ok (.ldc 156, 2) := by decide +kernel
theorem dX9_sums_129 : decode cX9_sums 129 = .ok (.ireturn, 1) := by decide +kernel
theorem dX9_isBatch_0 : decode cX9_isBatch 0 = .ok (.iconst 0, 1) := by decide +kernel
theorem dX9_isBatch_1 : decode cX9_isBatch 1 = .ok (.istore_n 2, 1) := by decide +kernel
theorem dX9_isBatch_2 : decode cX9_isBatch 2 = .ok (.iconst 0, 1) := by decide +kernel
theorem dX9_isBatch_3 : decode cX9_isBatch 3 = .ok (.istore_n 3, 1) := by decide +kernel
theorem dX9_isBatch_4 : decode cX9_isBatch 4 = .ok (.iconst 0, 1) := by decide +kernel
theorem dX9_isBatch_5 : decode cX9_isBatch 5 = .ok (.istore 4, 2) := by decide +kernel
theorem dX9_isBatch_7 : decode cX9_isBatch 7 = .ok (.iload 4, 2) := by decide +kernel
theorem dX9_isBatch_9 : decode cX9_isBatch 9 = .ok (.bipush 8, 2) := by decide +kernel
theorem dX9_isBatch_11 : decode cX9_isBatch 11 = .ok (.if_icmp .ge 71, 3) := by decide +kernel
theorem dX9_isBatch_14 : decode cX9_isBatch 14 = .ok (.iload_n 2, 1) := by decide +kernel
theorem dX9_isBatch_15 : decode cX9_isBatch 15 = .ok (.iload_n 1, 1) := by decide +kernel
theorem dX9_isBatch_16 : decode cX9_isBatch 16 = .ok (.iload 4, 2) := by decide +kernel
theorem dX9_isBatch_18 : decode cX9_isBatch 18 = .ok (.invokestatic 76, 3) := by decide +kernel
theorem dX9_isBatch_21 : decode cX9_isBatch 21 = .ok (.ifCond .eq 20, 3) := by decide +kernel
theorem dX9_isBatch_24 : decode cX9_isBatch 24 = .ok (.aload_n 0, 1) := by decide +kernel
theorem dX9_isBatch_25 : decode cX9_isBatch 25 = .ok (.getfield 7, 3) := by decide +kernel
theorem dX9_isBatch_28 : decode cX9_isBatch 28 = .ok (.bipush 65, 2) := by decide +kernel
theorem dX9_isBatch_30 : decode cX9_isBatch 30 = .ok (.iconst 3, 1) := by decide +kernel
theorem dX9_isBatch_31 : decode cX9_isBatch 31 = .ok (.iload 4, 2) := by decide +kernel
theorem dX9_isBatch_33 : decode cX9_isBatch 33 = .ok (.imul, 1) := by decide +kernel
theorem dX9_isBatch_34 : decode cX9_isBatch 34 = .ok (.iadd, 1) := by decide +kernel
theorem dX9_isBatch_35 : decode cX9_isBatch 35 = .ok (.iconst 1, 1) := by decide +kernel
theorem dX9_isBatch_36 : decode cX9_isBatch 36 = .ok (.iadd, 1) := by decide +kernel
theorem dX9_isBatch_37 : decode cX9_isBatch 37 = .ok (.iaload, 1) := by decide +kernel
theorem dX9_isBatch_38 : decode cX9_isBatch 38 = .ok (.goto 4, 3) := by decide +kernel
theorem dX9_isBatch_41 : decode cX9_isBatch 41 = .ok (.iconst 0, 1) := by decide +kernel
theorem dX9_isBatch_42 : decode cX9_isBatch 42 = .ok (.iadd, 1) := by decide +kernel
theorem dX9_isBatch_43 : decode cX9_isBatch 43 = .ok (.istore_n 2, 1) := by decide +kernel
theorem dX9_isBatch_44 : decode cX9_isBatch 44 = .ok (.iload_n 3, 1) := by decide +kernel
theorem dX9_isBatch_45 : decode cX9_isBatch 45 = .ok (.iload_n 1, 1) := by decide +kernel
theorem dX9_isBatch_46 : decode cX9_isBatch 46 = .ok (.iload 4, 2) := by decide +kernel
theorem dX9_isBatch_48 : decode cX9_isBatch 48 = .ok (.invokestatic 76, 3) := by decide +kernel
theorem dX9_isBatch_51 : decode cX9_isBatch 51 = .ok (.ifCond .eq 22, 3) := by decide +kernel
theorem dX9_isBatch_54 : decode cX9_isBatch 54 = .ok (.iconst 1, 1) := by decide +kernel
theorem dX9_isBatch_55 : decode cX9_isBatch 55 = .ok (.aload_n 0, 1) := by decide +kernel
theorem dX9_isBatch_56 : decode cX9_isBatch 56 = .ok (.getfield 7, 3) := by decide +kernel
theorem dX9_isBatch_59 : decode cX9_isBatch 59 = .ok (.bipush 65, 2) := by decide +kernel
theorem dX9_isBatch_61 : decode cX9_isBatch 61 = .ok (.iconst 3, 1) := by decide +kernel
theorem dX9_isBatch_62 : decode cX9_isBatch 62 = .ok (.iload 4, 2) := by decide +kernel
theorem dX9_isBatch_64 : decode cX9_isBatch 64 = .ok (.imul, 1) := by decide +kernel
theorem dX9_isBatch_65 : decode cX9_isBatch 65 = .ok (.iadd, 1) := by decide +kernel
theorem dX9_isBatch_66 : decode cX9_isBatch 66 = .ok (.iconst 2, 1) := by decide +kernel
theorem dX9_isBatch_67 : decode cX9_isBatch 67 = .ok (.iadd, 1) := by decide +kernel
theorem dX9_isBatch_68 : decode cX9_isBatch 68 = .ok (.iaload, 1) := by decide +kernel
theorem dX9_isBatch_69 : decode cX9_isBatch 69 = .ok (.ishl, 1) := by decide +kernel
theorem dX9_isBatch_70 : decode cX9_isBatch 70 = .ok (.goto 4, 3) := by decide +kernel
theorem dX9_isBatch_73 : decode cX9_isBatch 73 = .ok (.iconst 0, 1) := by decide +kernel
theorem dX9_isBatch_74 : decode cX9_isBatch 74 = .ok (.ior, 1) := by decide +kernel
theorem dX9_isBatch_75 : decode cX9_isBatch 75 = .ok (.istore_n 3, 1) := by decide +kernel
theorem dX9_isBatch_76 : decode cX9_isBatch 76 = .ok (.iinc 4 1, 3) := by decide +kernel
theorem dX9_isBatch_79 : decode cX9_isBatch 79 = .ok (.goto (-72), 3) := by decide +kernel
theorem dX9_isBatch_82 : decode cX9_isBatch 82 = .ok (.iload_n 1, 1) := by decide +kernel
theorem dX9_isBatch_83 : decode cX9_isBatch 83 = .ok (.iload_n 1, 1) := by decide +kernel
theorem dX9_isBatch_84 : decode cX9_isBatch 84 = .ok (.iconst 1, 1) := by decide +kernel
theorem dX9_isBatch_85 : decode cX9_isBatch 85 = .ok (.isub, 1) := by decide +kernel
theorem dX9_isBatch_86 : decode cX9_isBatch 86 = .ok (.iand, 1) := by decide +kernel
theorem dX9_isBatch_87 : decode cX9_isBatch 87 = .ok (.ifCond .eq 18, 3) := by decide +kernel
theorem dX9_isBatch_90 : decode cX9_isBatch 90 = .ok (.iload_n 3, 1) := by decide +kernel
theorem dX9_isBatch_91 : decode cX9_isBatch 91 = .ok (.iconst 3, 1) := by decide +kernel
theorem dX9_isBatch_92 : decode cX9_isBatch 92 = .ok (.if_icmp .eq 17, 3) := by decide +kernel
theorem dX9_isBatch_95 : decode cX9_isBatch 95 = .ok (.iload_n 2, 1) := by decide +kernel
theorem dX9_isBatch_96 : decode cX9_isBatch 96 = .ok (.aload_n 0, 1) := by decide +kernel
theorem dX9_isBatch_97 : decode cX9_isBatch 97 = .ok (.getfield 7, 3) := by decide +kernel
theorem dX9_isBatch_100 : decode cX9_isBatch 100 = .ok (.iconst 2, 1) := by decide +kernel
theorem dX9_isBatch_101 : decode cX9_isBatch 101 = .ok (.iaload, 1) := by decide +kernel
theorem dX9_isBatch_102 : decode cX9_isBatch 102 = .ok (.if_icmp .gt 7, 3) := by decide +kernel
theorem dX9_isBatch_105 : decode cX9_isBatch 105 = .ok (.iconst 1, 1) := by decide +kernel
theorem dX9_isBatch_106 : decode cX9_isBatch 106 = .ok (.goto 4, 3) := by decide +kernel
theorem dX9_isBatch_109 : decode cX9_isBatch 109 = .ok (.iconst 0, 1) := by decide +kernel
theorem dX9_isBatch_110 : decode cX9_isBatch 110 = .ok (.ireturn, 1) := by decide +kernel
theorem dX9_fewest_0 : decode cX9_fewest 0 = .ok (.iconst 1, 1) := by decide +kernel
theorem dX9_fewest_1 : decode cX9_fewest 1 = .ok (.aload_n 0, 1) := by decide +kernel
theorem dX9_fewest_2 : decode cX9_fewest 2 = .ok (.getfield 7, 3) := by decide +kernel
theorem dX9_fewest_5 : decode cX9_fewest 5 = .ok (.bipush 6, 2) := by decide +kernel
theorem dX9_fewest_7 : decode cX9_fewest 7 = .ok (.iaload, 1) := by decide +kernel
theorem dX9_fewest_8 : decode cX9_fewest 8 = .ok (.ishl, 1) := by decide +kernel
theorem dX9_fewest_9 : decode cX9_fewest 9 = .ok (.iconst 1, 1) := by decide +kernel
theorem dX9_fewest_10 : decode cX9_fewest 10 = .ok (.isub, 1) := by decide +kernel
theorem dX9_fewest_11 : decode cX9_fewest 11 = .ok (.istore_n 1, 1) := by decide +kernel
theorem dX9_fewest_12 : decode cX9_fewest 12 = .ok (.aload_n 0, 1) := by decide +kernel
theorem dX9_fewest_13 : decode cX9_fewest 13 = .ok (.getfield 44, 3) := by decide +kernel
theorem dX9_fewest_16 : decode cX9_fewest 16 = .ok (.iconst 0, 1) := by decide +kernel
theorem dX9_fewest_17 : decode cX9_fewest 17 = .ok (.iconst 0, 1) := by decide +kernel
theorem dX9_fewest_18 : decode cX9_fewest 18 = .ok (.iastore, 1) := by decide +kernel
theorem dX9_fewest_19 : decode cX9_fewest 19 = .ok (.iconst 1, 1) := by decide +kernel
theorem dX9_fewest_20 : decode cX9_fewest 20 = .ok (.istore_n 2, 1) := by decide +kernel
theorem dX9_fewest_21 : decode cX9_fewest 21 = .ok (.iload_n 2, 1) := by decide +kernel
theorem dX9_fewest_22 : decode cX9_fewest 22 = .ok (.iload_n 1, 1) := by decide +kernel
theorem dX9_fewest_23 : decode cX9_fewest 23 = .ok (.if_icmp .gt 80, 3) := by decide +kernel
theorem dX9_fewest_26 : decode cX9_fewest 26 = .ok (.aload_n 0, 1) := by decide +kernel
theorem dX9_fewest_27 : decode cX9_fewest 27 = .ok (.getfield 44, 3) := by decide +kernel
theorem dX9_fewest_30 : decode cX9_fewest 30 = .ok (.iload_n 2, 1) := by decide +kernel
theorem dX9_fewest_31 : decode cX9_fewest 31 = .ok (.bipush 9, 2) := by decide +kernel
theorem dX9_fewest_33 : decode cX9_fewest 33 = .ok (.iastore, 1) := by decide +kernel
theorem dX9_fewest_34 : decode cX9_fewest 34 = .ok (.iload_n 2, 1) := by decide +kernel
theorem dX9_fewest_35 : decode cX9_fewest 35 = .ok (.istore_n 3, 1) := by decide +kernel
theorem dX9_fewest_36 : decode cX9_fewest 36 = .ok (.iload_n 3, 1) := by decide +kernel
theorem dX9_fewest_37 : decode cX9_fewest 37 = .ok (.ifCond .le 60, 3) := by decide +kernel
theorem dX9_fewest_40 : decode cX9_fewest 40 = .ok (.aload_n 0, 1) := by decide +kernel
theorem dX9_fewest_41 : decode cX9_fewest 41 = .ok (.getfield 44, 3) := by decide +kernel
theorem dX9_fewest_44 : decode cX9_fewest 44 = .ok (.iload_n 2, 1) := by decide +kernel
theorem dX9_fewest_45 : decode cX9_fewest 45 = .ok (.iload_n 3, 1) := by decide +kernel
theorem dX9_fewest_46 : decode cX9_fewest 46 = .ok (.ixor, 1) := by decide +kernel
theorem dX9_fewest_47 : decode cX9_fewest 47 = .ok (.iaload, 1) := by decide +kernel
theorem dX9_fewest_48 : decode cX9_fewest 48 = .ok (.iconst 1, 1) := by decide +kernel
theorem dX9_fewest_49 : decode cX9_fewest 49 = .ok (.iadd, 1) := by decide +kernel
theorem dX9_fewest_50 : decode cX9_fewest 50 = .ok (.istore 4, 2) := by decide +kernel
theorem dX9_fewest_52 : decode cX9_fewest 52 = .ok (.aload_n 0, 1) := by decide +kernel
theorem dX9_fewest_53 : decode cX9_fewest 53 = .ok (.getfield 44, 3) := by decide +kernel
theorem dX9_fewest_56 : decode cX9_fewest 56 = .ok (.iload_n 2, 1) := by decide +kernel
theorem dX9_fewest_57 : decode cX9_fewest 57 = .ok (.iload 4, 2) := by decide +kernel
theorem dX9_fewest_59 : decode cX9_fewest 59 = .ok (.aload_n 0, 1) := by decide +kernel
theorem dX9_fewest_60 : decode cX9_fewest 60 = .ok (.getfield 44, 3) := by decide +kernel
theorem dX9_fewest_63 : decode cX9_fewest 63 = .ok (.iload_n 2, 1) := by decide +kernel
theorem dX9_fewest_64 : decode cX9_fewest 64 = .ok (.iaload, 1) := by decide +kernel
theorem dX9_fewest_65 : decode cX9_fewest 65 = .ok (.if_icmp .ge 16, 3) := by decide +kernel
theorem dX9_fewest_68 : decode cX9_fewest 68 = .ok (.aload_n 0, 1) := by decide +kernel
theorem dX9_fewest_69 : decode cX9_fewest 69 = .ok (.iload_n 3, 1) := by decide +kernel
theorem dX9_fewest_70 : decode cX9_fewest 70 = .ok (.invokevirtual 228, 3) := by decide +kernel
theorem dX9_fewest_73 : decode cX9_fewest 73 = .ok (.ifCond .eq 8, 3) := by decide +kernel
theorem dX9_fewest_76 : decode cX9_fewest 76 = .ok (.iload 4, 2) := by decide +kernel
theorem dX9_fewest_78 : decode cX9_fewest 78 = .ok (.goto 9, 3) := by decide +kernel
theorem dX9_fewest_81 : decode cX9_fewest 81 = .ok (.aload_n 0, 1) := by decide +kernel
theorem dX9_fewest_82 : decode cX9_fewest 82 = .ok (.getfield 44, 3) := by decide +kernel
theorem dX9_fewest_85 : decode cX9_fewest 85 = .ok (.iload_n 2, 1) := by decide +kernel
theorem dX9_fewest_86 : decode cX9_fewest 86 = .ok (.iaload, 1) := by decide +kernel
theorem dX9_fewest_87 : decode cX9_fewest 87 = .ok (.iastore, 1) := by decide +kernel
theorem dX9_fewest_88 : decode cX9_fewest 88 = .ok (.iload_n 3, 1) := by decide +kernel
theorem dX9_fewest_89 : decode cX9_fewest 89 = .ok (.iconst 1, 1) := by decide +kernel
theorem dX9_fewest_90 : decode cX9_fewest 90 = .ok (.isub, 1) := by decide +kernel
theorem dX9_fewest_91 : decode cX9_fewest 91 = .ok (.iload_n 2, 1) := by decide +kernel
theorem dX9_fewest_92 : decode cX9_fewest 92 = .ok (.iand, 1) := by decide +kernel
theorem dX9_fewest_93 : decode cX9_fewest 93 = .ok (.istore_n 3, 1) := by decide +kernel
theorem dX9_fewest_94 : decode cX9_fewest 94 = .ok (.goto (-58), 3) := by decide +kernel
theorem dX9_fewest_97 : decode cX9_fewest 97 = .ok (.iinc 2 1, 3) := by decide +kernel
theorem dX9_fewest_100 : decode cX9_fewest 100 = .ok (.goto (-79), 3) := by decide +kernel
theorem dX9_fewest_103 : decode cX9_fewest 103 = .ok (.aload_n 0, 1) := by decide +kernel
theorem dX9_fewest_104 : decode cX9_fewest 104 = .ok (.getfield 44, 3) := by decide +kernel
theorem dX9_fewest_107 : decode cX9_fewest 107 = .ok (.iload_n 1, 1) := by decide +kernel
theorem dX9_fewest_108 : decode cX9_fewest 108 = .ok (.iaload, 1) := by decide +kernel
theorem dX9_fewest_109 : decode cX9_fewest 109 = .ok (.ireturn, 1) := by decide +kernel
theorem dX9_batches_0 : decode cX9_batches 0 = .ok (.iload_n 1, 1) := by decide +kernel
theorem dX9_batches_1 : decode cX9_batches 1 = .ok (.ifCond .ne 10, 3) := by decide +kernel
theorem dX9_batches_4 : decode cX9_batches 4 = .ok (.aload_n 0, 1) := by decide +kernel
theorem dX9_batches_5 : decode cX9_batches 5 = .ok (.invokevirtual 193, 3) := by decide +kernel
theorem dX9_batches_8 : decode cX9_batches 8 = .ok (.goto 17, 3) := by decide +kernel
theorem dX9_batches_11 : decode cX9_batches 11 = .ok (.iload_n 1, 1) := by decide +kernel
theorem dX9_batches_12 : decode cX9_batches 12 = .ok (.iconst 1, 1) := by decide +kernel
theorem dX9_batches_13 : decode cX9_batches 13 = .ok (.if_icmp .ne 10, 3) := by decide +kernel
theorem dX9_batches_16 : decode cX9_batches 16 = .ok (.aload_n 0, 1) := by decide +kernel
theorem dX9_batches_17 : decode cX9_batches 17 = .ok (.invokevirtual 231, 3) := by decide +kernel
theorem dX9_batches_20 : decode cX9_batches 20 = .ok (.goto 5, 3) := by decide +kernel
theorem dX9_batches_23 : decode cX9_batches 23 = .ok (.ldc 156, 2) := by decide +kernel
theorem dX9_batches_25 : decode cX9_batches 25 = .ok (.ireturn, 1) := by decide +kernel
theorem dX9_as_0 : decode cX9_as 0 = .ok (.aload_n 0, 1) := by decide +kernel
theorem dX9_as_1 : decode cX9_as 1 = .ok (.iload_n 1, 1) := by decide +kernel
theorem dX9_as_2 : decode cX9_as 2 = .ok (.invokevirtual 183, 3) := by decide +kernel
theorem dX9_as_5 : decode cX9_as 5 = .ok (.ifCond .eq 15, 3) := by decide +kernel
theorem dX9_as_8 : decode cX9_as 8 = .ok (.iload_n 2, 1) := by decide +kernel
theorem dX9_as_9 : decode cX9_as 9 = .ok (.i2l, 1) := by decide +kernel
theorem dX9_as_10 : decode cX9_as 10 = .ok (.lconst 0, 1) := by decide +kernel
theorem dX9_as_11 : decode cX9_as 11 = .ok (.ldc2_w 203, 3) := by decide +kernel
theorem dX9_as_14 : decode cX9_as 14 = .ok (.invokestatic 47, 3) := by decide +kernel
theorem dX9_as_17 : decode cX9_as 17 = .ok (.ifCond .ne 6, 3) := by decide +kernel
theorem dX9_as_20 : decode cX9_as 20 = .ok (.ldc 156, 2) := by decide +kernel
theorem dX9_as_22 : decode cX9_as 22 = .ok (.ireturn, 1) := by decide +kernel
theorem dX9_as_23 : decode cX9_as 23 = .ok (.aload_n 0, 1) := by decide +kernel
theorem dX9_as_24 : decode cX9_as 24 = .ok (.getfield 7, 3) := by decide +kernel
theorem dX9_as_27 : decode cX9_as 27 = .ok (.iload_n 1, 1) := by decide +kernel
theorem dX9_as_28 : decode cX9_as 28 = .ok (.invokestatic 51, 3) := by decide +kernel
theorem dX9_as_31 : decode cX9_as 31 = .ok (.iload_n 2, 1) := by decide +kernel
theorem dX9_as_32 : decode cX9_as 32 = .ok (.invokestatic 55, 3) := by decide +kernel
theorem dX9_as_35 : decode cX9_as 35 = .ok (.ifCond .eq 7, 3) := by decide +kernel
theorem dX9_as_38 : decode cX9_as 38 = .ok (.iload_n 1, 1) := by decide +kernel
theorem dX9_as_39 : decode cX9_as 39 = .ok (.goto 5, 3) := by decide +kernel
theorem dX9_as_42 : decode cX9_as 42 = .ok (.ldc 59, 2) := by decide +kernel
theorem dX9_as_44 : decode cX9_as 44 = .ok (.ireturn, 1) := by decide +kernel
theorem dX9_fits_0 : decode cX9_fits 0 = .ok (.aload_n 0, 1) := by decide +kernel
theorem dX9_fits_1 : decode cX9_fits 1 = .ok (.iload_n 1, 1) := by decide +kernel
theorem dX9_fits_2 : decode cX9_fits 2 = .ok (.invokevirtual 183, 3) := by decide +kernel
theorem dX9_fits_5 : decode cX9_fits 5 = .ok (.ifCond .eq 21, 3) := by decide +kernel
theorem dX9_fits_8 : decode cX9_fits 8 = .ok (.iload_n 2, 1) := by decide +kernel
theorem dX9_fits_9 : decode cX9_fits 9 = .ok (.ifCond .lt 17, 3) := by decide +kernel
theorem dX9_fits_12 : decode cX9_fits 12 = .ok (.iload_n 2, 1) := by decide +kernel
theorem dX9_fits_13 : decode cX9_fits 13 = .ok (.aload_n 0, 1) := by decide +kernel
theorem dX9_fits_14 : decode cX9_fits 14 = .ok (.getfield 7, 3) := by decide +kernel
theorem dX9_fits_17 : decode cX9_fits 17 = .ok (.invokestatic 234, 3) := by decide +kernel
theorem dX9_fits_20 : decode cX9_fits 20 = .ok (.iconst (-1), 1) := by decide +kernel
theorem dX9_fits_21 : decode cX9_fits 21 = .ok (.ixor, 1) := by decide +kernel
theorem dX9_fits_22 : decode cX9_fits 22 = .ok (.iand, 1) := by decide +kernel
theorem dX9_fits_23 : decode cX9_fits 23 = .ok (.ifCond .eq 6, 3) := by decide +kernel
theorem dX9_fits_26 : decode cX9_fits 26 = .ok (.ldc 156, 2) := by decide +kernel
theorem dX9_fits_28 : decode cX9_fits 28 = .ok (.ireturn, 1) := by decide +kernel
theorem dX9_fits_29 : decode cX9_fits 29 = .ok (.aload_n 0, 1) := by decide +kernel
theorem dX9_fits_30 : decode cX9_fits 30 = .ok (.getfield 7, 3) := by decide +kernel
theorem dX9_fits_33 : decode cX9_fits 33 = .ok (.iload_n 1, 1) := by decide +kernel
theorem dX9_fits_34 : decode cX9_fits 34 = .ok (.iload_n 2, 1) := by decide +kernel
theorem dX9_fits_35 : decode cX9_fits 35 = .ok (.invokestatic 86, 3) := by decide +kernel
theorem dX9_fits_38 : decode cX9_fits 38 = .ok (.istore_n 3, 1) := by decide +kernel
theorem dX9_fits_39 : decode cX9_fits 39 = .ok (.aload_n 0, 1) := by decide +kernel
theorem dX9_fits_40 : decode cX9_fits 40 = .ok (.getfield 7, 3) := by decide +kernel
theorem dX9_fits_43 : decode cX9_fits 43 = .ok (.iload_n 1, 1) := by decide +kernel
theorem dX9_fits_44 : decode cX9_fits 44 = .ok (.invokestatic 238, 3) := by decide +kernel
theorem dX9_fits_47 : decode cX9_fits 47 = .ok (.ifCond .eq 7, 3) := by decide +kernel
theorem dX9_fits_50 : decode cX9_fits 50 = .ok (.iload_n 3, 1) := by decide +kernel
theorem dX9_fits_51 : decode cX9_fits 51 = .ok (.ifCond .ge 8, 3) := by decide +kernel
theorem dX9_fits_54 : decode cX9_fits 54 = .ok (.ldc 59, 2) := by decide +kernel
theorem dX9_fits_56 : decode cX9_fits 56 = .ok (.goto 4, 3) := by decide +kernel
theorem dX9_fits_59 : decode cX9_fits 59 = .ok (.iload_n 3, 1) := by decide +kernel
theorem dX9_fits_60 : decode cX9_fits 60 = .ok (.ireturn, 1) := by decide +kernel
theorem dX9_plans_0 : decode cX9_plans 0 = .ok (.iconst 0, 1) := by decide +kernel
theorem dX9_plans_1 : decode cX9_plans 1 = .ok (.istore 4, 2) := by decide +kernel
theorem dX9_plans_3 : decode cX9_plans 3 = .ok (.iload 4, 2) := by decide +kernel
theorem dX9_plans_5 : decode cX9_plans 5 = .ok (.sipush 256, 3) := by decide +kernel
theorem dX9_plans_8 : decode cX9_plans 8 = .ok (.if_icmp .ge 51, 3) := by decide +kernel
theorem dX9_plans_11 : decode cX9_plans 11 = .ok (.aload_n 0, 1) := by decide +kernel
theorem dX9_plans_12 : decode cX9_plans 12 = .ok (.getfield 29, 3) := by decide +kernel
theorem dX9_plans_15 : decode cX9_plans 15 = .ok (.sipush 256, 3) := by decide +kernel
theorem dX9_plans_18 : decode cX9_plans 18 = .ok (.aload_n 1, 1) := by decide +kernel
theorem dX9_plans_19 : decode cX9_plans 19 = .ok (.iconst 4, 1) := by decide +kernel
theorem dX9_plans_20 : decode cX9_plans 20 = .ok (.iaload, 1) := by decide +kernel
theorem dX9_plans_21 : decode cX9_plans 21 = .ok (.imul, 1) := by decide +kernel
theorem dX9_plans_22 : decode cX9_plans 22 = .ok (.iload 4, 2) := by decide +kernel
theorem dX9_plans_24 : decode cX9_plans 24 = .ok (.iadd, 1) := by decide +kernel
theorem dX9_plans_25 : decode cX9_plans 25 = .ok (.iload 4, 2) := by decide +kernel
theorem dX9_plans_27 : decode cX9_plans 27 = .ok (.ifCond .ne 7, 3) := by decide +kernel
theorem dX9_plans_30 : decode cX9_plans 30 = .ok (.iconst 0, 1) := by decide +kernel
theorem dX9_plans_31 : decode cX9_plans 31 = .ok (.goto 5, 3) := by decide +kernel
theorem dX9_plans_34 : decode cX9_plans 34 = .ok (.ldc 59, 2) := by decide +kernel
theorem dX9_plans_36 : decode cX9_plans 36 = .ok (.iastore, 1) := by decide +kernel
theorem dX9_plans_37 : decode cX9_plans 37 = .ok (.aload_n 0, 1) := by decide +kernel
theorem dX9_plans_38 : decode cX9_plans 38 = .ok (.getfield 32, 3) := by decide +kernel
theorem dX9_plans_41 : decode cX9_plans 41 = .ok (.sipush 256, 3) := by decide +kernel
theorem dX9_plans_44 : decode cX9_plans 44 = .ok (.aload_n 1, 1) := by decide +kernel
theorem dX9_plans_45 : decode cX9_plans 45 = .ok (.iconst 4, 1) := by decide +kernel
theorem dX9_plans_46 : decode cX9_plans 46 = .ok (.iaload, 1) := by decide +kernel
theorem dX9_plans_47 : decode cX9_plans 47 = .ok (.imul, 1) := by decide +kernel
theorem dX9_plans_48 : decode cX9_plans 48 = .ok (.iload 4, 2) := by decide +kernel
theorem dX9_plans_50 : decode cX9_plans 50 = .ok (.iadd, 1) := by decide +kernel
theorem dX9_plans_51 : decode cX9_plans 51 = .ok (.iconst 0, 1) := by decide +kernel
theorem dX9_plans_52 : decode cX9_plans 52 = .ok (.iastore, 1) := by decide +kernel
theorem dX9_plans_53 : decode cX9_plans 53 = .ok (.iinc 4 1, 3) := by decide +kernel
theorem dX9_plans_56 : decode cX9_plans 56 = .ok (.goto (-53), 3) := by decide +kernel
theorem dX9_plans_59 : decode cX9_plans 59 = .ok (.aload_n 1, 1) := by decide +kernel
theorem dX9_plans_60 : decode cX9_plans 60 = .ok (.iconst 4, 1) := by decide +kernel
theorem dX9_plans_61 : decode cX9_plans 61 = .ok (.iaload, 1) := by decide +kernel
theorem dX9_plans_62 : decode cX9_plans 62 = .ok (.iconst 1, 1) := by decide +kernel
theorem dX9_plans_63 : decode cX9_plans 63 = .ok (.isub, 1) := by decide +kernel
theorem dX9_plans_64 : decode cX9_plans 64 = .ok (.istore 4, 2) := by decide +kernel
theorem dX9_plans_66 : decode cX9_plans 66 = .ok (.iload 4, 2) := by decide +kernel
theorem dX9_plans_68 : decode cX9_plans 68 = .ok (.ifCond .lt 69, 3) := by decide +kernel
theorem dX9_plans_71 : decode cX9_plans 71 = .ok (.iload_n 2, 1) := by decide +kernel
theorem dX9_plans_72 : decode cX9_plans 72 = .ok (.istore 5, 2) := by decide +kernel
theorem dX9_plans_74 : decode cX9_plans 74 = .ok (.iload 5, 2) := by decide +kernel
theorem dX9_plans_76 : decode cX9_plans 76 = .ok (.ifCond .lt 55, 3) := by decide +kernel
theorem dX9_plans_79 : decode cX9_plans 79 = .ok (.aload_n 0, 1) := by decide +kernel
theorem dX9_plans_80 : decode cX9_plans 80 = .ok (.aload_n 1, 1) := by decide +kernel
theorem dX9_plans_81 : decode cX9_plans 81 = .ok (.iload 4, 2) := by decide +kernel
theorem dX9_plans_83 : decode cX9_plans 83 = .ok (.iload 5, 2) := by decide +kernel
theorem dX9_plans_85 : decode cX9_plans 85 = .ok (.aload_n 1, 1) := by decide +kernel
theorem dX9_plans_86 : decode cX9_plans 86 = .ok (.iload 4, 2) := by decide +kernel
theorem dX9_plans_88 : decode cX9_plans 88 = .ok (.invokestatic 238, 3) := by decide +kernel
theorem dX9_plans_91 : decode cX9_plans 91 = .ok (.ifCond .eq 16, 3) := by decide +kernel
theorem dX9_plans_94 : decode cX9_plans 94 = .ok (.iload_n 3, 1) := by decide +kernel
theorem dX9_plans_95 : decode cX9_plans 95 = .ok (.iload 4, 2) := by decide +kernel
theorem dX9_plans_97 : decode cX9_plans 97 = .ok (.invokestatic 76, 3) := by decide +kernel
theorem dX9_plans_100 : decode cX9_plans 100 = .ok (.ifCond .ne 7, 3) := by decide +kernel
theorem dX9_plans_103 : decode cX9_plans 103 = .ok (.iconst 1, 1) := by decide +kernel
theorem dX9_plans_104 : decode cX9_plans 104 = .ok (.goto 4, 3) := by decide +kernel
theorem dX9_plans_107 : decode cX9_plans 107 = .ok (.iconst 0, 1) := by decide +kernel
theorem dX9_plans_108 : decode cX9_plans 108 = .ok (.invokevirtual 241, 3) := by decide +kernel
theorem dX9_plans_111 : decode cX9_plans 111 = .ok (.iload 5, 2) := by decide +kernel
theorem dX9_plans_113 : decode cX9_plans 113 = .ok (.ifCond .ne 7, 3) := by decide +kernel
theorem dX9_plans_116 : decode cX9_plans 116 = .ok (.iconst (-1), 1) := by decide +kernel
theorem dX9_plans_117 : decode cX9_plans 117 = .ok (.goto 9, 3) := by decide +kernel
theorem dX9_plans_120 : decode cX9_plans 120 = .ok (.iload 5, 2) := by decide +kernel
theorem dX9_plans_122 : decode cX9_plans 122 = .ok (.iconst 1, 1) := by decide +kernel
theorem dX9_plans_123 : decode cX9_plans 123 = .ok (.isub, 1) := by decide +kernel
theorem dX9_plans_124 : decode cX9_plans 124 = .ok (.iload_n 2, 1) := by decide +kernel
theorem dX9_plans_125 : decode cX9_plans 125 = .ok (.iand, 1) := by decide +kernel
theorem dX9_plans_126 : decode cX9_plans 126 = .ok (.istore 5, 2) := by decide +kernel
theorem dX9_plans_128 : decode cX9_plans 128 = .ok (.goto (-54), 3) := by decide +kernel
theorem dX9_plans_131 : decode cX9_plans 131 = .ok (.iinc 4 (-1), 3) := by decide +kernel
theorem dX9_plans_134 : decode cX9_plans 134 = .ok (.goto (-68), 3) := by decide +kernel
theorem dX9_plans_137 : decode cX9_plans 137 = .ok (.return_, 1) := by decide +kernel
theorem dX9_weighs_0 : decode cX9_weighs 0 = .ok (.sipush 256, 3) := by decide +kernel
theorem dX9_weighs_3 : decode cX9_weighs 3 = .ok (.iload_n 2, 1) := by decide +kernel
theorem dX9_weighs_4 : decode cX9_weighs 4 = .ok (.imul, 1) := by decide +kernel
theorem dX9_weighs_5 : decode cX9_weighs 5 = .ok (.iload_n 3, 1) := by decide +kernel
theorem dX9_weighs_6 : decode cX9_weighs 6 = .ok (.iadd, 1) := by decide +kernel
theorem dX9_weighs_7 : decode cX9_weighs 7 = .ok (.istore 5, 2) := by decide +kernel
theorem dX9_weighs_9 : decode cX9_weighs 9 = .ok (.aload_n 0, 1) := by decide +kernel
theorem dX9_weighs_10 : decode cX9_weighs 10 = .ok (.getfield 29, 3) := by decide +kernel
theorem dX9_weighs_13 : decode cX9_weighs 13 = .ok (.iload 5, 2) := by decide +kernel
theorem dX9_weighs_15 : decode cX9_weighs 15 = .ok (.aload_n 0, 1) := by decide +kernel
theorem dX9_weighs_16 : decode cX9_weighs 16 = .ok (.getfield 29, 3) := by decide +kernel
theorem dX9_weighs_19 : decode cX9_weighs 19 = .ok (.iload 5, 2) := by decide +kernel
theorem dX9_weighs_21 : decode cX9_weighs 21 = .ok (.sipush 256, 3) := by decide +kernel
theorem dX9_weighs_24 : decode cX9_weighs 24 = .ok (.iadd, 1) := by decide +kernel
theorem dX9_weighs_25 : decode cX9_weighs 25 = .ok (.iaload, 1) := by decide +kernel
theorem dX9_weighs_26 : decode cX9_weighs 26 = .ok (.iastore, 1) := by decide +kernel
theorem dX9_weighs_27 : decode cX9_weighs 27 = .ok (.aload_n 0, 1) := by decide +kernel
theorem dX9_weighs_28 : decode cX9_weighs 28 = .ok (.getfield 32, 3) := by decide +kernel
theorem dX9_weighs_31 : decode cX9_weighs 31 = .ok (.iload 5, 2) := by decide +kernel
theorem dX9_weighs_33 : decode cX9_weighs 33 = .ok (.aload_n 0, 1) := by decide +kernel
theorem dX9_weighs_34 : decode cX9_weighs 34 = .ok (.getfield 32, 3) := by decide +kernel
theorem dX9_weighs_37 : decode cX9_weighs 37 = .ok (.iload 5, 2) := by decide +kernel
theorem dX9_weighs_39 : decode cX9_weighs 39 = .ok (.sipush 256, 3) := by decide +kernel
theorem dX9_weighs_42 : decode cX9_weighs 42 = .ok (.iadd, 1) := by decide +kernel
theorem dX9_weighs_43 : decode cX9_weighs 43 = .ok (.iaload, 1) := by decide +kernel
theorem dX9_weighs_44 : decode cX9_weighs 44 = .ok (.iastore, 1) := by decide +kernel
theorem dX9_weighs_45 : decode cX9_weighs 45 = .ok (.iload_n 3, 1) := by decide +kernel
theorem dX9_weighs_46 : decode cX9_weighs 46 = .ok (.istore 6, 2) := by decide +kernel
theorem dX9_weighs_48 : decode cX9_weighs 48 = .ok (.iload 6, 2) := by decide +kernel
theorem dX9_weighs_50 : decode cX9_weighs 50 = .ok (.ifCond .le 186, 3) := by decide +kernel
theorem dX9_weighs_53 : decode cX9_weighs 53 = .ok (.iload 4, 2) := by decide +kernel
theorem dX9_weighs_55 : decode cX9_weighs 55 = .ok (.ifCond .eq 181, 3) := by decide +kernel
theorem dX9_weighs_58 : decode cX9_weighs 58 = .ok (.sipush 256, 3) := by decide +kernel
theorem dX9_weighs_61 : decode cX9_weighs 61 = .ok (.iload_n 2, 1) := by decide +kernel
theorem dX9_weighs_62 : decode cX9_weighs 62 = .ok (.iconst 1, 1) := by decide +kernel
theorem dX9_weighs_63 : decode cX9_weighs 63 = .ok (.iadd, 1) := by decide +kernel
theorem dX9_weighs_64 : decode cX9_weighs 64 = .ok (.imul, 1) := by decide +kernel
theorem dX9_weighs_65 : decode cX9_weighs 65 = .ok (.iload_n 3, 1) := by decide +kernel
theorem dX9_weighs_66 : decode cX9_weighs 66 = .ok (.iload 6, 2) := by decide +kernel
theorem dX9_weighs_68 : decode cX9_weighs 68 = .ok (.ixor, 1) := by decide +kernel
theorem dX9_weighs_69 : decode cX9_weighs 69 = .ok (.iadd, 1) := by decide +kernel
theorem dX9_weighs_70 : decode cX9_weighs 70 = .ok (.istore 7, 2) := by decide +kernel
theorem dX9_weighs_72 : decode cX9_weighs 72 = .ok (.aload_n 0, 1) := by decide +kernel
theorem dX9_weighs_73 : decode cX9_weighs 73 = .ok (.getfield 29, 3) := by decide +kernel
theorem dX9_weighs_76 : decode cX9_weighs 76 = .ok (.iload 7, 2) := by decide +kernel
theorem dX9_weighs_78 : decode cX9_weighs 78 = .ok (.iaload, 1) := by decide +kernel
theorem dX9_weighs_79 : decode cX9_weighs 79 = .ok (.ldc 59, 2) := by decide +kernel
theorem dX9_weighs_81 : decode cX9_weighs 81 = .ok (.if_icmp .eq 144, 3) := by decide +kernel
theorem dX9_weighs_84 : decode cX9_weighs 84 = .ok (.aload_n 1, 1) := by decide +kernel
theorem dX9_weighs_85 : decode cX9_weighs 85 = .ok (.iload_n 2, 1) := by decide +kernel
theorem dX9_weighs_86 : decode cX9_weighs 86 = .ok (.iload 6, 2) := by decide +kernel
theorem dX9_weighs_88 : decode cX9_weighs 88 = .ok (.invokestatic 86, 3) := by decide +kernel
theorem dX9_weighs_91 : decode cX9_weighs 91 = .ok (.ifCond .lt 134, 3) := by decide +kernel
theorem dX9_weighs_94 : decode cX9_weighs 94 = .ok (.aload_n 0, 1) := by decide +kernel
theorem dX9_weighs_95 : decode cX9_weighs 95 = .ok (.getfield 29, 3) := by decide +kernel
theorem dX9_weighs_98 : decode cX9_weighs 98 = .ok (.iload 7, 2) := by decide +kernel
theorem dX9_weighs_100 : decode cX9_weighs 100 = .ok (.iaload, 1) := by decide +kernel
theorem dX9_weighs_101 : decode cX9_weighs 101 = .ok (.aload_n 1, 1) := by decide +kernel
theorem dX9_weighs_102 : decode cX9_weighs 102 = .ok (.iload_n 2, 1) := by decide +kernel
theorem dX9_weighs_103 : decode cX9_weighs 103 = .ok (.iload 6, 2) := by decide +kernel
theorem dX9_weighs_105 : decode cX9_weighs 105 = .ok (.invokestatic 245, 3) := by decide +kernel
theorem dX9_weighs_108 : decode cX9_weighs 108 = .ok (.iadd, 1) := by decide +kernel
theorem dX9_weighs_109 : decode cX9_weighs 109 = .ok (.istore 8, 2) := by decide +kernel
theorem dX9_weighs_111 : decode cX9_weighs 111 = .ok (.aload_n 0, 1) := by decide +kernel
theorem dX9_weighs_112 : decode cX9_weighs 112 = .ok (.getfield 32, 3) := by decide +kernel
theorem dX9_weighs_115 : decode cX9_weighs 115 = .ok (.iload 7, 2) := by decide +kernel
theorem dX9_weighs_117 : decode cX9_weighs 117 = .ok (.iaload, 1) := by decide +kernel
theorem dX9_weighs_118 : decode cX9_weighs 118 = .ok (.iconst 1, 1) := by decide +kernel
theorem dX9_weighs_119 : decode cX9_weighs 119 = .ok (.iadd, 1) := by decide +kernel
theorem dX9_weighs_120 : decode cX9_weighs 120 = .ok (.istore 9, 2) := by decide +kernel
theorem dX9_weighs_122 : decode cX9_weighs 122 = .ok (.aload_n 0, 1) := by decide +kernel
theorem dX9_weighs_123 : decode cX9_weighs 123 = .ok (.getfield 29, 3) := by decide +kernel
theorem dX9_weighs_126 : decode cX9_weighs 126 = .ok (.iload 5, 2) := by decide +kernel
theorem dX9_weighs_128 : decode cX9_weighs 128 = .ok (.iaload, 1) := by decide +kernel
theorem dX9_weighs_129 : decode cX9_weighs 129 = .ok (.ldc 59, 2) := by decide +kernel
theorem dX9_weighs_131 : decode cX9_weighs 131 = .ok (.if_icmp .eq 39, 3) := by decide +kernel
theorem dX9_weighs_134 : decode cX9_weighs 134 = .ok (.iload 8, 2) := by decide +kernel
theorem dX9_weighs_136 : decode cX9_weighs 136 = .ok (.aload_n 0, 1) := by decide +kernel
theorem dX9_weighs_137 : decode cX9_weighs 137 = .ok (.getfield 29, 3) := by decide +kernel
theorem dX9_weighs_140 : decode cX9_weighs 140 = .ok (.iload 5, 2) := by decide +kernel
theorem dX9_weighs_142 : decode cX9_weighs 142 = .ok (.iaload, 1) := by decide +kernel
theorem dX9_weighs_143 : decode cX9_weighs 143 = .ok (.if_icmp .lt 27, 3) := by decide +kernel
theorem dX9_weighs_146 : decode cX9_weighs 146 = .ok (.iload 8, 2) := by decide +kernel
theorem dX9_weighs_148 : decode cX9_weighs 148 = .ok (.aload_n 0, 1) := by decide +kernel
theorem dX9_weighs_149 : decode cX9_weighs 149 = .ok (.getfield 29, 3) := by decide +kernel
theorem dX9_weighs_152 : decode cX9_weighs 152 = .ok (.iload 5, 2) := by decide +kernel
theorem dX9_weighs_154 : decode cX9_weighs 154 = .ok (.iaload, 1) := by decide +kernel
theorem dX9_weighs_155 : decode cX9_weighs 155 = .ok (.if_icmp .ne 19, 3) := by decide +kernel
theorem dX9_weighs_158 : decode cX9_weighs 158 = .ok (.iload 9, 2) := by decide +kernel
theorem dX9_weighs_160 : decode cX9_weighs 160 = .ok (.aload_n 0, 1) := by decide +kernel
theorem dX9_weighs_161 : decode cX9_weighs 161 = .ok (.getfield 32, 3) := by decide +kernel
theorem dX9_weighs_164 : decode cX9_weighs 164 = .ok (.iload 5, 2) := by decide +kernel
theorem dX9_weighs_166 : decode cX9_weighs 166 = .ok (.iaload, 1) := by decide +kernel
theorem dX9_weighs_167 : decode cX9_weighs 167 = .ok (.if_icmp .ge 7, 3) := by decide +kernel
theorem dX9_weighs_170 : decode cX9_weighs 170 = .ok (.iconst 1, 1) := by decide +kernel
theorem dX9_weighs_171 : decode cX9_weighs 171 = .ok (.goto 4, 3) := by decide +kernel
theorem dX9_weighs_174 : decode cX9_weighs 174 = .ok (.iconst 0, 1) := by decide +kernel
theorem dX9_weighs_175 : decode cX9_weighs 175 = .ok (.istore 10, 2) := by decide +kernel
theorem dX9_weighs_177 : decode cX9_weighs 177 = .ok (.aload_n 0, 1) := by decide +kernel
theorem dX9_weighs_178 : decode cX9_weighs 178 = .ok (.getfield 29, 3) := by decide +kernel
theorem dX9_weighs_181 : decode cX9_weighs 181 = .ok (.iload 5, 2) := by decide +kernel
theorem dX9_weighs_183 : decode cX9_weighs 183 = .ok (.iload 10, 2) := by decide +kernel
theorem dX9_weighs_185 : decode cX9_weighs 185 = .ok (.ifCond .eq 8, 3) := by decide +kernel
theorem dX9_weighs_188 : decode cX9_weighs 188 = .ok (.iload 8, 2) := by decide +kernel
theorem dX9_weighs_190 : decode cX9_weighs 190 = .ok (.goto 10, 3) := by decide +kernel
theorem dX9_weighs_193 : decode cX9_weighs 193 = .ok (.aload_n 0, 1) := by decide +kernel
theorem dX9_weighs_194 : decode cX9_weighs 194 = .ok (.getfield 29, 3) := by decide +kernel
theorem dX9_weighs_197 : decode cX9_weighs 197 = .ok (.iload 5, 2) := by decide +kernel
theorem dX9_weighs_199 : decode cX9_weighs 199 = .ok (.iaload, 1) := by decide +kernel
theorem dX9_weighs_200 : decode cX9_weighs 200 = .ok (.iastore, 1) := by decide +kernel
theorem dX9_weighs_201 : decode cX9_weighs 201 = .ok (.aload_n 0, 1) := by decide +kernel
theorem dX9_weighs_202 : decode cX9_weighs 202 = .ok (.getfield 32, 3) := by decide +kernel
theorem dX9_weighs_205 : decode cX9_weighs 205 = .ok (.iload 5, 2) := by decide +kernel
theorem dX9_weighs_207 : decode cX9_weighs 207 = .ok (.iload 10, 2) := by decide +kernel
theorem dX9_weighs_209 : decode cX9_weighs 209 = .ok (.ifCond .eq 8, 3) := by decide +kernel
theorem dX9_weighs_212 : decode cX9_weighs 212 = .ok (.iload 9, 2) := by decide +kernel
theorem dX9_weighs_214 : decode cX9_weighs 214 = .ok (.goto 10, 3) := by decide +kernel
theorem dX9_weighs_217 : decode cX9_weighs 217 = .ok (.aload_n 0, 1) := by decide +kernel
theorem dX9_weighs_218 : decode cX9_weighs 218 = .ok (.getfield 32, 3) := by decide +kernel
theorem dX9_weighs_221 : decode cX9_weighs 221 = .ok (.iload 5, 2) := by decide +kernel
theorem dX9_weighs_223 : decode cX9_weighs 223 = .ok (.iaload, 1) := by decide +kernel
theorem dX9_weighs_224 : decode cX9_weighs 224 = .ok (.iastore, 1) := by decide +kernel
theorem dX9_weighs_225 : decode cX9_weighs 225 = .ok (.iload 6, 2) := by decide +kernel
theorem dX9_weighs_227 : decode cX9_weighs 227 = .ok (.iconst 1, 1) := by decide +kernel
theorem dX9_weighs_228 : decode cX9_weighs 228 = .ok (.isub, 1) := by decide +kernel
theorem dX9_weighs_229 : decode cX9_weighs 229 = .ok (.iload_n 3, 1) := by decide +kernel
theorem dX9_weighs_230 : decode cX9_weighs 230 = .ok (.iand, 1) := by decide +kernel
theorem dX9_weighs_231 : decode cX9_weighs 231 = .ok (.istore 6, 2) := by decide +kernel
theorem dX9_weighs_233 : decode cX9_weighs 233 = .ok (.goto (-185), 3) := by decide +kernel
theorem dX9_weighs_236 : decode cX9_weighs 236 = .ok (.return_, 1) := by decide +kernel
theorem dX9_canBePlaced_0 : decode cX9_canBePlaced 0 = .ok (.aload_n 0, 1) := by decide +kernel
theorem dX9_canBePlaced_1 : decode cX9_canBePlaced 1 = .ok (.aload_n 1, 1) := by decide +kernel
theorem dX9_canBePlaced_2 : decode cX9_canBePlaced 2 = .ok (.aload_n 1, 1) := by decide +kernel
theorem dX9_canBePlaced_3 : decode cX9_canBePlaced 3 = .ok (.invokestatic 234, 3) := by decide +kernel
theorem dX9_canBePlaced_6 : decode cX9_canBePlaced 6 = .ok (.iload_n 2, 1) := by decide +kernel
theorem dX9_canBePlaced_7 : decode cX9_canBePlaced 7 = .ok (.invokevirtual 248, 3) := by decide +kernel
theorem dX9_canBePlaced_10 : decode cX9_canBePlaced 10 = .ok (.aload_n 0, 1) := by decide +kernel
theorem dX9_canBePlaced_11 : decode cX9_canBePlaced 11 = .ok (.getfield 29, 3) := by decide +kernel
theorem dX9_canBePlaced_14 : decode cX9_canBePlaced 14 = .ok (.aload_n 1, 1) := by decide +kernel
theorem dX9_canBePlaced_15 : decode cX9_canBePlaced 15 = .ok (.invokestatic 234, 3) := by decide +kernel
theorem dX9_canBePlaced_18 : decode cX9_canBePlaced 18 = .ok (.iaload, 1) := by decide +kernel
theorem dX9_canBePlaced_19 : decode cX9_canBePlaced 19 = .ok (.ldc 59, 2) := by decide +kernel
theorem dX9_canBePlaced_21 : decode cX9_canBePlaced 21 = .ok (.if_icmp .eq 7, 3) := by decide +kernel
theorem dX9_canBePlaced_24 : decode cX9_canBePlaced 24 = .ok (.iconst 1, 1) := by decide +kernel
theorem dX9_canBePlaced_25 : decode cX9_canBePlaced 25 = .ok (.goto 4, 3) := by decide +kernel
theorem dX9_canBePlaced_28 : decode cX9_canBePlaced 28 = .ok (.iconst 0, 1) := by decide +kernel
theorem dX9_canBePlaced_29 : decode cX9_canBePlaced 29 = .ok (.ireturn, 1) := by decide +kernel
theorem dX9_best_0 : decode cX9_best 0 = .ok (.aload_n 0, 1) := by decide +kernel
theorem dX9_best_1 : decode cX9_best 1 = .ok (.aload_n 1, 1) := by decide +kernel
theorem dX9_best_2 : decode cX9_best 2 = .ok (.iconst 0, 1) := by decide +kernel
theorem dX9_best_3 : decode cX9_best 3 = .ok (.invokevirtual 251, 3) := by decide +kernel
theorem dX9_best_6 : decode cX9_best 6 = .ok (.ifCond .ne 5, 3) := by decide +kernel
theorem dX9_best_9 : decode cX9_best 9 = .ok (.iconst 0, 1) := by decide +kernel
theorem dX9_best_10 : decode cX9_best 10 = .ok (.ireturn, 1) := by decide +kernel
theorem dX9_best_11 : decode cX9_best 11 = .ok (.aload_n 1, 1) := by decide +kernel
theorem dX9_best_12 : decode cX9_best 12 = .ok (.invokestatic 234, 3) := by decide +kernel
theorem dX9_best_15 : decode cX9_best 15 = .ok (.istore_n 2, 1) := by decide +kernel
theorem dX9_best_16 : decode cX9_best 16 = .ok (.iconst 0, 1) := by decide +kernel
theorem dX9_best_17 : decode cX9_best 17 = .ok (.istore_n 3, 1) := by decide +kernel
theorem dX9_best_18 : decode cX9_best 18 = .ok (.iload_n 3, 1) := by decide +kernel
theorem dX9_best_19 : decode cX9_best 19 = .ok (.aload_n 1, 1) := by decide +kernel
theorem dX9_best_20 : decode cX9_best 20 = .ok (.iconst 4, 1) := by decide +kernel
theorem dX9_best_21 : decode cX9_best 21 = .ok (.iaload, 1) := by decide +kernel
theorem dX9_best_22 : decode cX9_best 22 = .ok (.if_icmp .ge 31, 3) := by decide +kernel
theorem dX9_best_25 : decode cX9_best 25 = .ok (.aload_n 0, 1) := by decide +kernel
theorem dX9_best_26 : decode cX9_best 26 = .ok (.getfield 35, 3) := by decide +kernel
theorem dX9_best_29 : decode cX9_best 29 = .ok (.iload_n 3, 1) := by decide +kernel
theorem dX9_best_30 : decode cX9_best 30 = .ok (.aload_n 0, 1) := by decide +kernel
theorem dX9_best_31 : decode cX9_best 31 = .ok (.aload_n 1, 1) := by decide +kernel
theorem dX9_best_32 : decode cX9_best 32 = .ok (.iload_n 3, 1) := by decide +kernel
theorem dX9_best_33 : decode cX9_best 33 = .ok (.iload_n 2, 1) := by decide +kernel
theorem dX9_best_34 : decode cX9_best 34 = .ok (.invokevirtual 254, 3) := by decide +kernel
theorem dX9_best_37 : decode cX9_best 37 = .ok (.iastore, 1) := by decide +kernel
theorem dX9_best_38 : decode cX9_best 38 = .ok (.iload_n 2, 1) := by decide +kernel
theorem dX9_best_39 : decode cX9_best 39 = .ok (.aload_n 0, 1) := by decide +kernel
theorem dX9_best_40 : decode cX9_best 40 = .ok (.getfield 35, 3) := by decide +kernel
theorem dX9_best_43 : decode cX9_best 43 = .ok (.iload_n 3, 1) := by decide +kernel
theorem dX9_best_44 : decode cX9_best 44 = .ok (.iaload, 1) := by decide +kernel
theorem dX9_best_45 : decode cX9_best 45 = .ok (.ixor, 1) := by decide +kernel
theorem dX9_best_46 : decode cX9_best 46 = .ok (.istore_n 2, 1) := by decide +kernel
theorem dX9_best_47 : decode cX9_best 47 = .ok (.iinc 3 1, 3) := by decide +kernel
theorem dX9_best_50 : decode cX9_best 50 = .ok (.goto (-32), 3) := by decide +kernel
theorem dX9_best_53 : decode cX9_best 53 = .ok (.iconst 1, 1) := by decide +kernel
theorem dX9_best_54 : decode cX9_best 54 = .ok (.ireturn, 1) := by decide +kernel
theorem dX9_leastAt_0 : decode cX9_leastAt 0 = .ok (.sipush 256, 3) := by decide +kernel
theorem dX9_leastAt_3 : decode cX9_leastAt 3 = .ok (.iload_n 2, 1) := by decide +kernel
theorem dX9_leastAt_4 : decode cX9_leastAt 4 = .ok (.imul, 1) := by decide +kernel
theorem dX9_leastAt_5 : decode cX9_leastAt 5 = .ok (.iload_n 3, 1) := by decide +kernel
theorem dX9_leastAt_6 : decode cX9_leastAt 6 = .ok (.iadd, 1) := by decide +kernel
theorem dX9_leastAt_7 : decode cX9_leastAt 7 = .ok (.istore 4, 2) := by decide +kernel
theorem dX9_leastAt_9 : decode cX9_leastAt 9 = .ok (.aload_n 0, 1) := by decide +kernel
theorem dX9_leastAt_10 : decode cX9_leastAt 10 = .ok (.getfield 29, 3) := by decide +kernel
theorem dX9_leastAt_13 : decode cX9_leastAt 13 = .ok (.iload 4, 2) := by decide +kernel
theorem dX9_leastAt_15 : decode cX9_leastAt 15 = .ok (.sipush 256, 3) := by decide +kernel
theorem dX9_leastAt_18 : decode cX9_leastAt 18 = .ok (.iadd, 1) := by decide +kernel
theorem dX9_leastAt_19 : decode cX9_leastAt 19 = .ok (.iaload, 1) := by decide +kernel
theorem dX9_leastAt_20 : decode cX9_leastAt 20 = .ok (.aload_n 0, 1) := by decide +kernel
theorem dX9_leastAt_21 : decode cX9_leastAt 21 = .ok (.getfield 29, 3) := by decide +kernel
theorem dX9_leastAt_24 : decode cX9_leastAt 24 = .ok (.iload 4, 2) := by decide +kernel
theorem dX9_leastAt_26 : decode cX9_leastAt 26 = .ok (.iaload, 1) := by decide +kernel
theorem dX9_leastAt_27 : decode cX9_leastAt 27 = .ok (.if_icmp .ne 26, 3) := by decide +kernel
theorem dX9_leastAt_30 : decode cX9_leastAt 30 = .ok (.aload_n 0, 1) := by decide +kernel
theorem dX9_leastAt_31 : decode cX9_leastAt 31 = .ok (.getfield 32, 3) := by decide +kernel
theorem dX9_leastAt_34 : decode cX9_leastAt 34 = .ok (.iload 4, 2) := by decide +kernel
theorem dX9_leastAt_36 : decode cX9_leastAt 36 = .ok (.sipush 256, 3) := by decide +kernel
theorem dX9_leastAt_39 : decode cX9_leastAt 39 = .ok (.iadd, 1) := by decide +kernel
theorem dX9_leastAt_40 : decode cX9_leastAt 40 = .ok (.iaload, 1) := by decide +kernel
theorem dX9_leastAt_41 : decode cX9_leastAt 41 = .ok (.aload_n 0, 1) := by decide +kernel
theorem dX9_leastAt_42 : decode cX9_leastAt 42 = .ok (.getfield 32, 3) := by decide +kernel
theorem dX9_leastAt_45 : decode cX9_leastAt 45 = .ok (.iload 4, 2) := by decide +kernel
theorem dX9_leastAt_47 : decode cX9_leastAt 47 = .ok (.iaload, 1) := by decide +kernel
theorem dX9_leastAt_48 : decode cX9_leastAt 48 = .ok (.if_icmp .ne 5, 3) := by decide +kernel
theorem dX9_leastAt_51 : decode cX9_leastAt 51 = .ok (.iconst 0, 1) := by decide +kernel
theorem dX9_leastAt_52 : decode cX9_leastAt 52 = .ok (.ireturn, 1) := by decide +kernel
theorem dX9_leastAt_53 : decode cX9_leastAt 53 = .ok (.iload_n 3, 1) := by decide +kernel
theorem dX9_leastAt_54 : decode cX9_leastAt 54 = .ok (.istore 5, 2) := by decide +kernel
theorem dX9_leastAt_56 : decode cX9_leastAt 56 = .ok (.iload_n 3, 1) := by decide +kernel
theorem dX9_leastAt_57 : decode cX9_leastAt 57 = .ok (.istore 6, 2) := by decide +kernel
theorem dX9_leastAt_59 : decode cX9_leastAt 59 = .ok (.iload 6, 2) := by decide +kernel
theorem dX9_leastAt_61 : decode cX9_leastAt 61 = .ok (.ifCond .le 115, 3) := by decide +kernel
theorem dX9_leastAt_64 : decode cX9_leastAt 64 = .ok (.sipush 256, 3) := by decide +kernel
theorem dX9_leastAt_67 : decode cX9_leastAt 67 = .ok (.iload_n 2, 1) := by decide +kernel
theorem dX9_leastAt_68 : decode cX9_leastAt 68 = .ok (.iconst 1, 1) := by decide +kernel
theorem dX9_leastAt_69 : decode cX9_leastAt 69 = .ok (.iadd, 1) := by decide +kernel
theorem dX9_leastAt_70 : decode cX9_leastAt 70 = .ok (.imul, 1) := by decide +kernel
theorem dX9_leastAt_71 : decode cX9_leastAt 71 = .ok (.iload_n 3, 1) := by decide +kernel
theorem dX9_leastAt_72 : decode cX9_leastAt 72 = .ok (.iload 6, 2) := by decide +kernel
theorem dX9_leastAt_74 : decode cX9_leastAt 74 = .ok (.ixor, 1) := by decide +kernel
theorem dX9_leastAt_75 : decode cX9_leastAt 75 = .ok (.iadd, 1) := by decide +kernel
theorem dX9_leastAt_76 : decode cX9_leastAt 76 = .ok (.istore 7, 2) := by decide +kernel
theorem dX9_leastAt_78 : decode cX9_leastAt 78 = .ok (.aload_n 0, 1) := by decide +kernel
theorem dX9_leastAt_79 : decode cX9_leastAt 79 = .ok (.getfield 29, 3) := by decide +kernel
theorem dX9_leastAt_82 : decode cX9_leastAt 82 = .ok (.iload 7, 2) := by decide +kernel
theorem dX9_leastAt_84 : decode cX9_leastAt 84 = .ok (.iaload, 1) := by decide +kernel
theorem dX9_leastAt_85 : decode cX9_leastAt 85 = .ok (.ldc 59, 2) := by decide +kernel
theorem dX9_leastAt_87 : decode cX9_leastAt 87 = .ok (.if_icmp .eq 61, 3) := by decide +kernel
theorem dX9_leastAt_90 : decode cX9_leastAt 90 = .ok (.aload_n 1, 1) := by decide +kernel
theorem dX9_leastAt_91 : decode cX9_leastAt 91 = .ok (.iload_n 2, 1) := by decide +kernel
theorem dX9_leastAt_92 : decode cX9_leastAt 92 = .ok (.iload 6, 2) := by decide +kernel
theorem dX9_leastAt_94 : decode cX9_leastAt 94 = .ok (.invokestatic 86, 3) := by decide +kernel
theorem dX9_leastAt_97 : decode cX9_leastAt 97 = .ok (.ifCond .lt 51, 3) := by decide +kernel
theorem dX9_leastAt_100 : decode cX9_leastAt 100 = .ok (.aload_n 0, 1) := by decide +kernel
theorem dX9_leastAt_101 : decode cX9_leastAt 101 = .ok (.getfield 29, 3) := by decide +kernel
theorem dX9_leastAt_104 : decode cX9_leastAt 104 = .ok (.iload 7, 2) := by decide +kernel
theorem dX9_leastAt_106 : decode cX9_leastAt 106 = .ok (.iaload, 1) := by decide +kernel
theorem dX9_leastAt_107 : decode cX9_leastAt 107 = .ok (.aload_n 1, 1) := by decide +kernel
theorem dX9_leastAt_108 : decode cX9_leastAt 108 = .ok (.iload_n 2, 1) := by decide +kernel
theorem dX9_leastAt_109 : decode cX9_leastAt 109 = .ok (.iload 6, 2) := by decide +kernel
theorem dX9_leastAt_111 : decode cX9_leastAt 111 = .ok (.invokestatic 245, 3) := by decide +kernel
theorem dX9_leastAt_114 : decode cX9_leastAt 114 = .ok (.iadd, 1) := by decide +kernel
theorem dX9_leastAt_115 : decode cX9_leastAt 115 = .ok (.aload_n 0, 1) := by decide +kernel
theorem dX9_leastAt_116 : decode cX9_leastAt 116 = .ok (.getfield 29, 3) := by decide +kernel
theorem dX9_leastAt_119 : decode cX9_leastAt 119 = .ok (.iload 4, 2) := by decide +kernel
theorem dX9_leastAt_121 : decode cX9_leastAt 121 = .ok (.iaload, 1) := by decide +kernel
theorem dX9_leastAt_122 : decode cX9_leastAt 122 = .ok (.if_icmp .ne 26, 3) := by decide +kernel
theorem dX9_leastAt_125 : decode cX9_leastAt 125 = .ok (.aload_n 0, 1) := by decide +kernel
theorem dX9_leastAt_126 : decode cX9_leastAt 126 = .ok (.getfield 32, 3) := by decide +kernel
theorem dX9_leastAt_129 : decode cX9_leastAt 129 = .ok (.iload 7, 2) := by decide +kernel
theorem dX9_leastAt_131 : decode cX9_leastAt 131 = .ok (.iaload, 1) := by decide +kernel
theorem dX9_leastAt_132 : decode cX9_leastAt 132 = .ok (.iconst 1, 1) := by decide +kernel
theorem dX9_leastAt_133 : decode cX9_leastAt 133 = .ok (.iadd, 1) := by decide +kernel
theorem dX9_leastAt_134 : decode cX9_leastAt 134 = .ok (.aload_n 0, 1) := by decide +kernel
theorem dX9_leastAt_135 : decode cX9_leastAt 135 = .ok (.getfield 32, 3) := by decide +kernel
theorem dX9_leastAt_138 : decode cX9_leastAt 138 = .ok (.iload 4, 2) := by decide +kernel
theorem dX9_leastAt_140 : decode cX9_leastAt 140 = .ok (.iaload, 1) := by decide +kernel
theorem dX9_leastAt_141 : decode cX9_leastAt 141 = .ok (.if_icmp .ne 7, 3) := by decide +kernel
theorem dX9_leastAt_144 : decode cX9_leastAt 144 = .ok (.iconst 1, 1) := by decide +kernel
theorem dX9_leastAt_145 : decode cX9_leastAt 145 = .ok (.goto 4, 3) := by decide +kernel
theorem dX9_leastAt_148 : decode cX9_leastAt 148 = .ok (.iconst 0, 1) := by decide +kernel
theorem dX9_leastAt_149 : decode cX9_leastAt 149 = .ok (.istore 8, 2) := by decide +kernel
theorem dX9_leastAt_151 : decode cX9_leastAt 151 = .ok (.iload 8, 2) := by decide +kernel
theorem dX9_leastAt_153 : decode cX9_leastAt 153 = .ok (.ifCond .eq 8, 3) := by decide +kernel
theorem dX9_leastAt_156 : decode cX9_leastAt 156 = .ok (.iload 6, 2) := by decide +kernel
theorem dX9_leastAt_158 : decode cX9_leastAt 158 = .ok (.goto 5, 3) := by decide +kernel
theorem dX9_leastAt_161 : decode cX9_leastAt 161 = .ok (.iload 5, 2) := by decide +kernel
theorem dX9_leastAt_163 : decode cX9_leastAt 163 = .ok (.istore 5, 2) := by decide +kernel
theorem dX9_leastAt_165 : decode cX9_leastAt 165 = .ok (.iload 6, 2) := by decide +kernel
theorem dX9_leastAt_167 : decode cX9_leastAt 167 = .ok (.iconst 1, 1) := by decide +kernel
theorem dX9_leastAt_168 : decode cX9_leastAt 168 = .ok (.isub, 1) := by decide +kernel
theorem dX9_leastAt_169 : decode cX9_leastAt 169 = .ok (.iload_n 3, 1) := by decide +kernel
theorem dX9_leastAt_170 : decode cX9_leastAt 170 = .ok (.iand, 1) := by decide +kernel
theorem dX9_leastAt_171 : decode cX9_leastAt 171 = .ok (.istore 6, 2) := by decide +kernel
theorem dX9_leastAt_173 : decode cX9_leastAt 173 = .ok (.goto (-114), 3) := by decide +kernel
theorem dX9_leastAt_176 : decode cX9_leastAt 176 = .ok (.iload 5, 2) := by decide +kernel
theorem dX9_leastAt_178 : decode cX9_leastAt 178 = .ok (.ireturn, 1) := by decide +kernel
theorem dX9_lossOfPlan_0 : decode cX9_lossOfPlan 0 = .ok (.iconst 0, 1) := by decide +kernel
theorem dX9_lossOfPlan_1 : decode cX9_lossOfPlan 1 = .ok (.istore_n 1, 1) := by decide +kernel
theorem dX9_lossOfPlan_2 : decode cX9_lossOfPlan 2 = .ok (.iconst 0, 1) := by decide +kernel
theorem dX9_lossOfPlan_3 : decode cX9_lossOfPlan 3 = .ok (.istore_n 2, 1) := by decide +kernel
theorem dX9_lossOfPlan_4 : decode cX9_lossOfPlan 4 = .ok (.iload_n 2, 1) := by decide +kernel
theorem dX9_lossOfPlan_5 : decode cX9_lossOfPlan 5 = .ok (.aload_n 0, 1) := by decide +kernel
theorem dX9_lossOfPlan_6 : decode cX9_lossOfPlan 6 = .ok (.getfield 7, 3) := by decide +kernel
theorem dX9_lossOfPlan_9 : decode cX9_lossOfPlan 9 = .ok (.iconst 4, 1) := by decide +kernel
theorem dX9_lossOfPlan_10 : decode cX9_lossOfPlan 10 = .ok (.iaload, 1) := by decide +kernel
theorem dX9_lossOfPlan_11 : decode cX9_lossOfPlan 11 = .ok (.if_icmp .ge 26, 3) := by decide +kernel
theorem dX9_lossOfPlan_14 : decode cX9_lossOfPlan 14 = .ok (.iload_n 1, 1) := by decide +kernel
theorem dX9_lossOfPlan_15 : decode cX9_lossOfPlan 15 = .ok (.aload_n 0, 1) := by decide +kernel
theorem dX9_lossOfPlan_16 : decode cX9_lossOfPlan 16 = .ok (.getfield 7, 3) := by decide +kernel
theorem dX9_lossOfPlan_19 : decode cX9_lossOfPlan 19 = .ok (.iload_n 2, 1) := by decide +kernel
theorem dX9_lossOfPlan_20 : decode cX9_lossOfPlan 20 = .ok (.aload_n 0, 1) := by decide +kernel
theorem dX9_lossOfPlan_21 : decode cX9_lossOfPlan 21 = .ok (.getfield 35, 3) := by decide +kernel
theorem dX9_lossOfPlan_24 : decode cX9_lossOfPlan 24 = .ok (.iload_n 2, 1) := by decide +kernel
theorem dX9_lossOfPlan_25 : decode cX9_lossOfPlan 25 = .ok (.iaload, 1) := by decide +kernel
theorem dX9_lossOfPlan_26 : decode cX9_lossOfPlan 26 = .ok (.invokestatic 245, 3) := by decide +kernel
theorem dX9_lossOfPlan_29 : decode cX9_lossOfPlan 29 = .ok (.iadd, 1) := by decide +kernel
theorem dX9_lossOfPlan_30 : decode cX9_lossOfPlan 30 = .ok (.istore_n 1, 1) := by decide +kernel
theorem dX9_lossOfPlan_31 : decode cX9_lossOfPlan 31 = .ok (.iinc 2 1, 3) := by decide +kernel
theorem dX9_lossOfPlan_34 : decode cX9_lossOfPlan 34 = .ok (.goto (-30), 3) := by decide +kernel
theorem dX9_lossOfPlan_37 : decode cX9_lossOfPlan 37 = .ok (.iload_n 1, 1) := by decide +kernel
theorem dX9_lossOfPlan_38 : decode cX9_lossOfPlan 38 = .ok (.ireturn, 1) := by decide +kernel
theorem dX9_roomsOfPlan_0 : decode cX9_roomsOfPlan 0 = .ok (.iconst 0, 1) := by decide +kernel
theorem dX9_roomsOfPlan_1 : decode cX9_roomsOfPlan 1 = .ok (.istore_n 1, 1) := by decide +kernel
theorem dX9_roomsOfPlan_2 : decode cX9_roomsOfPlan 2 = .ok (.iconst 0, 1) := by decide +kernel
theorem dX9_roomsOfPlan_3 : decode cX9_roomsOfPlan 3 = .ok (.istore_n 2, 1) := by decide +kernel
theorem dX9_roomsOfPlan_4 : decode cX9_roomsOfPlan 4 = .ok (.iload_n 2, 1) := by decide +kernel
theorem dX9_roomsOfPlan_5 : decode cX9_roomsOfPlan 5 = .ok (.aload_n 0, 1) := by decide +kernel
theorem dX9_roomsOfPlan_6 : decode cX9_roomsOfPlan 6 = .ok (.getfield 7, 3) := by decide +kernel
theorem dX9_roomsOfPlan_9 : decode cX9_roomsOfPlan 9 = .ok (.iconst 4, 1) := by decide +kernel
theorem dX9_roomsOfPlan_10 : decode cX9_roomsOfPlan 10 = .ok (.iaload, 1) := by decide +kernel
theorem dX9_roomsOfPlan_11 : decode cX9_roomsOfPlan 11 = .ok (.if_icmp .ge 26, 3) := by decide +kernel
theorem dX9_roomsOfPlan_14 : decode cX9_roomsOfPlan 14 = .ok (.iload_n 1, 1) := by decide +kernel
theorem dX9_roomsOfPlan_15 : decode cX9_roomsOfPlan 15 = .ok (.aload_n 0, 1) := by decide +kernel
theorem dX9_roomsOfPlan_16 : decode cX9_roomsOfPlan 16 = .ok (.getfield 35, 3) := by decide +kernel
theorem dX9_roomsOfPlan_19 : decode cX9_roomsOfPlan 19 = .ok (.iload_n 2, 1) := by decide +kernel
theorem dX9_roomsOfPlan_20 : decode cX9_roomsOfPlan 20 = .ok (.iaload, 1) := by decide +kernel
theorem dX9_roomsOfPlan_21 : decode cX9_roomsOfPlan 21 = .ok (.ifCond .ne 7, 3) := by decide +kernel
theorem dX9_roomsOfPlan_24 : decode cX9_roomsOfPlan 24 = .ok (.iconst 0, 1) := by decide +kernel
theorem dX9_roomsOfPlan_25 : decode cX9_roomsOfPlan 25 = .ok (.goto 4, 3) := by decide +kernel
theorem dX9_roomsOfPlan_28 : decode cX9_roomsOfPlan 28 = .ok (.iconst 1, 1) := by decide +kernel
theorem dX9_roomsOfPlan_29 : decode cX9_roomsOfPlan 29 = .ok (.iadd, 1) := by decide +kernel
theorem dX9_roomsOfPlan_30 : decode cX9_roomsOfPlan 30 = .ok (.istore_n 1, 1) := by decide +kernel
theorem dX9_roomsOfPlan_31 : decode cX9_roomsOfPlan 31 = .ok (.iinc 2 1, 3) := by decide +kernel
theorem dX9_roomsOfPlan_34 : decode cX9_roomsOfPlan 34 = .ok (.goto (-30), 3) := by decide +kernel
theorem dX9_roomsOfPlan_37 : decode cX9_roomsOfPlan 37 = .ok (.iload_n 1, 1) := by decide +kernel
theorem dX9_roomsOfPlan_38 : decode cX9_roomsOfPlan 38 = .ok (.ireturn, 1) := by decide +kernel
theorem dX9_plan_0 : decode cX9_plan 0 = .ok (.aload_n 0, 1) := by decide +kernel
theorem dX9_plan_1 : decode cX9_plan 1 = .ok (.invokevirtual 200, 3) := by decide +kernel
theorem dX9_plan_4 : decode cX9_plan 4 = .ok (.ifCond .ne 6, 3) := by decide +kernel
theorem dX9_plan_7 : decode cX9_plan 7 = .ok (.ldc 182, 2) := by decide +kernel
theorem dX9_plan_9 : decode cX9_plan 9 = .ok (.ireturn, 1) := by decide +kernel
theorem dX9_plan_10 : decode cX9_plan 10 = .ok (.iload_n 1, 1) := by decide +kernel
theorem dX9_plan_11 : decode cX9_plan 11 = .ok (.i2l, 1) := by decide +kernel
theorem dX9_plan_12 : decode cX9_plan 12 = .ok (.lconst 0, 1) := by decide +kernel
theorem dX9_plan_13 : decode cX9_plan 13 = .ok (.lconst 1, 1) := by decide +kernel
theorem dX9_plan_14 : decode cX9_plan 14 = .ok (.invokestatic 47, 3) := by decide +kernel
theorem dX9_plan_17 : decode cX9_plan 17 = .ok (.ifCond .ne 6, 3) := by decide +kernel
theorem dX9_plan_20 : decode cX9_plan 20 = .ok (.ldc 156, 2) := by decide +kernel
theorem dX9_plan_22 : decode cX9_plan 22 = .ok (.ireturn, 1) := by decide +kernel
theorem dX9_plan_23 : decode cX9_plan 23 = .ok (.aload_n 0, 1) := by decide +kernel
theorem dX9_plan_24 : decode cX9_plan 24 = .ok (.aload_n 0, 1) := by decide +kernel
theorem dX9_plan_25 : decode cX9_plan 25 = .ok (.getfield 7, 3) := by decide +kernel
theorem dX9_plan_28 : decode cX9_plan 28 = .ok (.invokevirtual 257, 3) := by decide +kernel
theorem dX9_plan_31 : decode cX9_plan 31 = .ok (.ifCond .ne 8, 3) := by decide +kernel
theorem dX9_plan_34 : decode cX9_plan 34 = .ok (.ldc 59, 2) := by decide +kernel
theorem dX9_plan_36 : decode cX9_plan 36 = .ok (.goto 18, 3) := by decide +kernel
theorem dX9_plan_39 : decode cX9_plan 39 = .ok (.iload_n 1, 1) := by decide +kernel
theorem dX9_plan_40 : decode cX9_plan 40 = .ok (.ifCond .ne 10, 3) := by decide +kernel
theorem dX9_plan_43 : decode cX9_plan 43 = .ok (.aload_n 0, 1) := by decide +kernel
theorem dX9_plan_44 : decode cX9_plan 44 = .ok (.invokevirtual 261, 3) := by decide +kernel
theorem dX9_plan_47 : decode cX9_plan 47 = .ok (.goto 7, 3) := by decide +kernel
theorem dX9_plan_50 : decode cX9_plan 50 = .ok (.aload_n 0, 1) := by decide +kernel
theorem dX9_plan_51 : decode cX9_plan 51 = .ok (.invokevirtual 264, 3) := by decide +kernel
theorem dX9_plan_54 : decode cX9_plan 54 = .ok (.ireturn, 1) := by decide +kernel
theorem dX9_planOf_0 : decode cX9_planOf 0 = .ok (.aload_n 0, 1) := by decide +kernel
theorem dX9_planOf_1 : decode cX9_planOf 1 = .ok (.iload_n 1, 1) := by decide +kernel
theorem dX9_planOf_2 : decode cX9_planOf 2 = .ok (.invokevirtual 183, 3) := by decide +kernel
theorem dX9_planOf_5 : decode cX9_planOf 5 = .ok (.ifCond .ne 6, 3) := by decide +kernel
theorem dX9_planOf_8 : decode cX9_planOf 8 = .ok (.ldc 156, 2) := by decide +kernel
theorem dX9_planOf_10 : decode cX9_planOf 10 = .ok (.ireturn, 1) := by decide +kernel
theorem dX9_planOf_11 : decode cX9_planOf 11 = .ok (.aload_n 0, 1) := by decide +kernel
theorem dX9_planOf_12 : decode cX9_planOf 12 = .ok (.aload_n 0, 1) := by decide +kernel
theorem dX9_planOf_13 : decode cX9_planOf 13 = .ok (.getfield 7, 3) := by decide +kernel
theorem dX9_planOf_16 : decode cX9_planOf 16 = .ok (.invokevirtual 257, 3) := by decide +kernel
theorem dX9_planOf_19 : decode cX9_planOf 19 = .ok (.ifCond .eq 12, 3) := by decide +kernel
theorem dX9_planOf_22 : decode cX9_planOf 22 = .ok (.aload_n 0, 1) := by decide +kernel
theorem dX9_planOf_23 : decode cX9_planOf 23 = .ok (.getfield 35, 3) := by decide +kernel
theorem dX9_planOf_26 : decode cX9_planOf 26 = .ok (.iload_n 1, 1) := by decide +kernel
theorem dX9_planOf_27 : decode cX9_planOf 27 = .ok (.iaload, 1) := by decide +kernel
theorem dX9_planOf_28 : decode cX9_planOf 28 = .ok (.goto 5, 3) := by decide +kernel
theorem dX9_planOf_31 : decode cX9_planOf 31 = .ok (.ldc 59, 2) := by decide +kernel
theorem dX9_planOf_33 : decode cX9_planOf 33 = .ok (.ireturn, 1) := by decide +kernel
theorem dX9_puts_0 : decode cX9_puts 0 = .ok (.iconst 0, 1) := by decide +kernel
theorem dX9_puts_1 : decode cX9_puts 1 = .ok (.istore_n 2, 1) := by decide +kernel
theorem dX9_puts_2 : decode cX9_puts 2 = .ok (.iload_n 2, 1) := by decide +kernel
theorem dX9_puts_3 : decode cX9_puts 3 = .ok (.bipush 7, 2) := by decide +kernel
theorem dX9_puts_5 : decode cX9_puts 5 = .ok (.if_icmp .ge 16, 3) := by decide +kernel
theorem dX9_puts_8 : decode cX9_puts 8 = .ok (.aload_n 0, 1) := by decide +kernel
theorem dX9_puts_9 : decode cX9_puts 9 = .ok (.getfield 35, 3) := by decide +kernel
theorem dX9_puts_12 : decode cX9_puts 12 = .ok (.iload_n 2, 1) := by decide +kernel
theorem dX9_puts_13 : decode cX9_puts 13 = .ok (.iconst 0, 1) := by decide +kernel
theorem dX9_puts_14 : decode cX9_puts 14 = .ok (.iastore, 1) := by decide +kernel
theorem dX9_puts_15 : decode cX9_puts 15 = .ok (.iinc 2 1, 3) := by decide +kernel
theorem dX9_puts_18 : decode cX9_puts 18 = .ok (.goto (-16), 3) := by decide +kernel
theorem dX9_puts_21 : decode cX9_puts 21 = .ok (.iconst 0, 1) := by decide +kernel
theorem dX9_puts_22 : decode cX9_puts 22 = .ok (.istore_n 2, 1) := by decide +kernel
theorem dX9_puts_23 : decode cX9_puts 23 = .ok (.iload_n 2, 1) := by decide +kernel
theorem dX9_puts_24 : decode cX9_puts 24 = .ok (.aload_n 0, 1) := by decide +kernel
theorem dX9_puts_25 : decode cX9_puts 25 = .ok (.getfield 7, 3) := by decide +kernel
theorem dX9_puts_28 : decode cX9_puts 28 = .ok (.iconst 5, 1) := by decide +kernel
theorem dX9_puts_29 : decode cX9_puts 29 = .ok (.iaload, 1) := by decide +kernel
theorem dX9_puts_30 : decode cX9_puts 30 = .ok (.if_icmp .ge 64, 3) := by decide +kernel
theorem dX9_puts_33 : decode cX9_puts 33 = .ok (.aload_n 0, 1) := by decide +kernel
theorem dX9_puts_34 : decode cX9_puts 34 = .ok (.getfield 7, 3) := by decide +kernel
theorem dX9_puts_37 : decode cX9_puts 37 = .ok (.iload_n 2, 1) := by decide +kernel
theorem dX9_puts_38 : decode cX9_puts 38 = .ok (.invokestatic 66, 3) := by decide +kernel
theorem dX9_puts_41 : decode cX9_puts 41 = .ok (.ifCond .eq 12, 3) := by decide +kernel
theorem dX9_puts_44 : decode cX9_puts 44 = .ok (.aload_n 0, 1) := by decide +kernel
theorem dX9_puts_45 : decode cX9_puts 45 = .ok (.iload_n 1, 1) := by decide +kernel
theorem dX9_puts_46 : decode cX9_puts 46 = .ok (.iload_n 2, 1) := by decide +kernel
theorem dX9_puts_47 : decode cX9_puts 47 = .ok (.invokevirtual 267, 3) := by decide +kernel
theorem dX9_puts_50 : decode cX9_puts 50 = .ok (.goto 4, 3) := by decide +kernel
theorem dX9_puts_53 : decode cX9_puts 53 = .ok (.iconst (-1), 1) := by decide +kernel
theorem dX9_puts_54 : decode cX9_puts 54 = .ok (.istore_n 3, 1) := by decide +kernel
theorem dX9_puts_55 : decode cX9_puts 55 = .ok (.iload_n 3, 1) := by decide +kernel
theorem dX9_puts_56 : decode cX9_puts 56 = .ok (.ifCond .ge 16, 3) := by decide +kernel
theorem dX9_puts_59 : decode cX9_puts 59 = .ok (.aload_n 0, 1) := by decide +kernel
theorem dX9_puts_60 : decode cX9_puts 60 = .ok (.getfield 7, 3) := by decide +kernel
theorem dX9_puts_63 : decode cX9_puts 63 = .ok (.iload_n 2, 1) := by decide +kernel
theorem dX9_puts_64 : decode cX9_puts 64 = .ok (.invokestatic 66, 3) := by decide +kernel
theorem dX9_puts_67 : decode cX9_puts 67 = .ok (.ifCond .eq 5, 3) := by decide +kernel
theorem dX9_puts_70 : decode cX9_puts 70 = .ok (.iconst 0, 1) := by decide +kernel
theorem dX9_puts_71 : decode cX9_puts 71 = .ok (.ireturn, 1) := by decide +kernel
theorem dX9_puts_72 : decode cX9_puts 72 = .ok (.iload_n 3, 1) := by decide +kernel
theorem dX9_puts_73 : decode cX9_puts 73 = .ok (.ifCond .lt 15, 3) := by decide +kernel
theorem dX9_puts_76 : decode cX9_puts 76 = .ok (.aload_n 0, 1) := by decide +kernel
theorem dX9_puts_77 : decode cX9_puts 77 = .ok (.getfield 35, 3) := by decide +kernel
theorem dX9_puts_80 : decode cX9_puts 80 = .ok (.iload_n 3, 1) := by decide +kernel
theorem dX9_puts_81 : decode cX9_puts 81 = .ok (.dup2, 1) := by decide +kernel
theorem dX9_puts_82 : decode cX9_puts 82 = .ok (.iaload, 1) := by decide +kernel
theorem dX9_puts_83 : decode cX9_puts 83 = .ok (.iconst 1, 1) := by decide +kernel
theorem dX9_puts_84 : decode cX9_puts 84 = .ok (.iload_n 2, 1) := by decide +kernel
theorem dX9_puts_85 : decode cX9_puts 85 = .ok (.ishl, 1) := by decide +kernel
theorem dX9_puts_86 : decode cX9_puts 86 = .ok (.ior, 1) := by decide +kernel
theorem dX9_puts_87 : decode cX9_puts 87 = .ok (.iastore, 1) := by decide +kernel
theorem dX9_puts_88 : decode cX9_puts 88 = .ok (.iinc 2 1, 3) := by decide +kernel
theorem dX9_puts_91 : decode cX9_puts 91 = .ok (.goto (-68), 3) := by decide +kernel
theorem dX9_puts_94 : decode cX9_puts 94 = .ok (.iconst 1, 1) := by decide +kernel
theorem dX9_puts_95 : decode cX9_puts 95 = .ok (.ireturn, 1) := by decide +kernel
theorem dX9_roomFor_0 : decode cX9_roomFor 0 = .ok (.iconst (-1), 1) := by decide +kernel
theorem dX9_roomFor_1 : decode cX9_roomFor 1 = .ok (.istore_n 3, 1) := by decide +kernel
theorem dX9_roomFor_2 : decode cX9_roomFor 2 = .ok (.iconst 0, 1) := by decide +kernel
theorem dX9_roomFor_3 : decode cX9_roomFor 3 = .ok (.istore 4, 2) := by decide +kernel
theorem dX9_roomFor_5 : decode cX9_roomFor 5 = .ok (.iconst 0, 1) := by decide +kernel
theorem dX9_roomFor_6 : decode cX9_roomFor 6 = .ok (.istore 5, 2) := by decide +kernel
theorem dX9_roomFor_8 : decode cX9_roomFor 8 = .ok (.iload 5, 2) := by decide +kernel
theorem dX9_roomFor_10 : decode cX9_roomFor 10 = .ok (.aload_n 0, 1) := by decide +kernel
theorem dX9_roomFor_11 : decode cX9_roomFor 11 = .ok (.getfield 7, 3) := by decide +kernel
theorem dX9_roomFor_14 : decode cX9_roomFor 14 = .ok (.iconst 4, 1) := by decide +kernel
theorem dX9_roomFor_15 : decode cX9_roomFor 15 = .ok (.iaload, 1) := by decide +kernel
theorem dX9_roomFor_16 : decode cX9_roomFor 16 = .ok (.if_icmp .ge 75, 3) := by decide +kernel
theorem dX9_roomFor_19 : decode cX9_roomFor 19 = .ok (.aload_n 0, 1) := by decide +kernel
theorem dX9_roomFor_20 : decode cX9_roomFor 20 = .ok (.getfield 7, 3) := by decide +kernel
theorem dX9_roomFor_23 : decode cX9_roomFor 23 = .ok (.iload 5, 2) := by decide +kernel
theorem dX9_roomFor_25 : decode cX9_roomFor 25 = .ok (.invokestatic 238, 3) := by decide +kernel
theorem dX9_roomFor_28 : decode cX9_roomFor 28 = .ok (.ifCond .eq 26, 3) := by decide +kernel
theorem dX9_roomFor_31 : decode cX9_roomFor 31 = .ok (.aload_n 0, 1) := by decide +kernel
theorem dX9_roomFor_32 : decode cX9_roomFor 32 = .ok (.getfield 7, 3) := by decide +kernel
theorem dX9_roomFor_35 : decode cX9_roomFor 35 = .ok (.iload 5, 2) := by decide +kernel
theorem dX9_roomFor_37 : decode cX9_roomFor 37 = .ok (.aload_n 0, 1) := by decide +kernel
theorem dX9_roomFor_38 : decode cX9_roomFor 38 = .ok (.getfield 35, 3) := by decide +kernel
theorem dX9_roomFor_41 : decode cX9_roomFor 41 = .ok (.iload 5, 2) := by decide +kernel
theorem dX9_roomFor_43 : decode cX9_roomFor 43 = .ok (.iaload, 1) := by decide +kernel
theorem dX9_roomFor_44 : decode cX9_roomFor 44 = .ok (.iconst 1, 1) := by decide +kernel
theorem dX9_roomFor_45 : decode cX9_roomFor 45 = .ok (.iload_n 2, 1) := by decide +kernel
theorem dX9_roomFor_46 : decode cX9_roomFor 46 = .ok (.ishl, 1) := by decide +kernel
theorem dX9_roomFor_47 : decode cX9_roomFor 47 = .ok (.ior, 1) := by decide +kernel
theorem dX9_roomFor_48 : decode cX9_roomFor 48 = .ok (.invokestatic 86, 3) := by decide +kernel
theorem dX9_roomFor_51 : decode cX9_roomFor 51 = .ok (.goto 4, 3) := by decide +kernel
theorem dX9_roomFor_54 : decode cX9_roomFor 54 = .ok (.iconst (-1), 1) := by decide +kernel
theorem dX9_roomFor_55 : decode cX9_roomFor 55 = .ok (.istore 6, 2) := by decide +kernel
theorem dX9_roomFor_57 : decode cX9_roomFor 57 = .ok (.iload 6, 2) := by decide +kernel
theorem dX9_roomFor_59 : decode cX9_roomFor 59 = .ok (.ifCond .lt 26, 3) := by decide +kernel
theorem dX9_roomFor_62 : decode cX9_roomFor 62 = .ok (.iload_n 3, 1) := by decide +kernel
theorem dX9_roomFor_63 : decode cX9_roomFor 63 = .ok (.ifCond .lt 15, 3) := by decide +kernel
theorem dX9_roomFor_66 : decode cX9_roomFor 66 = .ok (.iload_n 1, 1) := by decide +kernel
theorem dX9_roomFor_67 : decode cX9_roomFor 67 = .ok (.iconst 1, 1) := by decide +kernel
theorem dX9_roomFor_68 : decode cX9_roomFor 68 = .ok (.if_icmp .ne 17, 3) := by decide +kernel
theorem dX9_roomFor_71 : decode cX9_roomFor 71 = .ok (.iload 6, 2) := by decide +kernel
theorem dX9_roomFor_73 : decode cX9_roomFor 73 = .ok (.iload 4, 2) := by decide +kernel
theorem dX9_roomFor_75 : decode cX9_roomFor 75 = .ok (.if_icmp .ge 10, 3) := by decide +kernel
theorem dX9_roomFor_78 : decode cX9_roomFor 78 = .ok (.iload 5, 2) := by decide +kernel
theorem dX9_roomFor_80 : decode cX9_roomFor 80 = .ok (.istore_n 3, 1) := by decide +kernel
theorem dX9_roomFor_81 : decode cX9_roomFor 81 = .ok (.iload 6, 2) := by decide +kernel
theorem dX9_roomFor_83 : decode cX9_roomFor 83 = .ok (.istore 4, 2) := by decide +kernel
theorem dX9_roomFor_85 : decode cX9_roomFor 85 = .ok (.iinc 5 1, 3) := by decide +kernel
theorem dX9_roomFor_88 : decode cX9_roomFor 88 = .ok (.goto (-80), 3) := by decide +kernel
theorem dX9_roomFor_91 : decode cX9_roomFor 91 = .ok (.iload_n 3, 1) := by decide +kernel
theorem dX9_roomFor_92 : decode cX9_roomFor 92 = .ok (.ireturn, 1) := by decide +kernel
theorem dX9_rule_0 : decode cX9_rule 0 = .ok (.aload_n 0, 1) := by decide +kernel
theorem dX9_rule_1 : decode cX9_rule 1 = .ok (.invokevirtual 200, 3) := by decide +kernel
theorem dX9_rule_4 : decode cX9_rule 4 = .ok (.ifCond .ne 6, 3) := by decide +kernel
theorem dX9_rule_7 : decode cX9_rule 7 = .ok (.ldc 182, 2) := by decide +kernel
theorem dX9_rule_9 : decode cX9_rule 9 = .ok (.ireturn, 1) := by decide +kernel
theorem dX9_rule_10 : decode cX9_rule 10 = .ok (.iload_n 1, 1) := by decide +kernel
theorem dX9_rule_11 : decode cX9_rule 11 = .ok (.i2l, 1) := by decide +kernel
theorem dX9_rule_12 : decode cX9_rule 12 = .ok (.lconst 0, 1) := by decide +kernel
theorem dX9_rule_13 : decode cX9_rule 13 = .ok (.lconst 1, 1) := by decide +kernel
theorem dX9_rule_14 : decode cX9_rule 14 = .ok (.invokestatic 47, 3) := by decide +kernel
theorem dX9_rule_17 : decode cX9_rule 17 = .ok (.ifCond .eq 13, 3) := by decide +kernel
theorem dX9_rule_20 : decode cX9_rule 20 = .ok (.iload_n 2, 1) := by decide +kernel
theorem dX9_rule_21 : decode cX9_rule 21 = .ok (.i2l, 1) := by decide +kernel
theorem dX9_rule_22 : decode cX9_rule 22 = .ok (.lconst 0, 1) := by decide +kernel
theorem dX9_rule_23 : decode cX9_rule 23 = .ok (.lconst 1, 1) := by decide +kernel
theorem dX9_rule_24 : decode cX9_rule 24 = .ok (.invokestatic 47, 3) := by decide +kernel
theorem dX9_rule_27 : decode cX9_rule 27 = .ok (.ifCond .ne 6, 3) := by decide +kernel
theorem dX9_rule_30 : decode cX9_rule 30 = .ok (.ldc 156, 2) := by decide +kernel
theorem dX9_rule_32 : decode cX9_rule 32 = .ok (.ireturn, 1) := by decide +kernel
theorem dX9_rule_33 : decode cX9_rule 33 = .ok (.aload_n 0, 1) := by decide +kernel
theorem dX9_rule_34 : decode cX9_rule 34 = .ok (.iload_n 1, 1) := by decide +kernel
theorem dX9_rule_35 : decode cX9_rule 35 = .ok (.invokevirtual 270, 3) := by decide +kernel
theorem dX9_rule_38 : decode cX9_rule 38 = .ok (.ifCond .ne 8, 3) := by decide +kernel
theorem dX9_rule_41 : decode cX9_rule 41 = .ok (.ldc 59, 2) := by decide +kernel
theorem dX9_rule_43 : decode cX9_rule 43 = .ok (.goto 18, 3) := by decide +kernel
theorem dX9_rule_46 : decode cX9_rule 46 = .ok (.iload_n 2, 1) := by decide +kernel
theorem dX9_rule_47 : decode cX9_rule 47 = .ok (.ifCond .ne 10, 3) := by decide +kernel
theorem dX9_rule_50 : decode cX9_rule 50 = .ok (.aload_n 0, 1) := by decide +kernel
theorem dX9_rule_51 : decode cX9_rule 51 = .ok (.invokevirtual 261, 3) := by decide +kernel
theorem dX9_rule_54 : decode cX9_rule 54 = .ok (.goto 7, 3) := by decide +kernel
theorem dX9_rule_57 : decode cX9_rule 57 = .ok (.aload_n 0, 1) := by decide +kernel
theorem dX9_rule_58 : decode cX9_rule 58 = .ok (.invokevirtual 264, 3) := by decide +kernel
theorem dX9_rule_61 : decode cX9_rule 61 = .ok (.ireturn, 1) := by decide +kernel
theorem dX9_ruleOf_0 : decode cX9_ruleOf 0 = .ok (.iload_n 1, 1) := by decide +kernel
theorem dX9_ruleOf_1 : decode cX9_ruleOf 1 = .ok (.i2l, 1) := by decide +kernel
theorem dX9_ruleOf_2 : decode cX9_ruleOf 2 = .ok (.lconst 0, 1) := by decide +kernel
theorem dX9_ruleOf_3 : decode cX9_ruleOf 3 = .ok (.lconst 1, 1) := by decide +kernel
theorem dX9_ruleOf_4 : decode cX9_ruleOf 4 = .ok (.invokestatic 47, 3) := by decide +kernel
theorem dX9_ruleOf_7 : decode cX9_ruleOf 7 = .ok (.ifCond .eq 11, 3) := by decide +kernel
theorem dX9_ruleOf_10 : decode cX9_ruleOf 10 = .ok (.aload_n 0, 1) := by decide +kernel
theorem dX9_ruleOf_11 : decode cX9_ruleOf 11 = .ok (.iload_n 2, 1) := by decide +kernel
theorem dX9_ruleOf_12 : decode cX9_ruleOf 12 = .ok (.invokevirtual 183, 3) := by decide +kernel
theorem dX9_ruleOf_15 : decode cX9_ruleOf 15 = .ok (.ifCond .ne 6, 3) := by decide +kernel
theorem dX9_ruleOf_18 : decode cX9_ruleOf 18 = .ok (.ldc 156, 2) := by decide +kernel
theorem dX9_ruleOf_20 : decode cX9_ruleOf 20 = .ok (.ireturn, 1) := by decide +kernel
theorem dX9_ruleOf_21 : decode cX9_ruleOf 21 = .ok (.aload_n 0, 1) := by decide +kernel
theorem dX9_ruleOf_22 : decode cX9_ruleOf 22 = .ok (.iload_n 1, 1) := by decide +kernel
theorem dX9_ruleOf_23 : decode cX9_ruleOf 23 = .ok (.invokevirtual 270, 3) := by decide +kernel
theorem dX9_ruleOf_26 : decode cX9_ruleOf 26 = .ok (.ifCond .eq 12, 3) := by decide +kernel
theorem dX9_ruleOf_29 : decode cX9_ruleOf 29 = .ok (.aload_n 0, 1) := by decide +kernel
theorem dX9_ruleOf_30 : decode cX9_ruleOf 30 = .ok (.getfield 35, 3) := by decide +kernel
theorem dX9_ruleOf_33 : decode cX9_ruleOf 33 = .ok (.iload_n 2, 1) := by decide +kernel
theorem dX9_ruleOf_34 : decode cX9_ruleOf 34 = .ok (.iaload, 1) := by decide +kernel
theorem dX9_ruleOf_35 : decode cX9_ruleOf 35 = .ok (.goto 5, 3) := by decide +kernel
theorem dX9_ruleOf_38 : decode cX9_ruleOf 38 = .ok (.ldc 59, 2) := by decide +kernel
theorem dX9_ruleOf_40 : decode cX9_ruleOf 40 = .ok (.ireturn, 1) := by decide +kernel
theorem dX9_longer_0 : decode cX9_longer 0 = .ok (.aload_n 0, 1) := by decide +kernel
theorem dX9_longer_1 : decode cX9_longer 1 = .ok (.iload_n 1, 1) := by decide +kernel
theorem dX9_longer_2 : decode cX9_longer 2 = .ok (.invokevirtual 190, 3) := by decide +kernel
theorem dX9_longer_5 : decode cX9_longer 5 = .ok (.ifCond .ne 6, 3) := by decide +kernel
theorem dX9_longer_8 : decode cX9_longer 8 = .ok (.ldc 156, 2) := by decide +kernel
theorem dX9_longer_10 : decode cX9_longer 10 = .ok (.ireturn, 1) := by decide +kernel
theorem dX9_longer_11 : decode cX9_longer 11 = .ok (.aload_n 0, 1) := by decide +kernel
theorem dX9_longer_12 : decode cX9_longer 12 = .ok (.getfield 7, 3) := by decide +kernel
theorem dX9_longer_15 : decode cX9_longer 15 = .ok (.iload_n 1, 1) := by decide +kernel
theorem dX9_longer_16 : decode cX9_longer 16 = .ok (.invokestatic 66, 3) := by decide +kernel
theorem dX9_longer_19 : decode cX9_longer 19 = .ok (.ifCond .ne 6, 3) := by decide +kernel
theorem dX9_longer_22 : decode cX9_longer 22 = .ok (.ldc 182, 2) := by decide +kernel
theorem dX9_longer_24 : decode cX9_longer 24 = .ok (.ireturn, 1) := by decide +kernel
theorem dX9_longer_25 : decode cX9_longer 25 = .ok (.aload_n 0, 1) := by decide +kernel
theorem dX9_longer_26 : decode cX9_longer 26 = .ok (.getfield 7, 3) := by decide +kernel
theorem dX9_longer_29 : decode cX9_longer 29 = .ok (.iconst 0, 1) := by decide +kernel
theorem dX9_longer_30 : decode cX9_longer 30 = .ok (.aload_n 0, 1) := by decide +kernel
theorem dX9_longer_31 : decode cX9_longer 31 = .ok (.getfield 13, 3) := by decide +kernel
theorem dX9_longer_34 : decode cX9_longer 34 = .ok (.iconst 0, 1) := by decide +kernel
theorem dX9_longer_35 : decode cX9_longer 35 = .ok (.invokestatic 175, 3) := by decide +kernel
theorem dX9_longer_38 : decode cX9_longer 38 = .ok (.bipush 60, 2) := by decide +kernel
theorem dX9_longer_40 : decode cX9_longer 40 = .ok (.istore_n 2, 1) := by decide +kernel
theorem dX9_longer_41 : decode cX9_longer 41 = .ok (.iload_n 2, 1) := by decide +kernel
theorem dX9_longer_42 : decode cX9_longer 42 = .ok (.ifCond .le 37, 3) := by decide +kernel
theorem dX9_longer_45 : decode cX9_longer 45 = .ok (.aload_n 0, 1) := by decide +kernel
theorem dX9_longer_46 : decode cX9_longer 46 = .ok (.getfield 13, 3) := by decide +kernel
theorem dX9_longer_49 : decode cX9_longer 49 = .ok (.bipush 41, 2) := by decide +kernel
theorem dX9_longer_51 : decode cX9_longer 51 = .ok (.iconst 3, 1) := by decide +kernel
theorem dX9_longer_52 : decode cX9_longer 52 = .ok (.iload_n 1, 1) := by decide +kernel
theorem dX9_longer_53 : decode cX9_longer 53 = .ok (.imul, 1) := by decide +kernel
theorem dX9_longer_54 : decode cX9_longer 54 = .ok (.iadd, 1) := by decide +kernel
theorem dX9_longer_55 : decode cX9_longer 55 = .ok (.iconst 1, 1) := by decide +kernel
theorem dX9_longer_56 : decode cX9_longer 56 = .ok (.iadd, 1) := by decide +kernel
theorem dX9_longer_57 : decode cX9_longer 57 = .ok (.iload_n 2, 1) := by decide +kernel
theorem dX9_longer_58 : decode cX9_longer 58 = .ok (.iastore, 1) := by decide +kernel
theorem dX9_longer_59 : decode cX9_longer 59 = .ok (.aload_n 0, 1) := by decide +kernel
theorem dX9_longer_60 : decode cX9_longer 60 = .ok (.aload_n 0, 1) := by decide +kernel
theorem dX9_longer_61 : decode cX9_longer 61 = .ok (.getfield 13, 3) := by decide +kernel
theorem dX9_longer_64 : decode cX9_longer 64 = .ok (.iconst 0, 1) := by decide +kernel
theorem dX9_longer_65 : decode cX9_longer 65 = .ok (.invokevirtual 251, 3) := by decide +kernel
theorem dX9_longer_68 : decode cX9_longer 68 = .ok (.ifCond .eq 5, 3) := by decide +kernel
theorem dX9_longer_71 : decode cX9_longer 71 = .ok (.iload_n 2, 1) := by decide +kernel
theorem dX9_longer_72 : decode cX9_longer 72 = .ok (.ireturn, 1) := by decide +kernel
theorem dX9_longer_73 : decode cX9_longer 73 = .ok (.iinc 2 (-1), 3) := by decide +kernel
theorem dX9_longer_76 : decode cX9_longer 76 = .ok (.goto (-35), 3) := by decide +kernel
theorem dX9_longer_79 : decode cX9_longer 79 = .ok (.ldc 59, 2) := by decide +kernel
theorem dX9_longer_81 : decode cX9_longer 81 = .ok (.ireturn, 1) := by decide +kernel
theorem dX9_more_0 : decode cX9_more 0 = .ok (.aload_n 0, 1) := by decide +kernel
theorem dX9_more_1 : decode cX9_more 1 = .ok (.invokevirtual 200, 3) := by decide +kernel
theorem dX9_more_4 : decode cX9_more 4 = .ok (.ifCond .ne 6, 3) := by decide +kernel
theorem dX9_more_7 : decode cX9_more 7 = .ok (.ldc 182, 2) := by decide +kernel
theorem dX9_more_9 : decode cX9_more 9 = .ok (.ireturn, 1) := by decide +kernel
theorem dX9_more_10 : decode cX9_more 10 = .ok (.iload_n 1, 1) := by decide +kernel
theorem dX9_more_11 : decode cX9_more 11 = .ok (.i2l, 1) := by decide +kernel
theorem dX9_more_12 : decode cX9_more 12 = .ok (.lconst 1, 1) := by decide +kernel
theorem dX9_more_13 : decode cX9_more 13 = .ok (.ldc2_w 203, 3) := by decide +kernel
theorem dX9_more_16 : decode cX9_more 16 = .ok (.invokestatic 47, 3) := by decide +kernel
theorem dX9_more_19 : decode cX9_more 19 = .ok (.ifCond .ne 6, 3) := by decide +kernel
theorem dX9_more_22 : decode cX9_more 22 = .ok (.ldc 156, 2) := by decide +kernel
theorem dX9_more_24 : decode cX9_more 24 = .ok (.ireturn, 1) := by decide +kernel
theorem dX9_more_25 : decode cX9_more 25 = .ok (.aload_n 0, 1) := by decide +kernel
theorem dX9_more_26 : decode cX9_more 26 = .ok (.aload_n 0, 1) := by decide +kernel
theorem dX9_more_27 : decode cX9_more 27 = .ok (.getfield 7, 3) := by decide +kernel
theorem dX9_more_30 : decode cX9_more 30 = .ok (.iconst 0, 1) := by decide +kernel
theorem dX9_more_31 : decode cX9_more 31 = .ok (.invokevirtual 251, 3) := by decide +kernel
theorem dX9_more_34 : decode cX9_more 34 = .ok (.ifCond .eq 5, 3) := by decide +kernel
theorem dX9_more_37 : decode cX9_more 37 = .ok (.iconst 0, 1) := by decide +kernel
theorem dX9_more_38 : decode cX9_more 38 = .ok (.ireturn, 1) := by decide +kernel
theorem dX9_more_39 : decode cX9_more 39 = .ok (.iconst 1, 1) := by decide +kernel
theorem dX9_more_40 : decode cX9_more 40 = .ok (.istore_n 2, 1) := by decide +kernel
theorem dX9_more_41 : decode cX9_more 41 = .ok (.iload_n 2, 1) := by decide +kernel
theorem dX9_more_42 : decode cX9_more 42 = .ok (.bipush 100, 2) := by decide +kernel
theorem dX9_more_44 : decode cX9_more 44 = .ok (.if_icmp .ge 45, 3) := by decide +kernel
theorem dX9_more_47 : decode cX9_more 47 = .ok (.aload_n 0, 1) := by decide +kernel
theorem dX9_more_48 : decode cX9_more 48 = .ok (.getfield 7, 3) := by decide +kernel
theorem dX9_more_51 : decode cX9_more 51 = .ok (.iconst 0, 1) := by decide +kernel
theorem dX9_more_52 : decode cX9_more 52 = .ok (.aload_n 0, 1) := by decide +kernel
theorem dX9_more_53 : decode cX9_more 53 = .ok (.getfield 13, 3) := by decide +kernel
theorem dX9_more_56 : decode cX9_more 56 = .ok (.iconst 0, 1) := by decide +kernel
theorem dX9_more_57 : decode cX9_more 57 = .ok (.invokestatic 175, 3) := by decide +kernel
theorem dX9_more_60 : decode cX9_more 60 = .ok (.aload_n 0, 1) := by decide +kernel
theorem dX9_more_61 : decode cX9_more 61 = .ok (.getfield 13, 3) := by decide +kernel
theorem dX9_more_64 : decode cX9_more 64 = .ok (.iload_n 1, 1) := by decide +kernel
theorem dX9_more_65 : decode cX9_more 65 = .ok (.iload_n 2, 1) := by decide +kernel
theorem dX9_more_66 : decode cX9_more 66 = .ok (.invokestatic 150, 3) := by decide +kernel
theorem dX9_more_69 : decode cX9_more 69 = .ok (.aload_n 0, 1) := by decide +kernel
theorem dX9_more_70 : decode cX9_more 70 = .ok (.aload_n 0, 1) := by decide +kernel
theorem dX9_more_71 : decode cX9_more 71 = .ok (.getfield 13, 3) := by decide +kernel
theorem dX9_more_74 : decode cX9_more 74 = .ok (.iconst 0, 1) := by decide +kernel
theorem dX9_more_75 : decode cX9_more 75 = .ok (.invokevirtual 251, 3) := by decide +kernel
theorem dX9_more_78 : decode cX9_more 78 = .ok (.ifCond .eq 5, 3) := by decide +kernel
theorem dX9_more_81 : decode cX9_more 81 = .ok (.iload_n 2, 1) := by decide +kernel
theorem dX9_more_82 : decode cX9_more 82 = .ok (.ireturn, 1) := by decide +kernel
theorem dX9_more_83 : decode cX9_more 83 = .ok (.iinc 2 1, 3) := by decide +kernel
theorem dX9_more_86 : decode cX9_more 86 = .ok (.goto (-45), 3) := by decide +kernel
theorem dX9_more_89 : decode cX9_more 89 = .ok (.ldc 59, 2) := by decide +kernel
theorem dX9_more_91 : decode cX9_more 91 = .ok (.ireturn, 1) := by decide +kernel
theorem dX9_needed_0 : decode cX9_needed 0 = .ok (.aload_n 0, 1) := by decide +kernel
theorem dX9_needed_1 : decode cX9_needed 1 = .ok (.invokevirtual 200, 3) := by decide +kernel
theorem dX9_needed_4 : decode cX9_needed 4 = .ok (.ifCond .ne 6, 3) := by decide +kernel
theorem dX9_needed_7 : decode cX9_needed 7 = .ok (.ldc 182, 2) := by decide +kernel
theorem dX9_needed_9 : decode cX9_needed 9 = .ok (.ireturn, 1) := by decide +kernel
theorem dX9_needed_10 : decode cX9_needed 10 = .ok (.aload_n 0, 1) := by decide +kernel
theorem dX9_needed_11 : decode cX9_needed 11 = .ok (.aload_n 0, 1) := by decide +kernel
theorem dX9_needed_12 : decode cX9_needed 12 = .ok (.getfield 7, 3) := by decide +kernel
theorem dX9_needed_15 : decode cX9_needed 15 = .ok (.iconst 0, 1) := by decide +kernel
theorem dX9_needed_16 : decode cX9_needed 16 = .ok (.invokevirtual 251, 3) := by decide +kernel
theorem dX9_needed_19 : decode cX9_needed 19 = .ok (.ifCond .ne 6, 3) := by decide +kernel
theorem dX9_needed_22 : decode cX9_needed 22 = .ok (.ldc 59, 2) := by decide +kernel
theorem dX9_needed_24 : decode cX9_needed 24 = .ok (.ireturn, 1) := by decide +kernel
theorem dX9_needed_25 : decode cX9_needed 25 = .ok (.iconst 0, 1) := by decide +kernel
theorem dX9_needed_26 : decode cX9_needed 26 = .ok (.istore_n 1, 1) := by decide +kernel
theorem dX9_needed_27 : decode cX9_needed 27 = .ok (.iconst 0, 1) := by decide +kernel
theorem dX9_needed_28 : decode cX9_needed 28 = .ok (.istore_n 2, 1) := by decide +kernel
theorem dX9_needed_29 : decode cX9_needed 29 = .ok (.iload_n 2, 1) := by decide +kernel
theorem dX9_needed_30 : decode cX9_needed 30 = .ok (.aload_n 0, 1) := by decide +kernel
theorem dX9_needed_31 : decode cX9_needed 31 = .ok (.getfield 7, 3) := by decide +kernel
theorem dX9_needed_34 : decode cX9_needed 34 = .ok (.iconst 4, 1) := by decide +kernel
theorem dX9_needed_35 : decode cX9_needed 35 = .ok (.iaload, 1) := by decide +kernel
theorem dX9_needed_36 : decode cX9_needed 36 = .ok (.if_icmp .ge 44, 3) := by decide +kernel
theorem dX9_needed_39 : decode cX9_needed 39 = .ok (.iload_n 1, 1) := by decide +kernel
theorem dX9_needed_40 : decode cX9_needed 40 = .ok (.aload_n 0, 1) := by decide +kernel
theorem dX9_needed_41 : decode cX9_needed 41 = .ok (.getfield 7, 3) := by decide +kernel
theorem dX9_needed_44 : decode cX9_needed 44 = .ok (.iload_n 2, 1) := by decide +kernel
theorem dX9_needed_45 : decode cX9_needed 45 = .ok (.invokestatic 238, 3) := by decide +kernel
theorem dX9_needed_48 : decode cX9_needed 48 = .ok (.ifCond .eq 23, 3) := by decide +kernel
theorem dX9_needed_51 : decode cX9_needed 51 = .ok (.aload_n 0, 1) := by decide +kernel
theorem dX9_needed_52 : decode cX9_needed 52 = .ok (.aload_n 0, 1) := by decide +kernel
theorem dX9_needed_53 : decode cX9_needed 53 = .ok (.getfield 7, 3) := by decide +kernel
theorem dX9_needed_56 : decode cX9_needed 56 = .ok (.iconst 1, 1) := by decide +kernel
theorem dX9_needed_57 : decode cX9_needed 57 = .ok (.iload_n 2, 1) := by decide +kernel
theorem dX9_needed_58 : decode cX9_needed 58 = .ok (.ishl, 1) := by decide +kernel
theorem dX9_needed_59 : decode cX9_needed 59 = .ok (.invokevirtual 251, 3) := by decide +kernel
theorem dX9_needed_62 : decode cX9_needed 62 = .ok (.ifCond .ne 9, 3) := by decide +kernel
theorem dX9_needed_65 : decode cX9_needed 65 = .ok (.iconst 1, 1) := by decide +kernel
theorem dX9_needed_66 : decode cX9_needed 66 = .ok (.iload_n 2, 1) := by decide +kernel
theorem dX9_needed_67 : decode cX9_needed 67 = .ok (.ishl, 1) := by decide +kernel
theorem dX9_needed_68 : decode cX9_needed 68 = .ok (.goto 4, 3) := by decide +kernel
theorem dX9_needed_71 : decode cX9_needed 71 = .ok (.iconst 0, 1) := by decide +kernel
theorem dX9_needed_72 : decode cX9_needed 72 = .ok (.ior, 1) := by decide +kernel
theorem dX9_needed_73 : decode cX9_needed 73 = .ok (.istore_n 1, 1) := by decide +kernel
theorem dX9_needed_74 : decode cX9_needed 74 = .ok (.iinc 2 1, 3) := by decide +kernel
theorem dX9_needed_77 : decode cX9_needed 77 = .ok (.goto (-48), 3) := by decide +kernel
theorem dX9_needed_80 : decode cX9_needed 80 = .ok (.iload_n 1, 1) := by decide +kernel
theorem dX9_needed_81 : decode cX9_needed 81 = .ok (.ireturn, 1) := by decide +kernel
theorem dX9_gcd_0 : decode cX9_gcd 0 = .ok (.lload_n 0, 1) := by decide +kernel
theorem dX9_gcd_1 : decode cX9_gcd 1 = .ok (.lstore 4, 2) := by decide +kernel
theorem dX9_gcd_3 : decode cX9_gcd 3 = .ok (.lload_n 2, 1) := by decide +kernel
theorem dX9_gcd_4 : decode cX9_gcd 4 = .ok (.lstore 6, 2) := by decide +kernel
theorem dX9_gcd_6 : decode cX9_gcd 6 = .ok (.lload 6, 2) := by decide +kernel
theorem dX9_gcd_8 : decode cX9_gcd 8 = .ok (.lconst 0, 1) := by decide +kernel
theorem dX9_gcd_9 : decode cX9_gcd 9 = .ok (.lcmp, 1) := by decide +kernel
theorem dX9_gcd_10 : decode cX9_gcd 10 = .ok (.ifCond .eq 21, 3) := by decide +kernel
theorem dX9_gcd_13 : decode cX9_gcd 13 = .ok (.lload 4, 2) := by decide +kernel
theorem dX9_gcd_15 : decode cX9_gcd 15 = .ok (.lload 6, 2) := by decide +kernel
theorem dX9_gcd_17 : decode cX9_gcd 17 = .ok (.lrem, 1) := by decide +kernel
theorem dX9_gcd_18 : decode cX9_gcd 18 = .ok (.lstore 8, 2) := by decide +kernel
theorem dX9_gcd_20 : decode cX9_gcd 20 = .ok (.lload 6, 2) := by decide +kernel
theorem dX9_gcd_22 : decode cX9_gcd 22 = .ok (.lstore 4, 2) := by decide +kernel
theorem dX9_gcd_24 : decode cX9_gcd 24 = .ok (.lload 8, 2) := by decide +kernel
theorem dX9_gcd_26 : decode cX9_gcd 26 = .ok (.lstore 6, 2) := by decide +kernel
theorem dX9_gcd_28 : decode cX9_gcd 28 = .ok (.goto (-22), 3) := by decide +kernel
theorem dX9_gcd_31 : decode cX9_gcd 31 = .ok (.lload 4, 2) := by decide +kernel
theorem dX9_gcd_33 : decode cX9_gcd 33 = .ok (.lreturn, 1) := by decide +kernel
theorem dX9_fogged_0 : decode cX9_fogged 0 = .ok (.aload_n 0, 1) := by decide +kernel
theorem dX9_fogged_1 : decode cX9_fogged 1 = .ok (.invokevirtual 200, 3) := by decide +kernel
theorem dX9_fogged_4 : decode cX9_fogged 4 = .ok (.ifCond .ne 7, 3) := by decide +kernel
theorem dX9_fogged_7 : decode cX9_fogged 7 = .ok (.ldc2_w 273, 3) := by decide +kernel
theorem dX9_fogged_10 : decode cX9_fogged 10 = .ok (.lreturn, 1) := by decide +kernel
theorem dX9_fogged_11 : decode cX9_fogged 11 = .ok (.iload_n 1, 1) := by decide +kernel
theorem dX9_fogged_12 : decode cX9_fogged 12 = .ok (.i2l, 1) := by decide +kernel
theorem dX9_fogged_13 : decode cX9_fogged 13 = .ok (.lconst 0, 1) := by decide +kernel
theorem dX9_fogged_14 : decode cX9_fogged 14 = .ok (.ldc2_w 213, 3) := by decide +kernel
theorem dX9_fogged_17 : decode cX9_fogged 17 = .ok (.invokestatic 47, 3) := by decide +kernel
theorem dX9_fogged_20 : decode cX9_fogged 20 = .ok (.ifCond .eq 13, 3) := by decide +kernel
theorem dX9_fogged_23 : decode cX9_fogged 23 = .ok (.iload_n 2, 1) := by decide +kernel
theorem dX9_fogged_24 : decode cX9_fogged 24 = .ok (.i2l, 1) := by decide +kernel
theorem dX9_fogged_25 : decode cX9_fogged 25 = .ok (.lconst 0, 1) := by decide +kernel
theorem dX9_fogged_26 : decode cX9_fogged 26 = .ok (.lconst 1, 1) := by decide +kernel
theorem dX9_fogged_27 : decode cX9_fogged 27 = .ok (.invokestatic 47, 3) := by decide +kernel
theorem dX9_fogged_30 : decode cX9_fogged 30 = .ok (.ifCond .ne 7, 3) := by decide +kernel
theorem dX9_fogged_33 : decode cX9_fogged 33 = .ok (.ldc2_w 275, 3) := by decide +kernel
theorem dX9_fogged_36 : decode cX9_fogged 36 = .ok (.lreturn, 1) := by decide +kernel
theorem dX9_fogged_37 : decode cX9_fogged 37 = .ok (.lconst 0, 1) := by decide +kernel
theorem dX9_fogged_38 : decode cX9_fogged 38 = .ok (.lstore_n 3, 1) := by decide +kernel
theorem dX9_fogged_39 : decode cX9_fogged 39 = .ok (.lconst 0, 1) := by decide +kernel
theorem dX9_fogged_40 : decode cX9_fogged 40 = .ok (.lstore 5, 2) := by decide +kernel
theorem dX9_fogged_42 : decode cX9_fogged 42 = .ok (.iconst 0, 1) := by decide +kernel
theorem dX9_fogged_43 : decode cX9_fogged 43 = .ok (.istore 7, 2) := by decide +kernel
theorem dX9_fogged_45 : decode cX9_fogged 45 = .ok (.iload 7, 2) := by decide +kernel
theorem dX9_fogged_47 : decode cX9_fogged 47 = .ok (.iconst 1, 1) := by decide +kernel
theorem dX9_fogged_48 : decode cX9_fogged 48 = .ok (.aload_n 0, 1) := by decide +kernel
theorem dX9_fogged_49 : decode cX9_fogged 49 = .ok (.getfield 7, 3) := by decide +kernel
theorem dX9_fogged_52 : decode cX9_fogged 52 = .ok (.iconst 4, 1) := by decide +kernel
theorem dX9_fogged_53 : decode cX9_fogged 53 = .ok (.iaload, 1) := by decide +kernel
theorem dX9_fogged_54 : decode cX9_fogged 54 = .ok (.ishl, 1) := by decide +kernel
theorem dX9_fogged_55 : decode cX9_fogged 55 = .ok (.if_icmp .ge 123, 3) := by decide +kernel
theorem dX9_fogged_58 : decode cX9_fogged 58 = .ok (.lconst 1, 1) := by decide +kernel
theorem dX9_fogged_59 : decode cX9_fogged 59 = .ok (.lstore 8, 2) := by decide +kernel
theorem dX9_fogged_61 : decode cX9_fogged 61 = .ok (.iconst 0, 1) := by decide +kernel
theorem dX9_fogged_62 : decode cX9_fogged 62 = .ok (.istore 10, 2) := by decide +kernel
theorem dX9_fogged_64 : decode cX9_fogged 64 = .ok (.iload 10, 2) := by decide +kernel
theorem dX9_fogged_66 : decode cX9_fogged 66 = .ok (.aload_n 0, 1) := by decide +kernel
theorem dX9_fogged_67 : decode cX9_fogged 67 = .ok (.getfield 7, 3) := by decide +kernel
theorem dX9_fogged_70 : decode cX9_fogged 70 = .ok (.iconst 4, 1) := by decide +kernel
theorem dX9_fogged_71 : decode cX9_fogged 71 = .ok (.iaload, 1) := by decide +kernel
theorem dX9_fogged_72 : decode cX9_fogged 72 = .ok (.if_icmp .ge 64, 3) := by decide +kernel
theorem dX9_fogged_75 : decode cX9_fogged 75 = .ok (.lload 8, 2) := by decide +kernel
theorem dX9_fogged_77 : decode cX9_fogged 77 = .ok (.aload_n 0, 1) := by decide +kernel
theorem dX9_fogged_78 : decode cX9_fogged 78 = .ok (.getfield 7, 3) := by decide +kernel
theorem dX9_fogged_81 : decode cX9_fogged 81 = .ok (.iload 10, 2) := by decide +kernel
theorem dX9_fogged_83 : decode cX9_fogged 83 = .ok (.invokestatic 238, 3) := by decide +kernel
theorem dX9_fogged_86 : decode cX9_fogged 86 = .ok (.ifCond .eq 26, 3) := by decide +kernel
theorem dX9_fogged_89 : decode cX9_fogged 89 = .ok (.iload 7, 2) := by decide +kernel
theorem dX9_fogged_91 : decode cX9_fogged 91 = .ok (.iload 10, 2) := by decide +kernel
theorem dX9_fogged_93 : decode cX9_fogged 93 = .ok (.invokestatic 76, 3) := by decide +kernel
theorem dX9_fogged_96 : decode cX9_fogged 96 = .ok (.ifCond .eq 8, 3) := by decide +kernel
theorem dX9_fogged_99 : decode cX9_fogged 99 = .ok (.iload_n 1, 1) := by decide +kernel
theorem dX9_fogged_100 : decode cX9_fogged 100 = .ok (.i2l, 1) := by decide +kernel
theorem dX9_fogged_101 : decode cX9_fogged 101 = .ok (.goto 26, 3) := by decide +kernel
theorem dX9_fogged_104 : decode cX9_fogged 104 = .ok (.bipush 10, 2) := by decide +kernel
theorem dX9_fogged_106 : decode cX9_fogged 106 = .ok (.iload_n 1, 1) := by decide +kernel
theorem dX9_fogged_107 : decode cX9_fogged 107 = .ok (.isub, 1) := by decide +kernel
theorem dX9_fogged_108 : decode cX9_fogged 108 = .ok (.i2l, 1) := by decide +kernel
theorem dX9_fogged_109 : decode cX9_fogged 109 = .ok (.goto 18, 3) := by decide +kernel
theorem dX9_fogged_112 : decode cX9_fogged 112 = .ok (.iload 7, 2) := by decide +kernel
theorem dX9_fogged_114 : decode cX9_fogged 114 = .ok (.iload 10, 2) := by decide +kernel
theorem dX9_fogged_116 : decode cX9_fogged 116 = .ok (.invokestatic 76, 3) := by decide +kernel
theorem dX9_fogged_119 : decode cX9_fogged 119 = .ok (.ifCond .eq 7, 3) := by decide +kernel
theorem dX9_fogged_122 : decode cX9_fogged 122 = .ok (.lconst 0, 1) := by decide +kernel
theorem dX9_fogged_123 : decode cX9_fogged 123 = .ok (.goto 4, 3) := by decide +kernel
theorem dX9_fogged_126 : decode cX9_fogged 126 = .ok (.lconst 1, 1) := by decide +kernel
theorem dX9_fogged_127 : decode cX9_fogged 127 = .ok (.lmul, 1) := by decide +kernel
theorem dX9_fogged_128 : decode cX9_fogged 128 = .ok (.lstore 8, 2) := by decide +kernel
theorem dX9_fogged_130 : decode cX9_fogged 130 = .ok (.iinc 10 1, 3) := by decide +kernel
theorem dX9_fogged_133 : decode cX9_fogged 133 = .ok (.goto (-69), 3) := by decide +kernel
theorem dX9_fogged_136 : decode cX9_fogged 136 = .ok (.lload 5, 2) := by decide +kernel
theorem dX9_fogged_138 : decode cX9_fogged 138 = .ok (.lload 8, 2) := by decide +kernel
theorem dX9_fogged_140 : decode cX9_fogged 140 = .ok (.ladd, 1) := by decide +kernel
theorem dX9_fogged_141 : decode cX9_fogged 141 = .ok (.lstore 5, 2) := by decide +kernel
theorem dX9_fogged_143 : decode cX9_fogged 143 = .ok (.lload_n 3, 1) := by decide +kernel
theorem dX9_fogged_144 : decode cX9_fogged 144 = .ok (.lload 8, 2) := by decide +kernel
theorem dX9_fogged_146 : decode cX9_fogged 146 = .ok (.lconst 0, 1) := by decide +kernel
theorem dX9_fogged_147 : decode cX9_fogged 147 = .ok (.lcmp, 1) := by decide +kernel
theorem dX9_fogged_148 : decode cX9_fogged 148 = .ok (.ifCond .le 21, 3) := by decide +kernel
theorem dX9_fogged_151 : decode cX9_fogged 151 = .ok (.aload_n 0, 1) := by decide +kernel
theorem dX9_fogged_152 : decode cX9_fogged 152 = .ok (.aload_n 0, 1) := by decide +kernel
theorem dX9_fogged_153 : decode cX9_fogged 153 = .ok (.getfield 7, 3) := by decide +kernel
theorem dX9_fogged_156 : decode cX9_fogged 156 = .ok (.iload 7, 2) := by decide +kernel
theorem dX9_fogged_158 : decode cX9_fogged 158 = .ok (.invokevirtual 251, 3) := by decide +kernel
theorem dX9_fogged_161 : decode cX9_fogged 161 = .ok (.ifCond .eq 8, 3) := by decide +kernel
theorem dX9_fogged_164 : decode cX9_fogged 164 = .ok (.lload 8, 2) := by decide +kernel
theorem dX9_fogged_166 : decode cX9_fogged 166 = .ok (.goto 4, 3) := by decide +kernel
theorem dX9_fogged_169 : decode cX9_fogged 169 = .ok (.lconst 0, 1) := by decide +kernel
theorem dX9_fogged_170 : decode cX9_fogged 170 = .ok (.ladd, 1) := by decide +kernel
theorem dX9_fogged_171 : decode cX9_fogged 171 = .ok (.lstore_n 3, 1) := by decide +kernel
theorem dX9_fogged_172 : decode cX9_fogged 172 = .ok (.iinc 7 1, 3) := by decide +kernel
theorem dX9_fogged_175 : decode cX9_fogged 175 = .ok (.goto (-130), 3) := by decide +kernel
theorem dX9_fogged_178 : decode cX9_fogged 178 = .ok (.iload_n 2, 1) := by decide +kernel
theorem dX9_fogged_179 : decode cX9_fogged 179 = .ok (.ifCond .ne 7, 3) := by decide +kernel
theorem dX9_fogged_182 : decode cX9_fogged 182 = .ok (.lload_n 3, 1) := by decide +kernel
theorem dX9_fogged_183 : decode cX9_fogged 183 = .ok (.goto 5, 3) := by decide +kernel
theorem dX9_fogged_186 : decode cX9_fogged 186 = .ok (.lload 5, 2) := by decide +kernel
theorem dX9_fogged_188 : decode cX9_fogged 188 = .ok (.lload_n 3, 1) := by decide +kernel
theorem dX9_fogged_189 : decode cX9_fogged 189 = .ok (.lload 5, 2) := by decide +kernel
theorem dX9_fogged_191 : decode cX9_fogged 191 = .ok (.invokestatic 277, 3) := by decide +kernel
theorem dX9_fogged_194 : decode cX9_fogged 194 = .ok (.ldiv, 1) := by decide +kernel
theorem dX9_fogged_195 : decode cX9_fogged 195 = .ok (.lreturn, 1) := by decide +kernel
theorem dX9_nth_0 : decode cX9_nth 0 = .ok (.lload_n 1, 1) := by decide +kernel
theorem dX9_nth_1 : decode cX9_nth 1 = .ok (.lstore_n 3, 1) := by decide +kernel
theorem dX9_nth_2 : decode cX9_nth 2 = .ok (.iconst 0, 1) := by decide +kernel
theorem dX9_nth_3 : decode cX9_nth 3 = .ok (.istore 5, 2) := by decide +kernel
theorem dX9_nth_5 : decode cX9_nth 5 = .ok (.iload 5, 2) := by decide +kernel
theorem dX9_nth_7 : decode cX9_nth 7 = .ok (.bipush 8, 2) := by decide +kernel
theorem dX9_nth_9 : decode cX9_nth 9 = .ok (.if_icmp .ge 41, 3) := by decide +kernel
theorem dX9_nth_12 : decode cX9_nth 12 = .ok (.iload_n 0, 1) := by decide +kernel
theorem dX9_nth_13 : decode cX9_nth 13 = .ok (.iload 5, 2) := by decide +kernel
theorem dX9_nth_15 : decode cX9_nth 15 = .ok (.invokestatic 76, 3) := by decide +kernel
theorem dX9_nth_18 : decode cX9_nth 18 = .ok (.ifCond .eq 9, 3) := by decide +kernel
theorem dX9_nth_21 : decode cX9_nth 21 = .ok (.lload_n 3, 1) := by decide +kernel
theorem dX9_nth_22 : decode cX9_nth 22 = .ok (.lconst 0, 1) := by decide +kernel
theorem dX9_nth_23 : decode cX9_nth 23 = .ok (.lcmp, 1) := by decide +kernel
theorem dX9_nth_24 : decode cX9_nth 24 = .ok (.ifCond .le 26, 3) := by decide +kernel
theorem dX9_nth_27 : decode cX9_nth 27 = .ok (.lload_n 3, 1) := by decide +kernel
theorem dX9_nth_28 : decode cX9_nth 28 = .ok (.iload_n 0, 1) := by decide +kernel
theorem dX9_nth_29 : decode cX9_nth 29 = .ok (.iload 5, 2) := by decide +kernel
theorem dX9_nth_31 : decode cX9_nth 31 = .ok (.invokestatic 76, 3) := by decide +kernel
theorem dX9_nth_34 : decode cX9_nth 34 = .ok (.ifCond .eq 7, 3) := by decide +kernel
theorem dX9_nth_37 : decode cX9_nth 37 = .ok (.lconst 1, 1) := by decide +kernel
theorem dX9_nth_38 : decode cX9_nth 38 = .ok (.goto 4, 3) := by decide +kernel
theorem dX9_nth_41 : decode cX9_nth 41 = .ok (.lconst 0, 1) := by decide +kernel
theorem dX9_nth_42 : decode cX9_nth 42 = .ok (.lsub, 1) := by decide +kernel
theorem dX9_nth_43 : decode cX9_nth 43 = .ok (.lstore_n 3, 1) := by decide +kernel
theorem dX9_nth_44 : decode cX9_nth 44 = .ok (.iinc 5 1, 3) := by decide +kernel
theorem dX9_nth_47 : decode cX9_nth 47 = .ok (.goto (-42), 3) := by decide +kernel
theorem dX9_nth_50 : decode cX9_nth 50 = .ok (.iload 5, 2) := by decide +kernel
theorem dX9_nth_52 : decode cX9_nth 52 = .ok (.ireturn, 1) := by decide +kernel
theorem dX9_drawn_0 : decode cX9_drawn 0 = .ok (.aload_n 0, 1) := by decide +kernel
theorem dX9_drawn_1 : decode cX9_drawn 1 = .ok (.invokevirtual 200, 3) := by decide +kernel
theorem dX9_drawn_4 : decode cX9_drawn 4 = .ok (.ifCond .ne 6, 3) := by decide +kernel
theorem dX9_drawn_7 : decode cX9_drawn 7 = .ok (.ldc 182, 2) := by decide +kernel
theorem dX9_drawn_9 : decode cX9_drawn 9 = .ok (.ireturn, 1) := by decide +kernel
theorem dX9_drawn_10 : decode cX9_drawn 10 = .ok (.iload_n 1, 1) := by decide +kernel
theorem dX9_drawn_11 : decode cX9_drawn 11 = .ok (.i2l, 1) := by decide +kernel
theorem dX9_drawn_12 : decode cX9_drawn 12 = .ok (.lconst 0, 1) := by decide +kernel
theorem dX9_drawn_13 : decode cX9_drawn 13 = .ok (.ldc2_w 215, 3) := by decide +kernel
theorem dX9_drawn_16 : decode cX9_drawn 16 = .ok (.invokestatic 47, 3) := by decide +kernel
theorem dX9_drawn_19 : decode cX9_drawn 19 = .ok (.ifCond .eq 25, 3) := by decide +kernel
theorem dX9_drawn_22 : decode cX9_drawn 22 = .ok (.iload_n 2, 1) := by decide +kernel
theorem dX9_drawn_23 : decode cX9_drawn 23 = .ok (.i2l, 1) := by decide +kernel
theorem dX9_drawn_24 : decode cX9_drawn 24 = .ok (.lconst 1, 1) := by decide +kernel
theorem dX9_drawn_25 : decode cX9_drawn 25 = .ok (.ldc2_w 281, 3) := by decide +kernel
theorem dX9_drawn_28 : decode cX9_drawn 28 = .ok (.invokestatic 47, 3) := by decide +kernel
theorem dX9_drawn_31 : decode cX9_drawn 31 = .ok (.ifCond .eq 13, 3) := by decide +kernel
theorem dX9_drawn_34 : decode cX9_drawn 34 = .ok (.iload_n 3, 1) := by decide +kernel
theorem dX9_drawn_35 : decode cX9_drawn 35 = .ok (.i2l, 1) := by decide +kernel
theorem dX9_drawn_36 : decode cX9_drawn 36 = .ok (.lconst 0, 1) := by decide +kernel
theorem dX9_drawn_37 : decode cX9_drawn 37 = .ok (.lconst 1, 1) := by decide +kernel
theorem dX9_drawn_38 : decode cX9_drawn 38 = .ok (.invokestatic 47, 3) := by decide +kernel
theorem dX9_drawn_41 : decode cX9_drawn 41 = .ok (.ifCond .ne 6, 3) := by decide +kernel
theorem dX9_drawn_44 : decode cX9_drawn 44 = .ok (.ldc 156, 2) := by decide +kernel
theorem dX9_drawn_46 : decode cX9_drawn 46 = .ok (.ireturn, 1) := by decide +kernel
theorem dX9_drawn_47 : decode cX9_drawn 47 = .ok (.aload_n 0, 1) := by decide +kernel
theorem dX9_drawn_48 : decode cX9_drawn 48 = .ok (.getfield 7, 3) := by decide +kernel
theorem dX9_drawn_51 : decode cX9_drawn 51 = .ok (.iconst 0, 1) := by decide +kernel
theorem dX9_drawn_52 : decode cX9_drawn 52 = .ok (.aload_n 0, 1) := by decide +kernel
theorem dX9_drawn_53 : decode cX9_drawn 53 = .ok (.getfield 13, 3) := by decide +kernel
theorem dX9_drawn_56 : decode cX9_drawn 56 = .ok (.iconst 0, 1) := by decide +kernel
theorem dX9_drawn_57 : decode cX9_drawn 57 = .ok (.invokestatic 175, 3) := by decide +kernel
theorem dX9_drawn_60 : decode cX9_drawn 60 = .ok (.aload_n 0, 1) := by decide +kernel
theorem dX9_drawn_61 : decode cX9_drawn 61 = .ok (.getfield 7, 3) := by decide +kernel
theorem dX9_drawn_64 : decode cX9_drawn 64 = .ok (.invokestatic 234, 3) := by decide +kernel
theorem dX9_drawn_67 : decode cX9_drawn 67 = .ok (.istore 4, 2) := by decide +kernel
theorem dX9_drawn_69 : decode cX9_drawn 69 = .ok (.iconst 0, 1) := by decide +kernel
theorem dX9_drawn_70 : decode cX9_drawn 70 = .ok (.istore 5, 2) := by decide +kernel
theorem dX9_drawn_72 : decode cX9_drawn 72 = .ok (.iconst 0, 1) := by decide +kernel
theorem dX9_drawn_73 : decode cX9_drawn 73 = .ok (.istore 6, 2) := by decide +kernel
theorem dX9_drawn_75 : decode cX9_drawn 75 = .ok (.iload_n 2, 1) := by decide +kernel
theorem dX9_drawn_76 : decode cX9_drawn 76 = .ok (.i2l, 1) := by decide +kernel
theorem dX9_drawn_77 : decode cX9_drawn 77 = .ok (.lstore 7, 2) := by decide +kernel
theorem dX9_drawn_79 : decode cX9_drawn 79 = .ok (.iconst 0, 1) := by decide +kernel
theorem dX9_drawn_80 : decode cX9_drawn 80 = .ok (.istore 9, 2) := by decide +kernel
theorem dX9_drawn_82 : decode cX9_drawn 82 = .ok (.iload 9, 2) := by decide +kernel
theorem dX9_drawn_84 : decode cX9_drawn 84 = .ok (.iload_n 1, 1) := by decide +kernel
theorem dX9_drawn_85 : decode cX9_drawn 85 = .ok (.if_icmp .ge 112, 3) := by decide +kernel
theorem dX9_drawn_88 : decode cX9_drawn 88 = .ok (.lload 7, 2) := by decide +kernel
theorem dX9_drawn_90 : decode cX9_drawn 90 = .ok (.ldc2_w 283, 3) := by decide +kernel
theorem dX9_drawn_93 : decode cX9_drawn 93 = .ok (.lmul, 1) := by decide +kernel
theorem dX9_drawn_94 : decode cX9_drawn 94 = .ok (.ldc2_w 285, 3) := by decide +kernel
theorem dX9_drawn_97 : decode cX9_drawn 97 = .ok (.lrem, 1) := by decide +kernel
theorem dX9_drawn_98 : decode cX9_drawn 98 = .ok (.lstore 7, 2) := by decide +kernel
theorem dX9_drawn_100 : decode cX9_drawn 100 = .ok (.iload 4, 2) := by decide +kernel
theorem dX9_drawn_102 : decode cX9_drawn 102 = .ok (.ifCond .eq 42, 3) := by decide +kernel
theorem dX9_drawn_105 : decode cX9_drawn 105 = .ok (.aload_n 0, 1) := by decide +kernel
theorem dX9_drawn_106 : decode cX9_drawn 106 = .ok (.getfield 13, 3) := by decide +kernel
theorem dX9_drawn_109 : decode cX9_drawn 109 = .ok (.bipush 41, 2) := by decide +kernel
theorem dX9_drawn_111 : decode cX9_drawn 111 = .ok (.iconst 3, 1) := by decide +kernel
theorem dX9_drawn_112 : decode cX9_drawn 112 = .ok (.iload 4, 2) := by decide +kernel
theorem dX9_drawn_114 : decode cX9_drawn 114 = .ok (.lload 7, 2) := by decide +kernel
theorem dX9_drawn_116 : decode cX9_drawn 116 = .ok (.iload 4, 2) := by decide +kernel
theorem dX9_drawn_118 : decode cX9_drawn 118 = .ok (.invokestatic 90, 3) := by decide +kernel
theorem dX9_drawn_121 : decode cX9_drawn 121 = .ok (.i2l, 1) := by decide +kernel
theorem dX9_drawn_122 : decode cX9_drawn 122 = .ok (.lrem, 1) := by decide +kernel
theorem dX9_drawn_123 : decode cX9_drawn 123 = .ok (.invokestatic 287, 3) := by decide +kernel
theorem dX9_drawn_126 : decode cX9_drawn 126 = .ok (.imul, 1) := by decide +kernel
theorem dX9_drawn_127 : decode cX9_drawn 127 = .ok (.iadd, 1) := by decide +kernel
theorem dX9_drawn_128 : decode cX9_drawn 128 = .ok (.iconst 1, 1) := by decide +kernel
theorem dX9_drawn_129 : decode cX9_drawn 129 = .ok (.iadd, 1) := by decide +kernel
theorem dX9_drawn_130 : decode cX9_drawn 130 = .ok (.iconst 1, 1) := by decide +kernel
theorem dX9_drawn_131 : decode cX9_drawn 131 = .ok (.lload 7, 2) := by decide +kernel
theorem dX9_drawn_133 : decode cX9_drawn 133 = .ok (.ldc2_w 291, 3) := by decide +kernel
theorem dX9_drawn_136 : decode cX9_drawn 136 = .ok (.ldiv, 1) := by decide +kernel
theorem dX9_drawn_137 : decode cX9_drawn 137 = .ok (.ldc2_w 207, 3) := by decide +kernel
theorem dX9_drawn_140 : decode cX9_drawn 140 = .ok (.lrem, 1) := by decide +kernel
theorem dX9_drawn_141 : decode cX9_drawn 141 = .ok (.l2i, 1) := by decide +kernel
theorem dX9_drawn_142 : decode cX9_drawn 142 = .ok (.iadd, 1) := by decide +kernel
theorem dX9_drawn_143 : decode cX9_drawn 143 = .ok (.iastore, 1) := by decide +kernel
theorem dX9_drawn_144 : decode cX9_drawn 144 = .ok (.aload_n 0, 1) := by decide +kernel
theorem dX9_drawn_145 : decode cX9_drawn 145 = .ok (.aload_n 0, 1) := by decide +kernel
theorem dX9_drawn_146 : decode cX9_drawn 146 = .ok (.getfield 13, 3) := by decide +kernel
theorem dX9_drawn_149 : decode cX9_drawn 149 = .ok (.iconst 0, 1) := by decide +kernel
theorem dX9_drawn_150 : decode cX9_drawn 150 = .ok (.invokevirtual 251, 3) := by decide +kernel
theorem dX9_drawn_153 : decode cX9_drawn 153 = .ok (.istore 10, 2) := by decide +kernel
theorem dX9_drawn_155 : decode cX9_drawn 155 = .ok (.iload 5, 2) := by decide +kernel
theorem dX9_drawn_157 : decode cX9_drawn 157 = .ok (.iload 10, 2) := by decide +kernel
theorem dX9_drawn_159 : decode cX9_drawn 159 = .ok (.ifCond .eq 13, 3) := by decide +kernel
theorem dX9_drawn_162 : decode cX9_drawn 162 = .ok (.aload_n 0, 1) := by decide +kernel
theorem dX9_drawn_163 : decode cX9_drawn 163 = .ok (.getfield 29, 3) := by decide +kernel
theorem dX9_drawn_166 : decode cX9_drawn 166 = .ok (.iload 4, 2) := by decide +kernel
theorem dX9_drawn_168 : decode cX9_drawn 168 = .ok (.iaload, 1) := by decide +kernel
theorem dX9_drawn_169 : decode cX9_drawn 169 = .ok (.goto 4, 3) := by decide +kernel
theorem dX9_drawn_172 : decode cX9_drawn 172 = .ok (.iconst 0, 1) := by decide +kernel
theorem dX9_drawn_173 : decode cX9_drawn 173 = .ok (.iadd, 1) := by decide +kernel
theorem dX9_drawn_174 : decode cX9_drawn 174 = .ok (.istore 5, 2) := by decide +kernel
theorem dX9_drawn_176 : decode cX9_drawn 176 = .ok (.iload 6, 2) := by decide +kernel
theorem dX9_drawn_178 : decode cX9_drawn 178 = .ok (.iload 10, 2) := by decide +kernel
theorem dX9_drawn_180 : decode cX9_drawn 180 = .ok (.ifCond .eq 7, 3) := by decide +kernel
theorem dX9_drawn_183 : decode cX9_drawn 183 = .ok (.iconst 0, 1) := by decide +kernel
theorem dX9_drawn_184 : decode cX9_drawn 184 = .ok (.goto 4, 3) := by decide +kernel
theorem dX9_drawn_187 : decode cX9_drawn 187 = .ok (.iconst 1, 1) := by decide +kernel
theorem dX9_drawn_188 : decode cX9_drawn 188 = .ok (.iadd, 1) := by decide +kernel
theorem dX9_drawn_189 : decode cX9_drawn 189 = .ok (.istore 6, 2) := by decide +kernel
theorem dX9_drawn_191 : decode cX9_drawn 191 = .ok (.iinc 9 1, 3) := by decide +kernel
theorem dX9_drawn_194 : decode cX9_drawn 194 = .ok (.goto (-112), 3) := by decide +kernel
theorem dX9_drawn_197 : decode cX9_drawn 197 = .ok (.iload_n 3, 1) := by decide +kernel
theorem dX9_drawn_198 : decode cX9_drawn 198 = .ok (.ifCond .ne 8, 3) := by decide +kernel
theorem dX9_drawn_201 : decode cX9_drawn 201 = .ok (.iload 5, 2) := by decide +kernel
theorem dX9_drawn_203 : decode cX9_drawn 203 = .ok (.goto 5, 3) := by decide +kernel
theorem dX9_drawn_206 : decode cX9_drawn 206 = .ok (.iload 6, 2) := by decide +kernel
theorem dX9_drawn_208 : decode cX9_drawn 208 = .ok (.ireturn, 1) := by decide +kernel
theorem dX9_image_0 : decode cX9_image 0 = .ok (.iload_n 1, 1) := by decide +kernel
theorem dX9_image_1 : decode cX9_image 1 = .ok (.i2l, 1) := by decide +kernel
theorem dX9_image_2 : decode cX9_image 2 = .ok (.lconst 0, 1) := by decide +kernel
theorem dX9_image_3 : decode cX9_image 3 = .ok (.lconst 1, 1) := by decide +kernel
theorem dX9_image_4 : decode cX9_image 4 = .ok (.invokestatic 47, 3) := by decide +kernel
theorem dX9_image_7 : decode cX9_image 7 = .ok (.ifCond .ne 6, 3) := by decide +kernel
theorem dX9_image_10 : decode cX9_image 10 = .ok (.ldc 156, 2) := by decide +kernel
theorem dX9_image_12 : decode cX9_image 12 = .ok (.ireturn, 1) := by decide +kernel
theorem dX9_image_13 : decode cX9_image 13 = .ok (.aload_n 0, 1) := by decide +kernel
theorem dX9_image_14 : decode cX9_image 14 = .ok (.invokevirtual 200, 3) := by decide +kernel
theorem dX9_image_17 : decode cX9_image 17 = .ok (.ifCond .ne 6, 3) := by decide +kernel
theorem dX9_image_20 : decode cX9_image 20 = .ok (.ldc 182, 2) := by decide +kernel
theorem dX9_image_22 : decode cX9_image 22 = .ok (.ireturn, 1) := by decide +kernel
theorem dX9_image_23 : decode cX9_image 23 = .ok (.aload_n 0, 1) := by decide +kernel
theorem dX9_image_24 : decode cX9_image 24 = .ok (.getfield 7, 3) := by decide +kernel
theorem dX9_image_27 : decode cX9_image 27 = .ok (.iconst 0, 1) := by decide +kernel
theorem dX9_image_28 : decode cX9_image 28 = .ok (.aload_n 0, 1) := by decide +kernel
theorem dX9_image_29 : decode cX9_image 29 = .ok (.getfield 19, 3) := by decide +kernel
theorem dX9_image_32 : decode cX9_image 32 = .ok (.bipush 89, 2) := by decide +kernel
theorem dX9_image_34 : decode cX9_image 34 = .ok (.iload_n 1, 1) := by decide +kernel
theorem dX9_image_35 : decode cX9_image 35 = .ok (.imul, 1) := by decide +kernel
theorem dX9_image_36 : decode cX9_image 36 = .ok (.invokestatic 175, 3) := by decide +kernel
theorem dX9_image_39 : decode cX9_image 39 = .ok (.aload_n 0, 1) := by decide +kernel
theorem dX9_image_40 : decode cX9_image 40 = .ok (.getfield 22, 3) := by decide +kernel
theorem dX9_image_43 : decode cX9_image 43 = .ok (.iload_n 1, 1) := by decide +kernel
theorem dX9_image_44 : decode cX9_image 44 = .ok (.iconst 1, 1) := by decide +kernel
theorem dX9_image_45 : decode cX9_image 45 = .ok (.bastore, 1) := by decide +kernel
theorem dX9_image_46 : decode cX9_image 46 = .ok (.iconst 1, 1) := by decide +kernel
theorem dX9_image_47 : decode cX9_image 47 = .ok (.ireturn, 1) := by decide +kernel
theorem dX9_restore_0 : decode cX9_restore 0 = .ok (.iload_n 1, 1) := by decide +kernel
theorem dX9_restore_1 : decode cX9_restore 1 = .ok (.i2l, 1) := by decide +kernel
theorem dX9_restore_2 : decode cX9_restore 2 = .ok (.lconst 0, 1) := by decide +kernel
theorem dX9_restore_3 : decode cX9_restore 3 = .ok (.lconst 1, 1) := by decide +kernel
theorem dX9_restore_4 : decode cX9_restore 4 = .ok (.invokestatic 47, 3) := by decide +kernel
theorem dX9_restore_7 : decode cX9_restore 7 = .ok (.ifCond .ne 6, 3) := by decide +kernel
theorem dX9_restore_10 : decode cX9_restore 10 = .ok (.ldc 156, 2) := by decide +kernel
theorem dX9_restore_12 : decode cX9_restore 12 = .ok (.ireturn, 1) := by decide +kernel
theorem dX9_restore_13 : decode cX9_restore 13 = .ok (.aload_n 0, 1) := by decide +kernel
theorem dX9_restore_14 : decode cX9_restore 14 = .ok (.getfield 22, 3) := by decide +kernel
theorem dX9_restore_17 : decode cX9_restore 17 = .ok (.iload_n 1, 1) := by decide +kernel
theorem dX9_restore_18 : decode cX9_restore 18 = .ok (.baload, 1) := by decide +kernel
theorem dX9_restore_19 : decode cX9_restore 19 = .ok (.ifCond .ne 6, 3) := by decide +kernel
theorem dX9_restore_22 : decode cX9_restore 22 = .ok (.ldc 182, 2) := by decide +kernel
theorem dX9_restore_24 : decode cX9_restore 24 = .ok (.ireturn, 1) := by decide +kernel
theorem dX9_restore_25 : decode cX9_restore 25 = .ok (.aload_n 0, 1) := by decide +kernel
theorem dX9_restore_26 : decode cX9_restore 26 = .ok (.getfield 19, 3) := by decide +kernel
theorem dX9_restore_29 : decode cX9_restore 29 = .ok (.bipush 89, 2) := by decide +kernel
theorem dX9_restore_31 : decode cX9_restore 31 = .ok (.iload_n 1, 1) := by decide +kernel
theorem dX9_restore_32 : decode cX9_restore 32 = .ok (.imul, 1) := by decide +kernel
theorem dX9_restore_33 : decode cX9_restore 33 = .ok (.aload_n 0, 1) := by decide +kernel
theorem dX9_restore_34 : decode cX9_restore 34 = .ok (.getfield 7, 3) := by decide +kernel
theorem dX9_restore_37 : decode cX9_restore 37 = .ok (.iconst 0, 1) := by decide +kernel
theorem dX9_restore_38 : decode cX9_restore 38 = .ok (.invokestatic 175, 3) := by decide +kernel
theorem dX9_restore_41 : decode cX9_restore 41 = .ok (.aload_n 0, 1) := by decide +kernel
theorem dX9_restore_42 : decode cX9_restore 42 = .ok (.iconst 0, 1) := by decide +kernel
theorem dX9_restore_43 : decode cX9_restore 43 = .ok (.putfield 179, 3) := by decide +kernel
theorem dX9_restore_46 : decode cX9_restore 46 = .ok (.iconst 1, 1) := by decide +kernel
theorem dX9_restore_47 : decode cX9_restore 47 = .ok (.ireturn, 1) := by decide +kernel
theorem dX9_count_0 : decode cX9_count 0 = .ok (.iconst 0, 1) := by decide +kernel
theorem dX9_count_1 : decode cX9_count 1 = .ok (.istore_n 2, 1) := by decide +kernel
theorem dX9_count_2 : decode cX9_count 2 = .ok (.iconst 0, 1) := by decide +kernel
theorem dX9_count_3 : decode cX9_count 3 = .ok (.istore_n 3, 1) := by decide +kernel
theorem dX9_count_4 : decode cX9_count 4 = .ok (.iload_n 3, 1) := by decide +kernel
theorem dX9_count_5 : decode cX9_count 5 = .ok (.aload_n 0, 1) := by decide +kernel
theorem dX9_count_6 : decode cX9_count 6 = .ok (.getfield 7, 3) := by decide +kernel
theorem dX9_count_9 : decode cX9_count 9 = .ok (.iconst 4, 1) := by decide +kernel
theorem dX9_count_10 : decode cX9_count 10 = .ok (.iaload, 1) := by decide +kernel
theorem dX9_count_11 : decode cX9_count 11 = .ok (.if_icmp .ge 28, 3) := by decide +kernel
theorem dX9_count_14 : decode cX9_count 14 = .ok (.iload_n 2, 1) := by decide +kernel
theorem dX9_count_15 : decode cX9_count 15 = .ok (.aload_n 0, 1) := by decide +kernel
theorem dX9_count_16 : decode cX9_count 16 = .ok (.getfield 7, 3) := by decide +kernel
theorem dX9_count_19 : decode cX9_count 19 = .ok (.iload_n 3, 1) := by decide +kernel
theorem dX9_count_20 : decode cX9_count 20 = .ok (.invokestatic 238, 3) := by decide +kernel
theorem dX9_count_23 : decode cX9_count 23 = .ok (.ifCond .eq 7, 3) := by decide +kernel
theorem dX9_count_26 : decode cX9_count 26 = .ok (.iconst 1, 1) := by decide +kernel
theorem dX9_count_27 : decode cX9_count 27 = .ok (.goto 4, 3) := by decide +kernel
theorem dX9_count_30 : decode cX9_count 30 = .ok (.iconst 0, 1) := by decide +kernel
theorem dX9_count_31 : decode cX9_count 31 = .ok (.iadd, 1) := by decide +kernel
theorem dX9_count_32 : decode cX9_count 32 = .ok (.istore_n 2, 1) := by decide +kernel
theorem dX9_count_33 : decode cX9_count 33 = .ok (.iinc 3 1, 3) := by decide +kernel
theorem dX9_count_36 : decode cX9_count 36 = .ok (.goto (-32), 3) := by decide +kernel
theorem dX9_count_39 : decode cX9_count 39 = .ok (.iload_n 1, 1) := by decide +kernel
theorem dX9_count_40 : decode cX9_count 40 = .ok (.tableswitch 89 0 6 #[44, 51, 58, 69, 71, 79, 84], 44) := by decide +kernel
theorem dX9_count_84 : decode cX9_count 84 = .ok (.aload_n 0, 1) := by decide +kernel
theorem dX9_count_85 : decode cX9_count 85 = .ok (.getfield 7, 3) := by decide +kernel
theorem dX9_count_88 : decode cX9_count 88 = .ok (.iconst 4, 1) := by decide +kernel
theorem dX9_count_89 : decode cX9_count 89 = .ok (.iaload, 1) := by decide +kernel
theorem dX9_count_90 : decode cX9_count 90 = .ok (.ireturn, 1) := by decide +kernel
theorem dX9_count_91 : decode cX9_count 91 = .ok (.aload_n 0, 1) := by decide +kernel
theorem dX9_count_92 : decode cX9_count 92 = .ok (.getfield 7, 3) := by decide +kernel
theorem dX9_count_95 : decode cX9_count 95 = .ok (.iconst 5, 1) := by decide +kernel
theorem dX9_count_96 : decode cX9_count 96 = .ok (.iaload, 1) := by decide +kernel
theorem dX9_count_97 : decode cX9_count 97 = .ok (.ireturn, 1) := by decide +kernel
theorem dX9_count_98 : decode cX9_count 98 = .ok (.aload_n 0, 1) := by decide +kernel
theorem dX9_count_99 : decode cX9_count 99 = .ok (.getfield 7, 3) := by decide +kernel
theorem dX9_count_102 : decode cX9_count 102 = .ok (.invokestatic 234, 3) := by decide +kernel
theorem dX9_count_105 : decode cX9_count 105 = .ok (.invokestatic 90, 3) := by decide +kernel
theorem dX9_count_108 : decode cX9_count 108 = .ok (.ireturn, 1) := by decide +kernel
theorem dX9_count_109 : decode cX9_count 109 = .ok (.iload_n 2, 1) := by decide +kernel
theorem dX9_count_110 : decode cX9_count 110 = .ok (.ireturn, 1) := by decide +kernel
theorem dX9_count_111 : decode cX9_count 111 = .ok (.aload_n 0, 1) := by decide +kernel
theorem dX9_count_112 : decode cX9_count 112 = .ok (.getfield 7, 3) := by decide +kernel
theorem dX9_count_115 : decode cX9_count 115 = .ok (.bipush 6, 2) := by decide +kernel
theorem dX9_count_117 : decode cX9_count 117 = .ok (.iaload, 1) := by decide +kernel
theorem dX9_count_118 : decode cX9_count 118 = .ok (.ireturn, 1) := by decide +kernel
theorem dX9_count_119 : decode cX9_count 119 = .ok (.aload_n 0, 1) := by decide +kernel
theorem dX9_count_120 : decode cX9_count 120 = .ok (.getfield 179, 3) := by decide +kernel
theorem dX9_count_123 : decode cX9_count 123 = .ok (.ireturn, 1) := by decide +kernel
theorem dX9_count_124 : decode cX9_count 124 = .ok (.aload_n 0, 1) := by decide +kernel
theorem dX9_count_125 : decode cX9_count 125 = .ok (.getfield 97, 3) := by decide +kernel
theorem dX9_count_128 : decode cX9_count 128 = .ok (.ireturn, 1) := by decide +kernel
theorem dX9_count_129 : decode cX9_count 129 = .ok (.ldc 156, 2) := by decide +kernel
theorem dX9_count_131 : decode cX9_count 131 = .ok (.ireturn, 1) := by decide +kernel
theorem dJ6_bitCount_0f7a4_0 : decode cJ6_bitCount_0f7a4 0 = .ok (.iload_n 0, 1) := by decide +kernel
theorem dJ6_bitCount_0f7a4_1 : decode cJ6_bitCount_0f7a4 1 = .ok (.iload_n 0, 1) := by decide +kernel
theorem dJ6_bitCount_0f7a4_2 : decode cJ6_bitCount_0f7a4 2 = .ok (.iconst 1, 1) := by decide +kernel
theorem dJ6_bitCount_0f7a4_3 : decode cJ6_bitCount_0f7a4 3 = .ok (.iushr, 1) := by decide +kernel
theorem dJ6_bitCount_0f7a4_4 : decode cJ6_bitCount_0f7a4 4 = .ok (.ldc_w 265, 3) := by decide +kernel
theorem dJ6_bitCount_0f7a4_7 : decode cJ6_bitCount_0f7a4 7 = .ok (.iand, 1) := by decide +kernel
theorem dJ6_bitCount_0f7a4_8 : decode cJ6_bitCount_0f7a4 8 = .ok (.isub, 1) := by decide +kernel
theorem dJ6_bitCount_0f7a4_9 : decode cJ6_bitCount_0f7a4 9 = .ok (.istore_n 0, 1) := by decide +kernel
theorem dJ6_bitCount_0f7a4_10 : decode cJ6_bitCount_0f7a4 10 = .ok (.iload_n 0, 1) := by decide +kernel
theorem dJ6_bitCount_0f7a4_11 : decode cJ6_bitCount_0f7a4 11 = .ok (.ldc_w 266, 3) := by decide +kernel
theorem dJ6_bitCount_0f7a4_14 : decode cJ6_bitCount_0f7a4 14 = .ok (.iand, 1) := by decide +kernel
theorem dJ6_bitCount_0f7a4_15 : decode cJ6_bitCount_0f7a4 15 = .ok (.iload_n 0, 1) := by decide +kernel
theorem dJ6_bitCount_0f7a4_16 : decode cJ6_bitCount_0f7a4 16 = .ok (.iconst 2, 1) := by decide +kernel
theorem dJ6_bitCount_0f7a4_17 : decode cJ6_bitCount_0f7a4 17 = .ok (.iushr, 1) := by decide +kernel
theorem dJ6_bitCount_0f7a4_18 : decode cJ6_bitCount_0f7a4 18 = .ok (.ldc_w 266, 3) := by decide +kernel
theorem dJ6_bitCount_0f7a4_21 : decode cJ6_bitCount_0f7a4 21 = .ok (.iand, 1) := by decide +kernel
theorem dJ6_bitCount_0f7a4_22 : decode cJ6_bitCount_0f7a4 22 = .ok (.iadd, 1) := by decide +kernel
theorem dJ6_bitCount_0f7a4_23 : decode cJ6_bitCount_0f7a4 23 = .ok (.istore_n 0, 1) := by decide +kernel
theorem dJ6_bitCount_0f7a4_24 : decode cJ6_bitCount_0f7a4 24 = .ok (.iload_n 0, 1) := by decide +kernel
theorem dJ6_bitCount_0f7a4_25 : decode cJ6_bitCount_0f7a4 25 = .ok (.iload_n 0, 1) := by decide +kernel
theorem dJ6_bitCount_0f7a4_26 : decode cJ6_bitCount_0f7a4 26 = .ok (.iconst 4, 1) := by decide +kernel
theorem dJ6_bitCount_0f7a4_27 : decode cJ6_bitCount_0f7a4 27 = .ok (.iushr, 1) := by decide +kernel
theorem dJ6_bitCount_0f7a4_28 : decode cJ6_bitCount_0f7a4 28 = .ok (.iadd, 1) := by decide +kernel
theorem dJ6_bitCount_0f7a4_29 : decode cJ6_bitCount_0f7a4 29 = .ok (.ldc_w 267, 3) := by decide +kernel
theorem dJ6_bitCount_0f7a4_32 : decode cJ6_bitCount_0f7a4 32 = .ok (.iand, 1) := by decide +kernel
theorem dJ6_bitCount_0f7a4_33 : decode cJ6_bitCount_0f7a4 33 = .ok (.istore_n 0, 1) := by decide +kernel
theorem dJ6_bitCount_0f7a4_34 : decode cJ6_bitCount_0f7a4 34 = .ok (.iload_n 0, 1) := by decide +kernel
theorem dJ6_bitCount_0f7a4_35 : decode cJ6_bitCount_0f7a4 35 = .ok (.iload_n 0, 1) := by decide +kernel
theorem dJ6_bitCount_0f7a4_36 : decode cJ6_bitCount_0f7a4 36 = .ok (.bipush 8, 2) := by decide +kernel
theorem dJ6_bitCount_0f7a4_38 : decode cJ6_bitCount_0f7a4 38 = .ok (.iushr, 1) := by decide +kernel
theorem dJ6_bitCount_0f7a4_39 : decode cJ6_bitCount_0f7a4 39 = .ok (.iadd, 1) := by decide +kernel
theorem dJ6_bitCount_0f7a4_40 : decode cJ6_bitCount_0f7a4 40 = .ok (.istore_n 0, 1) := by decide +kernel
theorem dJ6_bitCount_0f7a4_41 : decode cJ6_bitCount_0f7a4 41 = .ok (.iload_n 0, 1) := by decide +kernel
theorem dJ6_bitCount_0f7a4_42 : decode cJ6_bitCount_0f7a4 42 = .ok (.iload_n 0, 1) := by decide +kernel
theorem dJ6_bitCount_0f7a4_43 : decode cJ6_bitCount_0f7a4 43 = .ok (.bipush 16, 2) := by decide +kernel
theorem dJ6_bitCount_0f7a4_45 : decode cJ6_bitCount_0f7a4 45 = .ok (.iushr, 1) := by decide +kernel
theorem dJ6_bitCount_0f7a4_46 : decode cJ6_bitCount_0f7a4 46 = .ok (.iadd, 1) := by decide +kernel
theorem dJ6_bitCount_0f7a4_47 : decode cJ6_bitCount_0f7a4 47 = .ok (.istore_n 0, 1) := by decide +kernel
theorem dJ6_bitCount_0f7a4_48 : decode cJ6_bitCount_0f7a4 48 = .ok (.iload_n 0, 1) := by decide +kernel
theorem dJ6_bitCount_0f7a4_49 : decode cJ6_bitCount_0f7a4 49 = .ok (.bipush 63, 2) := by decide +kernel
theorem dJ6_bitCount_0f7a4_51 : decode cJ6_bitCount_0f7a4 51 = .ok (.iand, 1) := by decide +kernel
theorem dJ6_bitCount_0f7a4_52 : decode cJ6_bitCount_0f7a4 52 = .ok (.ireturn, 1) := by decide +kernel
theorem dJ9_max_7cf53_0 : decode cJ9_max_7cf53 0 = .ok (.iload_n 0, 1) := by decide +kernel
theorem dJ9_max_7cf53_1 : decode cJ9_max_7cf53 1 = .ok (.iload_n 1, 1) := by decide +kernel
theorem dJ9_max_7cf53_2 : decode cJ9_max_7cf53 2 = .ok (.if_icmp .lt 7, 3) := by decide +kernel
theorem dJ9_max_7cf53_5 : decode cJ9_max_7cf53 5 = .ok (.iload_n 0, 1) := by decide +kernel
theorem dJ9_max_7cf53_6 : decode cJ9_max_7cf53 6 = .ok (.goto 4, 3) := by decide +kernel
theorem dJ9_max_7cf53_9 : decode cJ9_max_7cf53 9 = .ok (.iload_n 1, 1) := by decide +kernel
theorem dJ9_max_7cf53_10 : decode cJ9_max_7cf53 10 = .ok (.ireturn, 1) := by decide +kernel
theorem dJ9_min_7cf53_0 : decode cJ9_min_7cf53 0 = .ok (.iload_n 0, 1) := by decide +kernel
theorem dJ9_min_7cf53_1 : decode cJ9_min_7cf53 1 = .ok (.iload_n 1, 1) := by decide +kernel
theorem dJ9_min_7cf53_2 : decode cJ9_min_7cf53 2 = .ok (.if_icmp .gt 7, 3) := by decide +kernel
theorem dJ9_min_7cf53_5 : decode cJ9_min_7cf53 5 = .ok (.iload_n 0, 1) := by decide +kernel
theorem dJ9_min_7cf53_6 : decode cJ9_min_7cf53 6 = .ok (.goto 4, 3) := by decide +kernel
theorem dJ9_min_7cf53_9 : decode cJ9_min_7cf53 9 = .ok (.iload_n 1, 1) := by decide +kernel
theorem dJ9_min_7cf53_10 : decode cJ9_min_7cf53 10 = .ok (.ireturn, 1) := by decide +kernel
theorem dJ7_fill_53178_0 : decode cJ7_fill_53178 0 = .ok (.iconst 0, 1) := by decide +kernel
theorem dJ7_fill_53178_1 : decode cJ7_fill_53178 1 = .ok (.istore_n 2, 1) := by decide +kernel
theorem dJ7_fill_53178_2 : decode cJ7_fill_53178 2 = .ok (.aload_n 0, 1) := by decide +kernel
theorem dJ7_fill_53178_3 : decode cJ7_fill_53178 3 = .ok (.arraylength, 1) := by decide +kernel
theorem dJ7_fill_53178_4 : decode cJ7_fill_53178 4 = .ok (.istore_n 3, 1) := by decide +kernel
theorem dJ7_fill_53178_5 : decode cJ7_fill_53178 5 = .ok (.iload_n 2, 1) := by decide +kernel
theorem dJ7_fill_53178_6 : decode cJ7_fill_53178 6 = .ok (.iload_n 3, 1) := by decide +kernel
theorem dJ7_fill_53178_7 : decode cJ7_fill_53178 7 = .ok (.if_icmp .ge 13, 3) := by decide +kernel
theorem dJ7_fill_53178_10 : decode cJ7_fill_53178 10 = .ok (.aload_n 0, 1) := by decide +kernel
theorem dJ7_fill_53178_11 : decode cJ7_fill_53178 11 = .ok (.iload_n 2, 1) := by decide +kernel
theorem dJ7_fill_53178_12 : decode cJ7_fill_53178 12 = .ok (.iload_n 1, 1) := by decide +kernel
theorem dJ7_fill_53178_13 : decode cJ7_fill_53178 13 = .ok (.iastore, 1) := by decide +kernel
theorem dJ7_fill_53178_14 : decode cJ7_fill_53178 14 = .ok (.iinc 2 1, 3) := by decide +kernel
theorem dJ7_fill_53178_17 : decode cJ7_fill_53178 17 = .ok (.goto (-12), 3) := by decide +kernel
theorem dJ7_fill_53178_20 : decode cJ7_fill_53178 20 = .ok (.return_, 1) := by decide +kernel
theorem dL_law_0 : decode cL_law 0 = .ok (.new 7, 3) := by decide +kernel
theorem dL_law_3 : decode cL_law 3 = .ok (.dup, 1) := by decide +kernel
theorem dL_law_4 : decode cL_law 4 = .ok (.invokespecial 9, 3) := by decide +kernel
theorem dL_law_7 : decode cL_law 7 = .ok (.astore_n 1, 1) := by decide +kernel
theorem dL_law_8 : decode cL_law 8 = .ok (.new 10, 3) := by decide +kernel
theorem dL_law_11 : decode cL_law 11 = .ok (.dup, 1) := by decide +kernel
theorem dL_law_12 : decode cL_law 12 = .ok (.invokespecial 12, 3) := by decide +kernel
theorem dL_law_15 : decode cL_law 15 = .ok (.astore_n 2, 1) := by decide +kernel
theorem dL_law_16 : decode cL_law 16 = .ok (.iconst 0, 1) := by decide +kernel
theorem dL_law_17 : decode cL_law 17 = .ok (.istore_n 3, 1) := by decide +kernel
theorem dL_law_18 : decode cL_law 18 = .ok (.iload_n 3, 1) := by decide +kernel
theorem dL_law_19 : decode cL_law 19 = .ok (.aload_n 0, 1) := by decide +kernel
theorem dL_law_20 : decode cL_law 20 = .ok (.arraylength, 1) := by decide +kernel
theorem dL_law_21 : decode cL_law 21 = .ok (.iconst 4, 1) := by decide +kernel
theorem dL_law_22 : decode cL_law 22 = .ok (.isub, 1) := by decide +kernel
theorem dL_law_23 : decode cL_law 23 = .ok (.if_icmp .gt 1023, 3) := by decide +kernel
theorem dL_law_26 : decode cL_law 26 = .ok (.aload_n 0, 1) := by decide +kernel
theorem dL_law_27 : decode cL_law 27 = .ok (.iload_n 3, 1) := by decide +kernel
theorem dL_law_28 : decode cL_law 28 = .ok (.iaload, 1) := by decide +kernel
theorem dL_law_29 : decode cL_law 29 = .ok (.bipush 63, 2) := by decide +kernel
theorem dL_law_31 : decode cL_law 31 = .ok (.iand, 1) := by decide +kernel
theorem dL_law_32 : decode cL_law 32 = .ok (.tableswitch 1008 0 32 #[148, 171, 184, 197, 210, 233, 256, 269, 282, 305, 338, 371, 404, 447, 480, 513, 546, 579, 602, 625, 658, 691, 714, 737, 770, 803, 826, 849, 862, 896, 939, 962, 985], 148) := by decide +kernel
theorem dL_law_180 : decode cL_law 180 = .ok (.aload_n 1, 1) := by decide +kernel
theorem dL_law_181 : decode cL_law 181 = .ok (.aload_n 0, 1) := by decide +kernel
theorem dL_law_182 : decode cL_law 182 = .ok (.iload_n 3, 1) := by decide +kernel
theorem dL_law_183 : decode cL_law 183 = .ok (.iconst 1, 1) := by decide +kernel
theorem dL_law_184 : decode cL_law 184 = .ok (.iadd, 1) := by decide +kernel
theorem dL_law_185 : decode cL_law 185 = .ok (.iaload, 1) := by decide +kernel
theorem dL_law_186 : decode cL_law 186 = .ok (.invokevirtual 13, 3) := by decide +kernel
theorem dL_law_189 : decode cL_law 189 = .ok (.aload_n 2, 1) := by decide +kernel
theorem dL_law_190 : decode cL_law 190 = .ok (.aload_n 0, 1) := by decide +kernel
theorem dL_law_191 : decode cL_law 191 = .ok (.iload_n 3, 1) := by decide +kernel
theorem dL_law_192 : decode cL_law 192 = .ok (.iconst 1, 1) := by decide +kernel
theorem dL_law_193 : decode cL_law 193 = .ok (.iadd, 1) := by decide +kernel
theorem dL_law_194 : decode cL_law 194 = .ok (.iaload, 1) := by decide +kernel
theorem dL_law_195 : decode cL_law 195 = .ok (.invokevirtual 17, 3) := by decide +kernel
theorem dL_law_198 : decode cL_law 198 = .ok (.if_icmp .eq 842, 3) := by decide +kernel
theorem dL_law_201 : decode cL_law 201 = .ok (.iconst 0, 1) := by decide +kernel
theorem dL_law_202 : decode cL_law 202 = .ok (.ireturn, 1) := by decide +kernel
theorem dL_law_203 : decode cL_law 203 = .ok (.aload_n 1, 1) := by decide +kernel
theorem dL_law_204 : decode cL_law 204 = .ok (.invokevirtual 18, 3) := by decide +kernel
theorem dL_law_207 : decode cL_law 207 = .ok (.aload_n 2, 1) := by decide +kernel
theorem dL_law_208 : decode cL_law 208 = .ok (.invokevirtual 22, 3) := by decide +kernel
theorem dL_law_211 : decode cL_law 211 = .ok (.if_icmp .eq 829, 3) := by decide +kernel
theorem dL_law_214 : decode cL_law 214 = .ok (.iconst 0, 1) := by decide +kernel
theorem dL_law_215 : decode cL_law 215 = .ok (.ireturn, 1) := by decide +kernel
theorem dL_law_216 : decode cL_law 216 = .ok (.aload_n 1, 1) := by decide +kernel
theorem dL_law_217 : decode cL_law 217 = .ok (.invokevirtual 23, 3) := by decide +kernel
theorem dL_law_220 : decode cL_law 220 = .ok (.aload_n 2, 1) := by decide +kernel
theorem dL_law_221 : decode cL_law 221 = .ok (.invokevirtual 26, 3) := by decide +kernel
theorem dL_law_224 : decode cL_law 224 = .ok (.if_icmp .eq 816, 3) := by decide +kernel
theorem dL_law_227 : decode cL_law 227 = .ok (.iconst 0, 1) := by decide +kernel
theorem dL_law_228 : decode cL_law 228 = .ok (.ireturn, 1) := by decide +kernel
theorem dL_law_229 : decode cL_law 229 = .ok (.aload_n 1, 1) := by decide +kernel
theorem dL_law_230 : decode cL_law 230 = .ok (.invokevirtual 27, 3) := by decide +kernel
theorem dL_law_233 : decode cL_law 233 = .ok (.aload_n 2, 1) := by decide +kernel
theorem dL_law_234 : decode cL_law 234 = .ok (.invokevirtual 30, 3) := by decide +kernel
theorem dL_law_237 : decode cL_law 237 = .ok (.if_icmp .eq 803, 3) := by decide +kernel
theorem dL_law_240 : decode cL_law 240 = .ok (.iconst 0, 1) := by decide +kernel
theorem dL_law_241 : decode cL_law 241 = .ok (.ireturn, 1) := by decide +kernel
theorem dL_law_242 : decode cL_law 242 = .ok (.aload_n 1, 1) := by decide +kernel
theorem dL_law_243 : decode cL_law 243 = .ok (.aload_n 0, 1) := by decide +kernel
theorem dL_law_244 : decode cL_law 244 = .ok (.iload_n 3, 1) := by decide +kernel
theorem dL_law_245 : decode cL_law 245 = .ok (.iconst 1, 1) := by decide +kernel
theorem dL_law_246 : decode cL_law 246 = .ok (.iadd, 1) := by decide +kernel
theorem dL_law_247 : decode cL_law 247 = .ok (.iaload, 1) := by decide +kernel
theorem dL_law_248 : decode cL_law 248 = .ok (.invokevirtual 31, 3) := by decide +kernel
theorem dL_law_251 : decode cL_law 251 = .ok (.aload_n 2, 1) := by decide +kernel
theorem dL_law_252 : decode cL_law 252 = .ok (.aload_n 0, 1) := by decide +kernel
theorem dL_law_253 : decode cL_law 253 = .ok (.iload_n 3, 1) := by decide +kernel
theorem dL_law_254 : decode cL_law 254 = .ok (.iconst 1, 1) := by decide +kernel
theorem dL_law_255 : decode cL_law 255 = .ok (.iadd, 1) := by decide +kernel
theorem dL_law_256 : decode cL_law 256 = .ok (.iaload, 1) := by decide +kernel
theorem dL_law_257 : decode cL_law 257 = .ok (.invokevirtual 34, 3) := by decide +kernel
theorem dL_law_260 : decode cL_law 260 = .ok (.if_icmp .eq 780, 3) := by decide +kernel
theorem dL_law_263 : decode cL_law 263 = .ok (.iconst 0, 1) := by decide +kernel
theorem dL_law_264 : decode cL_law 264 = .ok (.ireturn, 1) := by decide +kernel
theorem dL_law_265 : decode cL_law 265 = .ok (.aload_n 1, 1) := by decide +kernel
theorem dL_law_266 : decode cL_law 266 = .ok (.aload_n 0, 1) := by decide +kernel
theorem dL_law_267 : decode cL_law 267 = .ok (.iload_n 3, 1) := by decide +kernel
theorem dL_law_268 : decode cL_law 268 = .ok (.iconst 1, 1) := by decide +kernel
theorem dL_law_269 : decode cL_law 269 = .ok (.iadd, 1) := by decide +kernel
theorem dL_law_270 : decode cL_law 270 = .ok (.iaload, 1) := by decide +kernel
theorem dL_law_271 : decode cL_law 271 = .ok (.invokevirtual 35, 3) := by decide +kernel
theorem dL_law_274 : decode cL_law 274 = .ok (.aload_n 2, 1) := by decide +kernel
theorem dL_law_275 : decode cL_law 275 = .ok (.aload_n 0, 1) := by decide +kernel
theorem dL_law_276 : decode cL_law 276 = .ok (.iload_n 3, 1) := by decide +kernel
theorem dL_law_277 : decode cL_law 277 = .ok (.iconst 1, 1) := by decide +kernel
theorem dL_law_278 : decode cL_law 278 = .ok (.iadd, 1) := by decide +kernel
theorem dL_law_279 : decode cL_law 279 = .ok (.iaload, 1) := by decide +kernel
theorem dL_law_280 : decode cL_law 280 = .ok (.invokevirtual 38, 3) := by decide +kernel
theorem dL_law_283 : decode cL_law 283 = .ok (.if_icmp .eq 757, 3) := by decide +kernel
theorem dL_law_286 : decode cL_law 286 = .ok (.iconst 0, 1) := by decide +kernel
theorem dL_law_287 : decode cL_law 287 = .ok (.ireturn, 1) := by decide +kernel
theorem dL_law_288 : decode cL_law 288 = .ok (.aload_n 1, 1) := by decide +kernel
theorem dL_law_289 : decode cL_law 289 = .ok (.invokevirtual 39, 3) := by decide +kernel
theorem dL_law_292 : decode cL_law 292 = .ok (.aload_n 2, 1) := by decide +kernel
theorem dL_law_293 : decode cL_law 293 = .ok (.invokevirtual 42, 3) := by decide +kernel
theorem dL_law_296 : decode cL_law 296 = .ok (.if_icmp .eq 744, 3) := by decide +kernel
theorem dL_law_299 : decode cL_law 299 = .ok (.iconst 0, 1) := by decide +kernel
theorem dL_law_300 : decode cL_law 300 = .ok (.ireturn, 1) := by decide +kernel
theorem dL_law_301 : decode cL_law 301 = .ok (.aload_n 1, 1) := by decide +kernel
theorem dL_law_302 : decode cL_law 302 = .ok (.invokevirtual 43, 3) := by decide +kernel
theorem dL_law_305 : decode cL_law 305 = .ok (.aload_n 2, 1) := by decide +kernel
theorem dL_law_306 : decode cL_law 306 = .ok (.invokevirtual 46, 3) := by decide +kernel
theorem dL_law_309 : decode cL_law 309 = .ok (.if_icmp .eq 731, 3) := by decide +kernel
theorem dL_law_312 : decode cL_law 312 = .ok (.iconst 0, 1) := by decide +kernel
theorem dL_law_313 : decode cL_law 313 = .ok (.ireturn, 1) := by decide +kernel
theorem dL_law_314 : decode cL_law 314 = .ok (.aload_n 1, 1) := by decide +kernel
theorem dL_law_315 : decode cL_law 315 = .ok (.aload_n 0, 1) := by decide +kernel
theorem dL_law_316 : decode cL_law 316 = .ok (.iload_n 3, 1) := by decide +kernel
theorem dL_law_317 : decode cL_law 317 = .ok (.iconst 1, 1) := by decide +kernel
theorem dL_law_318 : decode cL_law 318 = .ok (.iadd, 1) := by decide +kernel
theorem dL_law_319 : decode cL_law 319 = .ok (.iaload, 1) := by decide +kernel
theorem dL_law_320 : decode cL_law 320 = .ok (.invokevirtual 47, 3) := by decide +kernel
theorem dL_law_323 : decode cL_law 323 = .ok (.aload_n 2, 1) := by decide +kernel
theorem dL_law_324 : decode cL_law 324 = .ok (.aload_n 0, 1) := by decide +kernel
theorem dL_law_325 : decode cL_law 325 = .ok (.iload_n 3, 1) := by decide +kernel
theorem dL_law_326 : decode cL_law 326 = .ok (.iconst 1, 1) := by decide +kernel
theorem dL_law_327 : decode cL_law 327 = .ok (.iadd, 1) := by decide +kernel
theorem dL_law_328 : decode cL_law 328 = .ok (.iaload, 1) := by decide +kernel
theorem dL_law_329 : decode cL_law 329 = .ok (.invokevirtual 50, 3) := by decide +kernel
theorem dL_law_332 : decode cL_law 332 = .ok (.if_icmp .eq 708, 3) := by decide +kernel
theorem dL_law_335 : decode cL_law 335 = .ok (.iconst 0, 1) := by decide +kernel
theorem dL_law_336 : decode cL_law 336 = .ok (.ireturn, 1) := by decide +kernel
theorem dL_law_337 : decode cL_law 337 = .ok (.aload_n 1, 1) := by decide +kernel
theorem dL_law_338 : decode cL_law 338 = .ok (.aload_n 0, 1) := by decide +kernel
theorem dL_law_339 : decode cL_law 339 = .ok (.iload_n 3, 1) := by decide +kernel
theorem dL_law_340 : decode cL_law 340 = .ok (.iconst 1, 1) := by decide +kernel
theorem dL_law_341 : decode cL_law 341 = .ok (.iadd, 1) := by decide +kernel
theorem dL_law_342 : decode cL_law 342 = .ok (.iaload, 1) := by decide +kernel
theorem dL_law_343 : decode cL_law 343 = .ok (.aload_n 0, 1) := by decide +kernel
theorem dL_law_344 : decode cL_law 344 = .ok (.iload_n 3, 1) := by decide +kernel
theorem dL_law_345 : decode cL_law 345 = .ok (.iconst 2, 1) := by decide +kernel
theorem dL_law_346 : decode cL_law 346 = .ok (.iadd, 1) := by decide +kernel
theorem dL_law_347 : decode cL_law 347 = .ok (.iaload, 1) := by decide +kernel
theorem dL_law_348 : decode cL_law 348 = .ok (.invokevirtual 51, 3) := by decide +kernel
theorem dL_law_351 : decode cL_law 351 = .ok (.aload_n 2, 1) := by decide +kernel
theorem dL_law_352 : decode cL_law 352 = .ok (.aload_n 0, 1) := by decide +kernel
theorem dL_law_353 : decode cL_law 353 = .ok (.iload_n 3, 1) := by decide +kernel
theorem dL_law_354 : decode cL_law 354 = .ok (.iconst 1, 1) := by decide +kernel
theorem dL_law_355 : decode cL_law 355 = .ok (.iadd, 1) := by decide +kernel
theorem dL_law_356 : decode cL_law 356 = .ok (.iaload, 1) := by decide +kernel
theorem dL_law_357 : decode cL_law 357 = .ok (.aload_n 0, 1) := by decide +kernel
theorem dL_law_358 : decode cL_law 358 = .ok (.iload_n 3, 1) := by decide +kernel
theorem dL_law_359 : decode cL_law 359 = .ok (.iconst 2, 1) := by decide +kernel
theorem dL_law_360 : decode cL_law 360 = .ok (.iadd, 1) := by decide +kernel
theorem dL_law_361 : decode cL_law 361 = .ok (.iaload, 1) := by decide +kernel
theorem dL_law_362 : decode cL_law 362 = .ok (.invokevirtual 55, 3) := by decide +kernel
theorem dL_law_365 : decode cL_law 365 = .ok (.if_icmp .eq 675, 3) := by decide +kernel
theorem dL_law_368 : decode cL_law 368 = .ok (.iconst 0, 1) := by decide +kernel
theorem dL_law_369 : decode cL_law 369 = .ok (.ireturn, 1) := by decide +kernel
theorem dL_law_370 : decode cL_law 370 = .ok (.aload_n 1, 1) := by decide +kernel
theorem dL_law_371 : decode cL_law 371 = .ok (.aload_n 0, 1) := by decide +kernel
theorem dL_law_372 : decode cL_law 372 = .ok (.iload_n 3, 1) := by decide +kernel
theorem dL_law_373 : decode cL_law 373 = .ok (.iconst 1, 1) := by decide +kernel
theorem dL_law_374 : decode cL_law 374 = .ok (.iadd, 1) := by decide +kernel
theorem dL_law_375 : decode cL_law 375 = .ok (.iaload, 1) := by decide +kernel
theorem dL_law_376 : decode cL_law 376 = .ok (.aload_n 0, 1) := by decide +kernel
theorem dL_law_377 : decode cL_law 377 = .ok (.iload_n 3, 1) := by decide +kernel
theorem dL_law_378 : decode cL_law 378 = .ok (.iconst 2, 1) := by decide +kernel
theorem dL_law_379 : decode cL_law 379 = .ok (.iadd, 1) := by decide +kernel
theorem dL_law_380 : decode cL_law 380 = .ok (.iaload, 1) := by decide +kernel
theorem dL_law_381 : decode cL_law 381 = .ok (.invokevirtual 56, 3) := by decide +kernel
theorem dL_law_384 : decode cL_law 384 = .ok (.aload_n 2, 1) := by decide +kernel
theorem dL_law_385 : decode cL_law 385 = .ok (.aload_n 0, 1) := by decide +kernel
theorem dL_law_386 : decode cL_law 386 = .ok (.iload_n 3, 1) := by decide +kernel
theorem dL_law_387 : decode cL_law 387 = .ok (.iconst 1, 1) := by decide +kernel
theorem dL_law_388 : decode cL_law 388 = .ok (.iadd, 1) := by decide +kernel
theorem dL_law_389 : decode cL_law 389 = .ok (.iaload, 1) := by decide +kernel
theorem dL_law_390 : decode cL_law 390 = .ok (.aload_n 0, 1) := by decide +kernel
theorem dL_law_391 : decode cL_law 391 = .ok (.iload_n 3, 1) := by decide +kernel
theorem dL_law_392 : decode cL_law 392 = .ok (.iconst 2, 1) := by decide +kernel
theorem dL_law_393 : decode cL_law 393 = .ok (.iadd, 1) := by decide +kernel
theorem dL_law_394 : decode cL_law 394 = .ok (.iaload, 1) := by decide +kernel
theorem dL_law_395 : decode cL_law 395 = .ok (.invokevirtual 59, 3) := by decide +kernel
theorem dL_law_398 : decode cL_law 398 = .ok (.if_icmp .eq 642, 3) := by decide +kernel
theorem dL_law_401 : decode cL_law 401 = .ok (.iconst 0, 1) := by decide +kernel
theorem dL_law_402 : decode cL_law 402 = .ok (.ireturn, 1) := by decide +kernel
theorem dL_law_403 : decode cL_law 403 = .ok (.aload_n 1, 1) := by decide +kernel
theorem dL_law_404 : decode cL_law 404 = .ok (.aload_n 0, 1) := by decide +kernel
theorem dL_law_405 : decode cL_law 405 = .ok (.iload_n 3, 1) := by decide +kernel
theorem dL_law_406 : decode cL_law 406 = .ok (.iconst 1, 1) := by decide +kernel
theorem dL_law_407 : decode cL_law 407 = .ok (.iadd, 1) := by decide +kernel
theorem dL_law_408 : decode cL_law 408 = .ok (.iaload, 1) := by decide +kernel
theorem dL_law_409 : decode cL_law 409 = .ok (.aload_n 0, 1) := by decide +kernel
theorem dL_law_410 : decode cL_law 410 = .ok (.iload_n 3, 1) := by decide +kernel
theorem dL_law_411 : decode cL_law 411 = .ok (.iconst 2, 1) := by decide +kernel
theorem dL_law_412 : decode cL_law 412 = .ok (.iadd, 1) := by decide +kernel
theorem dL_law_413 : decode cL_law 413 = .ok (.iaload, 1) := by decide +kernel
theorem dL_law_414 : decode cL_law 414 = .ok (.invokevirtual 60, 3) := by decide +kernel
theorem dL_law_417 : decode cL_law 417 = .ok (.aload_n 2, 1) := by decide +kernel
theorem dL_law_418 : decode cL_law 418 = .ok (.aload_n 0, 1) := by decide +kernel
theorem dL_law_419 : decode cL_law 419 = .ok (.iload_n 3, 1) := by decide +kernel
theorem dL_law_420 : decode cL_law 420 = .ok (.iconst 1, 1) := by decide +kernel
theorem dL_law_421 : decode cL_law 421 = .ok (.iadd, 1) := by decide +kernel
theorem dL_law_422 : decode cL_law 422 = .ok (.iaload, 1) := by decide +kernel
theorem dL_law_423 : decode cL_law 423 = .ok (.aload_n 0, 1) := by decide +kernel
theorem dL_law_424 : decode cL_law 424 = .ok (.iload_n 3, 1) := by decide +kernel
theorem dL_law_425 : decode cL_law 425 = .ok (.iconst 2, 1) := by decide +kernel
theorem dL_law_426 : decode cL_law 426 = .ok (.iadd, 1) := by decide +kernel
theorem dL_law_427 : decode cL_law 427 = .ok (.iaload, 1) := by decide +kernel
theorem dL_law_428 : decode cL_law 428 = .ok (.invokevirtual 63, 3) := by decide +kernel
theorem dL_law_431 : decode cL_law 431 = .ok (.if_icmp .eq 609, 3) := by decide +kernel
theorem dL_law_434 : decode cL_law 434 = .ok (.iconst 0, 1) := by decide +kernel
theorem dL_law_435 : decode cL_law 435 = .ok (.ireturn, 1) := by decide +kernel
theorem dL_law_436 : decode cL_law 436 = .ok (.aload_n 1, 1) := by decide +kernel
theorem dL_law_437 : decode cL_law 437 = .ok (.aload_n 0, 1) := by decide +kernel
theorem dL_law_438 : decode cL_law 438 = .ok (.iload_n 3, 1) := by decide +kernel
theorem dL_law_439 : decode cL_law 439 = .ok (.iconst 1, 1) := by decide +kernel
theorem dL_law_440 : decode cL_law 440 = .ok (.iadd, 1) := by decide +kernel
theorem dL_law_441 : decode cL_law 441 = .ok (.iaload, 1) := by decide +kernel
theorem dL_law_442 : decode cL_law 442 = .ok (.aload_n 0, 1) := by decide +kernel
theorem dL_law_443 : decode cL_law 443 = .ok (.iload_n 3, 1) := by decide +kernel
theorem dL_law_444 : decode cL_law 444 = .ok (.iconst 2, 1) := by decide +kernel
theorem dL_law_445 : decode cL_law 445 = .ok (.iadd, 1) := by decide +kernel
theorem dL_law_446 : decode cL_law 446 = .ok (.iaload, 1) := by decide +kernel
theorem dL_law_447 : decode cL_law 447 = .ok (.aload_n 0, 1) := by decide +kernel
theorem dL_law_448 : decode cL_law 448 = .ok (.iload_n 3, 1) := by decide +kernel
theorem dL_law_449 : decode cL_law 449 = .ok (.iconst 3, 1) := by decide +kernel
theorem dL_law_450 : decode cL_law 450 = .ok (.iadd, 1) := by decide +kernel
theorem dL_law_451 : decode cL_law 451 = .ok (.iaload, 1) := by decide +kernel
theorem dL_law_452 : decode cL_law 452 = .ok (.invokevirtual 64, 3) := by decide +kernel
theorem dL_law_455 : decode cL_law 455 = .ok (.aload_n 2, 1) := by decide +kernel
theorem dL_law_456 : decode cL_law 456 = .ok (.aload_n 0, 1) := by decide +kernel
theorem dL_law_457 : decode cL_law 457 = .ok (.iload_n 3, 1) := by decide +kernel
theorem dL_law_458 : decode cL_law 458 = .ok (.iconst 1, 1) := by decide +kernel
theorem dL_law_459 : decode cL_law 459 = .ok (.iadd, 1) := by decide +kernel
theorem dL_law_460 : decode cL_law 460 = .ok (.iaload, 1) := by decide +kernel
theorem dL_law_461 : decode cL_law 461 = .ok (.aload_n 0, 1) := by decide +kernel
theorem dL_law_462 : decode cL_law 462 = .ok (.iload_n 3, 1) := by decide +kernel
theorem dL_law_463 : decode cL_law 463 = .ok (.iconst 2, 1) := by decide +kernel
theorem dL_law_464 : decode cL_law 464 = .ok (.iadd, 1) := by decide +kernel
theorem dL_law_465 : decode cL_law 465 = .ok (.iaload, 1) := by decide +kernel
theorem dL_law_466 : decode cL_law 466 = .ok (.aload_n 0, 1) := by decide +kernel
theorem dL_law_467 : decode cL_law 467 = .ok (.iload_n 3, 1) := by decide +kernel
theorem dL_law_468 : decode cL_law 468 = .ok (.iconst 3, 1) := by decide +kernel
theorem dL_law_469 : decode cL_law 469 = .ok (.iadd, 1) := by decide +kernel
theorem dL_law_470 : decode cL_law 470 = .ok (.iaload, 1) := by decide +kernel
theorem dL_law_471 : decode cL_law 471 = .ok (.invokevirtual 68, 3) := by decide +kernel
theorem dL_law_474 : decode cL_law 474 = .ok (.if_icmp .eq 566, 3) := by decide +kernel
theorem dL_law_477 : decode cL_law 477 = .ok (.iconst 0, 1) := by decide +kernel
theorem dL_law_478 : decode cL_law 478 = .ok (.ireturn, 1) := by decide +kernel
theorem dL_law_479 : decode cL_law 479 = .ok (.aload_n 1, 1) := by decide +kernel
theorem dL_law_480 : decode cL_law 480 = .ok (.aload_n 0, 1) := by decide +kernel
theorem dL_law_481 : decode cL_law 481 = .ok (.iload_n 3, 1) := by decide +kernel
theorem dL_law_482 : decode cL_law 482 = .ok (.iconst 1, 1) := by decide +kernel
theorem dL_law_483 : decode cL_law 483 = .ok (.iadd, 1) := by decide +kernel
theorem dL_law_484 : decode cL_law 484 = .ok (.iaload, 1) := by decide +kernel
theorem dL_law_485 : decode cL_law 485 = .ok (.aload_n 0, 1) := by decide +kernel
theorem dL_law_486 : decode cL_law 486 = .ok (.iload_n 3, 1) := by decide +kernel
theorem dL_law_487 : decode cL_law 487 = .ok (.iconst 2, 1) := by decide +kernel
theorem dL_law_488 : decode cL_law 488 = .ok (.iadd, 1) := by decide +kernel
theorem dL_law_489 : decode cL_law 489 = .ok (.iaload, 1) := by decide +kernel
theorem dL_law_490 : decode cL_law 490 = .ok (.invokevirtual 69, 3) := by decide +kernel
theorem dL_law_493 : decode cL_law 493 = .ok (.aload_n 2, 1) := by decide +kernel
theorem dL_law_494 : decode cL_law 494 = .ok (.aload_n 0, 1) := by decide +kernel
theorem dL_law_495 : decode cL_law 495 = .ok (.iload_n 3, 1) := by decide +kernel
theorem dL_law_496 : decode cL_law 496 = .ok (.iconst 1, 1) := by decide +kernel
theorem dL_law_497 : decode cL_law 497 = .ok (.iadd, 1) := by decide +kernel
theorem dL_law_498 : decode cL_law 498 = .ok (.iaload, 1) := by decide +kernel
theorem dL_law_499 : decode cL_law 499 = .ok (.aload_n 0, 1) := by decide +kernel
theorem dL_law_500 : decode cL_law 500 = .ok (.iload_n 3, 1) := by decide +kernel
theorem dL_law_501 : decode cL_law 501 = .ok (.iconst 2, 1) := by decide +kernel
theorem dL_law_502 : decode cL_law 502 = .ok (.iadd, 1) := by decide +kernel
theorem dL_law_503 : decode cL_law 503 = .ok (.iaload, 1) := by decide +kernel
theorem dL_law_504 : decode cL_law 504 = .ok (.invokevirtual 72, 3) := by decide +kernel
theorem dL_law_507 : decode cL_law 507 = .ok (.if_icmp .eq 533, 3) := by decide +kernel
theorem dL_law_510 : decode cL_law 510 = .ok (.iconst 0, 1) := by decide +kernel
theorem dL_law_511 : decode cL_law 511 = .ok (.ireturn, 1) := by decide +kernel
theorem dL_law_512 : decode cL_law 512 = .ok (.aload_n 1, 1) := by decide +kernel
theorem dL_law_513 : decode cL_law 513 = .ok (.aload_n 0, 1) := by decide +kernel
theorem dL_law_514 : decode cL_law 514 = .ok (.iload_n 3, 1) := by decide +kernel
theorem dL_law_515 : decode cL_law 515 = .ok (.iconst 1, 1) := by decide +kernel
theorem dL_law_516 : decode cL_law 516 = .ok (.iadd, 1) := by decide +kernel
theorem dL_law_517 : decode cL_law 517 = .ok (.iaload, 1) := by decide +kernel
theorem dL_law_518 : decode cL_law 518 = .ok (.aload_n 0, 1) := by decide +kernel
theorem dL_law_519 : decode cL_law 519 = .ok (.iload_n 3, 1) := by decide +kernel
theorem dL_law_520 : decode cL_law 520 = .ok (.iconst 2, 1) := by decide +kernel
theorem dL_law_521 : decode cL_law 521 = .ok (.iadd, 1) := by decide +kernel
theorem dL_law_522 : decode cL_law 522 = .ok (.iaload, 1) := by decide +kernel
theorem dL_law_523 : decode cL_law 523 = .ok (.invokevirtual 73, 3) := by decide +kernel
theorem dL_law_526 : decode cL_law 526 = .ok (.aload_n 2, 1) := by decide +kernel
theorem dL_law_527 : decode cL_law 527 = .ok (.aload_n 0, 1) := by decide +kernel
theorem dL_law_528 : decode cL_law 528 = .ok (.iload_n 3, 1) := by decide +kernel
theorem dL_law_529 : decode cL_law 529 = .ok (.iconst 1, 1) := by decide +kernel
theorem dL_law_530 : decode cL_law 530 = .ok (.iadd, 1) := by decide +kernel
theorem dL_law_531 : decode cL_law 531 = .ok (.iaload, 1) := by decide +kernel
theorem dL_law_532 : decode cL_law 532 = .ok (.aload_n 0, 1) := by decide +kernel
theorem dL_law_533 : decode cL_law 533 = .ok (.iload_n 3, 1) := by decide +kernel
theorem dL_law_534 : decode cL_law 534 = .ok (.iconst 2, 1) := by decide +kernel
theorem dL_law_535 : decode cL_law 535 = .ok (.iadd, 1) := by decide +kernel
theorem dL_law_536 : decode cL_law 536 = .ok (.iaload, 1) := by decide +kernel
theorem dL_law_537 : decode cL_law 537 = .ok (.invokevirtual 76, 3) := by decide +kernel
theorem dL_law_540 : decode cL_law 540 = .ok (.if_icmp .eq 500, 3) := by decide +kernel
theorem dL_law_543 : decode cL_law 543 = .ok (.iconst 0, 1) := by decide +kernel
theorem dL_law_544 : decode cL_law 544 = .ok (.ireturn, 1) := by decide +kernel
theorem dL_law_545 : decode cL_law 545 = .ok (.aload_n 1, 1) := by decide +kernel
theorem dL_law_546 : decode cL_law 546 = .ok (.aload_n 0, 1) := by decide +kernel
theorem dL_law_547 : decode cL_law 547 = .ok (.iload_n 3, 1) := by decide +kernel
theorem dL_law_548 : decode cL_law 548 = .ok (.iconst 1, 1) := by decide +kernel
theorem dL_law_549 : decode cL_law 549 = .ok (.iadd, 1) := by decide +kernel
theorem dL_law_550 : decode cL_law 550 = .ok (.iaload, 1) := by decide +kernel
theorem dL_law_551 : decode cL_law 551 = .ok (.aload_n 0, 1) := by decide +kernel
theorem dL_law_552 : decode cL_law 552 = .ok (.iload_n 3, 1) := by decide +kernel
theorem dL_law_553 : decode cL_law 553 = .ok (.iconst 2, 1) := by decide +kernel
theorem dL_law_554 : decode cL_law 554 = .ok (.iadd, 1) := by decide +kernel
theorem dL_law_555 : decode cL_law 555 = .ok (.iaload, 1) := by decide +kernel
theorem dL_law_556 : decode cL_law 556 = .ok (.invokevirtual 77, 3) := by decide +kernel
theorem dL_law_559 : decode cL_law 559 = .ok (.aload_n 2, 1) := by decide +kernel
theorem dL_law_560 : decode cL_law 560 = .ok (.aload_n 0, 1) := by decide +kernel
theorem dL_law_561 : decode cL_law 561 = .ok (.iload_n 3, 1) := by decide +kernel
theorem dL_law_562 : decode cL_law 562 = .ok (.iconst 1, 1) := by decide +kernel
theorem dL_law_563 : decode cL_law 563 = .ok (.iadd, 1) := by decide +kernel
theorem dL_law_564 : decode cL_law 564 = .ok (.iaload, 1) := by decide +kernel
theorem dL_law_565 : decode cL_law 565 = .ok (.aload_n 0, 1) := by decide +kernel
theorem dL_law_566 : decode cL_law 566 = .ok (.iload_n 3, 1) := by decide +kernel
theorem dL_law_567 : decode cL_law 567 = .ok (.iconst 2, 1) := by decide +kernel
theorem dL_law_568 : decode cL_law 568 = .ok (.iadd, 1) := by decide +kernel
theorem dL_law_569 : decode cL_law 569 = .ok (.iaload, 1) := by decide +kernel
theorem dL_law_570 : decode cL_law 570 = .ok (.invokevirtual 80, 3) := by decide +kernel
theorem dL_law_573 : decode cL_law 573 = .ok (.if_icmp .eq 467, 3) := by decide +kernel
theorem dL_law_576 : decode cL_law 576 = .ok (.iconst 0, 1) := by decide +kernel
theorem dL_law_577 : decode cL_law 577 = .ok (.ireturn, 1) := by decide +kernel
theorem dL_law_578 : decode cL_law 578 = .ok (.aload_n 1, 1) := by decide +kernel
theorem dL_law_579 : decode cL_law 579 = .ok (.aload_n 0, 1) := by decide +kernel
theorem dL_law_580 : decode cL_law 580 = .ok (.iload_n 3, 1) := by decide +kernel
theorem dL_law_581 : decode cL_law 581 = .ok (.iconst 1, 1) := by decide +kernel
theorem dL_law_582 : decode cL_law 582 = .ok (.iadd, 1) := by decide +kernel
theorem dL_law_583 : decode cL_law 583 = .ok (.iaload, 1) := by decide +kernel
theorem dL_law_584 : decode cL_law 584 = .ok (.aload_n 0, 1) := by decide +kernel
theorem dL_law_585 : decode cL_law 585 = .ok (.iload_n 3, 1) := by decide +kernel
theorem dL_law_586 : decode cL_law 586 = .ok (.iconst 2, 1) := by decide +kernel
theorem dL_law_587 : decode cL_law 587 = .ok (.iadd, 1) := by decide +kernel
theorem dL_law_588 : decode cL_law 588 = .ok (.iaload, 1) := by decide +kernel
theorem dL_law_589 : decode cL_law 589 = .ok (.invokevirtual 81, 3) := by decide +kernel
theorem dL_law_592 : decode cL_law 592 = .ok (.aload_n 2, 1) := by decide +kernel
theorem dL_law_593 : decode cL_law 593 = .ok (.aload_n 0, 1) := by decide +kernel
theorem dL_law_594 : decode cL_law 594 = .ok (.iload_n 3, 1) := by decide +kernel
theorem dL_law_595 : decode cL_law 595 = .ok (.iconst 1, 1) := by decide +kernel
theorem dL_law_596 : decode cL_law 596 = .ok (.iadd, 1) := by decide +kernel
theorem dL_law_597 : decode cL_law 597 = .ok (.iaload, 1) := by decide +kernel
theorem dL_law_598 : decode cL_law 598 = .ok (.aload_n 0, 1) := by decide +kernel
theorem dL_law_599 : decode cL_law 599 = .ok (.iload_n 3, 1) := by decide +kernel
theorem dL_law_600 : decode cL_law 600 = .ok (.iconst 2, 1) := by decide +kernel
theorem dL_law_601 : decode cL_law 601 = .ok (.iadd, 1) := by decide +kernel
theorem dL_law_602 : decode cL_law 602 = .ok (.iaload, 1) := by decide +kernel
theorem dL_law_603 : decode cL_law 603 = .ok (.invokevirtual 84, 3) := by decide +kernel
theorem dL_law_606 : decode cL_law 606 = .ok (.if_icmp .eq 434, 3) := by decide +kernel
theorem dL_law_609 : decode cL_law 609 = .ok (.iconst 0, 1) := by decide +kernel
theorem dL_law_610 : decode cL_law 610 = .ok (.ireturn, 1) := by decide +kernel
theorem dL_law_611 : decode cL_law 611 = .ok (.aload_n 1, 1) := by decide +kernel
theorem dL_law_612 : decode cL_law 612 = .ok (.aload_n 0, 1) := by decide +kernel
theorem dL_law_613 : decode cL_law 613 = .ok (.iload_n 3, 1) := by decide +kernel
theorem dL_law_614 : decode cL_law 614 = .ok (.iconst 1, 1) := by decide +kernel
theorem dL_law_615 : decode cL_law 615 = .ok (.iadd, 1) := by decide +kernel
theorem dL_law_616 : decode cL_law 616 = .ok (.iaload, 1) := by decide +kernel
theorem dL_law_617 : decode cL_law 617 = .ok (.invokevirtual 85, 3) := by decide +kernel
theorem dL_law_620 : decode cL_law 620 = .ok (.aload_n 2, 1) := by decide +kernel
theorem dL_law_621 : decode cL_law 621 = .ok (.aload_n 0, 1) := by decide +kernel
theorem dL_law_622 : decode cL_law 622 = .ok (.iload_n 3, 1) := by decide +kernel
theorem dL_law_623 : decode cL_law 623 = .ok (.iconst 1, 1) := by decide +kernel
theorem dL_law_624 : decode cL_law 624 = .ok (.iadd, 1) := by decide +kernel
theorem dL_law_625 : decode cL_law 625 = .ok (.iaload, 1) := by decide +kernel
theorem dL_law_626 : decode cL_law 626 = .ok (.invokevirtual 88, 3) := by decide +kernel
theorem dL_law_629 : decode cL_law 629 = .ok (.if_icmp .eq 411, 3) := by decide +kernel
theorem dL_law_632 : decode cL_law 632 = .ok (.iconst 0, 1) := by decide +kernel
theorem dL_law_633 : decode cL_law 633 = .ok (.ireturn, 1) := by decide +kernel
theorem dL_law_634 : decode cL_law 634 = .ok (.aload_n 1, 1) := by decide +kernel
theorem dL_law_635 : decode cL_law 635 = .ok (.aload_n 0, 1) := by decide +kernel
theorem dL_law_636 : decode cL_law 636 = .ok (.iload_n 3, 1) := by decide +kernel
theorem dL_law_637 : decode cL_law 637 = .ok (.iconst 1, 1) := by decide +kernel
theorem dL_law_638 : decode cL_law 638 = .ok (.iadd, 1) := by decide +kernel
theorem dL_law_639 : decode cL_law 639 = .ok (.iaload, 1) := by decide +kernel
theorem dL_law_640 : decode cL_law 640 = .ok (.invokevirtual 89, 3) := by decide +kernel
theorem dL_law_643 : decode cL_law 643 = .ok (.aload_n 2, 1) := by decide +kernel
theorem dL_law_644 : decode cL_law 644 = .ok (.aload_n 0, 1) := by decide +kernel
theorem dL_law_645 : decode cL_law 645 = .ok (.iload_n 3, 1) := by decide +kernel
theorem dL_law_646 : decode cL_law 646 = .ok (.iconst 1, 1) := by decide +kernel
theorem dL_law_647 : decode cL_law 647 = .ok (.iadd, 1) := by decide +kernel
theorem dL_law_648 : decode cL_law 648 = .ok (.iaload, 1) := by decide +kernel
theorem dL_law_649 : decode cL_law 649 = .ok (.invokevirtual 92, 3) := by decide +kernel
theorem dL_law_652 : decode cL_law 652 = .ok (.if_icmp .eq 388, 3) := by decide +kernel
theorem dL_law_655 : decode cL_law 655 = .ok (.iconst 0, 1) := by decide +kernel
theorem dL_law_656 : decode cL_law 656 = .ok (.ireturn, 1) := by decide +kernel
theorem dL_law_657 : decode cL_law 657 = .ok (.aload_n 1, 1) := by decide +kernel
theorem dL_law_658 : decode cL_law 658 = .ok (.aload_n 0, 1) := by decide +kernel
theorem dL_law_659 : decode cL_law 659 = .ok (.iload_n 3, 1) := by decide +kernel
theorem dL_law_660 : decode cL_law 660 = .ok (.iconst 1, 1) := by decide +kernel
theorem dL_law_661 : decode cL_law 661 = .ok (.iadd, 1) := by decide +kernel
theorem dL_law_662 : decode cL_law 662 = .ok (.iaload, 1) := by decide +kernel
theorem dL_law_663 : decode cL_law 663 = .ok (.aload_n 0, 1) := by decide +kernel
theorem dL_law_664 : decode cL_law 664 = .ok (.iload_n 3, 1) := by decide +kernel
theorem dL_law_665 : decode cL_law 665 = .ok (.iconst 2, 1) := by decide +kernel
theorem dL_law_666 : decode cL_law 666 = .ok (.iadd, 1) := by decide +kernel
theorem dL_law_667 : decode cL_law 667 = .ok (.iaload, 1) := by decide +kernel
theorem dL_law_668 : decode cL_law 668 = .ok (.invokevirtual 93, 3) := by decide +kernel
theorem dL_law_671 : decode cL_law 671 = .ok (.aload_n 2, 1) := by decide +kernel
theorem dL_law_672 : decode cL_law 672 = .ok (.aload_n 0, 1) := by decide +kernel
theorem dL_law_673 : decode cL_law 673 = .ok (.iload_n 3, 1) := by decide +kernel
theorem dL_law_674 : decode cL_law 674 = .ok (.iconst 1, 1) := by decide +kernel
theorem dL_law_675 : decode cL_law 675 = .ok (.iadd, 1) := by decide +kernel
theorem dL_law_676 : decode cL_law 676 = .ok (.iaload, 1) := by decide +kernel
theorem dL_law_677 : decode cL_law 677 = .ok (.aload_n 0, 1) := by decide +kernel
theorem dL_law_678 : decode cL_law 678 = .ok (.iload_n 3, 1) := by decide +kernel
theorem dL_law_679 : decode cL_law 679 = .ok (.iconst 2, 1) := by decide +kernel
theorem dL_law_680 : decode cL_law 680 = .ok (.iadd, 1) := by decide +kernel
theorem dL_law_681 : decode cL_law 681 = .ok (.iaload, 1) := by decide +kernel
theorem dL_law_682 : decode cL_law 682 = .ok (.invokevirtual 96, 3) := by decide +kernel
theorem dL_law_685 : decode cL_law 685 = .ok (.if_icmp .eq 355, 3) := by decide +kernel
theorem dL_law_688 : decode cL_law 688 = .ok (.iconst 0, 1) := by decide +kernel
theorem dL_law_689 : decode cL_law 689 = .ok (.ireturn, 1) := by decide +kernel
theorem dL_law_690 : decode cL_law 690 = .ok (.aload_n 1, 1) := by decide +kernel
theorem dL_law_691 : decode cL_law 691 = .ok (.aload_n 0, 1) := by decide +kernel
theorem dL_law_692 : decode cL_law 692 = .ok (.iload_n 3, 1) := by decide +kernel
theorem dL_law_693 : decode cL_law 693 = .ok (.iconst 1, 1) := by decide +kernel
theorem dL_law_694 : decode cL_law 694 = .ok (.iadd, 1) := by decide +kernel
theorem dL_law_695 : decode cL_law 695 = .ok (.iaload, 1) := by decide +kernel
theorem dL_law_696 : decode cL_law 696 = .ok (.aload_n 0, 1) := by decide +kernel
theorem dL_law_697 : decode cL_law 697 = .ok (.iload_n 3, 1) := by decide +kernel
theorem dL_law_698 : decode cL_law 698 = .ok (.iconst 2, 1) := by decide +kernel
theorem dL_law_699 : decode cL_law 699 = .ok (.iadd, 1) := by decide +kernel
theorem dL_law_700 : decode cL_law 700 = .ok (.iaload, 1) := by decide +kernel
theorem dL_law_701 : decode cL_law 701 = .ok (.invokevirtual 97, 3) := by decide +kernel
theorem dL_law_704 : decode cL_law 704 = .ok (.aload_n 2, 1) := by decide +kernel
theorem dL_law_705 : decode cL_law 705 = .ok (.aload_n 0, 1) := by decide +kernel
theorem dL_law_706 : decode cL_law 706 = .ok (.iload_n 3, 1) := by decide +kernel
theorem dL_law_707 : decode cL_law 707 = .ok (.iconst 1, 1) := by decide +kernel
theorem dL_law_708 : decode cL_law 708 = .ok (.iadd, 1) := by decide +kernel
theorem dL_law_709 : decode cL_law 709 = .ok (.iaload, 1) := by decide +kernel
theorem dL_law_710 : decode cL_law 710 = .ok (.aload_n 0, 1) := by decide +kernel
theorem dL_law_711 : decode cL_law 711 = .ok (.iload_n 3, 1) := by decide +kernel
theorem dL_law_712 : decode cL_law 712 = .ok (.iconst 2, 1) := by decide +kernel
theorem dL_law_713 : decode cL_law 713 = .ok (.iadd, 1) := by decide +kernel
theorem dL_law_714 : decode cL_law 714 = .ok (.iaload, 1) := by decide +kernel
theorem dL_law_715 : decode cL_law 715 = .ok (.invokevirtual 100, 3) := by decide +kernel
theorem dL_law_718 : decode cL_law 718 = .ok (.if_icmp .eq 322, 3) := by decide +kernel
theorem dL_law_721 : decode cL_law 721 = .ok (.iconst 0, 1) := by decide +kernel
theorem dL_law_722 : decode cL_law 722 = .ok (.ireturn, 1) := by decide +kernel
theorem dL_law_723 : decode cL_law 723 = .ok (.aload_n 1, 1) := by decide +kernel
theorem dL_law_724 : decode cL_law 724 = .ok (.aload_n 0, 1) := by decide +kernel
theorem dL_law_725 : decode cL_law 725 = .ok (.iload_n 3, 1) := by decide +kernel
theorem dL_law_726 : decode cL_law 726 = .ok (.iconst 1, 1) := by decide +kernel
theorem dL_law_727 : decode cL_law 727 = .ok (.iadd, 1) := by decide +kernel
theorem dL_law_728 : decode cL_law 728 = .ok (.iaload, 1) := by decide +kernel
theorem dL_law_729 : decode cL_law 729 = .ok (.invokevirtual 101, 3) := by decide +kernel
theorem dL_law_732 : decode cL_law 732 = .ok (.aload_n 2, 1) := by decide +kernel
theorem dL_law_733 : decode cL_law 733 = .ok (.aload_n 0, 1) := by decide +kernel
theorem dL_law_734 : decode cL_law 734 = .ok (.iload_n 3, 1) := by decide +kernel
theorem dL_law_735 : decode cL_law 735 = .ok (.iconst 1, 1) := by decide +kernel
theorem dL_law_736 : decode cL_law 736 = .ok (.iadd, 1) := by decide +kernel
theorem dL_law_737 : decode cL_law 737 = .ok (.iaload, 1) := by decide +kernel
theorem dL_law_738 : decode cL_law 738 = .ok (.invokevirtual 104, 3) := by decide +kernel
theorem dL_law_741 : decode cL_law 741 = .ok (.if_icmp .eq 299, 3) := by decide +kernel
theorem dL_law_744 : decode cL_law 744 = .ok (.iconst 0, 1) := by decide +kernel
theorem dL_law_745 : decode cL_law 745 = .ok (.ireturn, 1) := by decide +kernel
theorem dL_law_746 : decode cL_law 746 = .ok (.aload_n 1, 1) := by decide +kernel
theorem dL_law_747 : decode cL_law 747 = .ok (.aload_n 0, 1) := by decide +kernel
theorem dL_law_748 : decode cL_law 748 = .ok (.iload_n 3, 1) := by decide +kernel
theorem dL_law_749 : decode cL_law 749 = .ok (.iconst 1, 1) := by decide +kernel
theorem dL_law_750 : decode cL_law 750 = .ok (.iadd, 1) := by decide +kernel
theorem dL_law_751 : decode cL_law 751 = .ok (.iaload, 1) := by decide +kernel
theorem dL_law_752 : decode cL_law 752 = .ok (.invokevirtual 105, 3) := by decide +kernel
theorem dL_law_755 : decode cL_law 755 = .ok (.aload_n 2, 1) := by decide +kernel
theorem dL_law_756 : decode cL_law 756 = .ok (.aload_n 0, 1) := by decide +kernel
theorem dL_law_757 : decode cL_law 757 = .ok (.iload_n 3, 1) := by decide +kernel
theorem dL_law_758 : decode cL_law 758 = .ok (.iconst 1, 1) := by decide +kernel
theorem dL_law_759 : decode cL_law 759 = .ok (.iadd, 1) := by decide +kernel
theorem dL_law_760 : decode cL_law 760 = .ok (.iaload, 1) := by decide +kernel
theorem dL_law_761 : decode cL_law 761 = .ok (.invokevirtual 108, 3) := by decide +kernel
theorem dL_law_764 : decode cL_law 764 = .ok (.if_icmp .eq 276, 3) := by decide +kernel
theorem dL_law_767 : decode cL_law 767 = .ok (.iconst 0, 1) := by decide +kernel
theorem dL_law_768 : decode cL_law 768 = .ok (.ireturn, 1) := by decide +kernel
theorem dL_law_769 : decode cL_law 769 = .ok (.aload_n 1, 1) := by decide +kernel
theorem dL_law_770 : decode cL_law 770 = .ok (.aload_n 0, 1) := by decide +kernel
theorem dL_law_771 : decode cL_law 771 = .ok (.iload_n 3, 1) := by decide +kernel
theorem dL_law_772 : decode cL_law 772 = .ok (.iconst 1, 1) := by decide +kernel
theorem dL_law_773 : decode cL_law 773 = .ok (.iadd, 1) := by decide +kernel
theorem dL_law_774 : decode cL_law 774 = .ok (.iaload, 1) := by decide +kernel
theorem dL_law_775 : decode cL_law 775 = .ok (.aload_n 0, 1) := by decide +kernel
theorem dL_law_776 : decode cL_law 776 = .ok (.iload_n 3, 1) := by decide +kernel
theorem dL_law_777 : decode cL_law 777 = .ok (.iconst 2, 1) := by decide +kernel
theorem dL_law_778 : decode cL_law 778 = .ok (.iadd, 1) := by decide +kernel
theorem dL_law_779 : decode cL_law 779 = .ok (.iaload, 1) := by decide +kernel
theorem dL_law_780 : decode cL_law 780 = .ok (.invokevirtual 109, 3) := by decide +kernel
theorem dL_law_783 : decode cL_law 783 = .ok (.aload_n 2, 1) := by decide +kernel
theorem dL_law_784 : decode cL_law 784 = .ok (.aload_n 0, 1) := by decide +kernel
theorem dL_law_785 : decode cL_law 785 = .ok (.iload_n 3, 1) := by decide +kernel
theorem dL_law_786 : decode cL_law 786 = .ok (.iconst 1, 1) := by decide +kernel
theorem dL_law_787 : decode cL_law 787 = .ok (.iadd, 1) := by decide +kernel
theorem dL_law_788 : decode cL_law 788 = .ok (.iaload, 1) := by decide +kernel
theorem dL_law_789 : decode cL_law 789 = .ok (.aload_n 0, 1) := by decide +kernel
theorem dL_law_790 : decode cL_law 790 = .ok (.iload_n 3, 1) := by decide +kernel
theorem dL_law_791 : decode cL_law 791 = .ok (.iconst 2, 1) := by decide +kernel
theorem dL_law_792 : decode cL_law 792 = .ok (.iadd, 1) := by decide +kernel
theorem dL_law_793 : decode cL_law 793 = .ok (.iaload, 1) := by decide +kernel
theorem dL_law_794 : decode cL_law 794 = .ok (.invokevirtual 112, 3) := by decide +kernel
theorem dL_law_797 : decode cL_law 797 = .ok (.if_icmp .eq 243, 3) := by decide +kernel
theorem dL_law_800 : decode cL_law 800 = .ok (.iconst 0, 1) := by decide +kernel
theorem dL_law_801 : decode cL_law 801 = .ok (.ireturn, 1) := by decide +kernel
theorem dL_law_802 : decode cL_law 802 = .ok (.aload_n 1, 1) := by decide +kernel
theorem dL_law_803 : decode cL_law 803 = .ok (.aload_n 0, 1) := by decide +kernel
theorem dL_law_804 : decode cL_law 804 = .ok (.iload_n 3, 1) := by decide +kernel
theorem dL_law_805 : decode cL_law 805 = .ok (.iconst 1, 1) := by decide +kernel
theorem dL_law_806 : decode cL_law 806 = .ok (.iadd, 1) := by decide +kernel
theorem dL_law_807 : decode cL_law 807 = .ok (.iaload, 1) := by decide +kernel
theorem dL_law_808 : decode cL_law 808 = .ok (.aload_n 0, 1) := by decide +kernel
theorem dL_law_809 : decode cL_law 809 = .ok (.iload_n 3, 1) := by decide +kernel
theorem dL_law_810 : decode cL_law 810 = .ok (.iconst 2, 1) := by decide +kernel
theorem dL_law_811 : decode cL_law 811 = .ok (.iadd, 1) := by decide +kernel
theorem dL_law_812 : decode cL_law 812 = .ok (.iaload, 1) := by decide +kernel
theorem dL_law_813 : decode cL_law 813 = .ok (.invokevirtual 113, 3) := by decide +kernel
theorem dL_law_816 : decode cL_law 816 = .ok (.aload_n 2, 1) := by decide +kernel
theorem dL_law_817 : decode cL_law 817 = .ok (.aload_n 0, 1) := by decide +kernel
theorem dL_law_818 : decode cL_law 818 = .ok (.iload_n 3, 1) := by decide +kernel
theorem dL_law_819 : decode cL_law 819 = .ok (.iconst 1, 1) := by decide +kernel
theorem dL_law_820 : decode cL_law 820 = .ok (.iadd, 1) := by decide +kernel
theorem dL_law_821 : decode cL_law 821 = .ok (.iaload, 1) := by decide +kernel
theorem dL_law_822 : decode cL_law 822 = .ok (.aload_n 0, 1) := by decide +kernel
theorem dL_law_823 : decode cL_law 823 = .ok (.iload_n 3, 1) := by decide +kernel
theorem dL_law_824 : decode cL_law 824 = .ok (.iconst 2, 1) := by decide +kernel
theorem dL_law_825 : decode cL_law 825 = .ok (.iadd, 1) := by decide +kernel
theorem dL_law_826 : decode cL_law 826 = .ok (.iaload, 1) := by decide +kernel
theorem dL_law_827 : decode cL_law 827 = .ok (.invokevirtual 116, 3) := by decide +kernel
theorem dL_law_830 : decode cL_law 830 = .ok (.if_icmp .eq 210, 3) := by decide +kernel
theorem dL_law_833 : decode cL_law 833 = .ok (.iconst 0, 1) := by decide +kernel
theorem dL_law_834 : decode cL_law 834 = .ok (.ireturn, 1) := by decide +kernel
theorem dL_law_835 : decode cL_law 835 = .ok (.aload_n 1, 1) := by decide +kernel
theorem dL_law_836 : decode cL_law 836 = .ok (.aload_n 0, 1) := by decide +kernel
theorem dL_law_837 : decode cL_law 837 = .ok (.iload_n 3, 1) := by decide +kernel
theorem dL_law_838 : decode cL_law 838 = .ok (.iconst 1, 1) := by decide +kernel
theorem dL_law_839 : decode cL_law 839 = .ok (.iadd, 1) := by decide +kernel
theorem dL_law_840 : decode cL_law 840 = .ok (.iaload, 1) := by decide +kernel
theorem dL_law_841 : decode cL_law 841 = .ok (.invokevirtual 117, 3) := by decide +kernel
theorem dL_law_844 : decode cL_law 844 = .ok (.aload_n 2, 1) := by decide +kernel
theorem dL_law_845 : decode cL_law 845 = .ok (.aload_n 0, 1) := by decide +kernel
theorem dL_law_846 : decode cL_law 846 = .ok (.iload_n 3, 1) := by decide +kernel
theorem dL_law_847 : decode cL_law 847 = .ok (.iconst 1, 1) := by decide +kernel
theorem dL_law_848 : decode cL_law 848 = .ok (.iadd, 1) := by decide +kernel
theorem dL_law_849 : decode cL_law 849 = .ok (.iaload, 1) := by decide +kernel
theorem dL_law_850 : decode cL_law 850 = .ok (.invokevirtual 120, 3) := by decide +kernel
theorem dL_law_853 : decode cL_law 853 = .ok (.if_icmp .eq 187, 3) := by decide +kernel
theorem dL_law_856 : decode cL_law 856 = .ok (.iconst 0, 1) := by decide +kernel
theorem dL_law_857 : decode cL_law 857 = .ok (.ireturn, 1) := by decide +kernel
theorem dL_law_858 : decode cL_law 858 = .ok (.aload_n 1, 1) := by decide +kernel
theorem dL_law_859 : decode cL_law 859 = .ok (.aload_n 0, 1) := by decide +kernel
theorem dL_law_860 : decode cL_law 860 = .ok (.iload_n 3, 1) := by decide +kernel
theorem dL_law_861 : decode cL_law 861 = .ok (.iconst 1, 1) := by decide +kernel
theorem dL_law_862 : decode cL_law 862 = .ok (.iadd, 1) := by decide +kernel
theorem dL_law_863 : decode cL_law 863 = .ok (.iaload, 1) := by decide +kernel
theorem dL_law_864 : decode cL_law 864 = .ok (.invokevirtual 121, 3) := by decide +kernel
theorem dL_law_867 : decode cL_law 867 = .ok (.aload_n 2, 1) := by decide +kernel
theorem dL_law_868 : decode cL_law 868 = .ok (.aload_n 0, 1) := by decide +kernel
theorem dL_law_869 : decode cL_law 869 = .ok (.iload_n 3, 1) := by decide +kernel
theorem dL_law_870 : decode cL_law 870 = .ok (.iconst 1, 1) := by decide +kernel
theorem dL_law_871 : decode cL_law 871 = .ok (.iadd, 1) := by decide +kernel
theorem dL_law_872 : decode cL_law 872 = .ok (.iaload, 1) := by decide +kernel
theorem dL_law_873 : decode cL_law 873 = .ok (.invokevirtual 124, 3) := by decide +kernel
theorem dL_law_876 : decode cL_law 876 = .ok (.if_icmp .eq 164, 3) := by decide +kernel
theorem dL_law_879 : decode cL_law 879 = .ok (.iconst 0, 1) := by decide +kernel
theorem dL_law_880 : decode cL_law 880 = .ok (.ireturn, 1) := by decide +kernel
theorem dL_law_881 : decode cL_law 881 = .ok (.aload_n 1, 1) := by decide +kernel
theorem dL_law_882 : decode cL_law 882 = .ok (.invokevirtual 125, 3) := by decide +kernel
theorem dL_law_885 : decode cL_law 885 = .ok (.aload_n 2, 1) := by decide +kernel
theorem dL_law_886 : decode cL_law 886 = .ok (.invokevirtual 128, 3) := by decide +kernel
theorem dL_law_889 : decode cL_law 889 = .ok (.if_icmp .eq 151, 3) := by decide +kernel
theorem dL_law_892 : decode cL_law 892 = .ok (.iconst 0, 1) := by decide +kernel
theorem dL_law_893 : decode cL_law 893 = .ok (.ireturn, 1) := by decide +kernel
theorem dL_law_894 : decode cL_law 894 = .ok (.aload_n 1, 1) := by decide +kernel
theorem dL_law_895 : decode cL_law 895 = .ok (.aload_n 0, 1) := by decide +kernel
theorem dL_law_896 : decode cL_law 896 = .ok (.iload_n 3, 1) := by decide +kernel
theorem dL_law_897 : decode cL_law 897 = .ok (.iconst 1, 1) := by decide +kernel
theorem dL_law_898 : decode cL_law 898 = .ok (.iadd, 1) := by decide +kernel
theorem dL_law_899 : decode cL_law 899 = .ok (.iaload, 1) := by decide +kernel
theorem dL_law_900 : decode cL_law 900 = .ok (.aload_n 0, 1) := by decide +kernel
theorem dL_law_901 : decode cL_law 901 = .ok (.iload_n 3, 1) := by decide +kernel
theorem dL_law_902 : decode cL_law 902 = .ok (.iconst 2, 1) := by decide +kernel
theorem dL_law_903 : decode cL_law 903 = .ok (.iadd, 1) := by decide +kernel
theorem dL_law_904 : decode cL_law 904 = .ok (.iaload, 1) := by decide +kernel
theorem dL_law_905 : decode cL_law 905 = .ok (.invokevirtual 129, 3) := by decide +kernel
theorem dL_law_908 : decode cL_law 908 = .ok (.aload_n 2, 1) := by decide +kernel
theorem dL_law_909 : decode cL_law 909 = .ok (.aload_n 0, 1) := by decide +kernel
theorem dL_law_910 : decode cL_law 910 = .ok (.iload_n 3, 1) := by decide +kernel
theorem dL_law_911 : decode cL_law 911 = .ok (.iconst 1, 1) := by decide +kernel
theorem dL_law_912 : decode cL_law 912 = .ok (.iadd, 1) := by decide +kernel
theorem dL_law_913 : decode cL_law 913 = .ok (.iaload, 1) := by decide +kernel
theorem dL_law_914 : decode cL_law 914 = .ok (.aload_n 0, 1) := by decide +kernel
theorem dL_law_915 : decode cL_law 915 = .ok (.iload_n 3, 1) := by decide +kernel
theorem dL_law_916 : decode cL_law 916 = .ok (.iconst 2, 1) := by decide +kernel
theorem dL_law_917 : decode cL_law 917 = .ok (.iadd, 1) := by decide +kernel
theorem dL_law_918 : decode cL_law 918 = .ok (.iaload, 1) := by decide +kernel
theorem dL_law_919 : decode cL_law 919 = .ok (.invokevirtual 133, 3) := by decide +kernel
theorem dL_law_922 : decode cL_law 922 = .ok (.lcmp, 1) := by decide +kernel
theorem dL_law_923 : decode cL_law 923 = .ok (.ifCond .eq 117, 3) := by decide +kernel
theorem dL_law_926 : decode cL_law 926 = .ok (.iconst 0, 1) := by decide +kernel
theorem dL_law_927 : decode cL_law 927 = .ok (.ireturn, 1) := by decide +kernel
theorem dL_law_928 : decode cL_law 928 = .ok (.aload_n 1, 1) := by decide +kernel
theorem dL_law_929 : decode cL_law 929 = .ok (.aload_n 0, 1) := by decide +kernel
theorem dL_law_930 : decode cL_law 930 = .ok (.iload_n 3, 1) := by decide +kernel
theorem dL_law_931 : decode cL_law 931 = .ok (.iconst 1, 1) := by decide +kernel
theorem dL_law_932 : decode cL_law 932 = .ok (.iadd, 1) := by decide +kernel
theorem dL_law_933 : decode cL_law 933 = .ok (.iaload, 1) := by decide +kernel
theorem dL_law_934 : decode cL_law 934 = .ok (.aload_n 0, 1) := by decide +kernel
theorem dL_law_935 : decode cL_law 935 = .ok (.iload_n 3, 1) := by decide +kernel
theorem dL_law_936 : decode cL_law 936 = .ok (.iconst 2, 1) := by decide +kernel
theorem dL_law_937 : decode cL_law 937 = .ok (.iadd, 1) := by decide +kernel
theorem dL_law_938 : decode cL_law 938 = .ok (.iaload, 1) := by decide +kernel
theorem dL_law_939 : decode cL_law 939 = .ok (.aload_n 0, 1) := by decide +kernel
theorem dL_law_940 : decode cL_law 940 = .ok (.iload_n 3, 1) := by decide +kernel
theorem dL_law_941 : decode cL_law 941 = .ok (.iconst 3, 1) := by decide +kernel
theorem dL_law_942 : decode cL_law 942 = .ok (.iadd, 1) := by decide +kernel
theorem dL_law_943 : decode cL_law 943 = .ok (.iaload, 1) := by decide +kernel
theorem dL_law_944 : decode cL_law 944 = .ok (.invokevirtual 134, 3) := by decide +kernel
theorem dL_law_947 : decode cL_law 947 = .ok (.aload_n 2, 1) := by decide +kernel
theorem dL_law_948 : decode cL_law 948 = .ok (.aload_n 0, 1) := by decide +kernel
theorem dL_law_949 : decode cL_law 949 = .ok (.iload_n 3, 1) := by decide +kernel
theorem dL_law_950 : decode cL_law 950 = .ok (.iconst 1, 1) := by decide +kernel
theorem dL_law_951 : decode cL_law 951 = .ok (.iadd, 1) := by decide +kernel
theorem dL_law_952 : decode cL_law 952 = .ok (.iaload, 1) := by decide +kernel
theorem dL_law_953 : decode cL_law 953 = .ok (.aload_n 0, 1) := by decide +kernel
theorem dL_law_954 : decode cL_law 954 = .ok (.iload_n 3, 1) := by decide +kernel
theorem dL_law_955 : decode cL_law 955 = .ok (.iconst 2, 1) := by decide +kernel
theorem dL_law_956 : decode cL_law 956 = .ok (.iadd, 1) := by decide +kernel
theorem dL_law_957 : decode cL_law 957 = .ok (.iaload, 1) := by decide +kernel
theorem dL_law_958 : decode cL_law 958 = .ok (.aload_n 0, 1) := by decide +kernel
theorem dL_law_959 : decode cL_law 959 = .ok (.iload_n 3, 1) := by decide +kernel
theorem dL_law_960 : decode cL_law 960 = .ok (.iconst 3, 1) := by decide +kernel
theorem dL_law_961 : decode cL_law 961 = .ok (.iadd, 1) := by decide +kernel
theorem dL_law_962 : decode cL_law 962 = .ok (.iaload, 1) := by decide +kernel
theorem dL_law_963 : decode cL_law 963 = .ok (.invokevirtual 137, 3) := by decide +kernel
theorem dL_law_966 : decode cL_law 966 = .ok (.if_icmp .eq 74, 3) := by decide +kernel
theorem dL_law_969 : decode cL_law 969 = .ok (.iconst 0, 1) := by decide +kernel
theorem dL_law_970 : decode cL_law 970 = .ok (.ireturn, 1) := by decide +kernel
theorem dL_law_971 : decode cL_law 971 = .ok (.aload_n 1, 1) := by decide +kernel
theorem dL_law_972 : decode cL_law 972 = .ok (.aload_n 0, 1) := by decide +kernel
theorem dL_law_973 : decode cL_law 973 = .ok (.iload_n 3, 1) := by decide +kernel
theorem dL_law_974 : decode cL_law 974 = .ok (.iconst 1, 1) := by decide +kernel
theorem dL_law_975 : decode cL_law 975 = .ok (.iadd, 1) := by decide +kernel
theorem dL_law_976 : decode cL_law 976 = .ok (.iaload, 1) := by decide +kernel
theorem dL_law_977 : decode cL_law 977 = .ok (.invokevirtual 138, 3) := by decide +kernel
theorem dL_law_980 : decode cL_law 980 = .ok (.aload_n 2, 1) := by decide +kernel
theorem dL_law_981 : decode cL_law 981 = .ok (.aload_n 0, 1) := by decide +kernel
theorem dL_law_982 : decode cL_law 982 = .ok (.iload_n 3, 1) := by decide +kernel
theorem dL_law_983 : decode cL_law 983 = .ok (.iconst 1, 1) := by decide +kernel
theorem dL_law_984 : decode cL_law 984 = .ok (.iadd, 1) := by decide +kernel
theorem dL_law_985 : decode cL_law 985 = .ok (.iaload, 1) := by decide +kernel
theorem dL_law_986 : decode cL_law 986 = .ok (.invokevirtual 141, 3) := by decide +kernel
theorem dL_law_989 : decode cL_law 989 = .ok (.if_icmp .eq 51, 3) := by decide +kernel
theorem dL_law_992 : decode cL_law 992 = .ok (.iconst 0, 1) := by decide +kernel
theorem dL_law_993 : decode cL_law 993 = .ok (.ireturn, 1) := by decide +kernel
theorem dL_law_994 : decode cL_law 994 = .ok (.aload_n 1, 1) := by decide +kernel
theorem dL_law_995 : decode cL_law 995 = .ok (.aload_n 0, 1) := by decide +kernel
theorem dL_law_996 : decode cL_law 996 = .ok (.iload_n 3, 1) := by decide +kernel
theorem dL_law_997 : decode cL_law 997 = .ok (.iconst 1, 1) := by decide +kernel
theorem dL_law_998 : decode cL_law 998 = .ok (.iadd, 1) := by decide +kernel
theorem dL_law_999 : decode cL_law 999 = .ok (.iaload, 1) := by decide +kernel
theorem dL_law_1000 : decode cL_law 1000 = .ok (.invokevirtual 142, 3) := by decide +kernel
theorem dL_law_1003 : decode cL_law 1003 = .ok (.aload_n 2, 1) := by decide +kernel
theorem dL_law_1004 : decode cL_law 1004 = .ok (.aload_n 0, 1) := by decide +kernel
theorem dL_law_1005 : decode cL_law 1005 = .ok (.iload_n 3, 1) := by decide +kernel
theorem dL_law_1006 : decode cL_law 1006 = .ok (.iconst 1, 1) := by decide +kernel
theorem dL_law_1007 : decode cL_law 1007 = .ok (.iadd, 1) := by decide +kernel
theorem dL_law_1008 : decode cL_law 1008 = .ok (.iaload, 1) := by decide +kernel
theorem dL_law_1009 : decode cL_law 1009 = .ok (.invokevirtual 145, 3) := by decide +kernel
theorem dL_law_1012 : decode cL_law 1012 = .ok (.if_icmp .eq 28, 3) := by decide +kernel
theorem dL_law_1015 : decode cL_law 1015 = .ok (.iconst 0, 1) := by decide +kernel
theorem dL_law_1016 : decode cL_law 1016 = .ok (.ireturn, 1) := by decide +kernel
theorem dL_law_1017 : decode cL_law 1017 = .ok (.aload_n 1, 1) := by decide +kernel
theorem dL_law_1018 : decode cL_law 1018 = .ok (.aload_n 0, 1) := by decide +kernel
theorem dL_law_1019 : decode cL_law 1019 = .ok (.iload_n 3, 1) := by decide +kernel
theorem dL_law_1020 : decode cL_law 1020 = .ok (.iconst 1, 1) := by decide +kernel
theorem dL_law_1021 : decode cL_law 1021 = .ok (.iadd, 1) := by decide +kernel
theorem dL_law_1022 : decode cL_law 1022 = .ok (.iaload, 1) := by decide +kernel
theorem dL_law_1023 : decode cL_law 1023 = .ok (.invokevirtual 146, 3) := by decide +kernel
theorem dL_law_1026 : decode cL_law 1026 = .ok (.aload_n 2, 1) := by decide +kernel
theorem dL_law_1027 : decode cL_law 1027 = .ok (.aload_n 0, 1) := by decide +kernel
theorem dL_law_1028 : decode cL_law 1028 = .ok (.iload_n 3, 1) := by decide +kernel
theorem dL_law_1029 : decode cL_law 1029 = .ok (.iconst 1, 1) := by decide +kernel
theorem dL_law_1030 : decode cL_law 1030 = .ok (.iadd, 1) := by decide +kernel
theorem dL_law_1031 : decode cL_law 1031 = .ok (.iaload, 1) := by decide +kernel
theorem dL_law_1032 : decode cL_law 1032 = .ok (.invokevirtual 149, 3) := by decide +kernel
theorem dL_law_1035 : decode cL_law 1035 = .ok (.if_icmp .eq 5, 3) := by decide +kernel
theorem dL_law_1038 : decode cL_law 1038 = .ok (.iconst 0, 1) := by decide +kernel
theorem dL_law_1039 : decode cL_law 1039 = .ok (.ireturn, 1) := by decide +kernel
theorem dL_law_1040 : decode cL_law 1040 = .ok (.iinc 3 4, 3) := by decide +kernel
theorem dL_law_1043 : decode cL_law 1043 = .ok (.goto (-1025), 3) := by decide +kernel
theorem dL_law_1046 : decode cL_law 1046 = .ok (.iconst 1, 1) := by decide +kernel
theorem dL_law_1047 : decode cL_law 1047 = .ok (.ireturn, 1) := by decide +kernel
