theorem dX8_book_30 : decode cX8_book 30 = .ok (.getfield 23, 3) := by decide +kernel
theorem dX8_book_33 : decode cX8_book 33 = .ok (.invokevirtual 83, 3) := by decide +kernel
theorem dX8_book_36 : decode cX8_book 36 = .ok (.aload_n 0, 1) := by decide +kernel
theorem dX8_book_37 : decode cX8_book 37 = .ok (.getfield 29, 3) := by decide +kernel
theorem dX8_book_40 : decode cX8_book 40 = .ok (.invokevirtual 87, 3) := by decide +kernel
theorem dX8_book_43 : decode cX8_book 43 = .ok (.aload_n 0, 1) := by decide +kernel
theorem dX8_book_44 : decode cX8_book 44 = .ok (.getfield 19, 3) := by decide +kernel
theorem dX8_book_47 : decode cX8_book 47 = .ok (.getfield 90, 3) := by decide +kernel
theorem dX8_book_50 : decode cX8_book 50 = .ok (.ireturn, 1) := by decide +kernel
theorem dX8_fault_0 : decode cX8_fault 0 = .ok (.aload_n 0, 1) := by decide +kernel
theorem dX8_fault_1 : decode cX8_fault 1 = .ok (.getfield 10, 3) := by decide +kernel
theorem dX8_fault_4 : decode cX8_fault 4 = .ok (.getfield 93, 3) := by decide +kernel
theorem dX8_fault_7 : decode cX8_fault 7 = .ok (.ireturn, 1) := by decide +kernel
theorem dX8_undo_0 : decode cX8_undo 0 = .ok (.aload_n 0, 1) := by decide +kernel
theorem dX8_undo_1 : decode cX8_undo 1 = .ok (.getfield 29, 3) := by decide +kernel
theorem dX8_undo_4 : decode cX8_undo 4 = .ok (.aload_n 0, 1) := by decide +kernel
theorem dX8_undo_5 : decode cX8_undo 5 = .ok (.getfield 19, 3) := by decide +kernel
theorem dX8_undo_8 : decode cX8_undo 8 = .ok (.invokevirtual 96, 3) := by decide +kernel
theorem dX8_undo_11 : decode cX8_undo 11 = .ok (.ifCond .eq 13, 3) := by decide +kernel
theorem dX8_undo_14 : decode cX8_undo 14 = .ok (.aload_n 0, 1) := by decide +kernel
theorem dX8_undo_15 : decode cX8_undo 15 = .ok (.getfield 29, 3) := by decide +kernel
theorem dX8_undo_18 : decode cX8_undo 18 = .ok (.getfield 99, 3) := by decide +kernel
theorem dX8_undo_21 : decode cX8_undo 21 = .ok (.goto 5, 3) := by decide +kernel
theorem dX8_undo_24 : decode cX8_undo 24 = .ok (.ldc 102, 2) := by decide +kernel
theorem dX8_undo_26 : decode cX8_undo 26 = .ok (.ireturn, 1) := by decide +kernel
theorem dX8_load_0 : decode cX8_load 0 = .ok (.aload_n 0, 1) := by decide +kernel
theorem dX8_load_1 : decode cX8_load 1 = .ok (.getfield 19, 3) := by decide +kernel
theorem dX8_load_4 : decode cX8_load 4 = .ok (.iload_n 1, 1) := by decide +kernel
theorem dX8_load_5 : decode cX8_load 5 = .ok (.invokevirtual 103, 3) := by decide +kernel
theorem dX8_load_8 : decode cX8_load 8 = .ok (.ifCond .ne 6, 3) := by decide +kernel
theorem dX8_load_11 : decode cX8_load 11 = .ok (.ldc 65, 2) := by decide +kernel
theorem dX8_load_13 : decode cX8_load 13 = .ok (.ireturn, 1) := by decide +kernel
theorem dX8_load_14 : decode cX8_load 14 = .ok (.aload_n 0, 1) := by decide +kernel
theorem dX8_load_15 : decode cX8_load 15 = .ok (.getfield 19, 3) := by decide +kernel
theorem dX8_load_18 : decode cX8_load 18 = .ok (.getfield 106, 3) := by decide +kernel
theorem dX8_load_21 : decode cX8_load 21 = .ok (.ldc 109, 2) := by decide +kernel
theorem dX8_load_23 : decode cX8_load 23 = .ok (.if_icmp .ne 35, 3) := by decide +kernel
theorem dX8_load_26 : decode cX8_load 26 = .ok (.aload_n 0, 1) := by decide +kernel
theorem dX8_load_27 : decode cX8_load 27 = .ok (.getfield 19, 3) := by decide +kernel
theorem dX8_load_30 : decode cX8_load 30 = .ok (.getfield 110, 3) := by decide +kernel
theorem dX8_load_33 : decode cX8_load 33 = .ok (.iload_n 1, 1) := by decide +kernel
theorem dX8_load_34 : decode cX8_load 34 = .ok (.iaload, 1) := by decide +kernel
theorem dX8_load_35 : decode cX8_load 35 = .ok (.ifCond .ne 23, 3) := by decide +kernel
theorem dX8_load_38 : decode cX8_load 38 = .ok (.aload_n 0, 1) := by decide +kernel
theorem dX8_load_39 : decode cX8_load 39 = .ok (.getfield 19, 3) := by decide +kernel
theorem dX8_load_42 : decode cX8_load 42 = .ok (.getfield 114, 3) := by decide +kernel
theorem dX8_load_45 : decode cX8_load 45 = .ok (.iload_n 1, 1) := by decide +kernel
theorem dX8_load_46 : decode cX8_load 46 = .ok (.iaload, 1) := by decide +kernel
theorem dX8_load_47 : decode cX8_load 47 = .ok (.aload_n 0, 1) := by decide +kernel
theorem dX8_load_48 : decode cX8_load 48 = .ok (.getfield 19, 3) := by decide +kernel
theorem dX8_load_51 : decode cX8_load 51 = .ok (.iload_n 1, 1) := by decide +kernel
theorem dX8_load_52 : decode cX8_load 52 = .ok (.invokevirtual 117, 3) := by decide +kernel
theorem dX8_load_55 : decode cX8_load 55 = .ok (.if_icmp .ge 6, 3) := by decide +kernel
theorem dX8_load_58 : decode cX8_load 58 = .ok (.ldc 102, 2) := by decide +kernel
theorem dX8_load_60 : decode cX8_load 60 = .ok (.ireturn, 1) := by decide +kernel
theorem dX8_load_61 : decode cX8_load 61 = .ok (.aload_n 0, 1) := by decide +kernel
theorem dX8_load_62 : decode cX8_load 62 = .ok (.getfield 29, 3) := by decide +kernel
theorem dX8_load_65 : decode cX8_load 65 = .ok (.aload_n 0, 1) := by decide +kernel
theorem dX8_load_66 : decode cX8_load 66 = .ok (.getfield 19, 3) := by decide +kernel
theorem dX8_load_69 : decode cX8_load 69 = .ok (.invokevirtual 121, 3) := by decide +kernel
theorem dX8_load_72 : decode cX8_load 72 = .ok (.aload_n 0, 1) := by decide +kernel
theorem dX8_load_73 : decode cX8_load 73 = .ok (.getfield 19, 3) := by decide +kernel
theorem dX8_load_76 : decode cX8_load 76 = .ok (.iload_n 1, 1) := by decide +kernel
theorem dX8_load_77 : decode cX8_load 77 = .ok (.invokevirtual 124, 3) := by decide +kernel
theorem dX8_load_80 : decode cX8_load 80 = .ok (.aload_n 0, 1) := by decide +kernel
theorem dX8_load_81 : decode cX8_load 81 = .ok (.getfield 19, 3) := by decide +kernel
theorem dX8_load_84 : decode cX8_load 84 = .ok (.getfield 114, 3) := by decide +kernel
theorem dX8_load_87 : decode cX8_load 87 = .ok (.iload_n 1, 1) := by decide +kernel
theorem dX8_load_88 : decode cX8_load 88 = .ok (.iaload, 1) := by decide +kernel
theorem dX8_load_89 : decode cX8_load 89 = .ok (.ireturn, 1) := by decide +kernel
theorem dX8_shoot_0 : decode cX8_shoot 0 = .ok (.aload_n 0, 1) := by decide +kernel
theorem dX8_shoot_1 : decode cX8_shoot 1 = .ok (.getfield 19, 3) := by decide +kernel
theorem dX8_shoot_4 : decode cX8_shoot 4 = .ok (.iload_n 1, 1) := by decide +kernel
theorem dX8_shoot_5 : decode cX8_shoot 5 = .ok (.invokevirtual 128, 3) := by decide +kernel
theorem dX8_shoot_8 : decode cX8_shoot 8 = .ok (.ifCond .ne 6, 3) := by decide +kernel
theorem dX8_shoot_11 : decode cX8_shoot 11 = .ok (.ldc 65, 2) := by decide +kernel
theorem dX8_shoot_13 : decode cX8_shoot 13 = .ok (.ireturn, 1) := by decide +kernel
theorem dX8_shoot_14 : decode cX8_shoot 14 = .ok (.aload_n 0, 1) := by decide +kernel
theorem dX8_shoot_15 : decode cX8_shoot 15 = .ok (.getfield 19, 3) := by decide +kernel
theorem dX8_shoot_18 : decode cX8_shoot 18 = .ok (.getfield 106, 3) := by decide +kernel
theorem dX8_shoot_21 : decode cX8_shoot 21 = .ok (.istore_n 2, 1) := by decide +kernel
theorem dX8_shoot_22 : decode cX8_shoot 22 = .ok (.aload_n 0, 1) := by decide +kernel
theorem dX8_shoot_23 : decode cX8_shoot 23 = .ok (.getfield 19, 3) := by decide +kernel
theorem dX8_shoot_26 : decode cX8_shoot 26 = .ok (.iload_n 2, 1) := by decide +kernel
theorem dX8_shoot_27 : decode cX8_shoot 27 = .ok (.invokevirtual 103, 3) := by decide +kernel
theorem dX8_shoot_30 : decode cX8_shoot 30 = .ok (.ifCond .eq 26, 3) := by decide +kernel
theorem dX8_shoot_33 : decode cX8_shoot 33 = .ok (.aload_n 0, 1) := by decide +kernel
theorem dX8_shoot_34 : decode cX8_shoot 34 = .ok (.getfield 19, 3) := by decide +kernel
theorem dX8_shoot_37 : decode cX8_shoot 37 = .ok (.iload_n 1, 1) := by decide +kernel
theorem dX8_shoot_38 : decode cX8_shoot 38 = .ok (.invokevirtual 131, 3) := by decide +kernel
theorem dX8_shoot_41 : decode cX8_shoot 41 = .ok (.ifCond .eq 15, 3) := by decide +kernel
theorem dX8_shoot_44 : decode cX8_shoot 44 = .ok (.aload_n 0, 1) := by decide +kernel
theorem dX8_shoot_45 : decode cX8_shoot 45 = .ok (.getfield 19, 3) := by decide +kernel
theorem dX8_shoot_48 : decode cX8_shoot 48 = .ok (.iload_n 2, 1) := by decide +kernel
theorem dX8_shoot_49 : decode cX8_shoot 49 = .ok (.iload_n 1, 1) := by decide +kernel
theorem dX8_shoot_50 : decode cX8_shoot 50 = .ok (.invokevirtual 134, 3) := by decide +kernel
theorem dX8_shoot_53 : decode cX8_shoot 53 = .ok (.ifCond .ne 6, 3) := by decide +kernel
theorem dX8_shoot_56 : decode cX8_shoot 56 = .ok (.ldc 102, 2) := by decide +kernel
theorem dX8_shoot_58 : decode cX8_shoot 58 = .ok (.ireturn, 1) := by decide +kernel
theorem dX8_shoot_59 : decode cX8_shoot 59 = .ok (.aload_n 0, 1) := by decide +kernel
theorem dX8_shoot_60 : decode cX8_shoot 60 = .ok (.getfield 19, 3) := by decide +kernel
theorem dX8_shoot_63 : decode cX8_shoot 63 = .ok (.getfield 114, 3) := by decide +kernel
theorem dX8_shoot_66 : decode cX8_shoot 66 = .ok (.iload_n 2, 1) := by decide +kernel
theorem dX8_shoot_67 : decode cX8_shoot 67 = .ok (.iaload, 1) := by decide +kernel
theorem dX8_shoot_68 : decode cX8_shoot 68 = .ok (.aload_n 0, 1) := by decide +kernel
theorem dX8_shoot_69 : decode cX8_shoot 69 = .ok (.getfield 19, 3) := by decide +kernel
theorem dX8_shoot_72 : decode cX8_shoot 72 = .ok (.getfield 138, 3) := by decide +kernel
theorem dX8_shoot_75 : decode cX8_shoot 75 = .ok (.iload_n 1, 1) := by decide +kernel
theorem dX8_shoot_76 : decode cX8_shoot 76 = .ok (.iaload, 1) := by decide +kernel
theorem dX8_shoot_77 : decode cX8_shoot 77 = .ok (.aload_n 0, 1) := by decide +kernel
theorem dX8_shoot_78 : decode cX8_shoot 78 = .ok (.getfield 19, 3) := by decide +kernel
theorem dX8_shoot_81 : decode cX8_shoot 81 = .ok (.getfield 141, 3) := by decide +kernel
theorem dX8_shoot_84 : decode cX8_shoot 84 = .ok (.iload_n 2, 1) := by decide +kernel
theorem dX8_shoot_85 : decode cX8_shoot 85 = .ok (.iaload, 1) := by decide +kernel
theorem dX8_shoot_86 : decode cX8_shoot 86 = .ok (.invokestatic 144, 3) := by decide +kernel
theorem dX8_shoot_89 : decode cX8_shoot 89 = .ok (.iadd, 1) := by decide +kernel
theorem dX8_shoot_90 : decode cX8_shoot 90 = .ok (.if_icmp .ge 6, 3) := by decide +kernel
theorem dX8_shoot_93 : decode cX8_shoot 93 = .ok (.ldc 74, 2) := by decide +kernel
theorem dX8_shoot_95 : decode cX8_shoot 95 = .ok (.ireturn, 1) := by decide +kernel
theorem dX8_shoot_96 : decode cX8_shoot 96 = .ok (.aload_n 0, 1) := by decide +kernel
theorem dX8_shoot_97 : decode cX8_shoot 97 = .ok (.getfield 29, 3) := by decide +kernel
theorem dX8_shoot_100 : decode cX8_shoot 100 = .ok (.aload_n 0, 1) := by decide +kernel
theorem dX8_shoot_101 : decode cX8_shoot 101 = .ok (.getfield 19, 3) := by decide +kernel
theorem dX8_shoot_104 : decode cX8_shoot 104 = .ok (.invokevirtual 121, 3) := by decide +kernel
theorem dX8_shoot_107 : decode cX8_shoot 107 = .ok (.aload_n 0, 1) := by decide +kernel
theorem dX8_shoot_108 : decode cX8_shoot 108 = .ok (.getfield 19, 3) := by decide +kernel
theorem dX8_shoot_111 : decode cX8_shoot 111 = .ok (.iload_n 2, 1) := by decide +kernel
theorem dX8_shoot_112 : decode cX8_shoot 112 = .ok (.iload_n 1, 1) := by decide +kernel
theorem dX8_shoot_113 : decode cX8_shoot 113 = .ok (.invokevirtual 149, 3) := by decide +kernel
theorem dX8_shoot_116 : decode cX8_shoot 116 = .ok (.aload_n 0, 1) := by decide +kernel
theorem dX8_shoot_117 : decode cX8_shoot 117 = .ok (.getfield 19, 3) := by decide +kernel
theorem dX8_shoot_120 : decode cX8_shoot 120 = .ok (.getfield 114, 3) := by decide +kernel
theorem dX8_shoot_123 : decode cX8_shoot 123 = .ok (.iload_n 2, 1) := by decide +kernel
theorem dX8_shoot_124 : decode cX8_shoot 124 = .ok (.iaload, 1) := by decide +kernel
theorem dX8_shoot_125 : decode cX8_shoot 125 = .ok (.ireturn, 1) := by decide +kernel
theorem dX8_unload_0 : decode cX8_unload 0 = .ok (.aload_n 0, 1) := by decide +kernel
theorem dX8_unload_1 : decode cX8_unload 1 = .ok (.getfield 19, 3) := by decide +kernel
theorem dX8_unload_4 : decode cX8_unload 4 = .ok (.getfield 106, 3) := by decide +kernel
theorem dX8_unload_7 : decode cX8_unload 7 = .ok (.istore_n 1, 1) := by decide +kernel
theorem dX8_unload_8 : decode cX8_unload 8 = .ok (.aload_n 0, 1) := by decide +kernel
theorem dX8_unload_9 : decode cX8_unload 9 = .ok (.getfield 19, 3) := by decide +kernel
theorem dX8_unload_12 : decode cX8_unload 12 = .ok (.iload_n 1, 1) := by decide +kernel
theorem dX8_unload_13 : decode cX8_unload 13 = .ok (.invokevirtual 103, 3) := by decide +kernel
theorem dX8_unload_16 : decode cX8_unload 16 = .ok (.ifCond .ne 6, 3) := by decide +kernel
theorem dX8_unload_19 : decode cX8_unload 19 = .ok (.ldc 102, 2) := by decide +kernel
theorem dX8_unload_21 : decode cX8_unload 21 = .ok (.ireturn, 1) := by decide +kernel
theorem dX8_unload_22 : decode cX8_unload 22 = .ok (.aload_n 0, 1) := by decide +kernel
theorem dX8_unload_23 : decode cX8_unload 23 = .ok (.getfield 19, 3) := by decide +kernel
theorem dX8_unload_26 : decode cX8_unload 26 = .ok (.getfield 153, 3) := by decide +kernel
theorem dX8_unload_29 : decode cX8_unload 29 = .ok (.ifCond .le 18, 3) := by decide +kernel
theorem dX8_unload_32 : decode cX8_unload 32 = .ok (.aload_n 0, 1) := by decide +kernel
theorem dX8_unload_33 : decode cX8_unload 33 = .ok (.getfield 19, 3) := by decide +kernel
theorem dX8_unload_36 : decode cX8_unload 36 = .ok (.getfield 156, 3) := by decide +kernel
theorem dX8_unload_39 : decode cX8_unload 39 = .ok (.bipush 8, 2) := by decide +kernel
theorem dX8_unload_41 : decode cX8_unload 41 = .ok (.if_icmp .lt 6, 3) := by decide +kernel
theorem dX8_unload_44 : decode cX8_unload 44 = .ok (.ldc 74, 2) := by decide +kernel
theorem dX8_unload_46 : decode cX8_unload 46 = .ok (.ireturn, 1) := by decide +kernel
theorem dX8_unload_47 : decode cX8_unload 47 = .ok (.aload_n 0, 1) := by decide +kernel
theorem dX8_unload_48 : decode cX8_unload 48 = .ok (.getfield 29, 3) := by decide +kernel
theorem dX8_unload_51 : decode cX8_unload 51 = .ok (.aload_n 0, 1) := by decide +kernel
theorem dX8_unload_52 : decode cX8_unload 52 = .ok (.getfield 19, 3) := by decide +kernel
theorem dX8_unload_55 : decode cX8_unload 55 = .ok (.invokevirtual 121, 3) := by decide +kernel
theorem dX8_unload_58 : decode cX8_unload 58 = .ok (.aload_n 0, 1) := by decide +kernel
theorem dX8_unload_59 : decode cX8_unload 59 = .ok (.getfield 19, 3) := by decide +kernel
theorem dX8_unload_62 : decode cX8_unload 62 = .ok (.iload_n 1, 1) := by decide +kernel
theorem dX8_unload_63 : decode cX8_unload 63 = .ok (.invokevirtual 159, 3) := by decide +kernel
theorem dX8_unload_66 : decode cX8_unload 66 = .ok (.aload_n 0, 1) := by decide +kernel
theorem dX8_unload_67 : decode cX8_unload 67 = .ok (.getfield 19, 3) := by decide +kernel
theorem dX8_unload_70 : decode cX8_unload 70 = .ok (.getfield 114, 3) := by decide +kernel
theorem dX8_unload_73 : decode cX8_unload 73 = .ok (.iload_n 1, 1) := by decide +kernel
theorem dX8_unload_74 : decode cX8_unload 74 = .ok (.iaload, 1) := by decide +kernel
theorem dX8_unload_75 : decode cX8_unload 75 = .ok (.ireturn, 1) := by decide +kernel
theorem dX8_lab_0 : decode cX8_lab 0 = .ok (.aload_n 0, 1) := by decide +kernel
theorem dX8_lab_1 : decode cX8_lab 1 = .ok (.getfield 19, 3) := by decide +kernel
theorem dX8_lab_4 : decode cX8_lab 4 = .ok (.getfield 156, 3) := by decide +kernel
theorem dX8_lab_7 : decode cX8_lab 7 = .ok (.ifCond .ne 6, 3) := by decide +kernel
theorem dX8_lab_10 : decode cX8_lab 10 = .ok (.ldc 102, 2) := by decide +kernel
theorem dX8_lab_12 : decode cX8_lab 12 = .ok (.ireturn, 1) := by decide +kernel
theorem dX8_lab_13 : decode cX8_lab 13 = .ok (.aload_n 0, 1) := by decide +kernel
theorem dX8_lab_14 : decode cX8_lab 14 = .ok (.getfield 29, 3) := by decide +kernel
theorem dX8_lab_17 : decode cX8_lab 17 = .ok (.aload_n 0, 1) := by decide +kernel
theorem dX8_lab_18 : decode cX8_lab 18 = .ok (.getfield 19, 3) := by decide +kernel
theorem dX8_lab_21 : decode cX8_lab 21 = .ok (.invokevirtual 121, 3) := by decide +kernel
theorem dX8_lab_24 : decode cX8_lab 24 = .ok (.aload_n 0, 1) := by decide +kernel
theorem dX8_lab_25 : decode cX8_lab 25 = .ok (.getfield 40, 3) := by decide +kernel
theorem dX8_lab_28 : decode cX8_lab 28 = .ok (.aload_n 0, 1) := by decide +kernel
theorem dX8_lab_29 : decode cX8_lab 29 = .ok (.getfield 19, 3) := by decide +kernel
theorem dX8_lab_32 : decode cX8_lab 32 = .ok (.invokevirtual 162, 3) := by decide +kernel
theorem dX8_lab_35 : decode cX8_lab 35 = .ok (.istore_n 1, 1) := by decide +kernel
theorem dX8_lab_36 : decode cX8_lab 36 = .ok (.aload_n 0, 1) := by decide +kernel
theorem dX8_lab_37 : decode cX8_lab 37 = .ok (.getfield 19, 3) := by decide +kernel
theorem dX8_lab_40 : decode cX8_lab 40 = .ok (.iload_n 1, 1) := by decide +kernel
theorem dX8_lab_41 : decode cX8_lab 41 = .ok (.invokevirtual 166, 3) := by decide +kernel
theorem dX8_lab_44 : decode cX8_lab 44 = .ok (.iload_n 1, 1) := by decide +kernel
theorem dX8_lab_45 : decode cX8_lab 45 = .ok (.ireturn, 1) := by decide +kernel
theorem dX8_again_0 : decode cX8_again 0 = .ok (.aload_n 0, 1) := by decide +kernel
theorem dX8_again_1 : decode cX8_again 1 = .ok (.getfield 19, 3) := by decide +kernel
theorem dX8_again_4 : decode cX8_again 4 = .ok (.iload_n 1, 1) := by decide +kernel
theorem dX8_again_5 : decode cX8_again 5 = .ok (.invokevirtual 128, 3) := by decide +kernel
theorem dX8_again_8 : decode cX8_again 8 = .ok (.ifCond .ne 6, 3) := by decide +kernel
theorem dX8_again_11 : decode cX8_again 11 = .ok (.ldc 65, 2) := by decide +kernel
theorem dX8_again_13 : decode cX8_again 13 = .ok (.ireturn, 1) := by decide +kernel
theorem dX8_again_14 : decode cX8_again 14 = .ok (.aload_n 0, 1) := by decide +kernel
theorem dX8_again_15 : decode cX8_again 15 = .ok (.getfield 19, 3) := by decide +kernel
theorem dX8_again_18 : decode cX8_again 18 = .ok (.iload_n 1, 1) := by decide +kernel
theorem dX8_again_19 : decode cX8_again 19 = .ok (.invokevirtual 131, 3) := by decide +kernel
theorem dX8_again_22 : decode cX8_again 22 = .ok (.ifCond .eq 6, 3) := by decide +kernel
theorem dX8_again_25 : decode cX8_again 25 = .ok (.ldc 102, 2) := by decide +kernel
theorem dX8_again_27 : decode cX8_again 27 = .ok (.ireturn, 1) := by decide +kernel
theorem dX8_again_28 : decode cX8_again 28 = .ok (.aload_n 0, 1) := by decide +kernel
theorem dX8_again_29 : decode cX8_again 29 = .ok (.getfield 29, 3) := by decide +kernel
theorem dX8_again_32 : decode cX8_again 32 = .ok (.aload_n 0, 1) := by decide +kernel
theorem dX8_again_33 : decode cX8_again 33 = .ok (.getfield 19, 3) := by decide +kernel
theorem dX8_again_36 : decode cX8_again 36 = .ok (.invokevirtual 121, 3) := by decide +kernel
theorem dX8_again_39 : decode cX8_again 39 = .ok (.aload_n 0, 1) := by decide +kernel
theorem dX8_again_40 : decode cX8_again 40 = .ok (.getfield 19, 3) := by decide +kernel
theorem dX8_again_43 : decode cX8_again 43 = .ok (.getfield 169, 3) := by decide +kernel
theorem dX8_again_46 : decode cX8_again 46 = .ok (.iload_n 1, 1) := by decide +kernel
theorem dX8_again_47 : decode cX8_again 47 = .ok (.iaload, 1) := by decide +kernel
theorem dX8_again_48 : decode cX8_again 48 = .ok (.istore_n 2, 1) := by decide +kernel
theorem dX8_again_49 : decode cX8_again 49 = .ok (.aload_n 0, 1) := by decide +kernel
theorem dX8_again_50 : decode cX8_again 50 = .ok (.getfield 19, 3) := by decide +kernel
theorem dX8_again_53 : decode cX8_again 53 = .ok (.iload_n 1, 1) := by decide +kernel
theorem dX8_again_54 : decode cX8_again 54 = .ok (.invokevirtual 172, 3) := by decide +kernel
theorem dX8_again_57 : decode cX8_again 57 = .ok (.iload_n 2, 1) := by decide +kernel
theorem dX8_again_58 : decode cX8_again 58 = .ok (.ireturn, 1) := by decide +kernel
theorem dX8_buy_0 : decode cX8_buy 0 = .ok (.aload_n 0, 1) := by decide +kernel
theorem dX8_buy_1 : decode cX8_buy 1 = .ok (.invokevirtual 175, 3) := by decide +kernel
theorem dX8_buy_4 : decode cX8_buy 4 = .ok (.ifCond .eq 6, 3) := by decide +kernel
theorem dX8_buy_7 : decode cX8_buy 7 = .ok (.ldc 102, 2) := by decide +kernel
theorem dX8_buy_9 : decode cX8_buy 9 = .ok (.ireturn, 1) := by decide +kernel
theorem dX8_buy_10 : decode cX8_buy 10 = .ok (.iload_n 1, 1) := by decide +kernel
theorem dX8_buy_11 : decode cX8_buy 11 = .ok (.invokestatic 179, 3) := by decide +kernel
theorem dX8_buy_14 : decode cX8_buy 14 = .ok (.ifCond .eq 10, 3) := by decide +kernel
theorem dX8_buy_17 : decode cX8_buy 17 = .ok (.iload_n 2, 1) := by decide +kernel
theorem dX8_buy_18 : decode cX8_buy 18 = .ok (.invokestatic 182, 3) := by decide +kernel
theorem dX8_buy_21 : decode cX8_buy 21 = .ok (.ifCond .ne 6, 3) := by decide +kernel
theorem dX8_buy_24 : decode cX8_buy 24 = .ok (.ldc 65, 2) := by decide +kernel
theorem dX8_buy_26 : decode cX8_buy 26 = .ok (.ireturn, 1) := by decide +kernel
theorem dX8_buy_27 : decode cX8_buy 27 = .ok (.aload_n 0, 1) := by decide +kernel
theorem dX8_buy_28 : decode cX8_buy 28 = .ok (.getfield 19, 3) := by decide +kernel
theorem dX8_buy_31 : decode cX8_buy 31 = .ok (.getfield 90, 3) := by decide +kernel
theorem dX8_buy_34 : decode cX8_buy 34 = .ok (.bipush 6, 2) := by decide +kernel
theorem dX8_buy_36 : decode cX8_buy 36 = .ok (.if_icmp .lt 6, 3) := by decide +kernel
theorem dX8_buy_39 : decode cX8_buy 39 = .ok (.ldc 74, 2) := by decide +kernel
theorem dX8_buy_41 : decode cX8_buy 41 = .ok (.ireturn, 1) := by decide +kernel
theorem dX8_buy_42 : decode cX8_buy 42 = .ok (.aload_n 0, 1) := by decide +kernel
theorem dX8_buy_43 : decode cX8_buy 43 = .ok (.getfield 29, 3) := by decide +kernel
theorem dX8_buy_46 : decode cX8_buy 46 = .ok (.aload_n 0, 1) := by decide +kernel
theorem dX8_buy_47 : decode cX8_buy 47 = .ok (.getfield 19, 3) := by decide +kernel
theorem dX8_buy_50 : decode cX8_buy 50 = .ok (.invokevirtual 121, 3) := by decide +kernel
theorem dX8_buy_53 : decode cX8_buy 53 = .ok (.aload_n 0, 1) := by decide +kernel
theorem dX8_buy_54 : decode cX8_buy 54 = .ok (.getfield 19, 3) := by decide +kernel
theorem dX8_buy_57 : decode cX8_buy 57 = .ok (.iload_n 1, 1) := by decide +kernel
theorem dX8_buy_58 : decode cX8_buy 58 = .ok (.iload_n 2, 1) := by decide +kernel
theorem dX8_buy_59 : decode cX8_buy 59 = .ok (.invokevirtual 185, 3) := by decide +kernel
theorem dX8_buy_62 : decode cX8_buy 62 = .ok (.ireturn, 1) := by decide +kernel
theorem dX8_ask_0 : decode cX8_ask 0 = .ok (.aload_n 0, 1) := by decide +kernel
theorem dX8_ask_1 : decode cX8_ask 1 = .ok (.invokevirtual 175, 3) := by decide +kernel
theorem dX8_ask_4 : decode cX8_ask 4 = .ok (.ifCond .eq 6, 3) := by decide +kernel
theorem dX8_ask_7 : decode cX8_ask 7 = .ok (.ldc 102, 2) := by decide +kernel
theorem dX8_ask_9 : decode cX8_ask 9 = .ok (.ireturn, 1) := by decide +kernel
theorem dX8_ask_10 : decode cX8_ask 10 = .ok (.iload_n 1, 1) := by decide +kernel
theorem dX8_ask_11 : decode cX8_ask 11 = .ok (.invokestatic 189, 3) := by decide +kernel
theorem dX8_ask_14 : decode cX8_ask 14 = .ok (.ifCond .eq 10, 3) := by decide +kernel
theorem dX8_ask_17 : decode cX8_ask 17 = .ok (.iload_n 2, 1) := by decide +kernel
theorem dX8_ask_18 : decode cX8_ask 18 = .ok (.invokestatic 192, 3) := by decide +kernel
theorem dX8_ask_21 : decode cX8_ask 21 = .ok (.ifCond .ne 6, 3) := by decide +kernel
theorem dX8_ask_24 : decode cX8_ask 24 = .ok (.ldc 65, 2) := by decide +kernel
theorem dX8_ask_26 : decode cX8_ask 26 = .ok (.ireturn, 1) := by decide +kernel
theorem dX8_ask_27 : decode cX8_ask 27 = .ok (.aload_n 0, 1) := by decide +kernel
theorem dX8_ask_28 : decode cX8_ask 28 = .ok (.getfield 19, 3) := by decide +kernel
theorem dX8_ask_31 : decode cX8_ask 31 = .ok (.getfield 195, 3) := by decide +kernel
theorem dX8_ask_34 : decode cX8_ask 34 = .ok (.bipush 8, 2) := by decide +kernel
theorem dX8_ask_36 : decode cX8_ask 36 = .ok (.if_icmp .lt 6, 3) := by decide +kernel
theorem dX8_ask_39 : decode cX8_ask 39 = .ok (.ldc 74, 2) := by decide +kernel
theorem dX8_ask_41 : decode cX8_ask 41 = .ok (.ireturn, 1) := by decide +kernel
theorem dX8_ask_42 : decode cX8_ask 42 = .ok (.aload_n 0, 1) := by decide +kernel
theorem dX8_ask_43 : decode cX8_ask 43 = .ok (.getfield 29, 3) := by decide +kernel
theorem dX8_ask_46 : decode cX8_ask 46 = .ok (.aload_n 0, 1) := by decide +kernel
theorem dX8_ask_47 : decode cX8_ask 47 = .ok (.getfield 19, 3) := by decide +kernel
theorem dX8_ask_50 : decode cX8_ask 50 = .ok (.invokevirtual 121, 3) := by decide +kernel
theorem dX8_ask_53 : decode cX8_ask 53 = .ok (.aload_n 0, 1) := by decide +kernel
theorem dX8_ask_54 : decode cX8_ask 54 = .ok (.getfield 19, 3) := by decide +kernel
theorem dX8_ask_57 : decode cX8_ask 57 = .ok (.iload_n 1, 1) := by decide +kernel
theorem dX8_ask_58 : decode cX8_ask 58 = .ok (.iload_n 2, 1) := by decide +kernel
theorem dX8_ask_59 : decode cX8_ask 59 = .ok (.invokevirtual 198, 3) := by decide +kernel
theorem dX8_ask_62 : decode cX8_ask 62 = .ok (.ireturn, 1) := by decide +kernel
theorem dX8_become_0 : decode cX8_become 0 = .ok (.aload_n 0, 1) := by decide +kernel
theorem dX8_become_1 : decode cX8_become 1 = .ok (.getfield 19, 3) := by decide +kernel
theorem dX8_become_4 : decode cX8_become 4 = .ok (.iload_n 1, 1) := by decide +kernel
theorem dX8_become_5 : decode cX8_become 5 = .ok (.invokevirtual 103, 3) := by decide +kernel
theorem dX8_become_8 : decode cX8_become 8 = .ok (.ifCond .eq 10, 3) := by decide +kernel
theorem dX8_become_11 : decode cX8_become 11 = .ok (.iload_n 2, 1) := by decide +kernel
theorem dX8_become_12 : decode cX8_become 12 = .ok (.invokestatic 179, 3) := by decide +kernel
theorem dX8_become_15 : decode cX8_become 15 = .ok (.ifCond .ne 6, 3) := by decide +kernel
theorem dX8_become_18 : decode cX8_become 18 = .ok (.ldc 65, 2) := by decide +kernel
theorem dX8_become_20 : decode cX8_become 20 = .ok (.ireturn, 1) := by decide +kernel
theorem dX8_become_21 : decode cX8_become 21 = .ok (.aload_n 0, 1) := by decide +kernel
theorem dX8_become_22 : decode cX8_become 22 = .ok (.getfield 19, 3) := by decide +kernel
theorem dX8_become_25 : decode cX8_become 25 = .ok (.getfield 141, 3) := by decide +kernel
theorem dX8_become_28 : decode cX8_become 28 = .ok (.iload_n 1, 1) := by decide +kernel
theorem dX8_become_29 : decode cX8_become 29 = .ok (.iaload, 1) := by decide +kernel
theorem dX8_become_30 : decode cX8_become 30 = .ok (.istore_n 3, 1) := by decide +kernel
theorem dX8_become_31 : decode cX8_become 31 = .ok (.iload_n 3, 1) := by decide +kernel
theorem dX8_become_32 : decode cX8_become 32 = .ok (.iload_n 2, 1) := by decide +kernel
theorem dX8_become_33 : decode cX8_become 33 = .ok (.if_icmp .eq 15, 3) := by decide +kernel
theorem dX8_become_36 : decode cX8_become 36 = .ok (.aload_n 0, 1) := by decide +kernel
theorem dX8_become_37 : decode cX8_become 37 = .ok (.getfield 19, 3) := by decide +kernel
theorem dX8_become_40 : decode cX8_become 40 = .ok (.getfield 110, 3) := by decide +kernel
theorem dX8_become_43 : decode cX8_become 43 = .ok (.iload_n 1, 1) := by decide +kernel
theorem dX8_become_44 : decode cX8_become 44 = .ok (.iaload, 1) := by decide +kernel
theorem dX8_become_45 : decode cX8_become 45 = .ok (.ifCond .eq 6, 3) := by decide +kernel
theorem dX8_become_48 : decode cX8_become 48 = .ok (.ldc 102, 2) := by decide +kernel
theorem dX8_become_50 : decode cX8_become 50 = .ok (.ireturn, 1) := by decide +kernel
theorem dX8_become_51 : decode cX8_become 51 = .ok (.aload_n 0, 1) := by decide +kernel
theorem dX8_become_52 : decode cX8_become 52 = .ok (.getfield 29, 3) := by decide +kernel
theorem dX8_become_55 : decode cX8_become 55 = .ok (.aload_n 0, 1) := by decide +kernel
theorem dX8_become_56 : decode cX8_become 56 = .ok (.getfield 19, 3) := by decide +kernel
theorem dX8_become_59 : decode cX8_become 59 = .ok (.invokevirtual 121, 3) := by decide +kernel
theorem dX8_become_62 : decode cX8_become 62 = .ok (.aload_n 0, 1) := by decide +kernel
theorem dX8_become_63 : decode cX8_become 63 = .ok (.getfield 19, 3) := by decide +kernel
theorem dX8_become_66 : decode cX8_become 66 = .ok (.getfield 141, 3) := by decide +kernel
theorem dX8_become_69 : decode cX8_become 69 = .ok (.iload_n 1, 1) := by decide +kernel
theorem dX8_become_70 : decode cX8_become 70 = .ok (.iload_n 2, 1) := by decide +kernel
theorem dX8_become_71 : decode cX8_become 71 = .ok (.iastore, 1) := by decide +kernel
theorem dX8_become_72 : decode cX8_become 72 = .ok (.iload_n 3, 1) := by decide +kernel
theorem dX8_become_73 : decode cX8_become 73 = .ok (.ireturn, 1) := by decide +kernel
theorem dX8_demand_0 : decode cX8_demand 0 = .ok (.aload_n 0, 1) := by decide +kernel
theorem dX8_demand_1 : decode cX8_demand 1 = .ok (.getfield 19, 3) := by decide +kernel
theorem dX8_demand_4 : decode cX8_demand 4 = .ok (.iload_n 1, 1) := by decide +kernel
theorem dX8_demand_5 : decode cX8_demand 5 = .ok (.invokevirtual 128, 3) := by decide +kernel
theorem dX8_demand_8 : decode cX8_demand 8 = .ok (.ifCond .eq 17, 3) := by decide +kernel
theorem dX8_demand_11 : decode cX8_demand 11 = .ok (.iload_n 2, 1) := by decide +kernel
theorem dX8_demand_12 : decode cX8_demand 12 = .ok (.invokestatic 189, 3) := by decide +kernel
theorem dX8_demand_15 : decode cX8_demand 15 = .ok (.ifCond .eq 10, 3) := by decide +kernel
theorem dX8_demand_18 : decode cX8_demand 18 = .ok (.iload_n 3, 1) := by decide +kernel
theorem dX8_demand_19 : decode cX8_demand 19 = .ok (.invokestatic 192, 3) := by decide +kernel
theorem dX8_demand_22 : decode cX8_demand 22 = .ok (.ifCond .ne 6, 3) := by decide +kernel
theorem dX8_demand_25 : decode cX8_demand 25 = .ok (.ldc 65, 2) := by decide +kernel
theorem dX8_demand_27 : decode cX8_demand 27 = .ok (.ireturn, 1) := by decide +kernel
theorem dX8_demand_28 : decode cX8_demand 28 = .ok (.aload_n 0, 1) := by decide +kernel
theorem dX8_demand_29 : decode cX8_demand 29 = .ok (.getfield 19, 3) := by decide +kernel
theorem dX8_demand_32 : decode cX8_demand 32 = .ok (.iload_n 1, 1) := by decide +kernel
theorem dX8_demand_33 : decode cX8_demand 33 = .ok (.invokevirtual 131, 3) := by decide +kernel
theorem dX8_demand_36 : decode cX8_demand 36 = .ok (.ifCond .ne 6, 3) := by decide +kernel
theorem dX8_demand_39 : decode cX8_demand 39 = .ok (.ldc 102, 2) := by decide +kernel
theorem dX8_demand_41 : decode cX8_demand 41 = .ok (.ireturn, 1) := by decide +kernel
theorem dX8_demand_42 : decode cX8_demand 42 = .ok (.aload_n 0, 1) := by decide +kernel
theorem dX8_demand_43 : decode cX8_demand 43 = .ok (.getfield 29, 3) := by decide +kernel
theorem dX8_demand_46 : decode cX8_demand 46 = .ok (.aload_n 0, 1) := by decide +kernel
theorem dX8_demand_47 : decode cX8_demand 47 = .ok (.getfield 19, 3) := by decide +kernel
theorem dX8_demand_50 : decode cX8_demand 50 = .ok (.invokevirtual 121, 3) := by decide +kernel
theorem dX8_demand_53 : decode cX8_demand 53 = .ok (.aload_n 0, 1) := by decide +kernel
theorem dX8_demand_54 : decode cX8_demand 54 = .ok (.getfield 19, 3) := by decide +kernel
theorem dX8_demand_57 : decode cX8_demand 57 = .ok (.getfield 138, 3) := by decide +kernel
theorem dX8_demand_60 : decode cX8_demand 60 = .ok (.iload_n 1, 1) := by decide +kernel
theorem dX8_demand_61 : decode cX8_demand 61 = .ok (.iaload, 1) := by decide +kernel
theorem dX8_demand_62 : decode cX8_demand 62 = .ok (.istore 4, 2) := by decide +kernel
theorem dX8_demand_64 : decode cX8_demand 64 = .ok (.aload_n 0, 1) := by decide +kernel
theorem dX8_demand_65 : decode cX8_demand 65 = .ok (.getfield 19, 3) := by decide +kernel
theorem dX8_demand_68 : decode cX8_demand 68 = .ok (.getfield 201, 3) := by decide +kernel
theorem dX8_demand_71 : decode cX8_demand 71 = .ok (.iload_n 1, 1) := by decide +kernel
theorem dX8_demand_72 : decode cX8_demand 72 = .ok (.iload_n 2, 1) := by decide +kernel
theorem dX8_demand_73 : decode cX8_demand 73 = .ok (.iastore, 1) := by decide +kernel
theorem dX8_demand_74 : decode cX8_demand 74 = .ok (.aload_n 0, 1) := by decide +kernel
theorem dX8_demand_75 : decode cX8_demand 75 = .ok (.getfield 19, 3) := by decide +kernel
theorem dX8_demand_78 : decode cX8_demand 78 = .ok (.getfield 138, 3) := by decide +kernel
theorem dX8_demand_81 : decode cX8_demand 81 = .ok (.iload_n 1, 1) := by decide +kernel
theorem dX8_demand_82 : decode cX8_demand 82 = .ok (.iload_n 3, 1) := by decide +kernel
theorem dX8_demand_83 : decode cX8_demand 83 = .ok (.iastore, 1) := by decide +kernel
theorem dX8_demand_84 : decode cX8_demand 84 = .ok (.iload 4, 2) := by decide +kernel
theorem dX8_demand_86 : decode cX8_demand 86 = .ok (.ireturn, 1) := by decide +kernel
theorem dX8_law_0 : decode cX8_law 0 = .ok (.aload_n 0, 1) := by decide +kernel
theorem dX8_law_1 : decode cX8_law 1 = .ok (.invokevirtual 175, 3) := by decide +kernel
theorem dX8_law_4 : decode cX8_law 4 = .ok (.ifCond .eq 6, 3) := by decide +kernel
theorem dX8_law_7 : decode cX8_law 7 = .ok (.ldc 102, 2) := by decide +kernel
theorem dX8_law_9 : decode cX8_law 9 = .ok (.ireturn, 1) := by decide +kernel
theorem dX8_law_10 : decode cX8_law 10 = .ok (.iload_n 1, 1) := by decide +kernel
theorem dX8_law_11 : decode cX8_law 11 = .ok (.ifCond .lt 26, 3) := by decide +kernel
theorem dX8_law_14 : decode cX8_law 14 = .ok (.iload_n 1, 1) := by decide +kernel
theorem dX8_law_15 : decode cX8_law 15 = .ok (.iconst 4, 1) := by decide +kernel
theorem dX8_law_16 : decode cX8_law 16 = .ok (.if_icmp .ge 21, 3) := by decide +kernel
theorem dX8_law_19 : decode cX8_law 19 = .ok (.iload_n 2, 1) := by decide +kernel
theorem dX8_law_20 : decode cX8_law 20 = .ok (.getstatic 204, 3) := by decide +kernel
theorem dX8_law_23 : decode cX8_law 23 = .ok (.iload_n 1, 1) := by decide +kernel
theorem dX8_law_24 : decode cX8_law 24 = .ok (.iaload, 1) := by decide +kernel
theorem dX8_law_25 : decode cX8_law 25 = .ok (.if_icmp .lt 12, 3) := by decide +kernel
theorem dX8_law_28 : decode cX8_law 28 = .ok (.iload_n 2, 1) := by decide +kernel
theorem dX8_law_29 : decode cX8_law 29 = .ok (.getstatic 207, 3) := by decide +kernel
theorem dX8_law_32 : decode cX8_law 32 = .ok (.iload_n 1, 1) := by decide +kernel
theorem dX8_law_33 : decode cX8_law 33 = .ok (.iaload, 1) := by decide +kernel
theorem dX8_law_34 : decode cX8_law 34 = .ok (.if_icmp .le 6, 3) := by decide +kernel
theorem dX8_law_37 : decode cX8_law 37 = .ok (.ldc 65, 2) := by decide +kernel
theorem dX8_law_39 : decode cX8_law 39 = .ok (.ireturn, 1) := by decide +kernel
theorem dX8_law_40 : decode cX8_law 40 = .ok (.aload_n 0, 1) := by decide +kernel
theorem dX8_law_41 : decode cX8_law 41 = .ok (.getfield 29, 3) := by decide +kernel
theorem dX8_law_44 : decode cX8_law 44 = .ok (.aload_n 0, 1) := by decide +kernel
theorem dX8_law_45 : decode cX8_law 45 = .ok (.getfield 19, 3) := by decide +kernel
theorem dX8_law_48 : decode cX8_law 48 = .ok (.invokevirtual 121, 3) := by decide +kernel
theorem dX8_law_51 : decode cX8_law 51 = .ok (.aload_n 0, 1) := by decide +kernel
theorem dX8_law_52 : decode cX8_law 52 = .ok (.getfield 19, 3) := by decide +kernel
theorem dX8_law_55 : decode cX8_law 55 = .ok (.getfield 210, 3) := by decide +kernel
theorem dX8_law_58 : decode cX8_law 58 = .ok (.iload_n 1, 1) := by decide +kernel
theorem dX8_law_59 : decode cX8_law 59 = .ok (.iaload, 1) := by decide +kernel
theorem dX8_law_60 : decode cX8_law 60 = .ok (.istore_n 3, 1) := by decide +kernel
theorem dX8_law_61 : decode cX8_law 61 = .ok (.aload_n 0, 1) := by decide +kernel
theorem dX8_law_62 : decode cX8_law 62 = .ok (.getfield 19, 3) := by decide +kernel
theorem dX8_law_65 : decode cX8_law 65 = .ok (.getfield 210, 3) := by decide +kernel
theorem dX8_law_68 : decode cX8_law 68 = .ok (.iload_n 1, 1) := by decide +kernel
theorem dX8_law_69 : decode cX8_law 69 = .ok (.iload_n 2, 1) := by decide +kernel
theorem dX8_law_70 : decode cX8_law 70 = .ok (.iastore, 1) := by decide +kernel
theorem dX8_law_71 : decode cX8_law 71 = .ok (.iload_n 3, 1) := by decide +kernel
theorem dX8_law_72 : decode cX8_law 72 = .ok (.ireturn, 1) := by decide +kernel
theorem dX8_can_0 : decode cX8_can 0 = .ok (.aload_n 0, 1) := by decide +kernel
theorem dX8_can_1 : decode cX8_can 1 = .ok (.getfield 19, 3) := by decide +kernel
theorem dX8_can_4 : decode cX8_can 4 = .ok (.iload_n 1, 1) := by decide +kernel
theorem dX8_can_5 : decode cX8_can 5 = .ok (.invokevirtual 103, 3) := by decide +kernel
theorem dX8_can_8 : decode cX8_can 8 = .ok (.ifCond .ne 6, 3) := by decide +kernel
theorem dX8_can_11 : decode cX8_can 11 = .ok (.ldc 65, 2) := by decide +kernel
theorem dX8_can_13 : decode cX8_can 13 = .ok (.ireturn, 1) := by decide +kernel
theorem dX8_can_14 : decode cX8_can 14 = .ok (.iload_n 2, 1) := by decide +kernel
theorem dX8_can_15 : decode cX8_can 15 = .ok (.tableswitch 125 0 7 #[45, 55, 65, 75, 85, 94, 103, 116], 45) := by decide +kernel
theorem dX8_can_60 : decode cX8_can 60 = .ok (.aload_n 0, 1) := by decide +kernel
theorem dX8_can_61 : decode cX8_can 61 = .ok (.getfield 19, 3) := by decide +kernel
theorem dX8_can_64 : decode cX8_can 64 = .ok (.getfield 141, 3) := by decide +kernel
theorem dX8_can_67 : decode cX8_can 67 = .ok (.iload_n 1, 1) := by decide +kernel
theorem dX8_can_68 : decode cX8_can 68 = .ok (.iaload, 1) := by decide +kernel
theorem dX8_can_69 : decode cX8_can 69 = .ok (.ireturn, 1) := by decide +kernel
theorem dX8_can_70 : decode cX8_can 70 = .ok (.aload_n 0, 1) := by decide +kernel
theorem dX8_can_71 : decode cX8_can 71 = .ok (.getfield 19, 3) := by decide +kernel
theorem dX8_can_74 : decode cX8_can 74 = .ok (.getfield 114, 3) := by decide +kernel
theorem dX8_can_77 : decode cX8_can 77 = .ok (.iload_n 1, 1) := by decide +kernel
theorem dX8_can_78 : decode cX8_can 78 = .ok (.iaload, 1) := by decide +kernel
theorem dX8_can_79 : decode cX8_can 79 = .ok (.ireturn, 1) := by decide +kernel
theorem dX8_can_80 : decode cX8_can 80 = .ok (.aload_n 0, 1) := by decide +kernel
theorem dX8_can_81 : decode cX8_can 81 = .ok (.getfield 19, 3) := by decide +kernel
theorem dX8_can_84 : decode cX8_can 84 = .ok (.getfield 110, 3) := by decide +kernel
theorem dX8_can_87 : decode cX8_can 87 = .ok (.iload_n 1, 1) := by decide +kernel
theorem dX8_can_88 : decode cX8_can 88 = .ok (.iaload, 1) := by decide +kernel
theorem dX8_can_89 : decode cX8_can 89 = .ok (.ireturn, 1) := by decide +kernel
theorem dX8_can_90 : decode cX8_can 90 = .ok (.aload_n 0, 1) := by decide +kernel
theorem dX8_can_91 : decode cX8_can 91 = .ok (.getfield 19, 3) := by decide +kernel
theorem dX8_can_94 : decode cX8_can 94 = .ok (.getfield 213, 3) := by decide +kernel
theorem dX8_can_97 : decode cX8_can 97 = .ok (.iload_n 1, 1) := by decide +kernel
theorem dX8_can_98 : decode cX8_can 98 = .ok (.iaload, 1) := by decide +kernel
theorem dX8_can_99 : decode cX8_can 99 = .ok (.ireturn, 1) := by decide +kernel
theorem dX8_can_100 : decode cX8_can 100 = .ok (.aload_n 0, 1) := by decide +kernel
theorem dX8_can_101 : decode cX8_can 101 = .ok (.getfield 19, 3) := by decide +kernel
theorem dX8_can_104 : decode cX8_can 104 = .ok (.iload_n 1, 1) := by decide +kernel
theorem dX8_can_105 : decode cX8_can 105 = .ok (.invokevirtual 216, 3) := by decide +kernel
theorem dX8_can_108 : decode cX8_can 108 = .ok (.ireturn, 1) := by decide +kernel
theorem dX8_can_109 : decode cX8_can 109 = .ok (.aload_n 0, 1) := by decide +kernel
theorem dX8_can_110 : decode cX8_can 110 = .ok (.getfield 19, 3) := by decide +kernel
theorem dX8_can_113 : decode cX8_can 113 = .ok (.iload_n 1, 1) := by decide +kernel
theorem dX8_can_114 : decode cX8_can 114 = .ok (.invokevirtual 117, 3) := by decide +kernel
theorem dX8_can_117 : decode cX8_can 117 = .ok (.ireturn, 1) := by decide +kernel
theorem dX8_can_118 : decode cX8_can 118 = .ok (.aload_n 0, 1) := by decide +kernel
theorem dX8_can_119 : decode cX8_can 119 = .ok (.getfield 19, 3) := by decide +kernel
theorem dX8_can_122 : decode cX8_can 122 = .ok (.getfield 141, 3) := by decide +kernel
theorem dX8_can_125 : decode cX8_can 125 = .ok (.iload_n 1, 1) := by decide +kernel
theorem dX8_can_126 : decode cX8_can 126 = .ok (.iaload, 1) := by decide +kernel
theorem dX8_can_127 : decode cX8_can 127 = .ok (.invokestatic 144, 3) := by decide +kernel
theorem dX8_can_130 : decode cX8_can 130 = .ok (.ireturn, 1) := by decide +kernel
theorem dX8_can_131 : decode cX8_can 131 = .ok (.aload_n 0, 1) := by decide +kernel
theorem dX8_can_132 : decode cX8_can 132 = .ok (.getfield 19, 3) := by decide +kernel
theorem dX8_can_135 : decode cX8_can 135 = .ok (.iload_n 1, 1) := by decide +kernel
theorem dX8_can_136 : decode cX8_can 136 = .ok (.invokevirtual 219, 3) := by decide +kernel
theorem dX8_can_139 : decode cX8_can 139 = .ok (.ireturn, 1) := by decide +kernel
theorem dX8_can_140 : decode cX8_can 140 = .ok (.ldc 65, 2) := by decide +kernel
theorem dX8_can_142 : decode cX8_can 142 = .ok (.ireturn, 1) := by decide +kernel
theorem dX8_take_0 : decode cX8_take 0 = .ok (.aload_n 0, 1) := by decide +kernel
theorem dX8_take_1 : decode cX8_take 1 = .ok (.getfield 19, 3) := by decide +kernel
theorem dX8_take_4 : decode cX8_take 4 = .ok (.iload_n 1, 1) := by decide +kernel
theorem dX8_take_5 : decode cX8_take 5 = .ok (.invokevirtual 128, 3) := by decide +kernel
theorem dX8_take_8 : decode cX8_take 8 = .ok (.ifCond .ne 6, 3) := by decide +kernel
theorem dX8_take_11 : decode cX8_take 11 = .ok (.ldc 65, 2) := by decide +kernel
theorem dX8_take_13 : decode cX8_take 13 = .ok (.ireturn, 1) := by decide +kernel
theorem dX8_take_14 : decode cX8_take 14 = .ok (.iload_n 2, 1) := by decide +kernel
theorem dX8_take_15 : decode cX8_take 15 = .ok (.tableswitch 68 0 3 #[29, 39, 49, 59], 29) := by decide +kernel
theorem dX8_take_44 : decode cX8_take 44 = .ok (.aload_n 0, 1) := by decide +kernel
theorem dX8_take_45 : decode cX8_take 45 = .ok (.getfield 19, 3) := by decide +kernel
theorem dX8_take_48 : decode cX8_take 48 = .ok (.getfield 201, 3) := by decide +kernel
theorem dX8_take_51 : decode cX8_take 51 = .ok (.iload_n 1, 1) := by decide +kernel
theorem dX8_take_52 : decode cX8_take 52 = .ok (.iaload, 1) := by decide +kernel
theorem dX8_take_53 : decode cX8_take 53 = .ok (.ireturn, 1) := by decide +kernel
theorem dX8_take_54 : decode cX8_take 54 = .ok (.aload_n 0, 1) := by decide +kernel
theorem dX8_take_55 : decode cX8_take 55 = .ok (.getfield 19, 3) := by decide +kernel
theorem dX8_take_58 : decode cX8_take 58 = .ok (.getfield 138, 3) := by decide +kernel
theorem dX8_take_61 : decode cX8_take 61 = .ok (.iload_n 1, 1) := by decide +kernel
theorem dX8_take_62 : decode cX8_take 62 = .ok (.iaload, 1) := by decide +kernel
theorem dX8_take_63 : decode cX8_take 63 = .ok (.ireturn, 1) := by decide +kernel
theorem dX8_take_64 : decode cX8_take 64 = .ok (.aload_n 0, 1) := by decide +kernel
theorem dX8_take_65 : decode cX8_take 65 = .ok (.getfield 19, 3) := by decide +kernel
theorem dX8_take_68 : decode cX8_take 68 = .ok (.getfield 169, 3) := by decide +kernel
theorem dX8_take_71 : decode cX8_take 71 = .ok (.iload_n 1, 1) := by decide +kernel
theorem dX8_take_72 : decode cX8_take 72 = .ok (.iaload, 1) := by decide +kernel
theorem dX8_take_73 : decode cX8_take 73 = .ok (.ireturn, 1) := by decide +kernel
theorem dX8_take_74 : decode cX8_take 74 = .ok (.aload_n 0, 1) := by decide +kernel
theorem dX8_take_75 : decode cX8_take 75 = .ok (.getfield 19, 3) := by decide +kernel
theorem dX8_take_78 : decode cX8_take 78 = .ok (.iload_n 1, 1) := by decide +kernel
theorem dX8_take_79 : decode cX8_take 79 = .ok (.invokevirtual 222, 3) := by decide +kernel
theorem dX8_take_82 : decode cX8_take 82 = .ok (.ireturn, 1) := by decide +kernel
theorem dX8_take_83 : decode cX8_take 83 = .ok (.ldc 65, 2) := by decide +kernel
theorem dX8_take_85 : decode cX8_take 85 = .ok (.ireturn, 1) := by decide +kernel
theorem dX8_roll_0 : decode cX8_roll 0 = .ok (.iload_n 1, 1) := by decide +kernel
theorem dX8_roll_1 : decode cX8_roll 1 = .ok (.ifCond .lt 14, 3) := by decide +kernel
theorem dX8_roll_4 : decode cX8_roll 4 = .ok (.iload_n 1, 1) := by decide +kernel
theorem dX8_roll_5 : decode cX8_roll 5 = .ok (.aload_n 0, 1) := by decide +kernel
theorem dX8_roll_6 : decode cX8_roll 6 = .ok (.getfield 19, 3) := by decide +kernel
theorem dX8_roll_9 : decode cX8_roll 9 = .ok (.getfield 156, 3) := by decide +kernel
theorem dX8_roll_12 : decode cX8_roll 12 = .ok (.if_icmp .lt 6, 3) := by decide +kernel
theorem dX8_roll_15 : decode cX8_roll 15 = .ok (.ldc 65, 2) := by decide +kernel
theorem dX8_roll_17 : decode cX8_roll 17 = .ok (.ireturn, 1) := by decide +kernel
theorem dX8_roll_18 : decode cX8_roll 18 = .ok (.iload_n 2, 1) := by decide +kernel
theorem dX8_roll_19 : decode cX8_roll 19 = .ok (.tableswitch 55 0 2 #[25, 35, 45], 25) := by decide +kernel
theorem dX8_roll_44 : decode cX8_roll 44 = .ok (.aload_n 0, 1) := by decide +kernel
theorem dX8_roll_45 : decode cX8_roll 45 = .ok (.getfield 19, 3) := by decide +kernel
theorem dX8_roll_48 : decode cX8_roll 48 = .ok (.getfield 225, 3) := by decide +kernel
theorem dX8_roll_51 : decode cX8_roll 51 = .ok (.iload_n 1, 1) := by decide +kernel
theorem dX8_roll_52 : decode cX8_roll 52 = .ok (.iaload, 1) := by decide +kernel
theorem dX8_roll_53 : decode cX8_roll 53 = .ok (.ireturn, 1) := by decide +kernel
theorem dX8_roll_54 : decode cX8_roll 54 = .ok (.aload_n 0, 1) := by decide +kernel
theorem dX8_roll_55 : decode cX8_roll 55 = .ok (.getfield 19, 3) := by decide +kernel
theorem dX8_roll_58 : decode cX8_roll 58 = .ok (.getfield 228, 3) := by decide +kernel
theorem dX8_roll_61 : decode cX8_roll 61 = .ok (.iload_n 1, 1) := by decide +kernel
theorem dX8_roll_62 : decode cX8_roll 62 = .ok (.iaload, 1) := by decide +kernel
theorem dX8_roll_63 : decode cX8_roll 63 = .ok (.ireturn, 1) := by decide +kernel
theorem dX8_roll_64 : decode cX8_roll 64 = .ok (.aload_n 0, 1) := by decide +kernel
theorem dX8_roll_65 : decode cX8_roll 65 = .ok (.getfield 19, 3) := by decide +kernel
theorem dX8_roll_68 : decode cX8_roll 68 = .ok (.getfield 231, 3) := by decide +kernel
theorem dX8_roll_71 : decode cX8_roll 71 = .ok (.iload_n 1, 1) := by decide +kernel
theorem dX8_roll_72 : decode cX8_roll 72 = .ok (.iaload, 1) := by decide +kernel
theorem dX8_roll_73 : decode cX8_roll 73 = .ok (.ireturn, 1) := by decide +kernel
theorem dX8_roll_74 : decode cX8_roll 74 = .ok (.ldc 65, 2) := by decide +kernel
theorem dX8_roll_76 : decode cX8_roll 76 = .ok (.ireturn, 1) := by decide +kernel
theorem dX8_sums_0 : decode cX8_sums 0 = .ok (.iload_n 1, 1) := by decide +kernel
theorem dX8_sums_1 : decode cX8_sums 1 = .ok (.tableswitch 140 0 7 #[47, 55, 63, 100, 108, 116, 124, 132], 47) := by decide +kernel
theorem dX8_sums_48 : decode cX8_sums 48 = .ok (.aload_n 0, 1) := by decide +kernel
theorem dX8_sums_49 : decode cX8_sums 49 = .ok (.getfield 19, 3) := by decide +kernel
theorem dX8_sums_52 : decode cX8_sums 52 = .ok (.getfield 234, 3) := by decide +kernel
theorem dX8_sums_55 : decode cX8_sums 55 = .ok (.ireturn, 1) := by decide +kernel
theorem dX8_sums_56 : decode cX8_sums 56 = .ok (.aload_n 0, 1) := by decide +kernel
theorem dX8_sums_57 : decode cX8_sums 57 = .ok (.getfield 19, 3) := by decide +kernel
theorem dX8_sums_60 : decode cX8_sums 60 = .ok (.invokevirtual 237, 3) := by decide +kernel
theorem dX8_sums_63 : decode cX8_sums 63 = .ok (.ireturn, 1) := by decide +kernel
theorem dX8_sums_64 : decode cX8_sums 64 = .ok (.aload_n 0, 1) := by decide +kernel
theorem dX8_sums_65 : decode cX8_sums 65 = .ok (.getfield 19, 3) := by decide +kernel
theorem dX8_sums_68 : decode cX8_sums 68 = .ok (.aload_n 0, 1) := by decide +kernel
theorem dX8_sums_69 : decode cX8_sums 69 = .ok (.getfield 19, 3) := by decide +kernel
theorem dX8_sums_72 : decode cX8_sums 72 = .ok (.getfield 106, 3) := by decide +kernel
theorem dX8_sums_75 : decode cX8_sums 75 = .ok (.invokevirtual 103, 3) := by decide +kernel
theorem dX8_sums_78 : decode cX8_sums 78 = .ok (.ifCond .eq 21, 3) := by decide +kernel
theorem dX8_sums_81 : decode cX8_sums 81 = .ok (.aload_n 0, 1) := by decide +kernel
theorem dX8_sums_82 : decode cX8_sums 82 = .ok (.getfield 19, 3) := by decide +kernel
theorem dX8_sums_85 : decode cX8_sums 85 = .ok (.getfield 114, 3) := by decide +kernel
theorem dX8_sums_88 : decode cX8_sums 88 = .ok (.aload_n 0, 1) := by decide +kernel
theorem dX8_sums_89 : decode cX8_sums 89 = .ok (.getfield 19, 3) := by decide +kernel
theorem dX8_sums_92 : decode cX8_sums 92 = .ok (.getfield 106, 3) := by decide +kernel
theorem dX8_sums_95 : decode cX8_sums 95 = .ok (.iaload, 1) := by decide +kernel
theorem dX8_sums_96 : decode cX8_sums 96 = .ok (.goto 4, 3) := by decide +kernel
theorem dX8_sums_99 : decode cX8_sums 99 = .ok (.iconst 0, 1) := by decide +kernel
theorem dX8_sums_100 : decode cX8_sums 100 = .ok (.ireturn, 1) := by decide +kernel
theorem dX8_sums_101 : decode cX8_sums 101 = .ok (.aload_n 0, 1) := by decide +kernel
theorem dX8_sums_102 : decode cX8_sums 102 = .ok (.getfield 19, 3) := by decide +kernel
theorem dX8_sums_105 : decode cX8_sums 105 = .ok (.getfield 241, 3) := by decide +kernel
theorem dX8_sums_108 : decode cX8_sums 108 = .ok (.ireturn, 1) := by decide +kernel
theorem dX8_sums_109 : decode cX8_sums 109 = .ok (.aload_n 0, 1) := by decide +kernel
theorem dX8_sums_110 : decode cX8_sums 110 = .ok (.getfield 19, 3) := by decide +kernel
theorem dX8_sums_113 : decode cX8_sums 113 = .ok (.getfield 244, 3) := by decide +kernel
theorem dX8_sums_116 : decode cX8_sums 116 = .ok (.ireturn, 1) := by decide +kernel
theorem dX8_sums_117 : decode cX8_sums 117 = .ok (.aload_n 0, 1) := by decide +kernel
theorem dX8_sums_118 : decode cX8_sums 118 = .ok (.getfield 19, 3) := by decide +kernel
theorem dX8_sums_121 : decode cX8_sums 121 = .ok (.invokevirtual 247, 3) := by decide +kernel
theorem dX8_sums_124 : decode cX8_sums 124 = .ok (.ireturn, 1) := by decide +kernel
theorem dX8_sums_125 : decode cX8_sums 125 = .ok (.aload_n 0, 1) := by decide +kernel
theorem dX8_sums_126 : decode cX8_sums 126 = .ok (.getfield 19, 3) := by decide +kernel
theorem dX8_sums_129 : decode cX8_sums 129 = .ok (.getfield 250, 3) := by decide +kernel
theorem dX8_sums_132 : decode cX8_sums 132 = .ok (.ireturn, 1) := by decide +kernel
theorem dX8_sums_133 : decode cX8_sums 133 = .ok (.aload_n 0, 1) := by decide +kernel
theorem dX8_sums_134 : decode cX8_sums 134 = .ok (.getfield 19, 3) := by decide +kernel
theorem dX8_sums_137 : decode cX8_sums 137 = .ok (.getfield 153, 3) := by decide +kernel
theorem dX8_sums_140 : decode cX8_sums 140 = .ok (.ireturn, 1) := by decide +kernel
theorem dX8_sums_141 : decode cX8_sums 141 = .ok (.ldc 65, 2) := by decide +kernel
theorem dX8_sums_143 : decode cX8_sums 143 = .ok (.ireturn, 1) := by decide +kernel
theorem dX8_batches_0 : decode cX8_batches 0 = .ok (.iload_n 1, 1) := by decide +kernel
theorem dX8_batches_1 : decode cX8_batches 1 = .ok (.lookupswitch 51 #[(0, 27), (1, 39)], 27) := by decide +kernel
theorem dX8_batches_28 : decode cX8_batches 28 = .ok (.aload_n 0, 1) := by decide +kernel
theorem dX8_batches_29 : decode cX8_batches 29 = .ok (.getfield 40, 3) := by decide +kernel
theorem dX8_batches_32 : decode cX8_batches 32 = .ok (.aload_n 0, 1) := by decide +kernel
theorem dX8_batches_33 : decode cX8_batches 33 = .ok (.getfield 19, 3) := by decide +kernel
theorem dX8_batches_36 : decode cX8_batches 36 = .ok (.invokevirtual 162, 3) := by decide +kernel
theorem dX8_batches_39 : decode cX8_batches 39 = .ok (.ireturn, 1) := by decide +kernel
theorem dX8_batches_40 : decode cX8_batches 40 = .ok (.aload_n 0, 1) := by decide +kernel
theorem dX8_batches_41 : decode cX8_batches 41 = .ok (.getfield 40, 3) := by decide +kernel
theorem dX8_batches_44 : decode cX8_batches 44 = .ok (.aload_n 0, 1) := by decide +kernel
theorem dX8_batches_45 : decode cX8_batches 45 = .ok (.getfield 19, 3) := by decide +kernel
theorem dX8_batches_48 : decode cX8_batches 48 = .ok (.invokevirtual 253, 3) := by decide +kernel
theorem dX8_batches_51 : decode cX8_batches 51 = .ok (.ireturn, 1) := by decide +kernel
theorem dX8_batches_52 : decode cX8_batches 52 = .ok (.ldc 65, 2) := by decide +kernel
theorem dX8_batches_54 : decode cX8_batches 54 = .ok (.ireturn, 1) := by decide +kernel
theorem dX8_as_0 : decode cX8_as 0 = .ok (.aload_n 0, 1) := by decide +kernel
theorem dX8_as_1 : decode cX8_as 1 = .ok (.getfield 19, 3) := by decide +kernel
theorem dX8_as_4 : decode cX8_as 4 = .ok (.iload_n 1, 1) := by decide +kernel
theorem dX8_as_5 : decode cX8_as 5 = .ok (.invokevirtual 103, 3) := by decide +kernel
theorem dX8_as_8 : decode cX8_as 8 = .ok (.ifCond .eq 10, 3) := by decide +kernel
theorem dX8_as_11 : decode cX8_as 11 = .ok (.iload_n 2, 1) := by decide +kernel
theorem dX8_as_12 : decode cX8_as 12 = .ok (.invokestatic 189, 3) := by decide +kernel
theorem dX8_as_15 : decode cX8_as 15 = .ok (.ifCond .ne 6, 3) := by decide +kernel
theorem dX8_as_18 : decode cX8_as 18 = .ok (.ldc 65, 2) := by decide +kernel
theorem dX8_as_20 : decode cX8_as 20 = .ok (.ireturn, 1) := by decide +kernel
theorem dX8_as_21 : decode cX8_as 21 = .ok (.aload_n 0, 1) := by decide +kernel
theorem dX8_as_22 : decode cX8_as 22 = .ok (.getfield 19, 3) := by decide +kernel
theorem dX8_as_25 : decode cX8_as 25 = .ok (.getfield 141, 3) := by decide +kernel
theorem dX8_as_28 : decode cX8_as 28 = .ok (.iload_n 1, 1) := by decide +kernel
theorem dX8_as_29 : decode cX8_as 29 = .ok (.iaload, 1) := by decide +kernel
theorem dX8_as_30 : decode cX8_as 30 = .ok (.iload_n 2, 1) := by decide +kernel
theorem dX8_as_31 : decode cX8_as 31 = .ok (.invokestatic 256, 3) := by decide +kernel
theorem dX8_as_34 : decode cX8_as 34 = .ok (.ifCond .eq 7, 3) := by decide +kernel
theorem dX8_as_37 : decode cX8_as 37 = .ok (.iload_n 1, 1) := by decide +kernel
theorem dX8_as_38 : decode cX8_as 38 = .ok (.goto 5, 3) := by decide +kernel
theorem dX8_as_41 : decode cX8_as 41 = .ok (.ldc 109, 2) := by decide +kernel
theorem dX8_as_43 : decode cX8_as 43 = .ok (.ireturn, 1) := by decide +kernel
theorem dX8_fits_0 : decode cX8_fits 0 = .ok (.aload_n 0, 1) := by decide +kernel
theorem dX8_fits_1 : decode cX8_fits 1 = .ok (.getfield 19, 3) := by decide +kernel
theorem dX8_fits_4 : decode cX8_fits 4 = .ok (.iload_n 1, 1) := by decide +kernel
theorem dX8_fits_5 : decode cX8_fits 5 = .ok (.invokevirtual 103, 3) := by decide +kernel
theorem dX8_fits_8 : decode cX8_fits 8 = .ok (.ifCond .eq 17, 3) := by decide +kernel
theorem dX8_fits_11 : decode cX8_fits 11 = .ok (.iload_n 2, 1) := by decide +kernel
theorem dX8_fits_12 : decode cX8_fits 12 = .ok (.aload_n 0, 1) := by decide +kernel
theorem dX8_fits_13 : decode cX8_fits 13 = .ok (.getfield 19, 3) := by decide +kernel
theorem dX8_fits_16 : decode cX8_fits 16 = .ok (.invokevirtual 259, 3) := by decide +kernel
theorem dX8_fits_19 : decode cX8_fits 19 = .ok (.iconst (-1), 1) := by decide +kernel
theorem dX8_fits_20 : decode cX8_fits 20 = .ok (.ixor, 1) := by decide +kernel
theorem dX8_fits_21 : decode cX8_fits 21 = .ok (.iand, 1) := by decide +kernel
theorem dX8_fits_22 : decode cX8_fits 22 = .ok (.ifCond .eq 6, 3) := by decide +kernel
theorem dX8_fits_25 : decode cX8_fits 25 = .ok (.ldc 65, 2) := by decide +kernel
theorem dX8_fits_27 : decode cX8_fits 27 = .ok (.ireturn, 1) := by decide +kernel
theorem dX8_fits_28 : decode cX8_fits 28 = .ok (.aload_n 0, 1) := by decide +kernel
theorem dX8_fits_29 : decode cX8_fits 29 = .ok (.getfield 19, 3) := by decide +kernel
theorem dX8_fits_32 : decode cX8_fits 32 = .ok (.iload_n 1, 1) := by decide +kernel
theorem dX8_fits_33 : decode cX8_fits 33 = .ok (.invokevirtual 262, 3) := by decide +kernel
theorem dX8_fits_36 : decode cX8_fits 36 = .ok (.ifCond .ne 6, 3) := by decide +kernel
theorem dX8_fits_39 : decode cX8_fits 39 = .ok (.ldc 109, 2) := by decide +kernel
theorem dX8_fits_41 : decode cX8_fits 41 = .ok (.ireturn, 1) := by decide +kernel
theorem dX8_fits_42 : decode cX8_fits 42 = .ok (.iload_n 2, 1) := by decide +kernel
theorem dX8_fits_43 : decode cX8_fits 43 = .ok (.ifCond .ne 13, 3) := by decide +kernel
theorem dX8_fits_46 : decode cX8_fits 46 = .ok (.aload_n 0, 1) := by decide +kernel
theorem dX8_fits_47 : decode cX8_fits 47 = .ok (.getfield 19, 3) := by decide +kernel
theorem dX8_fits_50 : decode cX8_fits 50 = .ok (.getfield 114, 3) := by decide +kernel
theorem dX8_fits_53 : decode cX8_fits 53 = .ok (.iload_n 1, 1) := by decide +kernel
theorem dX8_fits_54 : decode cX8_fits 54 = .ok (.iaload, 1) := by decide +kernel
theorem dX8_fits_55 : decode cX8_fits 55 = .ok (.ireturn, 1) := by decide +kernel
theorem dX8_fits_56 : decode cX8_fits 56 = .ok (.aload_n 0, 1) := by decide +kernel
theorem dX8_fits_57 : decode cX8_fits 57 = .ok (.getfield 47, 3) := by decide +kernel
theorem dX8_fits_60 : decode cX8_fits 60 = .ok (.aload_n 0, 1) := by decide +kernel
theorem dX8_fits_61 : decode cX8_fits 61 = .ok (.getfield 19, 3) := by decide +kernel
theorem dX8_fits_64 : decode cX8_fits 64 = .ok (.invokevirtual 265, 3) := by decide +kernel
theorem dX8_fits_67 : decode cX8_fits 67 = .ok (.aload_n 0, 1) := by decide +kernel
theorem dX8_fits_68 : decode cX8_fits 68 = .ok (.getfield 47, 3) := by decide +kernel
theorem dX8_fits_71 : decode cX8_fits 71 = .ok (.iload_n 1, 1) := by decide +kernel
theorem dX8_fits_72 : decode cX8_fits 72 = .ok (.iload_n 2, 1) := by decide +kernel
theorem dX8_fits_73 : decode cX8_fits 73 = .ok (.invokevirtual 268, 3) := by decide +kernel
theorem dX8_fits_76 : decode cX8_fits 76 = .ok (.ifCond .eq 17, 3) := by decide +kernel
theorem dX8_fits_79 : decode cX8_fits 79 = .ok (.aload_n 0, 1) := by decide +kernel
theorem dX8_fits_80 : decode cX8_fits 80 = .ok (.getfield 47, 3) := by decide +kernel
theorem dX8_fits_83 : decode cX8_fits 83 = .ok (.getfield 271, 3) := by decide +kernel
theorem dX8_fits_86 : decode cX8_fits 86 = .ok (.iload_n 1, 1) := by decide +kernel
theorem dX8_fits_87 : decode cX8_fits 87 = .ok (.aaload, 1) := by decide +kernel
theorem dX8_fits_88 : decode cX8_fits 88 = .ok (.iload_n 2, 1) := by decide +kernel
theorem dX8_fits_89 : decode cX8_fits 89 = .ok (.iaload, 1) := by decide +kernel
theorem dX8_fits_90 : decode cX8_fits 90 = .ok (.goto 5, 3) := by decide +kernel
theorem dX8_fits_93 : decode cX8_fits 93 = .ok (.ldc 109, 2) := by decide +kernel
theorem dX8_fits_95 : decode cX8_fits 95 = .ok (.ireturn, 1) := by decide +kernel
theorem dX8_plan_0 : decode cX8_plan 0 = .ok (.aload_n 0, 1) := by decide +kernel
theorem dX8_plan_1 : decode cX8_plan 1 = .ok (.invokevirtual 175, 3) := by decide +kernel
theorem dX8_plan_4 : decode cX8_plan 4 = .ok (.ifCond .eq 6, 3) := by decide +kernel
theorem dX8_plan_7 : decode cX8_plan 7 = .ok (.ldc 102, 2) := by decide +kernel
theorem dX8_plan_9 : decode cX8_plan 9 = .ok (.ireturn, 1) := by decide +kernel
theorem dX8_plan_10 : decode cX8_plan 10 = .ok (.iload_n 1, 1) := by decide +kernel
theorem dX8_plan_11 : decode cX8_plan 11 = .ok (.invokestatic 275, 3) := by decide +kernel
theorem dX8_plan_14 : decode cX8_plan 14 = .ok (.ifCond .ne 6, 3) := by decide +kernel
theorem dX8_plan_17 : decode cX8_plan 17 = .ok (.ldc 65, 2) := by decide +kernel
theorem dX8_plan_19 : decode cX8_plan 19 = .ok (.ireturn, 1) := by decide +kernel
theorem dX8_plan_20 : decode cX8_plan 20 = .ok (.aload_n 0, 1) := by decide +kernel
theorem dX8_plan_21 : decode cX8_plan 21 = .ok (.aload_n 0, 1) := by decide +kernel
theorem dX8_plan_22 : decode cX8_plan 22 = .ok (.invokevirtual 278, 3) := by decide +kernel
theorem dX8_plan_25 : decode cX8_plan 25 = .ok (.iload_n 1, 1) := by decide +kernel
theorem dX8_plan_26 : decode cX8_plan 26 = .ok (.invokevirtual 281, 3) := by decide +kernel
theorem dX8_plan_29 : decode cX8_plan 29 = .ok (.ireturn, 1) := by decide +kernel
theorem dX8_planOf_0 : decode cX8_planOf 0 = .ok (.aload_n 0, 1) := by decide +kernel
theorem dX8_planOf_1 : decode cX8_planOf 1 = .ok (.getfield 19, 3) := by decide +kernel
theorem dX8_planOf_4 : decode cX8_planOf 4 = .ok (.iload_n 1, 1) := by decide +kernel
theorem dX8_planOf_5 : decode cX8_planOf 5 = .ok (.invokevirtual 103, 3) := by decide +kernel
theorem dX8_planOf_8 : decode cX8_planOf 8 = .ok (.ifCond .ne 6, 3) := by decide +kernel
theorem dX8_planOf_11 : decode cX8_planOf 11 = .ok (.ldc 65, 2) := by decide +kernel
theorem dX8_planOf_13 : decode cX8_planOf 13 = .ok (.ireturn, 1) := by decide +kernel
theorem dX8_planOf_14 : decode cX8_planOf 14 = .ok (.aload_n 0, 1) := by decide +kernel
theorem dX8_planOf_15 : decode cX8_planOf 15 = .ok (.invokevirtual 278, 3) := by decide +kernel
theorem dX8_planOf_18 : decode cX8_planOf 18 = .ok (.ifCond .eq 15, 3) := by decide +kernel
theorem dX8_planOf_21 : decode cX8_planOf 21 = .ok (.aload_n 0, 1) := by decide +kernel
theorem dX8_planOf_22 : decode cX8_planOf 22 = .ok (.getfield 47, 3) := by decide +kernel
theorem dX8_planOf_25 : decode cX8_planOf 25 = .ok (.getfield 285, 3) := by decide +kernel
theorem dX8_planOf_28 : decode cX8_planOf 28 = .ok (.iload_n 1, 1) := by decide +kernel
theorem dX8_planOf_29 : decode cX8_planOf 29 = .ok (.iaload, 1) := by decide +kernel
theorem dX8_planOf_30 : decode cX8_planOf 30 = .ok (.goto 5, 3) := by decide +kernel
theorem dX8_planOf_33 : decode cX8_planOf 33 = .ok (.ldc 109, 2) := by decide +kernel
theorem dX8_planOf_35 : decode cX8_planOf 35 = .ok (.ireturn, 1) := by decide +kernel
theorem dX8_rule_0 : decode cX8_rule 0 = .ok (.aload_n 0, 1) := by decide +kernel
theorem dX8_rule_1 : decode cX8_rule 1 = .ok (.invokevirtual 175, 3) := by decide +kernel
theorem dX8_rule_4 : decode cX8_rule 4 = .ok (.ifCond .eq 6, 3) := by decide +kernel
theorem dX8_rule_7 : decode cX8_rule 7 = .ok (.ldc 102, 2) := by decide +kernel
theorem dX8_rule_9 : decode cX8_rule 9 = .ok (.ireturn, 1) := by decide +kernel
theorem dX8_rule_10 : decode cX8_rule 10 = .ok (.iload_n 1, 1) := by decide +kernel
theorem dX8_rule_11 : decode cX8_rule 11 = .ok (.invokestatic 275, 3) := by decide +kernel
theorem dX8_rule_14 : decode cX8_rule 14 = .ok (.ifCond .eq 10, 3) := by decide +kernel
theorem dX8_rule_17 : decode cX8_rule 17 = .ok (.iload_n 2, 1) := by decide +kernel
theorem dX8_rule_18 : decode cX8_rule 18 = .ok (.invokestatic 275, 3) := by decide +kernel
theorem dX8_rule_21 : decode cX8_rule 21 = .ok (.ifCond .ne 6, 3) := by decide +kernel
theorem dX8_rule_24 : decode cX8_rule 24 = .ok (.ldc 65, 2) := by decide +kernel
theorem dX8_rule_26 : decode cX8_rule 26 = .ok (.ireturn, 1) := by decide +kernel
theorem dX8_rule_27 : decode cX8_rule 27 = .ok (.aload_n 0, 1) := by decide +kernel
theorem dX8_rule_28 : decode cX8_rule 28 = .ok (.aload_n 0, 1) := by decide +kernel
theorem dX8_rule_29 : decode cX8_rule 29 = .ok (.iload_n 1, 1) := by decide +kernel
theorem dX8_rule_30 : decode cX8_rule 30 = .ok (.invokevirtual 288, 3) := by decide +kernel
theorem dX8_rule_33 : decode cX8_rule 33 = .ok (.iload_n 2, 1) := by decide +kernel
theorem dX8_rule_34 : decode cX8_rule 34 = .ok (.invokevirtual 281, 3) := by decide +kernel
theorem dX8_rule_37 : decode cX8_rule 37 = .ok (.ireturn, 1) := by decide +kernel
theorem dX8_ruleOf_0 : decode cX8_ruleOf 0 = .ok (.iload_n 1, 1) := by decide +kernel
theorem dX8_ruleOf_1 : decode cX8_ruleOf 1 = .ok (.invokestatic 275, 3) := by decide +kernel
theorem dX8_ruleOf_4 : decode cX8_ruleOf 4 = .ok (.ifCond .eq 14, 3) := by decide +kernel
theorem dX8_ruleOf_7 : decode cX8_ruleOf 7 = .ok (.aload_n 0, 1) := by decide +kernel
theorem dX8_ruleOf_8 : decode cX8_ruleOf 8 = .ok (.getfield 19, 3) := by decide +kernel
theorem dX8_ruleOf_11 : decode cX8_ruleOf 11 = .ok (.iload_n 2, 1) := by decide +kernel
theorem dX8_ruleOf_12 : decode cX8_ruleOf 12 = .ok (.invokevirtual 103, 3) := by decide +kernel
theorem dX8_ruleOf_15 : decode cX8_ruleOf 15 = .ok (.ifCond .ne 6, 3) := by decide +kernel
theorem dX8_ruleOf_18 : decode cX8_ruleOf 18 = .ok (.ldc 65, 2) := by decide +kernel
theorem dX8_ruleOf_20 : decode cX8_ruleOf 20 = .ok (.ireturn, 1) := by decide +kernel
theorem dX8_ruleOf_21 : decode cX8_ruleOf 21 = .ok (.aload_n 0, 1) := by decide +kernel
theorem dX8_ruleOf_22 : decode cX8_ruleOf 22 = .ok (.iload_n 1, 1) := by decide +kernel
theorem dX8_ruleOf_23 : decode cX8_ruleOf 23 = .ok (.invokevirtual 288, 3) := by decide +kernel
theorem dX8_ruleOf_26 : decode cX8_ruleOf 26 = .ok (.ifCond .eq 15, 3) := by decide +kernel
theorem dX8_ruleOf_29 : decode cX8_ruleOf 29 = .ok (.aload_n 0, 1) := by decide +kernel
theorem dX8_ruleOf_30 : decode cX8_ruleOf 30 = .ok (.getfield 47, 3) := by decide +kernel
theorem dX8_ruleOf_33 : decode cX8_ruleOf 33 = .ok (.getfield 285, 3) := by decide +kernel
theorem dX8_ruleOf_36 : decode cX8_ruleOf 36 = .ok (.iload_n 2, 1) := by decide +kernel
theorem dX8_ruleOf_37 : decode cX8_ruleOf 37 = .ok (.iaload, 1) := by decide +kernel
theorem dX8_ruleOf_38 : decode cX8_ruleOf 38 = .ok (.goto 5, 3) := by decide +kernel
theorem dX8_ruleOf_41 : decode cX8_ruleOf 41 = .ok (.ldc 109, 2) := by decide +kernel
theorem dX8_ruleOf_43 : decode cX8_ruleOf 43 = .ok (.ireturn, 1) := by decide +kernel
theorem dX8_longer_0 : decode cX8_longer 0 = .ok (.aload_n 0, 1) := by decide +kernel
theorem dX8_longer_1 : decode cX8_longer 1 = .ok (.getfield 19, 3) := by decide +kernel
theorem dX8_longer_4 : decode cX8_longer 4 = .ok (.iload_n 1, 1) := by decide +kernel
theorem dX8_longer_5 : decode cX8_longer 5 = .ok (.invokevirtual 128, 3) := by decide +kernel
theorem dX8_longer_8 : decode cX8_longer 8 = .ok (.ifCond .ne 6, 3) := by decide +kernel
theorem dX8_longer_11 : decode cX8_longer 11 = .ok (.ldc 65, 2) := by decide +kernel
theorem dX8_longer_13 : decode cX8_longer 13 = .ok (.ireturn, 1) := by decide +kernel
theorem dX8_longer_14 : decode cX8_longer 14 = .ok (.aload_n 0, 1) := by decide +kernel
theorem dX8_longer_15 : decode cX8_longer 15 = .ok (.getfield 19, 3) := by decide +kernel
theorem dX8_longer_18 : decode cX8_longer 18 = .ok (.iload_n 1, 1) := by decide +kernel
theorem dX8_longer_19 : decode cX8_longer 19 = .ok (.invokevirtual 131, 3) := by decide +kernel
theorem dX8_longer_22 : decode cX8_longer 22 = .ok (.ifCond .ne 6, 3) := by decide +kernel
theorem dX8_longer_25 : decode cX8_longer 25 = .ok (.ldc 102, 2) := by decide +kernel
theorem dX8_longer_27 : decode cX8_longer 27 = .ok (.ireturn, 1) := by decide +kernel
theorem dX8_longer_28 : decode cX8_longer 28 = .ok (.aload_n 0, 1) := by decide +kernel
theorem dX8_longer_29 : decode cX8_longer 29 = .ok (.invokevirtual 291, 3) := by decide +kernel
theorem dX8_longer_32 : decode cX8_longer 32 = .ok (.aload_n 0, 1) := by decide +kernel
theorem dX8_longer_33 : decode cX8_longer 33 = .ok (.getfield 61, 3) := by decide +kernel
theorem dX8_longer_36 : decode cX8_longer 36 = .ok (.iload_n 1, 1) := by decide +kernel
theorem dX8_longer_37 : decode cX8_longer 37 = .ok (.aload_n 0, 1) := by decide +kernel
theorem dX8_longer_38 : decode cX8_longer 38 = .ok (.getfield 47, 3) := by decide +kernel
theorem dX8_longer_41 : decode cX8_longer 41 = .ok (.invokevirtual 294, 3) := by decide +kernel
theorem dX8_longer_44 : decode cX8_longer 44 = .ok (.istore_n 2, 1) := by decide +kernel
theorem dX8_longer_45 : decode cX8_longer 45 = .ok (.iload_n 2, 1) := by decide +kernel
theorem dX8_longer_46 : decode cX8_longer 46 = .ok (.iconst 1, 1) := by decide +kernel
theorem dX8_longer_47 : decode cX8_longer 47 = .ok (.if_icmp .ge 8, 3) := by decide +kernel
theorem dX8_longer_50 : decode cX8_longer 50 = .ok (.ldc 109, 2) := by decide +kernel
theorem dX8_longer_52 : decode cX8_longer 52 = .ok (.goto 9, 3) := by decide +kernel
theorem dX8_longer_55 : decode cX8_longer 55 = .ok (.iload_n 2, 1) := by decide +kernel
theorem dX8_longer_56 : decode cX8_longer 56 = .ok (.bipush 60, 2) := by decide +kernel
theorem dX8_longer_58 : decode cX8_longer 58 = .ok (.invokestatic 298, 3) := by decide +kernel
theorem dX8_longer_61 : decode cX8_longer 61 = .ok (.ireturn, 1) := by decide +kernel
theorem dX8_more_0 : decode cX8_more 0 = .ok (.aload_n 0, 1) := by decide +kernel
theorem dX8_more_1 : decode cX8_more 1 = .ok (.invokevirtual 175, 3) := by decide +kernel
theorem dX8_more_4 : decode cX8_more 4 = .ok (.ifCond .eq 6, 3) := by decide +kernel
theorem dX8_more_7 : decode cX8_more 7 = .ok (.ldc 102, 2) := by decide +kernel
theorem dX8_more_9 : decode cX8_more 9 = .ok (.ireturn, 1) := by decide +kernel
theorem dX8_more_10 : decode cX8_more 10 = .ok (.iload_n 1, 1) := by decide +kernel
theorem dX8_more_11 : decode cX8_more 11 = .ok (.invokestatic 179, 3) := by decide +kernel
theorem dX8_more_14 : decode cX8_more 14 = .ok (.ifCond .ne 6, 3) := by decide +kernel
theorem dX8_more_17 : decode cX8_more 17 = .ok (.ldc 65, 2) := by decide +kernel
theorem dX8_more_19 : decode cX8_more 19 = .ok (.ireturn, 1) := by decide +kernel
theorem dX8_more_20 : decode cX8_more 20 = .ok (.aload_n 0, 1) := by decide +kernel
theorem dX8_more_21 : decode cX8_more 21 = .ok (.invokevirtual 291, 3) := by decide +kernel
theorem dX8_more_24 : decode cX8_more 24 = .ok (.aload_n 0, 1) := by decide +kernel
theorem dX8_more_25 : decode cX8_more 25 = .ok (.getfield 61, 3) := by decide +kernel
theorem dX8_more_28 : decode cX8_more 28 = .ok (.aload_n 0, 1) := by decide +kernel
theorem dX8_more_29 : decode cX8_more 29 = .ok (.getfield 47, 3) := by decide +kernel
theorem dX8_more_32 : decode cX8_more 32 = .ok (.invokevirtual 303, 3) := by decide +kernel
theorem dX8_more_35 : decode cX8_more 35 = .ok (.ifCond .eq 5, 3) := by decide +kernel
theorem dX8_more_38 : decode cX8_more 38 = .ok (.iconst 0, 1) := by decide +kernel
theorem dX8_more_39 : decode cX8_more 39 = .ok (.ireturn, 1) := by decide +kernel
theorem dX8_more_40 : decode cX8_more 40 = .ok (.iload_n 1, 1) := by decide +kernel
theorem dX8_more_41 : decode cX8_more 41 = .ok (.aload_n 0, 1) := by decide +kernel
theorem dX8_more_42 : decode cX8_more 42 = .ok (.getfield 19, 3) := by decide +kernel
theorem dX8_more_45 : decode cX8_more 45 = .ok (.getfield 210, 3) := by decide +kernel
theorem dX8_more_48 : decode cX8_more 48 = .ok (.iconst 0, 1) := by decide +kernel
theorem dX8_more_49 : decode cX8_more 49 = .ok (.iaload, 1) := by decide +kernel
theorem dX8_more_50 : decode cX8_more 50 = .ok (.invokestatic 307, 3) := by decide +kernel
theorem dX8_more_53 : decode cX8_more 53 = .ok (.istore_n 2, 1) := by decide +kernel
theorem dX8_more_54 : decode cX8_more 54 = .ok (.aload_n 0, 1) := by decide +kernel
theorem dX8_more_55 : decode cX8_more 55 = .ok (.getfield 61, 3) := by decide +kernel
theorem dX8_more_58 : decode cX8_more 58 = .ok (.aload_n 0, 1) := by decide +kernel
theorem dX8_more_59 : decode cX8_more 59 = .ok (.getfield 47, 3) := by decide +kernel
theorem dX8_more_62 : decode cX8_more 62 = .ok (.aload_n 0, 1) := by decide +kernel
theorem dX8_more_63 : decode cX8_more 63 = .ok (.getfield 19, 3) := by decide +kernel
theorem dX8_more_66 : decode cX8_more 66 = .ok (.iload_n 1, 1) := by decide +kernel
theorem dX8_more_67 : decode cX8_more 67 = .ok (.invokevirtual 309, 3) := by decide +kernel
theorem dX8_more_70 : decode cX8_more 70 = .ok (.iload_n 2, 1) := by decide +kernel
theorem dX8_more_71 : decode cX8_more 71 = .ok (.iload_n 1, 1) := by decide +kernel
theorem dX8_more_72 : decode cX8_more 72 = .ok (.invokestatic 144, 3) := by decide +kernel
theorem dX8_more_75 : decode cX8_more 75 = .ok (.invokevirtual 312, 3) := by decide +kernel
theorem dX8_more_78 : decode cX8_more 78 = .ok (.istore_n 3, 1) := by decide +kernel
theorem dX8_more_79 : decode cX8_more 79 = .ok (.iload_n 3, 1) := by decide +kernel
theorem dX8_more_80 : decode cX8_more 80 = .ok (.bipush 99, 2) := by decide +kernel
theorem dX8_more_82 : decode cX8_more 82 = .ok (.if_icmp .le 8, 3) := by decide +kernel
theorem dX8_more_85 : decode cX8_more 85 = .ok (.ldc 109, 2) := by decide +kernel
theorem dX8_more_87 : decode cX8_more 87 = .ok (.goto 4, 3) := by decide +kernel
theorem dX8_more_90 : decode cX8_more 90 = .ok (.iload_n 3, 1) := by decide +kernel
theorem dX8_more_91 : decode cX8_more 91 = .ok (.ireturn, 1) := by decide +kernel
theorem dX8_needed_0 : decode cX8_needed 0 = .ok (.aload_n 0, 1) := by decide +kernel
theorem dX8_needed_1 : decode cX8_needed 1 = .ok (.invokevirtual 175, 3) := by decide +kernel
theorem dX8_needed_4 : decode cX8_needed 4 = .ok (.ifCond .eq 6, 3) := by decide +kernel
theorem dX8_needed_7 : decode cX8_needed 7 = .ok (.ldc 102, 2) := by decide +kernel
theorem dX8_needed_9 : decode cX8_needed 9 = .ok (.ireturn, 1) := by decide +kernel
theorem dX8_needed_10 : decode cX8_needed 10 = .ok (.aload_n 0, 1) := by decide +kernel
theorem dX8_needed_11 : decode cX8_needed 11 = .ok (.invokevirtual 291, 3) := by decide +kernel
theorem dX8_needed_14 : decode cX8_needed 14 = .ok (.aload_n 0, 1) := by decide +kernel
theorem dX8_needed_15 : decode cX8_needed 15 = .ok (.getfield 61, 3) := by decide +kernel
theorem dX8_needed_18 : decode cX8_needed 18 = .ok (.aload_n 0, 1) := by decide +kernel
theorem dX8_needed_19 : decode cX8_needed 19 = .ok (.getfield 47, 3) := by decide +kernel
theorem dX8_needed_22 : decode cX8_needed 22 = .ok (.invokevirtual 303, 3) := by decide +kernel
theorem dX8_needed_25 : decode cX8_needed 25 = .ok (.ifCond .eq 17, 3) := by decide +kernel
theorem dX8_needed_28 : decode cX8_needed 28 = .ok (.aload_n 0, 1) := by decide +kernel
theorem dX8_needed_29 : decode cX8_needed 29 = .ok (.getfield 61, 3) := by decide +kernel
theorem dX8_needed_32 : decode cX8_needed 32 = .ok (.aload_n 0, 1) := by decide +kernel
theorem dX8_needed_33 : decode cX8_needed 33 = .ok (.getfield 47, 3) := by decide +kernel
theorem dX8_needed_36 : decode cX8_needed 36 = .ok (.invokevirtual 316, 3) := by decide +kernel
theorem dX8_needed_39 : decode cX8_needed 39 = .ok (.goto 5, 3) := by decide +kernel
theorem dX8_needed_42 : decode cX8_needed 42 = .ok (.ldc 109, 2) := by decide +kernel
theorem dX8_needed_44 : decode cX8_needed 44 = .ok (.ireturn, 1) := by decide +kernel
theorem dX8_fogged_0 : decode cX8_fogged 0 = .ok (.aload_n 0, 1) := by decide +kernel
theorem dX8_fogged_1 : decode cX8_fogged 1 = .ok (.invokevirtual 175, 3) := by decide +kernel
theorem dX8_fogged_4 : decode cX8_fogged 4 = .ok (.ifCond .eq 7, 3) := by decide +kernel
theorem dX8_fogged_7 : decode cX8_fogged 7 = .ok (.ldc2_w 320, 3) := by decide +kernel
theorem dX8_fogged_10 : decode cX8_fogged 10 = .ok (.lreturn, 1) := by decide +kernel
theorem dX8_fogged_11 : decode cX8_fogged 11 = .ok (.iload_n 1, 1) := by decide +kernel
theorem dX8_fogged_12 : decode cX8_fogged 12 = .ok (.ifCond .lt 16, 3) := by decide +kernel
theorem dX8_fogged_15 : decode cX8_fogged 15 = .ok (.iload_n 1, 1) := by decide +kernel
theorem dX8_fogged_16 : decode cX8_fogged 16 = .ok (.bipush 10, 2) := by decide +kernel
theorem dX8_fogged_18 : decode cX8_fogged 18 = .ok (.if_icmp .gt 10, 3) := by decide +kernel
theorem dX8_fogged_21 : decode cX8_fogged 21 = .ok (.iload_n 2, 1) := by decide +kernel
theorem dX8_fogged_22 : decode cX8_fogged 22 = .ok (.invokestatic 275, 3) := by decide +kernel
theorem dX8_fogged_25 : decode cX8_fogged 25 = .ok (.ifCond .ne 7, 3) := by decide +kernel
theorem dX8_fogged_28 : decode cX8_fogged 28 = .ok (.ldc2_w 322, 3) := by decide +kernel
theorem dX8_fogged_31 : decode cX8_fogged 31 = .ok (.lreturn, 1) := by decide +kernel
theorem dX8_fogged_32 : decode cX8_fogged 32 = .ok (.aload_n 0, 1) := by decide +kernel
theorem dX8_fogged_33 : decode cX8_fogged 33 = .ok (.invokevirtual 291, 3) := by decide +kernel
theorem dX8_fogged_36 : decode cX8_fogged 36 = .ok (.aload_n 0, 1) := by decide +kernel
theorem dX8_fogged_37 : decode cX8_fogged 37 = .ok (.getfield 61, 3) := by decide +kernel
theorem dX8_fogged_40 : decode cX8_fogged 40 = .ok (.aload_n 0, 1) := by decide +kernel
theorem dX8_fogged_41 : decode cX8_fogged 41 = .ok (.getfield 47, 3) := by decide +kernel
theorem dX8_fogged_44 : decode cX8_fogged 44 = .ok (.iload_n 1, 1) := by decide +kernel
theorem dX8_fogged_45 : decode cX8_fogged 45 = .ok (.invokevirtual 324, 3) := by decide +kernel
theorem dX8_fogged_48 : decode cX8_fogged 48 = .ok (.lstore_n 3, 1) := by decide +kernel
theorem dX8_fogged_49 : decode cX8_fogged 49 = .ok (.bipush 10, 2) := by decide +kernel
theorem dX8_fogged_51 : decode cX8_fogged 51 = .ok (.aload_n 0, 1) := by decide +kernel
theorem dX8_fogged_52 : decode cX8_fogged 52 = .ok (.getfield 47, 3) := by decide +kernel
theorem dX8_fogged_55 : decode cX8_fogged 55 = .ok (.getfield 328, 3) := by decide +kernel
theorem dX8_fogged_58 : decode cX8_fogged 58 = .ok (.invokestatic 331, 3) := by decide +kernel
theorem dX8_fogged_61 : decode cX8_fogged 61 = .ok (.invokestatic 336, 3) := by decide +kernel
theorem dX8_fogged_64 : decode cX8_fogged 64 = .ok (.lstore 5, 2) := by decide +kernel
theorem dX8_fogged_66 : decode cX8_fogged 66 = .ok (.lload_n 3, 1) := by decide +kernel
theorem dX8_fogged_67 : decode cX8_fogged 67 = .ok (.lload 5, 2) := by decide +kernel
theorem dX8_fogged_69 : decode cX8_fogged 69 = .ok (.invokestatic 340, 3) := by decide +kernel
theorem dX8_fogged_72 : decode cX8_fogged 72 = .ok (.lstore 7, 2) := by decide +kernel
theorem dX8_fogged_74 : decode cX8_fogged 74 = .ok (.lload 7, 2) := by decide +kernel
theorem dX8_fogged_76 : decode cX8_fogged 76 = .ok (.lconst 1, 1) := by decide +kernel
theorem dX8_fogged_77 : decode cX8_fogged 77 = .ok (.lcmp, 1) := by decide +kernel
theorem dX8_fogged_78 : decode cX8_fogged 78 = .ok (.ifCond .ge 7, 3) := by decide +kernel
theorem dX8_fogged_81 : decode cX8_fogged 81 = .ok (.ldc2_w 322, 3) := by decide +kernel
theorem dX8_fogged_84 : decode cX8_fogged 84 = .ok (.lreturn, 1) := by decide +kernel
theorem dX8_fogged_85 : decode cX8_fogged 85 = .ok (.iload_n 2, 1) := by decide +kernel
theorem dX8_fogged_86 : decode cX8_fogged 86 = .ok (.ifCond .ne 10, 3) := by decide +kernel
theorem dX8_fogged_89 : decode cX8_fogged 89 = .ok (.lload_n 3, 1) := by decide +kernel
theorem dX8_fogged_90 : decode cX8_fogged 90 = .ok (.lload 7, 2) := by decide +kernel
theorem dX8_fogged_92 : decode cX8_fogged 92 = .ok (.ldiv, 1) := by decide +kernel
theorem dX8_fogged_93 : decode cX8_fogged 93 = .ok (.goto 8, 3) := by decide +kernel
theorem dX8_fogged_96 : decode cX8_fogged 96 = .ok (.lload 5, 2) := by decide +kernel
theorem dX8_fogged_98 : decode cX8_fogged 98 = .ok (.lload 7, 2) := by decide +kernel
theorem dX8_fogged_100 : decode cX8_fogged 100 = .ok (.ldiv, 1) := by decide +kernel
theorem dX8_fogged_101 : decode cX8_fogged 101 = .ok (.lreturn, 1) := by decide +kernel
theorem dX8_drawn_0 : decode cX8_drawn 0 = .ok (.aload_n 0, 1) := by decide +kernel
theorem dX8_drawn_1 : decode cX8_drawn 1 = .ok (.invokevirtual 175, 3) := by decide +kernel
theorem dX8_drawn_4 : decode cX8_drawn 4 = .ok (.ifCond .eq 6, 3) := by decide +kernel
theorem dX8_drawn_7 : decode cX8_drawn 7 = .ok (.ldc 102, 2) := by decide +kernel
theorem dX8_drawn_9 : decode cX8_drawn 9 = .ok (.ireturn, 1) := by decide +kernel
theorem dX8_drawn_10 : decode cX8_drawn 10 = .ok (.iload_n 1, 1) := by decide +kernel
theorem dX8_drawn_11 : decode cX8_drawn 11 = .ok (.ifCond .lt 28, 3) := by decide +kernel
theorem dX8_drawn_14 : decode cX8_drawn 14 = .ok (.iload_n 1, 1) := by decide +kernel
theorem dX8_drawn_15 : decode cX8_drawn 15 = .ok (.bipush 20, 2) := by decide +kernel
theorem dX8_drawn_17 : decode cX8_drawn 17 = .ok (.if_icmp .gt 22, 3) := by decide +kernel
theorem dX8_drawn_20 : decode cX8_drawn 20 = .ok (.iload_n 2, 1) := by decide +kernel
theorem dX8_drawn_21 : decode cX8_drawn 21 = .ok (.iconst 1, 1) := by decide +kernel
theorem dX8_drawn_22 : decode cX8_drawn 22 = .ok (.if_icmp .lt 17, 3) := by decide +kernel
theorem dX8_drawn_25 : decode cX8_drawn 25 = .ok (.iload_n 2, 1) := by decide +kernel
theorem dX8_drawn_26 : decode cX8_drawn 26 = .ok (.ldc_w 344, 3) := by decide +kernel
theorem dX8_drawn_29 : decode cX8_drawn 29 = .ok (.if_icmp .gt 10, 3) := by decide +kernel
theorem dX8_drawn_32 : decode cX8_drawn 32 = .ok (.iload_n 3, 1) := by decide +kernel
theorem dX8_drawn_33 : decode cX8_drawn 33 = .ok (.invokestatic 275, 3) := by decide +kernel
theorem dX8_drawn_36 : decode cX8_drawn 36 = .ok (.ifCond .ne 6, 3) := by decide +kernel
theorem dX8_drawn_39 : decode cX8_drawn 39 = .ok (.ldc 65, 2) := by decide +kernel
theorem dX8_drawn_41 : decode cX8_drawn 41 = .ok (.ireturn, 1) := by decide +kernel
theorem dX8_drawn_42 : decode cX8_drawn 42 = .ok (.aload_n 0, 1) := by decide +kernel
theorem dX8_drawn_43 : decode cX8_drawn 43 = .ok (.getfield 47, 3) := by decide +kernel
theorem dX8_drawn_46 : decode cX8_drawn 46 = .ok (.aload_n 0, 1) := by decide +kernel
theorem dX8_drawn_47 : decode cX8_drawn 47 = .ok (.getfield 19, 3) := by decide +kernel
theorem dX8_drawn_50 : decode cX8_drawn 50 = .ok (.invokevirtual 265, 3) := by decide +kernel
theorem dX8_drawn_53 : decode cX8_drawn 53 = .ok (.iload_n 2, 1) := by decide +kernel
theorem dX8_drawn_54 : decode cX8_drawn 54 = .ok (.i2l, 1) := by decide +kernel
theorem dX8_drawn_55 : decode cX8_drawn 55 = .ok (.lstore 4, 2) := by decide +kernel
theorem dX8_drawn_57 : decode cX8_drawn 57 = .ok (.iconst 0, 1) := by decide +kernel
theorem dX8_drawn_58 : decode cX8_drawn 58 = .ok (.istore 6, 2) := by decide +kernel
theorem dX8_drawn_60 : decode cX8_drawn 60 = .ok (.iconst 0, 1) := by decide +kernel
theorem dX8_drawn_61 : decode cX8_drawn 61 = .ok (.istore 7, 2) := by decide +kernel
theorem dX8_drawn_63 : decode cX8_drawn 63 = .ok (.iconst 0, 1) := by decide +kernel
theorem dX8_drawn_64 : decode cX8_drawn 64 = .ok (.istore 8, 2) := by decide +kernel
theorem dX8_drawn_66 : decode cX8_drawn 66 = .ok (.iload 8, 2) := by decide +kernel
theorem dX8_drawn_68 : decode cX8_drawn 68 = .ok (.iload_n 1, 1) := by decide +kernel
theorem dX8_drawn_69 : decode cX8_drawn 69 = .ok (.if_icmp .ge 62, 3) := by decide +kernel
theorem dX8_drawn_72 : decode cX8_drawn 72 = .ok (.lload 4, 2) := by decide +kernel
theorem dX8_drawn_74 : decode cX8_drawn 74 = .ok (.ldc2_w 345, 3) := by decide +kernel
theorem dX8_drawn_77 : decode cX8_drawn 77 = .ok (.lmul, 1) := by decide +kernel
theorem dX8_drawn_78 : decode cX8_drawn 78 = .ok (.ldc2_w 347, 3) := by decide +kernel
theorem dX8_drawn_81 : decode cX8_drawn 81 = .ok (.lrem, 1) := by decide +kernel
theorem dX8_drawn_82 : decode cX8_drawn 82 = .ok (.lstore 4, 2) := by decide +kernel
theorem dX8_drawn_84 : decode cX8_drawn 84 = .ok (.aload_n 0, 1) := by decide +kernel
theorem dX8_drawn_85 : decode cX8_drawn 85 = .ok (.getfield 47, 3) := by decide +kernel
theorem dX8_drawn_88 : decode cX8_drawn 88 = .ok (.lload 4, 2) := by decide +kernel
theorem dX8_drawn_90 : decode cX8_drawn 90 = .ok (.invokevirtual 349, 3) := by decide +kernel
theorem dX8_drawn_93 : decode cX8_drawn 93 = .ok (.aload_n 0, 1) := by decide +kernel
theorem dX8_drawn_94 : decode cX8_drawn 94 = .ok (.getfield 54, 3) := by decide +kernel
theorem dX8_drawn_97 : decode cX8_drawn 97 = .ok (.aload_n 0, 1) := by decide +kernel
theorem dX8_drawn_98 : decode cX8_drawn 98 = .ok (.getfield 47, 3) := by decide +kernel
theorem dX8_drawn_101 : decode cX8_drawn 101 = .ok (.invokevirtual 353, 3) := by decide +kernel
theorem dX8_drawn_104 : decode cX8_drawn 104 = .ok (.ifCond .eq 18, 3) := by decide +kernel
theorem dX8_drawn_107 : decode cX8_drawn 107 = .ok (.iload 6, 2) := by decide +kernel
theorem dX8_drawn_109 : decode cX8_drawn 109 = .ok (.aload_n 0, 1) := by decide +kernel
theorem dX8_drawn_110 : decode cX8_drawn 110 = .ok (.getfield 47, 3) := by decide +kernel
theorem dX8_drawn_113 : decode cX8_drawn 113 = .ok (.invokevirtual 355, 3) := by decide +kernel
theorem dX8_drawn_116 : decode cX8_drawn 116 = .ok (.iadd, 1) := by decide +kernel
theorem dX8_drawn_117 : decode cX8_drawn 117 = .ok (.istore 6, 2) := by decide +kernel
theorem dX8_drawn_119 : decode cX8_drawn 119 = .ok (.goto 6, 3) := by decide +kernel
theorem dX8_drawn_122 : decode cX8_drawn 122 = .ok (.iinc 7 1, 3) := by decide +kernel
theorem dX8_drawn_125 : decode cX8_drawn 125 = .ok (.iinc 8 1, 3) := by decide +kernel
theorem dX8_drawn_128 : decode cX8_drawn 128 = .ok (.goto (-62), 3) := by decide +kernel
theorem dX8_drawn_131 : decode cX8_drawn 131 = .ok (.iload_n 3, 1) := by decide +kernel
theorem dX8_drawn_132 : decode cX8_drawn 132 = .ok (.ifCond .ne 8, 3) := by decide +kernel
theorem dX8_drawn_135 : decode cX8_drawn 135 = .ok (.iload 6, 2) := by decide +kernel
theorem dX8_drawn_137 : decode cX8_drawn 137 = .ok (.goto 5, 3) := by decide +kernel
theorem dX8_drawn_140 : decode cX8_drawn 140 = .ok (.iload 7, 2) := by decide +kernel
theorem dX8_drawn_142 : decode cX8_drawn 142 = .ok (.ireturn, 1) := by decide +kernel
theorem dX8_image_0 : decode cX8_image 0 = .ok (.iload_n 1, 1) := by decide +kernel
theorem dX8_image_1 : decode cX8_image 1 = .ok (.ifCond .lt 8, 3) := by decide +kernel
theorem dX8_image_4 : decode cX8_image 4 = .ok (.iload_n 1, 1) := by decide +kernel
theorem dX8_image_5 : decode cX8_image 5 = .ok (.iconst 2, 1) := by decide +kernel
theorem dX8_image_6 : decode cX8_image 6 = .ok (.if_icmp .lt 6, 3) := by decide +kernel
theorem dX8_image_9 : decode cX8_image 9 = .ok (.ldc 65, 2) := by decide +kernel
theorem dX8_image_11 : decode cX8_image 11 = .ok (.ireturn, 1) := by decide +kernel
theorem dX8_image_12 : decode cX8_image 12 = .ok (.aload_n 0, 1) := by decide +kernel
theorem dX8_image_13 : decode cX8_image 13 = .ok (.invokevirtual 175, 3) := by decide +kernel
theorem dX8_image_16 : decode cX8_image 16 = .ok (.ifCond .eq 6, 3) := by decide +kernel
theorem dX8_image_19 : decode cX8_image 19 = .ok (.ldc 102, 2) := by decide +kernel
theorem dX8_image_21 : decode cX8_image 21 = .ok (.ireturn, 1) := by decide +kernel
theorem dX8_image_22 : decode cX8_image 22 = .ok (.aload_n 0, 1) := by decide +kernel
theorem dX8_image_23 : decode cX8_image 23 = .ok (.getfield 33, 3) := by decide +kernel
theorem dX8_image_26 : decode cX8_image 26 = .ok (.iload_n 1, 1) := by decide +kernel
theorem dX8_image_27 : decode cX8_image 27 = .ok (.aaload, 1) := by decide +kernel
theorem dX8_image_28 : decode cX8_image 28 = .ok (.aload_n 0, 1) := by decide +kernel
theorem dX8_image_29 : decode cX8_image 29 = .ok (.getfield 19, 3) := by decide +kernel
theorem dX8_image_32 : decode cX8_image 32 = .ok (.invokevirtual 83, 3) := by decide +kernel
theorem dX8_image_35 : decode cX8_image 35 = .ok (.iconst 1, 1) := by decide +kernel
theorem dX8_image_36 : decode cX8_image 36 = .ok (.ireturn, 1) := by decide +kernel
theorem dX8_restore_0 : decode cX8_restore 0 = .ok (.iload_n 1, 1) := by decide +kernel
theorem dX8_restore_1 : decode cX8_restore 1 = .ok (.ifCond .lt 8, 3) := by decide +kernel
theorem dX8_restore_4 : decode cX8_restore 4 = .ok (.iload_n 1, 1) := by decide +kernel
theorem dX8_restore_5 : decode cX8_restore 5 = .ok (.iconst 2, 1) := by decide +kernel
theorem dX8_restore_6 : decode cX8_restore 6 = .ok (.if_icmp .lt 6, 3) := by decide +kernel
theorem dX8_restore_9 : decode cX8_restore 9 = .ok (.ldc 65, 2) := by decide +kernel
theorem dX8_restore_11 : decode cX8_restore 11 = .ok (.ireturn, 1) := by decide +kernel
theorem dX8_restore_12 : decode cX8_restore 12 = .ok (.aload_n 0, 1) := by decide +kernel
theorem dX8_restore_13 : decode cX8_restore 13 = .ok (.getfield 33, 3) := by decide +kernel
theorem dX8_restore_16 : decode cX8_restore 16 = .ok (.iload_n 1, 1) := by decide +kernel
theorem dX8_restore_17 : decode cX8_restore 17 = .ok (.aaload, 1) := by decide +kernel
theorem dX8_restore_18 : decode cX8_restore 18 = .ok (.invokevirtual 358, 3) := by decide +kernel
theorem dX8_restore_21 : decode cX8_restore 21 = .ok (.ifCond .eq 6, 3) := by decide +kernel
theorem dX8_restore_24 : decode cX8_restore 24 = .ok (.ldc 102, 2) := by decide +kernel
theorem dX8_restore_26 : decode cX8_restore 26 = .ok (.ireturn, 1) := by decide +kernel
theorem dX8_restore_27 : decode cX8_restore 27 = .ok (.aload_n 0, 1) := by decide +kernel
theorem dX8_restore_28 : decode cX8_restore 28 = .ok (.getfield 19, 3) := by decide +kernel
theorem dX8_restore_31 : decode cX8_restore 31 = .ok (.aload_n 0, 1) := by decide +kernel
theorem dX8_restore_32 : decode cX8_restore 32 = .ok (.getfield 33, 3) := by decide +kernel
theorem dX8_restore_35 : decode cX8_restore 35 = .ok (.iload_n 1, 1) := by decide +kernel
theorem dX8_restore_36 : decode cX8_restore 36 = .ok (.aaload, 1) := by decide +kernel
theorem dX8_restore_37 : decode cX8_restore 37 = .ok (.invokevirtual 83, 3) := by decide +kernel
theorem dX8_restore_40 : decode cX8_restore 40 = .ok (.aload_n 0, 1) := by decide +kernel
theorem dX8_restore_41 : decode cX8_restore 41 = .ok (.getfield 29, 3) := by decide +kernel
theorem dX8_restore_44 : decode cX8_restore 44 = .ok (.invokevirtual 87, 3) := by decide +kernel
theorem dX8_restore_47 : decode cX8_restore 47 = .ok (.iconst 1, 1) := by decide +kernel
theorem dX8_restore_48 : decode cX8_restore 48 = .ok (.ireturn, 1) := by decide +kernel
theorem dX8_count_0 : decode cX8_count 0 = .ok (.iload_n 1, 1) := by decide +kernel
theorem dX8_count_1 : decode cX8_count 1 = .ok (.tableswitch 105 0 6 #[43, 51, 59, 70, 81, 89, 97], 43) := by decide +kernel
theorem dX8_count_44 : decode cX8_count 44 = .ok (.aload_n 0, 1) := by decide +kernel
theorem dX8_count_45 : decode cX8_count 45 = .ok (.getfield 19, 3) := by decide +kernel
theorem dX8_count_48 : decode cX8_count 48 = .ok (.getfield 90, 3) := by decide +kernel
theorem dX8_count_51 : decode cX8_count 51 = .ok (.ireturn, 1) := by decide +kernel
theorem dX8_count_52 : decode cX8_count 52 = .ok (.aload_n 0, 1) := by decide +kernel
theorem dX8_count_53 : decode cX8_count 53 = .ok (.getfield 19, 3) := by decide +kernel
theorem dX8_count_56 : decode cX8_count 56 = .ok (.getfield 195, 3) := by decide +kernel
theorem dX8_count_59 : decode cX8_count 59 = .ok (.ireturn, 1) := by decide +kernel
theorem dX8_count_60 : decode cX8_count 60 = .ok (.aload_n 0, 1) := by decide +kernel
theorem dX8_count_61 : decode cX8_count 61 = .ok (.getfield 19, 3) := by decide +kernel
theorem dX8_count_64 : decode cX8_count 64 = .ok (.invokevirtual 259, 3) := by decide +kernel
theorem dX8_count_67 : decode cX8_count 67 = .ok (.invokestatic 331, 3) := by decide +kernel
theorem dX8_count_70 : decode cX8_count 70 = .ok (.ireturn, 1) := by decide +kernel
theorem dX8_count_71 : decode cX8_count 71 = .ok (.aload_n 0, 1) := by decide +kernel
theorem dX8_count_72 : decode cX8_count 72 = .ok (.getfield 19, 3) := by decide +kernel
theorem dX8_count_75 : decode cX8_count 75 = .ok (.invokevirtual 361, 3) := by decide +kernel
theorem dX8_count_78 : decode cX8_count 78 = .ok (.invokestatic 331, 3) := by decide +kernel
theorem dX8_count_81 : decode cX8_count 81 = .ok (.ireturn, 1) := by decide +kernel
theorem dX8_count_82 : decode cX8_count 82 = .ok (.aload_n 0, 1) := by decide +kernel
theorem dX8_count_83 : decode cX8_count 83 = .ok (.getfield 19, 3) := by decide +kernel
theorem dX8_count_86 : decode cX8_count 86 = .ok (.getfield 156, 3) := by decide +kernel
theorem dX8_count_89 : decode cX8_count 89 = .ok (.ireturn, 1) := by decide +kernel
theorem dX8_count_90 : decode cX8_count 90 = .ok (.aload_n 0, 1) := by decide +kernel
theorem dX8_count_91 : decode cX8_count 91 = .ok (.getfield 29, 3) := by decide +kernel
theorem dX8_count_94 : decode cX8_count 94 = .ok (.getfield 99, 3) := by decide +kernel
theorem dX8_count_97 : decode cX8_count 97 = .ok (.ireturn, 1) := by decide +kernel
theorem dX8_count_98 : decode cX8_count 98 = .ok (.aload_n 0, 1) := by decide +kernel
theorem dX8_count_99 : decode cX8_count 99 = .ok (.getfield 10, 3) := by decide +kernel
theorem dX8_count_102 : decode cX8_count 102 = .ok (.getfield 70, 3) := by decide +kernel
theorem dX8_count_105 : decode cX8_count 105 = .ok (.ireturn, 1) := by decide +kernel
theorem dX8_count_106 : decode cX8_count 106 = .ok (.ldc 65, 2) := by decide +kernel
theorem dX8_count_108 : decode cX8_count 108 = .ok (.ireturn, 1) := by decide +kernel
theorem dX8_hasNoBook_0 : decode cX8_hasNoBook 0 = .ok (.aload_n 0, 1) := by decide +kernel
theorem dX8_hasNoBook_1 : decode cX8_hasNoBook 1 = .ok (.getfield 19, 3) := by decide +kernel
theorem dX8_hasNoBook_4 : decode cX8_hasNoBook 4 = .ok (.invokevirtual 358, 3) := by decide +kernel
theorem dX8_hasNoBook_7 : decode cX8_hasNoBook 7 = .ok (.ireturn, 1) := by decide +kernel
theorem dX8_isCanKind_0 : decode cX8_isCanKind 0 = .ok (.iload_n 0, 1) := by decide +kernel
theorem dX8_isCanKind_1 : decode cX8_isCanKind 1 = .ok (.ifCond .eq 14, 3) := by decide +kernel
theorem dX8_isCanKind_4 : decode cX8_isCanKind 4 = .ok (.iload_n 0, 1) := by decide +kernel
theorem dX8_isCanKind_5 : decode cX8_isCanKind 5 = .ok (.invokestatic 189, 3) := by decide +kernel
theorem dX8_isCanKind_8 : decode cX8_isCanKind 8 = .ok (.ifCond .eq 7, 3) := by decide +kernel
theorem dX8_isCanKind_11 : decode cX8_isCanKind 11 = .ok (.iconst 1, 1) := by decide +kernel
theorem dX8_isCanKind_12 : decode cX8_isCanKind 12 = .ok (.goto 4, 3) := by decide +kernel
theorem dX8_isCanKind_15 : decode cX8_isCanKind 15 = .ok (.iconst 0, 1) := by decide +kernel
theorem dX8_isCanKind_16 : decode cX8_isCanKind 16 = .ok (.ireturn, 1) := by decide +kernel
theorem dX8_isCanFeet_0 : decode cX8_isCanFeet 0 = .ok (.iload_n 0, 1) := by decide +kernel
theorem dX8_isCanFeet_1 : decode cX8_isCanFeet 1 = .ok (.iconst 1, 1) := by decide +kernel
theorem dX8_isCanFeet_2 : decode cX8_isCanFeet 2 = .ok (.if_icmp .lt 13, 3) := by decide +kernel
theorem dX8_isCanFeet_5 : decode cX8_isCanFeet 5 = .ok (.iload_n 0, 1) := by decide +kernel
theorem dX8_isCanFeet_6 : decode cX8_isCanFeet 6 = .ok (.bipush 99, 2) := by decide +kernel
theorem dX8_isCanFeet_8 : decode cX8_isCanFeet 8 = .ok (.if_icmp .gt 7, 3) := by decide +kernel
theorem dX8_isCanFeet_11 : decode cX8_isCanFeet 11 = .ok (.iconst 1, 1) := by decide +kernel
theorem dX8_isCanFeet_12 : decode cX8_isCanFeet 12 = .ok (.goto 4, 3) := by decide +kernel
theorem dX8_isCanFeet_15 : decode cX8_isCanFeet 15 = .ok (.iconst 0, 1) := by decide +kernel
theorem dX8_isCanFeet_16 : decode cX8_isCanFeet 16 = .ok (.ireturn, 1) := by decide +kernel
theorem dX8_isTakeFeet_0 : decode cX8_isTakeFeet 0 = .ok (.iload_n 0, 1) := by decide +kernel
theorem dX8_isTakeFeet_1 : decode cX8_isTakeFeet 1 = .ok (.iconst 1, 1) := by decide +kernel
theorem dX8_isTakeFeet_2 : decode cX8_isTakeFeet 2 = .ok (.if_icmp .lt 13, 3) := by decide +kernel
theorem dX8_isTakeFeet_5 : decode cX8_isTakeFeet 5 = .ok (.iload_n 0, 1) := by decide +kernel
theorem dX8_isTakeFeet_6 : decode cX8_isTakeFeet 6 = .ok (.bipush 60, 2) := by decide +kernel
theorem dX8_isTakeFeet_8 : decode cX8_isTakeFeet 8 = .ok (.if_icmp .gt 7, 3) := by decide +kernel
theorem dX8_isTakeFeet_11 : decode cX8_isTakeFeet 11 = .ok (.iconst 1, 1) := by decide +kernel
theorem dX8_isTakeFeet_12 : decode cX8_isTakeFeet 12 = .ok (.goto 4, 3) := by decide +kernel
theorem dX8_isTakeFeet_15 : decode cX8_isTakeFeet 15 = .ok (.iconst 0, 1) := by decide +kernel
theorem dX8_isTakeFeet_16 : decode cX8_isTakeFeet 16 = .ok (.ireturn, 1) := by decide +kernel
theorem dX8_isZeroOrOne_0 : decode cX8_isZeroOrOne 0 = .ok (.iload_n 0, 1) := by decide +kernel
theorem dX8_isZeroOrOne_1 : decode cX8_isZeroOrOne 1 = .ok (.ifCond .eq 8, 3) := by decide +kernel
theorem dX8_isZeroOrOne_4 : decode cX8_isZeroOrOne 4 = .ok (.iload_n 0, 1) := by decide +kernel
theorem dX8_isZeroOrOne_5 : decode cX8_isZeroOrOne 5 = .ok (.iconst 1, 1) := by decide +kernel
theorem dX8_isZeroOrOne_6 : decode cX8_isZeroOrOne 6 = .ok (.if_icmp .ne 7, 3) := by decide +kernel
theorem dX8_isZeroOrOne_9 : decode cX8_isZeroOrOne 9 = .ok (.iconst 1, 1) := by decide +kernel
theorem dX8_isZeroOrOne_10 : decode cX8_isZeroOrOne 10 = .ok (.goto 4, 3) := by decide +kernel
theorem dX8_isZeroOrOne_13 : decode cX8_isZeroOrOne 13 = .ok (.iconst 0, 1) := by decide +kernel
theorem dX8_isZeroOrOne_14 : decode cX8_isZeroOrOne 14 = .ok (.ireturn, 1) := by decide +kernel
theorem dX8_placeBest_0 : decode cX8_placeBest 0 = .ok (.aload_n 0, 1) := by decide +kernel
theorem dX8_placeBest_1 : decode cX8_placeBest 1 = .ok (.getfield 47, 3) := by decide +kernel
theorem dX8_placeBest_4 : decode cX8_placeBest 4 = .ok (.aload_n 0, 1) := by decide +kernel
theorem dX8_placeBest_5 : decode cX8_placeBest 5 = .ok (.getfield 19, 3) := by decide +kernel
theorem dX8_placeBest_8 : decode cX8_placeBest 8 = .ok (.invokevirtual 265, 3) := by decide +kernel
theorem dX8_placeBest_11 : decode cX8_placeBest 11 = .ok (.aload_n 0, 1) := by decide +kernel
theorem dX8_placeBest_12 : decode cX8_placeBest 12 = .ok (.getfield 54, 3) := by decide +kernel
theorem dX8_placeBest_15 : decode cX8_placeBest 15 = .ok (.aload_n 0, 1) := by decide +kernel
theorem dX8_placeBest_16 : decode cX8_placeBest 16 = .ok (.getfield 47, 3) := by decide +kernel
theorem dX8_placeBest_19 : decode cX8_placeBest 19 = .ok (.invokevirtual 353, 3) := by decide +kernel
theorem dX8_placeBest_22 : decode cX8_placeBest 22 = .ok (.ireturn, 1) := by decide +kernel
theorem dX8_placeByRule_0 : decode cX8_placeByRule 0 = .ok (.aload_n 0, 1) := by decide +kernel
theorem dX8_placeByRule_1 : decode cX8_placeByRule 1 = .ok (.getfield 47, 3) := by decide +kernel
theorem dX8_placeByRule_4 : decode cX8_placeByRule 4 = .ok (.aload_n 0, 1) := by decide +kernel
theorem dX8_placeByRule_5 : decode cX8_placeByRule 5 = .ok (.getfield 19, 3) := by decide +kernel
theorem dX8_placeByRule_8 : decode cX8_placeByRule 8 = .ok (.invokevirtual 265, 3) := by decide +kernel
theorem dX8_placeByRule_11 : decode cX8_placeByRule 11 = .ok (.aload_n 0, 1) := by decide +kernel
theorem dX8_placeByRule_12 : decode cX8_placeByRule 12 = .ok (.getfield 47, 3) := by decide +kernel
theorem dX8_placeByRule_15 : decode cX8_placeByRule 15 = .ok (.iload_n 1, 1) := by decide +kernel
theorem dX8_placeByRule_16 : decode cX8_placeByRule 16 = .ok (.iconst 1, 1) := by decide +kernel
theorem dX8_placeByRule_17 : decode cX8_placeByRule 17 = .ok (.if_icmp .ne 7, 3) := by decide +kernel
theorem dX8_placeByRule_20 : decode cX8_placeByRule 20 = .ok (.iconst 1, 1) := by decide +kernel
theorem dX8_placeByRule_21 : decode cX8_placeByRule 21 = .ok (.goto 4, 3) := by decide +kernel
theorem dX8_placeByRule_24 : decode cX8_placeByRule 24 = .ok (.iconst 0, 1) := by decide +kernel
theorem dX8_placeByRule_25 : decode cX8_placeByRule 25 = .ok (.invokevirtual 363, 3) := by decide +kernel
theorem dX8_placeByRule_28 : decode cX8_placeByRule 28 = .ok (.ireturn, 1) := by decide +kernel
theorem dX8_wholeAnswer_0 : decode cX8_wholeAnswer 0 = .ok (.iload_n 1, 1) := by decide +kernel
theorem dX8_wholeAnswer_1 : decode cX8_wholeAnswer 1 = .ok (.ifCond .ne 6, 3) := by decide +kernel
theorem dX8_wholeAnswer_4 : decode cX8_wholeAnswer 4 = .ok (.ldc 109, 2) := by decide +kernel
theorem dX8_wholeAnswer_6 : decode cX8_wholeAnswer 6 = .ok (.ireturn, 1) := by decide +kernel
theorem dX8_wholeAnswer_7 : decode cX8_wholeAnswer 7 = .ok (.iload_n 2, 1) := by decide +kernel
theorem dX8_wholeAnswer_8 : decode cX8_wholeAnswer 8 = .ok (.ifCond .ne 13, 3) := by decide +kernel
theorem dX8_wholeAnswer_11 : decode cX8_wholeAnswer 11 = .ok (.aload_n 0, 1) := by decide +kernel
theorem dX8_wholeAnswer_12 : decode cX8_wholeAnswer 12 = .ok (.getfield 47, 3) := by decide +kernel
theorem dX8_wholeAnswer_15 : decode cX8_wholeAnswer 15 = .ok (.invokevirtual 355, 3) := by decide +kernel
theorem dX8_wholeAnswer_18 : decode cX8_wholeAnswer 18 = .ok (.goto 10, 3) := by decide +kernel
theorem dX8_wholeAnswer_21 : decode cX8_wholeAnswer 21 = .ok (.aload_n 0, 1) := by decide +kernel
theorem dX8_wholeAnswer_22 : decode cX8_wholeAnswer 22 = .ok (.getfield 47, 3) := by decide +kernel
theorem dX8_wholeAnswer_25 : decode cX8_wholeAnswer 25 = .ok (.invokevirtual 367, 3) := by decide +kernel
theorem dX8_wholeAnswer_28 : decode cX8_wholeAnswer 28 = .ok (.ireturn, 1) := by decide +kernel
theorem dX8_lookAhead_0 : decode cX8_lookAhead 0 = .ok (.aload_n 0, 1) := by decide +kernel
theorem dX8_lookAhead_1 : decode cX8_lookAhead 1 = .ok (.getfield 47, 3) := by decide +kernel
theorem dX8_lookAhead_4 : decode cX8_lookAhead 4 = .ok (.aload_n 0, 1) := by decide +kernel
theorem dX8_lookAhead_5 : decode cX8_lookAhead 5 = .ok (.getfield 19, 3) := by decide +kernel
theorem dX8_lookAhead_8 : decode cX8_lookAhead 8 = .ok (.invokevirtual 265, 3) := by decide +kernel
theorem dX8_lookAhead_11 : decode cX8_lookAhead 11 = .ok (.aload_n 0, 1) := by decide +kernel
theorem dX8_lookAhead_12 : decode cX8_lookAhead 12 = .ok (.getfield 61, 3) := by decide +kernel
theorem dX8_lookAhead_15 : decode cX8_lookAhead 15 = .ok (.aload_n 0, 1) := by decide +kernel
theorem dX8_lookAhead_16 : decode cX8_lookAhead 16 = .ok (.getfield 47, 3) := by decide +kernel
theorem dX8_lookAhead_19 : decode cX8_lookAhead 19 = .ok (.invokevirtual 370, 3) := by decide +kernel
theorem dX8_lookAhead_22 : decode cX8_lookAhead 22 = .ok (.return_, 1) := by decide +kernel
theorem dX8_power_0 : decode cX8_power 0 = .ok (.lconst 1, 1) := by decide +kernel
theorem dX8_power_1 : decode cX8_power 1 = .ok (.lstore_n 2, 1) := by decide +kernel
theorem dX8_power_2 : decode cX8_power 2 = .ok (.iconst 0, 1) := by decide +kernel
theorem dX8_power_3 : decode cX8_power 3 = .ok (.istore 4, 2) := by decide +kernel
theorem dX8_power_5 : decode cX8_power 5 = .ok (.iload 4, 2) := by decide +kernel
theorem dX8_power_7 : decode cX8_power 7 = .ok (.iload_n 1, 1) := by decide +kernel
theorem dX8_power_8 : decode cX8_power 8 = .ok (.if_icmp .ge 14, 3) := by decide +kernel
theorem dX8_power_11 : decode cX8_power 11 = .ok (.lload_n 2, 1) := by decide +kernel
theorem dX8_power_12 : decode cX8_power 12 = .ok (.iload_n 0, 1) := by decide +kernel
theorem dX8_power_13 : decode cX8_power 13 = .ok (.i2l, 1) := by decide +kernel
theorem dX8_power_14 : decode cX8_power 14 = .ok (.lmul, 1) := by decide +kernel
theorem dX8_power_15 : decode cX8_power 15 = .ok (.lstore_n 2, 1) := by decide +kernel
theorem dX8_power_16 : decode cX8_power 16 = .ok (.iinc 4 1, 3) := by decide +kernel
theorem dX8_power_19 : decode cX8_power 19 = .ok (.goto (-14), 3) := by decide +kernel
theorem dX8_power_22 : decode cX8_power 22 = .ok (.lload_n 2, 1) := by decide +kernel
theorem dX8_power_23 : decode cX8_power 23 = .ok (.lreturn, 1) := by decide +kernel
theorem dX8_greatestDivisor_0 : decode cX8_greatestDivisor 0 = .ok (.iconst 0, 1) := by decide +kernel
theorem dX8_greatestDivisor_1 : decode cX8_greatestDivisor 1 = .ok (.istore 4, 2) := by decide +kernel
theorem dX8_greatestDivisor_3 : decode cX8_greatestDivisor 3 = .ok (.iload 4, 2) := by decide +kernel
theorem dX8_greatestDivisor_5 : decode cX8_greatestDivisor 5 = .ok (.bipush 100, 2) := by decide +kernel
theorem dX8_greatestDivisor_7 : decode cX8_greatestDivisor 7 = .ok (.if_icmp .ge 25, 3) := by decide +kernel
theorem dX8_greatestDivisor_10 : decode cX8_greatestDivisor 10 = .ok (.lload_n 2, 1) := by decide +kernel
theorem dX8_greatestDivisor_11 : decode cX8_greatestDivisor 11 = .ok (.lconst 0, 1) := by decide +kernel
theorem dX8_greatestDivisor_12 : decode cX8_greatestDivisor 12 = .ok (.lcmp, 1) := by decide +kernel
theorem dX8_greatestDivisor_13 : decode cX8_greatestDivisor 13 = .ok (.ifCond .eq 19, 3) := by decide +kernel
theorem dX8_greatestDivisor_16 : decode cX8_greatestDivisor 16 = .ok (.lload_n 0, 1) := by decide +kernel
theorem dX8_greatestDivisor_17 : decode cX8_greatestDivisor 17 = .ok (.lload_n 2, 1) := by decide +kernel
theorem dX8_greatestDivisor_18 : decode cX8_greatestDivisor 18 = .ok (.lrem, 1) := by decide +kernel
theorem dX8_greatestDivisor_19 : decode cX8_greatestDivisor 19 = .ok (.lstore 5, 2) := by decide +kernel
theorem dX8_greatestDivisor_21 : decode cX8_greatestDivisor 21 = .ok (.lload_n 2, 1) := by decide +kernel
theorem dX8_greatestDivisor_22 : decode cX8_greatestDivisor 22 = .ok (.lstore_n 0, 1) := by decide +kernel
theorem dX8_greatestDivisor_23 : decode cX8_greatestDivisor 23 = .ok (.lload 5, 2) := by decide +kernel
theorem dX8_greatestDivisor_25 : decode cX8_greatestDivisor 25 = .ok (.lstore_n 2, 1) := by decide +kernel
theorem dX8_greatestDivisor_26 : decode cX8_greatestDivisor 26 = .ok (.iinc 4 1, 3) := by decide +kernel
theorem dX8_greatestDivisor_29 : decode cX8_greatestDivisor 29 = .ok (.goto (-26), 3) := by decide +kernel
theorem dX8_greatestDivisor_32 : decode cX8_greatestDivisor 32 = .ok (.lload_n 0, 1) := by decide +kernel
theorem dX8_greatestDivisor_33 : decode cX8_greatestDivisor 33 = .ok (.lreturn, 1) := by decide +kernel
theorem dX9_init_0 : decode cX9_init 0 = .ok (.aload_n 0, 1) := by decide +kernel
theorem dX9_init_1 : decode cX9_init 1 = .ok (.invokespecial 1, 3) := by decide +kernel
theorem dX9_init_4 : decode cX9_init 4 = .ok (.aload_n 0, 1) := by decide +kernel
theorem dX9_init_5 : decode cX9_init 5 = .ok (.bipush 89, 2) := by decide +kernel
theorem dX9_init_7 : decode cX9_init 7 = .ok (.newarray .int, 2) := by decide +kernel
theorem dX9_init_9 : decode cX9_init 9 = .ok (.putfield 7, 3) := by decide +kernel
theorem dX9_init_12 : decode cX9_init 12 = .ok (.aload_n 0, 1) := by decide +kernel
theorem dX9_init_13 : decode cX9_init 13 = .ok (.bipush 89, 2) := by decide +kernel
theorem dX9_init_15 : decode cX9_init 15 = .ok (.newarray .int, 2) := by decide +kernel
theorem dX9_init_17 : decode cX9_init 17 = .ok (.putfield 13, 3) := by decide +kernel
theorem dX9_init_20 : decode cX9_init 20 = .ok (.aload_n 0, 1) := by decide +kernel
theorem dX9_init_21 : decode cX9_init 21 = .ok (.sipush 1780, 3) := by decide +kernel
theorem dX9_init_24 : decode cX9_init 24 = .ok (.newarray .int, 2) := by decide +kernel
theorem dX9_init_26 : decode cX9_init 26 = .ok (.putfield 16, 3) := by decide +kernel
theorem dX9_init_29 : decode cX9_init 29 = .ok (.aload_n 0, 1) := by decide +kernel
theorem dX9_init_30 : decode cX9_init 30 = .ok (.sipush 178, 3) := by decide +kernel
theorem dX9_init_33 : decode cX9_init 33 = .ok (.newarray .int, 2) := by decide +kernel
theorem dX9_init_35 : decode cX9_init 35 = .ok (.putfield 19, 3) := by decide +kernel
theorem dX9_init_38 : decode cX9_init 38 = .ok (.aload_n 0, 1) := by decide +kernel
theorem dX9_init_39 : decode cX9_init 39 = .ok (.iconst 2, 1) := by decide +kernel
theorem dX9_init_40 : decode cX9_init 40 = .ok (.newarray .boolean, 2) := by decide +kernel
theorem dX9_init_42 : decode cX9_init 42 = .ok (.putfield 22, 3) := by decide +kernel
theorem dX9_init_45 : decode cX9_init 45 = .ok (.aload_n 0, 1) := by decide +kernel
theorem dX9_init_46 : decode cX9_init 46 = .ok (.bipush 110, 2) := by decide +kernel
theorem dX9_init_48 : decode cX9_init 48 = .ok (.newarray .int, 2) := by decide +kernel
theorem dX9_init_50 : decode cX9_init 50 = .ok (.putfield 26, 3) := by decide +kernel
theorem dX9_init_53 : decode cX9_init 53 = .ok (.aload_n 0, 1) := by decide +kernel
theorem dX9_init_54 : decode cX9_init 54 = .ok (.sipush 2048, 3) := by decide +kernel
theorem dX9_init_57 : decode cX9_init 57 = .ok (.newarray .int, 2) := by decide +kernel
theorem dX9_init_59 : decode cX9_init 59 = .ok (.putfield 29, 3) := by decide +kernel
theorem dX9_init_62 : decode cX9_init 62 = .ok (.aload_n 0, 1) := by decide +kernel
theorem dX9_init_63 : decode cX9_init 63 = .ok (.sipush 2048, 3) := by decide +kernel
theorem dX9_init_66 : decode cX9_init 66 = .ok (.newarray .int, 2) := by decide +kernel
theorem dX9_init_68 : decode cX9_init 68 = .ok (.putfield 32, 3) := by decide +kernel
theorem dX9_init_71 : decode cX9_init 71 = .ok (.aload_n 0, 1) := by decide +kernel
theorem dX9_init_72 : decode cX9_init 72 = .ok (.bipush 7, 2) := by decide +kernel
theorem dX9_init_74 : decode cX9_init 74 = .ok (.newarray .int, 2) := by decide +kernel
theorem dX9_init_76 : decode cX9_init 76 = .ok (.putfield 35, 3) := by decide +kernel
theorem dX9_init_79 : decode cX9_init 79 = .ok (.aload_n 0, 1) := by decide +kernel
theorem dX9_init_80 : decode cX9_init 80 = .ok (.bipush 8, 2) := by decide +kernel
theorem dX9_init_82 : decode cX9_init 82 = .ok (.newarray .int, 2) := by decide +kernel
theorem dX9_init_84 : decode cX9_init 84 = .ok (.putfield 38, 3) := by decide +kernel
theorem dX9_init_87 : decode cX9_init 87 = .ok (.aload_n 0, 1) := by decide +kernel
theorem dX9_init_88 : decode cX9_init 88 = .ok (.bipush 8, 2) := by decide +kernel
theorem dX9_init_90 : decode cX9_init 90 = .ok (.newarray .int, 2) := by decide +kernel
theorem dX9_init_92 : decode cX9_init 92 = .ok (.putfield 41, 3) := by decide +kernel
theorem dX9_init_95 : decode cX9_init 95 = .ok (.aload_n 0, 1) := by decide +kernel
theorem dX9_init_96 : decode cX9_init 96 = .ok (.sipush 256, 3) := by decide +kernel
theorem dX9_init_99 : decode cX9_init 99 = .ok (.newarray .int, 2) := by decide +kernel
theorem dX9_init_101 : decode cX9_init 101 = .ok (.putfield 44, 3) := by decide +kernel
theorem dX9_init_104 : decode cX9_init 104 = .ok (.aload_n 0, 1) := by decide +kernel
theorem dX9_init_105 : decode cX9_init 105 = .ok (.getfield 7, 3) := by decide +kernel
theorem dX9_init_108 : decode cX9_init 108 = .ok (.bipush 11, 2) := by decide +kernel
theorem dX9_init_110 : decode cX9_init 110 = .ok (.iconst (-1), 1) := by decide +kernel
theorem dX9_init_111 : decode cX9_init 111 = .ok (.iastore, 1) := by decide +kernel
theorem dX9_init_112 : decode cX9_init 112 = .ok (.return_, 1) := by decide +kernel
theorem dX9_in_0 : decode cX9_in 0 = .ok (.lload_n 0, 1) := by decide +kernel
theorem dX9_in_1 : decode cX9_in 1 = .ok (.lload_n 2, 1) := by decide +kernel
theorem dX9_in_2 : decode cX9_in 2 = .ok (.lcmp, 1) := by decide +kernel
theorem dX9_in_3 : decode cX9_in 3 = .ok (.ifCond .lt 14, 3) := by decide +kernel
theorem dX9_in_6 : decode cX9_in 6 = .ok (.lload_n 0, 1) := by decide +kernel
theorem dX9_in_7 : decode cX9_in 7 = .ok (.lload 4, 2) := by decide +kernel
theorem dX9_in_9 : decode cX9_in 9 = .ok (.lcmp, 1) := by decide +kernel
theorem dX9_in_10 : decode cX9_in 10 = .ok (.ifCond .gt 7, 3) := by decide +kernel
theorem dX9_in_13 : decode cX9_in 13 = .ok (.iconst 1, 1) := by decide +kernel
theorem dX9_in_14 : decode cX9_in 14 = .ok (.goto 4, 3) := by decide +kernel
theorem dX9_in_17 : decode cX9_in 17 = .ok (.iconst 0, 1) := by decide +kernel
theorem dX9_in_18 : decode cX9_in 18 = .ok (.ireturn, 1) := by decide +kernel
theorem dX9_has_0 : decode cX9_has 0 = .ok (.iload_n 0, 1) := by decide +kernel
theorem dX9_has_1 : decode cX9_has 1 = .ok (.iload_n 1, 1) := by decide +kernel
theorem dX9_has_2 : decode cX9_has 2 = .ok (.ishr, 1) := by decide +kernel
theorem dX9_has_3 : decode cX9_has 3 = .ok (.iconst 1, 1) := by decide +kernel
theorem dX9_has_4 : decode cX9_has 4 = .ok (.iand, 1) := by decide +kernel
theorem dX9_has_5 : decode cX9_has 5 = .ok (.iconst 1, 1) := by decide +kernel
theorem dX9_has_6 : decode cX9_has 6 = .ok (.if_icmp .ne 7, 3) := by decide +kernel
theorem dX9_has_9 : decode cX9_has 9 = .ok (.iconst 1, 1) := by decide +kernel
theorem dX9_has_10 : decode cX9_has 10 = .ok (.goto 4, 3) := by decide +kernel
theorem dX9_has_13 : decode cX9_has 13 = .ok (.iconst 0, 1) := by decide +kernel
theorem dX9_has_14 : decode cX9_has 14 = .ok (.ireturn, 1) := by decide +kernel
theorem dX9_copies_0 : decode cX9_copies 0 = .ok (.iconst 0, 1) := by decide +kernel
theorem dX9_copies_1 : decode cX9_copies 1 = .ok (.istore 4, 2) := by decide +kernel
theorem dX9_copies_3 : decode cX9_copies 3 = .ok (.iload 4, 2) := by decide +kernel
theorem dX9_copies_5 : decode cX9_copies 5 = .ok (.bipush 89, 2) := by decide +kernel
theorem dX9_copies_7 : decode cX9_copies 7 = .ok (.if_icmp .ge 21, 3) := by decide +kernel
theorem dX9_copies_10 : decode cX9_copies 10 = .ok (.aload_n 2, 1) := by decide +kernel
theorem dX9_copies_11 : decode cX9_copies 11 = .ok (.iload_n 3, 1) := by decide +kernel
theorem dX9_copies_12 : decode cX9_copies 12 = .ok (.iload 4, 2) := by decide +kernel
theorem dX9_copies_14 : decode cX9_copies 14 = .ok (.iadd, 1) := by decide +kernel
theorem dX9_copies_15 : decode cX9_copies 15 = .ok (.aload_n 0, 1) := by decide +kernel
theorem dX9_copies_16 : decode cX9_copies 16 = .ok (.iload_n 1, 1) := by decide +kernel
theorem dX9_copies_17 : decode cX9_copies 17 = .ok (.iload 4, 2) := by decide +kernel
theorem dX9_copies_19 : decode cX9_copies 19 = .ok (.iadd, 1) := by decide +kernel
theorem dX9_copies_20 : decode cX9_copies 20 = .ok (.iaload, 1) := by decide +kernel
theorem dX9_copies_21 : decode cX9_copies 21 = .ok (.iastore, 1) := by decide +kernel
theorem dX9_copies_22 : decode cX9_copies 22 = .ok (.iinc 4 1, 3) := by decide +kernel
theorem dX9_copies_25 : decode cX9_copies 25 = .ok (.goto (-22), 3) := by decide +kernel
theorem dX9_copies_28 : decode cX9_copies 28 = .ok (.return_, 1) := by decide +kernel
theorem dX9_isBook_0 : decode cX9_isBook 0 = .ok (.aload_n 0, 1) := by decide +kernel
theorem dX9_isBook_1 : decode cX9_isBook 1 = .ok (.getfield 7, 3) := by decide +kernel
theorem dX9_isBook_4 : decode cX9_isBook 4 = .ok (.iconst 4, 1) := by decide +kernel
theorem dX9_isBook_5 : decode cX9_isBook 5 = .ok (.iaload, 1) := by decide +kernel
theorem dX9_isBook_6 : decode cX9_isBook 6 = .ok (.ifCond .le 7, 3) := by decide +kernel
theorem dX9_isBook_9 : decode cX9_isBook 9 = .ok (.iconst 1, 1) := by decide +kernel
theorem dX9_isBook_10 : decode cX9_isBook 10 = .ok (.goto 4, 3) := by decide +kernel
theorem dX9_isBook_13 : decode cX9_isBook 13 = .ok (.iconst 0, 1) := by decide +kernel
theorem dX9_isBook_14 : decode cX9_isBook 14 = .ok (.ireturn, 1) := by decide +kernel
theorem dX9_isCan_0 : decode cX9_isCan 0 = .ok (.iload_n 1, 1) := by decide +kernel
theorem dX9_isCan_1 : decode cX9_isCan 1 = .ok (.i2l, 1) := by decide +kernel
theorem dX9_isCan_2 : decode cX9_isCan 2 = .ok (.lconst 0, 1) := by decide +kernel
theorem dX9_isCan_3 : decode cX9_isCan 3 = .ok (.aload_n 0, 1) := by decide +kernel
theorem dX9_isCan_4 : decode cX9_isCan 4 = .ok (.getfield 7, 3) := by decide +kernel
theorem dX9_isCan_7 : decode cX9_isCan 7 = .ok (.iconst 4, 1) := by decide +kernel
theorem dX9_isCan_8 : decode cX9_isCan 8 = .ok (.iaload, 1) := by decide +kernel
theorem dX9_isCan_9 : decode cX9_isCan 9 = .ok (.iconst 1, 1) := by decide +kernel
theorem dX9_isCan_10 : decode cX9_isCan 10 = .ok (.isub, 1) := by decide +kernel
theorem dX9_isCan_11 : decode cX9_isCan 11 = .ok (.i2l, 1) := by decide +kernel
theorem dX9_isCan_12 : decode cX9_isCan 12 = .ok (.invokestatic 47, 3) := by decide +kernel
theorem dX9_isCan_15 : decode cX9_isCan 15 = .ok (.ireturn, 1) := by decide +kernel
theorem dX9_isTake_0 : decode cX9_isTake 0 = .ok (.iload_n 1, 1) := by decide +kernel
theorem dX9_isTake_1 : decode cX9_isTake 1 = .ok (.i2l, 1) := by decide +kernel
theorem dX9_isTake_2 : decode cX9_isTake 2 = .ok (.lconst 0, 1) := by decide +kernel
theorem dX9_isTake_3 : decode cX9_isTake 3 = .ok (.aload_n 0, 1) := by decide +kernel
theorem dX9_isTake_4 : decode cX9_isTake 4 = .ok (.getfield 7, 3) := by decide +kernel
theorem dX9_isTake_7 : decode cX9_isTake 7 = .ok (.iconst 5, 1) := by decide +kernel
theorem dX9_isTake_8 : decode cX9_isTake 8 = .ok (.iaload, 1) := by decide +kernel
theorem dX9_isTake_9 : decode cX9_isTake 9 = .ok (.iconst 1, 1) := by decide +kernel
theorem dX9_isTake_10 : decode cX9_isTake 10 = .ok (.isub, 1) := by decide +kernel
theorem dX9_isTake_11 : decode cX9_isTake 11 = .ok (.i2l, 1) := by decide +kernel
theorem dX9_isTake_12 : decode cX9_isTake 12 = .ok (.invokestatic 47, 3) := by decide +kernel
theorem dX9_isTake_15 : decode cX9_isTake 15 = .ok (.ireturn, 1) := by decide +kernel
theorem dX9_kind_0 : decode cX9_kind 0 = .ok (.aload_n 0, 1) := by decide +kernel
theorem dX9_kind_1 : decode cX9_kind 1 = .ok (.bipush 13, 2) := by decide +kernel
theorem dX9_kind_3 : decode cX9_kind 3 = .ok (.iconst 4, 1) := by decide +kernel
theorem dX9_kind_4 : decode cX9_kind 4 = .ok (.iload_n 1, 1) := by decide +kernel
theorem dX9_kind_5 : decode cX9_kind 5 = .ok (.imul, 1) := by decide +kernel
theorem dX9_kind_6 : decode cX9_kind 6 = .ok (.iadd, 1) := by decide +kernel
theorem dX9_kind_7 : decode cX9_kind 7 = .ok (.iaload, 1) := by decide +kernel
theorem dX9_kind_8 : decode cX9_kind 8 = .ok (.ireturn, 1) := by decide +kernel
theorem dX9_feet_0 : decode cX9_feet 0 = .ok (.aload_n 0, 1) := by decide +kernel
theorem dX9_feet_1 : decode cX9_feet 1 = .ok (.bipush 13, 2) := by decide +kernel
theorem dX9_feet_3 : decode cX9_feet 3 = .ok (.iconst 4, 1) := by decide +kernel
theorem dX9_feet_4 : decode cX9_feet 4 = .ok (.iload_n 1, 1) := by decide +kernel
theorem dX9_feet_5 : decode cX9_feet 5 = .ok (.imul, 1) := by decide +kernel
theorem dX9_feet_6 : decode cX9_feet 6 = .ok (.iadd, 1) := by decide +kernel
theorem dX9_feet_7 : decode cX9_feet 7 = .ok (.iconst 1, 1) := by decide +kernel
theorem dX9_feet_8 : decode cX9_feet 8 = .ok (.iadd, 1) := by decide +kernel
theorem dX9_feet_9 : decode cX9_feet 9 = .ok (.iaload, 1) := by decide +kernel
theorem dX9_feet_10 : decode cX9_feet 10 = .ok (.ireturn, 1) := by decide +kernel
theorem dX9_where_0 : decode cX9_where 0 = .ok (.aload_n 0, 1) := by decide +kernel
theorem dX9_where_1 : decode cX9_where 1 = .ok (.bipush 13, 2) := by decide +kernel
theorem dX9_where_3 : decode cX9_where 3 = .ok (.iconst 4, 1) := by decide +kernel
theorem dX9_where_4 : decode cX9_where 4 = .ok (.iload_n 1, 1) := by decide +kernel
theorem dX9_where_5 : decode cX9_where 5 = .ok (.imul, 1) := by decide +kernel
theorem dX9_where_6 : decode cX9_where 6 = .ok (.iadd, 1) := by decide +kernel
theorem dX9_where_7 : decode cX9_where 7 = .ok (.iconst 2, 1) := by decide +kernel
theorem dX9_where_8 : decode cX9_where 8 = .ok (.iadd, 1) := by decide +kernel
theorem dX9_where_9 : decode cX9_where 9 = .ok (.iaload, 1) := by decide +kernel
theorem dX9_where_10 : decode cX9_where 10 = .ok (.ireturn, 1) := by decide +kernel
theorem dX9_isOpen_0 : decode cX9_isOpen 0 = .ok (.aload_n 0, 1) := by decide +kernel
theorem dX9_isOpen_1 : decode cX9_isOpen 1 = .ok (.bipush 41, 2) := by decide +kernel
theorem dX9_isOpen_3 : decode cX9_isOpen 3 = .ok (.iconst 3, 1) := by decide +kernel
theorem dX9_isOpen_4 : decode cX9_isOpen 4 = .ok (.iload_n 1, 1) := by decide +kernel
theorem dX9_isOpen_5 : decode cX9_isOpen 5 = .ok (.imul, 1) := by decide +kernel
theorem dX9_isOpen_6 : decode cX9_isOpen 6 = .ok (.iadd, 1) := by decide +kernel
theorem dX9_isOpen_7 : decode cX9_isOpen 7 = .ok (.iconst 2, 1) := by decide +kernel
theorem dX9_isOpen_8 : decode cX9_isOpen 8 = .ok (.iadd, 1) := by decide +kernel
theorem dX9_isOpen_9 : decode cX9_isOpen 9 = .ok (.iaload, 1) := by decide +kernel
theorem dX9_isOpen_10 : decode cX9_isOpen 10 = .ok (.ifCond .ge 7, 3) := by decide +kernel
theorem dX9_isOpen_13 : decode cX9_isOpen 13 = .ok (.iconst 1, 1) := by decide +kernel
theorem dX9_isOpen_14 : decode cX9_isOpen 14 = .ok (.goto 4, 3) := by decide +kernel
theorem dX9_isOpen_17 : decode cX9_isOpen 17 = .ok (.iconst 0, 1) := by decide +kernel
theorem dX9_isOpen_18 : decode cX9_isOpen 18 = .ok (.ireturn, 1) := by decide +kernel
theorem dX9_isOf_0 : decode cX9_isOf 0 = .ok (.iload_n 1, 1) := by decide +kernel
theorem dX9_isOf_1 : decode cX9_isOf 1 = .ok (.ifCond .eq 33, 3) := by decide +kernel
theorem dX9_isOf_4 : decode cX9_isOf 4 = .ok (.iload_n 0, 1) := by decide +kernel
theorem dX9_isOf_5 : decode cX9_isOf 5 = .ok (.iload_n 1, 1) := by decide +kernel
theorem dX9_isOf_6 : decode cX9_isOf 6 = .ok (.if_icmp .eq 28, 3) := by decide +kernel
theorem dX9_isOf_9 : decode cX9_isOf 9 = .ok (.iload_n 1, 1) := by decide +kernel
theorem dX9_isOf_10 : decode cX9_isOf 10 = .ok (.iconst 1, 1) := by decide +kernel
theorem dX9_isOf_11 : decode cX9_isOf 11 = .ok (.if_icmp .ne 13, 3) := by decide +kernel
theorem dX9_isOf_14 : decode cX9_isOf 14 = .ok (.iload_n 0, 1) := by decide +kernel
theorem dX9_isOf_15 : decode cX9_isOf 15 = .ok (.iconst 2, 1) := by decide +kernel
theorem dX9_isOf_16 : decode cX9_isOf 16 = .ok (.if_icmp .eq 18, 3) := by decide +kernel
theorem dX9_isOf_19 : decode cX9_isOf 19 = .ok (.iload_n 0, 1) := by decide +kernel
theorem dX9_isOf_20 : decode cX9_isOf 20 = .ok (.iconst 3, 1) := by decide +kernel
theorem dX9_isOf_21 : decode cX9_isOf 21 = .ok (.if_icmp .eq 13, 3) := by decide +kernel
theorem dX9_isOf_24 : decode cX9_isOf 24 = .ok (.iload_n 1, 1) := by decide +kernel
theorem dX9_isOf_25 : decode cX9_isOf 25 = .ok (.iconst 4, 1) := by decide +kernel
theorem dX9_isOf_26 : decode cX9_isOf 26 = .ok (.if_icmp .ne 12, 3) := by decide +kernel
theorem dX9_isOf_29 : decode cX9_isOf 29 = .ok (.iload_n 0, 1) := by decide +kernel
theorem dX9_isOf_30 : decode cX9_isOf 30 = .ok (.iconst 5, 1) := by decide +kernel
theorem dX9_isOf_31 : decode cX9_isOf 31 = .ok (.if_icmp .ne 7, 3) := by decide +kernel
theorem dX9_isOf_34 : decode cX9_isOf 34 = .ok (.iconst 1, 1) := by decide +kernel
theorem dX9_isOf_35 : decode cX9_isOf 35 = .ok (.goto 4, 3) := by decide +kernel
theorem dX9_isOf_38 : decode cX9_isOf 38 = .ok (.iconst 0, 1) := by decide +kernel
theorem dX9_isOf_39 : decode cX9_isOf 39 = .ok (.ireturn, 1) := by decide +kernel
theorem dX9_serves_0 : decode cX9_serves 0 = .ok (.aload_n 0, 1) := by decide +kernel
theorem dX9_serves_1 : decode cX9_serves 1 = .ok (.iload_n 1, 1) := by decide +kernel
theorem dX9_serves_2 : decode cX9_serves 2 = .ok (.invokestatic 51, 3) := by decide +kernel
theorem dX9_serves_5 : decode cX9_serves 5 = .ok (.aload_n 0, 1) := by decide +kernel
theorem dX9_serves_6 : decode cX9_serves 6 = .ok (.bipush 41, 2) := by decide +kernel
theorem dX9_serves_8 : decode cX9_serves 8 = .ok (.iconst 3, 1) := by decide +kernel
theorem dX9_serves_9 : decode cX9_serves 9 = .ok (.iload_n 2, 1) := by decide +kernel
theorem dX9_serves_10 : decode cX9_serves 10 = .ok (.imul, 1) := by decide +kernel
theorem dX9_serves_11 : decode cX9_serves 11 = .ok (.iadd, 1) := by decide +kernel
theorem dX9_serves_12 : decode cX9_serves 12 = .ok (.iaload, 1) := by decide +kernel
theorem dX9_serves_13 : decode cX9_serves 13 = .ok (.invokestatic 55, 3) := by decide +kernel
theorem dX9_serves_16 : decode cX9_serves 16 = .ok (.ireturn, 1) := by decide +kernel
theorem dX9_lead_0 : decode cX9_lead 0 = .ok (.aload_n 0, 1) := by decide +kernel
theorem dX9_lead_1 : decode cX9_lead 1 = .ok (.iload_n 1, 1) := by decide +kernel
theorem dX9_lead_2 : decode cX9_lead 2 = .ok (.invokestatic 51, 3) := by decide +kernel
theorem dX9_lead_5 : decode cX9_lead 5 = .ok (.iconst 4, 1) := by decide +kernel
theorem dX9_lead_6 : decode cX9_lead 6 = .ok (.if_icmp .lt 11, 3) := by decide +kernel
theorem dX9_lead_9 : decode cX9_lead 9 = .ok (.iconst 2, 1) := by decide +kernel
theorem dX9_lead_10 : decode cX9_lead 10 = .ok (.aload_n 0, 1) := by decide +kernel
theorem dX9_lead_11 : decode cX9_lead 11 = .ok (.iconst 0, 1) := by decide +kernel
theorem dX9_lead_12 : decode cX9_lead 12 = .ok (.iaload, 1) := by decide +kernel
theorem dX9_lead_13 : decode cX9_lead 13 = .ok (.imul, 1) := by decide +kernel
theorem dX9_lead_14 : decode cX9_lead 14 = .ok (.goto 6, 3) := by decide +kernel
theorem dX9_lead_17 : decode cX9_lead 17 = .ok (.aload_n 0, 1) := by decide +kernel
theorem dX9_lead_18 : decode cX9_lead 18 = .ok (.iconst 0, 1) := by decide +kernel
theorem dX9_lead_19 : decode cX9_lead 19 = .ok (.iaload, 1) := by decide +kernel
theorem dX9_lead_20 : decode cX9_lead 20 = .ok (.ireturn, 1) := by decide +kernel
theorem dX9_slate_0 : decode cX9_slate 0 = .ok (.aload_n 0, 1) := by decide +kernel
theorem dX9_slate_1 : decode cX9_slate 1 = .ok (.iload_n 1, 1) := by decide +kernel
theorem dX9_slate_2 : decode cX9_slate 2 = .ok (.invokestatic 51, 3) := by decide +kernel
theorem dX9_slate_5 : decode cX9_slate 5 = .ok (.iconst 3, 1) := by decide +kernel
theorem dX9_slate_6 : decode cX9_slate 6 = .ok (.if_icmp .ne 7, 3) := by decide +kernel
theorem dX9_slate_9 : decode cX9_slate 9 = .ok (.iconst 1, 1) := by decide +kernel
theorem dX9_slate_10 : decode cX9_slate 10 = .ok (.goto 4, 3) := by decide +kernel
theorem dX9_slate_13 : decode cX9_slate 13 = .ok (.iconst 0, 1) := by decide +kernel
theorem dX9_slate_14 : decode cX9_slate 14 = .ok (.ireturn, 1) := by decide +kernel
theorem dX9_leastEnd_0 : decode cX9_leastEnd 0 = .ok (.aload_n 0, 1) := by decide +kernel
theorem dX9_leastEnd_1 : decode cX9_leastEnd 1 = .ok (.iload_n 1, 1) := by decide +kernel
theorem dX9_leastEnd_2 : decode cX9_leastEnd 2 = .ok (.invokestatic 51, 3) := by decide +kernel
theorem dX9_leastEnd_5 : decode cX9_leastEnd 5 = .ok (.iconst 5, 1) := by decide +kernel
theorem dX9_leastEnd_6 : decode cX9_leastEnd 6 = .ok (.if_icmp .ne 6, 3) := by decide +kernel
theorem dX9_leastEnd_9 : decode cX9_leastEnd 9 = .ok (.ldc 59, 2) := by decide +kernel
theorem dX9_leastEnd_11 : decode cX9_leastEnd 11 = .ok (.ireturn, 1) := by decide +kernel
theorem dX9_leastEnd_12 : decode cX9_leastEnd 12 = .ok (.aload_n 0, 1) := by decide +kernel
theorem dX9_leastEnd_13 : decode cX9_leastEnd 13 = .ok (.iload_n 1, 1) := by decide +kernel
theorem dX9_leastEnd_14 : decode cX9_leastEnd 14 = .ok (.invokestatic 51, 3) := by decide +kernel
theorem dX9_leastEnd_17 : decode cX9_leastEnd 17 = .ok (.iconst 2, 1) := by decide +kernel
theorem dX9_leastEnd_18 : decode cX9_leastEnd 18 = .ok (.if_icmp .ne 11, 3) := by decide +kernel
theorem dX9_leastEnd_21 : decode cX9_leastEnd 21 = .ok (.aload_n 0, 1) := by decide +kernel
theorem dX9_leastEnd_22 : decode cX9_leastEnd 22 = .ok (.iconst 1, 1) := by decide +kernel
theorem dX9_leastEnd_23 : decode cX9_leastEnd 23 = .ok (.iaload, 1) := by decide +kernel
theorem dX9_leastEnd_24 : decode cX9_leastEnd 24 = .ok (.iconst 2, 1) := by decide +kernel
theorem dX9_leastEnd_25 : decode cX9_leastEnd 25 = .ok (.idiv, 1) := by decide +kernel
theorem dX9_leastEnd_26 : decode cX9_leastEnd 26 = .ok (.goto 6, 3) := by decide +kernel
theorem dX9_leastEnd_29 : decode cX9_leastEnd 29 = .ok (.aload_n 0, 1) := by decide +kernel
theorem dX9_leastEnd_30 : decode cX9_leastEnd 30 = .ok (.iconst 1, 1) := by decide +kernel
theorem dX9_leastEnd_31 : decode cX9_leastEnd 31 = .ok (.iaload, 1) := by decide +kernel
theorem dX9_leastEnd_32 : decode cX9_leastEnd 32 = .ok (.istore_n 2, 1) := by decide +kernel
theorem dX9_leastEnd_33 : decode cX9_leastEnd 33 = .ok (.iload_n 2, 1) := by decide +kernel
theorem dX9_leastEnd_34 : decode cX9_leastEnd 34 = .ok (.iconst 1, 1) := by decide +kernel
theorem dX9_leastEnd_35 : decode cX9_leastEnd 35 = .ok (.if_icmp .ge 7, 3) := by decide +kernel
theorem dX9_leastEnd_38 : decode cX9_leastEnd 38 = .ok (.iconst 1, 1) := by decide +kernel
theorem dX9_leastEnd_39 : decode cX9_leastEnd 39 = .ok (.goto 4, 3) := by decide +kernel
theorem dX9_leastEnd_42 : decode cX9_leastEnd 42 = .ok (.iload_n 2, 1) := by decide +kernel
theorem dX9_leastEnd_43 : decode cX9_leastEnd 43 = .ok (.ireturn, 1) := by decide +kernel
theorem dX9_isKept_0 : decode cX9_isKept 0 = .ok (.aload_n 0, 1) := by decide +kernel
theorem dX9_isKept_1 : decode cX9_isKept 1 = .ok (.iload_n 1, 1) := by decide +kernel
theorem dX9_isKept_2 : decode cX9_isKept 2 = .ok (.invokestatic 60, 3) := by decide +kernel
theorem dX9_isKept_5 : decode cX9_isKept 5 = .ok (.ldc 59, 2) := by decide +kernel
theorem dX9_isKept_7 : decode cX9_isKept 7 = .ok (.if_icmp .eq 16, 3) := by decide +kernel
theorem dX9_isKept_10 : decode cX9_isKept 10 = .ok (.iload_n 2, 1) := by decide +kernel
theorem dX9_isKept_11 : decode cX9_isKept 11 = .ok (.aload_n 0, 1) := by decide +kernel
theorem dX9_isKept_12 : decode cX9_isKept 12 = .ok (.iload_n 1, 1) := by decide +kernel
theorem dX9_isKept_13 : decode cX9_isKept 13 = .ok (.invokestatic 60, 3) := by decide +kernel
theorem dX9_isKept_16 : decode cX9_isKept 16 = .ok (.if_icmp .lt 7, 3) := by decide +kernel
theorem dX9_isKept_19 : decode cX9_isKept 19 = .ok (.iconst 1, 1) := by decide +kernel
theorem dX9_isKept_20 : decode cX9_isKept 20 = .ok (.goto 4, 3) := by decide +kernel
theorem dX9_isKept_23 : decode cX9_isKept 23 = .ok (.iconst 0, 1) := by decide +kernel
theorem dX9_isKept_24 : decode cX9_isKept 24 = .ok (.ireturn, 1) := by decide +kernel
theorem dX9_isRoom_0 : decode cX9_isRoom 0 = .ok (.aload_n 0, 1) := by decide +kernel
theorem dX9_isRoom_1 : decode cX9_isRoom 1 = .ok (.iload_n 1, 1) := by decide +kernel
theorem dX9_isRoom_2 : decode cX9_isRoom 2 = .ok (.invokestatic 63, 3) := by decide +kernel
theorem dX9_isRoom_5 : decode cX9_isRoom 5 = .ok (.iconst 2, 1) := by decide +kernel
theorem dX9_isRoom_6 : decode cX9_isRoom 6 = .ok (.if_icmp .eq 7, 3) := by decide +kernel
theorem dX9_isRoom_9 : decode cX9_isRoom 9 = .ok (.iconst 1, 1) := by decide +kernel
theorem dX9_isRoom_10 : decode cX9_isRoom 10 = .ok (.goto 4, 3) := by decide +kernel
theorem dX9_isRoom_13 : decode cX9_isRoom 13 = .ok (.iconst 0, 1) := by decide +kernel
theorem dX9_isRoom_14 : decode cX9_isRoom 14 = .ok (.ireturn, 1) := by decide +kernel
theorem dX9_openOnes_0 : decode cX9_openOnes 0 = .ok (.iconst 0, 1) := by decide +kernel
theorem dX9_openOnes_1 : decode cX9_openOnes 1 = .ok (.istore_n 1, 1) := by decide +kernel
theorem dX9_openOnes_2 : decode cX9_openOnes 2 = .ok (.iconst 0, 1) := by decide +kernel
theorem dX9_openOnes_3 : decode cX9_openOnes 3 = .ok (.istore_n 2, 1) := by decide +kernel
theorem dX9_openOnes_4 : decode cX9_openOnes 4 = .ok (.iload_n 2, 1) := by decide +kernel
theorem dX9_openOnes_5 : decode cX9_openOnes 5 = .ok (.aload_n 0, 1) := by decide +kernel
theorem dX9_openOnes_6 : decode cX9_openOnes 6 = .ok (.iconst 5, 1) := by decide +kernel
theorem dX9_openOnes_7 : decode cX9_openOnes 7 = .ok (.iaload, 1) := by decide +kernel
theorem dX9_openOnes_8 : decode cX9_openOnes 8 = .ok (.if_icmp .ge 27, 3) := by decide +kernel
theorem dX9_openOnes_11 : decode cX9_openOnes 11 = .ok (.iload_n 1, 1) := by decide +kernel
theorem dX9_openOnes_12 : decode cX9_openOnes 12 = .ok (.aload_n 0, 1) := by decide +kernel
theorem dX9_openOnes_13 : decode cX9_openOnes 13 = .ok (.iload_n 2, 1) := by decide +kernel
theorem dX9_openOnes_14 : decode cX9_openOnes 14 = .ok (.invokestatic 66, 3) := by decide +kernel
theorem dX9_openOnes_17 : decode cX9_openOnes 17 = .ok (.ifCond .eq 9, 3) := by decide +kernel
theorem dX9_openOnes_20 : decode cX9_openOnes 20 = .ok (.iconst 1, 1) := by decide +kernel
theorem dX9_openOnes_21 : decode cX9_openOnes 21 = .ok (.iload_n 2, 1) := by decide +kernel
theorem dX9_openOnes_22 : decode cX9_openOnes 22 = .ok (.ishl, 1) := by decide +kernel
theorem dX9_openOnes_23 : decode cX9_openOnes 23 = .ok (.goto 4, 3) := by decide +kernel
theorem dX9_openOnes_26 : decode cX9_openOnes 26 = .ok (.iconst 0, 1) := by decide +kernel
theorem dX9_openOnes_27 : decode cX9_openOnes 27 = .ok (.ior, 1) := by decide +kernel
theorem dX9_openOnes_28 : decode cX9_openOnes 28 = .ok (.istore_n 1, 1) := by decide +kernel
theorem dX9_openOnes_29 : decode cX9_openOnes 29 = .ok (.iinc 2 1, 3) := by decide +kernel
theorem dX9_openOnes_32 : decode cX9_openOnes 32 = .ok (.goto (-28), 3) := by decide +kernel
theorem dX9_openOnes_35 : decode cX9_openOnes 35 = .ok (.iload_n 1, 1) := by decide +kernel
theorem dX9_openOnes_36 : decode cX9_openOnes 36 = .ok (.ireturn, 1) := by decide +kernel
theorem dX9_left_0 : decode cX9_left 0 = .ok (.aload_n 0, 1) := by decide +kernel
theorem dX9_left_1 : decode cX9_left 1 = .ok (.iload_n 1, 1) := by decide +kernel
theorem dX9_left_2 : decode cX9_left 2 = .ok (.invokestatic 70, 3) := by decide +kernel
theorem dX9_left_5 : decode cX9_left 5 = .ok (.iload_n 2, 1) := by decide +kernel
theorem dX9_left_6 : decode cX9_left 6 = .ok (.ifCond .eq 19, 3) := by decide +kernel
theorem dX9_left_9 : decode cX9_left 9 = .ok (.aload_n 0, 1) := by decide +kernel
theorem dX9_left_10 : decode cX9_left 10 = .ok (.iload_n 1, 1) := by decide +kernel
theorem dX9_left_11 : decode cX9_left 11 = .ok (.invokestatic 63, 3) := by decide +kernel
theorem dX9_left_14 : decode cX9_left 14 = .ok (.ifCond .ne 11, 3) := by decide +kernel
theorem dX9_left_17 : decode cX9_left 17 = .ok (.aload_n 0, 1) := by decide +kernel
theorem dX9_left_18 : decode cX9_left 18 = .ok (.iload_n 1, 1) := by decide +kernel
theorem dX9_left_19 : decode cX9_left 19 = .ok (.invokestatic 73, 3) := by decide +kernel
theorem dX9_left_22 : decode cX9_left 22 = .ok (.goto 4, 3) := by decide +kernel
theorem dX9_left_25 : decode cX9_left 25 = .ok (.iconst 0, 1) := by decide +kernel
theorem dX9_left_26 : decode cX9_left 26 = .ok (.isub, 1) := by decide +kernel
theorem dX9_left_27 : decode cX9_left 27 = .ok (.istore_n 3, 1) := by decide +kernel
theorem dX9_left_28 : decode cX9_left 28 = .ok (.iconst 1, 1) := by decide +kernel
theorem dX9_left_29 : decode cX9_left 29 = .ok (.istore 4, 2) := by decide +kernel
theorem dX9_left_31 : decode cX9_left 31 = .ok (.iconst 0, 1) := by decide +kernel
theorem dX9_left_32 : decode cX9_left 32 = .ok (.istore 5, 2) := by decide +kernel
theorem dX9_left_34 : decode cX9_left 34 = .ok (.iload 5, 2) := by decide +kernel
theorem dX9_left_36 : decode cX9_left 36 = .ok (.bipush 8, 2) := by decide +kernel
theorem dX9_left_38 : decode cX9_left 38 = .ok (.if_icmp .ge 60, 3) := by decide +kernel
theorem dX9_left_41 : decode cX9_left 41 = .ok (.iload_n 2, 1) := by decide +kernel
theorem dX9_left_42 : decode cX9_left 42 = .ok (.iload 5, 2) := by decide +kernel
theorem dX9_left_44 : decode cX9_left 44 = .ok (.invokestatic 76, 3) := by decide +kernel
theorem dX9_left_47 : decode cX9_left 47 = .ok (.ifCond .eq 45, 3) := by decide +kernel
theorem dX9_left_50 : decode cX9_left 50 = .ok (.iload 4, 2) := by decide +kernel
theorem dX9_left_52 : decode cX9_left 52 = .ok (.ifCond .eq 17, 3) := by decide +kernel
theorem dX9_left_55 : decode cX9_left 55 = .ok (.aload_n 0, 1) := by decide +kernel
theorem dX9_left_56 : decode cX9_left 56 = .ok (.iload_n 1, 1) := by decide +kernel
theorem dX9_left_57 : decode cX9_left 57 = .ok (.iload 5, 2) := by decide +kernel
theorem dX9_left_59 : decode cX9_left 59 = .ok (.invokestatic 79, 3) := by decide +kernel
theorem dX9_left_62 : decode cX9_left 62 = .ok (.ifCond .eq 7, 3) := by decide +kernel
theorem dX9_left_65 : decode cX9_left 65 = .ok (.iconst 1, 1) := by decide +kernel
theorem dX9_left_66 : decode cX9_left 66 = .ok (.goto 4, 3) := by decide +kernel
theorem dX9_left_69 : decode cX9_left 69 = .ok (.iconst 0, 1) := by decide +kernel
theorem dX9_left_70 : decode cX9_left 70 = .ok (.istore 4, 2) := by decide +kernel
theorem dX9_left_72 : decode cX9_left 72 = .ok (.iload_n 3, 1) := by decide +kernel
theorem dX9_left_73 : decode cX9_left 73 = .ok (.aload_n 0, 1) := by decide +kernel
theorem dX9_left_74 : decode cX9_left 74 = .ok (.bipush 41, 2) := by decide +kernel
theorem dX9_left_76 : decode cX9_left 76 = .ok (.iconst 3, 1) := by decide +kernel
theorem dX9_left_77 : decode cX9_left 77 = .ok (.iload 5, 2) := by decide +kernel
theorem dX9_left_79 : decode cX9_left 79 = .ok (.imul, 1) := by decide +kernel
theorem dX9_left_80 : decode cX9_left 80 = .ok (.iadd, 1) := by decide +kernel
theorem dX9_left_81 : decode cX9_left 81 = .ok (.iconst 1, 1) := by decide +kernel
theorem dX9_left_82 : decode cX9_left 82 = .ok (.iadd, 1) := by decide +kernel
theorem dX9_left_83 : decode cX9_left 83 = .ok (.iaload, 1) := by decide +kernel
theorem dX9_left_84 : decode cX9_left 84 = .ok (.aload_n 0, 1) := by decide +kernel
theorem dX9_left_85 : decode cX9_left 85 = .ok (.iload_n 1, 1) := by decide +kernel
theorem dX9_left_86 : decode cX9_left 86 = .ok (.invokestatic 83, 3) := by decide +kernel
theorem dX9_left_89 : decode cX9_left 89 = .ok (.iadd, 1) := by decide +kernel
theorem dX9_left_90 : decode cX9_left 90 = .ok (.isub, 1) := by decide +kernel
theorem dX9_left_91 : decode cX9_left 91 = .ok (.istore_n 3, 1) := by decide +kernel
theorem dX9_left_92 : decode cX9_left 92 = .ok (.iinc 5 1, 3) := by decide +kernel
theorem dX9_left_95 : decode cX9_left 95 = .ok (.goto (-61), 3) := by decide +kernel
theorem dX9_left_98 : decode cX9_left 98 = .ok (.iload 4, 2) := by decide +kernel
theorem dX9_left_100 : decode cX9_left 100 = .ok (.ifCond .eq 7, 3) := by decide +kernel
theorem dX9_left_103 : decode cX9_left 103 = .ok (.iload_n 3, 1) := by decide +kernel
theorem dX9_left_104 : decode cX9_left 104 = .ok (.goto 4, 3) := by decide +kernel
theorem dX9_left_107 : decode cX9_left 107 = .ok (.iconst (-1), 1) := by decide +kernel
theorem dX9_left_108 : decode cX9_left 108 = .ok (.ireturn, 1) := by decide +kernel
theorem dX9_ones_0 : decode cX9_ones 0 = .ok (.iconst 0, 1) := by decide +kernel
theorem dX9_ones_1 : decode cX9_ones 1 = .ok (.istore_n 1, 1) := by decide +kernel
theorem dX9_ones_2 : decode cX9_ones 2 = .ok (.iconst 0, 1) := by decide +kernel
theorem dX9_ones_3 : decode cX9_ones 3 = .ok (.istore_n 2, 1) := by decide +kernel
theorem dX9_ones_4 : decode cX9_ones 4 = .ok (.iload_n 2, 1) := by decide +kernel
theorem dX9_ones_5 : decode cX9_ones 5 = .ok (.bipush 8, 2) := by decide +kernel
theorem dX9_ones_7 : decode cX9_ones 7 = .ok (.if_icmp .ge 25, 3) := by decide +kernel
theorem dX9_ones_10 : decode cX9_ones 10 = .ok (.iload_n 1, 1) := by decide +kernel
theorem dX9_ones_11 : decode cX9_ones 11 = .ok (.iload_n 0, 1) := by decide +kernel
theorem dX9_ones_12 : decode cX9_ones 12 = .ok (.iload_n 2, 1) := by decide +kernel
theorem dX9_ones_13 : decode cX9_ones 13 = .ok (.invokestatic 76, 3) := by decide +kernel
theorem dX9_ones_16 : decode cX9_ones 16 = .ok (.ifCond .eq 7, 3) := by decide +kernel
theorem dX9_ones_19 : decode cX9_ones 19 = .ok (.iconst 1, 1) := by decide +kernel
theorem dX9_ones_20 : decode cX9_ones 20 = .ok (.goto 4, 3) := by decide +kernel
theorem dX9_ones_23 : decode cX9_ones 23 = .ok (.iconst 0, 1) := by decide +kernel
theorem dX9_ones_24 : decode cX9_ones 24 = .ok (.iadd, 1) := by decide +kernel
theorem dX9_ones_25 : decode cX9_ones 25 = .ok (.istore_n 1, 1) := by decide +kernel
theorem dX9_ones_26 : decode cX9_ones 26 = .ok (.iinc 2 1, 3) := by decide +kernel
theorem dX9_ones_29 : decode cX9_ones 29 = .ok (.goto (-25), 3) := by decide +kernel
theorem dX9_ones_32 : decode cX9_ones 32 = .ok (.iload_n 1, 1) := by decide +kernel
theorem dX9_ones_33 : decode cX9_ones 33 = .ok (.ireturn, 1) := by decide +kernel
theorem dX9_lossOf_0 : decode cX9_lossOf 0 = .ok (.iload_n 2, 1) := by decide +kernel
theorem dX9_lossOf_1 : decode cX9_lossOf 1 = .ok (.ifCond .ne 5, 3) := by decide +kernel
theorem dX9_lossOf_4 : decode cX9_lossOf 4 = .ok (.iconst 0, 1) := by decide +kernel
theorem dX9_lossOf_5 : decode cX9_lossOf 5 = .ok (.ireturn, 1) := by decide +kernel
theorem dX9_lossOf_6 : decode cX9_lossOf 6 = .ok (.aload_n 0, 1) := by decide +kernel
theorem dX9_lossOf_7 : decode cX9_lossOf 7 = .ok (.iload_n 1, 1) := by decide +kernel
theorem dX9_lossOf_8 : decode cX9_lossOf 8 = .ok (.iload_n 2, 1) := by decide +kernel
theorem dX9_lossOf_9 : decode cX9_lossOf 9 = .ok (.invokestatic 86, 3) := by decide +kernel
theorem dX9_lossOf_12 : decode cX9_lossOf 12 = .ok (.istore_n 3, 1) := by decide +kernel
theorem dX9_lossOf_13 : decode cX9_lossOf 13 = .ok (.aload_n 0, 1) := by decide +kernel
theorem dX9_lossOf_14 : decode cX9_lossOf 14 = .ok (.iload_n 1, 1) := by decide +kernel
theorem dX9_lossOf_15 : decode cX9_lossOf 15 = .ok (.invokestatic 63, 3) := by decide +kernel
theorem dX9_lossOf_18 : decode cX9_lossOf 18 = .ok (.ifCond .ne 11, 3) := by decide +kernel
theorem dX9_lossOf_21 : decode cX9_lossOf 21 = .ok (.aload_n 0, 1) := by decide +kernel
theorem dX9_lossOf_22 : decode cX9_lossOf 22 = .ok (.iload_n 1, 1) := by decide +kernel
theorem dX9_lossOf_23 : decode cX9_lossOf 23 = .ok (.invokestatic 73, 3) := by decide +kernel
theorem dX9_lossOf_26 : decode cX9_lossOf 26 = .ok (.goto 4, 3) := by decide +kernel
theorem dX9_lossOf_29 : decode cX9_lossOf 29 = .ok (.iconst 0, 1) := by decide +kernel
theorem dX9_lossOf_30 : decode cX9_lossOf 30 = .ok (.iload_n 2, 1) := by decide +kernel
theorem dX9_lossOf_31 : decode cX9_lossOf 31 = .ok (.invokestatic 90, 3) := by decide +kernel
theorem dX9_lossOf_34 : decode cX9_lossOf 34 = .ok (.aload_n 0, 1) := by decide +kernel
theorem dX9_lossOf_35 : decode cX9_lossOf 35 = .ok (.iload_n 1, 1) := by decide +kernel
theorem dX9_lossOf_36 : decode cX9_lossOf 36 = .ok (.invokestatic 83, 3) := by decide +kernel
theorem dX9_lossOf_39 : decode cX9_lossOf 39 = .ok (.imul, 1) := by decide +kernel
theorem dX9_lossOf_40 : decode cX9_lossOf 40 = .ok (.iadd, 1) := by decide +kernel
theorem dX9_lossOf_41 : decode cX9_lossOf 41 = .ok (.aload_n 0, 1) := by decide +kernel
theorem dX9_lossOf_42 : decode cX9_lossOf 42 = .ok (.iload_n 1, 1) := by decide +kernel
theorem dX9_lossOf_43 : decode cX9_lossOf 43 = .ok (.iload_n 3, 1) := by decide +kernel
theorem dX9_lossOf_44 : decode cX9_lossOf 44 = .ok (.invokestatic 94, 3) := by decide +kernel
theorem dX9_lossOf_47 : decode cX9_lossOf 47 = .ok (.ifCond .eq 7, 3) := by decide +kernel
theorem dX9_lossOf_50 : decode cX9_lossOf 50 = .ok (.iconst 0, 1) := by decide +kernel
theorem dX9_lossOf_51 : decode cX9_lossOf 51 = .ok (.goto 4, 3) := by decide +kernel
theorem dX9_lossOf_54 : decode cX9_lossOf 54 = .ok (.iload_n 3, 1) := by decide +kernel
theorem dX9_lossOf_55 : decode cX9_lossOf 55 = .ok (.iadd, 1) := by decide +kernel
theorem dX9_lossOf_56 : decode cX9_lossOf 56 = .ok (.ireturn, 1) := by decide +kernel
theorem dX9_byteAt_0 : decode cX9_byteAt 0 = .ok (.iload_n 1, 1) := by decide +kernel
theorem dX9_byteAt_1 : decode cX9_byteAt 1 = .ok (.aload_n 0, 1) := by decide +kernel
theorem dX9_byteAt_2 : decode cX9_byteAt 2 = .ok (.getfield 97, 3) := by decide +kernel
theorem dX9_byteAt_5 : decode cX9_byteAt 5 = .ok (.if_icmp .ge 12, 3) := by decide +kernel
theorem dX9_byteAt_8 : decode cX9_byteAt 8 = .ok (.aload_n 0, 1) := by decide +kernel
theorem dX9_byteAt_9 : decode cX9_byteAt 9 = .ok (.getfield 26, 3) := by decide +kernel
theorem dX9_byteAt_12 : decode cX9_byteAt 12 = .ok (.iload_n 1, 1) := by decide +kernel
theorem dX9_byteAt_13 : decode cX9_byteAt 13 = .ok (.iaload, 1) := by decide +kernel
theorem dX9_byteAt_14 : decode cX9_byteAt 14 = .ok (.goto 4, 3) := by decide +kernel
theorem dX9_byteAt_17 : decode cX9_byteAt 17 = .ok (.iconst (-1), 1) := by decide +kernel
theorem dX9_byteAt_18 : decode cX9_byteAt 18 = .ok (.ireturn, 1) := by decide +kernel
theorem dX9_next_0 : decode cX9_next 0 = .ok (.aload_n 0, 1) := by decide +kernel
theorem dX9_next_1 : decode cX9_next 1 = .ok (.aload_n 0, 1) := by decide +kernel
theorem dX9_next_2 : decode cX9_next 2 = .ok (.getfield 101, 3) := by decide +kernel
theorem dX9_next_5 : decode cX9_next 5 = .ok (.putfield 104, 3) := by decide +kernel
theorem dX9_next_8 : decode cX9_next 8 = .ok (.aload_n 0, 1) := by decide +kernel
theorem dX9_next_9 : decode cX9_next 9 = .ok (.aload_n 0, 1) := by decide +kernel
theorem dX9_next_10 : decode cX9_next 10 = .ok (.getfield 101, 3) := by decide +kernel
theorem dX9_next_13 : decode cX9_next 13 = .ok (.invokevirtual 107, 3) := by decide +kernel
theorem dX9_next_16 : decode cX9_next 16 = .ok (.istore_n 1, 1) := by decide +kernel
theorem dX9_next_17 : decode cX9_next 17 = .ok (.aload_n 0, 1) := by decide +kernel
theorem dX9_next_18 : decode cX9_next 18 = .ok (.iload_n 1, 1) := by decide +kernel
theorem dX9_next_19 : decode cX9_next 19 = .ok (.putfield 110, 3) := by decide +kernel
theorem dX9_next_22 : decode cX9_next 22 = .ok (.aload_n 0, 1) := by decide +kernel
theorem dX9_next_23 : decode cX9_next 23 = .ok (.dup, 1) := by decide +kernel
theorem dX9_next_24 : decode cX9_next 24 = .ok (.getfield 101, 3) := by decide +kernel
theorem dX9_next_27 : decode cX9_next 27 = .ok (.iload_n 1, 1) := by decide +kernel
theorem dX9_next_28 : decode cX9_next 28 = .ok (.ifCond .ge 7, 3) := by decide +kernel
theorem dX9_next_31 : decode cX9_next 31 = .ok (.iconst 0, 1) := by decide +kernel
theorem dX9_next_32 : decode cX9_next 32 = .ok (.goto 4, 3) := by decide +kernel
theorem dX9_next_35 : decode cX9_next 35 = .ok (.iconst 1, 1) := by decide +kernel
theorem dX9_next_36 : decode cX9_next 36 = .ok (.iadd, 1) := by decide +kernel
theorem dX9_next_37 : decode cX9_next 37 = .ok (.putfield 101, 3) := by decide +kernel
theorem dX9_next_40 : decode cX9_next 40 = .ok (.aload_n 0, 1) := by decide +kernel
theorem dX9_next_41 : decode cX9_next 41 = .ok (.iload_n 1, 1) := by decide +kernel
theorem dX9_next_42 : decode cX9_next 42 = .ok (.ifCond .ge 7, 3) := by decide +kernel
theorem dX9_next_45 : decode cX9_next 45 = .ok (.iconst 0, 1) := by decide +kernel
theorem dX9_next_46 : decode cX9_next 46 = .ok (.goto 56, 3) := by decide +kernel
theorem dX9_next_49 : decode cX9_next 49 = .ok (.iload_n 1, 1) := by decide +kernel
theorem dX9_next_50 : decode cX9_next 50 = .ok (.i2l, 1) := by decide +kernel
theorem dX9_next_51 : decode cX9_next 51 = .ok (.ldc2_w 113, 3) := by decide +kernel
theorem dX9_next_54 : decode cX9_next 54 = .ok (.ldc2_w 115, 3) := by decide +kernel
theorem dX9_next_57 : decode cX9_next 57 = .ok (.invokestatic 47, 3) := by decide +kernel
theorem dX9_next_60 : decode cX9_next 60 = .ok (.ifCond .eq 7, 3) := by decide +kernel
theorem dX9_next_63 : decode cX9_next 63 = .ok (.iconst 1, 1) := by decide +kernel
theorem dX9_next_64 : decode cX9_next 64 = .ok (.goto 38, 3) := by decide +kernel
theorem dX9_next_67 : decode cX9_next 67 = .ok (.iload_n 1, 1) := by decide +kernel
theorem dX9_next_68 : decode cX9_next 68 = .ok (.i2l, 1) := by decide +kernel
theorem dX9_next_69 : decode cX9_next 69 = .ok (.ldc2_w 117, 3) := by decide +kernel
theorem dX9_next_72 : decode cX9_next 72 = .ok (.ldc2_w 119, 3) := by decide +kernel
theorem dX9_next_75 : decode cX9_next 75 = .ok (.invokestatic 47, 3) := by decide +kernel
theorem dX9_next_78 : decode cX9_next 78 = .ok (.ifCond .eq 7, 3) := by decide +kernel
theorem dX9_next_81 : decode cX9_next 81 = .ok (.iconst 2, 1) := by decide +kernel
theorem dX9_next_82 : decode cX9_next 82 = .ok (.goto 20, 3) := by decide +kernel
theorem dX9_next_85 : decode cX9_next 85 = .ok (.iload_n 1, 1) := by decide +kernel
theorem dX9_next_86 : decode cX9_next 86 = .ok (.bipush 44, 2) := by decide +kernel
theorem dX9_next_88 : decode cX9_next 88 = .ok (.if_icmp .eq 9, 3) := by decide +kernel
theorem dX9_next_91 : decode cX9_next 91 = .ok (.iload_n 1, 1) := by decide +kernel
theorem dX9_next_92 : decode cX9_next 92 = .ok (.bipush 59, 2) := by decide +kernel
theorem dX9_next_94 : decode cX9_next 94 = .ok (.if_icmp .ne 7, 3) := by decide +kernel
theorem dX9_next_97 : decode cX9_next 97 = .ok (.iconst 3, 1) := by decide +kernel
theorem dX9_next_98 : decode cX9_next 98 = .ok (.goto 4, 3) := by decide +kernel
theorem dX9_next_101 : decode cX9_next 101 = .ok (.iconst 4, 1) := by decide +kernel
theorem dX9_next_102 : decode cX9_next 102 = .ok (.putfield 121, 3) := by decide +kernel
theorem dX9_next_105 : decode cX9_next 105 = .ok (.aload_n 0, 1) := by decide +kernel
theorem dX9_next_106 : decode cX9_next 106 = .ok (.getfield 121, 3) := by decide +kernel
theorem dX9_next_109 : decode cX9_next 109 = .ok (.iconst 2, 1) := by decide +kernel
theorem dX9_next_110 : decode cX9_next 110 = .ok (.if_icmp .ne 110, 3) := by decide +kernel
theorem dX9_next_113 : decode cX9_next 113 = .ok (.aload_n 0, 1) := by decide +kernel
theorem dX9_next_114 : decode cX9_next 114 = .ok (.iload_n 1, 1) := by decide +kernel
theorem dX9_next_115 : decode cX9_next 115 = .ok (.bipush 48, 2) := by decide +kernel
theorem dX9_next_117 : decode cX9_next 117 = .ok (.isub, 1) := by decide +kernel
theorem dX9_next_118 : decode cX9_next 118 = .ok (.putfield 110, 3) := by decide +kernel
theorem dX9_next_121 : decode cX9_next 121 = .ok (.aload_n 0, 1) := by decide +kernel
theorem dX9_next_122 : decode cX9_next 122 = .ok (.aload_n 0, 1) := by decide +kernel
theorem dX9_next_123 : decode cX9_next 123 = .ok (.getfield 101, 3) := by decide +kernel
theorem dX9_next_126 : decode cX9_next 126 = .ok (.invokevirtual 107, 3) := by decide +kernel
theorem dX9_next_129 : decode cX9_next 129 = .ok (.i2l, 1) := by decide +kernel
theorem dX9_next_130 : decode cX9_next 130 = .ok (.ldc2_w 117, 3) := by decide +kernel
theorem dX9_next_133 : decode cX9_next 133 = .ok (.ldc2_w 119, 3) := by decide +kernel
theorem dX9_next_136 : decode cX9_next 136 = .ok (.invokestatic 47, 3) := by decide +kernel
theorem dX9_next_139 : decode cX9_next 139 = .ok (.ifCond .eq 59, 3) := by decide +kernel
theorem dX9_next_142 : decode cX9_next 142 = .ok (.aload_n 0, 1) := by decide +kernel
theorem dX9_next_143 : decode cX9_next 143 = .ok (.aload_n 0, 1) := by decide +kernel
theorem dX9_next_144 : decode cX9_next 144 = .ok (.getfield 101, 3) := by decide +kernel
theorem dX9_next_147 : decode cX9_next 147 = .ok (.aload_n 0, 1) := by decide +kernel
theorem dX9_next_148 : decode cX9_next 148 = .ok (.getfield 104, 3) := by decide +kernel
theorem dX9_next_151 : decode cX9_next 151 = .ok (.isub, 1) := by decide +kernel
theorem dX9_next_152 : decode cX9_next 152 = .ok (.iconst 2, 1) := by decide +kernel
theorem dX9_next_153 : decode cX9_next 153 = .ok (.if_icmp .ge 25, 3) := by decide +kernel
theorem dX9_next_156 : decode cX9_next 156 = .ok (.bipush 10, 2) := by decide +kernel
theorem dX9_next_158 : decode cX9_next 158 = .ok (.aload_n 0, 1) := by decide +kernel
theorem dX9_next_159 : decode cX9_next 159 = .ok (.getfield 110, 3) := by decide +kernel
theorem dX9_next_162 : decode cX9_next 162 = .ok (.imul, 1) := by decide +kernel
theorem dX9_next_163 : decode cX9_next 163 = .ok (.aload_n 0, 1) := by decide +kernel
theorem dX9_next_164 : decode cX9_next 164 = .ok (.aload_n 0, 1) := by decide +kernel
theorem dX9_next_165 : decode cX9_next 165 = .ok (.getfield 101, 3) := by decide +kernel
theorem dX9_next_168 : decode cX9_next 168 = .ok (.invokevirtual 107, 3) := by decide +kernel
theorem dX9_next_171 : decode cX9_next 171 = .ok (.iadd, 1) := by decide +kernel
theorem dX9_next_172 : decode cX9_next 172 = .ok (.bipush 48, 2) := by decide +kernel
theorem dX9_next_174 : decode cX9_next 174 = .ok (.isub, 1) := by decide +kernel
theorem dX9_next_175 : decode cX9_next 175 = .ok (.goto 7, 3) := by decide +kernel
theorem dX9_next_178 : decode cX9_next 178 = .ok (.aload_n 0, 1) := by decide +kernel
theorem dX9_next_179 : decode cX9_next 179 = .ok (.getfield 110, 3) := by decide +kernel
theorem dX9_next_182 : decode cX9_next 182 = .ok (.putfield 110, 3) := by decide +kernel
theorem dX9_next_185 : decode cX9_next 185 = .ok (.aload_n 0, 1) := by decide +kernel
theorem dX9_next_186 : decode cX9_next 186 = .ok (.dup, 1) := by decide +kernel
theorem dX9_next_187 : decode cX9_next 187 = .ok (.getfield 101, 3) := by decide +kernel
theorem dX9_next_190 : decode cX9_next 190 = .ok (.iconst 1, 1) := by decide +kernel
theorem dX9_next_191 : decode cX9_next 191 = .ok (.iadd, 1) := by decide +kernel
theorem dX9_next_192 : decode cX9_next 192 = .ok (.putfield 101, 3) := by decide +kernel
theorem dX9_next_195 : decode cX9_next 195 = .ok (.goto (-74), 3) := by decide +kernel
theorem dX9_next_198 : decode cX9_next 198 = .ok (.aload_n 0, 1) := by decide +kernel
theorem dX9_next_199 : decode cX9_next 199 = .ok (.aload_n 0, 1) := by decide +kernel
theorem dX9_next_200 : decode cX9_next 200 = .ok (.getfield 101, 3) := by decide +kernel
theorem dX9_next_203 : decode cX9_next 203 = .ok (.aload_n 0, 1) := by decide +kernel
theorem dX9_next_204 : decode cX9_next 204 = .ok (.getfield 104, 3) := by decide +kernel
theorem dX9_next_207 : decode cX9_next 207 = .ok (.isub, 1) := by decide +kernel
theorem dX9_next_208 : decode cX9_next 208 = .ok (.iconst 2, 1) := by decide +kernel
theorem dX9_next_209 : decode cX9_next 209 = .ok (.if_icmp .le 7, 3) := by decide +kernel
theorem dX9_next_212 : decode cX9_next 212 = .ok (.iconst 4, 1) := by decide +kernel
theorem dX9_next_213 : decode cX9_next 213 = .ok (.goto 4, 3) := by decide +kernel
theorem dX9_next_216 : decode cX9_next 216 = .ok (.iconst 2, 1) := by decide +kernel
theorem dX9_next_217 : decode cX9_next 217 = .ok (.putfield 121, 3) := by decide +kernel
theorem dX9_next_220 : decode cX9_next 220 = .ok (.return_, 1) := by decide +kernel
theorem dX9_bad_0 : decode cX9_bad 0 = .ok (.aload_n 0, 1) := by decide +kernel
theorem dX9_bad_1 : decode cX9_bad 1 = .ok (.getfield 124, 3) := by decide +kernel
theorem dX9_bad_4 : decode cX9_bad 4 = .ok (.ifCond .ne 16, 3) := by decide +kernel
theorem dX9_bad_7 : decode cX9_bad 7 = .ok (.aload_n 0, 1) := by decide +kernel
theorem dX9_bad_8 : decode cX9_bad 8 = .ok (.iload_n 1, 1) := by decide +kernel
theorem dX9_bad_9 : decode cX9_bad 9 = .ok (.putfield 124, 3) := by decide +kernel
theorem dX9_bad_12 : decode cX9_bad 12 = .ok (.aload_n 0, 1) := by decide +kernel
theorem dX9_bad_13 : decode cX9_bad 13 = .ok (.aload_n 0, 1) := by decide +kernel
theorem dX9_bad_14 : decode cX9_bad 14 = .ok (.getfield 104, 3) := by decide +kernel
theorem dX9_bad_17 : decode cX9_bad 17 = .ok (.putfield 127, 3) := by decide +kernel
theorem dX9_bad_20 : decode cX9_bad 20 = .ok (.return_, 1) := by decide +kernel
theorem dX9_goesOn_0 : decode cX9_goesOn 0 = .ok (.aload_n 0, 1) := by decide +kernel
theorem dX9_goesOn_1 : decode cX9_goesOn 1 = .ok (.getfield 124, 3) := by decide +kernel
theorem dX9_goesOn_4 : decode cX9_goesOn 4 = .ok (.ifCond .ne 7, 3) := by decide +kernel
theorem dX9_goesOn_7 : decode cX9_goesOn 7 = .ok (.aload_n 0, 1) := by decide +kernel
theorem dX9_goesOn_8 : decode cX9_goesOn 8 = .ok (.invokevirtual 130, 3) := by decide +kernel
theorem dX9_goesOn_11 : decode cX9_goesOn 11 = .ok (.return_, 1) := by decide +kernel
theorem dX9_number_0 : decode cX9_number 0 = .ok (.aload_n 0, 1) := by decide +kernel
theorem dX9_number_1 : decode cX9_number 1 = .ok (.getfield 121, 3) := by decide +kernel
theorem dX9_number_4 : decode cX9_number 4 = .ok (.iconst 2, 1) := by decide +kernel
theorem dX9_number_5 : decode cX9_number 5 = .ok (.if_icmp .eq 11, 3) := by decide +kernel
theorem dX9_number_8 : decode cX9_number 8 = .ok (.aload_n 0, 1) := by decide +kernel
theorem dX9_number_9 : decode cX9_number 9 = .ok (.iconst 1, 1) := by decide +kernel
theorem dX9_number_10 : decode cX9_number 10 = .ok (.invokevirtual 133, 3) := by decide +kernel
theorem dX9_number_13 : decode cX9_number 13 = .ok (.goto 23, 3) := by decide +kernel
theorem dX9_number_16 : decode cX9_number 16 = .ok (.aload_n 0, 1) := by decide +kernel
theorem dX9_number_17 : decode cX9_number 17 = .ok (.getfield 110, 3) := by decide +kernel
theorem dX9_number_20 : decode cX9_number 20 = .ok (.i2l, 1) := by decide +kernel
theorem dX9_number_21 : decode cX9_number 21 = .ok (.iload_n 1, 1) := by decide +kernel
theorem dX9_number_22 : decode cX9_number 22 = .ok (.i2l, 1) := by decide +kernel
theorem dX9_number_23 : decode cX9_number 23 = .ok (.iload_n 2, 1) := by decide +kernel
theorem dX9_number_24 : decode cX9_number 24 = .ok (.i2l, 1) := by decide +kernel
theorem dX9_number_25 : decode cX9_number 25 = .ok (.invokestatic 47, 3) := by decide +kernel
theorem dX9_number_28 : decode cX9_number 28 = .ok (.ifCond .ne 8, 3) := by decide +kernel
theorem dX9_number_31 : decode cX9_number 31 = .ok (.aload_n 0, 1) := by decide +kernel
theorem dX9_number_32 : decode cX9_number 32 = .ok (.iconst 2, 1) := by decide +kernel
theorem dX9_number_33 : decode cX9_number 33 = .ok (.invokevirtual 133, 3) := by decide +kernel
theorem dX9_number_36 : decode cX9_number 36 = .ok (.aload_n 0, 1) := by decide +kernel
theorem dX9_number_37 : decode cX9_number 37 = .ok (.getfield 124, 3) := by decide +kernel
theorem dX9_number_40 : decode cX9_number 40 = .ok (.ifCond .ne 10, 3) := by decide +kernel
theorem dX9_number_43 : decode cX9_number 43 = .ok (.aload_n 0, 1) := by decide +kernel
theorem dX9_number_44 : decode cX9_number 44 = .ok (.getfield 110, 3) := by decide +kernel
theorem dX9_number_47 : decode cX9_number 47 = .ok (.goto 4, 3) := by decide +kernel
theorem dX9_number_50 : decode cX9_number 50 = .ok (.iload_n 1, 1) := by decide +kernel
theorem dX9_number_51 : decode cX9_number 51 = .ok (.istore_n 3, 1) := by decide +kernel
theorem dX9_number_52 : decode cX9_number 52 = .ok (.aload_n 0, 1) := by decide +kernel
theorem dX9_number_53 : decode cX9_number 53 = .ok (.invokevirtual 137, 3) := by decide +kernel
theorem dX9_number_56 : decode cX9_number 56 = .ok (.iload_n 3, 1) := by decide +kernel
theorem dX9_number_57 : decode cX9_number 57 = .ok (.ireturn, 1) := by decide +kernel
theorem dX9_sign_0 : decode cX9_sign 0 = .ok (.aload_n 0, 1) := by decide +kernel
theorem dX9_sign_1 : decode cX9_sign 1 = .ok (.getfield 121, 3) := by decide +kernel
theorem dX9_sign_4 : decode cX9_sign 4 = .ok (.iconst 3, 1) := by decide +kernel
theorem dX9_sign_5 : decode cX9_sign 5 = .ok (.if_icmp .ne 11, 3) := by decide +kernel
theorem dX9_sign_8 : decode cX9_sign 8 = .ok (.aload_n 0, 1) := by decide +kernel
theorem dX9_sign_9 : decode cX9_sign 9 = .ok (.getfield 110, 3) := by decide +kernel
theorem dX9_sign_12 : decode cX9_sign 12 = .ok (.iload_n 1, 1) := by decide +kernel
theorem dX9_sign_13 : decode cX9_sign 13 = .ok (.if_icmp .eq 8, 3) := by decide +kernel
theorem dX9_sign_16 : decode cX9_sign 16 = .ok (.aload_n 0, 1) := by decide +kernel
theorem dX9_sign_17 : decode cX9_sign 17 = .ok (.iconst 1, 1) := by decide +kernel
theorem dX9_sign_18 : decode cX9_sign 18 = .ok (.invokevirtual 133, 3) := by decide +kernel
theorem dX9_sign_21 : decode cX9_sign 21 = .ok (.aload_n 0, 1) := by decide +kernel
theorem dX9_sign_22 : decode cX9_sign 22 = .ok (.invokevirtual 137, 3) := by decide +kernel
theorem dX9_sign_25 : decode cX9_sign 25 = .ok (.return_, 1) := by decide +kernel
theorem dX9_letter_0 : decode cX9_letter 0 = .ok (.aload_n 0, 1) := by decide +kernel
theorem dX9_letter_1 : decode cX9_letter 1 = .ok (.getfield 121, 3) := by decide +kernel
theorem dX9_letter_4 : decode cX9_letter 4 = .ok (.iconst 1, 1) := by decide +kernel
theorem dX9_letter_5 : decode cX9_letter 5 = .ok (.if_icmp .ne 11, 3) := by decide +kernel
theorem dX9_letter_8 : decode cX9_letter 8 = .ok (.aload_n 0, 1) := by decide +kernel
theorem dX9_letter_9 : decode cX9_letter 9 = .ok (.getfield 110, 3) := by decide +kernel
theorem dX9_letter_12 : decode cX9_letter 12 = .ok (.iload_n 1, 1) := by decide +kernel
theorem dX9_letter_13 : decode cX9_letter 13 = .ok (.if_icmp .eq 8, 3) := by decide +kernel
theorem dX9_letter_16 : decode cX9_letter 16 = .ok (.aload_n 0, 1) := by decide +kernel
theorem dX9_letter_17 : decode cX9_letter 17 = .ok (.iconst 1, 1) := by decide +kernel
theorem dX9_letter_18 : decode cX9_letter 18 = .ok (.invokevirtual 133, 3) := by decide +kernel
theorem dX9_letter_21 : decode cX9_letter 21 = .ok (.aload_n 0, 1) := by decide +kernel
theorem dX9_letter_22 : decode cX9_letter 22 = .ok (.invokevirtual 137, 3) := by decide +kernel
theorem dX9_letter_25 : decode cX9_letter 25 = .ok (.return_, 1) := by decide +kernel
theorem dX9_kindOf_0 : decode cX9_kindOf 0 = .ok (.iload_n 0, 1) := by decide +kernel
theorem dX9_kindOf_1 : decode cX9_kindOf 1 = .ok (.bipush 110, 2) := by decide +kernel
theorem dX9_kindOf_3 : decode cX9_kindOf 3 = .ok (.if_icmp .ne 7, 3) := by decide +kernel
theorem dX9_kindOf_6 : decode cX9_kindOf 6 = .ok (.iconst 1, 1) := by decide +kernel
theorem dX9_kindOf_7 : decode cX9_kindOf 7 = .ok (.goto 44, 3) := by decide +kernel
theorem dX9_kindOf_10 : decode cX9_kindOf 10 = .ok (.iload_n 0, 1) := by decide +kernel
theorem dX9_kindOf_11 : decode cX9_kindOf 11 = .ok (.bipush 102, 2) := by decide +kernel
theorem dX9_kindOf_13 : decode cX9_kindOf 13 = .ok (.if_icmp .ne 7, 3) := by decide +kernel
theorem dX9_kindOf_16 : decode cX9_kindOf 16 = .ok (.iconst 2, 1) := by decide +kernel
theorem dX9_kindOf_17 : decode cX9_kindOf 17 = .ok (.goto 34, 3) := by decide +kernel
theorem dX9_kindOf_20 : decode cX9_kindOf 20 = .ok (.iload_n 0, 1) := by decide +kernel
theorem dX9_kindOf_21 : decode cX9_kindOf 21 = .ok (.bipush 103, 2) := by decide +kernel
theorem dX9_kindOf_23 : decode cX9_kindOf 23 = .ok (.if_icmp .ne 7, 3) := by decide +kernel
theorem dX9_kindOf_26 : decode cX9_kindOf 26 = .ok (.iconst 3, 1) := by decide +kernel
theorem dX9_kindOf_27 : decode cX9_kindOf 27 = .ok (.goto 24, 3) := by decide +kernel
theorem dX9_kindOf_30 : decode cX9_kindOf 30 = .ok (.iload_n 0, 1) := by decide +kernel
theorem dX9_kindOf_31 : decode cX9_kindOf 31 = .ok (.bipush 114, 2) := by decide +kernel
theorem dX9_kindOf_33 : decode cX9_kindOf 33 = .ok (.if_icmp .ne 7, 3) := by decide +kernel
theorem dX9_kindOf_36 : decode cX9_kindOf 36 = .ok (.iconst 4, 1) := by decide +kernel
theorem dX9_kindOf_37 : decode cX9_kindOf 37 = .ok (.goto 14, 3) := by decide +kernel
theorem dX9_kindOf_40 : decode cX9_kindOf 40 = .ok (.iload_n 0, 1) := by decide +kernel
theorem dX9_kindOf_41 : decode cX9_kindOf 41 = .ok (.bipush 115, 2) := by decide +kernel
theorem dX9_kindOf_43 : decode cX9_kindOf 43 = .ok (.if_icmp .ne 7, 3) := by decide +kernel
theorem dX9_kindOf_46 : decode cX9_kindOf 46 = .ok (.iconst 5, 1) := by decide +kernel
theorem dX9_kindOf_47 : decode cX9_kindOf 47 = .ok (.goto 4, 3) := by decide +kernel
theorem dX9_kindOf_50 : decode cX9_kindOf 50 = .ok (.iconst 0, 1) := by decide +kernel
theorem dX9_kindOf_51 : decode cX9_kindOf 51 = .ok (.ireturn, 1) := by decide +kernel
theorem dX9_isCanTold_0 : decode cX9_isCanTold 0 = .ok (.aload_n 0, 1) := by decide +kernel
theorem dX9_isCanTold_1 : decode cX9_isCanTold 1 = .ok (.getfield 124, 3) := by decide +kernel
theorem dX9_isCanTold_4 : decode cX9_isCanTold 4 = .ok (.ifCond .ne 25, 3) := by decide +kernel
theorem dX9_isCanTold_7 : decode cX9_isCanTold 7 = .ok (.aload_n 0, 1) := by decide +kernel
theorem dX9_isCanTold_8 : decode cX9_isCanTold 8 = .ok (.getfield 121, 3) := by decide +kernel
theorem dX9_isCanTold_11 : decode cX9_isCanTold 11 = .ok (.iconst 1, 1) := by decide +kernel
theorem dX9_isCanTold_12 : decode cX9_isCanTold 12 = .ok (.if_icmp .ne 17, 3) := by decide +kernel
theorem dX9_isCanTold_15 : decode cX9_isCanTold 15 = .ok (.aload_n 0, 1) := by decide +kernel
theorem dX9_isCanTold_16 : decode cX9_isCanTold 16 = .ok (.getfield 110, 3) := by decide +kernel
theorem dX9_isCanTold_19 : decode cX9_isCanTold 19 = .ok (.invokestatic 140, 3) := by decide +kernel
theorem dX9_isCanTold_22 : decode cX9_isCanTold 22 = .ok (.ifCond .le 7, 3) := by decide +kernel
theorem dX9_isCanTold_25 : decode cX9_isCanTold 25 = .ok (.iconst 1, 1) := by decide +kernel
theorem dX9_isCanTold_26 : decode cX9_isCanTold 26 = .ok (.goto 4, 3) := by decide +kernel
theorem dX9_isCanTold_29 : decode cX9_isCanTold 29 = .ok (.iconst 0, 1) := by decide +kernel
theorem dX9_isCanTold_30 : decode cX9_isCanTold 30 = .ok (.ireturn, 1) := by decide +kernel
theorem dX9_readsCan_0 : decode cX9_readsCan 0 = .ok (.aload_n 0, 1) := by decide +kernel
theorem dX9_readsCan_1 : decode cX9_readsCan 1 = .ok (.getfield 110, 3) := by decide +kernel
theorem dX9_readsCan_4 : decode cX9_readsCan 4 = .ok (.invokestatic 140, 3) := by decide +kernel
theorem dX9_readsCan_7 : decode cX9_readsCan 7 = .ok (.istore_n 1, 1) := by decide +kernel
theorem dX9_readsCan_8 : decode cX9_readsCan 8 = .ok (.aload_n 0, 1) := by decide +kernel
theorem dX9_readsCan_9 : decode cX9_readsCan 9 = .ok (.getfield 13, 3) := by decide +kernel
theorem dX9_readsCan_12 : decode cX9_readsCan 12 = .ok (.iconst 4, 1) := by decide +kernel
theorem dX9_readsCan_13 : decode cX9_readsCan 13 = .ok (.iaload, 1) := by decide +kernel
theorem dX9_readsCan_14 : decode cX9_readsCan 14 = .ok (.bipush 6, 2) := by decide +kernel
theorem dX9_readsCan_16 : decode cX9_readsCan 16 = .ok (.if_icmp .ne 8, 3) := by decide +kernel
theorem dX9_readsCan_19 : decode cX9_readsCan 19 = .ok (.aload_n 0, 1) := by decide +kernel
theorem dX9_readsCan_20 : decode cX9_readsCan 20 = .ok (.iconst 3, 1) := by decide +kernel
theorem dX9_readsCan_21 : decode cX9_readsCan 21 = .ok (.invokevirtual 133, 3) := by decide +kernel
theorem dX9_readsCan_24 : decode cX9_readsCan 24 = .ok (.aload_n 0, 1) := by decide +kernel
theorem dX9_readsCan_25 : decode cX9_readsCan 25 = .ok (.invokevirtual 137, 3) := by decide +kernel
theorem dX9_readsCan_28 : decode cX9_readsCan 28 = .ok (.aload_n 0, 1) := by decide +kernel
theorem dX9_readsCan_29 : decode cX9_readsCan 29 = .ok (.iconst 1, 1) := by decide +kernel
theorem dX9_readsCan_30 : decode cX9_readsCan 30 = .ok (.bipush 99, 2) := by decide +kernel
theorem dX9_readsCan_32 : decode cX9_readsCan 32 = .ok (.invokevirtual 143, 3) := by decide +kernel
theorem dX9_readsCan_35 : decode cX9_readsCan 35 = .ok (.istore_n 2, 1) := by decide +kernel
theorem dX9_readsCan_36 : decode cX9_readsCan 36 = .ok (.aload_n 0, 1) := by decide +kernel
theorem dX9_readsCan_37 : decode cX9_readsCan 37 = .ok (.bipush 59, 2) := by decide +kernel
theorem dX9_readsCan_39 : decode cX9_readsCan 39 = .ok (.invokevirtual 147, 3) := by decide +kernel
theorem dX9_readsCan_42 : decode cX9_readsCan 42 = .ok (.aload_n 0, 1) := by decide +kernel
theorem dX9_readsCan_43 : decode cX9_readsCan 43 = .ok (.getfield 124, 3) := by decide +kernel
theorem dX9_readsCan_46 : decode cX9_readsCan 46 = .ok (.ifCond .ne 12, 3) := by decide +kernel
theorem dX9_readsCan_49 : decode cX9_readsCan 49 = .ok (.aload_n 0, 1) := by decide +kernel
theorem dX9_readsCan_50 : decode cX9_readsCan 50 = .ok (.getfield 13, 3) := by decide +kernel
theorem dX9_readsCan_53 : decode cX9_readsCan 53 = .ok (.iload_n 1, 1) := by decide +kernel
theorem dX9_readsCan_54 : decode cX9_readsCan 54 = .ok (.iload_n 2, 1) := by decide +kernel
theorem dX9_readsCan_55 : decode cX9_readsCan 55 = .ok (.invokestatic 150, 3) := by decide +kernel
theorem dX9_readsCan_58 : decode cX9_readsCan 58 = .ok (.return_, 1) := by decide +kernel
theorem dX9_readsTake_0 : decode cX9_readsTake 0 = .ok (.aload_n 0, 1) := by decide +kernel
theorem dX9_readsTake_1 : decode cX9_readsTake 1 = .ok (.getfield 13, 3) := by decide +kernel
theorem dX9_readsTake_4 : decode cX9_readsTake 4 = .ok (.iconst 5, 1) := by decide +kernel
theorem dX9_readsTake_5 : decode cX9_readsTake 5 = .ok (.iaload, 1) := by decide +kernel
theorem dX9_readsTake_6 : decode cX9_readsTake 6 = .ok (.bipush 8, 2) := by decide +kernel
theorem dX9_readsTake_8 : decode cX9_readsTake 8 = .ok (.if_icmp .ne 8, 3) := by decide +kernel
theorem dX9_readsTake_11 : decode cX9_readsTake 11 = .ok (.aload_n 0, 1) := by decide +kernel
theorem dX9_readsTake_12 : decode cX9_readsTake 12 = .ok (.iconst 3, 1) := by decide +kernel
theorem dX9_readsTake_13 : decode cX9_readsTake 13 = .ok (.invokevirtual 133, 3) := by decide +kernel
theorem dX9_readsTake_16 : decode cX9_readsTake 16 = .ok (.aload_n 0, 1) := by decide +kernel
theorem dX9_readsTake_17 : decode cX9_readsTake 17 = .ok (.invokevirtual 137, 3) := by decide +kernel
theorem dX9_readsTake_20 : decode cX9_readsTake 20 = .ok (.aload_n 0, 1) := by decide +kernel
theorem dX9_readsTake_21 : decode cX9_readsTake 21 = .ok (.iconst 0, 1) := by decide +kernel
theorem dX9_readsTake_22 : decode cX9_readsTake 22 = .ok (.iconst 5, 1) := by decide +kernel
theorem dX9_readsTake_23 : decode cX9_readsTake 23 = .ok (.invokevirtual 143, 3) := by decide +kernel
theorem dX9_readsTake_26 : decode cX9_readsTake 26 = .ok (.istore_n 1, 1) := by decide +kernel
theorem dX9_readsTake_27 : decode cX9_readsTake 27 = .ok (.aload_n 0, 1) := by decide +kernel
theorem dX9_readsTake_28 : decode cX9_readsTake 28 = .ok (.bipush 44, 2) := by decide +kernel
theorem dX9_readsTake_30 : decode cX9_readsTake 30 = .ok (.invokevirtual 147, 3) := by decide +kernel
theorem dX9_readsTake_33 : decode cX9_readsTake 33 = .ok (.aload_n 0, 1) := by decide +kernel
theorem dX9_readsTake_34 : decode cX9_readsTake 34 = .ok (.iconst 1, 1) := by decide +kernel
theorem dX9_readsTake_35 : decode cX9_readsTake 35 = .ok (.bipush 60, 2) := by decide +kernel
theorem dX9_readsTake_37 : decode cX9_readsTake 37 = .ok (.invokevirtual 143, 3) := by decide +kernel
theorem dX9_readsTake_40 : decode cX9_readsTake 40 = .ok (.istore_n 2, 1) := by decide +kernel
theorem dX9_readsTake_41 : decode cX9_readsTake 41 = .ok (.aload_n 0, 1) := by decide +kernel
theorem dX9_readsTake_42 : decode cX9_readsTake 42 = .ok (.bipush 59, 2) := by decide +kernel
theorem dX9_readsTake_44 : decode cX9_readsTake 44 = .ok (.invokevirtual 147, 3) := by decide +kernel
theorem dX9_readsTake_47 : decode cX9_readsTake 47 = .ok (.aload_n 0, 1) := by decide +kernel
theorem dX9_readsTake_48 : decode cX9_readsTake 48 = .ok (.getfield 124, 3) := by decide +kernel
theorem dX9_readsTake_51 : decode cX9_readsTake 51 = .ok (.ifCond .ne 50, 3) := by decide +kernel
theorem dX9_readsTake_54 : decode cX9_readsTake 54 = .ok (.bipush 41, 2) := by decide +kernel
theorem dX9_readsTake_56 : decode cX9_readsTake 56 = .ok (.iconst 3, 1) := by decide +kernel
theorem dX9_readsTake_57 : decode cX9_readsTake 57 = .ok (.aload_n 0, 1) := by decide +kernel
theorem dX9_readsTake_58 : decode cX9_readsTake 58 = .ok (.getfield 13, 3) := by decide +kernel
theorem dX9_readsTake_61 : decode cX9_readsTake 61 = .ok (.iconst 5, 1) := by decide +kernel
theorem dX9_readsTake_62 : decode cX9_readsTake 62 = .ok (.iaload, 1) := by decide +kernel
theorem dX9_readsTake_63 : decode cX9_readsTake 63 = .ok (.imul, 1) := by decide +kernel
theorem dX9_readsTake_64 : decode cX9_readsTake 64 = .ok (.iadd, 1) := by decide +kernel
theorem dX9_readsTake_65 : decode cX9_readsTake 65 = .ok (.istore_n 3, 1) := by decide +kernel
theorem dX9_readsTake_66 : decode cX9_readsTake 66 = .ok (.aload_n 0, 1) := by decide +kernel
theorem dX9_readsTake_67 : decode cX9_readsTake 67 = .ok (.getfield 13, 3) := by decide +kernel
theorem dX9_readsTake_70 : decode cX9_readsTake 70 = .ok (.iload_n 3, 1) := by decide +kernel
theorem dX9_readsTake_71 : decode cX9_readsTake 71 = .ok (.iload_n 1, 1) := by decide +kernel
theorem dX9_readsTake_72 : decode cX9_readsTake 72 = .ok (.iastore, 1) := by decide +kernel
theorem dX9_readsTake_73 : decode cX9_readsTake 73 = .ok (.aload_n 0, 1) := by decide +kernel
theorem dX9_readsTake_74 : decode cX9_readsTake 74 = .ok (.getfield 13, 3) := by decide +kernel
theorem dX9_readsTake_77 : decode cX9_readsTake 77 = .ok (.iload_n 3, 1) := by decide +kernel
theorem dX9_readsTake_78 : decode cX9_readsTake 78 = .ok (.iconst 1, 1) := by decide +kernel
theorem dX9_readsTake_79 : decode cX9_readsTake 79 = .ok (.iadd, 1) := by decide +kernel
theorem dX9_readsTake_80 : decode cX9_readsTake 80 = .ok (.iload_n 2, 1) := by decide +kernel
theorem dX9_readsTake_81 : decode cX9_readsTake 81 = .ok (.iastore, 1) := by decide +kernel
theorem dX9_readsTake_82 : decode cX9_readsTake 82 = .ok (.aload_n 0, 1) := by decide +kernel
theorem dX9_readsTake_83 : decode cX9_readsTake 83 = .ok (.getfield 13, 3) := by decide +kernel
theorem dX9_readsTake_86 : decode cX9_readsTake 86 = .ok (.iload_n 3, 1) := by decide +kernel
theorem dX9_readsTake_87 : decode cX9_readsTake 87 = .ok (.iconst 2, 1) := by decide +kernel
theorem dX9_readsTake_88 : decode cX9_readsTake 88 = .ok (.iadd, 1) := by decide +kernel
theorem dX9_readsTake_89 : decode cX9_readsTake 89 = .ok (.iconst (-1), 1) := by decide +kernel
theorem dX9_readsTake_90 : decode cX9_readsTake 90 = .ok (.iastore, 1) := by decide +kernel
theorem dX9_readsTake_91 : decode cX9_readsTake 91 = .ok (.aload_n 0, 1) := by decide +kernel
theorem dX9_readsTake_92 : decode cX9_readsTake 92 = .ok (.getfield 13, 3) := by decide +kernel
theorem dX9_readsTake_95 : decode cX9_readsTake 95 = .ok (.iconst 5, 1) := by decide +kernel
theorem dX9_readsTake_96 : decode cX9_readsTake 96 = .ok (.dup2, 1) := by decide +kernel
theorem dX9_readsTake_97 : decode cX9_readsTake 97 = .ok (.iaload, 1) := by decide +kernel
theorem dX9_readsTake_98 : decode cX9_readsTake 98 = .ok (.iconst 1, 1) := by decide +kernel
theorem dX9_readsTake_99 : decode cX9_readsTake 99 = .ok (.iadd, 1) := by decide +kernel
theorem dX9_readsTake_100 : decode cX9_readsTake 100 = .ok (.iastore, 1) := by decide +kernel
theorem dX9_readsTake_101 : decode cX9_readsTake 101 = .ok (.return_, 1) := by decide +kernel
theorem dX9_adds_0 : decode cX9_adds 0 = .ok (.bipush 13, 2) := by decide +kernel
theorem dX9_adds_2 : decode cX9_adds 2 = .ok (.iconst 4, 1) := by decide +kernel
theorem dX9_adds_3 : decode cX9_adds 3 = .ok (.aload_n 0, 1) := by decide +kernel
theorem dX9_adds_4 : decode cX9_adds 4 = .ok (.iconst 4, 1) := by decide +kernel
theorem dX9_adds_5 : decode cX9_adds 5 = .ok (.iaload, 1) := by decide +kernel
theorem dX9_adds_6 : decode cX9_adds 6 = .ok (.imul, 1) := by decide +kernel
theorem dX9_adds_7 : decode cX9_adds 7 = .ok (.iadd, 1) := by decide +kernel
theorem dX9_adds_8 : decode cX9_adds 8 = .ok (.istore_n 3, 1) := by decide +kernel
theorem dX9_adds_9 : decode cX9_adds 9 = .ok (.aload_n 0, 1) := by decide +kernel
theorem dX9_adds_10 : decode cX9_adds 10 = .ok (.iload_n 3, 1) := by decide +kernel
theorem dX9_adds_11 : decode cX9_adds 11 = .ok (.iload_n 1, 1) := by decide +kernel
theorem dX9_adds_12 : decode cX9_adds 12 = .ok (.iastore, 1) := by decide +kernel
theorem dX9_adds_13 : decode cX9_adds 13 = .ok (.aload_n 0, 1) := by decide +kernel
theorem dX9_adds_14 : decode cX9_adds 14 = .ok (.iload_n 3, 1) := by decide +kernel
theorem dX9_adds_15 : decode cX9_adds 15 = .ok (.iconst 1, 1) := by decide +kernel
theorem dX9_adds_16 : decode cX9_adds 16 = .ok (.iadd, 1) := by decide +kernel
theorem dX9_adds_17 : decode cX9_adds 17 = .ok (.iload_n 2, 1) := by decide +kernel
theorem dX9_adds_18 : decode cX9_adds 18 = .ok (.iastore, 1) := by decide +kernel
theorem dX9_adds_19 : decode cX9_adds 19 = .ok (.aload_n 0, 1) := by decide +kernel
theorem dX9_adds_20 : decode cX9_adds 20 = .ok (.iload_n 3, 1) := by decide +kernel
theorem dX9_adds_21 : decode cX9_adds 21 = .ok (.iconst 2, 1) := by decide +kernel
theorem dX9_adds_22 : decode cX9_adds 22 = .ok (.iadd, 1) := by decide +kernel
theorem dX9_adds_23 : decode cX9_adds 23 = .ok (.iconst 0, 1) := by decide +kernel
theorem dX9_adds_24 : decode cX9_adds 24 = .ok (.iastore, 1) := by decide +kernel
theorem dX9_adds_25 : decode cX9_adds 25 = .ok (.aload_n 0, 1) := by decide +kernel
theorem dX9_adds_26 : decode cX9_adds 26 = .ok (.iload_n 3, 1) := by decide +kernel
theorem dX9_adds_27 : decode cX9_adds 27 = .ok (.iconst 3, 1) := by decide +kernel
theorem dX9_adds_28 : decode cX9_adds 28 = .ok (.iadd, 1) := by decide +kernel
theorem dX9_adds_29 : decode cX9_adds 29 = .ok (.iconst 0, 1) := by decide +kernel
theorem dX9_adds_30 : decode cX9_adds 30 = .ok (.iastore, 1) := by decide +kernel
theorem dX9_adds_31 : decode cX9_adds 31 = .ok (.aload_n 0, 1) := by decide +kernel
theorem dX9_adds_32 : decode cX9_adds 32 = .ok (.iconst 4, 1) := by decide +kernel
theorem dX9_adds_33 : decode cX9_adds 33 = .ok (.dup2, 1) := by decide +kernel
theorem dX9_adds_34 : decode cX9_adds 34 = .ok (.iaload, 1) := by decide +kernel
theorem dX9_adds_35 : decode cX9_adds 35 = .ok (.iconst 1, 1) := by decide +kernel
theorem dX9_adds_36 : decode cX9_adds 36 = .ok (.iadd, 1) := by decide +kernel
theorem dX9_adds_37 : decode cX9_adds 37 = .ok (.iastore, 1) := by decide +kernel
theorem dX9_adds_38 : decode cX9_adds 38 = .ok (.aload_n 0, 1) := by decide +kernel
theorem dX9_adds_39 : decode cX9_adds 39 = .ok (.bipush 7, 2) := by decide +kernel
theorem dX9_adds_41 : decode cX9_adds 41 = .ok (.dup2, 1) := by decide +kernel
theorem dX9_adds_42 : decode cX9_adds 42 = .ok (.iaload, 1) := by decide +kernel
theorem dX9_adds_43 : decode cX9_adds 43 = .ok (.iload_n 2, 1) := by decide +kernel
theorem dX9_adds_44 : decode cX9_adds 44 = .ok (.iadd, 1) := by decide +kernel
theorem dX9_adds_45 : decode cX9_adds 45 = .ok (.iastore, 1) := by decide +kernel
theorem dX9_adds_46 : decode cX9_adds 46 = .ok (.return_, 1) := by decide +kernel
theorem dX9_feed_0 : decode cX9_feed 0 = .ok (.iload_n 1, 1) := by decide +kernel
theorem dX9_feed_1 : decode cX9_feed 1 = .ok (.i2l, 1) := by decide +kernel
theorem dX9_feed_2 : decode cX9_feed 2 = .ok (.lconst 0, 1) := by decide +kernel
theorem dX9_feed_3 : decode cX9_feed 3 = .ok (.ldc2_w 154, 3) := by decide +kernel
theorem dX9_feed_6 : decode cX9_feed 6 = .ok (.invokestatic 47, 3) := by decide +kernel
theorem dX9_feed_9 : decode cX9_feed 9 = .ok (.ifCond .ne 6, 3) := by decide +kernel
theorem dX9_feed_12 : decode cX9_feed 12 = .ok (.ldc 156, 2) := by decide +kernel
theorem dX9_feed_14 : decode cX9_feed 14 = .ok (.ireturn, 1) := by decide +kernel
theorem dX9_feed_15 : decode cX9_feed 15 = .ok (.aload_n 0, 1) := by decide +kernel
theorem dX9_feed_16 : decode cX9_feed 16 = .ok (.getfield 97, 3) := by decide +kernel
theorem dX9_feed_19 : decode cX9_feed 19 = .ok (.bipush 110, 2) := by decide +kernel
theorem dX9_feed_21 : decode cX9_feed 21 = .ok (.if_icmp .ne 6, 3) := by decide +kernel
theorem dX9_feed_24 : decode cX9_feed 24 = .ok (.ldc 157, 2) := by decide +kernel
theorem dX9_feed_26 : decode cX9_feed 26 = .ok (.ireturn, 1) := by decide +kernel
theorem dX9_feed_27 : decode cX9_feed 27 = .ok (.aload_n 0, 1) := by decide +kernel
theorem dX9_feed_28 : decode cX9_feed 28 = .ok (.getfield 26, 3) := by decide +kernel
theorem dX9_feed_31 : decode cX9_feed 31 = .ok (.aload_n 0, 1) := by decide +kernel
theorem dX9_feed_32 : decode cX9_feed 32 = .ok (.getfield 97, 3) := by decide +kernel
theorem dX9_feed_35 : decode cX9_feed 35 = .ok (.iload_n 1, 1) := by decide +kernel
theorem dX9_feed_36 : decode cX9_feed 36 = .ok (.iastore, 1) := by decide +kernel
theorem dX9_feed_37 : decode cX9_feed 37 = .ok (.aload_n 0, 1) := by decide +kernel
theorem dX9_feed_38 : decode cX9_feed 38 = .ok (.dup, 1) := by decide +kernel
theorem dX9_feed_39 : decode cX9_feed 39 = .ok (.getfield 97, 3) := by decide +kernel
theorem dX9_feed_42 : decode cX9_feed 42 = .ok (.iconst 1, 1) := by decide +kernel
theorem dX9_feed_43 : decode cX9_feed 43 = .ok (.iadd, 1) := by decide +kernel
theorem dX9_feed_44 : decode cX9_feed 44 = .ok (.putfield 97, 3) := by decide +kernel
theorem dX9_feed_47 : decode cX9_feed 47 = .ok (.aload_n 0, 1) := by decide +kernel
theorem dX9_feed_48 : decode cX9_feed 48 = .ok (.getfield 97, 3) := by decide +kernel
theorem dX9_feed_51 : decode cX9_feed 51 = .ok (.ireturn, 1) := by decide +kernel
theorem dX9_book_0 : decode cX9_book 0 = .ok (.iconst 0, 1) := by decide +kernel
theorem dX9_book_1 : decode cX9_book 1 = .ok (.istore_n 1, 1) := by decide +kernel
theorem dX9_book_2 : decode cX9_book 2 = .ok (.iload_n 1, 1) := by decide +kernel
theorem dX9_book_3 : decode cX9_book 3 = .ok (.bipush 89, 2) := by decide +kernel
theorem dX9_book_5 : decode cX9_book 5 = .ok (.if_icmp .ge 16, 3) := by decide +kernel
theorem dX9_book_8 : decode cX9_book 8 = .ok (.aload_n 0, 1) := by decide +kernel
theorem dX9_book_9 : decode cX9_book 9 = .ok (.getfield 13, 3) := by decide +kernel
theorem dX9_book_12 : decode cX9_book 12 = .ok (.iload_n 1, 1) := by decide +kernel
theorem dX9_book_13 : decode cX9_book 13 = .ok (.iconst 0, 1) := by decide +kernel
theorem dX9_book_14 : decode cX9_book 14 = .ok (.iastore, 1) := by decide +kernel
theorem dX9_book_15 : decode cX9_book 15 = .ok (.iinc 1 1, 3) := by decide +kernel
theorem dX9_book_18 : decode cX9_book 18 = .ok (.goto (-16), 3) := by decide +kernel
theorem dX9_book_21 : decode cX9_book 21 = .ok (.aload_n 0, 1) := by decide +kernel
theorem dX9_book_22 : decode cX9_book 22 = .ok (.getfield 13, 3) := by decide +kernel
theorem dX9_book_25 : decode cX9_book 25 = .ok (.bipush 11, 2) := by decide +kernel
theorem dX9_book_27 : decode cX9_book 27 = .ok (.iconst (-1), 1) := by decide +kernel
theorem dX9_book_28 : decode cX9_book 28 = .ok (.iastore, 1) := by decide +kernel
theorem dX9_book_29 : decode cX9_book 29 = .ok (.aload_n 0, 1) := by decide +kernel
theorem dX9_book_30 : decode cX9_book 30 = .ok (.iconst 0, 1) := by decide +kernel
theorem dX9_book_31 : decode cX9_book 31 = .ok (.putfield 101, 3) := by decide +kernel
theorem dX9_book_34 : decode cX9_book 34 = .ok (.aload_n 0, 1) := by decide +kernel
theorem dX9_book_35 : decode cX9_book 35 = .ok (.iconst 0, 1) := by decide +kernel
theorem dX9_book_36 : decode cX9_book 36 = .ok (.putfield 124, 3) := by decide +kernel
theorem dX9_book_39 : decode cX9_book 39 = .ok (.aload_n 0, 1) := by decide +kernel
theorem dX9_book_40 : decode cX9_book 40 = .ok (.invokevirtual 130, 3) := by decide +kernel
theorem dX9_book_43 : decode cX9_book 43 = .ok (.aload_n 0, 1) := by decide +kernel
theorem dX9_book_44 : decode cX9_book 44 = .ok (.bipush 104, 2) := by decide +kernel
theorem dX9_book_46 : decode cX9_book 46 = .ok (.invokevirtual 158, 3) := by decide +kernel
theorem dX9_book_49 : decode cX9_book 49 = .ok (.aload_n 0, 1) := by decide +kernel
theorem dX9_book_50 : decode cX9_book 50 = .ok (.getfield 13, 3) := by decide +kernel
theorem dX9_book_53 : decode cX9_book 53 = .ok (.iconst 0, 1) := by decide +kernel
theorem dX9_book_54 : decode cX9_book 54 = .ok (.aload_n 0, 1) := by decide +kernel
theorem dX9_book_55 : decode cX9_book 55 = .ok (.iconst 0, 1) := by decide +kernel
theorem dX9_book_56 : decode cX9_book 56 = .ok (.bipush 9, 2) := by decide +kernel
theorem dX9_book_58 : decode cX9_book 58 = .ok (.invokevirtual 143, 3) := by decide +kernel
theorem dX9_book_61 : decode cX9_book 61 = .ok (.iastore, 1) := by decide +kernel
theorem dX9_book_62 : decode cX9_book 62 = .ok (.aload_n 0, 1) := by decide +kernel
theorem dX9_book_63 : decode cX9_book 63 = .ok (.bipush 44, 2) := by decide +kernel
theorem dX9_book_65 : decode cX9_book 65 = .ok (.invokevirtual 147, 3) := by decide +kernel
theorem dX9_book_68 : decode cX9_book 68 = .ok (.aload_n 0, 1) := by decide +kernel
theorem dX9_book_69 : decode cX9_book 69 = .ok (.getfield 13, 3) := by decide +kernel
theorem dX9_book_72 : decode cX9_book 72 = .ok (.iconst 1, 1) := by decide +kernel
theorem dX9_book_73 : decode cX9_book 73 = .ok (.aload_n 0, 1) := by decide +kernel
theorem dX9_book_74 : decode cX9_book 74 = .ok (.iconst 1, 1) := by decide +kernel
theorem dX9_book_75 : decode cX9_book 75 = .ok (.bipush 40, 2) := by decide +kernel
theorem dX9_book_77 : decode cX9_book 77 = .ok (.invokevirtual 143, 3) := by decide +kernel
theorem dX9_book_80 : decode cX9_book 80 = .ok (.iastore, 1) := by decide +kernel
theorem dX9_book_81 : decode cX9_book 81 = .ok (.aload_n 0, 1) := by decide +kernel
theorem dX9_book_82 : decode cX9_book 82 = .ok (.bipush 44, 2) := by decide +kernel
theorem dX9_book_84 : decode cX9_book 84 = .ok (.invokevirtual 147, 3) := by decide +kernel
theorem dX9_book_87 : decode cX9_book 87 = .ok (.aload_n 0, 1) := by decide +kernel
theorem dX9_book_88 : decode cX9_book 88 = .ok (.getfield 13, 3) := by decide +kernel
theorem dX9_book_91 : decode cX9_book 91 = .ok (.iconst 2, 1) := by decide +kernel
theorem dX9_book_92 : decode cX9_book 92 = .ok (.aload_n 0, 1) := by decide +kernel
theorem dX9_book_93 : decode cX9_book 93 = .ok (.bipush 10, 2) := by decide +kernel
theorem dX9_book_95 : decode cX9_book 95 = .ok (.bipush 99, 2) := by decide +kernel
theorem dX9_book_97 : decode cX9_book 97 = .ok (.invokevirtual 143, 3) := by decide +kernel
theorem dX9_book_100 : decode cX9_book 100 = .ok (.iastore, 1) := by decide +kernel
theorem dX9_book_101 : decode cX9_book 101 = .ok (.aload_n 0, 1) := by decide +kernel
theorem dX9_book_102 : decode cX9_book 102 = .ok (.bipush 44, 2) := by decide +kernel
theorem dX9_book_104 : decode cX9_book 104 = .ok (.invokevirtual 147, 3) := by decide +kernel
theorem dX9_book_107 : decode cX9_book 107 = .ok (.aload_n 0, 1) := by decide +kernel
theorem dX9_book_108 : decode cX9_book 108 = .ok (.getfield 13, 3) := by decide +kernel
theorem dX9_book_111 : decode cX9_book 111 = .ok (.iconst 3, 1) := by decide +kernel
theorem dX9_book_112 : decode cX9_book 112 = .ok (.aload_n 0, 1) := by decide +kernel
theorem dX9_book_113 : decode cX9_book 113 = .ok (.iconst 0, 1) := by decide +kernel
theorem dX9_book_114 : decode cX9_book 114 = .ok (.bipush 20, 2) := by decide +kernel
theorem dX9_book_116 : decode cX9_book 116 = .ok (.invokevirtual 143, 3) := by decide +kernel
theorem dX9_book_119 : decode cX9_book 119 = .ok (.iastore, 1) := by decide +kernel
theorem dX9_book_120 : decode cX9_book 120 = .ok (.aload_n 0, 1) := by decide +kernel
theorem dX9_book_121 : decode cX9_book 121 = .ok (.bipush 59, 2) := by decide +kernel
theorem dX9_book_123 : decode cX9_book 123 = .ok (.invokevirtual 147, 3) := by decide +kernel
theorem dX9_book_126 : decode cX9_book 126 = .ok (.aload_n 0, 1) := by decide +kernel
theorem dX9_book_127 : decode cX9_book 127 = .ok (.invokevirtual 161, 3) := by decide +kernel
theorem dX9_book_130 : decode cX9_book 130 = .ok (.ifCond .ne 8, 3) := by decide +kernel
theorem dX9_book_133 : decode cX9_book 133 = .ok (.aload_n 0, 1) := by decide +kernel
theorem dX9_book_134 : decode cX9_book 134 = .ok (.iconst 1, 1) := by decide +kernel
theorem dX9_book_135 : decode cX9_book 135 = .ok (.invokevirtual 133, 3) := by decide +kernel
theorem dX9_book_138 : decode cX9_book 138 = .ok (.aload_n 0, 1) := by decide +kernel
theorem dX9_book_139 : decode cX9_book 139 = .ok (.invokevirtual 161, 3) := by decide +kernel
theorem dX9_book_142 : decode cX9_book 142 = .ok (.ifCond .eq 10, 3) := by decide +kernel
theorem dX9_book_145 : decode cX9_book 145 = .ok (.aload_n 0, 1) := by decide +kernel
theorem dX9_book_146 : decode cX9_book 146 = .ok (.invokevirtual 165, 3) := by decide +kernel
theorem dX9_book_149 : decode cX9_book 149 = .ok (.goto (-11), 3) := by decide +kernel
theorem dX9_book_152 : decode cX9_book 152 = .ok (.aload_n 0, 1) := by decide +kernel
theorem dX9_book_153 : decode cX9_book 153 = .ok (.getfield 124, 3) := by decide +kernel
theorem dX9_book_156 : decode cX9_book 156 = .ok (.ifCond .ne 27, 3) := by decide +kernel
theorem dX9_book_159 : decode cX9_book 159 = .ok (.aload_n 0, 1) := by decide +kernel
theorem dX9_book_160 : decode cX9_book 160 = .ok (.getfield 121, 3) := by decide +kernel
theorem dX9_book_163 : decode cX9_book 163 = .ok (.iconst 1, 1) := by decide +kernel
theorem dX9_book_164 : decode cX9_book 164 = .ok (.if_icmp .ne 19, 3) := by decide +kernel
theorem dX9_book_167 : decode cX9_book 167 = .ok (.aload_n 0, 1) := by decide +kernel
theorem dX9_book_168 : decode cX9_book 168 = .ok (.getfield 110, 3) := by decide +kernel
theorem dX9_book_171 : decode cX9_book 171 = .ok (.bipush 116, 2) := by decide +kernel
theorem dX9_book_173 : decode cX9_book 173 = .ok (.if_icmp .ne 10, 3) := by decide +kernel
theorem dX9_book_176 : decode cX9_book 176 = .ok (.aload_n 0, 1) := by decide +kernel
theorem dX9_book_177 : decode cX9_book 177 = .ok (.invokevirtual 168, 3) := by decide +kernel
theorem dX9_book_180 : decode cX9_book 180 = .ok (.goto (-28), 3) := by decide +kernel
theorem dX9_book_183 : decode cX9_book 183 = .ok (.aload_n 0, 1) := by decide +kernel
theorem dX9_book_184 : decode cX9_book 184 = .ok (.getfield 121, 3) := by decide +kernel
theorem dX9_book_187 : decode cX9_book 187 = .ok (.ifCond .eq 8, 3) := by decide +kernel
theorem dX9_book_190 : decode cX9_book 190 = .ok (.aload_n 0, 1) := by decide +kernel
theorem dX9_book_191 : decode cX9_book 191 = .ok (.iconst 1, 1) := by decide +kernel
theorem dX9_book_192 : decode cX9_book 192 = .ok (.invokevirtual 133, 3) := by decide +kernel
theorem dX9_book_195 : decode cX9_book 195 = .ok (.aload_n 0, 1) := by decide +kernel
theorem dX9_book_196 : decode cX9_book 196 = .ok (.iconst 0, 1) := by decide +kernel
theorem dX9_book_197 : decode cX9_book 197 = .ok (.putfield 97, 3) := by decide +kernel
theorem dX9_book_200 : decode cX9_book 200 = .ok (.aload_n 0, 1) := by decide +kernel
theorem dX9_book_201 : decode cX9_book 201 = .ok (.getfield 124, 3) := by decide +kernel
theorem dX9_book_204 : decode cX9_book 204 = .ok (.ifCond .le 19, 3) := by decide +kernel
theorem dX9_book_207 : decode cX9_book 207 = .ok (.aload_n 0, 1) := by decide +kernel
theorem dX9_book_208 : decode cX9_book 208 = .ok (.aload_n 0, 1) := by decide +kernel
theorem dX9_book_209 : decode cX9_book 209 = .ok (.getfield 124, 3) := by decide +kernel
theorem dX9_book_212 : decode cX9_book 212 = .ok (.putfield 171, 3) := by decide +kernel
theorem dX9_book_215 : decode cX9_book 215 = .ok (.ldc 174, 2) := by decide +kernel
theorem dX9_book_217 : decode cX9_book 217 = .ok (.aload_n 0, 1) := by decide +kernel
theorem dX9_book_218 : decode cX9_book 218 = .ok (.getfield 127, 3) := by decide +kernel
theorem dX9_book_221 : decode cX9_book 221 = .ok (.isub, 1) := by decide +kernel
theorem dX9_book_222 : decode cX9_book 222 = .ok (.ireturn, 1) := by decide +kernel
theorem dX9_book_223 : decode cX9_book 223 = .ok (.aload_n 0, 1) := by decide +kernel
theorem dX9_book_224 : decode cX9_book 224 = .ok (.getfield 13, 3) := by decide +kernel
theorem dX9_book_227 : decode cX9_book 227 = .ok (.iconst 0, 1) := by decide +kernel
theorem dX9_book_228 : decode cX9_book 228 = .ok (.aload_n 0, 1) := by decide +kernel
theorem dX9_book_229 : decode cX9_book 229 = .ok (.getfield 7, 3) := by decide +kernel
theorem dX9_book_232 : decode cX9_book 232 = .ok (.iconst 0, 1) := by decide +kernel
theorem dX9_book_233 : decode cX9_book 233 = .ok (.invokestatic 175, 3) := by decide +kernel
theorem dX9_book_236 : decode cX9_book 236 = .ok (.aload_n 0, 1) := by decide +kernel
theorem dX9_book_237 : decode cX9_book 237 = .ok (.iconst 0, 1) := by decide +kernel
theorem dX9_book_238 : decode cX9_book 238 = .ok (.putfield 179, 3) := by decide +kernel
theorem dX9_book_241 : decode cX9_book 241 = .ok (.aload_n 0, 1) := by decide +kernel
theorem dX9_book_242 : decode cX9_book 242 = .ok (.getfield 7, 3) := by decide +kernel
theorem dX9_book_245 : decode cX9_book 245 = .ok (.iconst 4, 1) := by decide +kernel
theorem dX9_book_246 : decode cX9_book 246 = .ok (.iaload, 1) := by decide +kernel
theorem dX9_book_247 : decode cX9_book 247 = .ok (.ireturn, 1) := by decide +kernel
theorem dX9_fault_0 : decode cX9_fault 0 = .ok (.aload_n 0, 1) := by decide +kernel
theorem dX9_fault_1 : decode cX9_fault 1 = .ok (.getfield 171, 3) := by decide +kernel
theorem dX9_fault_4 : decode cX9_fault 4 = .ok (.ireturn, 1) := by decide +kernel
theorem dX9_notes_0 : decode cX9_notes 0 = .ok (.aload_n 0, 1) := by decide +kernel
theorem dX9_notes_1 : decode cX9_notes 1 = .ok (.getfield 179, 3) := by decide +kernel
theorem dX9_notes_4 : decode cX9_notes 4 = .ok (.bipush 20, 2) := by decide +kernel
theorem dX9_notes_6 : decode cX9_notes 6 = .ok (.if_icmp .ne 43, 3) := by decide +kernel
theorem dX9_notes_9 : decode cX9_notes 9 = .ok (.iconst 0, 1) := by decide +kernel
theorem dX9_notes_10 : decode cX9_notes 10 = .ok (.istore_n 1, 1) := by decide +kernel
theorem dX9_notes_11 : decode cX9_notes 11 = .ok (.iload_n 1, 1) := by decide +kernel
theorem dX9_notes_12 : decode cX9_notes 12 = .ok (.sipush 1691, 3) := by decide +kernel
theorem dX9_notes_15 : decode cX9_notes 15 = .ok (.if_icmp .ge 24, 3) := by decide +kernel
theorem dX9_notes_18 : decode cX9_notes 18 = .ok (.aload_n 0, 1) := by decide +kernel
theorem dX9_notes_19 : decode cX9_notes 19 = .ok (.getfield 16, 3) := by decide +kernel
theorem dX9_notes_22 : decode cX9_notes 22 = .ok (.iload_n 1, 1) := by decide +kernel
theorem dX9_notes_23 : decode cX9_notes 23 = .ok (.aload_n 0, 1) := by decide +kernel
theorem dX9_notes_24 : decode cX9_notes 24 = .ok (.getfield 16, 3) := by decide +kernel
theorem dX9_notes_27 : decode cX9_notes 27 = .ok (.iload_n 1, 1) := by decide +kernel
theorem dX9_notes_28 : decode cX9_notes 28 = .ok (.bipush 89, 2) := by decide +kernel
theorem dX9_notes_30 : decode cX9_notes 30 = .ok (.iadd, 1) := by decide +kernel
theorem dX9_notes_31 : decode cX9_notes 31 = .ok (.iaload, 1) := by decide +kernel
theorem dX9_notes_32 : decode cX9_notes 32 = .ok (.iastore, 1) := by decide +kernel
theorem dX9_notes_33 : decode cX9_notes 33 = .ok (.iinc 1 1, 3) := by decide +kernel
theorem dX9_notes_36 : decode cX9_notes 36 = .ok (.goto (-25), 3) := by decide +kernel
theorem dX9_notes_39 : decode cX9_notes 39 = .ok (.aload_n 0, 1) := by decide +kernel
theorem dX9_notes_40 : decode cX9_notes 40 = .ok (.dup, 1) := by decide +kernel
theorem dX9_notes_41 : decode cX9_notes 41 = .ok (.getfield 179, 3) := by decide +kernel
theorem dX9_notes_44 : decode cX9_notes 44 = .ok (.iconst 1, 1) := by decide +kernel
theorem dX9_notes_45 : decode cX9_notes 45 = .ok (.isub, 1) := by decide +kernel
theorem dX9_notes_46 : decode cX9_notes 46 = .ok (.putfield 179, 3) := by decide +kernel
theorem dX9_notes_49 : decode cX9_notes 49 = .ok (.aload_n 0, 1) := by decide +kernel
theorem dX9_notes_50 : decode cX9_notes 50 = .ok (.getfield 7, 3) := by decide +kernel
theorem dX9_notes_53 : decode cX9_notes 53 = .ok (.iconst 0, 1) := by decide +kernel
theorem dX9_notes_54 : decode cX9_notes 54 = .ok (.aload_n 0, 1) := by decide +kernel
theorem dX9_notes_55 : decode cX9_notes 55 = .ok (.getfield 16, 3) := by decide +kernel
theorem dX9_notes_58 : decode cX9_notes 58 = .ok (.bipush 89, 2) := by decide +kernel
theorem dX9_notes_60 : decode cX9_notes 60 = .ok (.aload_n 0, 1) := by decide +kernel
theorem dX9_notes_61 : decode cX9_notes 61 = .ok (.getfield 179, 3) := by decide +kernel
theorem dX9_notes_64 : decode cX9_notes 64 = .ok (.imul, 1) := by decide +kernel
theorem dX9_notes_65 : decode cX9_notes 65 = .ok (.invokestatic 175, 3) := by decide +kernel
theorem dX9_notes_68 : decode cX9_notes 68 = .ok (.aload_n 0, 1) := by decide +kernel
theorem dX9_notes_69 : decode cX9_notes 69 = .ok (.dup, 1) := by decide +kernel
theorem dX9_notes_70 : decode cX9_notes 70 = .ok (.getfield 179, 3) := by decide +kernel
theorem dX9_notes_73 : decode cX9_notes 73 = .ok (.iconst 1, 1) := by decide +kernel
theorem dX9_notes_74 : decode cX9_notes 74 = .ok (.iadd, 1) := by decide +kernel
theorem dX9_notes_75 : decode cX9_notes 75 = .ok (.putfield 179, 3) := by decide +kernel
theorem dX9_notes_78 : decode cX9_notes 78 = .ok (.return_, 1) := by decide +kernel
theorem dX9_undo_0 : decode cX9_undo 0 = .ok (.aload_n 0, 1) := by decide +kernel
theorem dX9_undo_1 : decode cX9_undo 1 = .ok (.getfield 179, 3) := by decide +kernel
theorem dX9_undo_4 : decode cX9_undo 4 = .ok (.ifCond .ne 6, 3) := by decide +kernel
theorem dX9_undo_7 : decode cX9_undo 7 = .ok (.ldc 182, 2) := by decide +kernel
theorem dX9_undo_9 : decode cX9_undo 9 = .ok (.ireturn, 1) := by decide +kernel
theorem dX9_undo_10 : decode cX9_undo 10 = .ok (.aload_n 0, 1) := by decide +kernel
theorem dX9_undo_11 : decode cX9_undo 11 = .ok (.dup, 1) := by decide +kernel
theorem dX9_undo_12 : decode cX9_undo 12 = .ok (.getfield 179, 3) := by decide +kernel
theorem dX9_undo_15 : decode cX9_undo 15 = .ok (.iconst 1, 1) := by decide +kernel
theorem dX9_undo_16 : decode cX9_undo 16 = .ok (.isub, 1) := by decide +kernel
theorem dX9_undo_17 : decode cX9_undo 17 = .ok (.putfield 179, 3) := by decide +kernel
theorem dX9_undo_20 : decode cX9_undo 20 = .ok (.aload_n 0, 1) := by decide +kernel
theorem dX9_undo_21 : decode cX9_undo 21 = .ok (.getfield 16, 3) := by decide +kernel
theorem dX9_undo_24 : decode cX9_undo 24 = .ok (.bipush 89, 2) := by decide +kernel
theorem dX9_undo_26 : decode cX9_undo 26 = .ok (.aload_n 0, 1) := by decide +kernel
theorem dX9_undo_27 : decode cX9_undo 27 = .ok (.getfield 179, 3) := by decide +kernel
theorem dX9_undo_30 : decode cX9_undo 30 = .ok (.imul, 1) := by decide +kernel
theorem dX9_undo_31 : decode cX9_undo 31 = .ok (.aload_n 0, 1) := by decide +kernel
theorem dX9_undo_32 : decode cX9_undo 32 = .ok (.getfield 7, 3) := by decide +kernel
theorem dX9_undo_35 : decode cX9_undo 35 = .ok (.iconst 0, 1) := by decide +kernel
theorem dX9_undo_36 : decode cX9_undo 36 = .ok (.invokestatic 175, 3) := by decide +kernel
theorem dX9_undo_39 : decode cX9_undo 39 = .ok (.aload_n 0, 1) := by decide +kernel
theorem dX9_undo_40 : decode cX9_undo 40 = .ok (.getfield 179, 3) := by decide +kernel
theorem dX9_undo_43 : decode cX9_undo 43 = .ok (.ireturn, 1) := by decide +kernel
theorem dX9_load_0 : decode cX9_load 0 = .ok (.aload_n 0, 1) := by decide +kernel
theorem dX9_load_1 : decode cX9_load 1 = .ok (.iload_n 1, 1) := by decide +kernel
theorem dX9_load_2 : decode cX9_load 2 = .ok (.invokevirtual 183, 3) := by decide +kernel
theorem dX9_load_5 : decode cX9_load 5 = .ok (.ifCond .ne 6, 3) := by decide +kernel
theorem dX9_load_8 : decode cX9_load 8 = .ok (.ldc 156, 2) := by decide +kernel
theorem dX9_load_10 : decode cX9_load 10 = .ok (.ireturn, 1) := by decide +kernel
theorem dX9_load_11 : decode cX9_load 11 = .ok (.aload_n 0, 1) := by decide +kernel
theorem dX9_load_12 : decode cX9_load 12 = .ok (.getfield 7, 3) := by decide +kernel
theorem dX9_load_15 : decode cX9_load 15 = .ok (.bipush 11, 2) := by decide +kernel
theorem dX9_load_17 : decode cX9_load 17 = .ok (.iaload, 1) := by decide +kernel
theorem dX9_load_18 : decode cX9_load 18 = .ok (.ifCond .ge 33, 3) := by decide +kernel
theorem dX9_load_21 : decode cX9_load 21 = .ok (.aload_n 0, 1) := by decide +kernel
theorem dX9_load_22 : decode cX9_load 22 = .ok (.getfield 7, 3) := by decide +kernel
theorem dX9_load_25 : decode cX9_load 25 = .ok (.iload_n 1, 1) := by decide +kernel
theorem dX9_load_26 : decode cX9_load 26 = .ok (.invokestatic 63, 3) := by decide +kernel
theorem dX9_load_29 : decode cX9_load 29 = .ok (.ifCond .ne 22, 3) := by decide +kernel
theorem dX9_load_32 : decode cX9_load 32 = .ok (.aload_n 0, 1) := by decide +kernel
theorem dX9_load_33 : decode cX9_load 33 = .ok (.getfield 7, 3) := by decide +kernel
theorem dX9_load_36 : decode cX9_load 36 = .ok (.iload_n 1, 1) := by decide +kernel
theorem dX9_load_37 : decode cX9_load 37 = .ok (.invokestatic 70, 3) := by decide +kernel
theorem dX9_load_40 : decode cX9_load 40 = .ok (.aload_n 0, 1) := by decide +kernel
theorem dX9_load_41 : decode cX9_load 41 = .ok (.getfield 7, 3) := by decide +kernel
theorem dX9_load_44 : decode cX9_load 44 = .ok (.iload_n 1, 1) := by decide +kernel
theorem dX9_load_45 : decode cX9_load 45 = .ok (.invokestatic 73, 3) := by decide +kernel
theorem dX9_load_48 : decode cX9_load 48 = .ok (.if_icmp .ge 6, 3) := by decide +kernel
theorem dX9_load_51 : decode cX9_load 51 = .ok (.ldc 182, 2) := by decide +kernel
theorem dX9_load_53 : decode cX9_load 53 = .ok (.ireturn, 1) := by decide +kernel
theorem dX9_load_54 : decode cX9_load 54 = .ok (.aload_n 0, 1) := by decide +kernel
theorem dX9_load_55 : decode cX9_load 55 = .ok (.invokevirtual 187, 3) := by decide +kernel
theorem dX9_load_58 : decode cX9_load 58 = .ok (.aload_n 0, 1) := by decide +kernel
theorem dX9_load_59 : decode cX9_load 59 = .ok (.getfield 7, 3) := by decide +kernel
theorem dX9_load_62 : decode cX9_load 62 = .ok (.iload_n 1, 1) := by decide +kernel
theorem dX9_load_63 : decode cX9_load 63 = .ok (.invokestatic 73, 3) := by decide +kernel
theorem dX9_load_66 : decode cX9_load 66 = .ok (.istore_n 2, 1) := by decide +kernel
theorem dX9_load_67 : decode cX9_load 67 = .ok (.aload_n 0, 1) := by decide +kernel
theorem dX9_load_68 : decode cX9_load 68 = .ok (.getfield 7, 3) := by decide +kernel
theorem dX9_load_71 : decode cX9_load 71 = .ok (.bipush 13, 2) := by decide +kernel
theorem dX9_load_73 : decode cX9_load 73 = .ok (.iconst 4, 1) := by decide +kernel
theorem dX9_load_74 : decode cX9_load 74 = .ok (.iload_n 1, 1) := by decide +kernel
theorem dX9_load_75 : decode cX9_load 75 = .ok (.imul, 1) := by decide +kernel
theorem dX9_load_76 : decode cX9_load 76 = .ok (.iadd, 1) := by decide +kernel
theorem dX9_load_77 : decode cX9_load 77 = .ok (.iconst 1, 1) := by decide +kernel
theorem dX9_load_78 : decode cX9_load 78 = .ok (.iadd, 1) := by decide +kernel
theorem dX9_load_79 : decode cX9_load 79 = .ok (.dup2, 1) := by decide +kernel
theorem dX9_load_80 : decode cX9_load 80 = .ok (.iaload, 1) := by decide +kernel
theorem dX9_load_81 : decode cX9_load 81 = .ok (.iload_n 2, 1) := by decide +kernel
theorem dX9_load_82 : decode cX9_load 82 = .ok (.isub, 1) := by decide +kernel
theorem dX9_load_83 : decode cX9_load 83 = .ok (.iastore, 1) := by decide +kernel
theorem dX9_load_84 : decode cX9_load 84 = .ok (.aload_n 0, 1) := by decide +kernel
theorem dX9_load_85 : decode cX9_load 85 = .ok (.getfield 7, 3) := by decide +kernel
theorem dX9_load_88 : decode cX9_load 88 = .ok (.bipush 13, 2) := by decide +kernel
theorem dX9_load_90 : decode cX9_load 90 = .ok (.iconst 4, 1) := by decide +kernel
theorem dX9_load_91 : decode cX9_load 91 = .ok (.iload_n 1, 1) := by decide +kernel
theorem dX9_load_92 : decode cX9_load 92 = .ok (.imul, 1) := by decide +kernel
theorem dX9_load_93 : decode cX9_load 93 = .ok (.iadd, 1) := by decide +kernel
theorem dX9_load_94 : decode cX9_load 94 = .ok (.iconst 2, 1) := by decide +kernel
theorem dX9_load_95 : decode cX9_load 95 = .ok (.iadd, 1) := by decide +kernel
theorem dX9_load_96 : decode cX9_load 96 = .ok (.iconst 1, 1) := by decide +kernel
theorem dX9_load_97 : decode cX9_load 97 = .ok (.iastore, 1) := by decide +kernel
theorem dX9_load_98 : decode cX9_load 98 = .ok (.aload_n 0, 1) := by decide +kernel
theorem dX9_load_99 : decode cX9_load 99 = .ok (.getfield 7, 3) := by decide +kernel
theorem dX9_load_102 : decode cX9_load 102 = .ok (.bipush 9, 2) := by decide +kernel
theorem dX9_load_104 : decode cX9_load 104 = .ok (.dup2, 1) := by decide +kernel
theorem dX9_load_105 : decode cX9_load 105 = .ok (.iaload, 1) := by decide +kernel
theorem dX9_load_106 : decode cX9_load 106 = .ok (.iload_n 2, 1) := by decide +kernel
theorem dX9_load_107 : decode cX9_load 107 = .ok (.iadd, 1) := by decide +kernel
theorem dX9_load_108 : decode cX9_load 108 = .ok (.iastore, 1) := by decide +kernel
theorem dX9_load_109 : decode cX9_load 109 = .ok (.aload_n 0, 1) := by decide +kernel
theorem dX9_load_110 : decode cX9_load 110 = .ok (.getfield 7, 3) := by decide +kernel
theorem dX9_load_113 : decode cX9_load 113 = .ok (.bipush 11, 2) := by decide +kernel
theorem dX9_load_115 : decode cX9_load 115 = .ok (.iload_n 1, 1) := by decide +kernel
theorem dX9_load_116 : decode cX9_load 116 = .ok (.iastore, 1) := by decide +kernel
theorem dX9_load_117 : decode cX9_load 117 = .ok (.aload_n 0, 1) := by decide +kernel
theorem dX9_load_118 : decode cX9_load 118 = .ok (.getfield 7, 3) := by decide +kernel
theorem dX9_load_121 : decode cX9_load 121 = .ok (.bipush 12, 2) := by decide +kernel
theorem dX9_load_123 : decode cX9_load 123 = .ok (.iconst 0, 1) := by decide +kernel
theorem dX9_load_124 : decode cX9_load 124 = .ok (.iastore, 1) := by decide +kernel
theorem dX9_load_125 : decode cX9_load 125 = .ok (.aload_n 0, 1) := by decide +kernel
theorem dX9_load_126 : decode cX9_load 126 = .ok (.getfield 7, 3) := by decide +kernel
theorem dX9_load_129 : decode cX9_load 129 = .ok (.iload_n 1, 1) := by decide +kernel
theorem dX9_load_130 : decode cX9_load 130 = .ok (.invokestatic 70, 3) := by decide +kernel
theorem dX9_load_133 : decode cX9_load 133 = .ok (.ireturn, 1) := by decide +kernel
theorem dX9_shoot_0 : decode cX9_shoot 0 = .ok (.aload_n 0, 1) := by decide +kernel
theorem dX9_shoot_1 : decode cX9_shoot 1 = .ok (.iload_n 1, 1) := by decide +kernel
theorem dX9_shoot_2 : decode cX9_shoot 2 = .ok (.invokevirtual 190, 3) := by decide +kernel
theorem dX9_shoot_5 : decode cX9_shoot 5 = .ok (.ifCond .ne 6, 3) := by decide +kernel
theorem dX9_shoot_8 : decode cX9_shoot 8 = .ok (.ldc 156, 2) := by decide +kernel
theorem dX9_shoot_10 : decode cX9_shoot 10 = .ok (.ireturn, 1) := by decide +kernel
theorem dX9_shoot_11 : decode cX9_shoot 11 = .ok (.aload_n 0, 1) := by decide +kernel
theorem dX9_shoot_12 : decode cX9_shoot 12 = .ok (.getfield 7, 3) := by decide +kernel
theorem dX9_shoot_15 : decode cX9_shoot 15 = .ok (.bipush 11, 2) := by decide +kernel
theorem dX9_shoot_17 : decode cX9_shoot 17 = .ok (.iaload, 1) := by decide +kernel
theorem dX9_shoot_18 : decode cX9_shoot 18 = .ok (.istore_n 2, 1) := by decide +kernel
theorem dX9_shoot_19 : decode cX9_shoot 19 = .ok (.iload_n 2, 1) := by decide +kernel
theorem dX9_shoot_20 : decode cX9_shoot 20 = .ok (.ifCond .lt 26, 3) := by decide +kernel
theorem dX9_shoot_23 : decode cX9_shoot 23 = .ok (.aload_n 0, 1) := by decide +kernel
theorem dX9_shoot_24 : decode cX9_shoot 24 = .ok (.getfield 7, 3) := by decide +kernel
theorem dX9_shoot_27 : decode cX9_shoot 27 = .ok (.iload_n 1, 1) := by decide +kernel
theorem dX9_shoot_28 : decode cX9_shoot 28 = .ok (.invokestatic 66, 3) := by decide +kernel
theorem dX9_shoot_31 : decode cX9_shoot 31 = .ok (.ifCond .eq 15, 3) := by decide +kernel
theorem dX9_shoot_34 : decode cX9_shoot 34 = .ok (.aload_n 0, 1) := by decide +kernel
theorem dX9_shoot_35 : decode cX9_shoot 35 = .ok (.getfield 7, 3) := by decide +kernel
theorem dX9_shoot_38 : decode cX9_shoot 38 = .ok (.iload_n 2, 1) := by decide +kernel
theorem dX9_shoot_39 : decode cX9_shoot 39 = .ok (.iload_n 1, 1) := by decide +kernel
theorem dX9_shoot_40 : decode cX9_shoot 40 = .ok (.invokestatic 79, 3) := by decide +kernel
theorem dX9_shoot_43 : decode cX9_shoot 43 = .ok (.ifCond .ne 6, 3) := by decide +kernel
theorem dX9_shoot_46 : decode cX9_shoot 46 = .ok (.ldc 182, 2) := by decide +kernel
theorem dX9_shoot_48 : decode cX9_shoot 48 = .ok (.ireturn, 1) := by decide +kernel
theorem dX9_shoot_49 : decode cX9_shoot 49 = .ok (.aload_n 0, 1) := by decide +kernel
theorem dX9_shoot_50 : decode cX9_shoot 50 = .ok (.getfield 7, 3) := by decide +kernel
theorem dX9_shoot_53 : decode cX9_shoot 53 = .ok (.bipush 41, 2) := by decide +kernel
theorem dX9_shoot_55 : decode cX9_shoot 55 = .ok (.iconst 3, 1) := by decide +kernel
theorem dX9_shoot_56 : decode cX9_shoot 56 = .ok (.iload_n 1, 1) := by decide +kernel
theorem dX9_shoot_57 : decode cX9_shoot 57 = .ok (.imul, 1) := by decide +kernel
theorem dX9_shoot_58 : decode cX9_shoot 58 = .ok (.iadd, 1) := by decide +kernel
theorem dX9_shoot_59 : decode cX9_shoot 59 = .ok (.iconst 1, 1) := by decide +kernel
theorem dX9_shoot_60 : decode cX9_shoot 60 = .ok (.iadd, 1) := by decide +kernel
theorem dX9_shoot_61 : decode cX9_shoot 61 = .ok (.iaload, 1) := by decide +kernel
theorem dX9_shoot_62 : decode cX9_shoot 62 = .ok (.istore_n 3, 1) := by decide +kernel
theorem dX9_shoot_63 : decode cX9_shoot 63 = .ok (.aload_n 0, 1) := by decide +kernel
theorem dX9_shoot_64 : decode cX9_shoot 64 = .ok (.getfield 7, 3) := by decide +kernel
theorem dX9_shoot_67 : decode cX9_shoot 67 = .ok (.iload_n 2, 1) := by decide +kernel
theorem dX9_shoot_68 : decode cX9_shoot 68 = .ok (.invokestatic 70, 3) := by decide +kernel
theorem dX9_shoot_71 : decode cX9_shoot 71 = .ok (.iload_n 3, 1) := by decide +kernel
theorem dX9_shoot_72 : decode cX9_shoot 72 = .ok (.aload_n 0, 1) := by decide +kernel
theorem dX9_shoot_73 : decode cX9_shoot 73 = .ok (.getfield 7, 3) := by decide +kernel
theorem dX9_shoot_76 : decode cX9_shoot 76 = .ok (.iload_n 2, 1) := by decide +kernel
theorem dX9_shoot_77 : decode cX9_shoot 77 = .ok (.invokestatic 83, 3) := by decide +kernel
theorem dX9_shoot_80 : decode cX9_shoot 80 = .ok (.iadd, 1) := by decide +kernel
theorem dX9_shoot_81 : decode cX9_shoot 81 = .ok (.if_icmp .ge 6, 3) := by decide +kernel
theorem dX9_shoot_84 : decode cX9_shoot 84 = .ok (.ldc 157, 2) := by decide +kernel
theorem dX9_shoot_86 : decode cX9_shoot 86 = .ok (.ireturn, 1) := by decide +kernel
theorem dX9_shoot_87 : decode cX9_shoot 87 = .ok (.aload_n 0, 1) := by decide +kernel
theorem dX9_shoot_88 : decode cX9_shoot 88 = .ok (.invokevirtual 187, 3) := by decide +kernel
theorem dX9_shoot_91 : decode cX9_shoot 91 = .ok (.aload_n 0, 1) := by decide +kernel
theorem dX9_shoot_92 : decode cX9_shoot 92 = .ok (.getfield 7, 3) := by decide +kernel
theorem dX9_shoot_95 : decode cX9_shoot 95 = .ok (.bipush 13, 2) := by decide +kernel
theorem dX9_shoot_97 : decode cX9_shoot 97 = .ok (.iconst 4, 1) := by decide +kernel
theorem dX9_shoot_98 : decode cX9_shoot 98 = .ok (.iload_n 2, 1) := by decide +kernel
theorem dX9_shoot_99 : decode cX9_shoot 99 = .ok (.imul, 1) := by decide +kernel
theorem dX9_shoot_100 : decode cX9_shoot 100 = .ok (.iadd, 1) := by decide +kernel
theorem dX9_shoot_101 : decode cX9_shoot 101 = .ok (.iconst 1, 1) := by decide +kernel
theorem dX9_shoot_102 : decode cX9_shoot 102 = .ok (.iadd, 1) := by decide +kernel
theorem dX9_shoot_103 : decode cX9_shoot 103 = .ok (.dup2, 1) := by decide +kernel
theorem dX9_shoot_104 : decode cX9_shoot 104 = .ok (.iaload, 1) := by decide +kernel
theorem dX9_shoot_105 : decode cX9_shoot 105 = .ok (.iload_n 3, 1) := by decide +kernel
theorem dX9_shoot_106 : decode cX9_shoot 106 = .ok (.aload_n 0, 1) := by decide +kernel
theorem dX9_shoot_107 : decode cX9_shoot 107 = .ok (.getfield 7, 3) := by decide +kernel
theorem dX9_shoot_110 : decode cX9_shoot 110 = .ok (.iload_n 2, 1) := by decide +kernel
theorem dX9_shoot_111 : decode cX9_shoot 111 = .ok (.invokestatic 83, 3) := by decide +kernel
theorem dX9_shoot_114 : decode cX9_shoot 114 = .ok (.iadd, 1) := by decide +kernel
theorem dX9_shoot_115 : decode cX9_shoot 115 = .ok (.isub, 1) := by decide +kernel
theorem dX9_shoot_116 : decode cX9_shoot 116 = .ok (.iastore, 1) := by decide +kernel
theorem dX9_shoot_117 : decode cX9_shoot 117 = .ok (.aload_n 0, 1) := by decide +kernel
theorem dX9_shoot_118 : decode cX9_shoot 118 = .ok (.getfield 7, 3) := by decide +kernel
theorem dX9_shoot_121 : decode cX9_shoot 121 = .ok (.bipush 8, 2) := by decide +kernel
theorem dX9_shoot_123 : decode cX9_shoot 123 = .ok (.dup2, 1) := by decide +kernel
theorem dX9_shoot_124 : decode cX9_shoot 124 = .ok (.iaload, 1) := by decide +kernel
theorem dX9_shoot_125 : decode cX9_shoot 125 = .ok (.iload_n 3, 1) := by decide +kernel
theorem dX9_shoot_126 : decode cX9_shoot 126 = .ok (.iadd, 1) := by decide +kernel
theorem dX9_shoot_127 : decode cX9_shoot 127 = .ok (.iastore, 1) := by decide +kernel
theorem dX9_shoot_128 : decode cX9_shoot 128 = .ok (.aload_n 0, 1) := by decide +kernel
theorem dX9_shoot_129 : decode cX9_shoot 129 = .ok (.getfield 7, 3) := by decide +kernel
theorem dX9_shoot_132 : decode cX9_shoot 132 = .ok (.bipush 9, 2) := by decide +kernel
theorem dX9_shoot_134 : decode cX9_shoot 134 = .ok (.dup2, 1) := by decide +kernel
theorem dX9_shoot_135 : decode cX9_shoot 135 = .ok (.iaload, 1) := by decide +kernel
theorem dX9_shoot_136 : decode cX9_shoot 136 = .ok (.aload_n 0, 1) := by decide +kernel
theorem dX9_shoot_137 : decode cX9_shoot 137 = .ok (.getfield 7, 3) := by decide +kernel
theorem dX9_shoot_140 : decode cX9_shoot 140 = .ok (.iload_n 2, 1) := by decide +kernel
theorem dX9_shoot_141 : decode cX9_shoot 141 = .ok (.invokestatic 83, 3) := by decide +kernel
theorem dX9_shoot_144 : decode cX9_shoot 144 = .ok (.iadd, 1) := by decide +kernel
theorem dX9_shoot_145 : decode cX9_shoot 145 = .ok (.iastore, 1) := by decide +kernel
theorem dX9_shoot_146 : decode cX9_shoot 146 = .ok (.aload_n 0, 1) := by decide +kernel
theorem dX9_shoot_147 : decode cX9_shoot 147 = .ok (.getfield 7, 3) := by decide +kernel
theorem dX9_shoot_150 : decode cX9_shoot 150 = .ok (.bipush 12, 2) := by decide +kernel
theorem dX9_shoot_152 : decode cX9_shoot 152 = .ok (.dup2, 1) := by decide +kernel
theorem dX9_shoot_153 : decode cX9_shoot 153 = .ok (.iaload, 1) := by decide +kernel
theorem dX9_shoot_154 : decode cX9_shoot 154 = .ok (.iload_n 3, 1) := by decide +kernel
theorem dX9_shoot_155 : decode cX9_shoot 155 = .ok (.iadd, 1) := by decide +kernel
theorem dX9_shoot_156 : decode cX9_shoot 156 = .ok (.iastore, 1) := by decide +kernel
theorem dX9_shoot_157 : decode cX9_shoot 157 = .ok (.aload_n 0, 1) := by decide +kernel
theorem dX9_shoot_158 : decode cX9_shoot 158 = .ok (.getfield 7, 3) := by decide +kernel
theorem dX9_shoot_161 : decode cX9_shoot 161 = .ok (.bipush 41, 2) := by decide +kernel
theorem dX9_shoot_163 : decode cX9_shoot 163 = .ok (.iconst 3, 1) := by decide +kernel
theorem dX9_shoot_164 : decode cX9_shoot 164 = .ok (.iload_n 1, 1) := by decide +kernel
theorem dX9_shoot_165 : decode cX9_shoot 165 = .ok (.imul, 1) := by decide +kernel
theorem dX9_shoot_166 : decode cX9_shoot 166 = .ok (.iadd, 1) := by decide +kernel
theorem dX9_shoot_167 : decode cX9_shoot 167 = .ok (.iconst 2, 1) := by decide +kernel
theorem dX9_shoot_168 : decode cX9_shoot 168 = .ok (.iadd, 1) := by decide +kernel
theorem dX9_shoot_169 : decode cX9_shoot 169 = .ok (.iload_n 2, 1) := by decide +kernel
theorem dX9_shoot_170 : decode cX9_shoot 170 = .ok (.iastore, 1) := by decide +kernel
theorem dX9_shoot_171 : decode cX9_shoot 171 = .ok (.aload_n 0, 1) := by decide +kernel
theorem dX9_shoot_172 : decode cX9_shoot 172 = .ok (.getfield 7, 3) := by decide +kernel
theorem dX9_shoot_175 : decode cX9_shoot 175 = .ok (.iload_n 2, 1) := by decide +kernel
theorem dX9_shoot_176 : decode cX9_shoot 176 = .ok (.invokestatic 70, 3) := by decide +kernel
theorem dX9_shoot_179 : decode cX9_shoot 179 = .ok (.ireturn, 1) := by decide +kernel
theorem dX9_unload_0 : decode cX9_unload 0 = .ok (.aload_n 0, 1) := by decide +kernel
theorem dX9_unload_1 : decode cX9_unload 1 = .ok (.getfield 7, 3) := by decide +kernel
theorem dX9_unload_4 : decode cX9_unload 4 = .ok (.bipush 11, 2) := by decide +kernel
theorem dX9_unload_6 : decode cX9_unload 6 = .ok (.iaload, 1) := by decide +kernel
theorem dX9_unload_7 : decode cX9_unload 7 = .ok (.istore_n 1, 1) := by decide +kernel
theorem dX9_unload_8 : decode cX9_unload 8 = .ok (.iload_n 1, 1) := by decide +kernel
theorem dX9_unload_9 : decode cX9_unload 9 = .ok (.ifCond .ge 6, 3) := by decide +kernel
theorem dX9_unload_12 : decode cX9_unload 12 = .ok (.ldc 182, 2) := by decide +kernel
theorem dX9_unload_14 : decode cX9_unload 14 = .ok (.ireturn, 1) := by decide +kernel
theorem dX9_unload_15 : decode cX9_unload 15 = .ok (.aload_n 0, 1) := by decide +kernel
theorem dX9_unload_16 : decode cX9_unload 16 = .ok (.getfield 7, 3) := by decide +kernel
theorem dX9_unload_19 : decode cX9_unload 19 = .ok (.bipush 12, 2) := by decide +kernel
theorem dX9_unload_21 : decode cX9_unload 21 = .ok (.iaload, 1) := by decide +kernel
theorem dX9_unload_22 : decode cX9_unload 22 = .ok (.ifCond .le 18, 3) := by decide +kernel
theorem dX9_unload_25 : decode cX9_unload 25 = .ok (.aload_n 0, 1) := by decide +kernel
theorem dX9_unload_26 : decode cX9_unload 26 = .ok (.getfield 7, 3) := by decide +kernel
theorem dX9_unload_29 : decode cX9_unload 29 = .ok (.bipush 6, 2) := by decide +kernel
theorem dX9_unload_31 : decode cX9_unload 31 = .ok (.iaload, 1) := by decide +kernel
theorem dX9_unload_32 : decode cX9_unload 32 = .ok (.bipush 8, 2) := by decide +kernel
theorem dX9_unload_34 : decode cX9_unload 34 = .ok (.if_icmp .ne 6, 3) := by decide +kernel
theorem dX9_unload_37 : decode cX9_unload 37 = .ok (.ldc 157, 2) := by decide +kernel
theorem dX9_unload_39 : decode cX9_unload 39 = .ok (.ireturn, 1) := by decide +kernel
theorem dX9_unload_40 : decode cX9_unload 40 = .ok (.aload_n 0, 1) := by decide +kernel
theorem dX9_unload_41 : decode cX9_unload 41 = .ok (.invokevirtual 187, 3) := by decide +kernel
theorem dX9_unload_44 : decode cX9_unload 44 = .ok (.aload_n 0, 1) := by decide +kernel
theorem dX9_unload_45 : decode cX9_unload 45 = .ok (.getfield 7, 3) := by decide +kernel
theorem dX9_unload_48 : decode cX9_unload 48 = .ok (.bipush 12, 2) := by decide +kernel
theorem dX9_unload_50 : decode cX9_unload 50 = .ok (.iaload, 1) := by decide +kernel
theorem dX9_unload_51 : decode cX9_unload 51 = .ok (.ifCond .le 74, 3) := by decide +kernel
theorem dX9_unload_54 : decode cX9_unload 54 = .ok (.bipush 65, 2) := by decide +kernel
theorem dX9_unload_56 : decode cX9_unload 56 = .ok (.iconst 3, 1) := by decide +kernel
theorem dX9_unload_57 : decode cX9_unload 57 = .ok (.aload_n 0, 1) := by decide +kernel
theorem dX9_unload_58 : decode cX9_unload 58 = .ok (.getfield 7, 3) := by decide +kernel
theorem dX9_unload_61 : decode cX9_unload 61 = .ok (.bipush 6, 2) := by decide +kernel
theorem dX9_unload_63 : decode cX9_unload 63 = .ok (.iaload, 1) := by decide +kernel
theorem dX9_unload_64 : decode cX9_unload 64 = .ok (.imul, 1) := by decide +kernel
theorem dX9_unload_65 : decode cX9_unload 65 = .ok (.iadd, 1) := by decide +kernel
theorem dX9_unload_66 : decode cX9_unload 66 = .ok (.istore_n 2, 1) := by decide +kernel
theorem dX9_unload_67 : decode cX9_unload 67 = .ok (.aload_n 0, 1) := by decide +kernel
theorem dX9_unload_68 : decode cX9_unload 68 = .ok (.getfield 7, 3) := by decide +kernel
theorem dX9_unload_71 : decode cX9_unload 71 = .ok (.iload_n 2, 1) := by decide +kernel
theorem dX9_unload_72 : decode cX9_unload 72 = .ok (.iload_n 1, 1) := by decide +kernel
theorem dX9_unload_73 : decode cX9_unload 73 = .ok (.iastore, 1) := by decide +kernel
theorem dX9_unload_74 : decode cX9_unload 74 = .ok (.aload_n 0, 1) := by decide +kernel
theorem dX9_unload_75 : decode cX9_unload 75 = .ok (.getfield 7, 3) := by decide +kernel
theorem dX9_unload_78 : decode cX9_unload 78 = .ok (.iload_n 2, 1) := by decide +kernel
theorem dX9_unload_79 : decode cX9_unload 79 = .ok (.iconst 1, 1) := by decide +kernel
theorem dX9_unload_80 : decode cX9_unload 80 = .ok (.iadd, 1) := by decide +kernel
theorem dX9_unload_81 : decode cX9_unload 81 = .ok (.aload_n 0, 1) := by decide +kernel
theorem dX9_unload_82 : decode cX9_unload 82 = .ok (.getfield 7, 3) := by decide +kernel
theorem dX9_unload_85 : decode cX9_unload 85 = .ok (.bipush 12, 2) := by decide +kernel
theorem dX9_unload_87 : decode cX9_unload 87 = .ok (.iaload, 1) := by decide +kernel
theorem dX9_unload_88 : decode cX9_unload 88 = .ok (.iastore, 1) := by decide +kernel
theorem dX9_unload_89 : decode cX9_unload 89 = .ok (.aload_n 0, 1) := by decide +kernel
theorem dX9_unload_90 : decode cX9_unload 90 = .ok (.getfield 7, 3) := by decide +kernel
theorem dX9_unload_93 : decode cX9_unload 93 = .ok (.iload_n 2, 1) := by decide +kernel
theorem dX9_unload_94 : decode cX9_unload 94 = .ok (.iconst 2, 1) := by decide +kernel
theorem dX9_unload_95 : decode cX9_unload 95 = .ok (.iadd, 1) := by decide +kernel
theorem dX9_unload_96 : decode cX9_unload 96 = .ok (.aload_n 0, 1) := by decide +kernel
theorem dX9_unload_97 : decode cX9_unload 97 = .ok (.getfield 7, 3) := by decide +kernel
theorem dX9_unload_100 : decode cX9_unload 100 = .ok (.iload_n 1, 1) := by decide +kernel
theorem dX9_unload_101 : decode cX9_unload 101 = .ok (.invokestatic 51, 3) := by decide +kernel
theorem dX9_unload_104 : decode cX9_unload 104 = .ok (.iconst 4, 1) := by decide +kernel
theorem dX9_unload_105 : decode cX9_unload 105 = .ok (.if_icmp .lt 7, 3) := by decide +kernel
theorem dX9_unload_108 : decode cX9_unload 108 = .ok (.iconst 1, 1) := by decide +kernel
theorem dX9_unload_109 : decode cX9_unload 109 = .ok (.goto 4, 3) := by decide +kernel
theorem dX9_unload_112 : decode cX9_unload 112 = .ok (.iconst 0, 1) := by decide +kernel
theorem dX9_unload_113 : decode cX9_unload 113 = .ok (.iastore, 1) := by decide +kernel
theorem dX9_unload_114 : decode cX9_unload 114 = .ok (.aload_n 0, 1) := by decide +kernel
theorem dX9_unload_115 : decode cX9_unload 115 = .ok (.getfield 7, 3) := by decide +kernel
theorem dX9_unload_118 : decode cX9_unload 118 = .ok (.bipush 6, 2) := by decide +kernel
theorem dX9_unload_120 : decode cX9_unload 120 = .ok (.dup2, 1) := by decide +kernel
theorem dX9_unload_121 : decode cX9_unload 121 = .ok (.iaload, 1) := by decide +kernel
theorem dX9_unload_122 : decode cX9_unload 122 = .ok (.iconst 1, 1) := by decide +kernel
theorem dX9_unload_123 : decode cX9_unload 123 = .ok (.iadd, 1) := by decide +kernel
theorem dX9_unload_124 : decode cX9_unload 124 = .ok (.iastore, 1) := by decide +kernel
theorem dX9_unload_125 : decode cX9_unload 125 = .ok (.aload_n 0, 1) := by decide +kernel
theorem dX9_unload_126 : decode cX9_unload 126 = .ok (.getfield 7, 3) := by decide +kernel
theorem dX9_unload_129 : decode cX9_unload 129 = .ok (.iload_n 1, 1) := by decide +kernel
theorem dX9_unload_130 : decode cX9_unload 130 = .ok (.invokestatic 70, 3) := by decide +kernel
theorem dX9_unload_133 : decode cX9_unload 133 = .ok (.istore_n 2, 1) := by decide +kernel
theorem dX9_unload_134 : decode cX9_unload 134 = .ok (.aload_n 0, 1) := by decide +kernel
theorem dX9_unload_135 : decode cX9_unload 135 = .ok (.getfield 7, 3) := by decide +kernel
theorem dX9_unload_138 : decode cX9_unload 138 = .ok (.iload_n 1, 1) := by decide +kernel
theorem dX9_unload_139 : decode cX9_unload 139 = .ok (.iload_n 2, 1) := by decide +kernel
theorem dX9_unload_140 : decode cX9_unload 140 = .ok (.invokestatic 94, 3) := by decide +kernel
theorem dX9_unload_143 : decode cX9_unload 143 = .ok (.istore_n 3, 1) := by decide +kernel
theorem dX9_unload_144 : decode cX9_unload 144 = .ok (.aload_n 0, 1) := by decide +kernel
theorem dX9_unload_145 : decode cX9_unload 145 = .ok (.getfield 7, 3) := by decide +kernel
theorem dX9_unload_148 : decode cX9_unload 148 = .ok (.bipush 13, 2) := by decide +kernel
theorem dX9_unload_150 : decode cX9_unload 150 = .ok (.iconst 4, 1) := by decide +kernel
theorem dX9_unload_151 : decode cX9_unload 151 = .ok (.iload_n 1, 1) := by decide +kernel
theorem dX9_unload_152 : decode cX9_unload 152 = .ok (.imul, 1) := by decide +kernel
theorem dX9_unload_153 : decode cX9_unload 153 = .ok (.iadd, 1) := by decide +kernel
theorem dX9_unload_154 : decode cX9_unload 154 = .ok (.iconst 2, 1) := by decide +kernel
theorem dX9_unload_155 : decode cX9_unload 155 = .ok (.iadd, 1) := by decide +kernel
theorem dX9_unload_156 : decode cX9_unload 156 = .ok (.iload_n 3, 1) := by decide +kernel
theorem dX9_unload_157 : decode cX9_unload 157 = .ok (.ifCond .eq 7, 3) := by decide +kernel
theorem dX9_unload_160 : decode cX9_unload 160 = .ok (.iconst 0, 1) := by decide +kernel
theorem dX9_unload_161 : decode cX9_unload 161 = .ok (.goto 4, 3) := by decide +kernel
theorem dX9_unload_164 : decode cX9_unload 164 = .ok (.iconst 2, 1) := by decide +kernel
theorem dX9_unload_165 : decode cX9_unload 165 = .ok (.iastore, 1) := by decide +kernel
theorem dX9_unload_166 : decode cX9_unload 166 = .ok (.iload_n 3, 1) := by decide +kernel
theorem dX9_unload_167 : decode cX9_unload 167 = .ok (.ifCond .eq 20, 3) := by decide +kernel
theorem dX9_unload_170 : decode cX9_unload 170 = .ok (.aload_n 0, 1) := by decide +kernel
theorem dX9_unload_171 : decode cX9_unload 171 = .ok (.getfield 7, 3) := by decide +kernel
theorem dX9_unload_174 : decode cX9_unload 174 = .ok (.bipush 13, 2) := by decide +kernel
theorem dX9_unload_176 : decode cX9_unload 176 = .ok (.iconst 4, 1) := by decide +kernel
theorem dX9_unload_177 : decode cX9_unload 177 = .ok (.iload_n 1, 1) := by decide +kernel
theorem dX9_unload_178 : decode cX9_unload 178 = .ok (.imul, 1) := by decide +kernel
theorem dX9_unload_179 : decode cX9_unload 179 = .ok (.iadd, 1) := by decide +kernel
theorem dX9_unload_180 : decode cX9_unload 180 = .ok (.iconst 3, 1) := by decide +kernel
theorem dX9_unload_181 : decode cX9_unload 181 = .ok (.iadd, 1) := by decide +kernel
theorem dX9_unload_182 : decode cX9_unload 182 = .ok (.iconst 1, 1) := by decide +kernel
theorem dX9_unload_183 : decode cX9_unload 183 = .ok (.iastore, 1) := by decide +kernel
theorem dX9_unload_184 : decode cX9_unload 184 = .ok (.goto 28, 3) := by decide +kernel
theorem dX9_unload_187 : decode cX9_unload 187 = .ok (.aload_n 0, 1) := by decide +kernel
theorem dX9_unload_188 : decode cX9_unload 188 = .ok (.getfield 7, 3) := by decide +kernel
theorem dX9_unload_191 : decode cX9_unload 191 = .ok (.bipush 9, 2) := by decide +kernel
theorem dX9_unload_193 : decode cX9_unload 193 = .ok (.dup2, 1) := by decide +kernel
theorem dX9_unload_194 : decode cX9_unload 194 = .ok (.iaload, 1) := by decide +kernel
theorem dX9_unload_195 : decode cX9_unload 195 = .ok (.iload_n 2, 1) := by decide +kernel
theorem dX9_unload_196 : decode cX9_unload 196 = .ok (.iadd, 1) := by decide +kernel
theorem dX9_unload_197 : decode cX9_unload 197 = .ok (.iastore, 1) := by decide +kernel
theorem dX9_unload_198 : decode cX9_unload 198 = .ok (.aload_n 0, 1) := by decide +kernel
theorem dX9_unload_199 : decode cX9_unload 199 = .ok (.getfield 7, 3) := by decide +kernel
theorem dX9_unload_202 : decode cX9_unload 202 = .ok (.bipush 13, 2) := by decide +kernel
theorem dX9_unload_204 : decode cX9_unload 204 = .ok (.iconst 4, 1) := by decide +kernel
theorem dX9_unload_205 : decode cX9_unload 205 = .ok (.iload_n 1, 1) := by decide +kernel
theorem dX9_unload_206 : decode cX9_unload 206 = .ok (.imul, 1) := by decide +kernel
theorem dX9_unload_207 : decode cX9_unload 207 = .ok (.iadd, 1) := by decide +kernel
theorem dX9_unload_208 : decode cX9_unload 208 = .ok (.iconst 1, 1) := by decide +kernel
theorem dX9_unload_209 : decode cX9_unload 209 = .ok (.iadd, 1) := by decide +kernel
theorem dX9_unload_210 : decode cX9_unload 210 = .ok (.iconst 0, 1) := by decide +kernel
theorem dX9_unload_211 : decode cX9_unload 211 = .ok (.iastore, 1) := by decide +kernel
theorem dX9_unload_212 : decode cX9_unload 212 = .ok (.aload_n 0, 1) := by decide +kernel
theorem dX9_unload_213 : decode cX9_unload 213 = .ok (.getfield 7, 3) := by decide +kernel
theorem dX9_unload_216 : decode cX9_unload 216 = .ok (.bipush 11, 2) := by decide +kernel
theorem dX9_unload_218 : decode cX9_unload 218 = .ok (.iconst (-1), 1) := by decide +kernel
theorem dX9_unload_219 : decode cX9_unload 219 = .ok (.iastore, 1) := by decide +kernel
theorem dX9_unload_220 : decode cX9_unload 220 = .ok (.aload_n 0, 1) := by decide +kernel
theorem dX9_unload_221 : decode cX9_unload 221 = .ok (.getfield 7, 3) := by decide +kernel
theorem dX9_unload_224 : decode cX9_unload 224 = .ok (.bipush 12, 2) := by decide +kernel
theorem dX9_unload_226 : decode cX9_unload 226 = .ok (.iconst 0, 1) := by decide +kernel
theorem dX9_unload_227 : decode cX9_unload 227 = .ok (.iastore, 1) := by decide +kernel
theorem dX9_unload_228 : decode cX9_unload 228 = .ok (.iload_n 3, 1) := by decide +kernel
theorem dX9_unload_229 : decode cX9_unload 229 = .ok (.ifCond .eq 7, 3) := by decide +kernel
theorem dX9_unload_232 : decode cX9_unload 232 = .ok (.iload_n 2, 1) := by decide +kernel
theorem dX9_unload_233 : decode cX9_unload 233 = .ok (.goto 4, 3) := by decide +kernel
theorem dX9_unload_236 : decode cX9_unload 236 = .ok (.iconst 0, 1) := by decide +kernel
theorem dX9_unload_237 : decode cX9_unload 237 = .ok (.ireturn, 1) := by decide +kernel
theorem dX9_batched_0 : decode cX9_batched 0 = .ok (.iconst 0, 1) := by decide +kernel
theorem dX9_batched_1 : decode cX9_batched 1 = .ok (.istore_n 1, 1) := by decide +kernel
theorem dX9_batched_2 : decode cX9_batched 2 = .ok (.iconst 0, 1) := by decide +kernel
theorem dX9_batched_3 : decode cX9_batched 3 = .ok (.istore_n 2, 1) := by decide +kernel
theorem dX9_batched_4 : decode cX9_batched 4 = .ok (.iload_n 2, 1) := by decide +kernel
theorem dX9_batched_5 : decode cX9_batched 5 = .ok (.aload_n 0, 1) := by decide +kernel
theorem dX9_batched_6 : decode cX9_batched 6 = .ok (.getfield 7, 3) := by decide +kernel
theorem dX9_batched_9 : decode cX9_batched 9 = .ok (.bipush 6, 2) := by decide +kernel
theorem dX9_batched_11 : decode cX9_batched 11 = .ok (.iaload, 1) := by decide +kernel
theorem dX9_batched_12 : decode cX9_batched 12 = .ok (.if_icmp .ge 145, 3) := by decide +kernel
theorem dX9_batched_15 : decode cX9_batched 15 = .ok (.aload_n 0, 1) := by decide +kernel
theorem dX9_batched_16 : decode cX9_batched 16 = .ok (.getfield 7, 3) := by decide +kernel
theorem dX9_batched_19 : decode cX9_batched 19 = .ok (.bipush 65, 2) := by decide +kernel
theorem dX9_batched_21 : decode cX9_batched 21 = .ok (.iconst 3, 1) := by decide +kernel
theorem dX9_batched_22 : decode cX9_batched 22 = .ok (.iload_n 2, 1) := by decide +kernel
theorem dX9_batched_23 : decode cX9_batched 23 = .ok (.imul, 1) := by decide +kernel
theorem dX9_batched_24 : decode cX9_batched 24 = .ok (.iadd, 1) := by decide +kernel
theorem dX9_batched_25 : decode cX9_batched 25 = .ok (.iconst 1, 1) := by decide +kernel
theorem dX9_batched_26 : decode cX9_batched 26 = .ok (.iadd, 1) := by decide +kernel
theorem dX9_batched_27 : decode cX9_batched 27 = .ok (.iaload, 1) := by decide +kernel
theorem dX9_batched_28 : decode cX9_batched 28 = .ok (.istore_n 3, 1) := by decide +kernel
theorem dX9_batched_29 : decode cX9_batched 29 = .ok (.aload_n 0, 1) := by decide +kernel
theorem dX9_batched_30 : decode cX9_batched 30 = .ok (.getfield 7, 3) := by decide +kernel
theorem dX9_batched_33 : decode cX9_batched 33 = .ok (.bipush 65, 2) := by decide +kernel
theorem dX9_batched_35 : decode cX9_batched 35 = .ok (.iconst 3, 1) := by decide +kernel
theorem dX9_batched_36 : decode cX9_batched 36 = .ok (.iload_n 2, 1) := by decide +kernel
theorem dX9_batched_37 : decode cX9_batched 37 = .ok (.imul, 1) := by decide +kernel
theorem dX9_batched_38 : decode cX9_batched 38 = .ok (.iadd, 1) := by decide +kernel
theorem dX9_batched_39 : decode cX9_batched 39 = .ok (.iconst 2, 1) := by decide +kernel
theorem dX9_batched_40 : decode cX9_batched 40 = .ok (.iadd, 1) := by decide +kernel
theorem dX9_batched_41 : decode cX9_batched 41 = .ok (.iaload, 1) := by decide +kernel
theorem dX9_batched_42 : decode cX9_batched 42 = .ok (.istore 4, 2) := by decide +kernel
theorem dX9_batched_44 : decode cX9_batched 44 = .ok (.iload_n 1, 1) := by decide +kernel
theorem dX9_batched_45 : decode cX9_batched 45 = .ok (.istore 5, 2) := by decide +kernel
theorem dX9_batched_47 : decode cX9_batched 47 = .ok (.iload_n 1, 1) := by decide +kernel
theorem dX9_batched_48 : decode cX9_batched 48 = .ok (.iconst 1, 1) := by decide +kernel
theorem dX9_batched_49 : decode cX9_batched 49 = .ok (.isub, 1) := by decide +kernel
theorem dX9_batched_50 : decode cX9_batched 50 = .ok (.istore 6, 2) := by decide +kernel
theorem dX9_batched_52 : decode cX9_batched 52 = .ok (.iload 6, 2) := by decide +kernel
theorem dX9_batched_54 : decode cX9_batched 54 = .ok (.ifCond .lt 48, 3) := by decide +kernel
theorem dX9_batched_57 : decode cX9_batched 57 = .ok (.aload_n 0, 1) := by decide +kernel
theorem dX9_batched_58 : decode cX9_batched 58 = .ok (.getfield 41, 3) := by decide +kernel
theorem dX9_batched_61 : decode cX9_batched 61 = .ok (.iload 6, 2) := by decide +kernel
theorem dX9_batched_63 : decode cX9_batched 63 = .ok (.iaload, 1) := by decide +kernel
theorem dX9_batched_64 : decode cX9_batched 64 = .ok (.iload 4, 2) := by decide +kernel
theorem dX9_batched_66 : decode cX9_batched 66 = .ok (.if_icmp .ne 26, 3) := by decide +kernel
theorem dX9_batched_69 : decode cX9_batched 69 = .ok (.aload_n 0, 1) := by decide +kernel
theorem dX9_batched_70 : decode cX9_batched 70 = .ok (.getfield 38, 3) := by decide +kernel
theorem dX9_batched_73 : decode cX9_batched 73 = .ok (.iload 6, 2) := by decide +kernel
theorem dX9_batched_75 : decode cX9_batched 75 = .ok (.iaload, 1) := by decide +kernel
theorem dX9_batched_76 : decode cX9_batched 76 = .ok (.iload_n 3, 1) := by decide +kernel
theorem dX9_batched_77 : decode cX9_batched 77 = .ok (.iadd, 1) := by decide +kernel
theorem dX9_batched_78 : decode cX9_batched 78 = .ok (.aload_n 0, 1) := by decide +kernel
theorem dX9_batched_79 : decode cX9_batched 79 = .ok (.getfield 7, 3) := by decide +kernel
theorem dX9_batched_82 : decode cX9_batched 82 = .ok (.iconst 2, 1) := by decide +kernel
theorem dX9_batched_83 : decode cX9_batched 83 = .ok (.iaload, 1) := by decide +kernel
theorem dX9_batched_84 : decode cX9_batched 84 = .ok (.if_icmp .gt 8, 3) := by decide +kernel
theorem dX9_batched_87 : decode cX9_batched 87 = .ok (.iload 6, 2) := by decide +kernel
theorem dX9_batched_89 : decode cX9_batched 89 = .ok (.goto 5, 3) := by decide +kernel
theorem dX9_batched_92 : decode cX9_batched 92 = .ok (.iload 5, 2) := by decide +kernel
theorem dX9_batched_94 : decode cX9_batched 94 = .ok (.istore 5, 2) := by decide +kernel
theorem dX9_batched_96 : decode cX9_batched 96 = .ok (.iinc 6 (-1), 3) := by decide +kernel
theorem dX9_batched_99 : decode cX9_batched 99 = .ok (.goto (-47), 3) := by decide +kernel
theorem dX9_batched_102 : decode cX9_batched 102 = .ok (.aload_n 0, 1) := by decide +kernel
theorem dX9_batched_103 : decode cX9_batched 103 = .ok (.getfield 38, 3) := by decide +kernel
theorem dX9_batched_106 : decode cX9_batched 106 = .ok (.iload 5, 2) := by decide +kernel
theorem dX9_batched_108 : decode cX9_batched 108 = .ok (.iload 5, 2) := by decide +kernel
theorem dX9_batched_110 : decode cX9_batched 110 = .ok (.iload_n 1, 1) := by decide +kernel
theorem dX9_batched_111 : decode cX9_batched 111 = .ok (.if_icmp .ne 7, 3) := by decide +kernel
theorem dX9_batched_114 : decode cX9_batched 114 = .ok (.iload_n 3, 1) := by decide +kernel
theorem dX9_batched_115 : decode cX9_batched 115 = .ok (.goto 12, 3) := by decide +kernel
theorem dX9_batched_118 : decode cX9_batched 118 = .ok (.aload_n 0, 1) := by decide +kernel
theorem dX9_batched_119 : decode cX9_batched 119 = .ok (.getfield 38, 3) := by decide +kernel
theorem dX9_batched_122 : decode cX9_batched 122 = .ok (.iload 5, 2) := by decide +kernel
theorem dX9_batched_124 : decode cX9_batched 124 = .ok (.iaload, 1) := by decide +kernel
theorem dX9_batched_125 : decode cX9_batched 125 = .ok (.iload_n 3, 1) := by decide +kernel
theorem dX9_batched_126 : decode cX9_batched 126 = .ok (.iadd, 1) := by decide +kernel
theorem dX9_batched_127 : decode cX9_batched 127 = .ok (.iastore, 1) := by decide +kernel
theorem dX9_batched_128 : decode cX9_batched 128 = .ok (.aload_n 0, 1) := by decide +kernel
theorem dX9_batched_129 : decode cX9_batched 129 = .ok (.getfield 41, 3) := by decide +kernel
theorem dX9_batched_132 : decode cX9_batched 132 = .ok (.iload 5, 2) := by decide +kernel
theorem dX9_batched_134 : decode cX9_batched 134 = .ok (.iload 4, 2) := by decide +kernel
theorem dX9_batched_136 : decode cX9_batched 136 = .ok (.iastore, 1) := by decide +kernel
theorem dX9_batched_137 : decode cX9_batched 137 = .ok (.iload_n 1, 1) := by decide +kernel
theorem dX9_batched_138 : decode cX9_batched 138 = .ok (.iload 5, 2) := by decide +kernel
theorem dX9_batched_140 : decode cX9_batched 140 = .ok (.iload_n 1, 1) := by decide +kernel
theorem dX9_batched_141 : decode cX9_batched 141 = .ok (.if_icmp .ne 7, 3) := by decide +kernel
theorem dX9_batched_144 : decode cX9_batched 144 = .ok (.iconst 1, 1) := by decide +kernel
theorem dX9_batched_145 : decode cX9_batched 145 = .ok (.goto 4, 3) := by decide +kernel
theorem dX9_batched_148 : decode cX9_batched 148 = .ok (.iconst 0, 1) := by decide +kernel
theorem dX9_batched_149 : decode cX9_batched 149 = .ok (.iadd, 1) := by decide +kernel
theorem dX9_batched_150 : decode cX9_batched 150 = .ok (.istore_n 1, 1) := by decide +kernel
theorem dX9_batched_151 : decode cX9_batched 151 = .ok (.iinc 2 1, 3) := by decide +kernel
theorem dX9_batched_154 : decode cX9_batched 154 = .ok (.goto (-150), 3) := by decide +kernel
theorem dX9_batched_157 : decode cX9_batched 157 = .ok (.iload_n 1, 1) := by decide +kernel
theorem dX9_batched_158 : decode cX9_batched 158 = .ok (.ireturn, 1) := by decide +kernel
theorem dX9_waiting_0 : decode cX9_waiting 0 = .ok (.iconst 0, 1) := by decide +kernel
theorem dX9_waiting_1 : decode cX9_waiting 1 = .ok (.istore_n 1, 1) := by decide +kernel
theorem dX9_waiting_2 : decode cX9_waiting 2 = .ok (.iconst 0, 1) := by decide +kernel
theorem dX9_waiting_3 : decode cX9_waiting 3 = .ok (.istore_n 2, 1) := by decide +kernel
theorem dX9_waiting_4 : decode cX9_waiting 4 = .ok (.iload_n 2, 1) := by decide +kernel
theorem dX9_waiting_5 : decode cX9_waiting 5 = .ok (.aload_n 0, 1) := by decide +kernel
theorem dX9_waiting_6 : decode cX9_waiting 6 = .ok (.getfield 7, 3) := by decide +kernel
theorem dX9_waiting_9 : decode cX9_waiting 9 = .ok (.bipush 6, 2) := by decide +kernel
theorem dX9_waiting_11 : decode cX9_waiting 11 = .ok (.iaload, 1) := by decide +kernel
theorem dX9_waiting_12 : decode cX9_waiting 12 = .ok (.if_icmp .ge 25, 3) := by decide +kernel
theorem dX9_waiting_15 : decode cX9_waiting 15 = .ok (.iload_n 1, 1) := by decide +kernel
theorem dX9_waiting_16 : decode cX9_waiting 16 = .ok (.aload_n 0, 1) := by decide +kernel
theorem dX9_waiting_17 : decode cX9_waiting 17 = .ok (.getfield 7, 3) := by decide +kernel
theorem dX9_waiting_20 : decode cX9_waiting 20 = .ok (.bipush 65, 2) := by decide +kernel
theorem dX9_waiting_22 : decode cX9_waiting 22 = .ok (.iconst 3, 1) := by decide +kernel
theorem dX9_waiting_23 : decode cX9_waiting 23 = .ok (.iload_n 2, 1) := by decide +kernel
theorem dX9_waiting_24 : decode cX9_waiting 24 = .ok (.imul, 1) := by decide +kernel
theorem dX9_waiting_25 : decode cX9_waiting 25 = .ok (.iadd, 1) := by decide +kernel
theorem dX9_waiting_26 : decode cX9_waiting 26 = .ok (.iconst 1, 1) := by decide +kernel
theorem dX9_waiting_27 : decode cX9_waiting 27 = .ok (.iadd, 1) := by decide +kernel
theorem dX9_waiting_28 : decode cX9_waiting 28 = .ok (.iaload, 1) := by decide +kernel
theorem dX9_waiting_29 : decode cX9_waiting 29 = .ok (.iadd, 1) := by decide +kernel
theorem dX9_waiting_30 : decode cX9_waiting 30 = .ok (.istore_n 1, 1) := by decide +kernel
theorem dX9_waiting_31 : decode cX9_waiting 31 = .ok (.iinc 2 1, 3) := by decide +kernel
theorem dX9_waiting_34 : decode cX9_waiting 34 = .ok (.goto (-30), 3) := by decide +kernel
theorem dX9_waiting_37 : decode cX9_waiting 37 = .ok (.iload_n 1, 1) := by decide +kernel
theorem dX9_waiting_38 : decode cX9_waiting 38 = .ok (.ireturn, 1) := by decide +kernel
theorem dX9_lab_0 : decode cX9_lab 0 = .ok (.aload_n 0, 1) := by decide +kernel
theorem dX9_lab_1 : decode cX9_lab 1 = .ok (.getfield 7, 3) := by decide +kernel
theorem dX9_lab_4 : decode cX9_lab 4 = .ok (.bipush 6, 2) := by decide +kernel
theorem dX9_lab_6 : decode cX9_lab 6 = .ok (.iaload, 1) := by decide +kernel
theorem dX9_lab_7 : decode cX9_lab 7 = .ok (.ifCond .ne 6, 3) := by decide +kernel
theorem dX9_lab_10 : decode cX9_lab 10 = .ok (.ldc 182, 2) := by decide +kernel
theorem dX9_lab_12 : decode cX9_lab 12 = .ok (.ireturn, 1) := by decide +kernel
theorem dX9_lab_13 : decode cX9_lab 13 = .ok (.aload_n 0, 1) := by decide +kernel
theorem dX9_lab_14 : decode cX9_lab 14 = .ok (.invokevirtual 187, 3) := by decide +kernel
theorem dX9_lab_17 : decode cX9_lab 17 = .ok (.aload_n 0, 1) := by decide +kernel
theorem dX9_lab_18 : decode cX9_lab 18 = .ok (.invokevirtual 193, 3) := by decide +kernel
theorem dX9_lab_21 : decode cX9_lab 21 = .ok (.istore_n 1, 1) := by decide +kernel
theorem dX9_lab_22 : decode cX9_lab 22 = .ok (.aload_n 0, 1) := by decide +kernel
theorem dX9_lab_23 : decode cX9_lab 23 = .ok (.getfield 7, 3) := by decide +kernel
theorem dX9_lab_26 : decode cX9_lab 26 = .ok (.bipush 10, 2) := by decide +kernel
theorem dX9_lab_28 : decode cX9_lab 28 = .ok (.dup2, 1) := by decide +kernel
theorem dX9_lab_29 : decode cX9_lab 29 = .ok (.iaload, 1) := by decide +kernel
theorem dX9_lab_30 : decode cX9_lab 30 = .ok (.iload_n 1, 1) := by decide +kernel
theorem dX9_lab_31 : decode cX9_lab 31 = .ok (.aload_n 0, 1) := by decide +kernel
theorem dX9_lab_32 : decode cX9_lab 32 = .ok (.getfield 7, 3) := by decide +kernel
theorem dX9_lab_35 : decode cX9_lab 35 = .ok (.iconst 3, 1) := by decide +kernel
theorem dX9_lab_36 : decode cX9_lab 36 = .ok (.iaload, 1) := by decide +kernel
theorem dX9_lab_37 : decode cX9_lab 37 = .ok (.imul, 1) := by decide +kernel
