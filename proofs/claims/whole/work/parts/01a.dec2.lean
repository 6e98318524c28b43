/-! ===== what stands at each place of the code ===== -/
theorem dX9_ask_7 : decode cX9_ask 7 = .ok (.iload_n 1, 1) := by decide +kernel
theorem dX9_ask_8 : decode cX9_ask 8 = .ok (.invokevirtual 104, 3) := by decide +kernel
theorem dX9_ask_11 : decode cX9_ask 11 = .ok (.ifCond .ne 10, 3) := by decide +kernel
theorem dX9_ask_14 : decode cX9_ask 14 = .ok (.aload_n 0, 1) := by decide +kernel
theorem dX9_ask_15 : decode cX9_ask 15 = .ok (.bipush (-2), 2) := by decide +kernel
theorem dX9_ask_17 : decode cX9_ask 17 = .ok (.invokevirtual 83, 3) := by decide +kernel
theorem dX9_ask_20 : decode cX9_ask 20 = .ok (.ireturn, 1) := by decide +kernel
theorem dX9_ask_21 : decode cX9_ask 21 = .ok (.aload_n 0, 1) := by decide +kernel
theorem dX9_ask_22 : decode cX9_ask 22 = .ok (.getfield 26, 3) := by decide +kernel
theorem dX9_ask_25 : decode cX9_ask 25 = .ok (.iload_n 1, 1) := by decide +kernel
theorem dX9_ask_26 : decode cX9_ask 26 = .ok (.invokevirtual 174, 3) := by decide +kernel
theorem dX9_ask_29 : decode cX9_ask 29 = .ok (.istore_n 2, 1) := by decide +kernel
theorem dX9_ask_30 : decode cX9_ask 30 = .ok (.aload_n 0, 1) := by decide +kernel
theorem dX9_ask_31 : decode cX9_ask 31 = .ok (.getfield 26, 3) := by decide +kernel
theorem dX9_ask_34 : decode cX9_ask 34 = .ok (.getfield 122, 3) := by decide +kernel
theorem dX9_ask_37 : decode cX9_ask 37 = .ok (.iload_n 1, 1) := by decide +kernel
theorem dX9_ask_38 : decode cX9_ask 38 = .ok (.iconst 1, 1) := by decide +kernel
theorem dX9_ask_39 : decode cX9_ask 39 = .ok (.invokevirtual 108, 3) := by decide +kernel
theorem dX9_ask_42 : decode cX9_ask 42 = .ok (.istore_n 3, 1) := by decide +kernel
theorem dX9_ask_43 : decode cX9_ask 43 = .ok (.aload_n 0, 1) := by decide +kernel
theorem dX9_ask_44 : decode cX9_ask 44 = .ok (.getfield 26, 3) := by decide +kernel
theorem dX9_ask_47 : decode cX9_ask 47 = .ok (.getfield 87, 3) := by decide +kernel
theorem dX9_ask_50 : decode cX9_ask 50 = .ok (.iload_n 3, 1) := by decide +kernel
theorem dX9_ask_51 : decode cX9_ask 51 = .ok (.iconst 1, 1) := by decide +kernel
theorem dX9_ask_52 : decode cX9_ask 52 = .ok (.invokevirtual 108, 3) := by decide +kernel
theorem dX9_ask_55 : decode cX9_ask 55 = .ok (.iload_n 2, 1) := by decide +kernel
theorem dX9_ask_56 : decode cX9_ask 56 = .ok (.iadd, 1) := by decide +kernel
theorem dX9_ask_57 : decode cX9_ask 57 = .ok (.istore 4, 2) := by decide +kernel
theorem dX9_ask_59 : decode cX9_ask 59 = .ok (.iload_n 2, 1) := by decide +kernel
theorem dX9_ask_60 : decode cX9_ask 60 = .ok (.ifCond .eq 20, 3) := by decide +kernel
theorem dX9_ask_63 : decode cX9_ask 63 = .ok (.iload 4, 2) := by decide +kernel
theorem dX9_ask_65 : decode cX9_ask 65 = .ok (.aload_n 0, 1) := by decide +kernel
theorem dX9_ask_66 : decode cX9_ask 66 = .ok (.getfield 26, 3) := by decide +kernel
theorem dX9_ask_69 : decode cX9_ask 69 = .ok (.getfield 87, 3) := by decide +kernel
theorem dX9_ask_72 : decode cX9_ask 72 = .ok (.iload_n 3, 1) := by decide +kernel
theorem dX9_ask_73 : decode cX9_ask 73 = .ok (.iconst 0, 1) := by decide +kernel
theorem dX9_ask_74 : decode cX9_ask 74 = .ok (.invokevirtual 108, 3) := by decide +kernel
theorem dX9_ask_77 : decode cX9_ask 77 = .ok (.if_icmp .le 10, 3) := by decide +kernel
theorem dX9_ask_80 : decode cX9_ask 80 = .ok (.aload_n 0, 1) := by decide +kernel
theorem dX9_ask_81 : decode cX9_ask 81 = .ok (.bipush (-3), 2) := by decide +kernel
theorem dX9_ask_83 : decode cX9_ask 83 = .ok (.invokevirtual 177, 3) := by decide +kernel
theorem dX9_ask_86 : decode cX9_ask 86 = .ok (.ireturn, 1) := by decide +kernel
theorem dX9_ask_87 : decode cX9_ask 87 = .ok (.aload_n 0, 1) := by decide +kernel
theorem dX9_ask_88 : decode cX9_ask 88 = .ok (.getfield 26, 3) := by decide +kernel
theorem dX9_ask_91 : decode cX9_ask 91 = .ok (.getfield 87, 3) := by decide +kernel
theorem dX9_ask_94 : decode cX9_ask 94 = .ok (.iload_n 3, 1) := by decide +kernel
theorem dX9_ask_95 : decode cX9_ask 95 = .ok (.iconst 1, 1) := by decide +kernel
theorem dX9_ask_96 : decode cX9_ask 96 = .ok (.iload 4, 2) := by decide +kernel
theorem dX9_ask_98 : decode cX9_ask 98 = .ok (.invokevirtual 112, 3) := by decide +kernel
theorem dX9_ask_101 : decode cX9_ask 101 = .ok (.aload_n 0, 1) := by decide +kernel
theorem dX9_ask_102 : decode cX9_ask 102 = .ok (.getfield 26, 3) := by decide +kernel
theorem dX9_ask_105 : decode cX9_ask 105 = .ok (.getfield 122, 3) := by decide +kernel
theorem dX9_ask_108 : decode cX9_ask 108 = .ok (.iload_n 1, 1) := by decide +kernel
theorem dX9_ask_109 : decode cX9_ask 109 = .ok (.iconst 2, 1) := by decide +kernel
theorem dX9_ask_110 : decode cX9_ask 110 = .ok (.iconst (-1), 1) := by decide +kernel
theorem dX9_ask_111 : decode cX9_ask 111 = .ok (.invokevirtual 112, 3) := by decide +kernel
theorem dX9_ask_114 : decode cX9_ask 114 = .ok (.aload_n 0, 1) := by decide +kernel
theorem dX9_ask_115 : decode cX9_ask 115 = .ok (.getfield 58, 3) := by decide +kernel
theorem dX9_ask_118 : decode cX9_ask 118 = .ok (.iconst 1, 1) := by decide +kernel
theorem dX9_ask_119 : decode cX9_ask 119 = .ok (.putfield 100, 3) := by decide +kernel
theorem dX9_ask_122 : decode cX9_ask 122 = .ok (.iload_n 2, 1) := by decide +kernel
theorem dX9_ask_123 : decode cX9_ask 123 = .ok (.ireturn, 1) := by decide +kernel
theorem dX9_night_0 : decode cX9_night 0 = .ok (.aload_n 0, 1) := by decide +kernel
theorem dX9_night_1 : decode cX9_night 1 = .ok (.getfield 26, 3) := by decide +kernel
theorem dX9_night_4 : decode cX9_night 4 = .ok (.getfield 187, 3) := by decide +kernel
theorem dX9_night_7 : decode cX9_night 7 = .ok (.bipush 99, 2) := by decide +kernel
theorem dX9_night_9 : decode cX9_night 9 = .ok (.if_icmp .lt 10, 3) := by decide +kernel
theorem dX9_night_12 : decode cX9_night 12 = .ok (.aload_n 0, 1) := by decide +kernel
theorem dX9_night_13 : decode cX9_night 13 = .ok (.bipush (-3), 2) := by decide +kernel
theorem dX9_night_15 : decode cX9_night 15 = .ok (.invokevirtual 177, 3) := by decide +kernel
theorem dX9_night_18 : decode cX9_night 18 = .ok (.ireturn, 1) := by decide +kernel
theorem dX9_night_19 : decode cX9_night 19 = .ok (.aload_n 0, 1) := by decide +kernel
theorem dX9_night_20 : decode cX9_night 20 = .ok (.getfield 10, 3) := by decide +kernel
theorem dX9_night_23 : decode cX9_night 23 = .ok (.invokevirtual 190, 3) := by decide +kernel
theorem dX9_night_26 : decode cX9_night 26 = .ok (.aload_n 0, 1) := by decide +kernel
theorem dX9_night_27 : decode cX9_night 27 = .ok (.getfield 26, 3) := by decide +kernel
theorem dX9_night_30 : decode cX9_night 30 = .ok (.invokevirtual 193, 3) := by decide +kernel
theorem dX9_night_33 : decode cX9_night 33 = .ok (.aload_n 0, 1) := by decide +kernel
theorem dX9_night_34 : decode cX9_night 34 = .ok (.getfield 26, 3) := by decide +kernel
theorem dX9_night_37 : decode cX9_night 37 = .ok (.getfield 187, 3) := by decide +kernel
theorem dX9_night_40 : decode cX9_night 40 = .ok (.ireturn, 1) := by decide +kernel
theorem dX9_undo_0 : decode cX9_undo 0 = .ok (.aload_n 0, 1) := by decide +kernel
theorem dX9_undo_1 : decode cX9_undo 1 = .ok (.getfield 10, 3) := by decide +kernel
theorem dX9_undo_4 : decode cX9_undo 4 = .ok (.getfield 97, 3) := by decide +kernel
theorem dX9_undo_7 : decode cX9_undo 7 = .ok (.ifCond .ne 10, 3) := by decide +kernel
theorem dX9_undo_10 : decode cX9_undo 10 = .ok (.aload_n 0, 1) := by decide +kernel
theorem dX9_undo_11 : decode cX9_undo 11 = .ok (.bipush (-3), 2) := by decide +kernel
theorem dX9_undo_13 : decode cX9_undo 13 = .ok (.invokevirtual 177, 3) := by decide +kernel
theorem dX9_undo_16 : decode cX9_undo 16 = .ok (.ireturn, 1) := by decide +kernel
theorem dX9_undo_17 : decode cX9_undo 17 = .ok (.aload_n 0, 1) := by decide +kernel
theorem dX9_undo_18 : decode cX9_undo 18 = .ok (.getfield 10, 3) := by decide +kernel
theorem dX9_undo_21 : decode cX9_undo 21 = .ok (.invokevirtual 196, 3) := by decide +kernel
theorem dX9_undo_24 : decode cX9_undo 24 = .ok (.aload_n 0, 1) := by decide +kernel
theorem dX9_undo_25 : decode cX9_undo 25 = .ok (.getfield 58, 3) := by decide +kernel
theorem dX9_undo_28 : decode cX9_undo 28 = .ok (.iconst 1, 1) := by decide +kernel
theorem dX9_undo_29 : decode cX9_undo 29 = .ok (.putfield 100, 3) := by decide +kernel
theorem dX9_undo_32 : decode cX9_undo 32 = .ok (.iconst 1, 1) := by decide +kernel
theorem dX9_undo_33 : decode cX9_undo 33 = .ok (.ireturn, 1) := by decide +kernel
theorem dX9_owes_0 : decode cX9_owes 0 = .ok (.aload_n 0, 1) := by decide +kernel
theorem dX9_owes_1 : decode cX9_owes 1 = .ok (.getfield 26, 3) := by decide +kernel
theorem dX9_owes_4 : decode cX9_owes 4 = .ok (.getfield 87, 3) := by decide +kernel
theorem dX9_owes_7 : decode cX9_owes 7 = .ok (.iload_n 1, 1) := by decide +kernel
theorem dX9_owes_8 : decode cX9_owes 8 = .ok (.invokevirtual 104, 3) := by decide +kernel
theorem dX9_owes_11 : decode cX9_owes 11 = .ok (.ifCond .eq 22, 3) := by decide +kernel
theorem dX9_owes_14 : decode cX9_owes 14 = .ok (.aload_n 0, 1) := by decide +kernel
theorem dX9_owes_15 : decode cX9_owes 15 = .ok (.getfield 26, 3) := by decide +kernel
theorem dX9_owes_18 : decode cX9_owes 18 = .ok (.getfield 87, 3) := by decide +kernel
theorem dX9_owes_21 : decode cX9_owes 21 = .ok (.iload_n 2, 1) := by decide +kernel
theorem dX9_owes_22 : decode cX9_owes 22 = .ok (.invokevirtual 104, 3) := by decide +kernel
theorem dX9_owes_25 : decode cX9_owes 25 = .ok (.ifCond .eq 8, 3) := by decide +kernel
theorem dX9_owes_28 : decode cX9_owes 28 = .ok (.iload_n 1, 1) := by decide +kernel
theorem dX9_owes_29 : decode cX9_owes 29 = .ok (.iload_n 2, 1) := by decide +kernel
theorem dX9_owes_30 : decode cX9_owes 30 = .ok (.if_icmp .ne 11, 3) := by decide +kernel
theorem dX9_owes_33 : decode cX9_owes 33 = .ok (.aload_n 0, 1) := by decide +kernel
theorem dX9_owes_34 : decode cX9_owes 34 = .ok (.sipush (-1000), 3) := by decide +kernel
theorem dX9_owes_37 : decode cX9_owes 37 = .ok (.invokevirtual 83, 3) := by decide +kernel
theorem dX9_owes_40 : decode cX9_owes 40 = .ok (.ireturn, 1) := by decide +kernel
theorem dX9_owes_41 : decode cX9_owes 41 = .ok (.aload_n 0, 1) := by decide +kernel
theorem dX9_owes_42 : decode cX9_owes 42 = .ok (.getfield 44, 3) := by decide +kernel
theorem dX9_owes_45 : decode cX9_owes 45 = .ok (.aload_n 0, 1) := by decide +kernel
theorem dX9_owes_46 : decode cX9_owes 46 = .ok (.getfield 26, 3) := by decide +kernel
theorem dX9_owes_49 : decode cX9_owes 49 = .ok (.aload_n 0, 1) := by decide +kernel
theorem dX9_owes_50 : decode cX9_owes 50 = .ok (.getfield 26, 3) := by decide +kernel
theorem dX9_owes_53 : decode cX9_owes 53 = .ok (.getfield 187, 3) := by decide +kernel
theorem dX9_owes_56 : decode cX9_owes 56 = .ok (.invokevirtual 199, 3) := by decide +kernel
theorem dX9_owes_59 : decode cX9_owes 59 = .ok (.aload_n 0, 1) := by decide +kernel
theorem dX9_owes_60 : decode cX9_owes 60 = .ok (.getfield 44, 3) := by decide +kernel
theorem dX9_owes_63 : decode cX9_owes 63 = .ok (.iload_n 1, 1) := by decide +kernel
theorem dX9_owes_64 : decode cX9_owes 64 = .ok (.iload_n 2, 1) := by decide +kernel
theorem dX9_owes_65 : decode cX9_owes 65 = .ok (.invokevirtual 203, 3) := by decide +kernel
theorem dX9_owes_68 : decode cX9_owes 68 = .ok (.ireturn, 1) := by decide +kernel
theorem dX9_ring_0 : decode cX9_ring 0 = .ok (.iload_n 1, 1) := by decide +kernel
theorem dX9_ring_1 : decode cX9_ring 1 = .ok (.iconst (-1), 1) := by decide +kernel
theorem dX9_ring_2 : decode cX9_ring 2 = .ok (.if_icmp .ge 10, 3) := by decide +kernel
theorem dX9_ring_5 : decode cX9_ring 5 = .ok (.aload_n 0, 1) := by decide +kernel
theorem dX9_ring_6 : decode cX9_ring 6 = .ok (.bipush (-10), 2) := by decide +kernel
theorem dX9_ring_8 : decode cX9_ring 8 = .ok (.invokevirtual 83, 3) := by decide +kernel
theorem dX9_ring_11 : decode cX9_ring 11 = .ok (.ireturn, 1) := by decide +kernel
theorem dX9_ring_12 : decode cX9_ring 12 = .ok (.aload_n 0, 1) := by decide +kernel
theorem dX9_ring_13 : decode cX9_ring 13 = .ok (.invokevirtual 206, 3) := by decide +kernel
theorem dX9_ring_16 : decode cX9_ring 16 = .ok (.iload_n 1, 1) := by decide +kernel
theorem dX9_ring_17 : decode cX9_ring 17 = .ok (.iconst (-1), 1) := by decide +kernel
theorem dX9_ring_18 : decode cX9_ring 18 = .ok (.if_icmp .ne 11, 3) := by decide +kernel
theorem dX9_ring_21 : decode cX9_ring 21 = .ok (.aload_n 0, 1) := by decide +kernel
theorem dX9_ring_22 : decode cX9_ring 22 = .ok (.getfield 51, 3) := by decide +kernel
theorem dX9_ring_25 : decode cX9_ring 25 = .ok (.getfield 209, 3) := by decide +kernel
theorem dX9_ring_28 : decode cX9_ring 28 = .ok (.ireturn, 1) := by decide +kernel
theorem dX9_ring_29 : decode cX9_ring 29 = .ok (.iload_n 1, 1) := by decide +kernel
theorem dX9_ring_30 : decode cX9_ring 30 = .ok (.aload_n 0, 1) := by decide +kernel
theorem dX9_ring_31 : decode cX9_ring 31 = .ok (.getfield 51, 3) := by decide +kernel
theorem dX9_ring_34 : decode cX9_ring 34 = .ok (.getfield 209, 3) := by decide +kernel
theorem dX9_ring_37 : decode cX9_ring 37 = .ok (.if_icmp .ge 14, 3) := by decide +kernel
theorem dX9_ring_40 : decode cX9_ring 40 = .ok (.aload_n 0, 1) := by decide +kernel
theorem dX9_ring_41 : decode cX9_ring 41 = .ok (.getfield 51, 3) := by decide +kernel
theorem dX9_ring_44 : decode cX9_ring 44 = .ok (.iload_n 1, 1) := by decide +kernel
theorem dX9_ring_45 : decode cX9_ring 45 = .ok (.invokevirtual 210, 3) := by decide +kernel
theorem dX9_ring_48 : decode cX9_ring 48 = .ok (.goto 5, 3) := by decide +kernel
theorem dX9_ring_51 : decode cX9_ring 51 = .ok (.bipush (-5), 2) := by decide +kernel
theorem dX9_ring_53 : decode cX9_ring 53 = .ok (.ireturn, 1) := by decide +kernel
theorem dX9_cancel_0 : decode cX9_cancel 0 = .ok (.aload_n 0, 1) := by decide +kernel
theorem dX9_cancel_1 : decode cX9_cancel 1 = .ok (.invokevirtual 206, 3) := by decide +kernel
theorem dX9_cancel_4 : decode cX9_cancel 4 = .ok (.aload_n 0, 1) := by decide +kernel
theorem dX9_cancel_5 : decode cX9_cancel 5 = .ok (.getfield 51, 3) := by decide +kernel
theorem dX9_cancel_8 : decode cX9_cancel 8 = .ok (.getfield 209, 3) := by decide +kernel
theorem dX9_cancel_11 : decode cX9_cancel 11 = .ok (.ifCond .ne 10, 3) := by decide +kernel
theorem dX9_cancel_14 : decode cX9_cancel 14 = .ok (.aload_n 0, 1) := by decide +kernel
theorem dX9_cancel_15 : decode cX9_cancel 15 = .ok (.bipush (-3), 2) := by decide +kernel
theorem dX9_cancel_17 : decode cX9_cancel 17 = .ok (.invokevirtual 177, 3) := by decide +kernel
theorem dX9_cancel_20 : decode cX9_cancel 20 = .ok (.ireturn, 1) := by decide +kernel
theorem dX9_cancel_21 : decode cX9_cancel 21 = .ok (.iconst 0, 1) := by decide +kernel
theorem dX9_cancel_22 : decode cX9_cancel 22 = .ok (.istore_n 1, 1) := by decide +kernel
theorem dX9_cancel_23 : decode cX9_cancel 23 = .ok (.iconst 0, 1) := by decide +kernel
theorem dX9_cancel_24 : decode cX9_cancel 24 = .ok (.istore_n 2, 1) := by decide +kernel
theorem dX9_cancel_25 : decode cX9_cancel 25 = .ok (.iload_n 2, 1) := by decide +kernel
theorem dX9_cancel_26 : decode cX9_cancel 26 = .ok (.aload_n 0, 1) := by decide +kernel
theorem dX9_cancel_27 : decode cX9_cancel 27 = .ok (.getfield 51, 3) := by decide +kernel
theorem dX9_cancel_30 : decode cX9_cancel 30 = .ok (.getfield 209, 3) := by decide +kernel
theorem dX9_cancel_33 : decode cX9_cancel 33 = .ok (.if_icmp .ge 78, 3) := by decide +kernel
theorem dX9_cancel_36 : decode cX9_cancel 36 = .ok (.iload_n 2, 1) := by decide +kernel
theorem dX9_cancel_37 : decode cX9_cancel 37 = .ok (.iconst 1, 1) := by decide +kernel
theorem dX9_cancel_38 : decode cX9_cancel 38 = .ok (.iadd, 1) := by decide +kernel
theorem dX9_cancel_39 : decode cX9_cancel 39 = .ok (.aload_n 0, 1) := by decide +kernel
theorem dX9_cancel_40 : decode cX9_cancel 40 = .ok (.getfield 51, 3) := by decide +kernel
theorem dX9_cancel_43 : decode cX9_cancel 43 = .ok (.getfield 209, 3) := by decide +kernel
theorem dX9_cancel_46 : decode cX9_cancel 46 = .ok (.if_icmp .ge 9, 3) := by decide +kernel
theorem dX9_cancel_49 : decode cX9_cancel 49 = .ok (.iload_n 2, 1) := by decide +kernel
theorem dX9_cancel_50 : decode cX9_cancel 50 = .ok (.iconst 1, 1) := by decide +kernel
theorem dX9_cancel_51 : decode cX9_cancel 51 = .ok (.iadd, 1) := by decide +kernel
theorem dX9_cancel_52 : decode cX9_cancel 52 = .ok (.goto 4, 3) := by decide +kernel
theorem dX9_cancel_55 : decode cX9_cancel 55 = .ok (.iconst 0, 1) := by decide +kernel
theorem dX9_cancel_56 : decode cX9_cancel 56 = .ok (.istore_n 3, 1) := by decide +kernel
theorem dX9_cancel_57 : decode cX9_cancel 57 = .ok (.aload_n 0, 1) := by decide +kernel
theorem dX9_cancel_58 : decode cX9_cancel 58 = .ok (.getfield 26, 3) := by decide +kernel
theorem dX9_cancel_61 : decode cX9_cancel 61 = .ok (.aload_n 0, 1) := by decide +kernel
theorem dX9_cancel_62 : decode cX9_cancel 62 = .ok (.getfield 51, 3) := by decide +kernel
theorem dX9_cancel_65 : decode cX9_cancel 65 = .ok (.iload_n 2, 1) := by decide +kernel
theorem dX9_cancel_66 : decode cX9_cancel 66 = .ok (.invokevirtual 210, 3) := by decide +kernel
theorem dX9_cancel_69 : decode cX9_cancel 69 = .ok (.aload_n 0, 1) := by decide +kernel
theorem dX9_cancel_70 : decode cX9_cancel 70 = .ok (.getfield 51, 3) := by decide +kernel
theorem dX9_cancel_73 : decode cX9_cancel 73 = .ok (.iload_n 3, 1) := by decide +kernel
theorem dX9_cancel_74 : decode cX9_cancel 74 = .ok (.invokevirtual 210, 3) := by decide +kernel
theorem dX9_cancel_77 : decode cX9_cancel 77 = .ok (.invokevirtual 213, 3) := by decide +kernel
theorem dX9_cancel_80 : decode cX9_cancel 80 = .ok (.istore 4, 2) := by decide +kernel
theorem dX9_cancel_82 : decode cX9_cancel 82 = .ok (.iload 4, 2) := by decide +kernel
theorem dX9_cancel_84 : decode cX9_cancel 84 = .ok (.iconst (-1), 1) := by decide +kernel
theorem dX9_cancel_85 : decode cX9_cancel 85 = .ok (.if_icmp .eq 20, 3) := by decide +kernel
theorem dX9_cancel_88 : decode cX9_cancel 88 = .ok (.aload_n 0, 1) := by decide +kernel
theorem dX9_cancel_89 : decode cX9_cancel 89 = .ok (.getfield 26, 3) := by decide +kernel
theorem dX9_cancel_92 : decode cX9_cancel 92 = .ok (.getfield 122, 3) := by decide +kernel
theorem dX9_cancel_95 : decode cX9_cancel 95 = .ok (.iload 4, 2) := by decide +kernel
theorem dX9_cancel_97 : decode cX9_cancel 97 = .ok (.iconst 2, 1) := by decide +kernel
theorem dX9_cancel_98 : decode cX9_cancel 98 = .ok (.iconst (-1), 1) := by decide +kernel
theorem dX9_cancel_99 : decode cX9_cancel 99 = .ok (.invokevirtual 112, 3) := by decide +kernel
theorem dX9_cancel_102 : decode cX9_cancel 102 = .ok (.iinc 1 1, 3) := by decide +kernel
theorem dX9_cancel_105 : decode cX9_cancel 105 = .ok (.iinc 2 1, 3) := by decide +kernel
theorem dX9_cancel_108 : decode cX9_cancel 108 = .ok (.goto (-83), 3) := by decide +kernel
theorem dX9_cancel_111 : decode cX9_cancel 111 = .ok (.aload_n 0, 1) := by decide +kernel
theorem dX9_cancel_112 : decode cX9_cancel 112 = .ok (.getfield 58, 3) := by decide +kernel
theorem dX9_cancel_115 : decode cX9_cancel 115 = .ok (.iconst 1, 1) := by decide +kernel
theorem dX9_cancel_116 : decode cX9_cancel 116 = .ok (.putfield 100, 3) := by decide +kernel
theorem dX9_cancel_119 : decode cX9_cancel 119 = .ok (.iload_n 1, 1) := by decide +kernel
theorem dX9_cancel_120 : decode cX9_cancel 120 = .ok (.ireturn, 1) := by decide +kernel
theorem dX9_net_0 : decode cX9_net 0 = .ok (.aload_n 0, 1) := by decide +kernel
theorem dX9_net_1 : decode cX9_net 1 = .ok (.getfield 26, 3) := by decide +kernel
theorem dX9_net_4 : decode cX9_net 4 = .ok (.getfield 87, 3) := by decide +kernel
theorem dX9_net_7 : decode cX9_net 7 = .ok (.iload_n 1, 1) := by decide +kernel
theorem dX9_net_8 : decode cX9_net 8 = .ok (.invokevirtual 104, 3) := by decide +kernel
theorem dX9_net_11 : decode cX9_net 11 = .ok (.ifCond .ne 11, 3) := by decide +kernel
theorem dX9_net_14 : decode cX9_net 14 = .ok (.aload_n 0, 1) := by decide +kernel
theorem dX9_net_15 : decode cX9_net 15 = .ok (.sipush (-10000), 3) := by decide +kernel
theorem dX9_net_18 : decode cX9_net 18 = .ok (.invokevirtual 83, 3) := by decide +kernel
theorem dX9_net_21 : decode cX9_net 21 = .ok (.ireturn, 1) := by decide +kernel
theorem dX9_net_22 : decode cX9_net 22 = .ok (.aload_n 0, 1) := by decide +kernel
theorem dX9_net_23 : decode cX9_net 23 = .ok (.getfield 44, 3) := by decide +kernel
theorem dX9_net_26 : decode cX9_net 26 = .ok (.aload_n 0, 1) := by decide +kernel
theorem dX9_net_27 : decode cX9_net 27 = .ok (.getfield 26, 3) := by decide +kernel
theorem dX9_net_30 : decode cX9_net 30 = .ok (.aload_n 0, 1) := by decide +kernel
theorem dX9_net_31 : decode cX9_net 31 = .ok (.getfield 26, 3) := by decide +kernel
theorem dX9_net_34 : decode cX9_net 34 = .ok (.getfield 187, 3) := by decide +kernel
theorem dX9_net_37 : decode cX9_net 37 = .ok (.invokevirtual 199, 3) := by decide +kernel
theorem dX9_net_40 : decode cX9_net 40 = .ok (.aload_n 0, 1) := by decide +kernel
theorem dX9_net_41 : decode cX9_net 41 = .ok (.getfield 44, 3) := by decide +kernel
theorem dX9_net_44 : decode cX9_net 44 = .ok (.iload_n 1, 1) := by decide +kernel
theorem dX9_net_45 : decode cX9_net 45 = .ok (.invokevirtual 216, 3) := by decide +kernel
theorem dX9_net_48 : decode cX9_net 48 = .ok (.ireturn, 1) := by decide +kernel
theorem dX9_fewest_0 : decode cX9_fewest 0 = .ok (.aload_n 0, 1) := by decide +kernel
theorem dX9_fewest_1 : decode cX9_fewest 1 = .ok (.getfield 44, 3) := by decide +kernel
theorem dX9_fewest_4 : decode cX9_fewest 4 = .ok (.aload_n 0, 1) := by decide +kernel
theorem dX9_fewest_5 : decode cX9_fewest 5 = .ok (.getfield 26, 3) := by decide +kernel
theorem dX9_fewest_8 : decode cX9_fewest 8 = .ok (.aload_n 0, 1) := by decide +kernel
theorem dX9_fewest_9 : decode cX9_fewest 9 = .ok (.getfield 26, 3) := by decide +kernel
theorem dX9_fewest_12 : decode cX9_fewest 12 = .ok (.getfield 187, 3) := by decide +kernel
theorem dX9_fewest_15 : decode cX9_fewest 15 = .ok (.invokevirtual 199, 3) := by decide +kernel
theorem dX9_fewest_18 : decode cX9_fewest 18 = .ok (.aload_n 0, 1) := by decide +kernel
theorem dX9_fewest_19 : decode cX9_fewest 19 = .ok (.getfield 44, 3) := by decide +kernel
theorem dX9_fewest_22 : decode cX9_fewest 22 = .ok (.invokevirtual 219, 3) := by decide +kernel
theorem dX9_fewest_25 : decode cX9_fewest 25 = .ok (.ireturn, 1) := by decide +kernel
theorem dX9_met_0 : decode cX9_met 0 = .ok (.iload_n 1, 1) := by decide +kernel
theorem dX9_met_1 : decode cX9_met 1 = .ok (.iconst 0, 1) := by decide +kernel
theorem dX9_met_2 : decode cX9_met 2 = .ok (.iconst 1, 1) := by decide +kernel
theorem dX9_met_3 : decode cX9_met 3 = .ok (.invokestatic 79, 3) := by decide +kernel
theorem dX9_met_6 : decode cX9_met 6 = .ok (.ifCond .ne 10, 3) := by decide +kernel
theorem dX9_met_9 : decode cX9_met 9 = .ok (.aload_n 0, 1) := by decide +kernel
theorem dX9_met_10 : decode cX9_met 10 = .ok (.bipush (-2), 2) := by decide +kernel
theorem dX9_met_12 : decode cX9_met 12 = .ok (.invokevirtual 83, 3) := by decide +kernel
theorem dX9_met_15 : decode cX9_met 15 = .ok (.ireturn, 1) := by decide +kernel
theorem dX9_met_16 : decode cX9_met 16 = .ok (.aload_n 0, 1) := by decide +kernel
theorem dX9_met_17 : decode cX9_met 17 = .ok (.getfield 58, 3) := by decide +kernel
theorem dX9_met_20 : decode cX9_met 20 = .ok (.aload_n 0, 1) := by decide +kernel
theorem dX9_met_21 : decode cX9_met 21 = .ok (.getfield 26, 3) := by decide +kernel
theorem dX9_met_24 : decode cX9_met 24 = .ok (.invokevirtual 222, 3) := by decide +kernel
theorem dX9_met_27 : decode cX9_met 27 = .ok (.iload_n 1, 1) := by decide +kernel
theorem dX9_met_28 : decode cX9_met 28 = .ok (.ifCond .ne 13, 3) := by decide +kernel
theorem dX9_met_31 : decode cX9_met 31 = .ok (.aload_n 0, 1) := by decide +kernel
theorem dX9_met_32 : decode cX9_met 32 = .ok (.getfield 58, 3) := by decide +kernel
theorem dX9_met_35 : decode cX9_met 35 = .ok (.getfield 225, 3) := by decide +kernel
theorem dX9_met_38 : decode cX9_met 38 = .ok (.goto 10, 3) := by decide +kernel
theorem dX9_met_41 : decode cX9_met 41 = .ok (.aload_n 0, 1) := by decide +kernel
theorem dX9_met_42 : decode cX9_met 42 = .ok (.getfield 58, 3) := by decide +kernel
theorem dX9_met_45 : decode cX9_met 45 = .ok (.getfield 228, 3) := by decide +kernel
theorem dX9_met_48 : decode cX9_met 48 = .ok (.ireturn, 1) := by decide +kernel
theorem dX9_plan_0 : decode cX9_plan 0 = .ok (.aload_n 0, 1) := by decide +kernel
theorem dX9_plan_1 : decode cX9_plan 1 = .ok (.getfield 26, 3) := by decide +kernel
theorem dX9_plan_4 : decode cX9_plan 4 = .ok (.getfield 140, 3) := by decide +kernel
theorem dX9_plan_7 : decode cX9_plan 7 = .ok (.iload_n 1, 1) := by decide +kernel
theorem dX9_plan_8 : decode cX9_plan 8 = .ok (.invokevirtual 104, 3) := by decide +kernel
theorem dX9_plan_11 : decode cX9_plan 11 = .ok (.ifCond .ne 10, 3) := by decide +kernel
theorem dX9_plan_14 : decode cX9_plan 14 = .ok (.aload_n 0, 1) := by decide +kernel
theorem dX9_plan_15 : decode cX9_plan 15 = .ok (.bipush (-2), 2) := by decide +kernel
theorem dX9_plan_17 : decode cX9_plan 17 = .ok (.invokevirtual 83, 3) := by decide +kernel
theorem dX9_plan_20 : decode cX9_plan 20 = .ok (.ireturn, 1) := by decide +kernel
theorem dX9_plan_21 : decode cX9_plan 21 = .ok (.aload_n 0, 1) := by decide +kernel
theorem dX9_plan_22 : decode cX9_plan 22 = .ok (.getfield 58, 3) := by decide +kernel
theorem dX9_plan_25 : decode cX9_plan 25 = .ok (.aload_n 0, 1) := by decide +kernel
theorem dX9_plan_26 : decode cX9_plan 26 = .ok (.getfield 26, 3) := by decide +kernel
theorem dX9_plan_29 : decode cX9_plan 29 = .ok (.invokevirtual 222, 3) := by decide +kernel
theorem dX9_plan_32 : decode cX9_plan 32 = .ok (.aload_n 0, 1) := by decide +kernel
theorem dX9_plan_33 : decode cX9_plan 33 = .ok (.getfield 58, 3) := by decide +kernel
theorem dX9_plan_36 : decode cX9_plan 36 = .ok (.iload_n 1, 1) := by decide +kernel
theorem dX9_plan_37 : decode cX9_plan 37 = .ok (.invokevirtual 231, 3) := by decide +kernel
theorem dX9_plan_40 : decode cX9_plan 40 = .ok (.ireturn, 1) := by decide +kernel
theorem dX9_fire_0 : decode cX9_fire 0 = .ok (.iload_n 1, 1) := by decide +kernel
theorem dX9_fire_1 : decode cX9_fire 1 = .ok (.invokestatic 119, 3) := by decide +kernel
theorem dX9_fire_4 : decode cX9_fire 4 = .ok (.ifCond .eq 12, 3) := by decide +kernel
theorem dX9_fire_7 : decode cX9_fire 7 = .ok (.iload_n 2, 1) := by decide +kernel
theorem dX9_fire_8 : decode cX9_fire 8 = .ok (.iconst 0, 1) := by decide +kernel
theorem dX9_fire_9 : decode cX9_fire 9 = .ok (.iconst 1, 1) := by decide +kernel
theorem dX9_fire_10 : decode cX9_fire 10 = .ok (.invokestatic 79, 3) := by decide +kernel
theorem dX9_fire_13 : decode cX9_fire 13 = .ok (.ifCond .ne 10, 3) := by decide +kernel
theorem dX9_fire_16 : decode cX9_fire 16 = .ok (.aload_n 0, 1) := by decide +kernel
theorem dX9_fire_17 : decode cX9_fire 17 = .ok (.bipush (-2), 2) := by decide +kernel
theorem dX9_fire_19 : decode cX9_fire 19 = .ok (.invokevirtual 83, 3) := by decide +kernel
theorem dX9_fire_22 : decode cX9_fire 22 = .ok (.ireturn, 1) := by decide +kernel
theorem dX9_fire_23 : decode cX9_fire 23 = .ok (.aload_n 0, 1) := by decide +kernel
theorem dX9_fire_24 : decode cX9_fire 24 = .ok (.getfield 44, 3) := by decide +kernel
theorem dX9_fire_27 : decode cX9_fire 27 = .ok (.aload_n 0, 1) := by decide +kernel
theorem dX9_fire_28 : decode cX9_fire 28 = .ok (.getfield 26, 3) := by decide +kernel
theorem dX9_fire_31 : decode cX9_fire 31 = .ok (.iload_n 1, 1) := by decide +kernel
theorem dX9_fire_32 : decode cX9_fire 32 = .ok (.invokevirtual 199, 3) := by decide +kernel
theorem dX9_fire_35 : decode cX9_fire 35 = .ok (.aload_n 0, 1) := by decide +kernel
theorem dX9_fire_36 : decode cX9_fire 36 = .ok (.getfield 44, 3) := by decide +kernel
theorem dX9_fire_39 : decode cX9_fire 39 = .ok (.aload_n 0, 1) := by decide +kernel
theorem dX9_fire_40 : decode cX9_fire 40 = .ok (.getfield 26, 3) := by decide +kernel
theorem dX9_fire_43 : decode cX9_fire 43 = .ok (.getfield 87, 3) := by decide +kernel
theorem dX9_fire_46 : decode cX9_fire 46 = .ok (.invokevirtual 234, 3) := by decide +kernel
theorem dX9_fire_49 : decode cX9_fire 49 = .ok (.iload_n 2, 1) := by decide +kernel
theorem dX9_fire_50 : decode cX9_fire 50 = .ok (.ifCond .ne 13, 3) := by decide +kernel
theorem dX9_fire_53 : decode cX9_fire 53 = .ok (.aload_n 0, 1) := by decide +kernel
theorem dX9_fire_54 : decode cX9_fire 54 = .ok (.getfield 44, 3) := by decide +kernel
theorem dX9_fire_57 : decode cX9_fire 57 = .ok (.getfield 238, 3) := by decide +kernel
theorem dX9_fire_60 : decode cX9_fire 60 = .ok (.goto 10, 3) := by decide +kernel
theorem dX9_fire_63 : decode cX9_fire 63 = .ok (.aload_n 0, 1) := by decide +kernel
theorem dX9_fire_64 : decode cX9_fire 64 = .ok (.getfield 44, 3) := by decide +kernel
theorem dX9_fire_67 : decode cX9_fire 67 = .ok (.getfield 241, 3) := by decide +kernel
theorem dX9_fire_70 : decode cX9_fire 70 = .ok (.ireturn, 1) := by decide +kernel
theorem dX9_rate_0 : decode cX9_rate 0 = .ok (.iload_n 1, 1) := by decide +kernel
theorem dX9_rate_1 : decode cX9_rate 1 = .ok (.invokestatic 116, 3) := by decide +kernel
theorem dX9_rate_4 : decode cX9_rate 4 = .ok (.ifCond .eq 13, 3) := by decide +kernel
theorem dX9_rate_7 : decode cX9_rate 7 = .ok (.iload_n 2, 1) := by decide +kernel
theorem dX9_rate_8 : decode cX9_rate 8 = .ok (.iconst 0, 1) := by decide +kernel
theorem dX9_rate_9 : decode cX9_rate 9 = .ok (.bipush 99, 2) := by decide +kernel
theorem dX9_rate_11 : decode cX9_rate 11 = .ok (.invokestatic 79, 3) := by decide +kernel
theorem dX9_rate_14 : decode cX9_rate 14 = .ok (.ifCond .ne 10, 3) := by decide +kernel
theorem dX9_rate_17 : decode cX9_rate 17 = .ok (.aload_n 0, 1) := by decide +kernel
theorem dX9_rate_18 : decode cX9_rate 18 = .ok (.bipush (-2), 2) := by decide +kernel
theorem dX9_rate_20 : decode cX9_rate 20 = .ok (.invokevirtual 83, 3) := by decide +kernel
theorem dX9_rate_23 : decode cX9_rate 23 = .ok (.ireturn, 1) := by decide +kernel
theorem dX9_rate_24 : decode cX9_rate 24 = .ok (.aload_n 0, 1) := by decide +kernel
theorem dX9_rate_25 : decode cX9_rate 25 = .ok (.getfield 26, 3) := by decide +kernel
theorem dX9_rate_28 : decode cX9_rate 28 = .ok (.iload_n 1, 1) := by decide +kernel
theorem dX9_rate_29 : decode cX9_rate 29 = .ok (.invokevirtual 244, 3) := by decide +kernel
theorem dX9_rate_32 : decode cX9_rate 32 = .ok (.iload_n 2, 1) := by decide +kernel
theorem dX9_rate_33 : decode cX9_rate 33 = .ok (.aload_n 0, 1) := by decide +kernel
theorem dX9_rate_34 : decode cX9_rate 34 = .ok (.getfield 26, 3) := by decide +kernel
theorem dX9_rate_37 : decode cX9_rate 37 = .ok (.iload_n 1, 1) := by decide +kernel
theorem dX9_rate_38 : decode cX9_rate 38 = .ok (.invokevirtual 247, 3) := by decide +kernel
theorem dX9_rate_41 : decode cX9_rate 41 = .ok (.imul, 1) := by decide +kernel
theorem dX9_rate_42 : decode cX9_rate 42 = .ok (.iadd, 1) := by decide +kernel
theorem dX9_rate_43 : decode cX9_rate 43 = .ok (.invokestatic 250, 3) := by decide +kernel
theorem dX9_rate_46 : decode cX9_rate 46 = .ok (.ireturn, 1) := by decide +kernel
theorem dX9_set_0 : decode cX9_set 0 = .ok (.iload_n 1, 1) := by decide +kernel
theorem dX9_set_1 : decode cX9_set 1 = .ok (.invokestatic 116, 3) := by decide +kernel
theorem dX9_set_4 : decode cX9_set 4 = .ok (.ifCond .eq 13, 3) := by decide +kernel
theorem dX9_set_7 : decode cX9_set 7 = .ok (.iload_n 2, 1) := by decide +kernel
theorem dX9_set_8 : decode cX9_set 8 = .ok (.iconst 1, 1) := by decide +kernel
theorem dX9_set_9 : decode cX9_set 9 = .ok (.bipush 99, 2) := by decide +kernel
theorem dX9_set_11 : decode cX9_set 11 = .ok (.invokestatic 79, 3) := by decide +kernel
theorem dX9_set_14 : decode cX9_set 14 = .ok (.ifCond .ne 10, 3) := by decide +kernel
theorem dX9_set_17 : decode cX9_set 17 = .ok (.aload_n 0, 1) := by decide +kernel
theorem dX9_set_18 : decode cX9_set 18 = .ok (.bipush (-2), 2) := by decide +kernel
theorem dX9_set_20 : decode cX9_set 20 = .ok (.invokevirtual 83, 3) := by decide +kernel
theorem dX9_set_23 : decode cX9_set 23 = .ok (.ireturn, 1) := by decide +kernel
theorem dX9_set_24 : decode cX9_set 24 = .ok (.aload_n 0, 1) := by decide +kernel
theorem dX9_set_25 : decode cX9_set 25 = .ok (.getfield 26, 3) := by decide +kernel
theorem dX9_set_28 : decode cX9_set 28 = .ok (.iload_n 1, 1) := by decide +kernel
theorem dX9_set_29 : decode cX9_set 29 = .ok (.invokevirtual 244, 3) := by decide +kernel
theorem dX9_set_32 : decode cX9_set 32 = .ok (.istore_n 3, 1) := by decide +kernel
theorem dX9_set_33 : decode cX9_set 33 = .ok (.aload_n 0, 1) := by decide +kernel
theorem dX9_set_34 : decode cX9_set 34 = .ok (.getfield 26, 3) := by decide +kernel
theorem dX9_set_37 : decode cX9_set 37 = .ok (.iload_n 1, 1) := by decide +kernel
theorem dX9_set_38 : decode cX9_set 38 = .ok (.iload_n 2, 1) := by decide +kernel
theorem dX9_set_39 : decode cX9_set 39 = .ok (.invokevirtual 75, 3) := by decide +kernel
theorem dX9_set_42 : decode cX9_set 42 = .ok (.iload_n 3, 1) := by decide +kernel
theorem dX9_set_43 : decode cX9_set 43 = .ok (.ireturn, 1) := by decide +kernel
theorem dX9_settles_0 : decode cX9_settles 0 = .ok (.iconst 0, 1) := by decide +kernel
theorem dX9_settles_1 : decode cX9_settles 1 = .ok (.istore_n 1, 1) := by decide +kernel
theorem dX9_settles_2 : decode cX9_settles 2 = .ok (.iconst 0, 1) := by decide +kernel
theorem dX9_settles_3 : decode cX9_settles 3 = .ok (.istore_n 2, 1) := by decide +kernel
theorem dX9_settles_4 : decode cX9_settles 4 = .ok (.iload_n 2, 1) := by decide +kernel
theorem dX9_settles_5 : decode cX9_settles 5 = .ok (.iconst 4, 1) := by decide +kernel
theorem dX9_settles_6 : decode cX9_settles 6 = .ok (.if_icmp .ge 42, 3) := by decide +kernel
theorem dX9_settles_9 : decode cX9_settles 9 = .ok (.aload_n 0, 1) := by decide +kernel
theorem dX9_settles_10 : decode cX9_settles 10 = .ok (.getfield 26, 3) := by decide +kernel
theorem dX9_settles_13 : decode cX9_settles 13 = .ok (.iload_n 2, 1) := by decide +kernel
theorem dX9_settles_14 : decode cX9_settles 14 = .ok (.invokevirtual 244, 3) := by decide +kernel
theorem dX9_settles_17 : decode cX9_settles 17 = .ok (.aload_n 0, 1) := by decide +kernel
theorem dX9_settles_18 : decode cX9_settles 18 = .ok (.getfield 26, 3) := by decide +kernel
theorem dX9_settles_21 : decode cX9_settles 21 = .ok (.iload_n 2, 1) := by decide +kernel
theorem dX9_settles_22 : decode cX9_settles 22 = .ok (.invokevirtual 247, 3) := by decide +kernel
theorem dX9_settles_25 : decode cX9_settles 25 = .ok (.invokestatic 253, 3) := by decide +kernel
theorem dX9_settles_28 : decode cX9_settles 28 = .ok (.istore_n 3, 1) := by decide +kernel
theorem dX9_settles_29 : decode cX9_settles 29 = .ok (.iload_n 3, 1) := by decide +kernel
theorem dX9_settles_30 : decode cX9_settles 30 = .ok (.iconst (-1), 1) := by decide +kernel
theorem dX9_settles_31 : decode cX9_settles 31 = .ok (.if_icmp .ne 5, 3) := by decide +kernel
theorem dX9_settles_34 : decode cX9_settles 34 = .ok (.iconst (-1), 1) := by decide +kernel
theorem dX9_settles_35 : decode cX9_settles 35 = .ok (.ireturn, 1) := by decide +kernel
theorem dX9_settles_36 : decode cX9_settles 36 = .ok (.iload_n 1, 1) := by decide +kernel
theorem dX9_settles_37 : decode cX9_settles 37 = .ok (.iload_n 3, 1) := by decide +kernel
theorem dX9_settles_38 : decode cX9_settles 38 = .ok (.invokestatic 256, 3) := by decide +kernel
theorem dX9_settles_41 : decode cX9_settles 41 = .ok (.istore_n 1, 1) := by decide +kernel
theorem dX9_settles_42 : decode cX9_settles 42 = .ok (.iinc 2 1, 3) := by decide +kernel
theorem dX9_settles_45 : decode cX9_settles 45 = .ok (.goto (-41), 3) := by decide +kernel
theorem dX9_settles_48 : decode cX9_settles 48 = .ok (.iload_n 1, 1) := by decide +kernel
theorem dX9_settles_49 : decode cX9_settles 49 = .ok (.ireturn, 1) := by decide +kernel
theorem dX9_told_0 : decode cX9_told 0 = .ok (.aload_n 0, 1) := by decide +kernel
theorem dX9_told_1 : decode cX9_told 1 = .ok (.getfield 26, 3) := by decide +kernel
theorem dX9_told_4 : decode cX9_told 4 = .ok (.getfield 122, 3) := by decide +kernel
theorem dX9_told_7 : decode cX9_told 7 = .ok (.iload_n 1, 1) := by decide +kernel
theorem dX9_told_8 : decode cX9_told 8 = .ok (.invokevirtual 104, 3) := by decide +kernel
theorem dX9_told_11 : decode cX9_told 11 = .ok (.ifCond .eq 36, 3) := by decide +kernel
theorem dX9_told_14 : decode cX9_told 14 = .ok (.aload_n 0, 1) := by decide +kernel
theorem dX9_told_15 : decode cX9_told 15 = .ok (.getfield 26, 3) := by decide +kernel
theorem dX9_told_18 : decode cX9_told 18 = .ok (.getfield 87, 3) := by decide +kernel
theorem dX9_told_21 : decode cX9_told 21 = .ok (.iload_n 2, 1) := by decide +kernel
theorem dX9_told_22 : decode cX9_told 22 = .ok (.invokevirtual 104, 3) := by decide +kernel
theorem dX9_told_25 : decode cX9_told 25 = .ok (.ifCond .eq 22, 3) := by decide +kernel
theorem dX9_told_28 : decode cX9_told 28 = .ok (.aload_n 0, 1) := by decide +kernel
theorem dX9_told_29 : decode cX9_told 29 = .ok (.getfield 26, 3) := by decide +kernel
theorem dX9_told_32 : decode cX9_told 32 = .ok (.getfield 87, 3) := by decide +kernel
theorem dX9_told_35 : decode cX9_told 35 = .ok (.iload_n 3, 1) := by decide +kernel
theorem dX9_told_36 : decode cX9_told 36 = .ok (.invokevirtual 104, 3) := by decide +kernel
theorem dX9_told_39 : decode cX9_told 39 = .ok (.ifCond .eq 8, 3) := by decide +kernel
theorem dX9_told_42 : decode cX9_told 42 = .ok (.iload_n 2, 1) := by decide +kernel
theorem dX9_told_43 : decode cX9_told 43 = .ok (.iload_n 3, 1) := by decide +kernel
theorem dX9_told_44 : decode cX9_told 44 = .ok (.if_icmp .ne 10, 3) := by decide +kernel
theorem dX9_told_47 : decode cX9_told 47 = .ok (.aload_n 0, 1) := by decide +kernel
theorem dX9_told_48 : decode cX9_told 48 = .ok (.bipush (-2), 2) := by decide +kernel
theorem dX9_told_50 : decode cX9_told 50 = .ok (.invokevirtual 83, 3) := by decide +kernel
theorem dX9_told_53 : decode cX9_told 53 = .ok (.ireturn, 1) := by decide +kernel
theorem dX9_told_54 : decode cX9_told 54 = .ok (.aload_n 0, 1) := by decide +kernel
theorem dX9_told_55 : decode cX9_told 55 = .ok (.getfield 26, 3) := by decide +kernel
theorem dX9_told_58 : decode cX9_told 58 = .ok (.getfield 261, 3) := by decide +kernel
theorem dX9_told_61 : decode cX9_told 61 = .ok (.invokevirtual 125, 3) := by decide +kernel
theorem dX9_told_64 : decode cX9_told 64 = .ok (.ifCond .eq 8, 3) := by decide +kernel
theorem dX9_told_67 : decode cX9_told 67 = .ok (.aload_n 0, 1) := by decide +kernel
theorem dX9_told_68 : decode cX9_told 68 = .ok (.invokevirtual 129, 3) := by decide +kernel
theorem dX9_told_71 : decode cX9_told 71 = .ok (.ireturn, 1) := by decide +kernel
theorem dX9_told_72 : decode cX9_told 72 = .ok (.aload_n 0, 1) := by decide +kernel
theorem dX9_told_73 : decode cX9_told 73 = .ok (.getfield 26, 3) := by decide +kernel
theorem dX9_told_76 : decode cX9_told 76 = .ok (.iload_n 1, 1) := by decide +kernel
theorem dX9_told_77 : decode cX9_told 77 = .ok (.iload_n 2, 1) := by decide +kernel
theorem dX9_told_78 : decode cX9_told 78 = .ok (.iload_n 3, 1) := by decide +kernel
theorem dX9_told_79 : decode cX9_told 79 = .ok (.invokevirtual 264, 3) := by decide +kernel
theorem dX9_told_82 : decode cX9_told 82 = .ok (.ireturn, 1) := by decide +kernel
theorem dX9_forged_0 : decode cX9_forged 0 = .ok (.iconst 0, 1) := by decide +kernel
theorem dX9_forged_1 : decode cX9_forged 1 = .ok (.istore_n 1, 1) := by decide +kernel
theorem dX9_forged_2 : decode cX9_forged 2 = .ok (.iload_n 1, 1) := by decide +kernel
theorem dX9_forged_3 : decode cX9_forged 3 = .ok (.aload_n 0, 1) := by decide +kernel
theorem dX9_forged_4 : decode cX9_forged 4 = .ok (.getfield 26, 3) := by decide +kernel
theorem dX9_forged_7 : decode cX9_forged 7 = .ok (.getfield 261, 3) := by decide +kernel
theorem dX9_forged_10 : decode cX9_forged 10 = .ok (.getfield 91, 3) := by decide +kernel
theorem dX9_forged_13 : decode cX9_forged 13 = .ok (.if_icmp .ge 34, 3) := by decide +kernel
theorem dX9_forged_16 : decode cX9_forged 16 = .ok (.aload_n 0, 1) := by decide +kernel
theorem dX9_forged_17 : decode cX9_forged 17 = .ok (.getfield 26, 3) := by decide +kernel
theorem dX9_forged_20 : decode cX9_forged 20 = .ok (.getfield 261, 3) := by decide +kernel
theorem dX9_forged_23 : decode cX9_forged 23 = .ok (.iload_n 1, 1) := by decide +kernel
theorem dX9_forged_24 : decode cX9_forged 24 = .ok (.iconst 1, 1) := by decide +kernel
theorem dX9_forged_25 : decode cX9_forged 25 = .ok (.invokevirtual 108, 3) := by decide +kernel
theorem dX9_forged_28 : decode cX9_forged 28 = .ok (.aload_n 0, 1) := by decide +kernel
theorem dX9_forged_29 : decode cX9_forged 29 = .ok (.getfield 26, 3) := by decide +kernel
theorem dX9_forged_32 : decode cX9_forged 32 = .ok (.iload_n 1, 1) := by decide +kernel
theorem dX9_forged_33 : decode cX9_forged 33 = .ok (.invokevirtual 268, 3) := by decide +kernel
theorem dX9_forged_36 : decode cX9_forged 36 = .ok (.if_icmp .eq 5, 3) := by decide +kernel
theorem dX9_forged_39 : decode cX9_forged 39 = .ok (.iload_n 1, 1) := by decide +kernel
theorem dX9_forged_40 : decode cX9_forged 40 = .ok (.ireturn, 1) := by decide +kernel
theorem dX9_forged_41 : decode cX9_forged 41 = .ok (.iinc 1 1, 3) := by decide +kernel
theorem dX9_forged_44 : decode cX9_forged 44 = .ok (.goto (-42), 3) := by decide +kernel
theorem dX9_forged_47 : decode cX9_forged 47 = .ok (.iconst (-1), 1) := by decide +kernel
theorem dX9_forged_48 : decode cX9_forged 48 = .ok (.ireturn, 1) := by decide +kernel
theorem dX9_forget_0 : decode cX9_forget 0 = .ok (.aload_n 0, 1) := by decide +kernel
theorem dX9_forget_1 : decode cX9_forget 1 = .ok (.getfield 26, 3) := by decide +kernel
theorem dX9_forget_4 : decode cX9_forget 4 = .ok (.getfield 261, 3) := by decide +kernel
theorem dX9_forget_7 : decode cX9_forget 7 = .ok (.invokevirtual 147, 3) := by decide +kernel
theorem dX9_forget_10 : decode cX9_forget 10 = .ok (.ireturn, 1) := by decide +kernel
theorem dX9_goesOff_0 : decode cX9_goesOff 0 = .ok (.aload_n 0, 1) := by decide +kernel
theorem dX9_goesOff_1 : decode cX9_goesOff 1 = .ok (.iload_n 1, 1) := by decide +kernel
theorem dX9_goesOff_2 : decode cX9_goesOff 2 = .ok (.invokevirtual 137, 3) := by decide +kernel
theorem dX9_goesOff_5 : decode cX9_goesOff 5 = .ok (.ifCond .ne 10, 3) := by decide +kernel
theorem dX9_goesOff_8 : decode cX9_goesOff 8 = .ok (.aload_n 0, 1) := by decide +kernel
theorem dX9_goesOff_9 : decode cX9_goesOff 9 = .ok (.bipush (-2), 2) := by decide +kernel
theorem dX9_goesOff_11 : decode cX9_goesOff 11 = .ok (.invokevirtual 83, 3) := by decide +kernel
theorem dX9_goesOff_14 : decode cX9_goesOff 14 = .ok (.ireturn, 1) := by decide +kernel
theorem dX9_goesOff_15 : decode cX9_goesOff 15 = .ok (.iconst 0, 1) := by decide +kernel
theorem dX9_goesOff_16 : decode cX9_goesOff 16 = .ok (.istore_n 2, 1) := by decide +kernel
theorem dX9_goesOff_17 : decode cX9_goesOff 17 = .ok (.iconst 0, 1) := by decide +kernel
theorem dX9_goesOff_18 : decode cX9_goesOff 18 = .ok (.istore_n 3, 1) := by decide +kernel
theorem dX9_goesOff_19 : decode cX9_goesOff 19 = .ok (.iload_n 3, 1) := by decide +kernel
theorem dX9_goesOff_20 : decode cX9_goesOff 20 = .ok (.aload_n 0, 1) := by decide +kernel
theorem dX9_goesOff_21 : decode cX9_goesOff 21 = .ok (.getfield 26, 3) := by decide +kernel
theorem dX9_goesOff_24 : decode cX9_goesOff 24 = .ok (.getfield 122, 3) := by decide +kernel
theorem dX9_goesOff_27 : decode cX9_goesOff 27 = .ok (.getfield 91, 3) := by decide +kernel
theorem dX9_goesOff_30 : decode cX9_goesOff 30 = .ok (.if_icmp .ge 34, 3) := by decide +kernel
theorem dX9_goesOff_33 : decode cX9_goesOff 33 = .ok (.iload_n 2, 1) := by decide +kernel
theorem dX9_goesOff_34 : decode cX9_goesOff 34 = .ok (.iconst 0, 1) := by decide +kernel
theorem dX9_goesOff_35 : decode cX9_goesOff 35 = .ok (.aload_n 0, 1) := by decide +kernel
theorem dX9_goesOff_36 : decode cX9_goesOff 36 = .ok (.getfield 26, 3) := by decide +kernel
theorem dX9_goesOff_39 : decode cX9_goesOff 39 = .ok (.iload_n 3, 1) := by decide +kernel
theorem dX9_goesOff_40 : decode cX9_goesOff 40 = .ok (.invokevirtual 174, 3) := by decide +kernel
theorem dX9_goesOff_43 : decode cX9_goesOff 43 = .ok (.aload_n 0, 1) := by decide +kernel
theorem dX9_goesOff_44 : decode cX9_goesOff 44 = .ok (.getfield 26, 3) := by decide +kernel
theorem dX9_goesOff_47 : decode cX9_goesOff 47 = .ok (.iload_n 3, 1) := by decide +kernel
theorem dX9_goesOff_48 : decode cX9_goesOff 48 = .ok (.iload_n 1, 1) := by decide +kernel
theorem dX9_goesOff_49 : decode cX9_goesOff 49 = .ok (.invokevirtual 171, 3) := by decide +kernel
theorem dX9_goesOff_52 : decode cX9_goesOff 52 = .ok (.isub, 1) := by decide +kernel
theorem dX9_goesOff_53 : decode cX9_goesOff 53 = .ok (.invokestatic 256, 3) := by decide +kernel
theorem dX9_goesOff_56 : decode cX9_goesOff 56 = .ok (.iadd, 1) := by decide +kernel
theorem dX9_goesOff_57 : decode cX9_goesOff 57 = .ok (.istore_n 2, 1) := by decide +kernel
theorem dX9_goesOff_58 : decode cX9_goesOff 58 = .ok (.iinc 3 1, 3) := by decide +kernel
theorem dX9_goesOff_61 : decode cX9_goesOff 61 = .ok (.goto (-42), 3) := by decide +kernel
theorem dX9_goesOff_64 : decode cX9_goesOff 64 = .ok (.iload_n 2, 1) := by decide +kernel
theorem dX9_goesOff_65 : decode cX9_goesOff 65 = .ok (.ireturn, 1) := by decide +kernel
theorem dX9_kept_0 : decode cX9_kept 0 = .ok (.iload_n 1, 1) := by decide +kernel
theorem dX9_kept_1 : decode cX9_kept 1 = .ok (.iconst 0, 1) := by decide +kernel
theorem dX9_kept_2 : decode cX9_kept 2 = .ok (.bipush 10, 2) := by decide +kernel
theorem dX9_kept_4 : decode cX9_kept 4 = .ok (.invokestatic 79, 3) := by decide +kernel
theorem dX9_kept_7 : decode cX9_kept 7 = .ok (.ifCond .eq 12, 3) := by decide +kernel
theorem dX9_kept_10 : decode cX9_kept 10 = .ok (.iload_n 2, 1) := by decide +kernel
theorem dX9_kept_11 : decode cX9_kept 11 = .ok (.iconst 0, 1) := by decide +kernel
theorem dX9_kept_12 : decode cX9_kept 12 = .ok (.iconst 5, 1) := by decide +kernel
theorem dX9_kept_13 : decode cX9_kept 13 = .ok (.invokestatic 79, 3) := by decide +kernel
theorem dX9_kept_16 : decode cX9_kept 16 = .ok (.ifCond .ne 10, 3) := by decide +kernel
theorem dX9_kept_19 : decode cX9_kept 19 = .ok (.aload_n 0, 1) := by decide +kernel
theorem dX9_kept_20 : decode cX9_kept 20 = .ok (.bipush (-2), 2) := by decide +kernel
theorem dX9_kept_22 : decode cX9_kept 22 = .ok (.invokevirtual 83, 3) := by decide +kernel
theorem dX9_kept_25 : decode cX9_kept 25 = .ok (.ireturn, 1) := by decide +kernel
theorem dX9_kept_26 : decode cX9_kept 26 = .ok (.aload_n 0, 1) := by decide +kernel
theorem dX9_kept_27 : decode cX9_kept 27 = .ok (.getfield 58, 3) := by decide +kernel
theorem dX9_kept_30 : decode cX9_kept 30 = .ok (.aload_n 0, 1) := by decide +kernel
theorem dX9_kept_31 : decode cX9_kept 31 = .ok (.getfield 26, 3) := by decide +kernel
theorem dX9_kept_34 : decode cX9_kept 34 = .ok (.invokevirtual 222, 3) := by decide +kernel
theorem dX9_kept_37 : decode cX9_kept 37 = .ok (.aload_n 0, 1) := by decide +kernel
theorem dX9_kept_38 : decode cX9_kept 38 = .ok (.getfield 58, 3) := by decide +kernel
theorem dX9_kept_41 : decode cX9_kept 41 = .ok (.getfield 225, 3) := by decide +kernel
theorem dX9_kept_44 : decode cX9_kept 44 = .ok (.istore_n 3, 1) := by decide +kernel
theorem dX9_kept_45 : decode cX9_kept 45 = .ok (.lconst 0, 1) := by decide +kernel
theorem dX9_kept_46 : decode cX9_kept 46 = .ok (.lstore 4, 2) := by decide +kernel
theorem dX9_kept_48 : decode cX9_kept 48 = .ok (.iload_n 2, 1) := by decide +kernel
theorem dX9_kept_49 : decode cX9_kept 49 = .ok (.istore 6, 2) := by decide +kernel
theorem dX9_kept_51 : decode cX9_kept 51 = .ok (.iload 6, 2) := by decide +kernel
theorem dX9_kept_53 : decode cX9_kept 53 = .ok (.iload_n 3, 1) := by decide +kernel
theorem dX9_kept_54 : decode cX9_kept 54 = .ok (.if_icmp .gt 39, 3) := by decide +kernel
theorem dX9_kept_57 : decode cX9_kept 57 = .ok (.lload 4, 2) := by decide +kernel
theorem dX9_kept_59 : decode cX9_kept 59 = .ok (.iload_n 3, 1) := by decide +kernel
theorem dX9_kept_60 : decode cX9_kept 60 = .ok (.iload 6, 2) := by decide +kernel
theorem dX9_kept_62 : decode cX9_kept 62 = .ok (.invokestatic 271, 3) := by decide +kernel
theorem dX9_kept_65 : decode cX9_kept 65 = .ok (.iload_n 1, 1) := by decide +kernel
theorem dX9_kept_66 : decode cX9_kept 66 = .ok (.iload 6, 2) := by decide +kernel
theorem dX9_kept_68 : decode cX9_kept 68 = .ok (.invokestatic 275, 3) := by decide +kernel
theorem dX9_kept_71 : decode cX9_kept 71 = .ok (.lmul, 1) := by decide +kernel
theorem dX9_kept_72 : decode cX9_kept 72 = .ok (.bipush 10, 2) := by decide +kernel
theorem dX9_kept_74 : decode cX9_kept 74 = .ok (.iload_n 1, 1) := by decide +kernel
theorem dX9_kept_75 : decode cX9_kept 75 = .ok (.isub, 1) := by decide +kernel
theorem dX9_kept_76 : decode cX9_kept 76 = .ok (.iload_n 3, 1) := by decide +kernel
theorem dX9_kept_77 : decode cX9_kept 77 = .ok (.iload 6, 2) := by decide +kernel
theorem dX9_kept_79 : decode cX9_kept 79 = .ok (.isub, 1) := by decide +kernel
theorem dX9_kept_80 : decode cX9_kept 80 = .ok (.invokestatic 275, 3) := by decide +kernel
theorem dX9_kept_83 : decode cX9_kept 83 = .ok (.lmul, 1) := by decide +kernel
theorem dX9_kept_84 : decode cX9_kept 84 = .ok (.ladd, 1) := by decide +kernel
theorem dX9_kept_85 : decode cX9_kept 85 = .ok (.lstore 4, 2) := by decide +kernel
theorem dX9_kept_87 : decode cX9_kept 87 = .ok (.iinc 6 1, 3) := by decide +kernel
theorem dX9_kept_90 : decode cX9_kept 90 = .ok (.goto (-39), 3) := by decide +kernel
theorem dX9_kept_93 : decode cX9_kept 93 = .ok (.aload_n 0, 1) := by decide +kernel
theorem dX9_kept_94 : decode cX9_kept 94 = .ok (.getfield 65, 3) := by decide +kernel
theorem dX9_kept_97 : decode cX9_kept 97 = .ok (.lload 4, 2) := by decide +kernel
theorem dX9_kept_99 : decode cX9_kept 99 = .ok (.bipush 10, 2) := by decide +kernel
theorem dX9_kept_101 : decode cX9_kept 101 = .ok (.iload_n 3, 1) := by decide +kernel
theorem dX9_kept_102 : decode cX9_kept 102 = .ok (.invokestatic 275, 3) := by decide +kernel
theorem dX9_kept_105 : decode cX9_kept 105 = .ok (.invokevirtual 278, 3) := by decide +kernel
theorem dX9_kept_108 : decode cX9_kept 108 = .ok (.iconst 1, 1) := by decide +kernel
theorem dX9_kept_109 : decode cX9_kept 109 = .ok (.ireturn, 1) := by decide +kernel
theorem dX9_part_0 : decode cX9_part 0 = .ok (.iload_n 1, 1) := by decide +kernel
theorem dX9_part_1 : decode cX9_part 1 = .ok (.iconst 0, 1) := by decide +kernel
theorem dX9_part_2 : decode cX9_part 2 = .ok (.iconst 1, 1) := by decide +kernel
theorem dX9_part_3 : decode cX9_part 3 = .ok (.invokestatic 79, 3) := by decide +kernel
theorem dX9_part_6 : decode cX9_part 6 = .ok (.ifCond .ne 11, 3) := by decide +kernel
theorem dX9_part_9 : decode cX9_part 9 = .ok (.aload_n 0, 1) := by decide +kernel
theorem dX9_part_10 : decode cX9_part 10 = .ok (.bipush (-2), 2) := by decide +kernel
theorem dX9_part_12 : decode cX9_part 12 = .ok (.invokevirtual 83, 3) := by decide +kernel
theorem dX9_part_15 : decode cX9_part 15 = .ok (.i2l, 1) := by decide +kernel
theorem dX9_part_16 : decode cX9_part 16 = .ok (.lreturn, 1) := by decide +kernel
theorem dX9_part_17 : decode cX9_part 17 = .ok (.iload_n 1, 1) := by decide +kernel
theorem dX9_part_18 : decode cX9_part 18 = .ok (.ifCond .ne 13, 3) := by decide +kernel
theorem dX9_part_21 : decode cX9_part 21 = .ok (.aload_n 0, 1) := by decide +kernel
theorem dX9_part_22 : decode cX9_part 22 = .ok (.getfield 65, 3) := by decide +kernel
theorem dX9_part_25 : decode cX9_part 25 = .ok (.getfield 282, 3) := by decide +kernel
theorem dX9_part_28 : decode cX9_part 28 = .ok (.goto 10, 3) := by decide +kernel
theorem dX9_part_31 : decode cX9_part 31 = .ok (.aload_n 0, 1) := by decide +kernel
theorem dX9_part_32 : decode cX9_part 32 = .ok (.getfield 65, 3) := by decide +kernel
theorem dX9_part_35 : decode cX9_part 35 = .ok (.getfield 286, 3) := by decide +kernel
theorem dX9_part_38 : decode cX9_part 38 = .ok (.lreturn, 1) := by decide +kernel
theorem dX9_image_0 : decode cX9_image 0 = .ok (.iload_n 1, 1) := by decide +kernel
theorem dX9_image_1 : decode cX9_image 1 = .ok (.iconst 0, 1) := by decide +kernel
theorem dX9_image_2 : decode cX9_image 2 = .ok (.iconst 1, 1) := by decide +kernel
theorem dX9_image_3 : decode cX9_image 3 = .ok (.invokestatic 79, 3) := by decide +kernel
theorem dX9_image_6 : decode cX9_image 6 = .ok (.ifCond .ne 10, 3) := by decide +kernel
theorem dX9_image_9 : decode cX9_image 9 = .ok (.aload_n 0, 1) := by decide +kernel
theorem dX9_image_10 : decode cX9_image 10 = .ok (.bipush (-2), 2) := by decide +kernel
theorem dX9_image_12 : decode cX9_image 12 = .ok (.invokevirtual 83, 3) := by decide +kernel
theorem dX9_image_15 : decode cX9_image 15 = .ok (.ireturn, 1) := by decide +kernel
theorem dX9_image_16 : decode cX9_image 16 = .ok (.aload_n 0, 1) := by decide +kernel
theorem dX9_image_17 : decode cX9_image 17 = .ok (.iload_n 1, 1) := by decide +kernel
theorem dX9_image_18 : decode cX9_image 18 = .ok (.invokevirtual 289, 3) := by decide +kernel
theorem dX9_image_21 : decode cX9_image 21 = .ok (.aload_n 0, 1) := by decide +kernel
theorem dX9_image_22 : decode cX9_image 22 = .ok (.getfield 10, 3) := by decide +kernel
theorem dX9_image_25 : decode cX9_image 25 = .ok (.invokevirtual 293, 3) := by decide +kernel
theorem dX9_image_28 : decode cX9_image 28 = .ok (.aload_n 0, 1) := by decide +kernel
theorem dX9_image_29 : decode cX9_image 29 = .ok (.iload_n 1, 1) := by decide +kernel
theorem dX9_image_30 : decode cX9_image 30 = .ok (.invokevirtual 289, 3) := by decide +kernel
theorem dX9_image_33 : decode cX9_image 33 = .ok (.iconst 1, 1) := by decide +kernel
theorem dX9_image_34 : decode cX9_image 34 = .ok (.putfield 297, 3) := by decide +kernel
theorem dX9_image_37 : decode cX9_image 37 = .ok (.iconst 1, 1) := by decide +kernel
theorem dX9_image_38 : decode cX9_image 38 = .ok (.ireturn, 1) := by decide +kernel
theorem dX9_from_0 : decode cX9_from 0 = .ok (.iload_n 1, 1) := by decide +kernel
theorem dX9_from_1 : decode cX9_from 1 = .ok (.iconst 0, 1) := by decide +kernel
theorem dX9_from_2 : decode cX9_from 2 = .ok (.iconst 1, 1) := by decide +kernel
theorem dX9_from_3 : decode cX9_from 3 = .ok (.invokestatic 79, 3) := by decide +kernel
theorem dX9_from_6 : decode cX9_from 6 = .ok (.ifCond .ne 10, 3) := by decide +kernel
theorem dX9_from_9 : decode cX9_from 9 = .ok (.aload_n 0, 1) := by decide +kernel
theorem dX9_from_10 : decode cX9_from 10 = .ok (.bipush (-2), 2) := by decide +kernel
theorem dX9_from_12 : decode cX9_from 12 = .ok (.invokevirtual 83, 3) := by decide +kernel
theorem dX9_from_15 : decode cX9_from 15 = .ok (.ireturn, 1) := by decide +kernel
theorem dX9_from_16 : decode cX9_from 16 = .ok (.aload_n 0, 1) := by decide +kernel
theorem dX9_from_17 : decode cX9_from 17 = .ok (.iload_n 1, 1) := by decide +kernel
theorem dX9_from_18 : decode cX9_from 18 = .ok (.invokevirtual 289, 3) := by decide +kernel
theorem dX9_from_21 : decode cX9_from 21 = .ok (.getfield 297, 3) := by decide +kernel
theorem dX9_from_24 : decode cX9_from 24 = .ok (.ifCond .ne 10, 3) := by decide +kernel
theorem dX9_from_27 : decode cX9_from 27 = .ok (.aload_n 0, 1) := by decide +kernel
theorem dX9_from_28 : decode cX9_from 28 = .ok (.bipush (-3), 2) := by decide +kernel
theorem dX9_from_30 : decode cX9_from 30 = .ok (.invokevirtual 177, 3) := by decide +kernel
theorem dX9_from_33 : decode cX9_from 33 = .ok (.ireturn, 1) := by decide +kernel
theorem dX9_from_34 : decode cX9_from 34 = .ok (.aload_n 0, 1) := by decide +kernel
theorem dX9_from_35 : decode cX9_from 35 = .ok (.getfield 10, 3) := by decide +kernel
theorem dX9_from_38 : decode cX9_from 38 = .ok (.aload_n 0, 1) := by decide +kernel
theorem dX9_from_39 : decode cX9_from 39 = .ok (.iload_n 1, 1) := by decide +kernel
theorem dX9_from_40 : decode cX9_from 40 = .ok (.invokevirtual 289, 3) := by decide +kernel
theorem dX9_from_43 : decode cX9_from 43 = .ok (.invokevirtual 293, 3) := by decide +kernel
theorem dX9_from_46 : decode cX9_from 46 = .ok (.aload_n 0, 1) := by decide +kernel
theorem dX9_from_47 : decode cX9_from 47 = .ok (.getfield 58, 3) := by decide +kernel
theorem dX9_from_50 : decode cX9_from 50 = .ok (.iconst 1, 1) := by decide +kernel
theorem dX9_from_51 : decode cX9_from 51 = .ok (.putfield 100, 3) := by decide +kernel
theorem dX9_from_54 : decode cX9_from 54 = .ok (.iconst 1, 1) := by decide +kernel
theorem dX9_from_55 : decode cX9_from 55 = .ok (.ireturn, 1) := by decide +kernel
theorem dX9_status_0 : decode cX9_status 0 = .ok (.iload_n 1, 1) := by decide +kernel
theorem dX9_status_1 : decode cX9_status 1 = .ok (.tableswitch 42 0 2 #[27, 32, 37], 27) := by decide +kernel
theorem dX9_status_28 : decode cX9_status 28 = .ok (.aload_n 0, 1) := by decide +kernel
theorem dX9_status_29 : decode cX9_status 29 = .ok (.getfield 300, 3) := by decide +kernel
theorem dX9_status_32 : decode cX9_status 32 = .ok (.ireturn, 1) := by decide +kernel
theorem dX9_status_33 : decode cX9_status 33 = .ok (.aload_n 0, 1) := by decide +kernel
theorem dX9_status_34 : decode cX9_status 34 = .ok (.getfield 303, 3) := by decide +kernel
theorem dX9_status_37 : decode cX9_status 37 = .ok (.ireturn, 1) := by decide +kernel
theorem dX9_status_38 : decode cX9_status 38 = .ok (.aload_n 0, 1) := by decide +kernel
theorem dX9_status_39 : decode cX9_status 39 = .ok (.getfield 306, 3) := by decide +kernel
theorem dX9_status_42 : decode cX9_status 42 = .ok (.ireturn, 1) := by decide +kernel
theorem dX9_status_43 : decode cX9_status 43 = .ok (.aload_n 0, 1) := by decide +kernel
theorem dX9_status_44 : decode cX9_status 44 = .ok (.iconst (-1), 1) := by decide +kernel
theorem dX9_status_45 : decode cX9_status 45 = .ok (.invokevirtual 83, 3) := by decide +kernel
theorem dX9_status_48 : decode cX9_status 48 = .ok (.ireturn, 1) := by decide +kernel
theorem dX9_count_0 : decode cX9_count 0 = .ok (.iload_n 1, 1) := by decide +kernel
theorem dX9_count_1 : decode cX9_count 1 = .ok (.iconst 0, 1) := by decide +kernel
theorem dX9_count_2 : decode cX9_count 2 = .ok (.bipush 6, 2) := by decide +kernel
theorem dX9_count_4 : decode cX9_count 4 = .ok (.invokestatic 79, 3) := by decide +kernel
theorem dX9_count_7 : decode cX9_count 7 = .ok (.ifCond .eq 11, 3) := by decide +kernel
theorem dX9_count_10 : decode cX9_count 10 = .ok (.aload_n 0, 1) := by decide +kernel
theorem dX9_count_11 : decode cX9_count 11 = .ok (.iload_n 1, 1) := by decide +kernel
theorem dX9_count_12 : decode cX9_count 12 = .ok (.invokevirtual 309, 3) := by decide +kernel
theorem dX9_count_15 : decode cX9_count 15 = .ok (.goto 9, 3) := by decide +kernel
theorem dX9_count_18 : decode cX9_count 18 = .ok (.aload_n 0, 1) := by decide +kernel
theorem dX9_count_19 : decode cX9_count 19 = .ok (.bipush (-2), 2) := by decide +kernel
theorem dX9_count_21 : decode cX9_count 21 = .ok (.invokevirtual 83, 3) := by decide +kernel
theorem dX9_count_24 : decode cX9_count 24 = .ok (.ireturn, 1) := by decide +kernel
theorem dX9_digest_0 : decode cX9_digest 0 = .ok (.ldc2_w 312, 3) := by decide +kernel
theorem dX9_digest_3 : decode cX9_digest 3 = .ok (.lstore_n 1, 1) := by decide +kernel
theorem dX9_digest_4 : decode cX9_digest 4 = .ok (.iconst 0, 1) := by decide +kernel
theorem dX9_digest_5 : decode cX9_digest 5 = .ok (.istore_n 3, 1) := by decide +kernel
theorem dX9_digest_6 : decode cX9_digest 6 = .ok (.iload_n 3, 1) := by decide +kernel
theorem dX9_digest_7 : decode cX9_digest 7 = .ok (.bipush 6, 2) := by decide +kernel
theorem dX9_digest_9 : decode cX9_digest 9 = .ok (.if_icmp .gt 22, 3) := by decide +kernel
theorem dX9_digest_12 : decode cX9_digest 12 = .ok (.ldc2_w 314, 3) := by decide +kernel
theorem dX9_digest_15 : decode cX9_digest 15 = .ok (.lload_n 1, 1) := by decide +kernel
theorem dX9_digest_16 : decode cX9_digest 16 = .ok (.lmul, 1) := by decide +kernel
theorem dX9_digest_17 : decode cX9_digest 17 = .ok (.aload_n 0, 1) := by decide +kernel
theorem dX9_digest_18 : decode cX9_digest 18 = .ok (.iload_n 3, 1) := by decide +kernel
theorem dX9_digest_19 : decode cX9_digest 19 = .ok (.invokevirtual 309, 3) := by decide +kernel
theorem dX9_digest_22 : decode cX9_digest 22 = .ok (.i2l, 1) := by decide +kernel
theorem dX9_digest_23 : decode cX9_digest 23 = .ok (.ladd, 1) := by decide +kernel
theorem dX9_digest_24 : decode cX9_digest 24 = .ok (.lstore_n 1, 1) := by decide +kernel
theorem dX9_digest_25 : decode cX9_digest 25 = .ok (.iinc 3 1, 3) := by decide +kernel
theorem dX9_digest_28 : decode cX9_digest 28 = .ok (.goto (-22), 3) := by decide +kernel
theorem dX9_digest_31 : decode cX9_digest 31 = .ok (.aload_n 0, 1) := by decide +kernel
theorem dX9_digest_32 : decode cX9_digest 32 = .ok (.getfield 26, 3) := by decide +kernel
theorem dX9_digest_35 : decode cX9_digest 35 = .ok (.getfield 87, 3) := by decide +kernel
theorem dX9_digest_38 : decode cX9_digest 38 = .ok (.lload_n 1, 1) := by decide +kernel
theorem dX9_digest_39 : decode cX9_digest 39 = .ok (.invokevirtual 316, 3) := by decide +kernel
theorem dX9_digest_42 : decode cX9_digest 42 = .ok (.lstore_n 1, 1) := by decide +kernel
theorem dX9_digest_43 : decode cX9_digest 43 = .ok (.aload_n 0, 1) := by decide +kernel
theorem dX9_digest_44 : decode cX9_digest 44 = .ok (.getfield 26, 3) := by decide +kernel
theorem dX9_digest_47 : decode cX9_digest 47 = .ok (.getfield 122, 3) := by decide +kernel
theorem dX9_digest_50 : decode cX9_digest 50 = .ok (.lload_n 1, 1) := by decide +kernel
theorem dX9_digest_51 : decode cX9_digest 51 = .ok (.invokevirtual 316, 3) := by decide +kernel
theorem dX9_digest_54 : decode cX9_digest 54 = .ok (.lstore_n 1, 1) := by decide +kernel
theorem dX9_digest_55 : decode cX9_digest 55 = .ok (.aload_n 0, 1) := by decide +kernel
theorem dX9_digest_56 : decode cX9_digest 56 = .ok (.getfield 26, 3) := by decide +kernel
theorem dX9_digest_59 : decode cX9_digest 59 = .ok (.getfield 140, 3) := by decide +kernel
theorem dX9_digest_62 : decode cX9_digest 62 = .ok (.lload_n 1, 1) := by decide +kernel
theorem dX9_digest_63 : decode cX9_digest 63 = .ok (.invokevirtual 316, 3) := by decide +kernel
theorem dX9_digest_66 : decode cX9_digest 66 = .ok (.lstore_n 1, 1) := by decide +kernel
theorem dX9_digest_67 : decode cX9_digest 67 = .ok (.aload_n 0, 1) := by decide +kernel
theorem dX9_digest_68 : decode cX9_digest 68 = .ok (.getfield 26, 3) := by decide +kernel
theorem dX9_digest_71 : decode cX9_digest 71 = .ok (.getfield 261, 3) := by decide +kernel
theorem dX9_digest_74 : decode cX9_digest 74 = .ok (.lload_n 1, 1) := by decide +kernel
theorem dX9_digest_75 : decode cX9_digest 75 = .ok (.invokevirtual 316, 3) := by decide +kernel
theorem dX9_digest_78 : decode cX9_digest 78 = .ok (.lstore_n 1, 1) := by decide +kernel
theorem dX9_digest_79 : decode cX9_digest 79 = .ok (.iconst 0, 1) := by decide +kernel
theorem dX9_digest_80 : decode cX9_digest 80 = .ok (.istore_n 3, 1) := by decide +kernel
theorem dX9_digest_81 : decode cX9_digest 81 = .ok (.iload_n 3, 1) := by decide +kernel
theorem dX9_digest_82 : decode cX9_digest 82 = .ok (.iconst 4, 1) := by decide +kernel
theorem dX9_digest_83 : decode cX9_digest 83 = .ok (.if_icmp .ge 25, 3) := by decide +kernel
theorem dX9_digest_86 : decode cX9_digest 86 = .ok (.ldc2_w 314, 3) := by decide +kernel
theorem dX9_digest_89 : decode cX9_digest 89 = .ok (.lload_n 1, 1) := by decide +kernel
theorem dX9_digest_90 : decode cX9_digest 90 = .ok (.lmul, 1) := by decide +kernel
theorem dX9_digest_91 : decode cX9_digest 91 = .ok (.aload_n 0, 1) := by decide +kernel
theorem dX9_digest_92 : decode cX9_digest 92 = .ok (.getfield 26, 3) := by decide +kernel
theorem dX9_digest_95 : decode cX9_digest 95 = .ok (.iload_n 3, 1) := by decide +kernel
theorem dX9_digest_96 : decode cX9_digest 96 = .ok (.invokevirtual 244, 3) := by decide +kernel
theorem dX9_digest_99 : decode cX9_digest 99 = .ok (.i2l, 1) := by decide +kernel
theorem dX9_digest_100 : decode cX9_digest 100 = .ok (.ladd, 1) := by decide +kernel
theorem dX9_digest_101 : decode cX9_digest 101 = .ok (.lstore_n 1, 1) := by decide +kernel
theorem dX9_digest_102 : decode cX9_digest 102 = .ok (.iinc 3 1, 3) := by decide +kernel
theorem dX9_digest_105 : decode cX9_digest 105 = .ok (.goto (-24), 3) := by decide +kernel
theorem dX9_digest_108 : decode cX9_digest 108 = .ok (.ldc2_w 314, 3) := by decide +kernel
theorem dX9_digest_111 : decode cX9_digest 111 = .ok (.lload_n 1, 1) := by decide +kernel
theorem dX9_digest_112 : decode cX9_digest 112 = .ok (.lmul, 1) := by decide +kernel
theorem dX9_digest_113 : decode cX9_digest 113 = .ok (.aload_n 0, 1) := by decide +kernel
theorem dX9_digest_114 : decode cX9_digest 114 = .ok (.getfield 65, 3) := by decide +kernel
theorem dX9_digest_117 : decode cX9_digest 117 = .ok (.getfield 282, 3) := by decide +kernel
theorem dX9_digest_120 : decode cX9_digest 120 = .ok (.ladd, 1) := by decide +kernel
theorem dX9_digest_121 : decode cX9_digest 121 = .ok (.lstore_n 1, 1) := by decide +kernel
theorem dX9_digest_122 : decode cX9_digest 122 = .ok (.ldc2_w 314, 3) := by decide +kernel
theorem dX9_digest_125 : decode cX9_digest 125 = .ok (.lload_n 1, 1) := by decide +kernel
theorem dX9_digest_126 : decode cX9_digest 126 = .ok (.lmul, 1) := by decide +kernel
theorem dX9_digest_127 : decode cX9_digest 127 = .ok (.aload_n 0, 1) := by decide +kernel
theorem dX9_digest_128 : decode cX9_digest 128 = .ok (.getfield 65, 3) := by decide +kernel
theorem dX9_digest_131 : decode cX9_digest 131 = .ok (.getfield 286, 3) := by decide +kernel
theorem dX9_digest_134 : decode cX9_digest 134 = .ok (.ladd, 1) := by decide +kernel
theorem dX9_digest_135 : decode cX9_digest 135 = .ok (.lreturn, 1) := by decide +kernel
theorem dX9_howMany_0 : decode cX9_howMany 0 = .ok (.iload_n 1, 1) := by decide +kernel
theorem dX9_howMany_1 : decode cX9_howMany 1 = .ok (.tableswitch 99 0 5 #[39, 50, 61, 72, 83, 91], 39) := by decide +kernel
theorem dX9_howMany_40 : decode cX9_howMany 40 = .ok (.aload_n 0, 1) := by decide +kernel
theorem dX9_howMany_41 : decode cX9_howMany 41 = .ok (.getfield 26, 3) := by decide +kernel
theorem dX9_howMany_44 : decode cX9_howMany 44 = .ok (.getfield 87, 3) := by decide +kernel
theorem dX9_howMany_47 : decode cX9_howMany 47 = .ok (.getfield 91, 3) := by decide +kernel
theorem dX9_howMany_50 : decode cX9_howMany 50 = .ok (.ireturn, 1) := by decide +kernel
theorem dX9_howMany_51 : decode cX9_howMany 51 = .ok (.aload_n 0, 1) := by decide +kernel
theorem dX9_howMany_52 : decode cX9_howMany 52 = .ok (.getfield 26, 3) := by decide +kernel
theorem dX9_howMany_55 : decode cX9_howMany 55 = .ok (.getfield 122, 3) := by decide +kernel
theorem dX9_howMany_58 : decode cX9_howMany 58 = .ok (.getfield 91, 3) := by decide +kernel
theorem dX9_howMany_61 : decode cX9_howMany 61 = .ok (.ireturn, 1) := by decide +kernel
theorem dX9_howMany_62 : decode cX9_howMany 62 = .ok (.aload_n 0, 1) := by decide +kernel
theorem dX9_howMany_63 : decode cX9_howMany 63 = .ok (.getfield 26, 3) := by decide +kernel
theorem dX9_howMany_66 : decode cX9_howMany 66 = .ok (.getfield 140, 3) := by decide +kernel
theorem dX9_howMany_69 : decode cX9_howMany 69 = .ok (.getfield 91, 3) := by decide +kernel
theorem dX9_howMany_72 : decode cX9_howMany 72 = .ok (.ireturn, 1) := by decide +kernel
theorem dX9_howMany_73 : decode cX9_howMany 73 = .ok (.aload_n 0, 1) := by decide +kernel
theorem dX9_howMany_74 : decode cX9_howMany 74 = .ok (.getfield 26, 3) := by decide +kernel
theorem dX9_howMany_77 : decode cX9_howMany 77 = .ok (.getfield 261, 3) := by decide +kernel
theorem dX9_howMany_80 : decode cX9_howMany 80 = .ok (.getfield 91, 3) := by decide +kernel
theorem dX9_howMany_83 : decode cX9_howMany 83 = .ok (.ireturn, 1) := by decide +kernel
theorem dX9_howMany_84 : decode cX9_howMany 84 = .ok (.aload_n 0, 1) := by decide +kernel
theorem dX9_howMany_85 : decode cX9_howMany 85 = .ok (.getfield 26, 3) := by decide +kernel
theorem dX9_howMany_88 : decode cX9_howMany 88 = .ok (.getfield 187, 3) := by decide +kernel
theorem dX9_howMany_91 : decode cX9_howMany 91 = .ok (.ireturn, 1) := by decide +kernel
theorem dX9_howMany_92 : decode cX9_howMany 92 = .ok (.aload_n 0, 1) := by decide +kernel
theorem dX9_howMany_93 : decode cX9_howMany 93 = .ok (.getfield 10, 3) := by decide +kernel
theorem dX9_howMany_96 : decode cX9_howMany 96 = .ok (.getfield 97, 3) := by decide +kernel
theorem dX9_howMany_99 : decode cX9_howMany 99 = .ok (.ireturn, 1) := by decide +kernel
theorem dX9_howMany_100 : decode cX9_howMany 100 = .ok (.aload_n 0, 1) := by decide +kernel
theorem dX9_howMany_101 : decode cX9_howMany 101 = .ok (.getfield 40, 3) := by decide +kernel
theorem dX9_howMany_104 : decode cX9_howMany 104 = .ok (.getfield 150, 3) := by decide +kernel
theorem dX9_howMany_107 : decode cX9_howMany 107 = .ok (.ireturn, 1) := by decide +kernel
theorem dX9_imageAt_0 : decode cX9_imageAt 0 = .ok (.iload_n 1, 1) := by decide +kernel
theorem dX9_imageAt_1 : decode cX9_imageAt 1 = .ok (.ifCond .ne 10, 3) := by decide +kernel
theorem dX9_imageAt_4 : decode cX9_imageAt 4 = .ok (.aload_n 0, 1) := by decide +kernel
theorem dX9_imageAt_5 : decode cX9_imageAt 5 = .ok (.getfield 16, 3) := by decide +kernel
theorem dX9_imageAt_8 : decode cX9_imageAt 8 = .ok (.goto 7, 3) := by decide +kernel
theorem dX9_imageAt_11 : decode cX9_imageAt 11 = .ok (.aload_n 0, 1) := by decide +kernel
theorem dX9_imageAt_12 : decode cX9_imageAt 12 = .ok (.getfield 19, 3) := by decide +kernel
theorem dX9_imageAt_15 : decode cX9_imageAt 15 = .ok (.areturn, 1) := by decide +kernel
theorem dX9_findRing_0 : decode cX9_findRing 0 = .ok (.aload_n 0, 1) := by decide +kernel
theorem dX9_findRing_1 : decode cX9_findRing 1 = .ok (.getfield 44, 3) := by decide +kernel
theorem dX9_findRing_4 : decode cX9_findRing 4 = .ok (.aload_n 0, 1) := by decide +kernel
theorem dX9_findRing_5 : decode cX9_findRing 5 = .ok (.getfield 26, 3) := by decide +kernel
theorem dX9_findRing_8 : decode cX9_findRing 8 = .ok (.aload_n 0, 1) := by decide +kernel
theorem dX9_findRing_9 : decode cX9_findRing 9 = .ok (.getfield 26, 3) := by decide +kernel
theorem dX9_findRing_12 : decode cX9_findRing 12 = .ok (.getfield 187, 3) := by decide +kernel
theorem dX9_findRing_15 : decode cX9_findRing 15 = .ok (.invokevirtual 199, 3) := by decide +kernel
theorem dX9_findRing_18 : decode cX9_findRing 18 = .ok (.aload_n 0, 1) := by decide +kernel
theorem dX9_findRing_19 : decode cX9_findRing 19 = .ok (.getfield 51, 3) := by decide +kernel
theorem dX9_findRing_22 : decode cX9_findRing 22 = .ok (.aload_n 0, 1) := by decide +kernel
theorem dX9_findRing_23 : decode cX9_findRing 23 = .ok (.getfield 44, 3) := by decide +kernel
theorem dX9_findRing_26 : decode cX9_findRing 26 = .ok (.invokevirtual 320, 3) := by decide +kernel
theorem dX9_findRing_29 : decode cX9_findRing 29 = .ok (.return_, 1) := by decide +kernel
theorem dX9_bad_0 : decode cX9_bad 0 = .ok (.aload_n 0, 1) := by decide +kernel
theorem dX9_bad_1 : decode cX9_bad 1 = .ok (.dup, 1) := by decide +kernel
theorem dX9_bad_2 : decode cX9_bad 2 = .ok (.getfield 300, 3) := by decide +kernel
theorem dX9_bad_5 : decode cX9_bad 5 = .ok (.iconst 1, 1) := by decide +kernel
theorem dX9_bad_6 : decode cX9_bad 6 = .ok (.iadd, 1) := by decide +kernel
theorem dX9_bad_7 : decode cX9_bad 7 = .ok (.putfield 300, 3) := by decide +kernel
theorem dX9_bad_10 : decode cX9_bad 10 = .ok (.iload_n 1, 1) := by decide +kernel
theorem dX9_bad_11 : decode cX9_bad 11 = .ok (.ireturn, 1) := by decide +kernel
theorem dX9_no_0 : decode cX9_no 0 = .ok (.aload_n 0, 1) := by decide +kernel
theorem dX9_no_1 : decode cX9_no 1 = .ok (.dup, 1) := by decide +kernel
theorem dX9_no_2 : decode cX9_no 2 = .ok (.getfield 303, 3) := by decide +kernel
theorem dX9_no_5 : decode cX9_no 5 = .ok (.iconst 1, 1) := by decide +kernel
theorem dX9_no_6 : decode cX9_no 6 = .ok (.iadd, 1) := by decide +kernel
theorem dX9_no_7 : decode cX9_no 7 = .ok (.putfield 303, 3) := by decide +kernel
theorem dX9_no_10 : decode cX9_no 10 = .ok (.iload_n 1, 1) := by decide +kernel
theorem dX9_no_11 : decode cX9_no 11 = .ok (.ireturn, 1) := by decide +kernel
theorem dX9_full_0 : decode cX9_full 0 = .ok (.aload_n 0, 1) := by decide +kernel
theorem dX9_full_1 : decode cX9_full 1 = .ok (.dup, 1) := by decide +kernel
theorem dX9_full_2 : decode cX9_full 2 = .ok (.getfield 306, 3) := by decide +kernel
theorem dX9_full_5 : decode cX9_full 5 = .ok (.iconst 1, 1) := by decide +kernel
theorem dX9_full_6 : decode cX9_full 6 = .ok (.iadd, 1) := by decide +kernel
theorem dX9_full_7 : decode cX9_full 7 = .ok (.putfield 306, 3) := by decide +kernel
theorem dX9_full_10 : decode cX9_full 10 = .ok (.bipush (-4), 2) := by decide +kernel
theorem dX9_full_12 : decode cX9_full 12 = .ok (.ireturn, 1) := by decide +kernel
theorem dX9_isDayToCome_0 : decode cX9_isDayToCome 0 = .ok (.iload_n 1, 1) := by decide +kernel
theorem dX9_isDayToCome_1 : decode cX9_isDayToCome 1 = .ok (.aload_n 0, 1) := by decide +kernel
theorem dX9_isDayToCome_2 : decode cX9_isDayToCome 2 = .ok (.getfield 26, 3) := by decide +kernel
theorem dX9_isDayToCome_5 : decode cX9_isDayToCome 5 = .ok (.getfield 187, 3) := by decide +kernel
theorem dX9_isDayToCome_8 : decode cX9_isDayToCome 8 = .ok (.bipush 99, 2) := by decide +kernel
theorem dX9_isDayToCome_10 : decode cX9_isDayToCome 10 = .ok (.invokestatic 79, 3) := by decide +kernel
theorem dX9_isDayToCome_13 : decode cX9_isDayToCome 13 = .ok (.ireturn, 1) := by decide +kernel
theorem dX9_isDay_0 : decode cX9_isDay 0 = .ok (.iload_n 0, 1) := by decide +kernel
theorem dX9_isDay_1 : decode cX9_isDay 1 = .ok (.iconst 0, 1) := by decide +kernel
theorem dX9_isDay_2 : decode cX9_isDay 2 = .ok (.bipush 99, 2) := by decide +kernel
theorem dX9_isDay_4 : decode cX9_isDay 4 = .ok (.invokestatic 79, 3) := by decide +kernel
theorem dX9_isDay_7 : decode cX9_isDay 7 = .ok (.ireturn, 1) := by decide +kernel
theorem dX9_isThing_0 : decode cX9_isThing 0 = .ok (.iload_n 0, 1) := by decide +kernel
theorem dX9_isThing_1 : decode cX9_isThing 1 = .ok (.iconst 0, 1) := by decide +kernel
theorem dX9_isThing_2 : decode cX9_isThing 2 = .ok (.iconst 3, 1) := by decide +kernel
theorem dX9_isThing_3 : decode cX9_isThing 3 = .ok (.invokestatic 79, 3) := by decide +kernel
theorem dX9_isThing_6 : decode cX9_isThing 6 = .ok (.ireturn, 1) := by decide +kernel
theorem dX9_isWithin_0 : decode cX9_isWithin 0 = .ok (.iload_n 0, 1) := by decide +kernel
theorem dX9_isWithin_1 : decode cX9_isWithin 1 = .ok (.iload_n 1, 1) := by decide +kernel
theorem dX9_isWithin_2 : decode cX9_isWithin 2 = .ok (.if_icmp .lt 12, 3) := by decide +kernel
theorem dX9_isWithin_5 : decode cX9_isWithin 5 = .ok (.iload_n 0, 1) := by decide +kernel
theorem dX9_isWithin_6 : decode cX9_isWithin 6 = .ok (.iload_n 2, 1) := by decide +kernel
theorem dX9_isWithin_7 : decode cX9_isWithin 7 = .ok (.if_icmp .gt 7, 3) := by decide +kernel
theorem dX9_isWithin_10 : decode cX9_isWithin 10 = .ok (.iconst 1, 1) := by decide +kernel
theorem dX9_isWithin_11 : decode cX9_isWithin 11 = .ok (.goto 4, 3) := by decide +kernel
theorem dX9_isWithin_14 : decode cX9_isWithin 14 = .ok (.iconst 0, 1) := by decide +kernel
theorem dX9_isWithin_15 : decode cX9_isWithin 15 = .ok (.ireturn, 1) := by decide +kernel
theorem dX9_heldRate_0 : decode cX9_heldRate 0 = .ok (.iconst 1, 1) := by decide +kernel
theorem dX9_heldRate_1 : decode cX9_heldRate 1 = .ok (.bipush 99, 2) := by decide +kernel
theorem dX9_heldRate_3 : decode cX9_heldRate 3 = .ok (.iload_n 0, 1) := by decide +kernel
theorem dX9_heldRate_4 : decode cX9_heldRate 4 = .ok (.invokestatic 324, 3) := by decide +kernel
theorem dX9_heldRate_7 : decode cX9_heldRate 7 = .ok (.invokestatic 256, 3) := by decide +kernel
theorem dX9_heldRate_10 : decode cX9_heldRate 10 = .ok (.ireturn, 1) := by decide +kernel
theorem dX9_lastChange_0 : decode cX9_lastChange 0 = .ok (.iconst 0, 1) := by decide +kernel
theorem dX9_lastChange_1 : decode cX9_lastChange 1 = .ok (.istore_n 2, 1) := by decide +kernel
theorem dX9_lastChange_2 : decode cX9_lastChange 2 = .ok (.iload_n 2, 1) := by decide +kernel
theorem dX9_lastChange_3 : decode cX9_lastChange 3 = .ok (.bipush 99, 2) := by decide +kernel
theorem dX9_lastChange_5 : decode cX9_lastChange 5 = .ok (.if_icmp .gt 32, 3) := by decide +kernel
theorem dX9_lastChange_8 : decode cX9_lastChange 8 = .ok (.iload_n 0, 1) := by decide +kernel
theorem dX9_lastChange_9 : decode cX9_lastChange 9 = .ok (.iload_n 2, 1) := by decide +kernel
theorem dX9_lastChange_10 : decode cX9_lastChange 10 = .ok (.iload_n 1, 1) := by decide +kernel
theorem dX9_lastChange_11 : decode cX9_lastChange 11 = .ok (.imul, 1) := by decide +kernel
theorem dX9_lastChange_12 : decode cX9_lastChange 12 = .ok (.iadd, 1) := by decide +kernel
theorem dX9_lastChange_13 : decode cX9_lastChange 13 = .ok (.invokestatic 250, 3) := by decide +kernel
theorem dX9_lastChange_16 : decode cX9_lastChange 16 = .ok (.iload_n 0, 1) := by decide +kernel
theorem dX9_lastChange_17 : decode cX9_lastChange 17 = .ok (.iload_n 2, 1) := by decide +kernel
theorem dX9_lastChange_18 : decode cX9_lastChange 18 = .ok (.iconst 1, 1) := by decide +kernel
theorem dX9_lastChange_19 : decode cX9_lastChange 19 = .ok (.iadd, 1) := by decide +kernel
theorem dX9_lastChange_20 : decode cX9_lastChange 20 = .ok (.iload_n 1, 1) := by decide +kernel
theorem dX9_lastChange_21 : decode cX9_lastChange 21 = .ok (.imul, 1) := by decide +kernel
theorem dX9_lastChange_22 : decode cX9_lastChange 22 = .ok (.iadd, 1) := by decide +kernel
theorem dX9_lastChange_23 : decode cX9_lastChange 23 = .ok (.invokestatic 250, 3) := by decide +kernel
theorem dX9_lastChange_26 : decode cX9_lastChange 26 = .ok (.if_icmp .ne 5, 3) := by decide +kernel
theorem dX9_lastChange_29 : decode cX9_lastChange 29 = .ok (.iload_n 2, 1) := by decide +kernel
theorem dX9_lastChange_30 : decode cX9_lastChange 30 = .ok (.ireturn, 1) := by decide +kernel
theorem dX9_lastChange_31 : decode cX9_lastChange 31 = .ok (.iinc 2 1, 3) := by decide +kernel
theorem dX9_lastChange_34 : decode cX9_lastChange 34 = .ok (.goto (-32), 3) := by decide +kernel
theorem dX9_lastChange_37 : decode cX9_lastChange 37 = .ok (.iconst (-1), 1) := by decide +kernel
theorem dX9_lastChange_38 : decode cX9_lastChange 38 = .ok (.ireturn, 1) := by decide +kernel
theorem dX9_power_0 : decode cX9_power 0 = .ok (.lconst 1, 1) := by decide +kernel
theorem dX9_power_1 : decode cX9_power 1 = .ok (.lstore_n 2, 1) := by decide +kernel
theorem dX9_power_2 : decode cX9_power 2 = .ok (.iconst 0, 1) := by decide +kernel
theorem dX9_power_3 : decode cX9_power 3 = .ok (.istore 4, 2) := by decide +kernel
theorem dX9_power_5 : decode cX9_power 5 = .ok (.iload 4, 2) := by decide +kernel
theorem dX9_power_7 : decode cX9_power 7 = .ok (.iload_n 1, 1) := by decide +kernel
theorem dX9_power_8 : decode cX9_power 8 = .ok (.if_icmp .ge 14, 3) := by decide +kernel
theorem dX9_power_11 : decode cX9_power 11 = .ok (.lload_n 2, 1) := by decide +kernel
theorem dX9_power_12 : decode cX9_power 12 = .ok (.iload_n 0, 1) := by decide +kernel
theorem dX9_power_13 : decode cX9_power 13 = .ok (.i2l, 1) := by decide +kernel
theorem dX9_power_14 : decode cX9_power 14 = .ok (.lmul, 1) := by decide +kernel
theorem dX9_power_15 : decode cX9_power 15 = .ok (.lstore_n 2, 1) := by decide +kernel
theorem dX9_power_16 : decode cX9_power 16 = .ok (.iinc 4 1, 3) := by decide +kernel
theorem dX9_power_19 : decode cX9_power 19 = .ok (.goto (-14), 3) := by decide +kernel
theorem dX9_power_22 : decode cX9_power 22 = .ok (.lload_n 2, 1) := by decide +kernel
theorem dX9_power_23 : decode cX9_power 23 = .ok (.lreturn, 1) := by decide +kernel
theorem dX9_choices_0 : decode cX9_choices 0 = .ok (.lconst 1, 1) := by decide +kernel
theorem dX9_choices_1 : decode cX9_choices 1 = .ok (.lstore_n 2, 1) := by decide +kernel
theorem dX9_choices_2 : decode cX9_choices 2 = .ok (.iconst 1, 1) := by decide +kernel
theorem dX9_choices_3 : decode cX9_choices 3 = .ok (.istore 4, 2) := by decide +kernel
theorem dX9_choices_5 : decode cX9_choices 5 = .ok (.iload 4, 2) := by decide +kernel
theorem dX9_choices_7 : decode cX9_choices 7 = .ok (.iload_n 1, 1) := by decide +kernel
theorem dX9_choices_8 : decode cX9_choices 8 = .ok (.if_icmp .gt 23, 3) := by decide +kernel
theorem dX9_choices_11 : decode cX9_choices 11 = .ok (.lload_n 2, 1) := by decide +kernel
theorem dX9_choices_12 : decode cX9_choices 12 = .ok (.iload_n 0, 1) := by decide +kernel
theorem dX9_choices_13 : decode cX9_choices 13 = .ok (.iload_n 1, 1) := by decide +kernel
theorem dX9_choices_14 : decode cX9_choices 14 = .ok (.isub, 1) := by decide +kernel
theorem dX9_choices_15 : decode cX9_choices 15 = .ok (.iload 4, 2) := by decide +kernel
theorem dX9_choices_17 : decode cX9_choices 17 = .ok (.iadd, 1) := by decide +kernel
theorem dX9_choices_18 : decode cX9_choices 18 = .ok (.i2l, 1) := by decide +kernel
theorem dX9_choices_19 : decode cX9_choices 19 = .ok (.lmul, 1) := by decide +kernel
theorem dX9_choices_20 : decode cX9_choices 20 = .ok (.iload 4, 2) := by decide +kernel
theorem dX9_choices_22 : decode cX9_choices 22 = .ok (.i2l, 1) := by decide +kernel
theorem dX9_choices_23 : decode cX9_choices 23 = .ok (.ldiv, 1) := by decide +kernel
theorem dX9_choices_24 : decode cX9_choices 24 = .ok (.lstore_n 2, 1) := by decide +kernel
theorem dX9_choices_25 : decode cX9_choices 25 = .ok (.iinc 4 1, 3) := by decide +kernel
theorem dX9_choices_28 : decode cX9_choices 28 = .ok (.goto (-23), 3) := by decide +kernel
theorem dX9_choices_31 : decode cX9_choices 31 = .ok (.lload_n 2, 1) := by decide +kernel
theorem dX9_choices_32 : decode cX9_choices 32 = .ok (.lreturn, 1) := by decide +kernel
theorem dX10_init_0 : decode cX10_init 0 = .ok (.aload_n 0, 1) := by decide +kernel
theorem dX10_init_1 : decode cX10_init 1 = .ok (.invokespecial 1, 3) := by decide +kernel
theorem dX10_init_4 : decode cX10_init 4 = .ok (.aload_n 0, 1) := by decide +kernel
theorem dX10_init_5 : decode cX10_init 5 = .ok (.sipush 484, 3) := by decide +kernel
theorem dX10_init_8 : decode cX10_init 8 = .ok (.newarray .int, 2) := by decide +kernel
theorem dX10_init_10 : decode cX10_init 10 = .ok (.putfield 7, 3) := by decide +kernel
theorem dX10_init_13 : decode cX10_init 13 = .ok (.aload_n 0, 1) := by decide +kernel
theorem dX10_init_14 : decode cX10_init 14 = .ok (.sipush 968, 3) := by decide +kernel
theorem dX10_init_17 : decode cX10_init 17 = .ok (.newarray .int, 2) := by decide +kernel
theorem dX10_init_19 : decode cX10_init 19 = .ok (.putfield 13, 3) := by decide +kernel
theorem dX10_init_22 : decode cX10_init 22 = .ok (.aload_n 0, 1) := by decide +kernel
theorem dX10_init_23 : decode cX10_init 23 = .ok (.iconst 2, 1) := by decide +kernel
theorem dX10_init_24 : decode cX10_init 24 = .ok (.newarray .boolean, 2) := by decide +kernel
theorem dX10_init_26 : decode cX10_init 26 = .ok (.putfield 16, 3) := by decide +kernel
theorem dX10_init_29 : decode cX10_init 29 = .ok (.aload_n 0, 1) := by decide +kernel
theorem dX10_init_30 : decode cX10_init 30 = .ok (.iconst 3, 1) := by decide +kernel
theorem dX10_init_31 : decode cX10_init 31 = .ok (.newarray .int, 2) := by decide +kernel
theorem dX10_init_33 : decode cX10_init 33 = .ok (.putfield 20, 3) := by decide +kernel
theorem dX10_init_36 : decode cX10_init 36 = .ok (.aload_n 0, 1) := by decide +kernel
theorem dX10_init_37 : decode cX10_init 37 = .ok (.lconst 1, 1) := by decide +kernel
theorem dX10_init_38 : decode cX10_init 38 = .ok (.putfield 23, 3) := by decide +kernel
theorem dX10_init_41 : decode cX10_init 41 = .ok (.aload_n 0, 1) := by decide +kernel
theorem dX10_init_42 : decode cX10_init 42 = .ok (.bipush 6, 2) := by decide +kernel
theorem dX10_init_44 : decode cX10_init 44 = .ok (.newarray .int, 2) := by decide +kernel
theorem dX10_init_46 : decode cX10_init 46 = .ok (.putfield 27, 3) := by decide +kernel
theorem dX10_init_49 : decode cX10_init 49 = .ok (.aload_n 0, 1) := by decide +kernel
theorem dX10_init_50 : decode cX10_init 50 = .ok (.bipush 64, 2) := by decide +kernel
theorem dX10_init_52 : decode cX10_init 52 = .ok (.newarray .int, 2) := by decide +kernel
theorem dX10_init_54 : decode cX10_init 54 = .ok (.putfield 30, 3) := by decide +kernel
theorem dX10_init_57 : decode cX10_init 57 = .ok (.aload_n 0, 1) := by decide +kernel
theorem dX10_init_58 : decode cX10_init 58 = .ok (.bipush 64, 2) := by decide +kernel
theorem dX10_init_60 : decode cX10_init 60 = .ok (.newarray .int, 2) := by decide +kernel
theorem dX10_init_62 : decode cX10_init 62 = .ok (.putfield 33, 3) := by decide +kernel
theorem dX10_init_65 : decode cX10_init 65 = .ok (.aload_n 0, 1) := by decide +kernel
theorem dX10_init_66 : decode cX10_init 66 = .ok (.iconst 5, 1) := by decide +kernel
theorem dX10_init_67 : decode cX10_init 67 = .ok (.newarray .int, 2) := by decide +kernel
theorem dX10_init_69 : decode cX10_init 69 = .ok (.putfield 36, 3) := by decide +kernel
theorem dX10_init_72 : decode cX10_init 72 = .ok (.aload_n 0, 1) := by decide +kernel
theorem dX10_init_73 : decode cX10_init 73 = .ok (.iconst 5, 1) := by decide +kernel
theorem dX10_init_74 : decode cX10_init 74 = .ok (.newarray .int, 2) := by decide +kernel
theorem dX10_init_76 : decode cX10_init 76 = .ok (.putfield 39, 3) := by decide +kernel
theorem dX10_init_79 : decode cX10_init 79 = .ok (.aload_n 0, 1) := by decide +kernel
theorem dX10_init_80 : decode cX10_init 80 = .ok (.iconst 4, 1) := by decide +kernel
theorem dX10_init_81 : decode cX10_init 81 = .ok (.newarray .int, 2) := by decide +kernel
theorem dX10_init_83 : decode cX10_init 83 = .ok (.putfield 42, 3) := by decide +kernel
theorem dX10_init_86 : decode cX10_init 86 = .ok (.aload_n 0, 1) := by decide +kernel
theorem dX10_init_87 : decode cX10_init 87 = .ok (.bipush 12, 2) := by decide +kernel
theorem dX10_init_89 : decode cX10_init 89 = .ok (.newarray .int, 2) := by decide +kernel
theorem dX10_init_91 : decode cX10_init 91 = .ok (.putfield 45, 3) := by decide +kernel
theorem dX10_init_94 : decode cX10_init 94 = .ok (.aload_n 0, 1) := by decide +kernel
theorem dX10_init_95 : decode cX10_init 95 = .ok (.sipush 250, 3) := by decide +kernel
theorem dX10_init_98 : decode cX10_init 98 = .ok (.newarray .int, 2) := by decide +kernel
theorem dX10_init_100 : decode cX10_init 100 = .ok (.putfield 48, 3) := by decide +kernel
theorem dX10_init_103 : decode cX10_init 103 = .ok (.aload_n 0, 1) := by decide +kernel
theorem dX10_init_104 : decode cX10_init 104 = .ok (.sipush 161, 3) := by decide +kernel
theorem dX10_init_107 : decode cX10_init 107 = .ok (.newarray .int, 2) := by decide +kernel
theorem dX10_init_109 : decode cX10_init 109 = .ok (.putfield 51, 3) := by decide +kernel
theorem dX10_init_112 : decode cX10_init 112 = .ok (.aload_n 0, 1) := by decide +kernel
theorem dX10_init_113 : decode cX10_init 113 = .ok (.bipush 6, 2) := by decide +kernel
theorem dX10_init_115 : decode cX10_init 115 = .ok (.newarray .int, 2) := by decide +kernel
theorem dX10_init_117 : decode cX10_init 117 = .ok (.putfield 54, 3) := by decide +kernel
theorem dX10_init_120 : decode cX10_init 120 = .ok (.iconst 0, 1) := by decide +kernel
theorem dX10_init_121 : decode cX10_init 121 = .ok (.istore_n 1, 1) := by decide +kernel
theorem dX10_init_122 : decode cX10_init 122 = .ok (.iload_n 1, 1) := by decide +kernel
theorem dX10_init_123 : decode cX10_init 123 = .ok (.iconst 4, 1) := by decide +kernel
theorem dX10_init_124 : decode cX10_init 124 = .ok (.if_icmp .ge 21, 3) := by decide +kernel
theorem dX10_init_127 : decode cX10_init 127 = .ok (.aload_n 0, 1) := by decide +kernel
theorem dX10_init_128 : decode cX10_init 128 = .ok (.getfield 7, 3) := by decide +kernel
theorem dX10_init_131 : decode cX10_init 131 = .ok (.sipush 154, 3) := by decide +kernel
theorem dX10_init_134 : decode cX10_init 134 = .ok (.iload_n 1, 1) := by decide +kernel
theorem dX10_init_135 : decode cX10_init 135 = .ok (.iadd, 1) := by decide +kernel
theorem dX10_init_136 : decode cX10_init 136 = .ok (.bipush 10, 2) := by decide +kernel
theorem dX10_init_138 : decode cX10_init 138 = .ok (.iastore, 1) := by decide +kernel
theorem dX10_init_139 : decode cX10_init 139 = .ok (.iinc 1 1, 3) := by decide +kernel
theorem dX10_init_142 : decode cX10_init 142 = .ok (.goto (-20), 3) := by decide +kernel
theorem dX10_init_145 : decode cX10_init 145 = .ok (.aload_n 0, 1) := by decide +kernel
theorem dX10_init_146 : decode cX10_init 146 = .ok (.getfield 7, 3) := by decide +kernel
theorem dX10_init_149 : decode cX10_init 149 = .ok (.iconst 4, 1) := by decide +kernel
theorem dX10_init_150 : decode cX10_init 150 = .ok (.invokestatic 57, 3) := by decide +kernel
theorem dX10_init_153 : decode cX10_init 153 = .ok (.return_, 1) := by decide +kernel
theorem dX10_in_0 : decode cX10_in 0 = .ok (.lload_n 0, 1) := by decide +kernel
theorem dX10_in_1 : decode cX10_in 1 = .ok (.lload_n 2, 1) := by decide +kernel
theorem dX10_in_2 : decode cX10_in 2 = .ok (.lcmp, 1) := by decide +kernel
theorem dX10_in_3 : decode cX10_in 3 = .ok (.ifCond .lt 14, 3) := by decide +kernel
theorem dX10_in_6 : decode cX10_in 6 = .ok (.lload_n 0, 1) := by decide +kernel
theorem dX10_in_7 : decode cX10_in 7 = .ok (.lload 4, 2) := by decide +kernel
theorem dX10_in_9 : decode cX10_in 9 = .ok (.lcmp, 1) := by decide +kernel
theorem dX10_in_10 : decode cX10_in 10 = .ok (.ifCond .gt 7, 3) := by decide +kernel
theorem dX10_in_13 : decode cX10_in 13 = .ok (.iconst 1, 1) := by decide +kernel
theorem dX10_in_14 : decode cX10_in 14 = .ok (.goto 4, 3) := by decide +kernel
theorem dX10_in_17 : decode cX10_in 17 = .ok (.iconst 0, 1) := by decide +kernel
theorem dX10_in_18 : decode cX10_in 18 = .ok (.ireturn, 1) := by decide +kernel
theorem dX10_bad_0 : decode cX10_bad 0 = .ok (.aload_n 0, 1) := by decide +kernel
theorem dX10_bad_1 : decode cX10_bad 1 = .ok (.getfield 20, 3) := by decide +kernel
theorem dX10_bad_4 : decode cX10_bad 4 = .ok (.iconst 0, 1) := by decide +kernel
theorem dX10_bad_5 : decode cX10_bad 5 = .ok (.dup2, 1) := by decide +kernel
theorem dX10_bad_6 : decode cX10_bad 6 = .ok (.iaload, 1) := by decide +kernel
theorem dX10_bad_7 : decode cX10_bad 7 = .ok (.iconst 1, 1) := by decide +kernel
theorem dX10_bad_8 : decode cX10_bad 8 = .ok (.iadd, 1) := by decide +kernel
theorem dX10_bad_9 : decode cX10_bad 9 = .ok (.iastore, 1) := by decide +kernel
theorem dX10_bad_10 : decode cX10_bad 10 = .ok (.iload_n 1, 1) := by decide +kernel
theorem dX10_bad_11 : decode cX10_bad 11 = .ok (.ireturn, 1) := by decide +kernel
theorem dX10_no_0 : decode cX10_no 0 = .ok (.aload_n 0, 1) := by decide +kernel
theorem dX10_no_1 : decode cX10_no 1 = .ok (.getfield 20, 3) := by decide +kernel
theorem dX10_no_4 : decode cX10_no 4 = .ok (.iconst 1, 1) := by decide +kernel
theorem dX10_no_5 : decode cX10_no 5 = .ok (.dup2, 1) := by decide +kernel
theorem dX10_no_6 : decode cX10_no 6 = .ok (.iaload, 1) := by decide +kernel
theorem dX10_no_7 : decode cX10_no 7 = .ok (.iconst 1, 1) := by decide +kernel
theorem dX10_no_8 : decode cX10_no 8 = .ok (.iadd, 1) := by decide +kernel
theorem dX10_no_9 : decode cX10_no 9 = .ok (.iastore, 1) := by decide +kernel
theorem dX10_no_10 : decode cX10_no 10 = .ok (.iload_n 1, 1) := by decide +kernel
theorem dX10_no_11 : decode cX10_no 11 = .ok (.ireturn, 1) := by decide +kernel
theorem dX10_full_0 : decode cX10_full 0 = .ok (.aload_n 0, 1) := by decide +kernel
theorem dX10_full_1 : decode cX10_full 1 = .ok (.getfield 20, 3) := by decide +kernel
theorem dX10_full_4 : decode cX10_full 4 = .ok (.iconst 2, 1) := by decide +kernel
theorem dX10_full_5 : decode cX10_full 5 = .ok (.dup2, 1) := by decide +kernel
theorem dX10_full_6 : decode cX10_full 6 = .ok (.iaload, 1) := by decide +kernel
theorem dX10_full_7 : decode cX10_full 7 = .ok (.iconst 1, 1) := by decide +kernel
theorem dX10_full_8 : decode cX10_full 8 = .ok (.iadd, 1) := by decide +kernel
theorem dX10_full_9 : decode cX10_full 9 = .ok (.iastore, 1) := by decide +kernel
theorem dX10_full_10 : decode cX10_full 10 = .ok (.bipush (-4), 2) := by decide +kernel
theorem dX10_full_12 : decode cX10_full 12 = .ok (.ireturn, 1) := by decide +kernel
theorem dX10_tells_0 : decode cX10_tells 0 = .ok (.lload_n 1, 1) := by decide +kernel
theorem dX10_tells_1 : decode cX10_tells 1 = .ok (.lstore 5, 2) := by decide +kernel
theorem dX10_tells_3 : decode cX10_tells 3 = .ok (.lload_n 3, 1) := by decide +kernel
theorem dX10_tells_4 : decode cX10_tells 4 = .ok (.lstore 7, 2) := by decide +kernel
theorem dX10_tells_6 : decode cX10_tells 6 = .ok (.lload 7, 2) := by decide +kernel
theorem dX10_tells_8 : decode cX10_tells 8 = .ok (.lconst 0, 1) := by decide +kernel
theorem dX10_tells_9 : decode cX10_tells 9 = .ok (.lcmp, 1) := by decide +kernel
theorem dX10_tells_10 : decode cX10_tells 10 = .ok (.ifCond .eq 21, 3) := by decide +kernel
theorem dX10_tells_13 : decode cX10_tells 13 = .ok (.lload 5, 2) := by decide +kernel
theorem dX10_tells_15 : decode cX10_tells 15 = .ok (.lload 7, 2) := by decide +kernel
theorem dX10_tells_17 : decode cX10_tells 17 = .ok (.lrem, 1) := by decide +kernel
theorem dX10_tells_18 : decode cX10_tells 18 = .ok (.lstore 9, 2) := by decide +kernel
theorem dX10_tells_20 : decode cX10_tells 20 = .ok (.lload 7, 2) := by decide +kernel
theorem dX10_tells_22 : decode cX10_tells 22 = .ok (.lstore 5, 2) := by decide +kernel
theorem dX10_tells_24 : decode cX10_tells 24 = .ok (.lload 9, 2) := by decide +kernel
theorem dX10_tells_26 : decode cX10_tells 26 = .ok (.lstore 7, 2) := by decide +kernel
theorem dX10_tells_28 : decode cX10_tells 28 = .ok (.goto (-22), 3) := by decide +kernel
theorem dX10_tells_31 : decode cX10_tells 31 = .ok (.aload_n 0, 1) := by decide +kernel
theorem dX10_tells_32 : decode cX10_tells 32 = .ok (.lload_n 1, 1) := by decide +kernel
theorem dX10_tells_33 : decode cX10_tells 33 = .ok (.lload 5, 2) := by decide +kernel
theorem dX10_tells_35 : decode cX10_tells 35 = .ok (.ldiv, 1) := by decide +kernel
theorem dX10_tells_36 : decode cX10_tells 36 = .ok (.putfield 61, 3) := by decide +kernel
theorem dX10_tells_39 : decode cX10_tells 39 = .ok (.aload_n 0, 1) := by decide +kernel
theorem dX10_tells_40 : decode cX10_tells 40 = .ok (.lload_n 3, 1) := by decide +kernel
theorem dX10_tells_41 : decode cX10_tells 41 = .ok (.lload 5, 2) := by decide +kernel
theorem dX10_tells_43 : decode cX10_tells 43 = .ok (.ldiv, 1) := by decide +kernel
theorem dX10_tells_44 : decode cX10_tells 44 = .ok (.putfield 23, 3) := by decide +kernel
theorem dX10_tells_47 : decode cX10_tells 47 = .ok (.iconst 1, 1) := by decide +kernel
theorem dX10_tells_48 : decode cX10_tells 48 = .ok (.ireturn, 1) := by decide +kernel
theorem dX10_begin_0 : decode cX10_begin 0 = .ok (.aload_n 0, 1) := by decide +kernel
theorem dX10_begin_1 : decode cX10_begin 1 = .ok (.iconst 0, 1) := by decide +kernel
theorem dX10_begin_2 : decode cX10_begin 2 = .ok (.iconst 0, 1) := by decide +kernel
theorem dX10_begin_3 : decode cX10_begin 3 = .ok (.iastore, 1) := by decide +kernel
theorem dX10_begin_4 : decode cX10_begin 4 = .ok (.aload_n 0, 1) := by decide +kernel
theorem dX10_begin_5 : decode cX10_begin 5 = .ok (.iconst 1, 1) := by decide +kernel
theorem dX10_begin_6 : decode cX10_begin 6 = .ok (.iload_n 1, 1) := by decide +kernel
theorem dX10_begin_7 : decode cX10_begin 7 = .ok (.iastore, 1) := by decide +kernel
theorem dX10_begin_8 : decode cX10_begin 8 = .ok (.iconst 0, 1) := by decide +kernel
theorem dX10_begin_9 : decode cX10_begin 9 = .ok (.istore_n 2, 1) := by decide +kernel
theorem dX10_begin_10 : decode cX10_begin 10 = .ok (.iload_n 2, 1) := by decide +kernel
theorem dX10_begin_11 : decode cX10_begin 11 = .ok (.bipush 6, 2) := by decide +kernel
theorem dX10_begin_13 : decode cX10_begin 13 = .ok (.if_icmp .ge 23, 3) := by decide +kernel
theorem dX10_begin_16 : decode cX10_begin 16 = .ok (.aload_n 0, 1) := by decide +kernel
theorem dX10_begin_17 : decode cX10_begin 17 = .ok (.iconst 2, 1) := by decide +kernel
theorem dX10_begin_18 : decode cX10_begin 18 = .ok (.iload_n 2, 1) := by decide +kernel
theorem dX10_begin_19 : decode cX10_begin 19 = .ok (.iadd, 1) := by decide +kernel
theorem dX10_begin_20 : decode cX10_begin 20 = .ok (.bipush 20, 2) := by decide +kernel
theorem dX10_begin_22 : decode cX10_begin 22 = .ok (.iastore, 1) := by decide +kernel
theorem dX10_begin_23 : decode cX10_begin 23 = .ok (.aload_n 0, 1) := by decide +kernel
theorem dX10_begin_24 : decode cX10_begin 24 = .ok (.bipush 8, 2) := by decide +kernel
theorem dX10_begin_26 : decode cX10_begin 26 = .ok (.iload_n 2, 1) := by decide +kernel
theorem dX10_begin_27 : decode cX10_begin 27 = .ok (.iadd, 1) := by decide +kernel
theorem dX10_begin_28 : decode cX10_begin 28 = .ok (.iconst 0, 1) := by decide +kernel
theorem dX10_begin_29 : decode cX10_begin 29 = .ok (.iastore, 1) := by decide +kernel
theorem dX10_begin_30 : decode cX10_begin 30 = .ok (.iinc 2 1, 3) := by decide +kernel
theorem dX10_begin_33 : decode cX10_begin 33 = .ok (.goto (-23), 3) := by decide +kernel
theorem dX10_begin_36 : decode cX10_begin 36 = .ok (.aload_n 0, 1) := by decide +kernel
theorem dX10_begin_37 : decode cX10_begin 37 = .ok (.sipush 158, 3) := by decide +kernel
theorem dX10_begin_40 : decode cX10_begin 40 = .ok (.iconst 0, 1) := by decide +kernel
theorem dX10_begin_41 : decode cX10_begin 41 = .ok (.iastore, 1) := by decide +kernel
theorem dX10_begin_42 : decode cX10_begin 42 = .ok (.aload_n 0, 1) := by decide +kernel
theorem dX10_begin_43 : decode cX10_begin 43 = .ok (.sipush 159, 3) := by decide +kernel
theorem dX10_begin_46 : decode cX10_begin 46 = .ok (.iconst 0, 1) := by decide +kernel
theorem dX10_begin_47 : decode cX10_begin 47 = .ok (.iastore, 1) := by decide +kernel
theorem dX10_begin_48 : decode cX10_begin 48 = .ok (.aload_n 0, 1) := by decide +kernel
theorem dX10_begin_49 : decode cX10_begin 49 = .ok (.sipush 160, 3) := by decide +kernel
theorem dX10_begin_52 : decode cX10_begin 52 = .ok (.iconst 0, 1) := by decide +kernel
theorem dX10_begin_53 : decode cX10_begin 53 = .ok (.iastore, 1) := by decide +kernel
theorem dX10_begin_54 : decode cX10_begin 54 = .ok (.return_, 1) := by decide +kernel
theorem dX10_day_0 : decode cX10_day 0 = .ok (.aload_n 0, 1) := by decide +kernel
theorem dX10_day_1 : decode cX10_day 1 = .ok (.getfield 7, 3) := by decide +kernel
theorem dX10_day_4 : decode cX10_day 4 = .ok (.iconst 0, 1) := by decide +kernel
theorem dX10_day_5 : decode cX10_day 5 = .ok (.iaload, 1) := by decide +kernel
theorem dX10_day_6 : decode cX10_day 6 = .ok (.ireturn, 1) := by decide +kernel
theorem dX10_many_0 : decode cX10_many 0 = .ok (.aload_n 0, 1) := by decide +kernel
theorem dX10_many_1 : decode cX10_many 1 = .ok (.getfield 7, 3) := by decide +kernel
theorem dX10_many_4 : decode cX10_many 4 = .ok (.iconst 1, 1) := by decide +kernel
theorem dX10_many_5 : decode cX10_many 5 = .ok (.iaload, 1) := by decide +kernel
theorem dX10_many_6 : decode cX10_many 6 = .ok (.ireturn, 1) := by decide +kernel
theorem dX10_isOne_0 : decode cX10_isOne 0 = .ok (.iload_n 1, 1) := by decide +kernel
theorem dX10_isOne_1 : decode cX10_isOne 1 = .ok (.i2l, 1) := by decide +kernel
theorem dX10_isOne_2 : decode cX10_isOne 2 = .ok (.lconst 0, 1) := by decide +kernel
theorem dX10_isOne_3 : decode cX10_isOne 3 = .ok (.aload_n 0, 1) := by decide +kernel
theorem dX10_isOne_4 : decode cX10_isOne 4 = .ok (.invokevirtual 64, 3) := by decide +kernel
theorem dX10_isOne_7 : decode cX10_isOne 7 = .ok (.iconst 1, 1) := by decide +kernel
theorem dX10_isOne_8 : decode cX10_isOne 8 = .ok (.isub, 1) := by decide +kernel
theorem dX10_isOne_9 : decode cX10_isOne 9 = .ok (.i2l, 1) := by decide +kernel
theorem dX10_isOne_10 : decode cX10_isOne 10 = .ok (.invokestatic 68, 3) := by decide +kernel
theorem dX10_isOne_13 : decode cX10_isOne 13 = .ok (.ireturn, 1) := by decide +kernel
theorem dX10_isDay_0 : decode cX10_isDay 0 = .ok (.iload_n 0, 1) := by decide +kernel
theorem dX10_isDay_1 : decode cX10_isDay 1 = .ok (.i2l, 1) := by decide +kernel
theorem dX10_isDay_2 : decode cX10_isDay 2 = .ok (.lconst 0, 1) := by decide +kernel
theorem dX10_isDay_3 : decode cX10_isDay 3 = .ok (.ldc2_w 72, 3) := by decide +kernel
theorem dX10_isDay_6 : decode cX10_isDay 6 = .ok (.invokestatic 68, 3) := by decide +kernel
theorem dX10_isDay_9 : decode cX10_isDay 9 = .ok (.ireturn, 1) := by decide +kernel
theorem dX10_isThing_0 : decode cX10_isThing 0 = .ok (.iload_n 0, 1) := by decide +kernel
theorem dX10_isThing_1 : decode cX10_isThing 1 = .ok (.i2l, 1) := by decide +kernel
theorem dX10_isThing_2 : decode cX10_isThing 2 = .ok (.lconst 0, 1) := by decide +kernel
theorem dX10_isThing_3 : decode cX10_isThing 3 = .ok (.ldc2_w 74, 3) := by decide +kernel
theorem dX10_isThing_6 : decode cX10_isThing 6 = .ok (.invokestatic 68, 3) := by decide +kernel
theorem dX10_isThing_9 : decode cX10_isThing 9 = .ok (.ireturn, 1) := by decide +kernel
theorem dX10_isFavour_0 : decode cX10_isFavour 0 = .ok (.iload_n 1, 1) := by decide +kernel
theorem dX10_isFavour_1 : decode cX10_isFavour 1 = .ok (.i2l, 1) := by decide +kernel
theorem dX10_isFavour_2 : decode cX10_isFavour 2 = .ok (.lconst 0, 1) := by decide +kernel
theorem dX10_isFavour_3 : decode cX10_isFavour 3 = .ok (.aload_n 0, 1) := by decide +kernel
theorem dX10_isFavour_4 : decode cX10_isFavour 4 = .ok (.getfield 7, 3) := by decide +kernel
theorem dX10_isFavour_7 : decode cX10_isFavour 7 = .ok (.sipush 158, 3) := by decide +kernel
theorem dX10_isFavour_10 : decode cX10_isFavour 10 = .ok (.iaload, 1) := by decide +kernel
theorem dX10_isFavour_11 : decode cX10_isFavour 11 = .ok (.iconst 1, 1) := by decide +kernel
theorem dX10_isFavour_12 : decode cX10_isFavour 12 = .ok (.isub, 1) := by decide +kernel
theorem dX10_isFavour_13 : decode cX10_isFavour 13 = .ok (.i2l, 1) := by decide +kernel
theorem dX10_isFavour_14 : decode cX10_isFavour 14 = .ok (.invokestatic 68, 3) := by decide +kernel
theorem dX10_isFavour_17 : decode cX10_isFavour 17 = .ok (.ireturn, 1) := by decide +kernel
theorem dX10_told0_0 : decode cX10_told0 0 = .ok (.aload_n 0, 1) := by decide +kernel
theorem dX10_told0_1 : decode cX10_told0 1 = .ok (.getfield 7, 3) := by decide +kernel
theorem dX10_told0_4 : decode cX10_told0 4 = .ok (.bipush 14, 2) := by decide +kernel
theorem dX10_told0_6 : decode cX10_told0 6 = .ok (.bipush 7, 2) := by decide +kernel
theorem dX10_told0_8 : decode cX10_told0 8 = .ok (.iload_n 1, 1) := by decide +kernel
theorem dX10_told0_9 : decode cX10_told0 9 = .ok (.imul, 1) := by decide +kernel
theorem dX10_told0_10 : decode cX10_told0 10 = .ok (.iadd, 1) := by decide +kernel
theorem dX10_told0_11 : decode cX10_told0 11 = .ok (.iload_n 2, 1) := by decide +kernel
theorem dX10_told0_12 : decode cX10_told0 12 = .ok (.iadd, 1) := by decide +kernel
theorem dX10_told0_13 : decode cX10_told0 13 = .ok (.iaload, 1) := by decide +kernel
theorem dX10_told0_14 : decode cX10_told0 14 = .ok (.ireturn, 1) := by decide +kernel
theorem dX10_people_0 : decode cX10_people 0 = .ok (.iload_n 1, 1) := by decide +kernel
theorem dX10_people_1 : decode cX10_people 1 = .ok (.i2l, 1) := by decide +kernel
theorem dX10_people_2 : decode cX10_people 2 = .ok (.ldc2_w 76, 3) := by decide +kernel
theorem dX10_people_5 : decode cX10_people 5 = .ok (.ldc2_w 78, 3) := by decide +kernel
theorem dX10_people_8 : decode cX10_people 8 = .ok (.invokestatic 68, 3) := by decide +kernel
theorem dX10_people_11 : decode cX10_people 11 = .ok (.ifCond .ne 10, 3) := by decide +kernel
theorem dX10_people_14 : decode cX10_people 14 = .ok (.aload_n 0, 1) := by decide +kernel
theorem dX10_people_15 : decode cX10_people 15 = .ok (.bipush (-2), 2) := by decide +kernel
theorem dX10_people_17 : decode cX10_people 17 = .ok (.invokevirtual 80, 3) := by decide +kernel
theorem dX10_people_20 : decode cX10_people 20 = .ok (.ireturn, 1) := by decide +kernel
theorem dX10_people_21 : decode cX10_people 21 = .ok (.aload_n 0, 1) := by decide +kernel
theorem dX10_people_22 : decode cX10_people 22 = .ok (.invokevirtual 64, 3) := by decide +kernel
theorem dX10_people_25 : decode cX10_people 25 = .ok (.istore_n 2, 1) := by decide +kernel
theorem dX10_people_26 : decode cX10_people 26 = .ok (.aload_n 0, 1) := by decide +kernel
theorem dX10_people_27 : decode cX10_people 27 = .ok (.getfield 7, 3) := by decide +kernel
theorem dX10_people_30 : decode cX10_people 30 = .ok (.iload_n 1, 1) := by decide +kernel
theorem dX10_people_31 : decode cX10_people 31 = .ok (.invokestatic 57, 3) := by decide +kernel
theorem dX10_people_34 : decode cX10_people 34 = .ok (.aload_n 0, 1) := by decide +kernel
theorem dX10_people_35 : decode cX10_people 35 = .ok (.getfield 7, 3) := by decide +kernel
theorem dX10_people_38 : decode cX10_people 38 = .ok (.sipush 161, 3) := by decide +kernel
theorem dX10_people_41 : decode cX10_people 41 = .ok (.iconst 0, 1) := by decide +kernel
theorem dX10_people_42 : decode cX10_people 42 = .ok (.iastore, 1) := by decide +kernel
theorem dX10_people_43 : decode cX10_people 43 = .ok (.iload_n 2, 1) := by decide +kernel
theorem dX10_people_44 : decode cX10_people 44 = .ok (.ireturn, 1) := by decide +kernel
theorem dX10_strong_0 : decode cX10_strong 0 = .ok (.aload_n 0, 1) := by decide +kernel
theorem dX10_strong_1 : decode cX10_strong 1 = .ok (.iload_n 1, 1) := by decide +kernel
theorem dX10_strong_2 : decode cX10_strong 2 = .ok (.invokevirtual 84, 3) := by decide +kernel
theorem dX10_strong_5 : decode cX10_strong 5 = .ok (.ifCond .eq 15, 3) := by decide +kernel
theorem dX10_strong_8 : decode cX10_strong 8 = .ok (.iload_n 2, 1) := by decide +kernel
theorem dX10_strong_9 : decode cX10_strong 9 = .ok (.i2l, 1) := by decide +kernel
theorem dX10_strong_10 : decode cX10_strong 10 = .ok (.lconst 0, 1) := by decide +kernel
theorem dX10_strong_11 : decode cX10_strong 11 = .ok (.ldc2_w 72, 3) := by decide +kernel
theorem dX10_strong_14 : decode cX10_strong 14 = .ok (.invokestatic 68, 3) := by decide +kernel
theorem dX10_strong_17 : decode cX10_strong 17 = .ok (.ifCond .ne 10, 3) := by decide +kernel
theorem dX10_strong_20 : decode cX10_strong 20 = .ok (.aload_n 0, 1) := by decide +kernel
theorem dX10_strong_21 : decode cX10_strong 21 = .ok (.bipush (-2), 2) := by decide +kernel
theorem dX10_strong_23 : decode cX10_strong 23 = .ok (.invokevirtual 80, 3) := by decide +kernel
theorem dX10_strong_26 : decode cX10_strong 26 = .ok (.ireturn, 1) := by decide +kernel
theorem dX10_strong_27 : decode cX10_strong 27 = .ok (.aload_n 0, 1) := by decide +kernel
theorem dX10_strong_28 : decode cX10_strong 28 = .ok (.getfield 7, 3) := by decide +kernel
theorem dX10_strong_31 : decode cX10_strong 31 = .ok (.iconst 2, 1) := by decide +kernel
theorem dX10_strong_32 : decode cX10_strong 32 = .ok (.iload_n 1, 1) := by decide +kernel
theorem dX10_strong_33 : decode cX10_strong 33 = .ok (.iadd, 1) := by decide +kernel
theorem dX10_strong_34 : decode cX10_strong 34 = .ok (.iaload, 1) := by decide +kernel
theorem dX10_strong_35 : decode cX10_strong 35 = .ok (.istore_n 3, 1) := by decide +kernel
theorem dX10_strong_36 : decode cX10_strong 36 = .ok (.aload_n 0, 1) := by decide +kernel
theorem dX10_strong_37 : decode cX10_strong 37 = .ok (.getfield 7, 3) := by decide +kernel
theorem dX10_strong_40 : decode cX10_strong 40 = .ok (.iconst 2, 1) := by decide +kernel
theorem dX10_strong_41 : decode cX10_strong 41 = .ok (.iload_n 1, 1) := by decide +kernel
theorem dX10_strong_42 : decode cX10_strong 42 = .ok (.iadd, 1) := by decide +kernel
theorem dX10_strong_43 : decode cX10_strong 43 = .ok (.iload_n 2, 1) := by decide +kernel
theorem dX10_strong_44 : decode cX10_strong 44 = .ok (.iastore, 1) := by decide +kernel
theorem dX10_strong_45 : decode cX10_strong 45 = .ok (.iload_n 3, 1) := by decide +kernel
theorem dX10_strong_46 : decode cX10_strong 46 = .ok (.ireturn, 1) := by decide +kernel
theorem dX10_layFavour_0 : decode cX10_layFavour 0 = .ok (.bipush 14, 2) := by decide +kernel
theorem dX10_layFavour_2 : decode cX10_layFavour 2 = .ok (.bipush 7, 2) := by decide +kernel
theorem dX10_layFavour_4 : decode cX10_layFavour 4 = .ok (.iload_n 1, 1) := by decide +kernel
theorem dX10_layFavour_5 : decode cX10_layFavour 5 = .ok (.imul, 1) := by decide +kernel
theorem dX10_layFavour_6 : decode cX10_layFavour 6 = .ok (.iadd, 1) := by decide +kernel
theorem dX10_layFavour_7 : decode cX10_layFavour 7 = .ok (.istore 9, 2) := by decide +kernel
theorem dX10_layFavour_9 : decode cX10_layFavour 9 = .ok (.aload_n 0, 1) := by decide +kernel
theorem dX10_layFavour_10 : decode cX10_layFavour 10 = .ok (.iload 9, 2) := by decide +kernel
theorem dX10_layFavour_12 : decode cX10_layFavour 12 = .ok (.iconst 0, 1) := by decide +kernel
theorem dX10_layFavour_13 : decode cX10_layFavour 13 = .ok (.iadd, 1) := by decide +kernel
theorem dX10_layFavour_14 : decode cX10_layFavour 14 = .ok (.iload_n 2, 1) := by decide +kernel
theorem dX10_layFavour_15 : decode cX10_layFavour 15 = .ok (.iastore, 1) := by decide +kernel
theorem dX10_layFavour_16 : decode cX10_layFavour 16 = .ok (.aload_n 0, 1) := by decide +kernel
theorem dX10_layFavour_17 : decode cX10_layFavour 17 = .ok (.iload 9, 2) := by decide +kernel
theorem dX10_layFavour_19 : decode cX10_layFavour 19 = .ok (.iconst 1, 1) := by decide +kernel
theorem dX10_layFavour_20 : decode cX10_layFavour 20 = .ok (.iadd, 1) := by decide +kernel
theorem dX10_layFavour_21 : decode cX10_layFavour 21 = .ok (.iload_n 3, 1) := by decide +kernel
theorem dX10_layFavour_22 : decode cX10_layFavour 22 = .ok (.iastore, 1) := by decide +kernel
theorem dX10_layFavour_23 : decode cX10_layFavour 23 = .ok (.aload_n 0, 1) := by decide +kernel
theorem dX10_layFavour_24 : decode cX10_layFavour 24 = .ok (.iload 9, 2) := by decide +kernel
theorem dX10_layFavour_26 : decode cX10_layFavour 26 = .ok (.iconst 2, 1) := by decide +kernel
theorem dX10_layFavour_27 : decode cX10_layFavour 27 = .ok (.iadd, 1) := by decide +kernel
theorem dX10_layFavour_28 : decode cX10_layFavour 28 = .ok (.iload 4, 2) := by decide +kernel
theorem dX10_layFavour_30 : decode cX10_layFavour 30 = .ok (.iastore, 1) := by decide +kernel
theorem dX10_layFavour_31 : decode cX10_layFavour 31 = .ok (.aload_n 0, 1) := by decide +kernel
theorem dX10_layFavour_32 : decode cX10_layFavour 32 = .ok (.iload 9, 2) := by decide +kernel
theorem dX10_layFavour_34 : decode cX10_layFavour 34 = .ok (.iconst 3, 1) := by decide +kernel
theorem dX10_layFavour_35 : decode cX10_layFavour 35 = .ok (.iadd, 1) := by decide +kernel
theorem dX10_layFavour_36 : decode cX10_layFavour 36 = .ok (.iload 5, 2) := by decide +kernel
theorem dX10_layFavour_38 : decode cX10_layFavour 38 = .ok (.iastore, 1) := by decide +kernel
theorem dX10_layFavour_39 : decode cX10_layFavour 39 = .ok (.aload_n 0, 1) := by decide +kernel
theorem dX10_layFavour_40 : decode cX10_layFavour 40 = .ok (.iload 9, 2) := by decide +kernel
theorem dX10_layFavour_42 : decode cX10_layFavour 42 = .ok (.iconst 4, 1) := by decide +kernel
theorem dX10_layFavour_43 : decode cX10_layFavour 43 = .ok (.iadd, 1) := by decide +kernel
theorem dX10_layFavour_44 : decode cX10_layFavour 44 = .ok (.iload 6, 2) := by decide +kernel
theorem dX10_layFavour_46 : decode cX10_layFavour 46 = .ok (.iastore, 1) := by decide +kernel
theorem dX10_layFavour_47 : decode cX10_layFavour 47 = .ok (.aload_n 0, 1) := by decide +kernel
theorem dX10_layFavour_48 : decode cX10_layFavour 48 = .ok (.iload 9, 2) := by decide +kernel
theorem dX10_layFavour_50 : decode cX10_layFavour 50 = .ok (.iconst 5, 1) := by decide +kernel
theorem dX10_layFavour_51 : decode cX10_layFavour 51 = .ok (.iadd, 1) := by decide +kernel
theorem dX10_layFavour_52 : decode cX10_layFavour 52 = .ok (.iload 7, 2) := by decide +kernel
theorem dX10_layFavour_54 : decode cX10_layFavour 54 = .ok (.iastore, 1) := by decide +kernel
theorem dX10_layFavour_55 : decode cX10_layFavour 55 = .ok (.aload_n 0, 1) := by decide +kernel
theorem dX10_layFavour_56 : decode cX10_layFavour 56 = .ok (.iload 9, 2) := by decide +kernel
theorem dX10_layFavour_58 : decode cX10_layFavour 58 = .ok (.bipush 6, 2) := by decide +kernel
theorem dX10_layFavour_60 : decode cX10_layFavour 60 = .ok (.iadd, 1) := by decide +kernel
theorem dX10_layFavour_61 : decode cX10_layFavour 61 = .ok (.iload 8, 2) := by decide +kernel
theorem dX10_layFavour_63 : decode cX10_layFavour 63 = .ok (.iastore, 1) := by decide +kernel
theorem dX10_layFavour_64 : decode cX10_layFavour 64 = .ok (.return_, 1) := by decide +kernel
theorem dX10_favour_0 : decode cX10_favour 0 = .ok (.iload_n 1, 1) := by decide +kernel
theorem dX10_favour_1 : decode cX10_favour 1 = .ok (.i2l, 1) := by decide +kernel
theorem dX10_favour_2 : decode cX10_favour 2 = .ok (.lconst 0, 1) := by decide +kernel
theorem dX10_favour_3 : decode cX10_favour 3 = .ok (.ldc2_w 88, 3) := by decide +kernel
theorem dX10_favour_6 : decode cX10_favour 6 = .ok (.invokestatic 68, 3) := by decide +kernel
theorem dX10_favour_9 : decode cX10_favour 9 = .ok (.ifCond .eq 53, 3) := by decide +kernel
theorem dX10_favour_12 : decode cX10_favour 12 = .ok (.aload_n 0, 1) := by decide +kernel
theorem dX10_favour_13 : decode cX10_favour 13 = .ok (.iload_n 2, 1) := by decide +kernel
theorem dX10_favour_14 : decode cX10_favour 14 = .ok (.invokevirtual 84, 3) := by decide +kernel
theorem dX10_favour_17 : decode cX10_favour 17 = .ok (.ifCond .eq 45, 3) := by decide +kernel
theorem dX10_favour_20 : decode cX10_favour 20 = .ok (.aload_n 0, 1) := by decide +kernel
theorem dX10_favour_21 : decode cX10_favour 21 = .ok (.iload_n 3, 1) := by decide +kernel
theorem dX10_favour_22 : decode cX10_favour 22 = .ok (.invokevirtual 84, 3) := by decide +kernel
theorem dX10_favour_25 : decode cX10_favour 25 = .ok (.ifCond .eq 37, 3) := by decide +kernel
theorem dX10_favour_28 : decode cX10_favour 28 = .ok (.iload_n 2, 1) := by decide +kernel
theorem dX10_favour_29 : decode cX10_favour 29 = .ok (.iload_n 3, 1) := by decide +kernel
theorem dX10_favour_30 : decode cX10_favour 30 = .ok (.if_icmp .eq 32, 3) := by decide +kernel
theorem dX10_favour_33 : decode cX10_favour 33 = .ok (.iload 4, 2) := by decide +kernel
theorem dX10_favour_35 : decode cX10_favour 35 = .ok (.invokestatic 90, 3) := by decide +kernel
theorem dX10_favour_38 : decode cX10_favour 38 = .ok (.ifCond .eq 24, 3) := by decide +kernel
theorem dX10_favour_41 : decode cX10_favour 41 = .ok (.iload 5, 2) := by decide +kernel
theorem dX10_favour_43 : decode cX10_favour 43 = .ok (.i2l, 1) := by decide +kernel
theorem dX10_favour_44 : decode cX10_favour 44 = .ok (.lconst 1, 1) := by decide +kernel
theorem dX10_favour_45 : decode cX10_favour 45 = .ok (.ldc2_w 93, 3) := by decide +kernel
theorem dX10_favour_48 : decode cX10_favour 48 = .ok (.invokestatic 68, 3) := by decide +kernel
theorem dX10_favour_51 : decode cX10_favour 51 = .ok (.ifCond .eq 11, 3) := by decide +kernel
theorem dX10_favour_54 : decode cX10_favour 54 = .ok (.iload 6, 2) := by decide +kernel
theorem dX10_favour_56 : decode cX10_favour 56 = .ok (.invokestatic 95, 3) := by decide +kernel
theorem dX10_favour_59 : decode cX10_favour 59 = .ok (.ifCond .ne 10, 3) := by decide +kernel
theorem dX10_favour_62 : decode cX10_favour 62 = .ok (.aload_n 0, 1) := by decide +kernel
theorem dX10_favour_63 : decode cX10_favour 63 = .ok (.bipush (-2), 2) := by decide +kernel
theorem dX10_favour_65 : decode cX10_favour 65 = .ok (.invokevirtual 80, 3) := by decide +kernel
theorem dX10_favour_68 : decode cX10_favour 68 = .ok (.ireturn, 1) := by decide +kernel
theorem dX10_favour_69 : decode cX10_favour 69 = .ok (.aload_n 0, 1) := by decide +kernel
theorem dX10_favour_70 : decode cX10_favour 70 = .ok (.getfield 7, 3) := by decide +kernel
theorem dX10_favour_73 : decode cX10_favour 73 = .ok (.sipush 158, 3) := by decide +kernel
theorem dX10_favour_76 : decode cX10_favour 76 = .ok (.iaload, 1) := by decide +kernel
theorem dX10_favour_77 : decode cX10_favour 77 = .ok (.istore 7, 2) := by decide +kernel
theorem dX10_favour_79 : decode cX10_favour 79 = .ok (.iload 7, 2) := by decide +kernel
theorem dX10_favour_81 : decode cX10_favour 81 = .ok (.bipush 12, 2) := by decide +kernel
theorem dX10_favour_83 : decode cX10_favour 83 = .ok (.if_icmp .ne 8, 3) := by decide +kernel
theorem dX10_favour_86 : decode cX10_favour 86 = .ok (.aload_n 0, 1) := by decide +kernel
theorem dX10_favour_87 : decode cX10_favour 87 = .ok (.invokevirtual 98, 3) := by decide +kernel
theorem dX10_favour_90 : decode cX10_favour 90 = .ok (.ireturn, 1) := by decide +kernel
theorem dX10_favour_91 : decode cX10_favour 91 = .ok (.aload_n 0, 1) := by decide +kernel
theorem dX10_favour_92 : decode cX10_favour 92 = .ok (.getfield 7, 3) := by decide +kernel
theorem dX10_favour_95 : decode cX10_favour 95 = .ok (.iload 7, 2) := by decide +kernel
theorem dX10_favour_97 : decode cX10_favour 97 = .ok (.iload_n 1, 1) := by decide +kernel
theorem dX10_favour_98 : decode cX10_favour 98 = .ok (.iload_n 2, 1) := by decide +kernel
theorem dX10_favour_99 : decode cX10_favour 99 = .ok (.iload_n 3, 1) := by decide +kernel
theorem dX10_favour_100 : decode cX10_favour 100 = .ok (.iload 4, 2) := by decide +kernel
theorem dX10_favour_102 : decode cX10_favour 102 = .ok (.iload 5, 2) := by decide +kernel
theorem dX10_favour_104 : decode cX10_favour 104 = .ok (.iload 6, 2) := by decide +kernel
theorem dX10_favour_106 : decode cX10_favour 106 = .ok (.aload_n 0, 1) := by decide +kernel
theorem dX10_favour_107 : decode cX10_favour 107 = .ok (.invokevirtual 101, 3) := by decide +kernel
theorem dX10_favour_110 : decode cX10_favour 110 = .ok (.invokestatic 104, 3) := by decide +kernel
theorem dX10_favour_113 : decode cX10_favour 113 = .ok (.aload_n 0, 1) := by decide +kernel
theorem dX10_favour_114 : decode cX10_favour 114 = .ok (.getfield 7, 3) := by decide +kernel
theorem dX10_favour_117 : decode cX10_favour 117 = .ok (.sipush 158, 3) := by decide +kernel
theorem dX10_favour_120 : decode cX10_favour 120 = .ok (.dup2, 1) := by decide +kernel
theorem dX10_favour_121 : decode cX10_favour 121 = .ok (.iaload, 1) := by decide +kernel
theorem dX10_favour_122 : decode cX10_favour 122 = .ok (.iconst 1, 1) := by decide +kernel
theorem dX10_favour_123 : decode cX10_favour 123 = .ok (.iadd, 1) := by decide +kernel
theorem dX10_favour_124 : decode cX10_favour 124 = .ok (.iastore, 1) := by decide +kernel
theorem dX10_favour_125 : decode cX10_favour 125 = .ok (.iload 7, 2) := by decide +kernel
theorem dX10_favour_127 : decode cX10_favour 127 = .ok (.ireturn, 1) := by decide +kernel
theorem dX10_layNeed_0 : decode cX10_layNeed 0 = .ok (.aload_n 0, 1) := by decide +kernel
theorem dX10_layNeed_1 : decode cX10_layNeed 1 = .ok (.bipush 98, 2) := by decide +kernel
theorem dX10_layNeed_3 : decode cX10_layNeed 3 = .ok (.iconst 4, 1) := by decide +kernel
theorem dX10_layNeed_4 : decode cX10_layNeed 4 = .ok (.iload_n 1, 1) := by decide +kernel
theorem dX10_layNeed_5 : decode cX10_layNeed 5 = .ok (.imul, 1) := by decide +kernel
theorem dX10_layNeed_6 : decode cX10_layNeed 6 = .ok (.iadd, 1) := by decide +kernel
theorem dX10_layNeed_7 : decode cX10_layNeed 7 = .ok (.iload_n 2, 1) := by decide +kernel
theorem dX10_layNeed_8 : decode cX10_layNeed 8 = .ok (.iastore, 1) := by decide +kernel
theorem dX10_layNeed_9 : decode cX10_layNeed 9 = .ok (.aload_n 0, 1) := by decide +kernel
theorem dX10_layNeed_10 : decode cX10_layNeed 10 = .ok (.bipush 98, 2) := by decide +kernel
theorem dX10_layNeed_12 : decode cX10_layNeed 12 = .ok (.iconst 4, 1) := by decide +kernel
theorem dX10_layNeed_13 : decode cX10_layNeed 13 = .ok (.iload_n 1, 1) := by decide +kernel
theorem dX10_layNeed_14 : decode cX10_layNeed 14 = .ok (.imul, 1) := by decide +kernel
theorem dX10_layNeed_15 : decode cX10_layNeed 15 = .ok (.iadd, 1) := by decide +kernel
theorem dX10_layNeed_16 : decode cX10_layNeed 16 = .ok (.iconst 1, 1) := by decide +kernel
theorem dX10_layNeed_17 : decode cX10_layNeed 17 = .ok (.iadd, 1) := by decide +kernel
theorem dX10_layNeed_18 : decode cX10_layNeed 18 = .ok (.iload_n 3, 1) := by decide +kernel
theorem dX10_layNeed_19 : decode cX10_layNeed 19 = .ok (.iastore, 1) := by decide +kernel
theorem dX10_layNeed_20 : decode cX10_layNeed 20 = .ok (.aload_n 0, 1) := by decide +kernel
theorem dX10_layNeed_21 : decode cX10_layNeed 21 = .ok (.bipush 98, 2) := by decide +kernel
theorem dX10_layNeed_23 : decode cX10_layNeed 23 = .ok (.iconst 4, 1) := by decide +kernel
theorem dX10_layNeed_24 : decode cX10_layNeed 24 = .ok (.iload_n 1, 1) := by decide +kernel
theorem dX10_layNeed_25 : decode cX10_layNeed 25 = .ok (.imul, 1) := by decide +kernel
theorem dX10_layNeed_26 : decode cX10_layNeed 26 = .ok (.iadd, 1) := by decide +kernel
theorem dX10_layNeed_27 : decode cX10_layNeed 27 = .ok (.iconst 2, 1) := by decide +kernel
theorem dX10_layNeed_28 : decode cX10_layNeed 28 = .ok (.iadd, 1) := by decide +kernel
theorem dX10_layNeed_29 : decode cX10_layNeed 29 = .ok (.iload 4, 2) := by decide +kernel
theorem dX10_layNeed_31 : decode cX10_layNeed 31 = .ok (.iastore, 1) := by decide +kernel
theorem dX10_layNeed_32 : decode cX10_layNeed 32 = .ok (.aload_n 0, 1) := by decide +kernel
theorem dX10_layNeed_33 : decode cX10_layNeed 33 = .ok (.bipush 98, 2) := by decide +kernel
theorem dX10_layNeed_35 : decode cX10_layNeed 35 = .ok (.iconst 4, 1) := by decide +kernel
theorem dX10_layNeed_36 : decode cX10_layNeed 36 = .ok (.iload_n 1, 1) := by decide +kernel
theorem dX10_layNeed_37 : decode cX10_layNeed 37 = .ok (.imul, 1) := by decide +kernel
theorem dX10_layNeed_38 : decode cX10_layNeed 38 = .ok (.iadd, 1) := by decide +kernel
theorem dX10_layNeed_39 : decode cX10_layNeed 39 = .ok (.iconst 3, 1) := by decide +kernel
theorem dX10_layNeed_40 : decode cX10_layNeed 40 = .ok (.iadd, 1) := by decide +kernel
theorem dX10_layNeed_41 : decode cX10_layNeed 41 = .ok (.iload 5, 2) := by decide +kernel
theorem dX10_layNeed_43 : decode cX10_layNeed 43 = .ok (.iastore, 1) := by decide +kernel
theorem dX10_layNeed_44 : decode cX10_layNeed 44 = .ok (.return_, 1) := by decide +kernel
theorem dX10_need_0 : decode cX10_need 0 = .ok (.aload_n 0, 1) := by decide +kernel
theorem dX10_need_1 : decode cX10_need 1 = .ok (.iload_n 1, 1) := by decide +kernel
theorem dX10_need_2 : decode cX10_need 2 = .ok (.invokevirtual 84, 3) := by decide +kernel
theorem dX10_need_5 : decode cX10_need 5 = .ok (.ifCond .eq 39, 3) := by decide +kernel
theorem dX10_need_8 : decode cX10_need 8 = .ok (.iload_n 2, 1) := by decide +kernel
theorem dX10_need_9 : decode cX10_need 9 = .ok (.invokestatic 90, 3) := by decide +kernel
theorem dX10_need_12 : decode cX10_need 12 = .ok (.ifCond .eq 32, 3) := by decide +kernel
theorem dX10_need_15 : decode cX10_need 15 = .ok (.iload_n 3, 1) := by decide +kernel
theorem dX10_need_16 : decode cX10_need 16 = .ok (.i2l, 1) := by decide +kernel
theorem dX10_need_17 : decode cX10_need 17 = .ok (.lconst 1, 1) := by decide +kernel
theorem dX10_need_18 : decode cX10_need 18 = .ok (.ldc2_w 93, 3) := by decide +kernel
theorem dX10_need_21 : decode cX10_need 21 = .ok (.invokestatic 68, 3) := by decide +kernel
theorem dX10_need_24 : decode cX10_need 24 = .ok (.ifCond .eq 20, 3) := by decide +kernel
