theorem dX12_book_33 : decode cX12_book 33 = .ok (.invokestatic 63, 3) := by decide +kernel
theorem dX12_book_36 : decode cX12_book 36 = .ok (.ifCond .eq 12, 3) := by decide +kernel
theorem dX12_book_39 : decode cX12_book 39 = .ok (.aload_n 0, 1) := by decide +kernel
theorem dX12_book_40 : decode cX12_book 40 = .ok (.iload_n 1, 1) := by decide +kernel
theorem dX12_book_41 : decode cX12_book 41 = .ok (.iload_n 2, 1) := by decide +kernel
theorem dX12_book_42 : decode cX12_book 42 = .ok (.invokevirtual 394, 3) := by decide +kernel
theorem dX12_book_45 : decode cX12_book 45 = .ok (.goto 5, 3) := by decide +kernel
theorem dX12_book_48 : decode cX12_book 48 = .ok (.bipush (-2), 2) := by decide +kernel
theorem dX12_book_50 : decode cX12_book 50 = .ok (.ireturn, 1) := by decide +kernel
theorem dX12_ledger_0 : decode cX12_ledger 0 = .ok (.iload_n 1, 1) := by decide +kernel
theorem dX12_ledger_1 : decode cX12_ledger 1 = .ok (.iconst 0, 1) := by decide +kernel
theorem dX12_ledger_2 : decode cX12_ledger 2 = .ok (.iconst 2, 1) := by decide +kernel
theorem dX12_ledger_3 : decode cX12_ledger 3 = .ok (.invokestatic 63, 3) := by decide +kernel
theorem dX12_ledger_6 : decode cX12_ledger 6 = .ok (.ifCond .ne 6, 3) := by decide +kernel
theorem dX12_ledger_9 : decode cX12_ledger 9 = .ok (.bipush (-2), 2) := by decide +kernel
theorem dX12_ledger_11 : decode cX12_ledger 11 = .ok (.ireturn, 1) := by decide +kernel
theorem dX12_ledger_12 : decode cX12_ledger 12 = .ok (.iconst 0, 1) := by decide +kernel
theorem dX12_ledger_13 : decode cX12_ledger 13 = .ok (.istore_n 2, 1) := by decide +kernel
theorem dX12_ledger_14 : decode cX12_ledger 14 = .ok (.iconst 0, 1) := by decide +kernel
theorem dX12_ledger_15 : decode cX12_ledger 15 = .ok (.istore_n 3, 1) := by decide +kernel
theorem dX12_ledger_16 : decode cX12_ledger 16 = .ok (.iload_n 3, 1) := by decide +kernel
theorem dX12_ledger_17 : decode cX12_ledger 17 = .ok (.aload_n 0, 1) := by decide +kernel
theorem dX12_ledger_18 : decode cX12_ledger 18 = .ok (.getfield 7, 3) := by decide +kernel
theorem dX12_ledger_21 : decode cX12_ledger 21 = .ok (.bipush 11, 2) := by decide +kernel
theorem dX12_ledger_23 : decode cX12_ledger 23 = .ok (.iaload, 1) := by decide +kernel
theorem dX12_ledger_24 : decode cX12_ledger 24 = .ok (.if_icmp .ge 27, 3) := by decide +kernel
theorem dX12_ledger_27 : decode cX12_ledger 27 = .ok (.iload_n 2, 1) := by decide +kernel
theorem dX12_ledger_28 : decode cX12_ledger 28 = .ok (.aload_n 0, 1) := by decide +kernel
theorem dX12_ledger_29 : decode cX12_ledger 29 = .ok (.iload_n 3, 1) := by decide +kernel
theorem dX12_ledger_30 : decode cX12_ledger 30 = .ok (.iconst 2, 1) := by decide +kernel
theorem dX12_ledger_31 : decode cX12_ledger 31 = .ok (.invokevirtual 394, 3) := by decide +kernel
theorem dX12_ledger_34 : decode cX12_ledger 34 = .ok (.iload_n 1, 1) := by decide +kernel
theorem dX12_ledger_35 : decode cX12_ledger 35 = .ok (.if_icmp .ne 7, 3) := by decide +kernel
theorem dX12_ledger_38 : decode cX12_ledger 38 = .ok (.iconst 1, 1) := by decide +kernel
theorem dX12_ledger_39 : decode cX12_ledger 39 = .ok (.goto 4, 3) := by decide +kernel
theorem dX12_ledger_42 : decode cX12_ledger 42 = .ok (.iconst 0, 1) := by decide +kernel
theorem dX12_ledger_43 : decode cX12_ledger 43 = .ok (.iadd, 1) := by decide +kernel
theorem dX12_ledger_44 : decode cX12_ledger 44 = .ok (.istore_n 2, 1) := by decide +kernel
theorem dX12_ledger_45 : decode cX12_ledger 45 = .ok (.iinc 3 1, 3) := by decide +kernel
theorem dX12_ledger_48 : decode cX12_ledger 48 = .ok (.goto (-32), 3) := by decide +kernel
theorem dX12_ledger_51 : decode cX12_ledger 51 = .ok (.iload_n 2, 1) := by decide +kernel
theorem dX12_ledger_52 : decode cX12_ledger 52 = .ok (.ireturn, 1) := by decide +kernel
theorem dX12_richest_0 : decode cX12_richest 0 = .ok (.iconst (-1), 1) := by decide +kernel
theorem dX12_richest_1 : decode cX12_richest 1 = .ok (.istore_n 1, 1) := by decide +kernel
theorem dX12_richest_2 : decode cX12_richest 2 = .ok (.iconst 0, 1) := by decide +kernel
theorem dX12_richest_3 : decode cX12_richest 3 = .ok (.istore_n 2, 1) := by decide +kernel
theorem dX12_richest_4 : decode cX12_richest 4 = .ok (.iload_n 2, 1) := by decide +kernel
theorem dX12_richest_5 : decode cX12_richest 5 = .ok (.aload_n 0, 1) := by decide +kernel
theorem dX12_richest_6 : decode cX12_richest 6 = .ok (.getfield 7, 3) := by decide +kernel
theorem dX12_richest_9 : decode cX12_richest 9 = .ok (.iconst 1, 1) := by decide +kernel
theorem dX12_richest_10 : decode cX12_richest 10 = .ok (.iaload, 1) := by decide +kernel
theorem dX12_richest_11 : decode cX12_richest 11 = .ok (.if_icmp .ge 39, 3) := by decide +kernel
theorem dX12_richest_14 : decode cX12_richest 14 = .ok (.aload_n 0, 1) := by decide +kernel
theorem dX12_richest_15 : decode cX12_richest 15 = .ok (.iload_n 2, 1) := by decide +kernel
theorem dX12_richest_16 : decode cX12_richest 16 = .ok (.invokevirtual 391, 3) := by decide +kernel
theorem dX12_richest_19 : decode cX12_richest 19 = .ok (.invokestatic 397, 3) := by decide +kernel
theorem dX12_richest_22 : decode cX12_richest 22 = .ok (.iload_n 1, 1) := by decide +kernel
theorem dX12_richest_23 : decode cX12_richest 23 = .ok (.iconst (-1), 1) := by decide +kernel
theorem dX12_richest_24 : decode cX12_richest 24 = .ok (.if_icmp .ne 7, 3) := by decide +kernel
theorem dX12_richest_27 : decode cX12_richest 27 = .ok (.iconst 0, 1) := by decide +kernel
theorem dX12_richest_28 : decode cX12_richest 28 = .ok (.goto 11, 3) := by decide +kernel
theorem dX12_richest_31 : decode cX12_richest 31 = .ok (.aload_n 0, 1) := by decide +kernel
theorem dX12_richest_32 : decode cX12_richest 32 = .ok (.iload_n 1, 1) := by decide +kernel
theorem dX12_richest_33 : decode cX12_richest 33 = .ok (.invokevirtual 391, 3) := by decide +kernel
theorem dX12_richest_36 : decode cX12_richest 36 = .ok (.invokestatic 397, 3) := by decide +kernel
theorem dX12_richest_39 : decode cX12_richest 39 = .ok (.if_icmp .le 5, 3) := by decide +kernel
theorem dX12_richest_42 : decode cX12_richest 42 = .ok (.iload_n 2, 1) := by decide +kernel
theorem dX12_richest_43 : decode cX12_richest 43 = .ok (.istore_n 1, 1) := by decide +kernel
theorem dX12_richest_44 : decode cX12_richest 44 = .ok (.iinc 2 1, 3) := by decide +kernel
theorem dX12_richest_47 : decode cX12_richest 47 = .ok (.goto (-43), 3) := by decide +kernel
theorem dX12_richest_50 : decode cX12_richest 50 = .ok (.iload_n 1, 1) := by decide +kernel
theorem dX12_richest_51 : decode cX12_richest 51 = .ok (.ireturn, 1) := by decide +kernel
theorem dX12_next_0 : decode cX12_next 0 = .ok (.iconst (-1), 1) := by decide +kernel
theorem dX12_next_1 : decode cX12_next 1 = .ok (.istore_n 1, 1) := by decide +kernel
theorem dX12_next_2 : decode cX12_next 2 = .ok (.iconst 0, 1) := by decide +kernel
theorem dX12_next_3 : decode cX12_next 3 = .ok (.istore_n 2, 1) := by decide +kernel
theorem dX12_next_4 : decode cX12_next 4 = .ok (.iload_n 2, 1) := by decide +kernel
theorem dX12_next_5 : decode cX12_next 5 = .ok (.aload_n 0, 1) := by decide +kernel
theorem dX12_next_6 : decode cX12_next 6 = .ok (.getfield 7, 3) := by decide +kernel
theorem dX12_next_9 : decode cX12_next 9 = .ok (.iconst 0, 1) := by decide +kernel
theorem dX12_next_10 : decode cX12_next 10 = .ok (.iaload, 1) := by decide +kernel
theorem dX12_next_11 : decode cX12_next 11 = .ok (.if_icmp .ge 43, 3) := by decide +kernel
theorem dX12_next_14 : decode cX12_next 14 = .ok (.aload_n 0, 1) := by decide +kernel
theorem dX12_next_15 : decode cX12_next 15 = .ok (.iload_n 2, 1) := by decide +kernel
theorem dX12_next_16 : decode cX12_next 16 = .ok (.iconst 0, 1) := by decide +kernel
theorem dX12_next_17 : decode cX12_next 17 = .ok (.invokevirtual 264, 3) := by decide +kernel
theorem dX12_next_20 : decode cX12_next 20 = .ok (.invokestatic 84, 3) := by decide +kernel
theorem dX12_next_23 : decode cX12_next 23 = .ok (.ifCond .eq 25, 3) := by decide +kernel
theorem dX12_next_26 : decode cX12_next 26 = .ok (.iload_n 1, 1) := by decide +kernel
theorem dX12_next_27 : decode cX12_next 27 = .ok (.iconst (-1), 1) := by decide +kernel
theorem dX12_next_28 : decode cX12_next 28 = .ok (.if_icmp .eq 18, 3) := by decide +kernel
theorem dX12_next_31 : decode cX12_next 31 = .ok (.aload_n 0, 1) := by decide +kernel
theorem dX12_next_32 : decode cX12_next 32 = .ok (.iload_n 2, 1) := by decide +kernel
theorem dX12_next_33 : decode cX12_next 33 = .ok (.iconst 0, 1) := by decide +kernel
theorem dX12_next_34 : decode cX12_next 34 = .ok (.invokevirtual 264, 3) := by decide +kernel
theorem dX12_next_37 : decode cX12_next 37 = .ok (.aload_n 0, 1) := by decide +kernel
theorem dX12_next_38 : decode cX12_next 38 = .ok (.iload_n 1, 1) := by decide +kernel
theorem dX12_next_39 : decode cX12_next 39 = .ok (.iconst 0, 1) := by decide +kernel
theorem dX12_next_40 : decode cX12_next 40 = .ok (.invokevirtual 264, 3) := by decide +kernel
theorem dX12_next_43 : decode cX12_next 43 = .ok (.if_icmp .le 5, 3) := by decide +kernel
theorem dX12_next_46 : decode cX12_next 46 = .ok (.iload_n 2, 1) := by decide +kernel
theorem dX12_next_47 : decode cX12_next 47 = .ok (.istore_n 1, 1) := by decide +kernel
theorem dX12_next_48 : decode cX12_next 48 = .ok (.iinc 2 1, 3) := by decide +kernel
theorem dX12_next_51 : decode cX12_next 51 = .ok (.goto (-47), 3) := by decide +kernel
theorem dX12_next_54 : decode cX12_next 54 = .ok (.iload_n 1, 1) := by decide +kernel
theorem dX12_next_55 : decode cX12_next 55 = .ok (.ireturn, 1) := by decide +kernel
theorem dX12_frozen_0 : decode cX12_frozen 0 = .ok (.iconst 0, 1) := by decide +kernel
theorem dX12_frozen_1 : decode cX12_frozen 1 = .ok (.istore_n 1, 1) := by decide +kernel
theorem dX12_frozen_2 : decode cX12_frozen 2 = .ok (.iconst 0, 1) := by decide +kernel
theorem dX12_frozen_3 : decode cX12_frozen 3 = .ok (.istore_n 2, 1) := by decide +kernel
theorem dX12_frozen_4 : decode cX12_frozen 4 = .ok (.iload_n 2, 1) := by decide +kernel
theorem dX12_frozen_5 : decode cX12_frozen 5 = .ok (.aload_n 0, 1) := by decide +kernel
theorem dX12_frozen_6 : decode cX12_frozen 6 = .ok (.getfield 7, 3) := by decide +kernel
theorem dX12_frozen_9 : decode cX12_frozen 9 = .ok (.iconst 0, 1) := by decide +kernel
theorem dX12_frozen_10 : decode cX12_frozen 10 = .ok (.iaload, 1) := by decide +kernel
theorem dX12_frozen_11 : decode cX12_frozen 11 = .ok (.if_icmp .ge 27, 3) := by decide +kernel
theorem dX12_frozen_14 : decode cX12_frozen 14 = .ok (.iload_n 1, 1) := by decide +kernel
theorem dX12_frozen_15 : decode cX12_frozen 15 = .ok (.aload_n 0, 1) := by decide +kernel
theorem dX12_frozen_16 : decode cX12_frozen 16 = .ok (.iload_n 2, 1) := by decide +kernel
theorem dX12_frozen_17 : decode cX12_frozen 17 = .ok (.invokevirtual 269, 3) := by decide +kernel
theorem dX12_frozen_20 : decode cX12_frozen 20 = .ok (.ifCond .eq 9, 3) := by decide +kernel
theorem dX12_frozen_23 : decode cX12_frozen 23 = .ok (.iconst 1, 1) := by decide +kernel
theorem dX12_frozen_24 : decode cX12_frozen 24 = .ok (.iload_n 2, 1) := by decide +kernel
theorem dX12_frozen_25 : decode cX12_frozen 25 = .ok (.ishl, 1) := by decide +kernel
theorem dX12_frozen_26 : decode cX12_frozen 26 = .ok (.goto 4, 3) := by decide +kernel
theorem dX12_frozen_29 : decode cX12_frozen 29 = .ok (.iconst 0, 1) := by decide +kernel
theorem dX12_frozen_30 : decode cX12_frozen 30 = .ok (.ior, 1) := by decide +kernel
theorem dX12_frozen_31 : decode cX12_frozen 31 = .ok (.istore_n 1, 1) := by decide +kernel
theorem dX12_frozen_32 : decode cX12_frozen 32 = .ok (.iinc 2 1, 3) := by decide +kernel
theorem dX12_frozen_35 : decode cX12_frozen 35 = .ok (.goto (-31), 3) := by decide +kernel
theorem dX12_frozen_38 : decode cX12_frozen 38 = .ok (.iload_n 1, 1) := by decide +kernel
theorem dX12_frozen_39 : decode cX12_frozen 39 = .ok (.ireturn, 1) := by decide +kernel
theorem dX12_foretold_0 : decode cX12_foretold 0 = .ok (.iload_n 1, 1) := by decide +kernel
theorem dX12_foretold_1 : decode cX12_foretold 1 = .ok (.iconst 1, 1) := by decide +kernel
theorem dX12_foretold_2 : decode cX12_foretold 2 = .ok (.bipush 60, 2) := by decide +kernel
theorem dX12_foretold_4 : decode cX12_foretold 4 = .ok (.invokestatic 63, 3) := by decide +kernel
theorem dX12_foretold_7 : decode cX12_foretold 7 = .ok (.ifCond .eq 20, 3) := by decide +kernel
theorem dX12_foretold_10 : decode cX12_foretold 10 = .ok (.aload_n 0, 1) := by decide +kernel
theorem dX12_foretold_11 : decode cX12_foretold 11 = .ok (.iload_n 2, 1) := by decide +kernel
theorem dX12_foretold_12 : decode cX12_foretold 12 = .ok (.invokevirtual 261, 3) := by decide +kernel
theorem dX12_foretold_15 : decode cX12_foretold 15 = .ok (.ifCond .eq 12, 3) := by decide +kernel
theorem dX12_foretold_18 : decode cX12_foretold 18 = .ok (.iload_n 3, 1) := by decide +kernel
theorem dX12_foretold_19 : decode cX12_foretold 19 = .ok (.iconst 0, 1) := by decide +kernel
theorem dX12_foretold_20 : decode cX12_foretold 20 = .ok (.iconst 1, 1) := by decide +kernel
theorem dX12_foretold_21 : decode cX12_foretold 21 = .ok (.invokestatic 63, 3) := by decide +kernel
theorem dX12_foretold_24 : decode cX12_foretold 24 = .ok (.ifCond .ne 6, 3) := by decide +kernel
theorem dX12_foretold_27 : decode cX12_foretold 27 = .ok (.bipush (-2), 2) := by decide +kernel
theorem dX12_foretold_29 : decode cX12_foretold 29 = .ok (.ireturn, 1) := by decide +kernel
theorem dX12_foretold_30 : decode cX12_foretold 30 = .ok (.bipush 7, 2) := by decide +kernel
theorem dX12_foretold_32 : decode cX12_foretold 32 = .ok (.istore 4, 2) := by decide +kernel
theorem dX12_foretold_34 : decode cX12_foretold 34 = .ok (.iload 4, 2) := by decide +kernel
theorem dX12_foretold_36 : decode cX12_foretold 36 = .ok (.bipush 29, 2) := by decide +kernel
theorem dX12_foretold_38 : decode cX12_foretold 38 = .ok (.if_icmp .ge 23, 3) := by decide +kernel
theorem dX12_foretold_41 : decode cX12_foretold 41 = .ok (.aload_n 0, 1) := by decide +kernel
theorem dX12_foretold_42 : decode cX12_foretold 42 = .ok (.getfield 47, 3) := by decide +kernel
theorem dX12_foretold_45 : decode cX12_foretold 45 = .ok (.iload 4, 2) := by decide +kernel
theorem dX12_foretold_47 : decode cX12_foretold 47 = .ok (.aload_n 0, 1) := by decide +kernel
theorem dX12_foretold_48 : decode cX12_foretold 48 = .ok (.getfield 7, 3) := by decide +kernel
theorem dX12_foretold_51 : decode cX12_foretold 51 = .ok (.iload 4, 2) := by decide +kernel
theorem dX12_foretold_53 : decode cX12_foretold 53 = .ok (.iaload, 1) := by decide +kernel
theorem dX12_foretold_54 : decode cX12_foretold 54 = .ok (.iastore, 1) := by decide +kernel
theorem dX12_foretold_55 : decode cX12_foretold 55 = .ok (.iinc 4 1, 3) := by decide +kernel
theorem dX12_foretold_58 : decode cX12_foretold 58 = .ok (.goto (-24), 3) := by decide +kernel
theorem dX12_foretold_61 : decode cX12_foretold 61 = .ok (.aload_n 0, 1) := by decide +kernel
theorem dX12_foretold_62 : decode cX12_foretold 62 = .ok (.iconst 0, 1) := by decide +kernel
theorem dX12_foretold_63 : decode cX12_foretold 63 = .ok (.putfield 43, 3) := by decide +kernel
theorem dX12_foretold_66 : decode cX12_foretold 66 = .ok (.iconst 0, 1) := by decide +kernel
theorem dX12_foretold_67 : decode cX12_foretold 67 = .ok (.istore 4, 2) := by decide +kernel
theorem dX12_foretold_69 : decode cX12_foretold 69 = .ok (.iload 4, 2) := by decide +kernel
theorem dX12_foretold_71 : decode cX12_foretold 71 = .ok (.iload_n 1, 1) := by decide +kernel
theorem dX12_foretold_72 : decode cX12_foretold 72 = .ok (.if_icmp .ge 26, 3) := by decide +kernel
theorem dX12_foretold_75 : decode cX12_foretold 75 = .ok (.aload_n 0, 1) := by decide +kernel
theorem dX12_foretold_76 : decode cX12_foretold 76 = .ok (.getfield 7, 3) := by decide +kernel
theorem dX12_foretold_79 : decode cX12_foretold 79 = .ok (.bipush 7, 2) := by decide +kernel
theorem dX12_foretold_81 : decode cX12_foretold 81 = .ok (.iaload, 1) := by decide +kernel
theorem dX12_foretold_82 : decode cX12_foretold 82 = .ok (.sipush 9999, 3) := by decide +kernel
theorem dX12_foretold_85 : decode cX12_foretold 85 = .ok (.if_icmp .ge 7, 3) := by decide +kernel
theorem dX12_foretold_88 : decode cX12_foretold 88 = .ok (.aload_n 0, 1) := by decide +kernel
theorem dX12_foretold_89 : decode cX12_foretold 89 = .ok (.invokevirtual 357, 3) := by decide +kernel
theorem dX12_foretold_92 : decode cX12_foretold 92 = .ok (.iinc 4 1, 3) := by decide +kernel
theorem dX12_foretold_95 : decode cX12_foretold 95 = .ok (.goto (-26), 3) := by decide +kernel
theorem dX12_foretold_98 : decode cX12_foretold 98 = .ok (.aload_n 0, 1) := by decide +kernel
theorem dX12_foretold_99 : decode cX12_foretold 99 = .ok (.iload_n 2, 1) := by decide +kernel
theorem dX12_foretold_100 : decode cX12_foretold 100 = .ok (.iload_n 3, 1) := by decide +kernel
theorem dX12_foretold_101 : decode cX12_foretold 101 = .ok (.ifCond .ne 7, 3) := by decide +kernel
theorem dX12_foretold_104 : decode cX12_foretold 104 = .ok (.iconst 0, 1) := by decide +kernel
theorem dX12_foretold_105 : decode cX12_foretold 105 = .ok (.goto 4, 3) := by decide +kernel
theorem dX12_foretold_108 : decode cX12_foretold 108 = .ok (.iconst 1, 1) := by decide +kernel
theorem dX12_foretold_109 : decode cX12_foretold 109 = .ok (.invokevirtual 264, 3) := by decide +kernel
theorem dX12_foretold_112 : decode cX12_foretold 112 = .ok (.istore 4, 2) := by decide +kernel
theorem dX12_foretold_114 : decode cX12_foretold 114 = .ok (.bipush 7, 2) := by decide +kernel
theorem dX12_foretold_116 : decode cX12_foretold 116 = .ok (.istore 5, 2) := by decide +kernel
theorem dX12_foretold_118 : decode cX12_foretold 118 = .ok (.iload 5, 2) := by decide +kernel
theorem dX12_foretold_120 : decode cX12_foretold 120 = .ok (.bipush 29, 2) := by decide +kernel
theorem dX12_foretold_122 : decode cX12_foretold 122 = .ok (.if_icmp .ge 23, 3) := by decide +kernel
theorem dX12_foretold_125 : decode cX12_foretold 125 = .ok (.aload_n 0, 1) := by decide +kernel
theorem dX12_foretold_126 : decode cX12_foretold 126 = .ok (.getfield 7, 3) := by decide +kernel
theorem dX12_foretold_129 : decode cX12_foretold 129 = .ok (.iload 5, 2) := by decide +kernel
theorem dX12_foretold_131 : decode cX12_foretold 131 = .ok (.aload_n 0, 1) := by decide +kernel
theorem dX12_foretold_132 : decode cX12_foretold 132 = .ok (.getfield 47, 3) := by decide +kernel
theorem dX12_foretold_135 : decode cX12_foretold 135 = .ok (.iload 5, 2) := by decide +kernel
theorem dX12_foretold_137 : decode cX12_foretold 137 = .ok (.iaload, 1) := by decide +kernel
theorem dX12_foretold_138 : decode cX12_foretold 138 = .ok (.iastore, 1) := by decide +kernel
theorem dX12_foretold_139 : decode cX12_foretold 139 = .ok (.iinc 5 1, 3) := by decide +kernel
theorem dX12_foretold_142 : decode cX12_foretold 142 = .ok (.goto (-24), 3) := by decide +kernel
theorem dX12_foretold_145 : decode cX12_foretold 145 = .ok (.aload_n 0, 1) := by decide +kernel
theorem dX12_foretold_146 : decode cX12_foretold 146 = .ok (.iconst 1, 1) := by decide +kernel
theorem dX12_foretold_147 : decode cX12_foretold 147 = .ok (.putfield 43, 3) := by decide +kernel
theorem dX12_foretold_150 : decode cX12_foretold 150 = .ok (.iload 4, 2) := by decide +kernel
theorem dX12_foretold_152 : decode cX12_foretold 152 = .ok (.ireturn, 1) := by decide +kernel
theorem dX12_isPair_0 : decode cX12_isPair 0 = .ok (.iload_n 0, 1) := by decide +kernel
theorem dX12_isPair_1 : decode cX12_isPair 1 = .ok (.iconst 0, 1) := by decide +kernel
theorem dX12_isPair_2 : decode cX12_isPair 2 = .ok (.iconst 4, 1) := by decide +kernel
theorem dX12_isPair_3 : decode cX12_isPair 3 = .ok (.invokestatic 63, 3) := by decide +kernel
theorem dX12_isPair_6 : decode cX12_isPair 6 = .ok (.ifCond .eq 16, 3) := by decide +kernel
theorem dX12_isPair_9 : decode cX12_isPair 9 = .ok (.iload_n 1, 1) := by decide +kernel
theorem dX12_isPair_10 : decode cX12_isPair 10 = .ok (.iconst 0, 1) := by decide +kernel
theorem dX12_isPair_11 : decode cX12_isPair 11 = .ok (.iconst 5, 1) := by decide +kernel
theorem dX12_isPair_12 : decode cX12_isPair 12 = .ok (.invokestatic 63, 3) := by decide +kernel
theorem dX12_isPair_15 : decode cX12_isPair 15 = .ok (.ifCond .eq 7, 3) := by decide +kernel
theorem dX12_isPair_18 : decode cX12_isPair 18 = .ok (.iconst 1, 1) := by decide +kernel
theorem dX12_isPair_19 : decode cX12_isPair 19 = .ok (.goto 4, 3) := by decide +kernel
theorem dX12_isPair_22 : decode cX12_isPair 22 = .ok (.iconst 0, 1) := by decide +kernel
theorem dX12_isPair_23 : decode cX12_isPair 23 = .ok (.ireturn, 1) := by decide +kernel
theorem dX12_wants_0 : decode cX12_wants 0 = .ok (.iload_n 1, 1) := by decide +kernel
theorem dX12_wants_1 : decode cX12_wants 1 = .ok (.iload_n 2, 1) := by decide +kernel
theorem dX12_wants_2 : decode cX12_wants 2 = .ok (.invokestatic 400, 3) := by decide +kernel
theorem dX12_wants_5 : decode cX12_wants 5 = .ok (.ifCond .eq 13, 3) := by decide +kernel
theorem dX12_wants_8 : decode cX12_wants 8 = .ok (.iload_n 3, 1) := by decide +kernel
theorem dX12_wants_9 : decode cX12_wants 9 = .ok (.iconst 0, 1) := by decide +kernel
theorem dX12_wants_10 : decode cX12_wants 10 = .ok (.bipush 99, 2) := by decide +kernel
theorem dX12_wants_12 : decode cX12_wants 12 = .ok (.invokestatic 63, 3) := by decide +kernel
theorem dX12_wants_15 : decode cX12_wants 15 = .ok (.ifCond .ne 5, 3) := by decide +kernel
theorem dX12_wants_18 : decode cX12_wants 18 = .ok (.iconst 0, 1) := by decide +kernel
theorem dX12_wants_19 : decode cX12_wants 19 = .ok (.ireturn, 1) := by decide +kernel
theorem dX12_wants_20 : decode cX12_wants 20 = .ok (.aload_n 0, 1) := by decide +kernel
theorem dX12_wants_21 : decode cX12_wants 21 = .ok (.getfield 7, 3) := by decide +kernel
theorem dX12_wants_24 : decode cX12_wants 24 = .ok (.bipush 52, 2) := by decide +kernel
theorem dX12_wants_26 : decode cX12_wants 26 = .ok (.bipush 6, 2) := by decide +kernel
theorem dX12_wants_28 : decode cX12_wants 28 = .ok (.iload_n 1, 1) := by decide +kernel
theorem dX12_wants_29 : decode cX12_wants 29 = .ok (.imul, 1) := by decide +kernel
theorem dX12_wants_30 : decode cX12_wants 30 = .ok (.iadd, 1) := by decide +kernel
theorem dX12_wants_31 : decode cX12_wants 31 = .ok (.iload_n 2, 1) := by decide +kernel
theorem dX12_wants_32 : decode cX12_wants 32 = .ok (.iadd, 1) := by decide +kernel
theorem dX12_wants_33 : decode cX12_wants 33 = .ok (.iload_n 3, 1) := by decide +kernel
theorem dX12_wants_34 : decode cX12_wants 34 = .ok (.iastore, 1) := by decide +kernel
theorem dX12_wants_35 : decode cX12_wants 35 = .ok (.iconst 1, 1) := by decide +kernel
theorem dX12_wants_36 : decode cX12_wants 36 = .ok (.ireturn, 1) := by decide +kernel
theorem dX12_favours_0 : decode cX12_favours 0 = .ok (.iload_n 2, 1) := by decide +kernel
theorem dX12_favours_1 : decode cX12_favours 1 = .ok (.iload_n 1, 1) := by decide +kernel
theorem dX12_favours_2 : decode cX12_favours 2 = .ok (.invokestatic 400, 3) := by decide +kernel
theorem dX12_favours_5 : decode cX12_favours 5 = .ok (.ifCond .eq 13, 3) := by decide +kernel
theorem dX12_favours_8 : decode cX12_favours 8 = .ok (.iload_n 3, 1) := by decide +kernel
theorem dX12_favours_9 : decode cX12_favours 9 = .ok (.iconst 0, 1) := by decide +kernel
theorem dX12_favours_10 : decode cX12_favours 10 = .ok (.bipush 99, 2) := by decide +kernel
theorem dX12_favours_12 : decode cX12_favours 12 = .ok (.invokestatic 63, 3) := by decide +kernel
theorem dX12_favours_15 : decode cX12_favours 15 = .ok (.ifCond .ne 5, 3) := by decide +kernel
theorem dX12_favours_18 : decode cX12_favours 18 = .ok (.iconst 0, 1) := by decide +kernel
theorem dX12_favours_19 : decode cX12_favours 19 = .ok (.ireturn, 1) := by decide +kernel
theorem dX12_favours_20 : decode cX12_favours 20 = .ok (.aload_n 0, 1) := by decide +kernel
theorem dX12_favours_21 : decode cX12_favours 21 = .ok (.getfield 7, 3) := by decide +kernel
theorem dX12_favours_24 : decode cX12_favours 24 = .ok (.bipush 82, 2) := by decide +kernel
theorem dX12_favours_26 : decode cX12_favours 26 = .ok (.iconst 5, 1) := by decide +kernel
theorem dX12_favours_27 : decode cX12_favours 27 = .ok (.iload_n 1, 1) := by decide +kernel
theorem dX12_favours_28 : decode cX12_favours 28 = .ok (.imul, 1) := by decide +kernel
theorem dX12_favours_29 : decode cX12_favours 29 = .ok (.iadd, 1) := by decide +kernel
theorem dX12_favours_30 : decode cX12_favours 30 = .ok (.iload_n 2, 1) := by decide +kernel
theorem dX12_favours_31 : decode cX12_favours 31 = .ok (.iadd, 1) := by decide +kernel
theorem dX12_favours_32 : decode cX12_favours 32 = .ok (.iload_n 3, 1) := by decide +kernel
theorem dX12_favours_33 : decode cX12_favours 33 = .ok (.iastore, 1) := by decide +kernel
theorem dX12_favours_34 : decode cX12_favours 34 = .ok (.iconst 1, 1) := by decide +kernel
theorem dX12_favours_35 : decode cX12_favours 35 = .ok (.ireturn, 1) := by decide +kernel
theorem dX12_wantOf_0 : decode cX12_wantOf 0 = .ok (.aload_n 0, 1) := by decide +kernel
theorem dX12_wantOf_1 : decode cX12_wantOf 1 = .ok (.getfield 7, 3) := by decide +kernel
theorem dX12_wantOf_4 : decode cX12_wantOf 4 = .ok (.bipush 52, 2) := by decide +kernel
theorem dX12_wantOf_6 : decode cX12_wantOf 6 = .ok (.bipush 6, 2) := by decide +kernel
theorem dX12_wantOf_8 : decode cX12_wantOf 8 = .ok (.iload_n 1, 1) := by decide +kernel
theorem dX12_wantOf_9 : decode cX12_wantOf 9 = .ok (.imul, 1) := by decide +kernel
theorem dX12_wantOf_10 : decode cX12_wantOf 10 = .ok (.iadd, 1) := by decide +kernel
theorem dX12_wantOf_11 : decode cX12_wantOf 11 = .ok (.iload_n 2, 1) := by decide +kernel
theorem dX12_wantOf_12 : decode cX12_wantOf 12 = .ok (.iadd, 1) := by decide +kernel
theorem dX12_wantOf_13 : decode cX12_wantOf 13 = .ok (.iaload, 1) := by decide +kernel
theorem dX12_wantOf_14 : decode cX12_wantOf 14 = .ok (.ireturn, 1) := by decide +kernel
theorem dX12_wouldHave_0 : decode cX12_wouldHave 0 = .ok (.aload_n 0, 1) := by decide +kernel
theorem dX12_wouldHave_1 : decode cX12_wouldHave 1 = .ok (.iload_n 1, 1) := by decide +kernel
theorem dX12_wouldHave_2 : decode cX12_wouldHave 2 = .ok (.iload_n 2, 1) := by decide +kernel
theorem dX12_wouldHave_3 : decode cX12_wouldHave 3 = .ok (.invokevirtual 403, 3) := by decide +kernel
theorem dX12_wouldHave_6 : decode cX12_wouldHave 6 = .ok (.ifCond .ne 5, 3) := by decide +kernel
theorem dX12_wouldHave_9 : decode cX12_wouldHave 9 = .ok (.iconst 0, 1) := by decide +kernel
theorem dX12_wouldHave_10 : decode cX12_wouldHave 10 = .ok (.ireturn, 1) := by decide +kernel
theorem dX12_wouldHave_11 : decode cX12_wouldHave 11 = .ok (.iload_n 3, 1) := by decide +kernel
theorem dX12_wouldHave_12 : decode cX12_wouldHave 12 = .ok (.iconst 0, 1) := by decide +kernel
theorem dX12_wouldHave_13 : decode cX12_wouldHave 13 = .ok (.iconst 5, 1) := by decide +kernel
theorem dX12_wouldHave_14 : decode cX12_wouldHave 14 = .ok (.invokestatic 63, 3) := by decide +kernel
theorem dX12_wouldHave_17 : decode cX12_wouldHave 17 = .ok (.ifCond .ne 5, 3) := by decide +kernel
theorem dX12_wouldHave_20 : decode cX12_wouldHave 20 = .ok (.iconst 1, 1) := by decide +kernel
theorem dX12_wouldHave_21 : decode cX12_wouldHave 21 = .ok (.ireturn, 1) := by decide +kernel
theorem dX12_wouldHave_22 : decode cX12_wouldHave 22 = .ok (.aload_n 0, 1) := by decide +kernel
theorem dX12_wouldHave_23 : decode cX12_wouldHave 23 = .ok (.iload_n 1, 1) := by decide +kernel
theorem dX12_wouldHave_24 : decode cX12_wouldHave 24 = .ok (.iload_n 2, 1) := by decide +kernel
theorem dX12_wouldHave_25 : decode cX12_wouldHave 25 = .ok (.invokevirtual 403, 3) := by decide +kernel
theorem dX12_wouldHave_28 : decode cX12_wouldHave 28 = .ok (.aload_n 0, 1) := by decide +kernel
theorem dX12_wouldHave_29 : decode cX12_wouldHave 29 = .ok (.iload_n 1, 1) := by decide +kernel
theorem dX12_wouldHave_30 : decode cX12_wouldHave 30 = .ok (.iload_n 3, 1) := by decide +kernel
theorem dX12_wouldHave_31 : decode cX12_wouldHave 31 = .ok (.invokevirtual 403, 3) := by decide +kernel
theorem dX12_wouldHave_34 : decode cX12_wouldHave 34 = .ok (.if_icmp .gt 23, 3) := by decide +kernel
theorem dX12_wouldHave_37 : decode cX12_wouldHave 37 = .ok (.aload_n 0, 1) := by decide +kernel
theorem dX12_wouldHave_38 : decode cX12_wouldHave 38 = .ok (.iload_n 1, 1) := by decide +kernel
theorem dX12_wouldHave_39 : decode cX12_wouldHave 39 = .ok (.iload_n 2, 1) := by decide +kernel
theorem dX12_wouldHave_40 : decode cX12_wouldHave 40 = .ok (.invokevirtual 403, 3) := by decide +kernel
theorem dX12_wouldHave_43 : decode cX12_wouldHave 43 = .ok (.aload_n 0, 1) := by decide +kernel
theorem dX12_wouldHave_44 : decode cX12_wouldHave 44 = .ok (.iload_n 1, 1) := by decide +kernel
theorem dX12_wouldHave_45 : decode cX12_wouldHave 45 = .ok (.iload_n 3, 1) := by decide +kernel
theorem dX12_wouldHave_46 : decode cX12_wouldHave 46 = .ok (.invokevirtual 403, 3) := by decide +kernel
theorem dX12_wouldHave_49 : decode cX12_wouldHave 49 = .ok (.if_icmp .ne 12, 3) := by decide +kernel
theorem dX12_wouldHave_52 : decode cX12_wouldHave 52 = .ok (.iload_n 2, 1) := by decide +kernel
theorem dX12_wouldHave_53 : decode cX12_wouldHave 53 = .ok (.iload_n 3, 1) := by decide +kernel
theorem dX12_wouldHave_54 : decode cX12_wouldHave 54 = .ok (.if_icmp .ge 7, 3) := by decide +kernel
theorem dX12_wouldHave_57 : decode cX12_wouldHave 57 = .ok (.iconst 1, 1) := by decide +kernel
theorem dX12_wouldHave_58 : decode cX12_wouldHave 58 = .ok (.goto 4, 3) := by decide +kernel
theorem dX12_wouldHave_61 : decode cX12_wouldHave 61 = .ok (.iconst 0, 1) := by decide +kernel
theorem dX12_wouldHave_62 : decode cX12_wouldHave 62 = .ok (.ireturn, 1) := by decide +kernel
theorem dX12_wouldBe_0 : decode cX12_wouldBe 0 = .ok (.iload_n 3, 1) := by decide +kernel
theorem dX12_wouldBe_1 : decode cX12_wouldBe 1 = .ok (.iconst (-1), 1) := by decide +kernel
theorem dX12_wouldBe_2 : decode cX12_wouldBe 2 = .ok (.if_icmp .ne 5, 3) := by decide +kernel
theorem dX12_wouldBe_5 : decode cX12_wouldBe 5 = .ok (.iconst 1, 1) := by decide +kernel
theorem dX12_wouldBe_6 : decode cX12_wouldBe 6 = .ok (.ireturn, 1) := by decide +kernel
theorem dX12_wouldBe_7 : decode cX12_wouldBe 7 = .ok (.aload_n 0, 1) := by decide +kernel
theorem dX12_wouldBe_8 : decode cX12_wouldBe 8 = .ok (.getfield 7, 3) := by decide +kernel
theorem dX12_wouldBe_11 : decode cX12_wouldBe 11 = .ok (.bipush 82, 2) := by decide +kernel
theorem dX12_wouldBe_13 : decode cX12_wouldBe 13 = .ok (.iconst 5, 1) := by decide +kernel
theorem dX12_wouldBe_14 : decode cX12_wouldBe 14 = .ok (.iload_n 1, 1) := by decide +kernel
theorem dX12_wouldBe_15 : decode cX12_wouldBe 15 = .ok (.imul, 1) := by decide +kernel
theorem dX12_wouldBe_16 : decode cX12_wouldBe 16 = .ok (.iadd, 1) := by decide +kernel
theorem dX12_wouldBe_17 : decode cX12_wouldBe 17 = .ok (.iload_n 2, 1) := by decide +kernel
theorem dX12_wouldBe_18 : decode cX12_wouldBe 18 = .ok (.iadd, 1) := by decide +kernel
theorem dX12_wouldBe_19 : decode cX12_wouldBe 19 = .ok (.iaload, 1) := by decide +kernel
theorem dX12_wouldBe_20 : decode cX12_wouldBe 20 = .ok (.aload_n 0, 1) := by decide +kernel
theorem dX12_wouldBe_21 : decode cX12_wouldBe 21 = .ok (.getfield 7, 3) := by decide +kernel
theorem dX12_wouldBe_24 : decode cX12_wouldBe 24 = .ok (.bipush 82, 2) := by decide +kernel
theorem dX12_wouldBe_26 : decode cX12_wouldBe 26 = .ok (.iconst 5, 1) := by decide +kernel
theorem dX12_wouldBe_27 : decode cX12_wouldBe 27 = .ok (.iload_n 1, 1) := by decide +kernel
theorem dX12_wouldBe_28 : decode cX12_wouldBe 28 = .ok (.imul, 1) := by decide +kernel
theorem dX12_wouldBe_29 : decode cX12_wouldBe 29 = .ok (.iadd, 1) := by decide +kernel
theorem dX12_wouldBe_30 : decode cX12_wouldBe 30 = .ok (.iload_n 3, 1) := by decide +kernel
theorem dX12_wouldBe_31 : decode cX12_wouldBe 31 = .ok (.iadd, 1) := by decide +kernel
theorem dX12_wouldBe_32 : decode cX12_wouldBe 32 = .ok (.iaload, 1) := by decide +kernel
theorem dX12_wouldBe_33 : decode cX12_wouldBe 33 = .ok (.isub, 1) := by decide +kernel
theorem dX12_wouldBe_34 : decode cX12_wouldBe 34 = .ok (.istore 4, 2) := by decide +kernel
theorem dX12_wouldBe_36 : decode cX12_wouldBe 36 = .ok (.iload 4, 2) := by decide +kernel
theorem dX12_wouldBe_38 : decode cX12_wouldBe 38 = .ok (.ifCond .gt 13, 3) := by decide +kernel
theorem dX12_wouldBe_41 : decode cX12_wouldBe 41 = .ok (.iload 4, 2) := by decide +kernel
theorem dX12_wouldBe_43 : decode cX12_wouldBe 43 = .ok (.ifCond .ne 12, 3) := by decide +kernel
theorem dX12_wouldBe_46 : decode cX12_wouldBe 46 = .ok (.iload_n 2, 1) := by decide +kernel
theorem dX12_wouldBe_47 : decode cX12_wouldBe 47 = .ok (.iload_n 3, 1) := by decide +kernel
theorem dX12_wouldBe_48 : decode cX12_wouldBe 48 = .ok (.if_icmp .ge 7, 3) := by decide +kernel
theorem dX12_wouldBe_51 : decode cX12_wouldBe 51 = .ok (.iconst 1, 1) := by decide +kernel
theorem dX12_wouldBe_52 : decode cX12_wouldBe 52 = .ok (.goto 4, 3) := by decide +kernel
theorem dX12_wouldBe_55 : decode cX12_wouldBe 55 = .ok (.iconst 0, 1) := by decide +kernel
theorem dX12_wouldBe_56 : decode cX12_wouldBe 56 = .ok (.ireturn, 1) := by decide +kernel
theorem dX12_layWith_0 : decode cX12_layWith 0 = .ok (.iconst 0, 1) := by decide +kernel
theorem dX12_layWith_1 : decode cX12_layWith 1 = .ok (.istore_n 1, 1) := by decide +kernel
theorem dX12_layWith_2 : decode cX12_layWith 2 = .ok (.iload_n 1, 1) := by decide +kernel
theorem dX12_layWith_3 : decode cX12_layWith 3 = .ok (.bipush 6, 2) := by decide +kernel
theorem dX12_layWith_5 : decode cX12_layWith 5 = .ok (.if_icmp .ge 16, 3) := by decide +kernel
theorem dX12_layWith_8 : decode cX12_layWith 8 = .ok (.aload_n 0, 1) := by decide +kernel
theorem dX12_layWith_9 : decode cX12_layWith 9 = .ok (.getfield 53, 3) := by decide +kernel
theorem dX12_layWith_12 : decode cX12_layWith 12 = .ok (.iload_n 1, 1) := by decide +kernel
theorem dX12_layWith_13 : decode cX12_layWith 13 = .ok (.iconst (-1), 1) := by decide +kernel
theorem dX12_layWith_14 : decode cX12_layWith 14 = .ok (.iastore, 1) := by decide +kernel
theorem dX12_layWith_15 : decode cX12_layWith 15 = .ok (.iinc 1 1, 3) := by decide +kernel
theorem dX12_layWith_18 : decode cX12_layWith 18 = .ok (.goto (-16), 3) := by decide +kernel
theorem dX12_layWith_21 : decode cX12_layWith 21 = .ok (.iconst 0, 1) := by decide +kernel
theorem dX12_layWith_22 : decode cX12_layWith 22 = .ok (.istore_n 1, 1) := by decide +kernel
theorem dX12_layWith_23 : decode cX12_layWith 23 = .ok (.iload_n 1, 1) := by decide +kernel
theorem dX12_layWith_24 : decode cX12_layWith 24 = .ok (.aload_n 0, 1) := by decide +kernel
theorem dX12_layWith_25 : decode cX12_layWith 25 = .ok (.getfield 7, 3) := by decide +kernel
theorem dX12_layWith_28 : decode cX12_layWith 28 = .ok (.iconst 1, 1) := by decide +kernel
theorem dX12_layWith_29 : decode cX12_layWith 29 = .ok (.iaload, 1) := by decide +kernel
theorem dX12_layWith_30 : decode cX12_layWith 30 = .ok (.if_icmp .ge 54, 3) := by decide +kernel
theorem dX12_layWith_33 : decode cX12_layWith 33 = .ok (.aload_n 0, 1) := by decide +kernel
theorem dX12_layWith_34 : decode cX12_layWith 34 = .ok (.aload_n 0, 1) := by decide +kernel
theorem dX12_layWith_35 : decode cX12_layWith 35 = .ok (.getfield 50, 3) := by decide +kernel
theorem dX12_layWith_38 : decode cX12_layWith 38 = .ok (.iload_n 1, 1) := by decide +kernel
theorem dX12_layWith_39 : decode cX12_layWith 39 = .ok (.iaload, 1) := by decide +kernel
theorem dX12_layWith_40 : decode cX12_layWith 40 = .ok (.invokevirtual 261, 3) := by decide +kernel
theorem dX12_layWith_43 : decode cX12_layWith 43 = .ok (.ifCond .ne 6, 3) := by decide +kernel
theorem dX12_layWith_46 : decode cX12_layWith 46 = .ok (.goto 32, 3) := by decide +kernel
theorem dX12_layWith_49 : decode cX12_layWith 49 = .ok (.aload_n 0, 1) := by decide +kernel
theorem dX12_layWith_50 : decode cX12_layWith 50 = .ok (.getfield 53, 3) := by decide +kernel
theorem dX12_layWith_53 : decode cX12_layWith 53 = .ok (.aload_n 0, 1) := by decide +kernel
theorem dX12_layWith_54 : decode cX12_layWith 54 = .ok (.getfield 50, 3) := by decide +kernel
theorem dX12_layWith_57 : decode cX12_layWith 57 = .ok (.iload_n 1, 1) := by decide +kernel
theorem dX12_layWith_58 : decode cX12_layWith 58 = .ok (.iaload, 1) := by decide +kernel
theorem dX12_layWith_59 : decode cX12_layWith 59 = .ok (.iaload, 1) := by decide +kernel
theorem dX12_layWith_60 : decode cX12_layWith 60 = .ok (.iconst (-1), 1) := by decide +kernel
theorem dX12_layWith_61 : decode cX12_layWith 61 = .ok (.if_icmp .eq 5, 3) := by decide +kernel
theorem dX12_layWith_64 : decode cX12_layWith 64 = .ok (.iconst 0, 1) := by decide +kernel
theorem dX12_layWith_65 : decode cX12_layWith 65 = .ok (.ireturn, 1) := by decide +kernel
theorem dX12_layWith_66 : decode cX12_layWith 66 = .ok (.aload_n 0, 1) := by decide +kernel
theorem dX12_layWith_67 : decode cX12_layWith 67 = .ok (.getfield 53, 3) := by decide +kernel
theorem dX12_layWith_70 : decode cX12_layWith 70 = .ok (.aload_n 0, 1) := by decide +kernel
theorem dX12_layWith_71 : decode cX12_layWith 71 = .ok (.getfield 50, 3) := by decide +kernel
theorem dX12_layWith_74 : decode cX12_layWith 74 = .ok (.iload_n 1, 1) := by decide +kernel
theorem dX12_layWith_75 : decode cX12_layWith 75 = .ok (.iaload, 1) := by decide +kernel
theorem dX12_layWith_76 : decode cX12_layWith 76 = .ok (.iload_n 1, 1) := by decide +kernel
theorem dX12_layWith_77 : decode cX12_layWith 77 = .ok (.iastore, 1) := by decide +kernel
theorem dX12_layWith_78 : decode cX12_layWith 78 = .ok (.iinc 1 1, 3) := by decide +kernel
theorem dX12_layWith_81 : decode cX12_layWith 81 = .ok (.goto (-58), 3) := by decide +kernel
theorem dX12_layWith_84 : decode cX12_layWith 84 = .ok (.iconst 1, 1) := by decide +kernel
theorem dX12_layWith_85 : decode cX12_layWith 85 = .ok (.ireturn, 1) := by decide +kernel
theorem dX12_pairsThatWould_0 : decode cX12_pairsThatWould 0 = .ok (.iconst 0, 1) := by decide +kernel
theorem dX12_pairsThatWould_1 : decode cX12_pairsThatWould 1 = .ok (.istore_n 1, 1) := by decide +kernel
theorem dX12_pairsThatWould_2 : decode cX12_pairsThatWould 2 = .ok (.iconst 0, 1) := by decide +kernel
theorem dX12_pairsThatWould_3 : decode cX12_pairsThatWould 3 = .ok (.istore_n 2, 1) := by decide +kernel
theorem dX12_pairsThatWould_4 : decode cX12_pairsThatWould 4 = .ok (.iload_n 2, 1) := by decide +kernel
theorem dX12_pairsThatWould_5 : decode cX12_pairsThatWould 5 = .ok (.aload_n 0, 1) := by decide +kernel
theorem dX12_pairsThatWould_6 : decode cX12_pairsThatWould 6 = .ok (.getfield 7, 3) := by decide +kernel
theorem dX12_pairsThatWould_9 : decode cX12_pairsThatWould 9 = .ok (.iconst 1, 1) := by decide +kernel
theorem dX12_pairsThatWould_10 : decode cX12_pairsThatWould 10 = .ok (.iaload, 1) := by decide +kernel
theorem dX12_pairsThatWould_11 : decode cX12_pairsThatWould 11 = .ok (.if_icmp .ge 75, 3) := by decide +kernel
theorem dX12_pairsThatWould_14 : decode cX12_pairsThatWould 14 = .ok (.iconst 0, 1) := by decide +kernel
theorem dX12_pairsThatWould_15 : decode cX12_pairsThatWould 15 = .ok (.istore_n 3, 1) := by decide +kernel
theorem dX12_pairsThatWould_16 : decode cX12_pairsThatWould 16 = .ok (.iload_n 3, 1) := by decide +kernel
theorem dX12_pairsThatWould_17 : decode cX12_pairsThatWould 17 = .ok (.aload_n 0, 1) := by decide +kernel
theorem dX12_pairsThatWould_18 : decode cX12_pairsThatWould 18 = .ok (.getfield 7, 3) := by decide +kernel
theorem dX12_pairsThatWould_21 : decode cX12_pairsThatWould 21 = .ok (.iconst 0, 1) := by decide +kernel
theorem dX12_pairsThatWould_22 : decode cX12_pairsThatWould 22 = .ok (.iaload, 1) := by decide +kernel
theorem dX12_pairsThatWould_23 : decode cX12_pairsThatWould 23 = .ok (.if_icmp .ge 57, 3) := by decide +kernel
theorem dX12_pairsThatWould_26 : decode cX12_pairsThatWould 26 = .ok (.iload_n 1, 1) := by decide +kernel
theorem dX12_pairsThatWould_27 : decode cX12_pairsThatWould 27 = .ok (.aload_n 0, 1) := by decide +kernel
theorem dX12_pairsThatWould_28 : decode cX12_pairsThatWould 28 = .ok (.getfield 50, 3) := by decide +kernel
theorem dX12_pairsThatWould_31 : decode cX12_pairsThatWould 31 = .ok (.iload_n 2, 1) := by decide +kernel
theorem dX12_pairsThatWould_32 : decode cX12_pairsThatWould 32 = .ok (.iaload, 1) := by decide +kernel
theorem dX12_pairsThatWould_33 : decode cX12_pairsThatWould 33 = .ok (.iload_n 3, 1) := by decide +kernel
theorem dX12_pairsThatWould_34 : decode cX12_pairsThatWould 34 = .ok (.if_icmp .eq 37, 3) := by decide +kernel
theorem dX12_pairsThatWould_37 : decode cX12_pairsThatWould 37 = .ok (.aload_n 0, 1) := by decide +kernel
theorem dX12_pairsThatWould_38 : decode cX12_pairsThatWould 38 = .ok (.iload_n 2, 1) := by decide +kernel
theorem dX12_pairsThatWould_39 : decode cX12_pairsThatWould 39 = .ok (.iload_n 3, 1) := by decide +kernel
theorem dX12_pairsThatWould_40 : decode cX12_pairsThatWould 40 = .ok (.aload_n 0, 1) := by decide +kernel
theorem dX12_pairsThatWould_41 : decode cX12_pairsThatWould 41 = .ok (.getfield 50, 3) := by decide +kernel
theorem dX12_pairsThatWould_44 : decode cX12_pairsThatWould 44 = .ok (.iload_n 2, 1) := by decide +kernel
theorem dX12_pairsThatWould_45 : decode cX12_pairsThatWould 45 = .ok (.iaload, 1) := by decide +kernel
theorem dX12_pairsThatWould_46 : decode cX12_pairsThatWould 46 = .ok (.invokevirtual 406, 3) := by decide +kernel
theorem dX12_pairsThatWould_49 : decode cX12_pairsThatWould 49 = .ok (.ifCond .eq 22, 3) := by decide +kernel
theorem dX12_pairsThatWould_52 : decode cX12_pairsThatWould 52 = .ok (.aload_n 0, 1) := by decide +kernel
theorem dX12_pairsThatWould_53 : decode cX12_pairsThatWould 53 = .ok (.iload_n 3, 1) := by decide +kernel
theorem dX12_pairsThatWould_54 : decode cX12_pairsThatWould 54 = .ok (.iload_n 2, 1) := by decide +kernel
theorem dX12_pairsThatWould_55 : decode cX12_pairsThatWould 55 = .ok (.aload_n 0, 1) := by decide +kernel
theorem dX12_pairsThatWould_56 : decode cX12_pairsThatWould 56 = .ok (.getfield 53, 3) := by decide +kernel
theorem dX12_pairsThatWould_59 : decode cX12_pairsThatWould 59 = .ok (.iload_n 3, 1) := by decide +kernel
theorem dX12_pairsThatWould_60 : decode cX12_pairsThatWould 60 = .ok (.iaload, 1) := by decide +kernel
theorem dX12_pairsThatWould_61 : decode cX12_pairsThatWould 61 = .ok (.invokevirtual 409, 3) := by decide +kernel
theorem dX12_pairsThatWould_64 : decode cX12_pairsThatWould 64 = .ok (.ifCond .eq 7, 3) := by decide +kernel
theorem dX12_pairsThatWould_67 : decode cX12_pairsThatWould 67 = .ok (.iconst 1, 1) := by decide +kernel
theorem dX12_pairsThatWould_68 : decode cX12_pairsThatWould 68 = .ok (.goto 4, 3) := by decide +kernel
theorem dX12_pairsThatWould_71 : decode cX12_pairsThatWould 71 = .ok (.iconst 0, 1) := by decide +kernel
theorem dX12_pairsThatWould_72 : decode cX12_pairsThatWould 72 = .ok (.iadd, 1) := by decide +kernel
theorem dX12_pairsThatWould_73 : decode cX12_pairsThatWould 73 = .ok (.istore_n 1, 1) := by decide +kernel
theorem dX12_pairsThatWould_74 : decode cX12_pairsThatWould 74 = .ok (.iinc 3 1, 3) := by decide +kernel
theorem dX12_pairsThatWould_77 : decode cX12_pairsThatWould 77 = .ok (.goto (-61), 3) := by decide +kernel
theorem dX12_pairsThatWould_80 : decode cX12_pairsThatWould 80 = .ok (.iinc 2 1, 3) := by decide +kernel
theorem dX12_pairsThatWould_83 : decode cX12_pairsThatWould 83 = .ok (.goto (-79), 3) := by decide +kernel
theorem dX12_pairsThatWould_86 : decode cX12_pairsThatWould 86 = .ok (.iload_n 1, 1) := by decide +kernel
theorem dX12_pairsThatWould_87 : decode cX12_pairsThatWould 87 = .ok (.ireturn, 1) := by decide +kernel
theorem dX12_isWay_0 : decode cX12_isWay 0 = .ok (.iload_n 1, 1) := by decide +kernel
theorem dX12_isWay_1 : decode cX12_isWay 1 = .ok (.istore_n 2, 1) := by decide +kernel
theorem dX12_isWay_2 : decode cX12_isWay 2 = .ok (.iconst 0, 1) := by decide +kernel
theorem dX12_isWay_3 : decode cX12_isWay 3 = .ok (.istore_n 3, 1) := by decide +kernel
theorem dX12_isWay_4 : decode cX12_isWay 4 = .ok (.iload_n 3, 1) := by decide +kernel
theorem dX12_isWay_5 : decode cX12_isWay 5 = .ok (.aload_n 0, 1) := by decide +kernel
theorem dX12_isWay_6 : decode cX12_isWay 6 = .ok (.getfield 7, 3) := by decide +kernel
theorem dX12_isWay_9 : decode cX12_isWay 9 = .ok (.iconst 1, 1) := by decide +kernel
theorem dX12_isWay_10 : decode cX12_isWay 10 = .ok (.iaload, 1) := by decide +kernel
theorem dX12_isWay_11 : decode cX12_isWay 11 = .ok (.if_icmp .ge 64, 3) := by decide +kernel
theorem dX12_isWay_14 : decode cX12_isWay 14 = .ok (.aload_n 0, 1) := by decide +kernel
theorem dX12_isWay_15 : decode cX12_isWay 15 = .ok (.getfield 50, 3) := by decide +kernel
theorem dX12_isWay_18 : decode cX12_isWay 18 = .ok (.iload_n 3, 1) := by decide +kernel
theorem dX12_isWay_19 : decode cX12_isWay 19 = .ok (.iload_n 2, 1) := by decide +kernel
theorem dX12_isWay_20 : decode cX12_isWay 20 = .ok (.bipush 7, 2) := by decide +kernel
theorem dX12_isWay_22 : decode cX12_isWay 22 = .ok (.irem, 1) := by decide +kernel
theorem dX12_isWay_23 : decode cX12_isWay 23 = .ok (.iastore, 1) := by decide +kernel
theorem dX12_isWay_24 : decode cX12_isWay 24 = .ok (.iload_n 2, 1) := by decide +kernel
theorem dX12_isWay_25 : decode cX12_isWay 25 = .ok (.bipush 7, 2) := by decide +kernel
theorem dX12_isWay_27 : decode cX12_isWay 27 = .ok (.idiv, 1) := by decide +kernel
theorem dX12_isWay_28 : decode cX12_isWay 28 = .ok (.istore_n 2, 1) := by decide +kernel
theorem dX12_isWay_29 : decode cX12_isWay 29 = .ok (.aload_n 0, 1) := by decide +kernel
theorem dX12_isWay_30 : decode cX12_isWay 30 = .ok (.getfield 50, 3) := by decide +kernel
theorem dX12_isWay_33 : decode cX12_isWay 33 = .ok (.iload_n 3, 1) := by decide +kernel
theorem dX12_isWay_34 : decode cX12_isWay 34 = .ok (.iaload, 1) := by decide +kernel
theorem dX12_isWay_35 : decode cX12_isWay 35 = .ok (.bipush 6, 2) := by decide +kernel
theorem dX12_isWay_37 : decode cX12_isWay 37 = .ok (.if_icmp .eq 32, 3) := by decide +kernel
theorem dX12_isWay_40 : decode cX12_isWay 40 = .ok (.aload_n 0, 1) := by decide +kernel
theorem dX12_isWay_41 : decode cX12_isWay 41 = .ok (.aload_n 0, 1) := by decide +kernel
theorem dX12_isWay_42 : decode cX12_isWay 42 = .ok (.getfield 50, 3) := by decide +kernel
theorem dX12_isWay_45 : decode cX12_isWay 45 = .ok (.iload_n 3, 1) := by decide +kernel
theorem dX12_isWay_46 : decode cX12_isWay 46 = .ok (.iaload, 1) := by decide +kernel
theorem dX12_isWay_47 : decode cX12_isWay 47 = .ok (.invokevirtual 261, 3) := by decide +kernel
theorem dX12_isWay_50 : decode cX12_isWay 50 = .ok (.ifCond .eq 17, 3) := by decide +kernel
theorem dX12_isWay_53 : decode cX12_isWay 53 = .ok (.aload_n 0, 1) := by decide +kernel
theorem dX12_isWay_54 : decode cX12_isWay 54 = .ok (.iload_n 3, 1) := by decide +kernel
theorem dX12_isWay_55 : decode cX12_isWay 55 = .ok (.aload_n 0, 1) := by decide +kernel
theorem dX12_isWay_56 : decode cX12_isWay 56 = .ok (.getfield 50, 3) := by decide +kernel
theorem dX12_isWay_59 : decode cX12_isWay 59 = .ok (.iload_n 3, 1) := by decide +kernel
theorem dX12_isWay_60 : decode cX12_isWay 60 = .ok (.iaload, 1) := by decide +kernel
theorem dX12_isWay_61 : decode cX12_isWay 61 = .ok (.invokevirtual 403, 3) := by decide +kernel
theorem dX12_isWay_64 : decode cX12_isWay 64 = .ok (.ifCond .ne 5, 3) := by decide +kernel
theorem dX12_isWay_67 : decode cX12_isWay 67 = .ok (.iconst 0, 1) := by decide +kernel
theorem dX12_isWay_68 : decode cX12_isWay 68 = .ok (.ireturn, 1) := by decide +kernel
theorem dX12_isWay_69 : decode cX12_isWay 69 = .ok (.iinc 3 1, 3) := by decide +kernel
theorem dX12_isWay_72 : decode cX12_isWay 72 = .ok (.goto (-68), 3) := by decide +kernel
theorem dX12_isWay_75 : decode cX12_isWay 75 = .ok (.aload_n 0, 1) := by decide +kernel
theorem dX12_isWay_76 : decode cX12_isWay 76 = .ok (.invokevirtual 412, 3) := by decide +kernel
theorem dX12_isWay_79 : decode cX12_isWay 79 = .ok (.ifCond .eq 14, 3) := by decide +kernel
theorem dX12_isWay_82 : decode cX12_isWay 82 = .ok (.aload_n 0, 1) := by decide +kernel
theorem dX12_isWay_83 : decode cX12_isWay 83 = .ok (.invokevirtual 415, 3) := by decide +kernel
theorem dX12_isWay_86 : decode cX12_isWay 86 = .ok (.ifCond .ne 7, 3) := by decide +kernel
theorem dX12_isWay_89 : decode cX12_isWay 89 = .ok (.iconst 1, 1) := by decide +kernel
theorem dX12_isWay_90 : decode cX12_isWay 90 = .ok (.goto 4, 3) := by decide +kernel
theorem dX12_isWay_93 : decode cX12_isWay 93 = .ok (.iconst 0, 1) := by decide +kernel
theorem dX12_isWay_94 : decode cX12_isWay 94 = .ok (.ireturn, 1) := by decide +kernel
theorem dX12_codes_0 : decode cX12_codes 0 = .ok (.iconst 1, 1) := by decide +kernel
theorem dX12_codes_1 : decode cX12_codes 1 = .ok (.istore_n 1, 1) := by decide +kernel
theorem dX12_codes_2 : decode cX12_codes 2 = .ok (.iconst 0, 1) := by decide +kernel
theorem dX12_codes_3 : decode cX12_codes 3 = .ok (.istore_n 2, 1) := by decide +kernel
theorem dX12_codes_4 : decode cX12_codes 4 = .ok (.iload_n 2, 1) := by decide +kernel
theorem dX12_codes_5 : decode cX12_codes 5 = .ok (.aload_n 0, 1) := by decide +kernel
theorem dX12_codes_6 : decode cX12_codes 6 = .ok (.getfield 7, 3) := by decide +kernel
theorem dX12_codes_9 : decode cX12_codes 9 = .ok (.iconst 1, 1) := by decide +kernel
theorem dX12_codes_10 : decode cX12_codes 10 = .ok (.iaload, 1) := by decide +kernel
theorem dX12_codes_11 : decode cX12_codes 11 = .ok (.if_icmp .ge 14, 3) := by decide +kernel
theorem dX12_codes_14 : decode cX12_codes 14 = .ok (.iload_n 1, 1) := by decide +kernel
theorem dX12_codes_15 : decode cX12_codes 15 = .ok (.bipush 7, 2) := by decide +kernel
theorem dX12_codes_17 : decode cX12_codes 17 = .ok (.imul, 1) := by decide +kernel
theorem dX12_codes_18 : decode cX12_codes 18 = .ok (.istore_n 1, 1) := by decide +kernel
theorem dX12_codes_19 : decode cX12_codes 19 = .ok (.iinc 2 1, 3) := by decide +kernel
theorem dX12_codes_22 : decode cX12_codes 22 = .ok (.goto (-18), 3) := by decide +kernel
theorem dX12_codes_25 : decode cX12_codes 25 = .ok (.iload_n 1, 1) := by decide +kernel
theorem dX12_codes_26 : decode cX12_codes 26 = .ok (.ireturn, 1) := by decide +kernel
theorem dX12_stables_0 : decode cX12_stables 0 = .ok (.iconst 0, 1) := by decide +kernel
theorem dX12_stables_1 : decode cX12_stables 1 = .ok (.istore_n 1, 1) := by decide +kernel
theorem dX12_stables_2 : decode cX12_stables 2 = .ok (.iconst 0, 1) := by decide +kernel
theorem dX12_stables_3 : decode cX12_stables 3 = .ok (.istore_n 2, 1) := by decide +kernel
theorem dX12_stables_4 : decode cX12_stables 4 = .ok (.iload_n 2, 1) := by decide +kernel
theorem dX12_stables_5 : decode cX12_stables 5 = .ok (.aload_n 0, 1) := by decide +kernel
theorem dX12_stables_6 : decode cX12_stables 6 = .ok (.invokevirtual 418, 3) := by decide +kernel
theorem dX12_stables_9 : decode cX12_stables 9 = .ok (.if_icmp .ge 25, 3) := by decide +kernel
theorem dX12_stables_12 : decode cX12_stables 12 = .ok (.iload_n 1, 1) := by decide +kernel
theorem dX12_stables_13 : decode cX12_stables 13 = .ok (.aload_n 0, 1) := by decide +kernel
theorem dX12_stables_14 : decode cX12_stables 14 = .ok (.iload_n 2, 1) := by decide +kernel
theorem dX12_stables_15 : decode cX12_stables 15 = .ok (.invokevirtual 421, 3) := by decide +kernel
theorem dX12_stables_18 : decode cX12_stables 18 = .ok (.ifCond .eq 7, 3) := by decide +kernel
theorem dX12_stables_21 : decode cX12_stables 21 = .ok (.iconst 1, 1) := by decide +kernel
theorem dX12_stables_22 : decode cX12_stables 22 = .ok (.goto 4, 3) := by decide +kernel
theorem dX12_stables_25 : decode cX12_stables 25 = .ok (.iconst 0, 1) := by decide +kernel
theorem dX12_stables_26 : decode cX12_stables 26 = .ok (.iadd, 1) := by decide +kernel
theorem dX12_stables_27 : decode cX12_stables 27 = .ok (.istore_n 1, 1) := by decide +kernel
theorem dX12_stables_28 : decode cX12_stables 28 = .ok (.iinc 2 1, 3) := by decide +kernel
theorem dX12_stables_31 : decode cX12_stables 31 = .ok (.goto (-27), 3) := by decide +kernel
theorem dX12_stables_34 : decode cX12_stables 34 = .ok (.iload_n 1, 1) := by decide +kernel
theorem dX12_stables_35 : decode cX12_stables 35 = .ok (.ireturn, 1) := by decide +kernel
theorem dX12_stable_0 : decode cX12_stable 0 = .ok (.aload_n 0, 1) := by decide +kernel
theorem dX12_stable_1 : decode cX12_stable 1 = .ok (.iload_n 1, 1) := by decide +kernel
theorem dX12_stable_2 : decode cX12_stable 2 = .ok (.invokevirtual 351, 3) := by decide +kernel
theorem dX12_stable_5 : decode cX12_stable 5 = .ok (.ifCond .ne 5, 3) := by decide +kernel
theorem dX12_stable_8 : decode cX12_stable 8 = .ok (.iconst (-1), 1) := by decide +kernel
theorem dX12_stable_9 : decode cX12_stable 9 = .ok (.ireturn, 1) := by decide +kernel
theorem dX12_stable_10 : decode cX12_stable 10 = .ok (.iconst (-1), 1) := by decide +kernel
theorem dX12_stable_11 : decode cX12_stable 11 = .ok (.istore_n 3, 1) := by decide +kernel
theorem dX12_stable_12 : decode cX12_stable 12 = .ok (.iconst 0, 1) := by decide +kernel
theorem dX12_stable_13 : decode cX12_stable 13 = .ok (.istore 4, 2) := by decide +kernel
theorem dX12_stable_15 : decode cX12_stable 15 = .ok (.iload 4, 2) := by decide +kernel
theorem dX12_stable_17 : decode cX12_stable 17 = .ok (.aload_n 0, 1) := by decide +kernel
theorem dX12_stable_18 : decode cX12_stable 18 = .ok (.invokevirtual 418, 3) := by decide +kernel
theorem dX12_stable_21 : decode cX12_stable 21 = .ok (.if_icmp .ge 70, 3) := by decide +kernel
theorem dX12_stable_24 : decode cX12_stable 24 = .ok (.aload_n 0, 1) := by decide +kernel
theorem dX12_stable_25 : decode cX12_stable 25 = .ok (.iload 4, 2) := by decide +kernel
theorem dX12_stable_27 : decode cX12_stable 27 = .ok (.invokevirtual 421, 3) := by decide +kernel
theorem dX12_stable_30 : decode cX12_stable 30 = .ok (.ifCond .eq 55, 3) := by decide +kernel
theorem dX12_stable_33 : decode cX12_stable 33 = .ok (.aload_n 0, 1) := by decide +kernel
theorem dX12_stable_34 : decode cX12_stable 34 = .ok (.getfield 50, 3) := by decide +kernel
theorem dX12_stable_37 : decode cX12_stable 37 = .ok (.iload_n 1, 1) := by decide +kernel
theorem dX12_stable_38 : decode cX12_stable 38 = .ok (.iaload, 1) := by decide +kernel
theorem dX12_stable_39 : decode cX12_stable 39 = .ok (.bipush 6, 2) := by decide +kernel
theorem dX12_stable_41 : decode cX12_stable 41 = .ok (.if_icmp .ne 6, 3) := by decide +kernel
theorem dX12_stable_44 : decode cX12_stable 44 = .ok (.goto 41, 3) := by decide +kernel
theorem dX12_stable_47 : decode cX12_stable 47 = .ok (.iload_n 3, 1) := by decide +kernel
theorem dX12_stable_48 : decode cX12_stable 48 = .ok (.iconst (-1), 1) := by decide +kernel
theorem dX12_stable_49 : decode cX12_stable 49 = .ok (.if_icmp .eq 29, 3) := by decide +kernel
theorem dX12_stable_52 : decode cX12_stable 52 = .ok (.aload_n 0, 1) := by decide +kernel
theorem dX12_stable_53 : decode cX12_stable 53 = .ok (.getfield 50, 3) := by decide +kernel
theorem dX12_stable_56 : decode cX12_stable 56 = .ok (.iload_n 1, 1) := by decide +kernel
theorem dX12_stable_57 : decode cX12_stable 57 = .ok (.iaload, 1) := by decide +kernel
theorem dX12_stable_58 : decode cX12_stable 58 = .ok (.iload_n 3, 1) := by decide +kernel
theorem dX12_stable_59 : decode cX12_stable 59 = .ok (.if_icmp .eq 26, 3) := by decide +kernel
theorem dX12_stable_62 : decode cX12_stable 62 = .ok (.aload_n 0, 1) := by decide +kernel
theorem dX12_stable_63 : decode cX12_stable 63 = .ok (.iload_n 1, 1) := by decide +kernel
theorem dX12_stable_64 : decode cX12_stable 64 = .ok (.aload_n 0, 1) := by decide +kernel
theorem dX12_stable_65 : decode cX12_stable 65 = .ok (.getfield 50, 3) := by decide +kernel
theorem dX12_stable_68 : decode cX12_stable 68 = .ok (.iload_n 1, 1) := by decide +kernel
theorem dX12_stable_69 : decode cX12_stable 69 = .ok (.iaload, 1) := by decide +kernel
theorem dX12_stable_70 : decode cX12_stable 70 = .ok (.iload_n 3, 1) := by decide +kernel
theorem dX12_stable_71 : decode cX12_stable 71 = .ok (.invokevirtual 406, 3) := by decide +kernel
theorem dX12_stable_74 : decode cX12_stable 74 = .ok (.iload_n 2, 1) := by decide +kernel
theorem dX12_stable_75 : decode cX12_stable 75 = .ok (.if_icmp .ne 10, 3) := by decide +kernel
theorem dX12_stable_78 : decode cX12_stable 78 = .ok (.aload_n 0, 1) := by decide +kernel
theorem dX12_stable_79 : decode cX12_stable 79 = .ok (.getfield 50, 3) := by decide +kernel
theorem dX12_stable_82 : decode cX12_stable 82 = .ok (.iload_n 1, 1) := by decide +kernel
theorem dX12_stable_83 : decode cX12_stable 83 = .ok (.iaload, 1) := by decide +kernel
theorem dX12_stable_84 : decode cX12_stable 84 = .ok (.istore_n 3, 1) := by decide +kernel
theorem dX12_stable_85 : decode cX12_stable 85 = .ok (.iinc 4 1, 3) := by decide +kernel
theorem dX12_stable_88 : decode cX12_stable 88 = .ok (.goto (-73), 3) := by decide +kernel
theorem dX12_stable_91 : decode cX12_stable 91 = .ok (.iload_n 3, 1) := by decide +kernel
theorem dX12_stable_92 : decode cX12_stable 92 = .ok (.ireturn, 1) := by decide +kernel
theorem dX12_give_0 : decode cX12_give 0 = .ok (.aload_n 0, 1) := by decide +kernel
theorem dX12_give_1 : decode cX12_give 1 = .ok (.iload_n 1, 1) := by decide +kernel
theorem dX12_give_2 : decode cX12_give 2 = .ok (.invokevirtual 351, 3) := by decide +kernel
theorem dX12_give_5 : decode cX12_give 5 = .ok (.ifCond .eq 16, 3) := by decide +kernel
theorem dX12_give_8 : decode cX12_give 8 = .ok (.iload_n 2, 1) := by decide +kernel
theorem dX12_give_9 : decode cX12_give 9 = .ok (.iconst (-1), 1) := by decide +kernel
theorem dX12_give_10 : decode cX12_give 10 = .ok (.if_icmp .eq 13, 3) := by decide +kernel
theorem dX12_give_13 : decode cX12_give 13 = .ok (.aload_n 0, 1) := by decide +kernel
theorem dX12_give_14 : decode cX12_give 14 = .ok (.iload_n 2, 1) := by decide +kernel
theorem dX12_give_15 : decode cX12_give 15 = .ok (.invokevirtual 261, 3) := by decide +kernel
theorem dX12_give_18 : decode cX12_give 18 = .ok (.ifCond .ne 5, 3) := by decide +kernel
theorem dX12_give_21 : decode cX12_give 21 = .ok (.iconst 0, 1) := by decide +kernel
theorem dX12_give_22 : decode cX12_give 22 = .ok (.ireturn, 1) := by decide +kernel
theorem dX12_give_23 : decode cX12_give 23 = .ok (.iconst 0, 1) := by decide +kernel
theorem dX12_give_24 : decode cX12_give 24 = .ok (.istore_n 3, 1) := by decide +kernel
theorem dX12_give_25 : decode cX12_give 25 = .ok (.iload_n 3, 1) := by decide +kernel
theorem dX12_give_26 : decode cX12_give 26 = .ok (.iconst 5, 1) := by decide +kernel
theorem dX12_give_27 : decode cX12_give 27 = .ok (.if_icmp .ge 34, 3) := by decide +kernel
theorem dX12_give_30 : decode cX12_give 30 = .ok (.iload_n 3, 1) := by decide +kernel
theorem dX12_give_31 : decode cX12_give 31 = .ok (.iload_n 1, 1) := by decide +kernel
theorem dX12_give_32 : decode cX12_give 32 = .ok (.if_icmp .eq 23, 3) := by decide +kernel
theorem dX12_give_35 : decode cX12_give 35 = .ok (.iload_n 2, 1) := by decide +kernel
theorem dX12_give_36 : decode cX12_give 36 = .ok (.iconst (-1), 1) := by decide +kernel
theorem dX12_give_37 : decode cX12_give 37 = .ok (.if_icmp .eq 18, 3) := by decide +kernel
theorem dX12_give_40 : decode cX12_give 40 = .ok (.aload_n 0, 1) := by decide +kernel
theorem dX12_give_41 : decode cX12_give 41 = .ok (.getfield 7, 3) := by decide +kernel
theorem dX12_give_44 : decode cX12_give 44 = .ok (.bipush 112, 2) := by decide +kernel
theorem dX12_give_46 : decode cX12_give 46 = .ok (.iload_n 3, 1) := by decide +kernel
theorem dX12_give_47 : decode cX12_give 47 = .ok (.iadd, 1) := by decide +kernel
theorem dX12_give_48 : decode cX12_give 48 = .ok (.iaload, 1) := by decide +kernel
theorem dX12_give_49 : decode cX12_give 49 = .ok (.iload_n 2, 1) := by decide +kernel
theorem dX12_give_50 : decode cX12_give 50 = .ok (.if_icmp .ne 5, 3) := by decide +kernel
theorem dX12_give_53 : decode cX12_give 53 = .ok (.iconst 0, 1) := by decide +kernel
theorem dX12_give_54 : decode cX12_give 54 = .ok (.ireturn, 1) := by decide +kernel
theorem dX12_give_55 : decode cX12_give 55 = .ok (.iinc 3 1, 3) := by decide +kernel
theorem dX12_give_58 : decode cX12_give 58 = .ok (.goto (-33), 3) := by decide +kernel
theorem dX12_give_61 : decode cX12_give 61 = .ok (.aload_n 0, 1) := by decide +kernel
theorem dX12_give_62 : decode cX12_give 62 = .ok (.getfield 7, 3) := by decide +kernel
theorem dX12_give_65 : decode cX12_give 65 = .ok (.bipush 112, 2) := by decide +kernel
theorem dX12_give_67 : decode cX12_give 67 = .ok (.iload_n 1, 1) := by decide +kernel
theorem dX12_give_68 : decode cX12_give 68 = .ok (.iadd, 1) := by decide +kernel
theorem dX12_give_69 : decode cX12_give 69 = .ok (.iload_n 2, 1) := by decide +kernel
theorem dX12_give_70 : decode cX12_give 70 = .ok (.iastore, 1) := by decide +kernel
theorem dX12_give_71 : decode cX12_give 71 = .ok (.iconst 1, 1) := by decide +kernel
theorem dX12_give_72 : decode cX12_give 72 = .ok (.ireturn, 1) := by decide +kernel
theorem dX12_rests_0 : decode cX12_rests 0 = .ok (.iconst 0, 1) := by decide +kernel
theorem dX12_rests_1 : decode cX12_rests 1 = .ok (.istore_n 1, 1) := by decide +kernel
theorem dX12_rests_2 : decode cX12_rests 2 = .ok (.iload_n 1, 1) := by decide +kernel
theorem dX12_rests_3 : decode cX12_rests 3 = .ok (.aload_n 0, 1) := by decide +kernel
theorem dX12_rests_4 : decode cX12_rests 4 = .ok (.getfield 7, 3) := by decide +kernel
theorem dX12_rests_7 : decode cX12_rests 7 = .ok (.iconst 1, 1) := by decide +kernel
theorem dX12_rests_8 : decode cX12_rests 8 = .ok (.iaload, 1) := by decide +kernel
theorem dX12_rests_9 : decode cX12_rests 9 = .ok (.if_icmp .ge 24, 3) := by decide +kernel
theorem dX12_rests_12 : decode cX12_rests 12 = .ok (.aload_n 0, 1) := by decide +kernel
theorem dX12_rests_13 : decode cX12_rests 13 = .ok (.getfield 50, 3) := by decide +kernel
theorem dX12_rests_16 : decode cX12_rests 16 = .ok (.iload_n 1, 1) := by decide +kernel
theorem dX12_rests_17 : decode cX12_rests 17 = .ok (.aload_n 0, 1) := by decide +kernel
theorem dX12_rests_18 : decode cX12_rests 18 = .ok (.getfield 7, 3) := by decide +kernel
theorem dX12_rests_21 : decode cX12_rests 21 = .ok (.bipush 112, 2) := by decide +kernel
theorem dX12_rests_23 : decode cX12_rests 23 = .ok (.iload_n 1, 1) := by decide +kernel
theorem dX12_rests_24 : decode cX12_rests 24 = .ok (.iadd, 1) := by decide +kernel
theorem dX12_rests_25 : decode cX12_rests 25 = .ok (.iaload, 1) := by decide +kernel
theorem dX12_rests_26 : decode cX12_rests 26 = .ok (.iastore, 1) := by decide +kernel
theorem dX12_rests_27 : decode cX12_rests 27 = .ok (.iinc 1 1, 3) := by decide +kernel
theorem dX12_rests_30 : decode cX12_rests 30 = .ok (.goto (-28), 3) := by decide +kernel
theorem dX12_rests_33 : decode cX12_rests 33 = .ok (.aload_n 0, 1) := by decide +kernel
theorem dX12_rests_34 : decode cX12_rests 34 = .ok (.invokevirtual 412, 3) := by decide +kernel
theorem dX12_rests_37 : decode cX12_rests 37 = .ok (.ifCond .eq 10, 3) := by decide +kernel
theorem dX12_rests_40 : decode cX12_rests 40 = .ok (.aload_n 0, 1) := by decide +kernel
theorem dX12_rests_41 : decode cX12_rests 41 = .ok (.invokevirtual 415, 3) := by decide +kernel
theorem dX12_rests_44 : decode cX12_rests 44 = .ok (.goto 4, 3) := by decide +kernel
theorem dX12_rests_47 : decode cX12_rests 47 = .ok (.iconst 0, 1) := by decide +kernel
theorem dX12_rests_48 : decode cX12_rests 48 = .ok (.ireturn, 1) := by decide +kernel
theorem dX12_gladdest_0 : decode cX12_gladdest 0 = .ok (.aload_n 0, 1) := by decide +kernel
theorem dX12_gladdest_1 : decode cX12_gladdest 1 = .ok (.iload_n 1, 1) := by decide +kernel
theorem dX12_gladdest_2 : decode cX12_gladdest 2 = .ok (.invokevirtual 351, 3) := by decide +kernel
theorem dX12_gladdest_5 : decode cX12_gladdest 5 = .ok (.ifCond .ne 5, 3) := by decide +kernel
theorem dX12_gladdest_8 : decode cX12_gladdest 8 = .ok (.iconst (-1), 1) := by decide +kernel
theorem dX12_gladdest_9 : decode cX12_gladdest 9 = .ok (.ireturn, 1) := by decide +kernel
theorem dX12_gladdest_10 : decode cX12_gladdest 10 = .ok (.iconst (-1), 1) := by decide +kernel
theorem dX12_gladdest_11 : decode cX12_gladdest 11 = .ok (.istore_n 2, 1) := by decide +kernel
theorem dX12_gladdest_12 : decode cX12_gladdest 12 = .ok (.iconst 0, 1) := by decide +kernel
theorem dX12_gladdest_13 : decode cX12_gladdest 13 = .ok (.istore_n 3, 1) := by decide +kernel
theorem dX12_gladdest_14 : decode cX12_gladdest 14 = .ok (.iload_n 3, 1) := by decide +kernel
theorem dX12_gladdest_15 : decode cX12_gladdest 15 = .ok (.aload_n 0, 1) := by decide +kernel
theorem dX12_gladdest_16 : decode cX12_gladdest 16 = .ok (.getfield 7, 3) := by decide +kernel
theorem dX12_gladdest_19 : decode cX12_gladdest 19 = .ok (.iconst 0, 1) := by decide +kernel
theorem dX12_gladdest_20 : decode cX12_gladdest 20 = .ok (.iaload, 1) := by decide +kernel
theorem dX12_gladdest_21 : decode cX12_gladdest 21 = .ok (.if_icmp .ge 35, 3) := by decide +kernel
theorem dX12_gladdest_24 : decode cX12_gladdest 24 = .ok (.aload_n 0, 1) := by decide +kernel
theorem dX12_gladdest_25 : decode cX12_gladdest 25 = .ok (.iload_n 1, 1) := by decide +kernel
theorem dX12_gladdest_26 : decode cX12_gladdest 26 = .ok (.iload_n 3, 1) := by decide +kernel
theorem dX12_gladdest_27 : decode cX12_gladdest 27 = .ok (.invokevirtual 403, 3) := by decide +kernel
theorem dX12_gladdest_30 : decode cX12_gladdest 30 = .ok (.iload_n 2, 1) := by decide +kernel
theorem dX12_gladdest_31 : decode cX12_gladdest 31 = .ok (.iconst (-1), 1) := by decide +kernel
theorem dX12_gladdest_32 : decode cX12_gladdest 32 = .ok (.if_icmp .ne 7, 3) := by decide +kernel
theorem dX12_gladdest_35 : decode cX12_gladdest 35 = .ok (.iconst 0, 1) := by decide +kernel
theorem dX12_gladdest_36 : decode cX12_gladdest 36 = .ok (.goto 9, 3) := by decide +kernel
theorem dX12_gladdest_39 : decode cX12_gladdest 39 = .ok (.aload_n 0, 1) := by decide +kernel
theorem dX12_gladdest_40 : decode cX12_gladdest 40 = .ok (.iload_n 1, 1) := by decide +kernel
theorem dX12_gladdest_41 : decode cX12_gladdest 41 = .ok (.iload_n 2, 1) := by decide +kernel
theorem dX12_gladdest_42 : decode cX12_gladdest 42 = .ok (.invokevirtual 403, 3) := by decide +kernel
theorem dX12_gladdest_45 : decode cX12_gladdest 45 = .ok (.if_icmp .le 5, 3) := by decide +kernel
theorem dX12_gladdest_48 : decode cX12_gladdest 48 = .ok (.iload_n 3, 1) := by decide +kernel
theorem dX12_gladdest_49 : decode cX12_gladdest 49 = .ok (.istore_n 2, 1) := by decide +kernel
theorem dX12_gladdest_50 : decode cX12_gladdest 50 = .ok (.iinc 3 1, 3) := by decide +kernel
theorem dX12_gladdest_53 : decode cX12_gladdest 53 = .ok (.goto (-39), 3) := by decide +kernel
theorem dX12_gladdest_56 : decode cX12_gladdest 56 = .ok (.iload_n 2, 1) := by decide +kernel
theorem dX12_gladdest_57 : decode cX12_gladdest 57 = .ok (.ireturn, 1) := by decide +kernel
theorem dX12_tens_0 : decode cX12_tens 0 = .ok (.lconst 1, 1) := by decide +kernel
theorem dX12_tens_1 : decode cX12_tens 1 = .ok (.lstore_n 1, 1) := by decide +kernel
theorem dX12_tens_2 : decode cX12_tens 2 = .ok (.iconst 0, 1) := by decide +kernel
theorem dX12_tens_3 : decode cX12_tens 3 = .ok (.istore_n 3, 1) := by decide +kernel
theorem dX12_tens_4 : decode cX12_tens 4 = .ok (.iload_n 3, 1) := by decide +kernel
theorem dX12_tens_5 : decode cX12_tens 5 = .ok (.iload_n 0, 1) := by decide +kernel
theorem dX12_tens_6 : decode cX12_tens 6 = .ok (.if_icmp .ge 15, 3) := by decide +kernel
theorem dX12_tens_9 : decode cX12_tens 9 = .ok (.lload_n 1, 1) := by decide +kernel
theorem dX12_tens_10 : decode cX12_tens 10 = .ok (.ldc2_w 274, 3) := by decide +kernel
theorem dX12_tens_13 : decode cX12_tens 13 = .ok (.lmul, 1) := by decide +kernel
theorem dX12_tens_14 : decode cX12_tens 14 = .ok (.lstore_n 1, 1) := by decide +kernel
theorem dX12_tens_15 : decode cX12_tens 15 = .ok (.iinc 3 1, 3) := by decide +kernel
theorem dX12_tens_18 : decode cX12_tens 18 = .ok (.goto (-14), 3) := by decide +kernel
theorem dX12_tens_21 : decode cX12_tens 21 = .ok (.lload_n 1, 1) := by decide +kernel
theorem dX12_tens_22 : decode cX12_tens 22 = .ok (.lreturn, 1) := by decide +kernel
theorem dX12_divisor_0 : decode cX12_divisor 0 = .ok (.lload_n 0, 1) := by decide +kernel
theorem dX12_divisor_1 : decode cX12_divisor 1 = .ok (.lstore 4, 2) := by decide +kernel
theorem dX12_divisor_3 : decode cX12_divisor 3 = .ok (.lload_n 2, 1) := by decide +kernel
theorem dX12_divisor_4 : decode cX12_divisor 4 = .ok (.lstore 6, 2) := by decide +kernel
theorem dX12_divisor_6 : decode cX12_divisor 6 = .ok (.lload 6, 2) := by decide +kernel
theorem dX12_divisor_8 : decode cX12_divisor 8 = .ok (.lconst 0, 1) := by decide +kernel
theorem dX12_divisor_9 : decode cX12_divisor 9 = .ok (.lcmp, 1) := by decide +kernel
theorem dX12_divisor_10 : decode cX12_divisor 10 = .ok (.ifCond .eq 21, 3) := by decide +kernel
theorem dX12_divisor_13 : decode cX12_divisor 13 = .ok (.lload 4, 2) := by decide +kernel
theorem dX12_divisor_15 : decode cX12_divisor 15 = .ok (.lload 6, 2) := by decide +kernel
theorem dX12_divisor_17 : decode cX12_divisor 17 = .ok (.lrem, 1) := by decide +kernel
theorem dX12_divisor_18 : decode cX12_divisor 18 = .ok (.lstore 8, 2) := by decide +kernel
theorem dX12_divisor_20 : decode cX12_divisor 20 = .ok (.lload 6, 2) := by decide +kernel
theorem dX12_divisor_22 : decode cX12_divisor 22 = .ok (.lstore 4, 2) := by decide +kernel
theorem dX12_divisor_24 : decode cX12_divisor 24 = .ok (.lload 8, 2) := by decide +kernel
theorem dX12_divisor_26 : decode cX12_divisor 26 = .ok (.lstore 6, 2) := by decide +kernel
theorem dX12_divisor_28 : decode cX12_divisor 28 = .ok (.goto (-22), 3) := by decide +kernel
theorem dX12_divisor_31 : decode cX12_divisor 31 = .ok (.lload 4, 2) := by decide +kernel
theorem dX12_divisor_33 : decode cX12_divisor 33 = .ok (.lreturn, 1) := by decide +kernel
theorem dX12_wholeBy_0 : decode cX12_wholeBy 0 = .ok (.lconst 1, 1) := by decide +kernel
theorem dX12_wholeBy_1 : decode cX12_wholeBy 1 = .ok (.lstore 5, 2) := by decide +kernel
theorem dX12_wholeBy_3 : decode cX12_wholeBy 3 = .ok (.iload_n 2, 1) := by decide +kernel
theorem dX12_wholeBy_4 : decode cX12_wholeBy 4 = .ok (.iconst 1, 1) := by decide +kernel
theorem dX12_wholeBy_5 : decode cX12_wholeBy 5 = .ok (.iadd, 1) := by decide +kernel
theorem dX12_wholeBy_6 : decode cX12_wholeBy 6 = .ok (.istore 7, 2) := by decide +kernel
theorem dX12_wholeBy_8 : decode cX12_wholeBy 8 = .ok (.iload 7, 2) := by decide +kernel
theorem dX12_wholeBy_10 : decode cX12_wholeBy 10 = .ok (.iload_n 3, 1) := by decide +kernel
theorem dX12_wholeBy_11 : decode cX12_wholeBy 11 = .ok (.if_icmp .gt 51, 3) := by decide +kernel
theorem dX12_wholeBy_14 : decode cX12_wholeBy 14 = .ok (.lload 5, 2) := by decide +kernel
theorem dX12_wholeBy_16 : decode cX12_wholeBy 16 = .ok (.iload 4, 2) := by decide +kernel
theorem dX12_wholeBy_18 : decode cX12_wholeBy 18 = .ok (.iload 7, 2) := by decide +kernel
theorem dX12_wholeBy_20 : decode cX12_wholeBy 20 = .ok (.invokestatic 239, 3) := by decide +kernel
theorem dX12_wholeBy_23 : decode cX12_wholeBy 23 = .ok (.ifCond .eq 27, 3) := by decide +kernel
theorem dX12_wholeBy_26 : decode cX12_wholeBy 26 = .ok (.aload_n 0, 1) := by decide +kernel
theorem dX12_wholeBy_27 : decode cX12_wholeBy 27 = .ok (.iload_n 1, 1) := by decide +kernel
theorem dX12_wholeBy_28 : decode cX12_wholeBy 28 = .ok (.iconst 1, 1) := by decide +kernel
theorem dX12_wholeBy_29 : decode cX12_wholeBy 29 = .ok (.invokevirtual 264, 3) := by decide +kernel
theorem dX12_wholeBy_32 : decode cX12_wholeBy 32 = .ok (.iconst 1, 1) := by decide +kernel
theorem dX12_wholeBy_33 : decode cX12_wholeBy 33 = .ok (.if_icmp .le 17, 3) := by decide +kernel
theorem dX12_wholeBy_36 : decode cX12_wholeBy 36 = .ok (.bipush 10, 2) := by decide +kernel
theorem dX12_wholeBy_38 : decode cX12_wholeBy 38 = .ok (.aload_n 0, 1) := by decide +kernel
theorem dX12_wholeBy_39 : decode cX12_wholeBy 39 = .ok (.iload_n 1, 1) := by decide +kernel
theorem dX12_wholeBy_40 : decode cX12_wholeBy 40 = .ok (.iload 7, 2) := by decide +kernel
theorem dX12_wholeBy_42 : decode cX12_wholeBy 42 = .ok (.invokevirtual 321, 3) := by decide +kernel
theorem dX12_wholeBy_45 : decode cX12_wholeBy 45 = .ok (.isub, 1) := by decide +kernel
theorem dX12_wholeBy_46 : decode cX12_wholeBy 46 = .ok (.i2l, 1) := by decide +kernel
theorem dX12_wholeBy_47 : decode cX12_wholeBy 47 = .ok (.goto 6, 3) := by decide +kernel
theorem dX12_wholeBy_50 : decode cX12_wholeBy 50 = .ok (.ldc2_w 274, 3) := by decide +kernel
theorem dX12_wholeBy_53 : decode cX12_wholeBy 53 = .ok (.lmul, 1) := by decide +kernel
theorem dX12_wholeBy_54 : decode cX12_wholeBy 54 = .ok (.lstore 5, 2) := by decide +kernel
theorem dX12_wholeBy_56 : decode cX12_wholeBy 56 = .ok (.iinc 7 1, 3) := by decide +kernel
theorem dX12_wholeBy_59 : decode cX12_wholeBy 59 = .ok (.goto (-51), 3) := by decide +kernel
theorem dX12_wholeBy_62 : decode cX12_wholeBy 62 = .ok (.lload 5, 2) := by decide +kernel
theorem dX12_wholeBy_64 : decode cX12_wholeBy 64 = .ok (.lreturn, 1) := by decide +kernel
theorem dX12_isStream_0 : decode cX12_isStream 0 = .ok (.aload_n 0, 1) := by decide +kernel
theorem dX12_isStream_1 : decode cX12_isStream 1 = .ok (.iload_n 1, 1) := by decide +kernel
theorem dX12_isStream_2 : decode cX12_isStream 2 = .ok (.invokevirtual 261, 3) := by decide +kernel
theorem dX12_isStream_5 : decode cX12_isStream 5 = .ok (.ifCond .eq 26, 3) := by decide +kernel
theorem dX12_isStream_8 : decode cX12_isStream 8 = .ok (.iload_n 2, 1) := by decide +kernel
theorem dX12_isStream_9 : decode cX12_isStream 9 = .ok (.invokestatic 84, 3) := by decide +kernel
theorem dX12_isStream_12 : decode cX12_isStream 12 = .ok (.ifCond .eq 19, 3) := by decide +kernel
theorem dX12_isStream_15 : decode cX12_isStream 15 = .ok (.iload_n 3, 1) := by decide +kernel
theorem dX12_isStream_16 : decode cX12_isStream 16 = .ok (.invokestatic 84, 3) := by decide +kernel
theorem dX12_isStream_19 : decode cX12_isStream 19 = .ok (.ifCond .eq 12, 3) := by decide +kernel
theorem dX12_isStream_22 : decode cX12_isStream 22 = .ok (.iload_n 2, 1) := by decide +kernel
theorem dX12_isStream_23 : decode cX12_isStream 23 = .ok (.iload_n 3, 1) := by decide +kernel
theorem dX12_isStream_24 : decode cX12_isStream 24 = .ok (.if_icmp .gt 7, 3) := by decide +kernel
theorem dX12_isStream_27 : decode cX12_isStream 27 = .ok (.iconst 1, 1) := by decide +kernel
theorem dX12_isStream_28 : decode cX12_isStream 28 = .ok (.goto 4, 3) := by decide +kernel
theorem dX12_isStream_31 : decode cX12_isStream 31 = .ok (.iconst 0, 1) := by decide +kernel
theorem dX12_isStream_32 : decode cX12_isStream 32 = .ok (.ireturn, 1) := by decide +kernel
theorem dX12_whole_0 : decode cX12_whole 0 = .ok (.aload_n 0, 1) := by decide +kernel
theorem dX12_whole_1 : decode cX12_whole 1 = .ok (.iload_n 1, 1) := by decide +kernel
theorem dX12_whole_2 : decode cX12_whole 2 = .ok (.iload_n 2, 1) := by decide +kernel
theorem dX12_whole_3 : decode cX12_whole 3 = .ok (.iload_n 3, 1) := by decide +kernel
theorem dX12_whole_4 : decode cX12_whole 4 = .ok (.invokevirtual 424, 3) := by decide +kernel
theorem dX12_whole_7 : decode cX12_whole 7 = .ok (.ifCond .ne 7, 3) := by decide +kernel
theorem dX12_whole_10 : decode cX12_whole 10 = .ok (.ldc2_w 427, 3) := by decide +kernel
theorem dX12_whole_13 : decode cX12_whole 13 = .ok (.lreturn, 1) := by decide +kernel
theorem dX12_whole_14 : decode cX12_whole 14 = .ok (.aload_n 0, 1) := by decide +kernel
theorem dX12_whole_15 : decode cX12_whole 15 = .ok (.iload_n 1, 1) := by decide +kernel
theorem dX12_whole_16 : decode cX12_whole 16 = .ok (.iload_n 2, 1) := by decide +kernel
theorem dX12_whole_17 : decode cX12_whole 17 = .ok (.iload_n 3, 1) := by decide +kernel
theorem dX12_whole_18 : decode cX12_whole 18 = .ok (.aload_n 0, 1) := by decide +kernel
theorem dX12_whole_19 : decode cX12_whole 19 = .ok (.getfield 7, 3) := by decide +kernel
theorem dX12_whole_22 : decode cX12_whole 22 = .ok (.bipush 10, 2) := by decide +kernel
theorem dX12_whole_24 : decode cX12_whole 24 = .ok (.iaload, 1) := by decide +kernel
theorem dX12_whole_25 : decode cX12_whole 25 = .ok (.invokevirtual 429, 3) := by decide +kernel
theorem dX12_whole_28 : decode cX12_whole 28 = .ok (.lstore 5, 2) := by decide +kernel
theorem dX12_whole_30 : decode cX12_whole 30 = .ok (.iload_n 3, 1) := by decide +kernel
theorem dX12_whole_31 : decode cX12_whole 31 = .ok (.iload_n 2, 1) := by decide +kernel
theorem dX12_whole_32 : decode cX12_whole 32 = .ok (.isub, 1) := by decide +kernel
theorem dX12_whole_33 : decode cX12_whole 33 = .ok (.invokestatic 432, 3) := by decide +kernel
theorem dX12_whole_36 : decode cX12_whole 36 = .ok (.lstore 7, 2) := by decide +kernel
theorem dX12_whole_38 : decode cX12_whole 38 = .ok (.iload 4, 2) := by decide +kernel
theorem dX12_whole_40 : decode cX12_whole 40 = .ok (.ifCond .eq 8, 3) := by decide +kernel
theorem dX12_whole_43 : decode cX12_whole 43 = .ok (.lload 7, 2) := by decide +kernel
theorem dX12_whole_45 : decode cX12_whole 45 = .ok (.goto 5, 3) := by decide +kernel
theorem dX12_whole_48 : decode cX12_whole 48 = .ok (.lload 5, 2) := by decide +kernel
theorem dX12_whole_50 : decode cX12_whole 50 = .ok (.lload 5, 2) := by decide +kernel
theorem dX12_whole_52 : decode cX12_whole 52 = .ok (.lload 7, 2) := by decide +kernel
theorem dX12_whole_54 : decode cX12_whole 54 = .ok (.invokestatic 436, 3) := by decide +kernel
theorem dX12_whole_57 : decode cX12_whole 57 = .ok (.ldiv, 1) := by decide +kernel
theorem dX12_whole_58 : decode cX12_whole 58 = .ok (.lreturn, 1) := by decide +kernel
theorem dX12_clear_0 : decode cX12_clear 0 = .ok (.aload_n 0, 1) := by decide +kernel
theorem dX12_clear_1 : decode cX12_clear 1 = .ok (.iload_n 1, 1) := by decide +kernel
theorem dX12_clear_2 : decode cX12_clear 2 = .ok (.iload_n 2, 1) := by decide +kernel
theorem dX12_clear_3 : decode cX12_clear 3 = .ok (.iload_n 3, 1) := by decide +kernel
theorem dX12_clear_4 : decode cX12_clear 4 = .ok (.invokevirtual 424, 3) := by decide +kernel
theorem dX12_clear_7 : decode cX12_clear 7 = .ok (.ifCond .eq 14, 3) := by decide +kernel
theorem dX12_clear_10 : decode cX12_clear 10 = .ok (.iload 4, 2) := by decide +kernel
theorem dX12_clear_12 : decode cX12_clear 12 = .ok (.iconst 1, 1) := by decide +kernel
theorem dX12_clear_13 : decode cX12_clear 13 = .ok (.bipush 10, 2) := by decide +kernel
theorem dX12_clear_15 : decode cX12_clear 15 = .ok (.invokestatic 63, 3) := by decide +kernel
theorem dX12_clear_18 : decode cX12_clear 18 = .ok (.ifCond .ne 5, 3) := by decide +kernel
theorem dX12_clear_21 : decode cX12_clear 21 = .ok (.iconst (-1), 1) := by decide +kernel
theorem dX12_clear_22 : decode cX12_clear 22 = .ok (.ireturn, 1) := by decide +kernel
theorem dX12_clear_23 : decode cX12_clear 23 = .ok (.aload_n 0, 1) := by decide +kernel
theorem dX12_clear_24 : decode cX12_clear 24 = .ok (.getfield 7, 3) := by decide +kernel
theorem dX12_clear_27 : decode cX12_clear 27 = .ok (.bipush 10, 2) := by decide +kernel
theorem dX12_clear_29 : decode cX12_clear 29 = .ok (.iaload, 1) := by decide +kernel
theorem dX12_clear_30 : decode cX12_clear 30 = .ok (.istore 5, 2) := by decide +kernel
theorem dX12_clear_32 : decode cX12_clear 32 = .ok (.aload_n 0, 1) := by decide +kernel
theorem dX12_clear_33 : decode cX12_clear 33 = .ok (.getfield 7, 3) := by decide +kernel
theorem dX12_clear_36 : decode cX12_clear 36 = .ok (.bipush 10, 2) := by decide +kernel
theorem dX12_clear_38 : decode cX12_clear 38 = .ok (.iaload, 1) := by decide +kernel
theorem dX12_clear_39 : decode cX12_clear 39 = .ok (.istore 6, 2) := by decide +kernel
theorem dX12_clear_41 : decode cX12_clear 41 = .ok (.iload 6, 2) := by decide +kernel
theorem dX12_clear_43 : decode cX12_clear 43 = .ok (.ifCond .lt 81, 3) := by decide +kernel
theorem dX12_clear_46 : decode cX12_clear 46 = .ok (.iload 6, 2) := by decide +kernel
theorem dX12_clear_48 : decode cX12_clear 48 = .ok (.aload_n 0, 1) := by decide +kernel
theorem dX12_clear_49 : decode cX12_clear 49 = .ok (.getfield 7, 3) := by decide +kernel
theorem dX12_clear_52 : decode cX12_clear 52 = .ok (.bipush 10, 2) := by decide +kernel
theorem dX12_clear_54 : decode cX12_clear 54 = .ok (.iaload, 1) := by decide +kernel
theorem dX12_clear_55 : decode cX12_clear 55 = .ok (.iconst (-1), 1) := by decide +kernel
theorem dX12_clear_56 : decode cX12_clear 56 = .ok (.ixor, 1) := by decide +kernel
theorem dX12_clear_57 : decode cX12_clear 57 = .ok (.iand, 1) := by decide +kernel
theorem dX12_clear_58 : decode cX12_clear 58 = .ok (.ifCond .ne 60, 3) := by decide +kernel
theorem dX12_clear_61 : decode cX12_clear 61 = .ok (.iload 6, 2) := by decide +kernel
theorem dX12_clear_63 : decode cX12_clear 63 = .ok (.invokestatic 397, 3) := by decide +kernel
theorem dX12_clear_66 : decode cX12_clear 66 = .ok (.iload 5, 2) := by decide +kernel
theorem dX12_clear_68 : decode cX12_clear 68 = .ok (.invokestatic 397, 3) := by decide +kernel
theorem dX12_clear_71 : decode cX12_clear 71 = .ok (.if_icmp .le 6, 3) := by decide +kernel
theorem dX12_clear_74 : decode cX12_clear 74 = .ok (.goto 44, 3) := by decide +kernel
theorem dX12_clear_77 : decode cX12_clear 77 = .ok (.ldc2_w 274, 3) := by decide +kernel
theorem dX12_clear_80 : decode cX12_clear 80 = .ok (.aload_n 0, 1) := by decide +kernel
theorem dX12_clear_81 : decode cX12_clear 81 = .ok (.iload_n 1, 1) := by decide +kernel
theorem dX12_clear_82 : decode cX12_clear 82 = .ok (.iload_n 2, 1) := by decide +kernel
theorem dX12_clear_83 : decode cX12_clear 83 = .ok (.iload_n 3, 1) := by decide +kernel
theorem dX12_clear_84 : decode cX12_clear 84 = .ok (.aload_n 0, 1) := by decide +kernel
theorem dX12_clear_85 : decode cX12_clear 85 = .ok (.getfield 7, 3) := by decide +kernel
theorem dX12_clear_88 : decode cX12_clear 88 = .ok (.bipush 10, 2) := by decide +kernel
theorem dX12_clear_90 : decode cX12_clear 90 = .ok (.iaload, 1) := by decide +kernel
theorem dX12_clear_91 : decode cX12_clear 91 = .ok (.iload 6, 2) := by decide +kernel
theorem dX12_clear_93 : decode cX12_clear 93 = .ok (.iconst (-1), 1) := by decide +kernel
theorem dX12_clear_94 : decode cX12_clear 94 = .ok (.ixor, 1) := by decide +kernel
theorem dX12_clear_95 : decode cX12_clear 95 = .ok (.iand, 1) := by decide +kernel
theorem dX12_clear_96 : decode cX12_clear 96 = .ok (.invokevirtual 429, 3) := by decide +kernel
theorem dX12_clear_99 : decode cX12_clear 99 = .ok (.lmul, 1) := by decide +kernel
theorem dX12_clear_100 : decode cX12_clear 100 = .ok (.iload 4, 2) := by decide +kernel
theorem dX12_clear_102 : decode cX12_clear 102 = .ok (.i2l, 1) := by decide +kernel
theorem dX12_clear_103 : decode cX12_clear 103 = .ok (.iload_n 3, 1) := by decide +kernel
theorem dX12_clear_104 : decode cX12_clear 104 = .ok (.iload_n 2, 1) := by decide +kernel
theorem dX12_clear_105 : decode cX12_clear 105 = .ok (.isub, 1) := by decide +kernel
theorem dX12_clear_106 : decode cX12_clear 106 = .ok (.invokestatic 432, 3) := by decide +kernel
theorem dX12_clear_109 : decode cX12_clear 109 = .ok (.lmul, 1) := by decide +kernel
theorem dX12_clear_110 : decode cX12_clear 110 = .ok (.lcmp, 1) := by decide +kernel
theorem dX12_clear_111 : decode cX12_clear 111 = .ok (.ifCond .lt 7, 3) := by decide +kernel
theorem dX12_clear_114 : decode cX12_clear 114 = .ok (.iload 6, 2) := by decide +kernel
theorem dX12_clear_116 : decode cX12_clear 116 = .ok (.istore 5, 2) := by decide +kernel
theorem dX12_clear_118 : decode cX12_clear 118 = .ok (.iinc 6 (-1), 3) := by decide +kernel
theorem dX12_clear_121 : decode cX12_clear 121 = .ok (.goto (-80), 3) := by decide +kernel
theorem dX12_clear_124 : decode cX12_clear 124 = .ok (.iload 5, 2) := by decide +kernel
theorem dX12_clear_126 : decode cX12_clear 126 = .ok (.ireturn, 1) := by decide +kernel
theorem dX12_half_0 : decode cX12_half 0 = .ok (.iload_n 1, 1) := by decide +kernel
theorem dX12_half_1 : decode cX12_half 1 = .ok (.iconst (-1), 1) := by decide +kernel
theorem dX12_half_2 : decode cX12_half 2 = .ok (.if_icmp .ne 12, 3) := by decide +kernel
theorem dX12_half_5 : decode cX12_half 5 = .ok (.aload_n 0, 1) := by decide +kernel
theorem dX12_half_6 : decode cX12_half 6 = .ok (.getfield 7, 3) := by decide +kernel
theorem dX12_half_9 : decode cX12_half 9 = .ok (.iconst 5, 1) := by decide +kernel
theorem dX12_half_10 : decode cX12_half 10 = .ok (.iconst 0, 1) := by decide +kernel
theorem dX12_half_11 : decode cX12_half 11 = .ok (.iastore, 1) := by decide +kernel
theorem dX12_half_12 : decode cX12_half 12 = .ok (.iconst 0, 1) := by decide +kernel
theorem dX12_half_13 : decode cX12_half 13 = .ok (.ireturn, 1) := by decide +kernel
theorem dX12_half_14 : decode cX12_half 14 = .ok (.iload_n 1, 1) := by decide +kernel
theorem dX12_half_15 : decode cX12_half 15 = .ok (.invokestatic 68, 3) := by decide +kernel
theorem dX12_half_18 : decode cX12_half 18 = .ok (.ifCond .eq 14, 3) := by decide +kernel
theorem dX12_half_21 : decode cX12_half 21 = .ok (.aload_n 0, 1) := by decide +kernel
theorem dX12_half_22 : decode cX12_half 22 = .ok (.getfield 7, 3) := by decide +kernel
theorem dX12_half_25 : decode cX12_half 25 = .ok (.iconst 5, 1) := by decide +kernel
theorem dX12_half_26 : decode cX12_half 26 = .ok (.iaload, 1) := by decide +kernel
theorem dX12_half_27 : decode cX12_half 27 = .ok (.bipush 8, 2) := by decide +kernel
theorem dX12_half_29 : decode cX12_half 29 = .ok (.if_icmp .ne 6, 3) := by decide +kernel
theorem dX12_half_32 : decode cX12_half 32 = .ok (.bipush (-2), 2) := by decide +kernel
theorem dX12_half_34 : decode cX12_half 34 = .ok (.ireturn, 1) := by decide +kernel
theorem dX12_half_35 : decode cX12_half 35 = .ok (.aload_n 0, 1) := by decide +kernel
theorem dX12_half_36 : decode cX12_half 36 = .ok (.getfield 7, 3) := by decide +kernel
theorem dX12_half_39 : decode cX12_half 39 = .ok (.bipush 117, 2) := by decide +kernel
theorem dX12_half_41 : decode cX12_half 41 = .ok (.aload_n 0, 1) := by decide +kernel
theorem dX12_half_42 : decode cX12_half 42 = .ok (.getfield 7, 3) := by decide +kernel
theorem dX12_half_45 : decode cX12_half 45 = .ok (.iconst 5, 1) := by decide +kernel
theorem dX12_half_46 : decode cX12_half 46 = .ok (.iaload, 1) := by decide +kernel
theorem dX12_half_47 : decode cX12_half 47 = .ok (.iadd, 1) := by decide +kernel
theorem dX12_half_48 : decode cX12_half 48 = .ok (.iload_n 1, 1) := by decide +kernel
theorem dX12_half_49 : decode cX12_half 49 = .ok (.iastore, 1) := by decide +kernel
theorem dX12_half_50 : decode cX12_half 50 = .ok (.aload_n 0, 1) := by decide +kernel
theorem dX12_half_51 : decode cX12_half 51 = .ok (.getfield 7, 3) := by decide +kernel
theorem dX12_half_54 : decode cX12_half 54 = .ok (.iconst 5, 1) := by decide +kernel
theorem dX12_half_55 : decode cX12_half 55 = .ok (.dup2, 1) := by decide +kernel
theorem dX12_half_56 : decode cX12_half 56 = .ok (.iaload, 1) := by decide +kernel
theorem dX12_half_57 : decode cX12_half 57 = .ok (.iconst 1, 1) := by decide +kernel
theorem dX12_half_58 : decode cX12_half 58 = .ok (.iadd, 1) := by decide +kernel
theorem dX12_half_59 : decode cX12_half 59 = .ok (.iastore, 1) := by decide +kernel
theorem dX12_half_60 : decode cX12_half 60 = .ok (.aload_n 0, 1) := by decide +kernel
theorem dX12_half_61 : decode cX12_half 61 = .ok (.getfield 7, 3) := by decide +kernel
theorem dX12_half_64 : decode cX12_half 64 = .ok (.iconst 5, 1) := by decide +kernel
theorem dX12_half_65 : decode cX12_half 65 = .ok (.iaload, 1) := by decide +kernel
theorem dX12_half_66 : decode cX12_half 66 = .ok (.ireturn, 1) := by decide +kernel
theorem dX12_joinOf_0 : decode cX12_joinOf 0 = .ok (.aload_n 0, 1) := by decide +kernel
theorem dX12_joinOf_1 : decode cX12_joinOf 1 = .ok (.getfield 7, 3) := by decide +kernel
theorem dX12_joinOf_4 : decode cX12_joinOf 4 = .ok (.bipush 117, 2) := by decide +kernel
theorem dX12_joinOf_6 : decode cX12_joinOf 6 = .ok (.iload_n 1, 1) := by decide +kernel
theorem dX12_joinOf_7 : decode cX12_joinOf 7 = .ok (.iadd, 1) := by decide +kernel
theorem dX12_joinOf_8 : decode cX12_joinOf 8 = .ok (.iaload, 1) := by decide +kernel
theorem dX12_joinOf_9 : decode cX12_joinOf 9 = .ok (.i2l, 1) := by decide +kernel
theorem dX12_joinOf_10 : decode cX12_joinOf 10 = .ok (.aload_n 0, 1) := by decide +kernel
theorem dX12_joinOf_11 : decode cX12_joinOf 11 = .ok (.getfield 7, 3) := by decide +kernel
theorem dX12_joinOf_14 : decode cX12_joinOf 14 = .ok (.bipush 117, 2) := by decide +kernel
theorem dX12_joinOf_16 : decode cX12_joinOf 16 = .ok (.iload_n 2, 1) := by decide +kernel
theorem dX12_joinOf_17 : decode cX12_joinOf 17 = .ok (.iadd, 1) := by decide +kernel
theorem dX12_joinOf_18 : decode cX12_joinOf 18 = .ok (.iaload, 1) := by decide +kernel
theorem dX12_joinOf_19 : decode cX12_joinOf 19 = .ok (.invokestatic 80, 3) := by decide +kernel
theorem dX12_joinOf_22 : decode cX12_joinOf 22 = .ok (.invokestatic 432, 3) := by decide +kernel
theorem dX12_joinOf_25 : decode cX12_joinOf 25 = .ok (.lmul, 1) := by decide +kernel
theorem dX12_joinOf_26 : decode cX12_joinOf 26 = .ok (.aload_n 0, 1) := by decide +kernel
theorem dX12_joinOf_27 : decode cX12_joinOf 27 = .ok (.getfield 7, 3) := by decide +kernel
theorem dX12_joinOf_30 : decode cX12_joinOf 30 = .ok (.bipush 117, 2) := by decide +kernel
theorem dX12_joinOf_32 : decode cX12_joinOf 32 = .ok (.iload_n 2, 1) := by decide +kernel
theorem dX12_joinOf_33 : decode cX12_joinOf 33 = .ok (.iadd, 1) := by decide +kernel
theorem dX12_joinOf_34 : decode cX12_joinOf 34 = .ok (.iaload, 1) := by decide +kernel
theorem dX12_joinOf_35 : decode cX12_joinOf 35 = .ok (.i2l, 1) := by decide +kernel
theorem dX12_joinOf_36 : decode cX12_joinOf 36 = .ok (.ladd, 1) := by decide +kernel
theorem dX12_joinOf_37 : decode cX12_joinOf 37 = .ok (.lstore_n 3, 1) := by decide +kernel
theorem dX12_joinOf_38 : decode cX12_joinOf 38 = .ok (.iconst 0, 1) := by decide +kernel
theorem dX12_joinOf_39 : decode cX12_joinOf 39 = .ok (.istore 5, 2) := by decide +kernel
theorem dX12_joinOf_41 : decode cX12_joinOf 41 = .ok (.iload 5, 2) := by decide +kernel
theorem dX12_joinOf_43 : decode cX12_joinOf 43 = .ok (.aload_n 0, 1) := by decide +kernel
theorem dX12_joinOf_44 : decode cX12_joinOf 44 = .ok (.getfield 7, 3) := by decide +kernel
theorem dX12_joinOf_47 : decode cX12_joinOf 47 = .ok (.iconst 0, 1) := by decide +kernel
theorem dX12_joinOf_48 : decode cX12_joinOf 48 = .ok (.iaload, 1) := by decide +kernel
theorem dX12_joinOf_49 : decode cX12_joinOf 49 = .ok (.if_icmp .ge 28, 3) := by decide +kernel
theorem dX12_joinOf_52 : decode cX12_joinOf 52 = .ok (.aload_n 0, 1) := by decide +kernel
theorem dX12_joinOf_53 : decode cX12_joinOf 53 = .ok (.getfield 7, 3) := by decide +kernel
theorem dX12_joinOf_56 : decode cX12_joinOf 56 = .ok (.bipush 30, 2) := by decide +kernel
theorem dX12_joinOf_58 : decode cX12_joinOf 58 = .ok (.iload 5, 2) := by decide +kernel
theorem dX12_joinOf_60 : decode cX12_joinOf 60 = .ok (.iadd, 1) := by decide +kernel
theorem dX12_joinOf_61 : decode cX12_joinOf 61 = .ok (.iaload, 1) := by decide +kernel
theorem dX12_joinOf_62 : decode cX12_joinOf 62 = .ok (.i2l, 1) := by decide +kernel
theorem dX12_joinOf_63 : decode cX12_joinOf 63 = .ok (.lload_n 3, 1) := by decide +kernel
theorem dX12_joinOf_64 : decode cX12_joinOf 64 = .ok (.lcmp, 1) := by decide +kernel
theorem dX12_joinOf_65 : decode cX12_joinOf 65 = .ok (.ifCond .ne 6, 3) := by decide +kernel
theorem dX12_joinOf_68 : decode cX12_joinOf 68 = .ok (.iload 5, 2) := by decide +kernel
theorem dX12_joinOf_70 : decode cX12_joinOf 70 = .ok (.ireturn, 1) := by decide +kernel
theorem dX12_joinOf_71 : decode cX12_joinOf 71 = .ok (.iinc 5 1, 3) := by decide +kernel
theorem dX12_joinOf_74 : decode cX12_joinOf 74 = .ok (.goto (-33), 3) := by decide +kernel
theorem dX12_joinOf_77 : decode cX12_joinOf 77 = .ok (.iconst (-1), 1) := by decide +kernel
theorem dX12_joinOf_78 : decode cX12_joinOf 78 = .ok (.ireturn, 1) := by decide +kernel
theorem dX12_layPairs_0 : decode cX12_layPairs 0 = .ok (.aload_n 0, 1) := by decide +kernel
theorem dX12_layPairs_1 : decode cX12_layPairs 1 = .ok (.getfield 7, 3) := by decide +kernel
theorem dX12_layPairs_4 : decode cX12_layPairs 4 = .ok (.iconst 5, 1) := by decide +kernel
theorem dX12_layPairs_5 : decode cX12_layPairs 5 = .ok (.iaload, 1) := by decide +kernel
theorem dX12_layPairs_6 : decode cX12_layPairs 6 = .ok (.istore_n 1, 1) := by decide +kernel
theorem dX12_layPairs_7 : decode cX12_layPairs 7 = .ok (.iconst 0, 1) := by decide +kernel
theorem dX12_layPairs_8 : decode cX12_layPairs 8 = .ok (.istore_n 2, 1) := by decide +kernel
theorem dX12_layPairs_9 : decode cX12_layPairs 9 = .ok (.iload_n 2, 1) := by decide +kernel
theorem dX12_layPairs_10 : decode cX12_layPairs 10 = .ok (.iconst 1, 1) := by decide +kernel
theorem dX12_layPairs_11 : decode cX12_layPairs 11 = .ok (.iload_n 1, 1) := by decide +kernel
theorem dX12_layPairs_12 : decode cX12_layPairs 12 = .ok (.ishl, 1) := by decide +kernel
theorem dX12_layPairs_13 : decode cX12_layPairs 13 = .ok (.if_icmp .ge 132, 3) := by decide +kernel
theorem dX12_layPairs_16 : decode cX12_layPairs 16 = .ok (.aload_n 0, 1) := by decide +kernel
theorem dX12_layPairs_17 : decode cX12_layPairs 17 = .ok (.getfield 56, 3) := by decide +kernel
theorem dX12_layPairs_20 : decode cX12_layPairs 20 = .ok (.iload_n 2, 1) := by decide +kernel
theorem dX12_layPairs_21 : decode cX12_layPairs 21 = .ok (.iconst 0, 1) := by decide +kernel
theorem dX12_layPairs_22 : decode cX12_layPairs 22 = .ok (.iastore, 1) := by decide +kernel
theorem dX12_layPairs_23 : decode cX12_layPairs 23 = .ok (.iconst 0, 1) := by decide +kernel
theorem dX12_layPairs_24 : decode cX12_layPairs 24 = .ok (.istore_n 3, 1) := by decide +kernel
theorem dX12_layPairs_25 : decode cX12_layPairs 25 = .ok (.iload_n 3, 1) := by decide +kernel
theorem dX12_layPairs_26 : decode cX12_layPairs 26 = .ok (.iload_n 1, 1) := by decide +kernel
theorem dX12_layPairs_27 : decode cX12_layPairs 27 = .ok (.if_icmp .ge 112, 3) := by decide +kernel
theorem dX12_layPairs_30 : decode cX12_layPairs 30 = .ok (.iconst 0, 1) := by decide +kernel
theorem dX12_layPairs_31 : decode cX12_layPairs 31 = .ok (.istore 4, 2) := by decide +kernel
theorem dX12_layPairs_33 : decode cX12_layPairs 33 = .ok (.iload 4, 2) := by decide +kernel
theorem dX12_layPairs_35 : decode cX12_layPairs 35 = .ok (.iload_n 1, 1) := by decide +kernel
theorem dX12_layPairs_36 : decode cX12_layPairs 36 = .ok (.if_icmp .ge 97, 3) := by decide +kernel
theorem dX12_layPairs_39 : decode cX12_layPairs 39 = .ok (.iload_n 3, 1) := by decide +kernel
theorem dX12_layPairs_40 : decode cX12_layPairs 40 = .ok (.iload 4, 2) := by decide +kernel
theorem dX12_layPairs_42 : decode cX12_layPairs 42 = .ok (.if_icmp .eq 85, 3) := by decide +kernel
theorem dX12_layPairs_45 : decode cX12_layPairs 45 = .ok (.iload_n 2, 1) := by decide +kernel
theorem dX12_layPairs_46 : decode cX12_layPairs 46 = .ok (.iload_n 3, 1) := by decide +kernel
theorem dX12_layPairs_47 : decode cX12_layPairs 47 = .ok (.invokestatic 239, 3) := by decide +kernel
theorem dX12_layPairs_50 : decode cX12_layPairs 50 = .ok (.ifCond .eq 77, 3) := by decide +kernel
theorem dX12_layPairs_53 : decode cX12_layPairs 53 = .ok (.iload_n 2, 1) := by decide +kernel
theorem dX12_layPairs_54 : decode cX12_layPairs 54 = .ok (.iload 4, 2) := by decide +kernel
theorem dX12_layPairs_56 : decode cX12_layPairs 56 = .ok (.invokestatic 239, 3) := by decide +kernel
theorem dX12_layPairs_59 : decode cX12_layPairs 59 = .ok (.ifCond .eq 68, 3) := by decide +kernel
theorem dX12_layPairs_62 : decode cX12_layPairs 62 = .ok (.aload_n 0, 1) := by decide +kernel
theorem dX12_layPairs_63 : decode cX12_layPairs 63 = .ok (.iload_n 3, 1) := by decide +kernel
theorem dX12_layPairs_64 : decode cX12_layPairs 64 = .ok (.iload 4, 2) := by decide +kernel
theorem dX12_layPairs_66 : decode cX12_layPairs 66 = .ok (.invokevirtual 439, 3) := by decide +kernel
theorem dX12_layPairs_69 : decode cX12_layPairs 69 = .ok (.iconst (-1), 1) := by decide +kernel
theorem dX12_layPairs_70 : decode cX12_layPairs 70 = .ok (.if_icmp .ne 6, 3) := by decide +kernel
theorem dX12_layPairs_73 : decode cX12_layPairs 73 = .ok (.goto 54, 3) := by decide +kernel
theorem dX12_layPairs_76 : decode cX12_layPairs 76 = .ok (.iconst 1, 1) := by decide +kernel
theorem dX12_layPairs_77 : decode cX12_layPairs 77 = .ok (.aload_n 0, 1) := by decide +kernel
theorem dX12_layPairs_78 : decode cX12_layPairs 78 = .ok (.getfield 56, 3) := by decide +kernel
theorem dX12_layPairs_81 : decode cX12_layPairs 81 = .ok (.iload_n 2, 1) := by decide +kernel
theorem dX12_layPairs_82 : decode cX12_layPairs 82 = .ok (.iconst 1, 1) := by decide +kernel
theorem dX12_layPairs_83 : decode cX12_layPairs 83 = .ok (.iload_n 3, 1) := by decide +kernel
theorem dX12_layPairs_84 : decode cX12_layPairs 84 = .ok (.ishl, 1) := by decide +kernel
theorem dX12_layPairs_85 : decode cX12_layPairs 85 = .ok (.iconst (-1), 1) := by decide +kernel
theorem dX12_layPairs_86 : decode cX12_layPairs 86 = .ok (.ixor, 1) := by decide +kernel
theorem dX12_layPairs_87 : decode cX12_layPairs 87 = .ok (.iand, 1) := by decide +kernel
theorem dX12_layPairs_88 : decode cX12_layPairs 88 = .ok (.iconst 1, 1) := by decide +kernel
theorem dX12_layPairs_89 : decode cX12_layPairs 89 = .ok (.iload 4, 2) := by decide +kernel
theorem dX12_layPairs_91 : decode cX12_layPairs 91 = .ok (.ishl, 1) := by decide +kernel
theorem dX12_layPairs_92 : decode cX12_layPairs 92 = .ok (.iconst (-1), 1) := by decide +kernel
theorem dX12_layPairs_93 : decode cX12_layPairs 93 = .ok (.ixor, 1) := by decide +kernel
theorem dX12_layPairs_94 : decode cX12_layPairs 94 = .ok (.iand, 1) := by decide +kernel
theorem dX12_layPairs_95 : decode cX12_layPairs 95 = .ok (.iaload, 1) := by decide +kernel
theorem dX12_layPairs_96 : decode cX12_layPairs 96 = .ok (.iadd, 1) := by decide +kernel
theorem dX12_layPairs_97 : decode cX12_layPairs 97 = .ok (.istore 5, 2) := by decide +kernel
theorem dX12_layPairs_99 : decode cX12_layPairs 99 = .ok (.aload_n 0, 1) := by decide +kernel
theorem dX12_layPairs_100 : decode cX12_layPairs 100 = .ok (.getfield 56, 3) := by decide +kernel
theorem dX12_layPairs_103 : decode cX12_layPairs 103 = .ok (.iload_n 2, 1) := by decide +kernel
theorem dX12_layPairs_104 : decode cX12_layPairs 104 = .ok (.iload 5, 2) := by decide +kernel
theorem dX12_layPairs_106 : decode cX12_layPairs 106 = .ok (.aload_n 0, 1) := by decide +kernel
theorem dX12_layPairs_107 : decode cX12_layPairs 107 = .ok (.getfield 56, 3) := by decide +kernel
theorem dX12_layPairs_110 : decode cX12_layPairs 110 = .ok (.iload_n 2, 1) := by decide +kernel
theorem dX12_layPairs_111 : decode cX12_layPairs 111 = .ok (.iaload, 1) := by decide +kernel
theorem dX12_layPairs_112 : decode cX12_layPairs 112 = .ok (.if_icmp .le 8, 3) := by decide +kernel
theorem dX12_layPairs_115 : decode cX12_layPairs 115 = .ok (.iload 5, 2) := by decide +kernel
theorem dX12_layPairs_117 : decode cX12_layPairs 117 = .ok (.goto 9, 3) := by decide +kernel
theorem dX12_layPairs_120 : decode cX12_layPairs 120 = .ok (.aload_n 0, 1) := by decide +kernel
theorem dX12_layPairs_121 : decode cX12_layPairs 121 = .ok (.getfield 56, 3) := by decide +kernel
theorem dX12_layPairs_124 : decode cX12_layPairs 124 = .ok (.iload_n 2, 1) := by decide +kernel
theorem dX12_layPairs_125 : decode cX12_layPairs 125 = .ok (.iaload, 1) := by decide +kernel
theorem dX12_layPairs_126 : decode cX12_layPairs 126 = .ok (.iastore, 1) := by decide +kernel
theorem dX12_layPairs_127 : decode cX12_layPairs 127 = .ok (.iinc 4 1, 3) := by decide +kernel
theorem dX12_layPairs_130 : decode cX12_layPairs 130 = .ok (.goto (-97), 3) := by decide +kernel
theorem dX12_layPairs_133 : decode cX12_layPairs 133 = .ok (.iinc 3 1, 3) := by decide +kernel
theorem dX12_layPairs_136 : decode cX12_layPairs 136 = .ok (.goto (-111), 3) := by decide +kernel
theorem dX12_layPairs_139 : decode cX12_layPairs 139 = .ok (.iinc 2 1, 3) := by decide +kernel
theorem dX12_layPairs_142 : decode cX12_layPairs 142 = .ok (.goto (-133), 3) := by decide +kernel
theorem dX12_layPairs_145 : decode cX12_layPairs 145 = .ok (.return_, 1) := by decide +kernel
theorem dX12_lowestPair_0 : decode cX12_lowestPair 0 = .ok (.iconst 0, 1) := by decide +kernel
theorem dX12_lowestPair_1 : decode cX12_lowestPair 1 = .ok (.istore_n 2, 1) := by decide +kernel
theorem dX12_lowestPair_2 : decode cX12_lowestPair 2 = .ok (.iload_n 2, 1) := by decide +kernel
theorem dX12_lowestPair_3 : decode cX12_lowestPair 3 = .ok (.bipush 64, 2) := by decide +kernel
theorem dX12_lowestPair_5 : decode cX12_lowestPair 5 = .ok (.if_icmp .ge 86, 3) := by decide +kernel
theorem dX12_lowestPair_8 : decode cX12_lowestPair 8 = .ok (.iload_n 2, 1) := by decide +kernel
theorem dX12_lowestPair_9 : decode cX12_lowestPair 9 = .ok (.bipush 8, 2) := by decide +kernel
theorem dX12_lowestPair_11 : decode cX12_lowestPair 11 = .ok (.idiv, 1) := by decide +kernel
theorem dX12_lowestPair_12 : decode cX12_lowestPair 12 = .ok (.istore_n 3, 1) := by decide +kernel
theorem dX12_lowestPair_13 : decode cX12_lowestPair 13 = .ok (.iload_n 2, 1) := by decide +kernel
theorem dX12_lowestPair_14 : decode cX12_lowestPair 14 = .ok (.bipush 8, 2) := by decide +kernel
theorem dX12_lowestPair_16 : decode cX12_lowestPair 16 = .ok (.irem, 1) := by decide +kernel
theorem dX12_lowestPair_17 : decode cX12_lowestPair 17 = .ok (.istore 4, 2) := by decide +kernel
theorem dX12_lowestPair_19 : decode cX12_lowestPair 19 = .ok (.iload_n 3, 1) := by decide +kernel
theorem dX12_lowestPair_20 : decode cX12_lowestPair 20 = .ok (.iload 4, 2) := by decide +kernel
theorem dX12_lowestPair_22 : decode cX12_lowestPair 22 = .ok (.if_icmp .eq 63, 3) := by decide +kernel
theorem dX12_lowestPair_25 : decode cX12_lowestPair 25 = .ok (.iload_n 1, 1) := by decide +kernel
theorem dX12_lowestPair_26 : decode cX12_lowestPair 26 = .ok (.iload_n 3, 1) := by decide +kernel
theorem dX12_lowestPair_27 : decode cX12_lowestPair 27 = .ok (.invokestatic 239, 3) := by decide +kernel
theorem dX12_lowestPair_30 : decode cX12_lowestPair 30 = .ok (.ifCond .eq 55, 3) := by decide +kernel
theorem dX12_lowestPair_33 : decode cX12_lowestPair 33 = .ok (.iload_n 1, 1) := by decide +kernel
theorem dX12_lowestPair_34 : decode cX12_lowestPair 34 = .ok (.iload 4, 2) := by decide +kernel
theorem dX12_lowestPair_36 : decode cX12_lowestPair 36 = .ok (.invokestatic 239, 3) := by decide +kernel
theorem dX12_lowestPair_39 : decode cX12_lowestPair 39 = .ok (.ifCond .eq 46, 3) := by decide +kernel
theorem dX12_lowestPair_42 : decode cX12_lowestPair 42 = .ok (.aload_n 0, 1) := by decide +kernel
theorem dX12_lowestPair_43 : decode cX12_lowestPair 43 = .ok (.iload_n 3, 1) := by decide +kernel
theorem dX12_lowestPair_44 : decode cX12_lowestPair 44 = .ok (.iload 4, 2) := by decide +kernel
theorem dX12_lowestPair_46 : decode cX12_lowestPair 46 = .ok (.invokevirtual 439, 3) := by decide +kernel
theorem dX12_lowestPair_49 : decode cX12_lowestPair 49 = .ok (.iconst (-1), 1) := by decide +kernel
theorem dX12_lowestPair_50 : decode cX12_lowestPair 50 = .ok (.if_icmp .eq 35, 3) := by decide +kernel
theorem dX12_lowestPair_53 : decode cX12_lowestPair 53 = .ok (.aload_n 0, 1) := by decide +kernel
theorem dX12_lowestPair_54 : decode cX12_lowestPair 54 = .ok (.getfield 56, 3) := by decide +kernel
theorem dX12_lowestPair_57 : decode cX12_lowestPair 57 = .ok (.iload_n 1, 1) := by decide +kernel
theorem dX12_lowestPair_58 : decode cX12_lowestPair 58 = .ok (.iconst 1, 1) := by decide +kernel
theorem dX12_lowestPair_59 : decode cX12_lowestPair 59 = .ok (.iload_n 3, 1) := by decide +kernel
theorem dX12_lowestPair_60 : decode cX12_lowestPair 60 = .ok (.ishl, 1) := by decide +kernel
theorem dX12_lowestPair_61 : decode cX12_lowestPair 61 = .ok (.iconst (-1), 1) := by decide +kernel
theorem dX12_lowestPair_62 : decode cX12_lowestPair 62 = .ok (.ixor, 1) := by decide +kernel
theorem dX12_lowestPair_63 : decode cX12_lowestPair 63 = .ok (.iand, 1) := by decide +kernel
theorem dX12_lowestPair_64 : decode cX12_lowestPair 64 = .ok (.iconst 1, 1) := by decide +kernel
theorem dX12_lowestPair_65 : decode cX12_lowestPair 65 = .ok (.iload 4, 2) := by decide +kernel
theorem dX12_lowestPair_67 : decode cX12_lowestPair 67 = .ok (.ishl, 1) := by decide +kernel
theorem dX12_lowestPair_68 : decode cX12_lowestPair 68 = .ok (.iconst (-1), 1) := by decide +kernel
theorem dX12_lowestPair_69 : decode cX12_lowestPair 69 = .ok (.ixor, 1) := by decide +kernel
theorem dX12_lowestPair_70 : decode cX12_lowestPair 70 = .ok (.iand, 1) := by decide +kernel
theorem dX12_lowestPair_71 : decode cX12_lowestPair 71 = .ok (.iaload, 1) := by decide +kernel
theorem dX12_lowestPair_72 : decode cX12_lowestPair 72 = .ok (.aload_n 0, 1) := by decide +kernel
theorem dX12_lowestPair_73 : decode cX12_lowestPair 73 = .ok (.getfield 56, 3) := by decide +kernel
theorem dX12_lowestPair_76 : decode cX12_lowestPair 76 = .ok (.iload_n 1, 1) := by decide +kernel
theorem dX12_lowestPair_77 : decode cX12_lowestPair 77 = .ok (.iaload, 1) := by decide +kernel
theorem dX12_lowestPair_78 : decode cX12_lowestPair 78 = .ok (.iconst 1, 1) := by decide +kernel
theorem dX12_lowestPair_79 : decode cX12_lowestPair 79 = .ok (.isub, 1) := by decide +kernel
theorem dX12_lowestPair_80 : decode cX12_lowestPair 80 = .ok (.if_icmp .ne 5, 3) := by decide +kernel
theorem dX12_lowestPair_83 : decode cX12_lowestPair 83 = .ok (.iload_n 2, 1) := by decide +kernel
theorem dX12_lowestPair_84 : decode cX12_lowestPair 84 = .ok (.ireturn, 1) := by decide +kernel
theorem dX12_lowestPair_85 : decode cX12_lowestPair 85 = .ok (.iinc 2 1, 3) := by decide +kernel
theorem dX12_lowestPair_88 : decode cX12_lowestPair 88 = .ok (.goto (-86), 3) := by decide +kernel
theorem dX12_lowestPair_91 : decode cX12_lowestPair 91 = .ok (.iconst (-1), 1) := by decide +kernel
theorem dX12_lowestPair_92 : decode cX12_lowestPair 92 = .ok (.ireturn, 1) := by decide +kernel
theorem dX12_joins_0 : decode cX12_joins 0 = .ok (.aload_n 0, 1) := by decide +kernel
theorem dX12_joins_1 : decode cX12_joins 1 = .ok (.invokevirtual 442, 3) := by decide +kernel
theorem dX12_joins_4 : decode cX12_joins 4 = .ok (.iconst 1, 1) := by decide +kernel
theorem dX12_joins_5 : decode cX12_joins 5 = .ok (.aload_n 0, 1) := by decide +kernel
theorem dX12_joins_6 : decode cX12_joins 6 = .ok (.getfield 7, 3) := by decide +kernel
theorem dX12_joins_9 : decode cX12_joins 9 = .ok (.iconst 5, 1) := by decide +kernel
theorem dX12_joins_10 : decode cX12_joins 10 = .ok (.iaload, 1) := by decide +kernel
theorem dX12_joins_11 : decode cX12_joins 11 = .ok (.ishl, 1) := by decide +kernel
theorem dX12_joins_12 : decode cX12_joins 12 = .ok (.iconst 1, 1) := by decide +kernel
theorem dX12_joins_13 : decode cX12_joins 13 = .ok (.isub, 1) := by decide +kernel
theorem dX12_joins_14 : decode cX12_joins 14 = .ok (.istore_n 2, 1) := by decide +kernel
theorem dX12_joins_15 : decode cX12_joins 15 = .ok (.iload_n 1, 1) := by decide +kernel
theorem dX12_joins_16 : decode cX12_joins 16 = .ok (.iconst (-1), 1) := by decide +kernel
theorem dX12_joins_17 : decode cX12_joins 17 = .ok (.if_icmp .ne 10, 3) := by decide +kernel
theorem dX12_joins_20 : decode cX12_joins 20 = .ok (.aload_n 0, 1) := by decide +kernel
theorem dX12_joins_21 : decode cX12_joins 21 = .ok (.getfield 56, 3) := by decide +kernel
theorem dX12_joins_24 : decode cX12_joins 24 = .ok (.iload_n 2, 1) := by decide +kernel
theorem dX12_joins_25 : decode cX12_joins 25 = .ok (.iaload, 1) := by decide +kernel
theorem dX12_joins_26 : decode cX12_joins 26 = .ok (.ireturn, 1) := by decide +kernel
theorem dX12_joins_27 : decode cX12_joins 27 = .ok (.iload_n 1, 1) := by decide +kernel
theorem dX12_joins_28 : decode cX12_joins 28 = .ok (.iconst 0, 1) := by decide +kernel
theorem dX12_joins_29 : decode cX12_joins 29 = .ok (.aload_n 0, 1) := by decide +kernel
theorem dX12_joins_30 : decode cX12_joins 30 = .ok (.getfield 56, 3) := by decide +kernel
theorem dX12_joins_33 : decode cX12_joins 33 = .ok (.iload_n 2, 1) := by decide +kernel
theorem dX12_joins_34 : decode cX12_joins 34 = .ok (.iaload, 1) := by decide +kernel
theorem dX12_joins_35 : decode cX12_joins 35 = .ok (.iconst 1, 1) := by decide +kernel
theorem dX12_joins_36 : decode cX12_joins 36 = .ok (.isub, 1) := by decide +kernel
theorem dX12_joins_37 : decode cX12_joins 37 = .ok (.invokestatic 63, 3) := by decide +kernel
theorem dX12_joins_40 : decode cX12_joins 40 = .ok (.ifCond .ne 6, 3) := by decide +kernel
theorem dX12_joins_43 : decode cX12_joins 43 = .ok (.bipush (-2), 2) := by decide +kernel
theorem dX12_joins_45 : decode cX12_joins 45 = .ok (.ireturn, 1) := by decide +kernel
theorem dX12_joins_46 : decode cX12_joins 46 = .ok (.aload_n 0, 1) := by decide +kernel
theorem dX12_joins_47 : decode cX12_joins 47 = .ok (.iload_n 2, 1) := by decide +kernel
theorem dX12_joins_48 : decode cX12_joins 48 = .ok (.invokevirtual 445, 3) := by decide +kernel
theorem dX12_joins_51 : decode cX12_joins 51 = .ok (.istore_n 3, 1) := by decide +kernel
theorem dX12_joins_52 : decode cX12_joins 52 = .ok (.iconst 0, 1) := by decide +kernel
theorem dX12_joins_53 : decode cX12_joins 53 = .ok (.istore 4, 2) := by decide +kernel
theorem dX12_joins_55 : decode cX12_joins 55 = .ok (.iload 4, 2) := by decide +kernel
theorem dX12_joins_57 : decode cX12_joins 57 = .ok (.iload_n 1, 1) := by decide +kernel
theorem dX12_joins_58 : decode cX12_joins 58 = .ok (.if_icmp .ge 35, 3) := by decide +kernel
theorem dX12_joins_61 : decode cX12_joins 61 = .ok (.iload_n 2, 1) := by decide +kernel
theorem dX12_joins_62 : decode cX12_joins 62 = .ok (.iconst 1, 1) := by decide +kernel
theorem dX12_joins_63 : decode cX12_joins 63 = .ok (.iload_n 3, 1) := by decide +kernel
theorem dX12_joins_64 : decode cX12_joins 64 = .ok (.bipush 8, 2) := by decide +kernel
theorem dX12_joins_66 : decode cX12_joins 66 = .ok (.idiv, 1) := by decide +kernel
theorem dX12_joins_67 : decode cX12_joins 67 = .ok (.ishl, 1) := by decide +kernel
theorem dX12_joins_68 : decode cX12_joins 68 = .ok (.iconst (-1), 1) := by decide +kernel
theorem dX12_joins_69 : decode cX12_joins 69 = .ok (.ixor, 1) := by decide +kernel
theorem dX12_joins_70 : decode cX12_joins 70 = .ok (.iconst 1, 1) := by decide +kernel
theorem dX12_joins_71 : decode cX12_joins 71 = .ok (.iload_n 3, 1) := by decide +kernel
theorem dX12_joins_72 : decode cX12_joins 72 = .ok (.bipush 8, 2) := by decide +kernel
theorem dX12_joins_74 : decode cX12_joins 74 = .ok (.irem, 1) := by decide +kernel
theorem dX12_joins_75 : decode cX12_joins 75 = .ok (.ishl, 1) := by decide +kernel
theorem dX12_joins_76 : decode cX12_joins 76 = .ok (.iconst (-1), 1) := by decide +kernel
theorem dX12_joins_77 : decode cX12_joins 77 = .ok (.ixor, 1) := by decide +kernel
theorem dX12_joins_78 : decode cX12_joins 78 = .ok (.iand, 1) := by decide +kernel
theorem dX12_joins_79 : decode cX12_joins 79 = .ok (.iand, 1) := by decide +kernel
theorem dX12_joins_80 : decode cX12_joins 80 = .ok (.istore_n 2, 1) := by decide +kernel
theorem dX12_joins_81 : decode cX12_joins 81 = .ok (.aload_n 0, 1) := by decide +kernel
theorem dX12_joins_82 : decode cX12_joins 82 = .ok (.iload_n 2, 1) := by decide +kernel
theorem dX12_joins_83 : decode cX12_joins 83 = .ok (.invokevirtual 445, 3) := by decide +kernel
theorem dX12_joins_86 : decode cX12_joins 86 = .ok (.istore_n 3, 1) := by decide +kernel
theorem dX12_joins_87 : decode cX12_joins 87 = .ok (.iinc 4 1, 3) := by decide +kernel
theorem dX12_joins_90 : decode cX12_joins 90 = .ok (.goto (-35), 3) := by decide +kernel
theorem dX12_joins_93 : decode cX12_joins 93 = .ok (.bipush 100, 2) := by decide +kernel
theorem dX12_joins_95 : decode cX12_joins 95 = .ok (.iload_n 3, 1) := by decide +kernel
theorem dX12_joins_96 : decode cX12_joins 96 = .ok (.bipush 8, 2) := by decide +kernel
theorem dX12_joins_98 : decode cX12_joins 98 = .ok (.idiv, 1) := by decide +kernel
theorem dX12_joins_99 : decode cX12_joins 99 = .ok (.imul, 1) := by decide +kernel
theorem dX12_joins_100 : decode cX12_joins 100 = .ok (.bipush 10, 2) := by decide +kernel
theorem dX12_joins_102 : decode cX12_joins 102 = .ok (.iload_n 3, 1) := by decide +kernel
theorem dX12_joins_103 : decode cX12_joins 103 = .ok (.bipush 8, 2) := by decide +kernel
theorem dX12_joins_105 : decode cX12_joins 105 = .ok (.irem, 1) := by decide +kernel
theorem dX12_joins_106 : decode cX12_joins 106 = .ok (.imul, 1) := by decide +kernel
theorem dX12_joins_107 : decode cX12_joins 107 = .ok (.iadd, 1) := by decide +kernel
theorem dX12_joins_108 : decode cX12_joins 108 = .ok (.aload_n 0, 1) := by decide +kernel
theorem dX12_joins_109 : decode cX12_joins 109 = .ok (.iload_n 3, 1) := by decide +kernel
theorem dX12_joins_110 : decode cX12_joins 110 = .ok (.bipush 8, 2) := by decide +kernel
theorem dX12_joins_112 : decode cX12_joins 112 = .ok (.idiv, 1) := by decide +kernel
theorem dX12_joins_113 : decode cX12_joins 113 = .ok (.iload_n 3, 1) := by decide +kernel
theorem dX12_joins_114 : decode cX12_joins 114 = .ok (.bipush 8, 2) := by decide +kernel
theorem dX12_joins_116 : decode cX12_joins 116 = .ok (.irem, 1) := by decide +kernel
theorem dX12_joins_117 : decode cX12_joins 117 = .ok (.invokevirtual 439, 3) := by decide +kernel
theorem dX12_joins_120 : decode cX12_joins 120 = .ok (.iadd, 1) := by decide +kernel
theorem dX12_joins_121 : decode cX12_joins 121 = .ok (.ireturn, 1) := by decide +kernel
theorem dX12_layers_0 : decode cX12_layers 0 = .ok (.iload_n 1, 1) := by decide +kernel
theorem dX12_layers_1 : decode cX12_layers 1 = .ok (.iconst 0, 1) := by decide +kernel
theorem dX12_layers_2 : decode cX12_layers 2 = .ok (.iconst 1, 1) := by decide +kernel
theorem dX12_layers_3 : decode cX12_layers 3 = .ok (.aload_n 0, 1) := by decide +kernel
theorem dX12_layers_4 : decode cX12_layers 4 = .ok (.getfield 7, 3) := by decide +kernel
theorem dX12_layers_7 : decode cX12_layers 7 = .ok (.iconst 0, 1) := by decide +kernel
theorem dX12_layers_8 : decode cX12_layers 8 = .ok (.iaload, 1) := by decide +kernel
theorem dX12_layers_9 : decode cX12_layers 9 = .ok (.ishl, 1) := by decide +kernel
theorem dX12_layers_10 : decode cX12_layers 10 = .ok (.iconst 1, 1) := by decide +kernel
theorem dX12_layers_11 : decode cX12_layers 11 = .ok (.isub, 1) := by decide +kernel
theorem dX12_layers_12 : decode cX12_layers 12 = .ok (.invokestatic 63, 3) := by decide +kernel
theorem dX12_layers_15 : decode cX12_layers 15 = .ok (.ifCond .ne 5, 3) := by decide +kernel
theorem dX12_layers_18 : decode cX12_layers 18 = .ok (.iconst (-1), 1) := by decide +kernel
theorem dX12_layers_19 : decode cX12_layers 19 = .ok (.ireturn, 1) := by decide +kernel
theorem dX12_layers_20 : decode cX12_layers 20 = .ok (.iconst 0, 1) := by decide +kernel
theorem dX12_layers_21 : decode cX12_layers 21 = .ok (.istore_n 2, 1) := by decide +kernel
theorem dX12_layers_22 : decode cX12_layers 22 = .ok (.iconst 0, 1) := by decide +kernel
theorem dX12_layers_23 : decode cX12_layers 23 = .ok (.istore_n 3, 1) := by decide +kernel
theorem dX12_layers_24 : decode cX12_layers 24 = .ok (.iload_n 3, 1) := by decide +kernel
theorem dX12_layers_25 : decode cX12_layers 25 = .ok (.aload_n 0, 1) := by decide +kernel
theorem dX12_layers_26 : decode cX12_layers 26 = .ok (.getfield 7, 3) := by decide +kernel
theorem dX12_layers_29 : decode cX12_layers 29 = .ok (.iconst 0, 1) := by decide +kernel
theorem dX12_layers_30 : decode cX12_layers 30 = .ok (.iaload, 1) := by decide +kernel
theorem dX12_layers_31 : decode cX12_layers 31 = .ok (.if_icmp .ge 35, 3) := by decide +kernel
theorem dX12_layers_34 : decode cX12_layers 34 = .ok (.iload_n 2, 1) := by decide +kernel
theorem dX12_layers_35 : decode cX12_layers 35 = .ok (.iload_n 1, 1) := by decide +kernel
theorem dX12_layers_36 : decode cX12_layers 36 = .ok (.iload_n 3, 1) := by decide +kernel
theorem dX12_layers_37 : decode cX12_layers 37 = .ok (.invokestatic 239, 3) := by decide +kernel
theorem dX12_layers_40 : decode cX12_layers 40 = .ok (.ifCond .eq 17, 3) := by decide +kernel
theorem dX12_layers_43 : decode cX12_layers 43 = .ok (.iconst 1, 1) := by decide +kernel
theorem dX12_layers_44 : decode cX12_layers 44 = .ok (.aload_n 0, 1) := by decide +kernel
theorem dX12_layers_45 : decode cX12_layers 45 = .ok (.getfield 7, 3) := by decide +kernel
theorem dX12_layers_48 : decode cX12_layers 48 = .ok (.bipush 36, 2) := by decide +kernel
theorem dX12_layers_50 : decode cX12_layers 50 = .ok (.iload_n 3, 1) := by decide +kernel
theorem dX12_layers_51 : decode cX12_layers 51 = .ok (.iadd, 1) := by decide +kernel
theorem dX12_layers_52 : decode cX12_layers 52 = .ok (.iaload, 1) := by decide +kernel
theorem dX12_layers_53 : decode cX12_layers 53 = .ok (.ishl, 1) := by decide +kernel
theorem dX12_layers_54 : decode cX12_layers 54 = .ok (.goto 4, 3) := by decide +kernel
theorem dX12_layers_57 : decode cX12_layers 57 = .ok (.iconst 0, 1) := by decide +kernel
theorem dX12_layers_58 : decode cX12_layers 58 = .ok (.ior, 1) := by decide +kernel
theorem dX12_layers_59 : decode cX12_layers 59 = .ok (.istore_n 2, 1) := by decide +kernel
theorem dX12_layers_60 : decode cX12_layers 60 = .ok (.iinc 3 1, 3) := by decide +kernel
theorem dX12_layers_63 : decode cX12_layers 63 = .ok (.goto (-39), 3) := by decide +kernel
theorem dX12_layers_66 : decode cX12_layers 66 = .ok (.iload_n 2, 1) := by decide +kernel
theorem dX12_layers_67 : decode cX12_layers 67 = .ok (.ireturn, 1) := by decide +kernel
theorem dX12_rhymeOf_0 : decode cX12_rhymeOf 0 = .ok (.aload_n 0, 1) := by decide +kernel
theorem dX12_rhymeOf_1 : decode cX12_rhymeOf 1 = .ok (.getfield 7, 3) := by decide +kernel
theorem dX12_rhymeOf_4 : decode cX12_rhymeOf 4 = .ok (.bipush 30, 2) := by decide +kernel
theorem dX12_rhymeOf_6 : decode cX12_rhymeOf 6 = .ok (.iload_n 1, 1) := by decide +kernel
theorem dX12_rhymeOf_7 : decode cX12_rhymeOf 7 = .ok (.iadd, 1) := by decide +kernel
theorem dX12_rhymeOf_8 : decode cX12_rhymeOf 8 = .ok (.iaload, 1) := by decide +kernel
theorem dX12_rhymeOf_9 : decode cX12_rhymeOf 9 = .ok (.istore_n 3, 1) := by decide +kernel
theorem dX12_rhymeOf_10 : decode cX12_rhymeOf 10 = .ok (.aload_n 0, 1) := by decide +kernel
theorem dX12_rhymeOf_11 : decode cX12_rhymeOf 11 = .ok (.getfield 7, 3) := by decide +kernel
theorem dX12_rhymeOf_14 : decode cX12_rhymeOf 14 = .ok (.bipush 30, 2) := by decide +kernel
theorem dX12_rhymeOf_16 : decode cX12_rhymeOf 16 = .ok (.iload_n 2, 1) := by decide +kernel
theorem dX12_rhymeOf_17 : decode cX12_rhymeOf 17 = .ok (.iadd, 1) := by decide +kernel
theorem dX12_rhymeOf_18 : decode cX12_rhymeOf 18 = .ok (.iaload, 1) := by decide +kernel
theorem dX12_rhymeOf_19 : decode cX12_rhymeOf 19 = .ok (.istore 4, 2) := by decide +kernel
theorem dX12_rhymeOf_21 : decode cX12_rhymeOf 21 = .ok (.iconst 0, 1) := by decide +kernel
theorem dX12_rhymeOf_22 : decode cX12_rhymeOf 22 = .ok (.istore 5, 2) := by decide +kernel
theorem dX12_rhymeOf_24 : decode cX12_rhymeOf 24 = .ok (.iload_n 3, 1) := by decide +kernel
theorem dX12_rhymeOf_25 : decode cX12_rhymeOf 25 = .ok (.ifCond .le 38, 3) := by decide +kernel
theorem dX12_rhymeOf_28 : decode cX12_rhymeOf 28 = .ok (.iload 4, 2) := by decide +kernel
theorem dX12_rhymeOf_30 : decode cX12_rhymeOf 30 = .ok (.ifCond .le 33, 3) := by decide +kernel
theorem dX12_rhymeOf_33 : decode cX12_rhymeOf 33 = .ok (.iload_n 3, 1) := by decide +kernel
theorem dX12_rhymeOf_34 : decode cX12_rhymeOf 34 = .ok (.bipush 10, 2) := by decide +kernel
theorem dX12_rhymeOf_36 : decode cX12_rhymeOf 36 = .ok (.irem, 1) := by decide +kernel
theorem dX12_rhymeOf_37 : decode cX12_rhymeOf 37 = .ok (.iload 4, 2) := by decide +kernel
theorem dX12_rhymeOf_39 : decode cX12_rhymeOf 39 = .ok (.bipush 10, 2) := by decide +kernel
theorem dX12_rhymeOf_41 : decode cX12_rhymeOf 41 = .ok (.irem, 1) := by decide +kernel
theorem dX12_rhymeOf_42 : decode cX12_rhymeOf 42 = .ok (.if_icmp .ne 21, 3) := by decide +kernel
theorem dX12_rhymeOf_45 : decode cX12_rhymeOf 45 = .ok (.iload_n 3, 1) := by decide +kernel
theorem dX12_rhymeOf_46 : decode cX12_rhymeOf 46 = .ok (.bipush 10, 2) := by decide +kernel
theorem dX12_rhymeOf_48 : decode cX12_rhymeOf 48 = .ok (.idiv, 1) := by decide +kernel
theorem dX12_rhymeOf_49 : decode cX12_rhymeOf 49 = .ok (.istore_n 3, 1) := by decide +kernel
theorem dX12_rhymeOf_50 : decode cX12_rhymeOf 50 = .ok (.iload 4, 2) := by decide +kernel
theorem dX12_rhymeOf_52 : decode cX12_rhymeOf 52 = .ok (.bipush 10, 2) := by decide +kernel
theorem dX12_rhymeOf_54 : decode cX12_rhymeOf 54 = .ok (.idiv, 1) := by decide +kernel
theorem dX12_rhymeOf_55 : decode cX12_rhymeOf 55 = .ok (.istore 4, 2) := by decide +kernel
theorem dX12_rhymeOf_57 : decode cX12_rhymeOf 57 = .ok (.iinc 5 1, 3) := by decide +kernel
theorem dX12_rhymeOf_60 : decode cX12_rhymeOf 60 = .ok (.goto (-36), 3) := by decide +kernel
theorem dX12_rhymeOf_63 : decode cX12_rhymeOf 63 = .ok (.iload 5, 2) := by decide +kernel
theorem dX12_rhymeOf_65 : decode cX12_rhymeOf 65 = .ok (.ireturn, 1) := by decide +kernel
theorem dX12_rhyme_0 : decode cX12_rhyme 0 = .ok (.aload_n 0, 1) := by decide +kernel
theorem dX12_rhyme_1 : decode cX12_rhyme 1 = .ok (.iload_n 1, 1) := by decide +kernel
theorem dX12_rhyme_2 : decode cX12_rhyme 2 = .ok (.invokevirtual 261, 3) := by decide +kernel
theorem dX12_rhyme_5 : decode cX12_rhyme 5 = .ok (.ifCond .eq 20, 3) := by decide +kernel
theorem dX12_rhyme_8 : decode cX12_rhyme 8 = .ok (.aload_n 0, 1) := by decide +kernel
theorem dX12_rhyme_9 : decode cX12_rhyme 9 = .ok (.iload_n 2, 1) := by decide +kernel
theorem dX12_rhyme_10 : decode cX12_rhyme 10 = .ok (.invokevirtual 261, 3) := by decide +kernel
theorem dX12_rhyme_13 : decode cX12_rhyme 13 = .ok (.ifCond .eq 12, 3) := by decide +kernel
theorem dX12_rhyme_16 : decode cX12_rhyme 16 = .ok (.aload_n 0, 1) := by decide +kernel
theorem dX12_rhyme_17 : decode cX12_rhyme 17 = .ok (.iload_n 1, 1) := by decide +kernel
theorem dX12_rhyme_18 : decode cX12_rhyme 18 = .ok (.iload_n 2, 1) := by decide +kernel
theorem dX12_rhyme_19 : decode cX12_rhyme 19 = .ok (.invokevirtual 448, 3) := by decide +kernel
theorem dX12_rhyme_22 : decode cX12_rhyme 22 = .ok (.goto 4, 3) := by decide +kernel
theorem dX12_rhyme_25 : decode cX12_rhyme 25 = .ok (.iconst (-1), 1) := by decide +kernel
theorem dX12_rhyme_26 : decode cX12_rhyme 26 = .ok (.ireturn, 1) := by decide +kernel
theorem dX12_kindred_0 : decode cX12_kindred 0 = .ok (.aload_n 0, 1) := by decide +kernel
theorem dX12_kindred_1 : decode cX12_kindred 1 = .ok (.iload_n 1, 1) := by decide +kernel
theorem dX12_kindred_2 : decode cX12_kindred 2 = .ok (.invokevirtual 261, 3) := by decide +kernel
theorem dX12_kindred_5 : decode cX12_kindred 5 = .ok (.ifCond .ne 5, 3) := by decide +kernel
theorem dX12_kindred_8 : decode cX12_kindred 8 = .ok (.iconst (-1), 1) := by decide +kernel
theorem dX12_kindred_9 : decode cX12_kindred 9 = .ok (.ireturn, 1) := by decide +kernel
theorem dX12_kindred_10 : decode cX12_kindred 10 = .ok (.iconst (-1), 1) := by decide +kernel
theorem dX12_kindred_11 : decode cX12_kindred 11 = .ok (.istore_n 2, 1) := by decide +kernel
theorem dX12_kindred_12 : decode cX12_kindred 12 = .ok (.iconst 0, 1) := by decide +kernel
theorem dX12_kindred_13 : decode cX12_kindred 13 = .ok (.istore_n 3, 1) := by decide +kernel
theorem dX12_kindred_14 : decode cX12_kindred 14 = .ok (.iload_n 3, 1) := by decide +kernel
theorem dX12_kindred_15 : decode cX12_kindred 15 = .ok (.aload_n 0, 1) := by decide +kernel
theorem dX12_kindred_16 : decode cX12_kindred 16 = .ok (.getfield 7, 3) := by decide +kernel
theorem dX12_kindred_19 : decode cX12_kindred 19 = .ok (.iconst 0, 1) := by decide +kernel
theorem dX12_kindred_20 : decode cX12_kindred 20 = .ok (.iaload, 1) := by decide +kernel
theorem dX12_kindred_21 : decode cX12_kindred 21 = .ok (.if_icmp .ge 40, 3) := by decide +kernel
theorem dX12_kindred_24 : decode cX12_kindred 24 = .ok (.iload_n 3, 1) := by decide +kernel
theorem dX12_kindred_25 : decode cX12_kindred 25 = .ok (.iload_n 1, 1) := by decide +kernel
theorem dX12_kindred_26 : decode cX12_kindred 26 = .ok (.if_icmp .eq 29, 3) := by decide +kernel
theorem dX12_kindred_29 : decode cX12_kindred 29 = .ok (.aload_n 0, 1) := by decide +kernel
theorem dX12_kindred_30 : decode cX12_kindred 30 = .ok (.iload_n 1, 1) := by decide +kernel
theorem dX12_kindred_31 : decode cX12_kindred 31 = .ok (.iload_n 3, 1) := by decide +kernel
theorem dX12_kindred_32 : decode cX12_kindred 32 = .ok (.invokevirtual 448, 3) := by decide +kernel
theorem dX12_kindred_35 : decode cX12_kindred 35 = .ok (.iload_n 2, 1) := by decide +kernel
theorem dX12_kindred_36 : decode cX12_kindred 36 = .ok (.iconst (-1), 1) := by decide +kernel
theorem dX12_kindred_37 : decode cX12_kindred 37 = .ok (.if_icmp .ne 7, 3) := by decide +kernel
theorem dX12_kindred_40 : decode cX12_kindred 40 = .ok (.iconst 0, 1) := by decide +kernel
theorem dX12_kindred_41 : decode cX12_kindred 41 = .ok (.goto 9, 3) := by decide +kernel
theorem dX12_kindred_44 : decode cX12_kindred 44 = .ok (.aload_n 0, 1) := by decide +kernel
theorem dX12_kindred_45 : decode cX12_kindred 45 = .ok (.iload_n 1, 1) := by decide +kernel
theorem dX12_kindred_46 : decode cX12_kindred 46 = .ok (.iload_n 2, 1) := by decide +kernel
theorem dX12_kindred_47 : decode cX12_kindred 47 = .ok (.invokevirtual 448, 3) := by decide +kernel
theorem dX12_kindred_50 : decode cX12_kindred 50 = .ok (.if_icmp .le 5, 3) := by decide +kernel
theorem dX12_kindred_53 : decode cX12_kindred 53 = .ok (.iload_n 3, 1) := by decide +kernel
theorem dX12_kindred_54 : decode cX12_kindred 54 = .ok (.istore_n 2, 1) := by decide +kernel
theorem dX12_kindred_55 : decode cX12_kindred 55 = .ok (.iinc 3 1, 3) := by decide +kernel
theorem dX12_kindred_58 : decode cX12_kindred 58 = .ok (.goto (-44), 3) := by decide +kernel
theorem dX12_kindred_61 : decode cX12_kindred 61 = .ok (.iload_n 2, 1) := by decide +kernel
theorem dX12_kindred_62 : decode cX12_kindred 62 = .ok (.ireturn, 1) := by decide +kernel
theorem dX12_quota_0 : decode cX12_quota 0 = .ok (.iload_n 1, 1) := by decide +kernel
theorem dX12_quota_1 : decode cX12_quota 1 = .ok (.iconst 1, 1) := by decide +kernel
theorem dX12_quota_2 : decode cX12_quota 2 = .ok (.bipush 99, 2) := by decide +kernel
theorem dX12_quota_4 : decode cX12_quota 4 = .ok (.invokestatic 63, 3) := by decide +kernel
theorem dX12_quota_7 : decode cX12_quota 7 = .ok (.ifCond .ne 5, 3) := by decide +kernel
theorem dX12_quota_10 : decode cX12_quota 10 = .ok (.iconst 0, 1) := by decide +kernel
theorem dX12_quota_11 : decode cX12_quota 11 = .ok (.ireturn, 1) := by decide +kernel
theorem dX12_quota_12 : decode cX12_quota 12 = .ok (.aload_n 0, 1) := by decide +kernel
theorem dX12_quota_13 : decode cX12_quota 13 = .ok (.getfield 7, 3) := by decide +kernel
theorem dX12_quota_16 : decode cX12_quota 16 = .ok (.bipush 125, 2) := by decide +kernel
theorem dX12_quota_18 : decode cX12_quota 18 = .ok (.iload_n 1, 1) := by decide +kernel
theorem dX12_quota_19 : decode cX12_quota 19 = .ok (.iastore, 1) := by decide +kernel
theorem dX12_quota_20 : decode cX12_quota 20 = .ok (.iconst 1, 1) := by decide +kernel
theorem dX12_quota_21 : decode cX12_quota 21 = .ok (.ireturn, 1) := by decide +kernel
theorem dX12_isMuch_0 : decode cX12_isMuch 0 = .ok (.iconst 0, 1) := by decide +kernel
theorem dX12_isMuch_1 : decode cX12_isMuch 1 = .ok (.istore_n 2, 1) := by decide +kernel
theorem dX12_isMuch_2 : decode cX12_isMuch 2 = .ok (.iconst 0, 1) := by decide +kernel
theorem dX12_isMuch_3 : decode cX12_isMuch 3 = .ok (.istore_n 3, 1) := by decide +kernel
theorem dX12_isMuch_4 : decode cX12_isMuch 4 = .ok (.iload_n 3, 1) := by decide +kernel
theorem dX12_isMuch_5 : decode cX12_isMuch 5 = .ok (.aload_n 0, 1) := by decide +kernel
theorem dX12_isMuch_6 : decode cX12_isMuch 6 = .ok (.getfield 7, 3) := by decide +kernel
theorem dX12_isMuch_9 : decode cX12_isMuch 9 = .ok (.iconst 1, 1) := by decide +kernel
theorem dX12_isMuch_10 : decode cX12_isMuch 10 = .ok (.iaload, 1) := by decide +kernel
theorem dX12_isMuch_11 : decode cX12_isMuch 11 = .ok (.if_icmp .ge 33, 3) := by decide +kernel
theorem dX12_isMuch_14 : decode cX12_isMuch 14 = .ok (.iload_n 2, 1) := by decide +kernel
theorem dX12_isMuch_15 : decode cX12_isMuch 15 = .ok (.iload_n 1, 1) := by decide +kernel
theorem dX12_isMuch_16 : decode cX12_isMuch 16 = .ok (.iload_n 3, 1) := by decide +kernel
theorem dX12_isMuch_17 : decode cX12_isMuch 17 = .ok (.invokestatic 239, 3) := by decide +kernel
theorem dX12_isMuch_20 : decode cX12_isMuch 20 = .ok (.ifCond .eq 15, 3) := by decide +kernel
theorem dX12_isMuch_23 : decode cX12_isMuch 23 = .ok (.aload_n 0, 1) := by decide +kernel
theorem dX12_isMuch_24 : decode cX12_isMuch 24 = .ok (.getfield 7, 3) := by decide +kernel
theorem dX12_isMuch_27 : decode cX12_isMuch 27 = .ok (.bipush 42, 2) := by decide +kernel
theorem dX12_isMuch_29 : decode cX12_isMuch 29 = .ok (.iload_n 3, 1) := by decide +kernel
theorem dX12_isMuch_30 : decode cX12_isMuch 30 = .ok (.iadd, 1) := by decide +kernel
theorem dX12_isMuch_31 : decode cX12_isMuch 31 = .ok (.iaload, 1) := by decide +kernel
theorem dX12_isMuch_32 : decode cX12_isMuch 32 = .ok (.goto 4, 3) := by decide +kernel
theorem dX12_isMuch_35 : decode cX12_isMuch 35 = .ok (.iconst 0, 1) := by decide +kernel
theorem dX12_isMuch_36 : decode cX12_isMuch 36 = .ok (.iadd, 1) := by decide +kernel
theorem dX12_isMuch_37 : decode cX12_isMuch 37 = .ok (.istore_n 2, 1) := by decide +kernel
theorem dX12_isMuch_38 : decode cX12_isMuch 38 = .ok (.iinc 3 1, 3) := by decide +kernel
theorem dX12_isMuch_41 : decode cX12_isMuch 41 = .ok (.goto (-37), 3) := by decide +kernel
theorem dX12_isMuch_44 : decode cX12_isMuch 44 = .ok (.iload_n 2, 1) := by decide +kernel
theorem dX12_isMuch_45 : decode cX12_isMuch 45 = .ok (.aload_n 0, 1) := by decide +kernel
theorem dX12_isMuch_46 : decode cX12_isMuch 46 = .ok (.getfield 7, 3) := by decide +kernel
theorem dX12_isMuch_49 : decode cX12_isMuch 49 = .ok (.bipush 125, 2) := by decide +kernel
theorem dX12_isMuch_51 : decode cX12_isMuch 51 = .ok (.iaload, 1) := by decide +kernel
theorem dX12_isMuch_52 : decode cX12_isMuch 52 = .ok (.if_icmp .lt 7, 3) := by decide +kernel
theorem dX12_isMuch_55 : decode cX12_isMuch 55 = .ok (.iconst 1, 1) := by decide +kernel
theorem dX12_isMuch_56 : decode cX12_isMuch 56 = .ok (.goto 4, 3) := by decide +kernel
theorem dX12_isMuch_59 : decode cX12_isMuch 59 = .ok (.iconst 0, 1) := by decide +kernel
theorem dX12_isMuch_60 : decode cX12_isMuch 60 = .ok (.ireturn, 1) := by decide +kernel
theorem dX12_orders_0 : decode cX12_orders 0 = .ok (.iconst 1, 1) := by decide +kernel
theorem dX12_orders_1 : decode cX12_orders 1 = .ok (.istore_n 1, 1) := by decide +kernel
theorem dX12_orders_2 : decode cX12_orders 2 = .ok (.iconst 2, 1) := by decide +kernel
theorem dX12_orders_3 : decode cX12_orders 3 = .ok (.istore_n 2, 1) := by decide +kernel
theorem dX12_orders_4 : decode cX12_orders 4 = .ok (.iload_n 2, 1) := by decide +kernel
theorem dX12_orders_5 : decode cX12_orders 5 = .ok (.iload_n 0, 1) := by decide +kernel
theorem dX12_orders_6 : decode cX12_orders 6 = .ok (.if_icmp .gt 13, 3) := by decide +kernel
theorem dX12_orders_9 : decode cX12_orders 9 = .ok (.iload_n 1, 1) := by decide +kernel
theorem dX12_orders_10 : decode cX12_orders 10 = .ok (.iload_n 2, 1) := by decide +kernel
theorem dX12_orders_11 : decode cX12_orders 11 = .ok (.imul, 1) := by decide +kernel
theorem dX12_orders_12 : decode cX12_orders 12 = .ok (.istore_n 1, 1) := by decide +kernel
theorem dX12_orders_13 : decode cX12_orders 13 = .ok (.iinc 2 1, 3) := by decide +kernel
theorem dX12_orders_16 : decode cX12_orders 16 = .ok (.goto (-12), 3) := by decide +kernel
theorem dX12_orders_19 : decode cX12_orders 19 = .ok (.iload_n 1, 1) := by decide +kernel
theorem dX12_orders_20 : decode cX12_orders 20 = .ok (.ireturn, 1) := by decide +kernel
theorem dX12_powerOf_0 : decode cX12_powerOf 0 = .ok (.aload_n 0, 1) := by decide +kernel
theorem dX12_powerOf_1 : decode cX12_powerOf 1 = .ok (.getfield 7, 3) := by decide +kernel
theorem dX12_powerOf_4 : decode cX12_powerOf 4 = .ok (.iconst 1, 1) := by decide +kernel
theorem dX12_powerOf_5 : decode cX12_powerOf 5 = .ok (.iaload, 1) := by decide +kernel
theorem dX12_powerOf_6 : decode cX12_powerOf 6 = .ok (.istore_n 2, 1) := by decide +kernel
theorem dX12_powerOf_7 : decode cX12_powerOf 7 = .ok (.iconst 0, 1) := by decide +kernel
theorem dX12_powerOf_8 : decode cX12_powerOf 8 = .ok (.istore_n 3, 1) := by decide +kernel
theorem dX12_powerOf_9 : decode cX12_powerOf 9 = .ok (.iconst 0, 1) := by decide +kernel
theorem dX12_powerOf_10 : decode cX12_powerOf 10 = .ok (.istore 4, 2) := by decide +kernel
theorem dX12_powerOf_12 : decode cX12_powerOf 12 = .ok (.iload 4, 2) := by decide +kernel
theorem dX12_powerOf_14 : decode cX12_powerOf 14 = .ok (.iconst 1, 1) := by decide +kernel
theorem dX12_powerOf_15 : decode cX12_powerOf 15 = .ok (.iload_n 2, 1) := by decide +kernel
theorem dX12_powerOf_16 : decode cX12_powerOf 16 = .ok (.ishl, 1) := by decide +kernel
theorem dX12_powerOf_17 : decode cX12_powerOf 17 = .ok (.if_icmp .ge 64, 3) := by decide +kernel
theorem dX12_powerOf_20 : decode cX12_powerOf 20 = .ok (.iload 4, 2) := by decide +kernel
theorem dX12_powerOf_22 : decode cX12_powerOf 22 = .ok (.iload_n 1, 1) := by decide +kernel
theorem dX12_powerOf_23 : decode cX12_powerOf 23 = .ok (.invokestatic 239, 3) := by decide +kernel
theorem dX12_powerOf_26 : decode cX12_powerOf 26 = .ok (.ifCond .ne 49, 3) := by decide +kernel
theorem dX12_powerOf_29 : decode cX12_powerOf 29 = .ok (.aload_n 0, 1) := by decide +kernel
theorem dX12_powerOf_30 : decode cX12_powerOf 30 = .ok (.iload 4, 2) := by decide +kernel
theorem dX12_powerOf_32 : decode cX12_powerOf 32 = .ok (.invokevirtual 451, 3) := by decide +kernel
theorem dX12_powerOf_35 : decode cX12_powerOf 35 = .ok (.ifCond .ne 40, 3) := by decide +kernel
theorem dX12_powerOf_38 : decode cX12_powerOf 38 = .ok (.aload_n 0, 1) := by decide +kernel
theorem dX12_powerOf_39 : decode cX12_powerOf 39 = .ok (.iload 4, 2) := by decide +kernel
theorem dX12_powerOf_41 : decode cX12_powerOf 41 = .ok (.iconst 1, 1) := by decide +kernel
theorem dX12_powerOf_42 : decode cX12_powerOf 42 = .ok (.iload_n 1, 1) := by decide +kernel
theorem dX12_powerOf_43 : decode cX12_powerOf 43 = .ok (.ishl, 1) := by decide +kernel
theorem dX12_powerOf_44 : decode cX12_powerOf 44 = .ok (.ior, 1) := by decide +kernel
theorem dX12_powerOf_45 : decode cX12_powerOf 45 = .ok (.invokevirtual 451, 3) := by decide +kernel
theorem dX12_powerOf_48 : decode cX12_powerOf 48 = .ok (.ifCond .eq 27, 3) := by decide +kernel
theorem dX12_powerOf_51 : decode cX12_powerOf 51 = .ok (.iload_n 3, 1) := by decide +kernel
theorem dX12_powerOf_52 : decode cX12_powerOf 52 = .ok (.iload 4, 2) := by decide +kernel
theorem dX12_powerOf_54 : decode cX12_powerOf 54 = .ok (.invokestatic 397, 3) := by decide +kernel
theorem dX12_powerOf_57 : decode cX12_powerOf 57 = .ok (.invokestatic 454, 3) := by decide +kernel
theorem dX12_powerOf_60 : decode cX12_powerOf 60 = .ok (.iload_n 2, 1) := by decide +kernel
theorem dX12_powerOf_61 : decode cX12_powerOf 61 = .ok (.iconst 1, 1) := by decide +kernel
theorem dX12_powerOf_62 : decode cX12_powerOf 62 = .ok (.isub, 1) := by decide +kernel
theorem dX12_powerOf_63 : decode cX12_powerOf 63 = .ok (.iload 4, 2) := by decide +kernel
theorem dX12_powerOf_65 : decode cX12_powerOf 65 = .ok (.invokestatic 397, 3) := by decide +kernel
theorem dX12_powerOf_68 : decode cX12_powerOf 68 = .ok (.isub, 1) := by decide +kernel
theorem dX12_powerOf_69 : decode cX12_powerOf 69 = .ok (.invokestatic 454, 3) := by decide +kernel
theorem dX12_powerOf_72 : decode cX12_powerOf 72 = .ok (.imul, 1) := by decide +kernel
theorem dX12_powerOf_73 : decode cX12_powerOf 73 = .ok (.iadd, 1) := by decide +kernel
theorem dX12_powerOf_74 : decode cX12_powerOf 74 = .ok (.istore_n 3, 1) := by decide +kernel
theorem dX12_powerOf_75 : decode cX12_powerOf 75 = .ok (.iinc 4 1, 3) := by decide +kernel
theorem dX12_powerOf_78 : decode cX12_powerOf 78 = .ok (.goto (-66), 3) := by decide +kernel
theorem dX12_powerOf_81 : decode cX12_powerOf 81 = .ok (.iload_n 3, 1) := by decide +kernel
theorem dX12_powerOf_82 : decode cX12_powerOf 82 = .ok (.ireturn, 1) := by decide +kernel
theorem dX12_power_0 : decode cX12_power 0 = .ok (.aload_n 0, 1) := by decide +kernel
theorem dX12_power_1 : decode cX12_power 1 = .ok (.iload_n 1, 1) := by decide +kernel
theorem dX12_power_2 : decode cX12_power 2 = .ok (.invokevirtual 351, 3) := by decide +kernel
theorem dX12_power_5 : decode cX12_power 5 = .ok (.ifCond .ne 5, 3) := by decide +kernel
theorem dX12_power_8 : decode cX12_power 8 = .ok (.iconst (-1), 1) := by decide +kernel
theorem dX12_power_9 : decode cX12_power 9 = .ok (.ireturn, 1) := by decide +kernel
theorem dX12_power_10 : decode cX12_power 10 = .ok (.aload_n 0, 1) := by decide +kernel
theorem dX12_power_11 : decode cX12_power 11 = .ok (.getfield 7, 3) := by decide +kernel
theorem dX12_power_14 : decode cX12_power 14 = .ok (.iconst 1, 1) := by decide +kernel
theorem dX12_power_15 : decode cX12_power 15 = .ok (.iaload, 1) := by decide +kernel
theorem dX12_power_16 : decode cX12_power 16 = .ok (.invokestatic 454, 3) := by decide +kernel
theorem dX12_power_19 : decode cX12_power 19 = .ok (.istore_n 3, 1) := by decide +kernel
theorem dX12_power_20 : decode cX12_power 20 = .ok (.iload_n 2, 1) := by decide +kernel
theorem dX12_power_21 : decode cX12_power 21 = .ok (.ifCond .eq 7, 3) := by decide +kernel
theorem dX12_power_24 : decode cX12_power 24 = .ok (.iload_n 3, 1) := by decide +kernel
theorem dX12_power_25 : decode cX12_power 25 = .ok (.goto 8, 3) := by decide +kernel
theorem dX12_power_28 : decode cX12_power 28 = .ok (.aload_n 0, 1) := by decide +kernel
theorem dX12_power_29 : decode cX12_power 29 = .ok (.iload_n 1, 1) := by decide +kernel
theorem dX12_power_30 : decode cX12_power 30 = .ok (.invokevirtual 457, 3) := by decide +kernel
theorem dX12_power_33 : decode cX12_power 33 = .ok (.aload_n 0, 1) := by decide +kernel
theorem dX12_power_34 : decode cX12_power 34 = .ok (.iload_n 1, 1) := by decide +kernel
theorem dX12_power_35 : decode cX12_power 35 = .ok (.invokevirtual 457, 3) := by decide +kernel
theorem dX12_power_38 : decode cX12_power 38 = .ok (.i2l, 1) := by decide +kernel
theorem dX12_power_39 : decode cX12_power 39 = .ok (.iload_n 3, 1) := by decide +kernel
theorem dX12_power_40 : decode cX12_power 40 = .ok (.i2l, 1) := by decide +kernel
theorem dX12_power_41 : decode cX12_power 41 = .ok (.invokestatic 436, 3) := by decide +kernel
theorem dX12_power_44 : decode cX12_power 44 = .ok (.l2i, 1) := by decide +kernel
theorem dX12_power_45 : decode cX12_power 45 = .ok (.idiv, 1) := by decide +kernel
theorem dX12_power_46 : decode cX12_power 46 = .ok (.ireturn, 1) := by decide +kernel
theorem dX12_dummies_0 : decode cX12_dummies 0 = .ok (.iconst 0, 1) := by decide +kernel
theorem dX12_dummies_1 : decode cX12_dummies 1 = .ok (.istore_n 1, 1) := by decide +kernel
theorem dX12_dummies_2 : decode cX12_dummies 2 = .ok (.iconst 0, 1) := by decide +kernel
theorem dX12_dummies_3 : decode cX12_dummies 3 = .ok (.istore_n 2, 1) := by decide +kernel
theorem dX12_dummies_4 : decode cX12_dummies 4 = .ok (.iload_n 2, 1) := by decide +kernel
theorem dX12_dummies_5 : decode cX12_dummies 5 = .ok (.aload_n 0, 1) := by decide +kernel
theorem dX12_dummies_6 : decode cX12_dummies 6 = .ok (.getfield 7, 3) := by decide +kernel
theorem dX12_dummies_9 : decode cX12_dummies 9 = .ok (.iconst 1, 1) := by decide +kernel
theorem dX12_dummies_10 : decode cX12_dummies 10 = .ok (.iaload, 1) := by decide +kernel
theorem dX12_dummies_11 : decode cX12_dummies 11 = .ok (.if_icmp .ge 27, 3) := by decide +kernel
theorem dX12_dummies_14 : decode cX12_dummies 14 = .ok (.iload_n 1, 1) := by decide +kernel
theorem dX12_dummies_15 : decode cX12_dummies 15 = .ok (.aload_n 0, 1) := by decide +kernel
theorem dX12_dummies_16 : decode cX12_dummies 16 = .ok (.iload_n 2, 1) := by decide +kernel
theorem dX12_dummies_17 : decode cX12_dummies 17 = .ok (.invokevirtual 457, 3) := by decide +kernel
theorem dX12_dummies_20 : decode cX12_dummies 20 = .ok (.ifCond .ne 9, 3) := by decide +kernel
theorem dX12_dummies_23 : decode cX12_dummies 23 = .ok (.iconst 1, 1) := by decide +kernel
theorem dX12_dummies_24 : decode cX12_dummies 24 = .ok (.iload_n 2, 1) := by decide +kernel
theorem dX12_dummies_25 : decode cX12_dummies 25 = .ok (.ishl, 1) := by decide +kernel
theorem dX12_dummies_26 : decode cX12_dummies 26 = .ok (.goto 4, 3) := by decide +kernel
theorem dX12_dummies_29 : decode cX12_dummies 29 = .ok (.iconst 0, 1) := by decide +kernel
theorem dX12_dummies_30 : decode cX12_dummies 30 = .ok (.ior, 1) := by decide +kernel
theorem dX12_dummies_31 : decode cX12_dummies 31 = .ok (.istore_n 1, 1) := by decide +kernel
theorem dX12_dummies_32 : decode cX12_dummies 32 = .ok (.iinc 2 1, 3) := by decide +kernel
theorem dX12_dummies_35 : decode cX12_dummies 35 = .ok (.goto (-31), 3) := by decide +kernel
theorem dX12_dummies_38 : decode cX12_dummies 38 = .ok (.iload_n 1, 1) := by decide +kernel
theorem dX12_dummies_39 : decode cX12_dummies 39 = .ok (.ireturn, 1) := by decide +kernel
theorem dX12_veto_0 : decode cX12_veto 0 = .ok (.iconst 1, 1) := by decide +kernel
theorem dX12_veto_1 : decode cX12_veto 1 = .ok (.aload_n 0, 1) := by decide +kernel
theorem dX12_veto_2 : decode cX12_veto 2 = .ok (.getfield 7, 3) := by decide +kernel
theorem dX12_veto_5 : decode cX12_veto 5 = .ok (.iconst 1, 1) := by decide +kernel
theorem dX12_veto_6 : decode cX12_veto 6 = .ok (.iaload, 1) := by decide +kernel
theorem dX12_veto_7 : decode cX12_veto 7 = .ok (.ishl, 1) := by decide +kernel
theorem dX12_veto_8 : decode cX12_veto 8 = .ok (.iconst 1, 1) := by decide +kernel
theorem dX12_veto_9 : decode cX12_veto 9 = .ok (.isub, 1) := by decide +kernel
theorem dX12_veto_10 : decode cX12_veto 10 = .ok (.istore_n 1, 1) := by decide +kernel
theorem dX12_veto_11 : decode cX12_veto 11 = .ok (.iload_n 1, 1) := by decide +kernel
theorem dX12_veto_12 : decode cX12_veto 12 = .ok (.istore_n 2, 1) := by decide +kernel
theorem dX12_veto_13 : decode cX12_veto 13 = .ok (.iconst 0, 1) := by decide +kernel
theorem dX12_veto_14 : decode cX12_veto 14 = .ok (.istore_n 3, 1) := by decide +kernel
theorem dX12_veto_15 : decode cX12_veto 15 = .ok (.iload_n 3, 1) := by decide +kernel
theorem dX12_veto_16 : decode cX12_veto 16 = .ok (.iload_n 1, 1) := by decide +kernel
theorem dX12_veto_17 : decode cX12_veto 17 = .ok (.if_icmp .gt 21, 3) := by decide +kernel
theorem dX12_veto_20 : decode cX12_veto 20 = .ok (.aload_n 0, 1) := by decide +kernel
theorem dX12_veto_21 : decode cX12_veto 21 = .ok (.iload_n 3, 1) := by decide +kernel
theorem dX12_veto_22 : decode cX12_veto 22 = .ok (.invokevirtual 451, 3) := by decide +kernel
theorem dX12_veto_25 : decode cX12_veto 25 = .ok (.ifCond .eq 7, 3) := by decide +kernel
theorem dX12_veto_28 : decode cX12_veto 28 = .ok (.iload_n 2, 1) := by decide +kernel
theorem dX12_veto_29 : decode cX12_veto 29 = .ok (.iload_n 3, 1) := by decide +kernel
theorem dX12_veto_30 : decode cX12_veto 30 = .ok (.iand, 1) := by decide +kernel
theorem dX12_veto_31 : decode cX12_veto 31 = .ok (.istore_n 2, 1) := by decide +kernel
theorem dX12_veto_32 : decode cX12_veto 32 = .ok (.iinc 3 1, 3) := by decide +kernel
theorem dX12_veto_35 : decode cX12_veto 35 = .ok (.goto (-20), 3) := by decide +kernel
theorem dX12_veto_38 : decode cX12_veto 38 = .ok (.iload_n 2, 1) := by decide +kernel
theorem dX12_veto_39 : decode cX12_veto 39 = .ok (.ireturn, 1) := by decide +kernel
theorem dX12_coalitions_0 : decode cX12_coalitions 0 = .ok (.iconst 0, 1) := by decide +kernel
theorem dX12_coalitions_1 : decode cX12_coalitions 1 = .ok (.istore_n 1, 1) := by decide +kernel
theorem dX12_coalitions_2 : decode cX12_coalitions 2 = .ok (.iconst 0, 1) := by decide +kernel
theorem dX12_coalitions_3 : decode cX12_coalitions 3 = .ok (.istore_n 2, 1) := by decide +kernel
theorem dX12_coalitions_4 : decode cX12_coalitions 4 = .ok (.iload_n 2, 1) := by decide +kernel
theorem dX12_coalitions_5 : decode cX12_coalitions 5 = .ok (.iconst 1, 1) := by decide +kernel
theorem dX12_coalitions_6 : decode cX12_coalitions 6 = .ok (.aload_n 0, 1) := by decide +kernel
theorem dX12_coalitions_7 : decode cX12_coalitions 7 = .ok (.getfield 7, 3) := by decide +kernel
theorem dX12_coalitions_10 : decode cX12_coalitions 10 = .ok (.iconst 1, 1) := by decide +kernel
theorem dX12_coalitions_11 : decode cX12_coalitions 11 = .ok (.iaload, 1) := by decide +kernel
theorem dX12_coalitions_12 : decode cX12_coalitions 12 = .ok (.ishl, 1) := by decide +kernel
theorem dX12_coalitions_13 : decode cX12_coalitions 13 = .ok (.if_icmp .ge 25, 3) := by decide +kernel
theorem dX12_coalitions_16 : decode cX12_coalitions 16 = .ok (.iload_n 1, 1) := by decide +kernel
theorem dX12_coalitions_17 : decode cX12_coalitions 17 = .ok (.aload_n 0, 1) := by decide +kernel
theorem dX12_coalitions_18 : decode cX12_coalitions 18 = .ok (.iload_n 2, 1) := by decide +kernel
theorem dX12_coalitions_19 : decode cX12_coalitions 19 = .ok (.invokevirtual 451, 3) := by decide +kernel
theorem dX12_coalitions_22 : decode cX12_coalitions 22 = .ok (.ifCond .eq 7, 3) := by decide +kernel
theorem dX12_coalitions_25 : decode cX12_coalitions 25 = .ok (.iconst 1, 1) := by decide +kernel
theorem dX12_coalitions_26 : decode cX12_coalitions 26 = .ok (.goto 4, 3) := by decide +kernel
theorem dX12_coalitions_29 : decode cX12_coalitions 29 = .ok (.iconst 0, 1) := by decide +kernel
theorem dX12_coalitions_30 : decode cX12_coalitions 30 = .ok (.iadd, 1) := by decide +kernel
theorem dX12_coalitions_31 : decode cX12_coalitions 31 = .ok (.istore_n 1, 1) := by decide +kernel
theorem dX12_coalitions_32 : decode cX12_coalitions 32 = .ok (.iinc 2 1, 3) := by decide +kernel
theorem dX12_coalitions_35 : decode cX12_coalitions 35 = .ok (.goto (-31), 3) := by decide +kernel
theorem dX12_coalitions_38 : decode cX12_coalitions 38 = .ok (.iload_n 1, 1) := by decide +kernel
theorem dX12_coalitions_39 : decode cX12_coalitions 39 = .ok (.ireturn, 1) := by decide +kernel
theorem dX12_said_0 : decode cX12_said 0 = .ok (.iload_n 1, 1) := by decide +kernel
theorem dX12_said_1 : decode cX12_said 1 = .ok (.iconst (-1), 1) := by decide +kernel
theorem dX12_said_2 : decode cX12_said 2 = .ok (.if_icmp .ne 13, 3) := by decide +kernel
theorem dX12_said_5 : decode cX12_said 5 = .ok (.aload_n 0, 1) := by decide +kernel
theorem dX12_said_6 : decode cX12_said 6 = .ok (.getfield 7, 3) := by decide +kernel
theorem dX12_said_9 : decode cX12_said 9 = .ok (.bipush 6, 2) := by decide +kernel
theorem dX12_said_11 : decode cX12_said 11 = .ok (.iconst 0, 1) := by decide +kernel
theorem dX12_said_12 : decode cX12_said 12 = .ok (.iastore, 1) := by decide +kernel
theorem dX12_said_13 : decode cX12_said 13 = .ok (.iconst 0, 1) := by decide +kernel
theorem dX12_said_14 : decode cX12_said 14 = .ok (.ireturn, 1) := by decide +kernel
theorem dX12_said_15 : decode cX12_said 15 = .ok (.aload_n 0, 1) := by decide +kernel
theorem dX12_said_16 : decode cX12_said 16 = .ok (.iload_n 1, 1) := by decide +kernel
theorem dX12_said_17 : decode cX12_said 17 = .ok (.invokevirtual 261, 3) := by decide +kernel
theorem dX12_said_20 : decode cX12_said 20 = .ok (.ifCond .eq 26, 3) := by decide +kernel
theorem dX12_said_23 : decode cX12_said 23 = .ok (.iload_n 2, 1) := by decide +kernel
theorem dX12_said_24 : decode cX12_said 24 = .ok (.bipush (-99), 2) := by decide +kernel
theorem dX12_said_26 : decode cX12_said 26 = .ok (.bipush 99, 2) := by decide +kernel
theorem dX12_said_28 : decode cX12_said 28 = .ok (.invokestatic 63, 3) := by decide +kernel
theorem dX12_said_31 : decode cX12_said 31 = .ok (.ifCond .eq 15, 3) := by decide +kernel
theorem dX12_said_34 : decode cX12_said 34 = .ok (.aload_n 0, 1) := by decide +kernel
theorem dX12_said_35 : decode cX12_said 35 = .ok (.getfield 7, 3) := by decide +kernel
theorem dX12_said_38 : decode cX12_said 38 = .ok (.bipush 6, 2) := by decide +kernel
theorem dX12_said_40 : decode cX12_said 40 = .ok (.iaload, 1) := by decide +kernel
theorem dX12_said_41 : decode cX12_said 41 = .ok (.bipush 8, 2) := by decide +kernel
theorem dX12_said_43 : decode cX12_said 43 = .ok (.if_icmp .ne 6, 3) := by decide +kernel
theorem dX12_said_46 : decode cX12_said 46 = .ok (.bipush (-2), 2) := by decide +kernel
theorem dX12_said_48 : decode cX12_said 48 = .ok (.ireturn, 1) := by decide +kernel
theorem dX12_said_49 : decode cX12_said 49 = .ok (.aload_n 0, 1) := by decide +kernel
theorem dX12_said_50 : decode cX12_said 50 = .ok (.getfield 7, 3) := by decide +kernel
theorem dX12_said_53 : decode cX12_said 53 = .ok (.bipush 126, 2) := by decide +kernel
theorem dX12_said_55 : decode cX12_said 55 = .ok (.iconst 2, 1) := by decide +kernel
theorem dX12_said_56 : decode cX12_said 56 = .ok (.aload_n 0, 1) := by decide +kernel
theorem dX12_said_57 : decode cX12_said 57 = .ok (.getfield 7, 3) := by decide +kernel
theorem dX12_said_60 : decode cX12_said 60 = .ok (.bipush 6, 2) := by decide +kernel
theorem dX12_said_62 : decode cX12_said 62 = .ok (.iaload, 1) := by decide +kernel
theorem dX12_said_63 : decode cX12_said 63 = .ok (.imul, 1) := by decide +kernel
theorem dX12_said_64 : decode cX12_said 64 = .ok (.iadd, 1) := by decide +kernel
theorem dX12_said_65 : decode cX12_said 65 = .ok (.iload_n 1, 1) := by decide +kernel
theorem dX12_said_66 : decode cX12_said 66 = .ok (.iastore, 1) := by decide +kernel
theorem dX12_said_67 : decode cX12_said 67 = .ok (.aload_n 0, 1) := by decide +kernel
theorem dX12_said_68 : decode cX12_said 68 = .ok (.getfield 7, 3) := by decide +kernel
theorem dX12_said_71 : decode cX12_said 71 = .ok (.bipush 126, 2) := by decide +kernel
theorem dX12_said_73 : decode cX12_said 73 = .ok (.iconst 2, 1) := by decide +kernel
theorem dX12_said_74 : decode cX12_said 74 = .ok (.aload_n 0, 1) := by decide +kernel
theorem dX12_said_75 : decode cX12_said 75 = .ok (.getfield 7, 3) := by decide +kernel
theorem dX12_said_78 : decode cX12_said 78 = .ok (.bipush 6, 2) := by decide +kernel
theorem dX12_said_80 : decode cX12_said 80 = .ok (.iaload, 1) := by decide +kernel
theorem dX12_said_81 : decode cX12_said 81 = .ok (.imul, 1) := by decide +kernel
theorem dX12_said_82 : decode cX12_said 82 = .ok (.iadd, 1) := by decide +kernel
theorem dX12_said_83 : decode cX12_said 83 = .ok (.iconst 1, 1) := by decide +kernel
theorem dX12_said_84 : decode cX12_said 84 = .ok (.iadd, 1) := by decide +kernel
theorem dX12_said_85 : decode cX12_said 85 = .ok (.iload_n 2, 1) := by decide +kernel
theorem dX12_said_86 : decode cX12_said 86 = .ok (.iastore, 1) := by decide +kernel
theorem dX12_said_87 : decode cX12_said 87 = .ok (.aload_n 0, 1) := by decide +kernel
theorem dX12_said_88 : decode cX12_said 88 = .ok (.getfield 7, 3) := by decide +kernel
theorem dX12_said_91 : decode cX12_said 91 = .ok (.bipush 6, 2) := by decide +kernel
theorem dX12_said_93 : decode cX12_said 93 = .ok (.dup2, 1) := by decide +kernel
theorem dX12_said_94 : decode cX12_said 94 = .ok (.iaload, 1) := by decide +kernel
theorem dX12_said_95 : decode cX12_said 95 = .ok (.iconst 1, 1) := by decide +kernel
theorem dX12_said_96 : decode cX12_said 96 = .ok (.iadd, 1) := by decide +kernel
theorem dX12_said_97 : decode cX12_said 97 = .ok (.iastore, 1) := by decide +kernel
theorem dX12_said_98 : decode cX12_said 98 = .ok (.aload_n 0, 1) := by decide +kernel
theorem dX12_said_99 : decode cX12_said 99 = .ok (.getfield 7, 3) := by decide +kernel
theorem dX12_said_102 : decode cX12_said 102 = .ok (.bipush 6, 2) := by decide +kernel
theorem dX12_said_104 : decode cX12_said 104 = .ok (.iaload, 1) := by decide +kernel
theorem dX12_said_105 : decode cX12_said 105 = .ok (.ireturn, 1) := by decide +kernel
theorem dX12_whose_0 : decode cX12_whose 0 = .ok (.iconst 0, 1) := by decide +kernel
theorem dX12_whose_1 : decode cX12_whose 1 = .ok (.istore_n 1, 1) := by decide +kernel
theorem dX12_whose_2 : decode cX12_whose 2 = .ok (.iconst 0, 1) := by decide +kernel
theorem dX12_whose_3 : decode cX12_whose 3 = .ok (.istore_n 2, 1) := by decide +kernel
theorem dX12_whose_4 : decode cX12_whose 4 = .ok (.iload_n 2, 1) := by decide +kernel
theorem dX12_whose_5 : decode cX12_whose 5 = .ok (.aload_n 0, 1) := by decide +kernel
theorem dX12_whose_6 : decode cX12_whose 6 = .ok (.getfield 7, 3) := by decide +kernel
theorem dX12_whose_9 : decode cX12_whose 9 = .ok (.iconst 2, 1) := by decide +kernel
theorem dX12_whose_10 : decode cX12_whose 10 = .ok (.iaload, 1) := by decide +kernel
theorem dX12_whose_11 : decode cX12_whose 11 = .ok (.if_icmp .ge 90, 3) := by decide +kernel
theorem dX12_whose_14 : decode cX12_whose 14 = .ok (.iconst 1, 1) := by decide +kernel
theorem dX12_whose_15 : decode cX12_whose 15 = .ok (.istore_n 3, 1) := by decide +kernel
theorem dX12_whose_16 : decode cX12_whose 16 = .ok (.iconst 0, 1) := by decide +kernel
theorem dX12_whose_17 : decode cX12_whose 17 = .ok (.istore 4, 2) := by decide +kernel
theorem dX12_whose_19 : decode cX12_whose 19 = .ok (.iload 4, 2) := by decide +kernel
theorem dX12_whose_21 : decode cX12_whose 21 = .ok (.aload_n 0, 1) := by decide +kernel
theorem dX12_whose_22 : decode cX12_whose 22 = .ok (.getfield 7, 3) := by decide +kernel
theorem dX12_whose_25 : decode cX12_whose 25 = .ok (.bipush 6, 2) := by decide +kernel
theorem dX12_whose_27 : decode cX12_whose 27 = .ok (.iaload, 1) := by decide +kernel
theorem dX12_whose_28 : decode cX12_whose 28 = .ok (.if_icmp .ge 53, 3) := by decide +kernel
theorem dX12_whose_31 : decode cX12_whose 31 = .ok (.iload_n 3, 1) := by decide +kernel
theorem dX12_whose_32 : decode cX12_whose 32 = .ok (.ifCond .eq 41, 3) := by decide +kernel
theorem dX12_whose_35 : decode cX12_whose 35 = .ok (.aload_n 0, 1) := by decide +kernel
theorem dX12_whose_36 : decode cX12_whose 36 = .ok (.iload_n 2, 1) := by decide +kernel
theorem dX12_whose_37 : decode cX12_whose 37 = .ok (.aload_n 0, 1) := by decide +kernel
theorem dX12_whose_38 : decode cX12_whose 38 = .ok (.getfield 7, 3) := by decide +kernel
theorem dX12_whose_41 : decode cX12_whose 41 = .ok (.bipush 126, 2) := by decide +kernel
theorem dX12_whose_43 : decode cX12_whose 43 = .ok (.iconst 2, 1) := by decide +kernel
theorem dX12_whose_44 : decode cX12_whose 44 = .ok (.iload 4, 2) := by decide +kernel
theorem dX12_whose_46 : decode cX12_whose 46 = .ok (.imul, 1) := by decide +kernel
theorem dX12_whose_47 : decode cX12_whose 47 = .ok (.iadd, 1) := by decide +kernel
theorem dX12_whose_48 : decode cX12_whose 48 = .ok (.iaload, 1) := by decide +kernel
theorem dX12_whose_49 : decode cX12_whose 49 = .ok (.invokevirtual 342, 3) := by decide +kernel
theorem dX12_whose_52 : decode cX12_whose 52 = .ok (.aload_n 0, 1) := by decide +kernel
theorem dX12_whose_53 : decode cX12_whose 53 = .ok (.getfield 7, 3) := by decide +kernel
theorem dX12_whose_56 : decode cX12_whose 56 = .ok (.bipush 126, 2) := by decide +kernel
theorem dX12_whose_58 : decode cX12_whose 58 = .ok (.iconst 2, 1) := by decide +kernel
theorem dX12_whose_59 : decode cX12_whose 59 = .ok (.iload 4, 2) := by decide +kernel
theorem dX12_whose_61 : decode cX12_whose 61 = .ok (.imul, 1) := by decide +kernel
theorem dX12_whose_62 : decode cX12_whose 62 = .ok (.iadd, 1) := by decide +kernel
theorem dX12_whose_63 : decode cX12_whose 63 = .ok (.iconst 1, 1) := by decide +kernel
theorem dX12_whose_64 : decode cX12_whose 64 = .ok (.iadd, 1) := by decide +kernel
theorem dX12_whose_65 : decode cX12_whose 65 = .ok (.iaload, 1) := by decide +kernel
theorem dX12_whose_66 : decode cX12_whose 66 = .ok (.if_icmp .ne 7, 3) := by decide +kernel
theorem dX12_whose_69 : decode cX12_whose 69 = .ok (.iconst 1, 1) := by decide +kernel
theorem dX12_whose_70 : decode cX12_whose 70 = .ok (.goto 4, 3) := by decide +kernel
theorem dX12_whose_73 : decode cX12_whose 73 = .ok (.iconst 0, 1) := by decide +kernel
theorem dX12_whose_74 : decode cX12_whose 74 = .ok (.istore_n 3, 1) := by decide +kernel
theorem dX12_whose_75 : decode cX12_whose 75 = .ok (.iinc 4 1, 3) := by decide +kernel
theorem dX12_whose_78 : decode cX12_whose 78 = .ok (.goto (-59), 3) := by decide +kernel
theorem dX12_whose_81 : decode cX12_whose 81 = .ok (.iload_n 1, 1) := by decide +kernel
theorem dX12_whose_82 : decode cX12_whose 82 = .ok (.iload_n 3, 1) := by decide +kernel
theorem dX12_whose_83 : decode cX12_whose 83 = .ok (.ifCond .eq 9, 3) := by decide +kernel
theorem dX12_whose_86 : decode cX12_whose 86 = .ok (.iconst 1, 1) := by decide +kernel
theorem dX12_whose_87 : decode cX12_whose 87 = .ok (.iload_n 2, 1) := by decide +kernel
theorem dX12_whose_88 : decode cX12_whose 88 = .ok (.ishl, 1) := by decide +kernel
theorem dX12_whose_89 : decode cX12_whose 89 = .ok (.goto 4, 3) := by decide +kernel
theorem dX12_whose_92 : decode cX12_whose 92 = .ok (.iconst 0, 1) := by decide +kernel
theorem dX12_whose_93 : decode cX12_whose 93 = .ok (.ior, 1) := by decide +kernel
theorem dX12_whose_94 : decode cX12_whose 94 = .ok (.istore_n 1, 1) := by decide +kernel
theorem dX12_whose_95 : decode cX12_whose 95 = .ok (.iinc 2 1, 3) := by decide +kernel
theorem dX12_whose_98 : decode cX12_whose 98 = .ok (.goto (-94), 3) := by decide +kernel
theorem dX12_whose_101 : decode cX12_whose 101 = .ok (.iload_n 1, 1) := by decide +kernel
theorem dX12_whose_102 : decode cX12_whose 102 = .ok (.ireturn, 1) := by decide +kernel
theorem dX12_image_0 : decode cX12_image 0 = .ok (.aload_n 0, 1) := by decide +kernel
theorem dX12_image_1 : decode cX12_image 1 = .ok (.getfield 7, 3) := by decide +kernel
theorem dX12_image_4 : decode cX12_image 4 = .ok (.aload_n 0, 1) := by decide +kernel
theorem dX12_image_5 : decode cX12_image 5 = .ok (.getfield 13, 3) := by decide +kernel
theorem dX12_image_8 : decode cX12_image 8 = .ok (.invokestatic 59, 3) := by decide +kernel
theorem dX12_image_11 : decode cX12_image 11 = .ok (.aload_n 0, 1) := by decide +kernel
theorem dX12_image_12 : decode cX12_image 12 = .ok (.getfield 7, 3) := by decide +kernel
theorem dX12_image_15 : decode cX12_image 15 = .ok (.bipush 7, 2) := by decide +kernel
theorem dX12_image_17 : decode cX12_image 17 = .ok (.iaload, 1) := by decide +kernel
theorem dX12_image_18 : decode cX12_image 18 = .ok (.ireturn, 1) := by decide +kernel
theorem dX12_back_0 : decode cX12_back 0 = .ok (.aload_n 0, 1) := by decide +kernel
theorem dX12_back_1 : decode cX12_back 1 = .ok (.getfield 13, 3) := by decide +kernel
theorem dX12_back_4 : decode cX12_back 4 = .ok (.aload_n 0, 1) := by decide +kernel
theorem dX12_back_5 : decode cX12_back 5 = .ok (.getfield 7, 3) := by decide +kernel
theorem dX12_back_8 : decode cX12_back 8 = .ok (.invokestatic 59, 3) := by decide +kernel
theorem dX12_back_11 : decode cX12_back 11 = .ok (.aload_n 0, 1) := by decide +kernel
theorem dX12_back_12 : decode cX12_back 12 = .ok (.getfield 7, 3) := by decide +kernel
theorem dX12_back_15 : decode cX12_back 15 = .ok (.bipush 7, 2) := by decide +kernel
theorem dX12_back_17 : decode cX12_back 17 = .ok (.iaload, 1) := by decide +kernel
theorem dX12_back_18 : decode cX12_back 18 = .ok (.ireturn, 1) := by decide +kernel
theorem dX12_about_0 : decode cX12_about 0 = .ok (.iload_n 1, 1) := by decide +kernel
theorem dX12_about_1 : decode cX12_about 1 = .ok (.iconst 0, 1) := by decide +kernel
theorem dX12_about_2 : decode cX12_about 2 = .ok (.bipush 6, 2) := by decide +kernel
theorem dX12_about_4 : decode cX12_about 4 = .ok (.invokestatic 63, 3) := by decide +kernel
theorem dX12_about_7 : decode cX12_about 7 = .ok (.ifCond .eq 12, 3) := by decide +kernel
theorem dX12_about_10 : decode cX12_about 10 = .ok (.aload_n 0, 1) := by decide +kernel
theorem dX12_about_11 : decode cX12_about 11 = .ok (.getfield 7, 3) := by decide +kernel
theorem dX12_about_14 : decode cX12_about 14 = .ok (.iload_n 1, 1) := by decide +kernel
theorem dX12_about_15 : decode cX12_about 15 = .ok (.iaload, 1) := by decide +kernel
theorem dX12_about_16 : decode cX12_about 16 = .ok (.goto 18, 3) := by decide +kernel
theorem dX12_about_19 : decode cX12_about 19 = .ok (.iload_n 1, 1) := by decide +kernel
theorem dX12_about_20 : decode cX12_about 20 = .ok (.bipush 7, 2) := by decide +kernel
theorem dX12_about_22 : decode cX12_about 22 = .ok (.if_icmp .ne 10, 3) := by decide +kernel
theorem dX12_about_25 : decode cX12_about 25 = .ok (.aload_n 0, 1) := by decide +kernel
theorem dX12_about_26 : decode cX12_about 26 = .ok (.getfield 87, 3) := by decide +kernel
theorem dX12_about_29 : decode cX12_about 29 = .ok (.goto 5, 3) := by decide +kernel
theorem dX12_about_32 : decode cX12_about 32 = .ok (.bipush (-2), 2) := by decide +kernel
theorem dX12_about_34 : decode cX12_about 34 = .ok (.ireturn, 1) := by decide +kernel
