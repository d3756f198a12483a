theorem dX12_readText_25 : decode cX12_readText 25 = .ok (.iconst 0, 1) := by decide +kernel
theorem dX12_readText_26 : decode cX12_readText 26 = .ok (.putfield 142, 3) := by decide +kernel
theorem dX12_readText_29 : decode cX12_readText 29 = .ok (.aload_n 0, 1) := by decide +kernel
theorem dX12_readText_30 : decode cX12_readText 30 = .ok (.iconst 0, 1) := by decide +kernel
theorem dX12_readText_31 : decode cX12_readText 31 = .ok (.putfield 236, 3) := by decide +kernel
theorem dX12_readText_34 : decode cX12_readText 34 = .ok (.aload_n 0, 1) := by decide +kernel
theorem dX12_readText_35 : decode cX12_readText 35 = .ok (.iconst 0, 1) := by decide +kernel
theorem dX12_readText_36 : decode cX12_readText 36 = .ok (.putfield 93, 3) := by decide +kernel
theorem dX12_readText_39 : decode cX12_readText 39 = .ok (.aload_n 0, 1) := by decide +kernel
theorem dX12_readText_40 : decode cX12_readText 40 = .ok (.invokevirtual 172, 3) := by decide +kernel
theorem dX12_readText_43 : decode cX12_readText 43 = .ok (.aload_n 0, 1) := by decide +kernel
theorem dX12_readText_44 : decode cX12_readText 44 = .ok (.getfield 102, 3) := by decide +kernel
theorem dX12_readText_47 : decode cX12_readText 47 = .ok (.ifCond .eq 17, 3) := by decide +kernel
theorem dX12_readText_50 : decode cX12_readText 50 = .ok (.aload_n 0, 1) := by decide +kernel
theorem dX12_readText_51 : decode cX12_readText 51 = .ok (.invokevirtual 247, 3) := by decide +kernel
theorem dX12_readText_54 : decode cX12_readText 54 = .ok (.istore_n 1, 1) := by decide +kernel
theorem dX12_readText_55 : decode cX12_readText 55 = .ok (.iload_n 1, 1) := by decide +kernel
theorem dX12_readText_56 : decode cX12_readText 56 = .ok (.ifCond .eq 5, 3) := by decide +kernel
theorem dX12_readText_59 : decode cX12_readText 59 = .ok (.iload_n 1, 1) := by decide +kernel
theorem dX12_readText_60 : decode cX12_readText 60 = .ok (.ireturn, 1) := by decide +kernel
theorem dX12_readText_61 : decode cX12_readText 61 = .ok (.goto (-18), 3) := by decide +kernel
theorem dX12_readText_64 : decode cX12_readText 64 = .ok (.iconst 0, 1) := by decide +kernel
theorem dX12_readText_65 : decode cX12_readText 65 = .ok (.ireturn, 1) := by decide +kernel
theorem dX12_text_0 : decode cX12_text 0 = .ok (.aload_n 0, 1) := by decide +kernel
theorem dX12_text_1 : decode cX12_text 1 = .ok (.getfield 7, 3) := by decide +kernel
theorem dX12_text_4 : decode cX12_text 4 = .ok (.iconst 2, 1) := by decide +kernel
theorem dX12_text_5 : decode cX12_text 5 = .ok (.iaload, 1) := by decide +kernel
theorem dX12_text_6 : decode cX12_text 6 = .ok (.iconst 4, 1) := by decide +kernel
theorem dX12_text_7 : decode cX12_text 7 = .ok (.if_icmp .ne 5, 3) := by decide +kernel
theorem dX12_text_10 : decode cX12_text 10 = .ok (.iconst (-1), 1) := by decide +kernel
theorem dX12_text_11 : decode cX12_text 11 = .ok (.ireturn, 1) := by decide +kernel
theorem dX12_text_12 : decode cX12_text 12 = .ok (.aload_n 0, 1) := by decide +kernel
theorem dX12_text_13 : decode cX12_text 13 = .ok (.aload_n 0, 1) := by decide +kernel
theorem dX12_text_14 : decode cX12_text 14 = .ok (.invokevirtual 250, 3) := by decide +kernel
theorem dX12_text_17 : decode cX12_text 17 = .ok (.putfield 22, 3) := by decide +kernel
theorem dX12_text_20 : decode cX12_text 20 = .ok (.aload_n 0, 1) := by decide +kernel
theorem dX12_text_21 : decode cX12_text 21 = .ok (.aload_n 0, 1) := by decide +kernel
theorem dX12_text_22 : decode cX12_text 22 = .ok (.getfield 22, 3) := by decide +kernel
theorem dX12_text_25 : decode cX12_text 25 = .ok (.ifCond .ne 7, 3) := by decide +kernel
theorem dX12_text_28 : decode cX12_text 28 = .ok (.iconst (-1), 1) := by decide +kernel
theorem dX12_text_29 : decode cX12_text 29 = .ok (.goto 7, 3) := by decide +kernel
theorem dX12_text_32 : decode cX12_text 32 = .ok (.aload_n 0, 1) := by decide +kernel
theorem dX12_text_33 : decode cX12_text 33 = .ok (.getfield 99, 3) := by decide +kernel
theorem dX12_text_36 : decode cX12_text 36 = .ok (.putfield 26, 3) := by decide +kernel
theorem dX12_text_39 : decode cX12_text 39 = .ok (.aload_n 0, 1) := by decide +kernel
theorem dX12_text_40 : decode cX12_text 40 = .ok (.iconst 0, 1) := by decide +kernel
theorem dX12_text_41 : decode cX12_text 41 = .ok (.putfield 87, 3) := by decide +kernel
theorem dX12_text_44 : decode cX12_text 44 = .ok (.aload_n 0, 1) := by decide +kernel
theorem dX12_text_45 : decode cX12_text 45 = .ok (.getfield 22, 3) := by decide +kernel
theorem dX12_text_48 : decode cX12_text 48 = .ok (.ifCond .eq 5, 3) := by decide +kernel
theorem dX12_text_51 : decode cX12_text 51 = .ok (.iconst (-1), 1) := by decide +kernel
theorem dX12_text_52 : decode cX12_text 52 = .ok (.ireturn, 1) := by decide +kernel
theorem dX12_text_53 : decode cX12_text 53 = .ok (.aload_n 0, 1) := by decide +kernel
theorem dX12_text_54 : decode cX12_text 54 = .ok (.getfield 7, 3) := by decide +kernel
theorem dX12_text_57 : decode cX12_text 57 = .ok (.iconst 2, 1) := by decide +kernel
theorem dX12_text_58 : decode cX12_text 58 = .ok (.dup2, 1) := by decide +kernel
theorem dX12_text_59 : decode cX12_text 59 = .ok (.iaload, 1) := by decide +kernel
theorem dX12_text_60 : decode cX12_text 60 = .ok (.iconst 1, 1) := by decide +kernel
theorem dX12_text_61 : decode cX12_text 61 = .ok (.iadd, 1) := by decide +kernel
theorem dX12_text_62 : decode cX12_text 62 = .ok (.iastore, 1) := by decide +kernel
theorem dX12_text_63 : decode cX12_text 63 = .ok (.aload_n 0, 1) := by decide +kernel
theorem dX12_text_64 : decode cX12_text 64 = .ok (.getfield 7, 3) := by decide +kernel
theorem dX12_text_67 : decode cX12_text 67 = .ok (.iconst 2, 1) := by decide +kernel
theorem dX12_text_68 : decode cX12_text 68 = .ok (.iaload, 1) := by decide +kernel
theorem dX12_text_69 : decode cX12_text 69 = .ok (.iconst 1, 1) := by decide +kernel
theorem dX12_text_70 : decode cX12_text 70 = .ok (.isub, 1) := by decide +kernel
theorem dX12_text_71 : decode cX12_text 71 = .ok (.ireturn, 1) := by decide +kernel
theorem dX12_fault_0 : decode cX12_fault 0 = .ok (.iload_n 1, 1) := by decide +kernel
theorem dX12_fault_1 : decode cX12_fault 1 = .ok (.ifCond .ne 10, 3) := by decide +kernel
theorem dX12_fault_4 : decode cX12_fault 4 = .ok (.aload_n 0, 1) := by decide +kernel
theorem dX12_fault_5 : decode cX12_fault 5 = .ok (.getfield 22, 3) := by decide +kernel
theorem dX12_fault_8 : decode cX12_fault 8 = .ok (.goto 16, 3) := by decide +kernel
theorem dX12_fault_11 : decode cX12_fault 11 = .ok (.iload_n 1, 1) := by decide +kernel
theorem dX12_fault_12 : decode cX12_fault 12 = .ok (.iconst 1, 1) := by decide +kernel
theorem dX12_fault_13 : decode cX12_fault 13 = .ok (.if_icmp .ne 10, 3) := by decide +kernel
theorem dX12_fault_16 : decode cX12_fault 16 = .ok (.aload_n 0, 1) := by decide +kernel
theorem dX12_fault_17 : decode cX12_fault 17 = .ok (.getfield 26, 3) := by decide +kernel
theorem dX12_fault_20 : decode cX12_fault 20 = .ok (.goto 4, 3) := by decide +kernel
theorem dX12_fault_23 : decode cX12_fault 23 = .ok (.iconst (-1), 1) := by decide +kernel
theorem dX12_fault_24 : decode cX12_fault 24 = .ok (.ireturn, 1) := by decide +kernel
theorem dX12_by_0 : decode cX12_by 0 = .ok (.iload_n 1, 1) := by decide +kernel
theorem dX12_by_1 : decode cX12_by 1 = .ok (.iconst (-1), 1) := by decide +kernel
theorem dX12_by_2 : decode cX12_by 2 = .ok (.aload_n 0, 1) := by decide +kernel
theorem dX12_by_3 : decode cX12_by 3 = .ok (.getfield 7, 3) := by decide +kernel
theorem dX12_by_6 : decode cX12_by 6 = .ok (.iconst 2, 1) := by decide +kernel
theorem dX12_by_7 : decode cX12_by 7 = .ok (.iaload, 1) := by decide +kernel
theorem dX12_by_8 : decode cX12_by 8 = .ok (.iconst 1, 1) := by decide +kernel
theorem dX12_by_9 : decode cX12_by 9 = .ok (.isub, 1) := by decide +kernel
theorem dX12_by_10 : decode cX12_by 10 = .ok (.invokestatic 63, 3) := by decide +kernel
theorem dX12_by_13 : decode cX12_by 13 = .ok (.ifCond .ne 5, 3) := by decide +kernel
theorem dX12_by_16 : decode cX12_by 16 = .ok (.iconst 0, 1) := by decide +kernel
theorem dX12_by_17 : decode cX12_by 17 = .ok (.ireturn, 1) := by decide +kernel
theorem dX12_by_18 : decode cX12_by 18 = .ok (.aload_n 0, 1) := by decide +kernel
theorem dX12_by_19 : decode cX12_by 19 = .ok (.getfield 7, 3) := by decide +kernel
theorem dX12_by_22 : decode cX12_by 22 = .ok (.iconst 3, 1) := by decide +kernel
theorem dX12_by_23 : decode cX12_by 23 = .ok (.iload_n 1, 1) := by decide +kernel
theorem dX12_by_24 : decode cX12_by 24 = .ok (.iastore, 1) := by decide +kernel
theorem dX12_by_25 : decode cX12_by 25 = .ok (.iconst 1, 1) := by decide +kernel
theorem dX12_by_26 : decode cX12_by 26 = .ok (.ireturn, 1) := by decide +kernel
theorem dX12_clip_0 : decode cX12_clip 0 = .ok (.lload_n 0, 1) := by decide +kernel
theorem dX12_clip_1 : decode cX12_clip 1 = .ok (.ldc2_w 253, 3) := by decide +kernel
theorem dX12_clip_4 : decode cX12_clip 4 = .ok (.lcmp, 1) := by decide +kernel
theorem dX12_clip_5 : decode cX12_clip 5 = .ok (.ifCond .le 9, 3) := by decide +kernel
theorem dX12_clip_8 : decode cX12_clip 8 = .ok (.ldc2_w 253, 3) := by decide +kernel
theorem dX12_clip_11 : decode cX12_clip 11 = .ok (.goto 18, 3) := by decide +kernel
theorem dX12_clip_14 : decode cX12_clip 14 = .ok (.lload_n 0, 1) := by decide +kernel
theorem dX12_clip_15 : decode cX12_clip 15 = .ok (.ldc2_w 255, 3) := by decide +kernel
theorem dX12_clip_18 : decode cX12_clip 18 = .ok (.lcmp, 1) := by decide +kernel
theorem dX12_clip_19 : decode cX12_clip 19 = .ok (.ifCond .ge 9, 3) := by decide +kernel
theorem dX12_clip_22 : decode cX12_clip 22 = .ok (.ldc2_w 255, 3) := by decide +kernel
theorem dX12_clip_25 : decode cX12_clip 25 = .ok (.goto 4, 3) := by decide +kernel
theorem dX12_clip_28 : decode cX12_clip 28 = .ok (.lload_n 0, 1) := by decide +kernel
theorem dX12_clip_29 : decode cX12_clip 29 = .ok (.lreturn, 1) := by decide +kernel
theorem dX12_two_0 : decode cX12_two 0 = .ok (.iload_n 0, 1) := by decide +kernel
theorem dX12_two_1 : decode cX12_two 1 = .ok (.tableswitch 48 6 8 #[27, 34, 41], 27) := by decide +kernel
theorem dX12_two_28 : decode cX12_two 28 = .ok (.lload_n 1, 1) := by decide +kernel
theorem dX12_two_29 : decode cX12_two 29 = .ok (.lload_n 3, 1) := by decide +kernel
theorem dX12_two_30 : decode cX12_two 30 = .ok (.ladd, 1) := by decide +kernel
theorem dX12_two_31 : decode cX12_two 31 = .ok (.invokestatic 257, 3) := by decide +kernel
theorem dX12_two_34 : decode cX12_two 34 = .ok (.lreturn, 1) := by decide +kernel
theorem dX12_two_35 : decode cX12_two 35 = .ok (.lload_n 1, 1) := by decide +kernel
theorem dX12_two_36 : decode cX12_two 36 = .ok (.lload_n 3, 1) := by decide +kernel
theorem dX12_two_37 : decode cX12_two 37 = .ok (.lsub, 1) := by decide +kernel
theorem dX12_two_38 : decode cX12_two 38 = .ok (.invokestatic 257, 3) := by decide +kernel
theorem dX12_two_41 : decode cX12_two 41 = .ok (.lreturn, 1) := by decide +kernel
theorem dX12_two_42 : decode cX12_two 42 = .ok (.lload_n 1, 1) := by decide +kernel
theorem dX12_two_43 : decode cX12_two 43 = .ok (.lload_n 3, 1) := by decide +kernel
theorem dX12_two_44 : decode cX12_two 44 = .ok (.lmul, 1) := by decide +kernel
theorem dX12_two_45 : decode cX12_two 45 = .ok (.invokestatic 257, 3) := by decide +kernel
theorem dX12_two_48 : decode cX12_two 48 = .ok (.lreturn, 1) := by decide +kernel
theorem dX12_two_49 : decode cX12_two 49 = .ok (.lload_n 3, 1) := by decide +kernel
theorem dX12_two_50 : decode cX12_two 50 = .ok (.lconst 0, 1) := by decide +kernel
theorem dX12_two_51 : decode cX12_two 51 = .ok (.lcmp, 1) := by decide +kernel
theorem dX12_two_52 : decode cX12_two 52 = .ok (.ifCond .ne 7, 3) := by decide +kernel
theorem dX12_two_55 : decode cX12_two 55 = .ok (.lconst 0, 1) := by decide +kernel
theorem dX12_two_56 : decode cX12_two 56 = .ok (.goto 9, 3) := by decide +kernel
theorem dX12_two_59 : decode cX12_two 59 = .ok (.lload_n 1, 1) := by decide +kernel
theorem dX12_two_60 : decode cX12_two 60 = .ok (.lload_n 3, 1) := by decide +kernel
theorem dX12_two_61 : decode cX12_two 61 = .ok (.ldiv, 1) := by decide +kernel
theorem dX12_two_62 : decode cX12_two 62 = .ok (.invokestatic 257, 3) := by decide +kernel
theorem dX12_two_65 : decode cX12_two 65 = .ok (.lreturn, 1) := by decide +kernel
theorem dX12_isAsked_0 : decode cX12_isAsked 0 = .ok (.iload_n 0, 1) := by decide +kernel
theorem dX12_isAsked_1 : decode cX12_isAsked 1 = .ok (.bipush 10, 2) := by decide +kernel
theorem dX12_isAsked_3 : decode cX12_isAsked 3 = .ok (.if_icmp .ne 17, 3) := by decide +kernel
theorem dX12_isAsked_6 : decode cX12_isAsked 6 = .ok (.lload_n 1, 1) := by decide +kernel
theorem dX12_isAsked_7 : decode cX12_isAsked 7 = .ok (.lload_n 3, 1) := by decide +kernel
theorem dX12_isAsked_8 : decode cX12_isAsked 8 = .ok (.lcmp, 1) := by decide +kernel
theorem dX12_isAsked_9 : decode cX12_isAsked 9 = .ok (.ifCond .ge 7, 3) := by decide +kernel
theorem dX12_isAsked_12 : decode cX12_isAsked 12 = .ok (.iconst 1, 1) := by decide +kernel
theorem dX12_isAsked_13 : decode cX12_isAsked 13 = .ok (.goto 98, 3) := by decide +kernel
theorem dX12_isAsked_16 : decode cX12_isAsked 16 = .ok (.iconst 0, 1) := by decide +kernel
theorem dX12_isAsked_17 : decode cX12_isAsked 17 = .ok (.goto 94, 3) := by decide +kernel
theorem dX12_isAsked_20 : decode cX12_isAsked 20 = .ok (.iload_n 0, 1) := by decide +kernel
theorem dX12_isAsked_21 : decode cX12_isAsked 21 = .ok (.bipush 11, 2) := by decide +kernel
theorem dX12_isAsked_23 : decode cX12_isAsked 23 = .ok (.if_icmp .ne 17, 3) := by decide +kernel
theorem dX12_isAsked_26 : decode cX12_isAsked 26 = .ok (.lload_n 1, 1) := by decide +kernel
theorem dX12_isAsked_27 : decode cX12_isAsked 27 = .ok (.lload_n 3, 1) := by decide +kernel
theorem dX12_isAsked_28 : decode cX12_isAsked 28 = .ok (.lcmp, 1) := by decide +kernel
theorem dX12_isAsked_29 : decode cX12_isAsked 29 = .ok (.ifCond .gt 7, 3) := by decide +kernel
theorem dX12_isAsked_32 : decode cX12_isAsked 32 = .ok (.iconst 1, 1) := by decide +kernel
theorem dX12_isAsked_33 : decode cX12_isAsked 33 = .ok (.goto 78, 3) := by decide +kernel
theorem dX12_isAsked_36 : decode cX12_isAsked 36 = .ok (.iconst 0, 1) := by decide +kernel
theorem dX12_isAsked_37 : decode cX12_isAsked 37 = .ok (.goto 74, 3) := by decide +kernel
theorem dX12_isAsked_40 : decode cX12_isAsked 40 = .ok (.iload_n 0, 1) := by decide +kernel
theorem dX12_isAsked_41 : decode cX12_isAsked 41 = .ok (.bipush 12, 2) := by decide +kernel
theorem dX12_isAsked_43 : decode cX12_isAsked 43 = .ok (.if_icmp .ne 17, 3) := by decide +kernel
theorem dX12_isAsked_46 : decode cX12_isAsked 46 = .ok (.lload_n 1, 1) := by decide +kernel
theorem dX12_isAsked_47 : decode cX12_isAsked 47 = .ok (.lload_n 3, 1) := by decide +kernel
theorem dX12_isAsked_48 : decode cX12_isAsked 48 = .ok (.lcmp, 1) := by decide +kernel
theorem dX12_isAsked_49 : decode cX12_isAsked 49 = .ok (.ifCond .le 7, 3) := by decide +kernel
theorem dX12_isAsked_52 : decode cX12_isAsked 52 = .ok (.iconst 1, 1) := by decide +kernel
theorem dX12_isAsked_53 : decode cX12_isAsked 53 = .ok (.goto 58, 3) := by decide +kernel
theorem dX12_isAsked_56 : decode cX12_isAsked 56 = .ok (.iconst 0, 1) := by decide +kernel
theorem dX12_isAsked_57 : decode cX12_isAsked 57 = .ok (.goto 54, 3) := by decide +kernel
theorem dX12_isAsked_60 : decode cX12_isAsked 60 = .ok (.iload_n 0, 1) := by decide +kernel
theorem dX12_isAsked_61 : decode cX12_isAsked 61 = .ok (.bipush 13, 2) := by decide +kernel
theorem dX12_isAsked_63 : decode cX12_isAsked 63 = .ok (.if_icmp .ne 17, 3) := by decide +kernel
theorem dX12_isAsked_66 : decode cX12_isAsked 66 = .ok (.lload_n 1, 1) := by decide +kernel
theorem dX12_isAsked_67 : decode cX12_isAsked 67 = .ok (.lload_n 3, 1) := by decide +kernel
theorem dX12_isAsked_68 : decode cX12_isAsked 68 = .ok (.lcmp, 1) := by decide +kernel
theorem dX12_isAsked_69 : decode cX12_isAsked 69 = .ok (.ifCond .lt 7, 3) := by decide +kernel
theorem dX12_isAsked_72 : decode cX12_isAsked 72 = .ok (.iconst 1, 1) := by decide +kernel
theorem dX12_isAsked_73 : decode cX12_isAsked 73 = .ok (.goto 38, 3) := by decide +kernel
theorem dX12_isAsked_76 : decode cX12_isAsked 76 = .ok (.iconst 0, 1) := by decide +kernel
theorem dX12_isAsked_77 : decode cX12_isAsked 77 = .ok (.goto 34, 3) := by decide +kernel
theorem dX12_isAsked_80 : decode cX12_isAsked 80 = .ok (.iload_n 0, 1) := by decide +kernel
theorem dX12_isAsked_81 : decode cX12_isAsked 81 = .ok (.bipush 14, 2) := by decide +kernel
theorem dX12_isAsked_83 : decode cX12_isAsked 83 = .ok (.if_icmp .ne 17, 3) := by decide +kernel
theorem dX12_isAsked_86 : decode cX12_isAsked 86 = .ok (.lload_n 1, 1) := by decide +kernel
theorem dX12_isAsked_87 : decode cX12_isAsked 87 = .ok (.lload_n 3, 1) := by decide +kernel
theorem dX12_isAsked_88 : decode cX12_isAsked 88 = .ok (.lcmp, 1) := by decide +kernel
theorem dX12_isAsked_89 : decode cX12_isAsked 89 = .ok (.ifCond .ne 7, 3) := by decide +kernel
theorem dX12_isAsked_92 : decode cX12_isAsked 92 = .ok (.iconst 1, 1) := by decide +kernel
theorem dX12_isAsked_93 : decode cX12_isAsked 93 = .ok (.goto 18, 3) := by decide +kernel
theorem dX12_isAsked_96 : decode cX12_isAsked 96 = .ok (.iconst 0, 1) := by decide +kernel
theorem dX12_isAsked_97 : decode cX12_isAsked 97 = .ok (.goto 14, 3) := by decide +kernel
theorem dX12_isAsked_100 : decode cX12_isAsked 100 = .ok (.lload_n 1, 1) := by decide +kernel
theorem dX12_isAsked_101 : decode cX12_isAsked 101 = .ok (.lload_n 3, 1) := by decide +kernel
theorem dX12_isAsked_102 : decode cX12_isAsked 102 = .ok (.lcmp, 1) := by decide +kernel
theorem dX12_isAsked_103 : decode cX12_isAsked 103 = .ok (.ifCond .eq 7, 3) := by decide +kernel
theorem dX12_isAsked_106 : decode cX12_isAsked 106 = .ok (.iconst 1, 1) := by decide +kernel
theorem dX12_isAsked_107 : decode cX12_isAsked 107 = .ok (.goto 4, 3) := by decide +kernel
theorem dX12_isAsked_110 : decode cX12_isAsked 110 = .ok (.iconst 0, 1) := by decide +kernel
theorem dX12_isAsked_111 : decode cX12_isAsked 111 = .ok (.ireturn, 1) := by decide +kernel
theorem dX12_isIce_0 : decode cX12_isIce 0 = .ok (.aload_n 0, 1) := by decide +kernel
theorem dX12_isIce_1 : decode cX12_isIce 1 = .ok (.iload_n 1, 1) := by decide +kernel
theorem dX12_isIce_2 : decode cX12_isIce 2 = .ok (.invokevirtual 261, 3) := by decide +kernel
theorem dX12_isIce_5 : decode cX12_isIce 5 = .ok (.ifCond .eq 17, 3) := by decide +kernel
theorem dX12_isIce_8 : decode cX12_isIce 8 = .ok (.aload_n 0, 1) := by decide +kernel
theorem dX12_isIce_9 : decode cX12_isIce 9 = .ok (.iload_n 1, 1) := by decide +kernel
theorem dX12_isIce_10 : decode cX12_isIce 10 = .ok (.iconst 0, 1) := by decide +kernel
theorem dX12_isIce_11 : decode cX12_isIce 11 = .ok (.invokevirtual 264, 3) := by decide +kernel
theorem dX12_isIce_14 : decode cX12_isIce 14 = .ok (.iconst (-1), 1) := by decide +kernel
theorem dX12_isIce_15 : decode cX12_isIce 15 = .ok (.if_icmp .ne 7, 3) := by decide +kernel
theorem dX12_isIce_18 : decode cX12_isIce 18 = .ok (.iconst 1, 1) := by decide +kernel
theorem dX12_isIce_19 : decode cX12_isIce 19 = .ok (.goto 4, 3) := by decide +kernel
theorem dX12_isIce_22 : decode cX12_isIce 22 = .ok (.iconst 0, 1) := by decide +kernel
theorem dX12_isIce_23 : decode cX12_isIce 23 = .ok (.ireturn, 1) := by decide +kernel
theorem dX12_iceOf_0 : decode cX12_iceOf 0 = .ok (.lload_n 1, 1) := by decide +kernel
theorem dX12_iceOf_1 : decode cX12_iceOf 1 = .ok (.lconst 0, 1) := by decide +kernel
theorem dX12_iceOf_2 : decode cX12_iceOf 2 = .ok (.lcmp, 1) := by decide +kernel
theorem dX12_iceOf_3 : decode cX12_iceOf 3 = .ok (.ifCond .lt 24, 3) := by decide +kernel
theorem dX12_iceOf_6 : decode cX12_iceOf 6 = .ok (.lload_n 1, 1) := by decide +kernel
theorem dX12_iceOf_7 : decode cX12_iceOf 7 = .ok (.ldc2_w 267, 3) := by decide +kernel
theorem dX12_iceOf_10 : decode cX12_iceOf 10 = .ok (.lcmp, 1) := by decide +kernel
theorem dX12_iceOf_11 : decode cX12_iceOf 11 = .ok (.ifCond .ge 16, 3) := by decide +kernel
theorem dX12_iceOf_14 : decode cX12_iceOf 14 = .ok (.aload_n 0, 1) := by decide +kernel
theorem dX12_iceOf_15 : decode cX12_iceOf 15 = .ok (.lload_n 1, 1) := by decide +kernel
theorem dX12_iceOf_16 : decode cX12_iceOf 16 = .ok (.l2i, 1) := by decide +kernel
theorem dX12_iceOf_17 : decode cX12_iceOf 17 = .ok (.invokevirtual 269, 3) := by decide +kernel
theorem dX12_iceOf_20 : decode cX12_iceOf 20 = .ok (.ifCond .eq 7, 3) := by decide +kernel
theorem dX12_iceOf_23 : decode cX12_iceOf 23 = .ok (.lconst 1, 1) := by decide +kernel
theorem dX12_iceOf_24 : decode cX12_iceOf 24 = .ok (.goto 4, 3) := by decide +kernel
theorem dX12_iceOf_27 : decode cX12_iceOf 27 = .ok (.lconst 0, 1) := by decide +kernel
theorem dX12_iceOf_28 : decode cX12_iceOf 28 = .ok (.lreturn, 1) := by decide +kernel
theorem dX12_digitOf_0 : decode cX12_digitOf 0 = .ok (.lload_n 0, 1) := by decide +kernel
theorem dX12_digitOf_1 : decode cX12_digitOf 1 = .ok (.lconst 0, 1) := by decide +kernel
theorem dX12_digitOf_2 : decode cX12_digitOf 2 = .ok (.lcmp, 1) := by decide +kernel
theorem dX12_digitOf_3 : decode cX12_digitOf 3 = .ok (.ifCond .lt 11, 3) := by decide +kernel
theorem dX12_digitOf_6 : decode cX12_digitOf 6 = .ok (.lload_n 0, 1) := by decide +kernel
theorem dX12_digitOf_7 : decode cX12_digitOf 7 = .ok (.ldc2_w 272, 3) := by decide +kernel
theorem dX12_digitOf_10 : decode cX12_digitOf 10 = .ok (.lcmp, 1) := by decide +kernel
theorem dX12_digitOf_11 : decode cX12_digitOf 11 = .ok (.ifCond .le 5, 3) := by decide +kernel
theorem dX12_digitOf_14 : decode cX12_digitOf 14 = .ok (.lconst 0, 1) := by decide +kernel
theorem dX12_digitOf_15 : decode cX12_digitOf 15 = .ok (.lreturn, 1) := by decide +kernel
theorem dX12_digitOf_16 : decode cX12_digitOf 16 = .ok (.lload_n 2, 1) := by decide +kernel
theorem dX12_digitOf_17 : decode cX12_digitOf 17 = .ok (.lconst 0, 1) := by decide +kernel
theorem dX12_digitOf_18 : decode cX12_digitOf 18 = .ok (.lcmp, 1) := by decide +kernel
theorem dX12_digitOf_19 : decode cX12_digitOf 19 = .ok (.ifCond .ge 8, 3) := by decide +kernel
theorem dX12_digitOf_22 : decode cX12_digitOf 22 = .ok (.lload_n 2, 1) := by decide +kernel
theorem dX12_digitOf_23 : decode cX12_digitOf 23 = .ok (.lneg, 1) := by decide +kernel
theorem dX12_digitOf_24 : decode cX12_digitOf 24 = .ok (.goto 4, 3) := by decide +kernel
theorem dX12_digitOf_27 : decode cX12_digitOf 27 = .ok (.lload_n 2, 1) := by decide +kernel
theorem dX12_digitOf_28 : decode cX12_digitOf 28 = .ok (.lstore 4, 2) := by decide +kernel
theorem dX12_digitOf_30 : decode cX12_digitOf 30 = .ok (.lconst 0, 1) := by decide +kernel
theorem dX12_digitOf_31 : decode cX12_digitOf 31 = .ok (.lstore 6, 2) := by decide +kernel
theorem dX12_digitOf_33 : decode cX12_digitOf 33 = .ok (.lload 6, 2) := by decide +kernel
theorem dX12_digitOf_35 : decode cX12_digitOf 35 = .ok (.lload_n 0, 1) := by decide +kernel
theorem dX12_digitOf_36 : decode cX12_digitOf 36 = .ok (.lcmp, 1) := by decide +kernel
theorem dX12_digitOf_37 : decode cX12_digitOf 37 = .ok (.ifCond .ge 20, 3) := by decide +kernel
theorem dX12_digitOf_40 : decode cX12_digitOf 40 = .ok (.lload 4, 2) := by decide +kernel
theorem dX12_digitOf_42 : decode cX12_digitOf 42 = .ok (.ldc2_w 274, 3) := by decide +kernel
theorem dX12_digitOf_45 : decode cX12_digitOf 45 = .ok (.ldiv, 1) := by decide +kernel
theorem dX12_digitOf_46 : decode cX12_digitOf 46 = .ok (.lstore 4, 2) := by decide +kernel
theorem dX12_digitOf_48 : decode cX12_digitOf 48 = .ok (.lload 6, 2) := by decide +kernel
theorem dX12_digitOf_50 : decode cX12_digitOf 50 = .ok (.lconst 1, 1) := by decide +kernel
theorem dX12_digitOf_51 : decode cX12_digitOf 51 = .ok (.ladd, 1) := by decide +kernel
theorem dX12_digitOf_52 : decode cX12_digitOf 52 = .ok (.lstore 6, 2) := by decide +kernel
theorem dX12_digitOf_54 : decode cX12_digitOf 54 = .ok (.goto (-21), 3) := by decide +kernel
theorem dX12_digitOf_57 : decode cX12_digitOf 57 = .ok (.lload 4, 2) := by decide +kernel
theorem dX12_digitOf_59 : decode cX12_digitOf 59 = .ok (.ldc2_w 274, 3) := by decide +kernel
theorem dX12_digitOf_62 : decode cX12_digitOf 62 = .ok (.lrem, 1) := by decide +kernel
theorem dX12_digitOf_63 : decode cX12_digitOf 63 = .ok (.lreturn, 1) := by decide +kernel
theorem dX12_joined_0 : decode cX12_joined 0 = .ok (.iload_n 0, 1) := by decide +kernel
theorem dX12_joined_1 : decode cX12_joined 1 = .ok (.bipush 21, 2) := by decide +kernel
theorem dX12_joined_3 : decode cX12_joined 3 = .ok (.if_icmp .ne 19, 3) := by decide +kernel
theorem dX12_joined_6 : decode cX12_joined 6 = .ok (.iload_n 1, 1) := by decide +kernel
theorem dX12_joined_7 : decode cX12_joined 7 = .ok (.ifCond .eq 11, 3) := by decide +kernel
theorem dX12_joined_10 : decode cX12_joined 10 = .ok (.iload_n 2, 1) := by decide +kernel
theorem dX12_joined_11 : decode cX12_joined 11 = .ok (.ifCond .eq 7, 3) := by decide +kernel
theorem dX12_joined_14 : decode cX12_joined 14 = .ok (.iconst 1, 1) := by decide +kernel
theorem dX12_joined_15 : decode cX12_joined 15 = .ok (.goto 20, 3) := by decide +kernel
theorem dX12_joined_18 : decode cX12_joined 18 = .ok (.iconst 0, 1) := by decide +kernel
theorem dX12_joined_19 : decode cX12_joined 19 = .ok (.goto 16, 3) := by decide +kernel
theorem dX12_joined_22 : decode cX12_joined 22 = .ok (.iload_n 1, 1) := by decide +kernel
theorem dX12_joined_23 : decode cX12_joined 23 = .ok (.ifCond .ne 7, 3) := by decide +kernel
theorem dX12_joined_26 : decode cX12_joined 26 = .ok (.iload_n 2, 1) := by decide +kernel
theorem dX12_joined_27 : decode cX12_joined 27 = .ok (.ifCond .eq 7, 3) := by decide +kernel
theorem dX12_joined_30 : decode cX12_joined 30 = .ok (.iconst 1, 1) := by decide +kernel
theorem dX12_joined_31 : decode cX12_joined 31 = .ok (.goto 4, 3) := by decide +kernel
theorem dX12_joined_34 : decode cX12_joined 34 = .ok (.iconst 0, 1) := by decide +kernel
theorem dX12_joined_35 : decode cX12_joined 35 = .ok (.ireturn, 1) := by decide +kernel
theorem dX12_summedUp_0 : decode cX12_summedUp 0 = .ok (.sipush 681, 3) := by decide +kernel
theorem dX12_summedUp_3 : decode cX12_summedUp 3 = .ok (.iload_n 1, 1) := by decide +kernel
theorem dX12_summedUp_4 : decode cX12_summedUp 4 = .ok (.imul, 1) := by decide +kernel
theorem dX12_summedUp_5 : decode cX12_summedUp 5 = .ok (.iconst 1, 1) := by decide +kernel
theorem dX12_summedUp_6 : decode cX12_summedUp 6 = .ok (.iadd, 1) := by decide +kernel
theorem dX12_summedUp_7 : decode cX12_summedUp 7 = .ok (.iconst 3, 1) := by decide +kernel
theorem dX12_summedUp_8 : decode cX12_summedUp 8 = .ok (.iload_n 2, 1) := by decide +kernel
theorem dX12_summedUp_9 : decode cX12_summedUp 9 = .ok (.imul, 1) := by decide +kernel
theorem dX12_summedUp_10 : decode cX12_summedUp 10 = .ok (.iadd, 1) := by decide +kernel
theorem dX12_summedUp_11 : decode cX12_summedUp 11 = .ok (.istore_n 3, 1) := by decide +kernel
theorem dX12_summedUp_12 : decode cX12_summedUp 12 = .ok (.sipush 681, 3) := by decide +kernel
theorem dX12_summedUp_15 : decode cX12_summedUp 15 = .ok (.iload_n 1, 1) := by decide +kernel
theorem dX12_summedUp_16 : decode cX12_summedUp 16 = .ok (.imul, 1) := by decide +kernel
theorem dX12_summedUp_17 : decode cX12_summedUp 17 = .ok (.bipush 73, 2) := by decide +kernel
theorem dX12_summedUp_19 : decode cX12_summedUp 19 = .ok (.iadd, 1) := by decide +kernel
theorem dX12_summedUp_20 : decode cX12_summedUp 20 = .ok (.istore 4, 2) := by decide +kernel
theorem dX12_summedUp_22 : decode cX12_summedUp 22 = .ok (.iconst 0, 1) := by decide +kernel
theorem dX12_summedUp_23 : decode cX12_summedUp 23 = .ok (.istore 5, 2) := by decide +kernel
theorem dX12_summedUp_25 : decode cX12_summedUp 25 = .ok (.iconst 0, 1) := by decide +kernel
theorem dX12_summedUp_26 : decode cX12_summedUp 26 = .ok (.istore 6, 2) := by decide +kernel
theorem dX12_summedUp_28 : decode cX12_summedUp 28 = .ok (.aload_n 0, 1) := by decide +kernel
theorem dX12_summedUp_29 : decode cX12_summedUp 29 = .ok (.getfield 16, 3) := by decide +kernel
theorem dX12_summedUp_32 : decode cX12_summedUp 32 = .ok (.iload_n 3, 1) := by decide +kernel
theorem dX12_summedUp_33 : decode cX12_summedUp 33 = .ok (.iconst 1, 1) := by decide +kernel
theorem dX12_summedUp_34 : decode cX12_summedUp 34 = .ok (.iadd, 1) := by decide +kernel
theorem dX12_summedUp_35 : decode cX12_summedUp 35 = .ok (.iaload, 1) := by decide +kernel
theorem dX12_summedUp_36 : decode cX12_summedUp 36 = .ok (.istore 7, 2) := by decide +kernel
theorem dX12_summedUp_38 : decode cX12_summedUp 38 = .ok (.iload 7, 2) := by decide +kernel
theorem dX12_summedUp_40 : decode cX12_summedUp 40 = .ok (.aload_n 0, 1) := by decide +kernel
theorem dX12_summedUp_41 : decode cX12_summedUp 41 = .ok (.getfield 16, 3) := by decide +kernel
theorem dX12_summedUp_44 : decode cX12_summedUp 44 = .ok (.iload_n 3, 1) := by decide +kernel
theorem dX12_summedUp_45 : decode cX12_summedUp 45 = .ok (.iconst 2, 1) := by decide +kernel
theorem dX12_summedUp_46 : decode cX12_summedUp 46 = .ok (.iadd, 1) := by decide +kernel
theorem dX12_summedUp_47 : decode cX12_summedUp 47 = .ok (.iaload, 1) := by decide +kernel
theorem dX12_summedUp_48 : decode cX12_summedUp 48 = .ok (.if_icmp .ge 358, 3) := by decide +kernel
theorem dX12_summedUp_51 : decode cX12_summedUp 51 = .ok (.aload_n 0, 1) := by decide +kernel
theorem dX12_summedUp_52 : decode cX12_summedUp 52 = .ok (.getfield 16, 3) := by decide +kernel
theorem dX12_summedUp_55 : decode cX12_summedUp 55 = .ok (.iload 4, 2) := by decide +kernel
theorem dX12_summedUp_57 : decode cX12_summedUp 57 = .ok (.iconst 2, 1) := by decide +kernel
theorem dX12_summedUp_58 : decode cX12_summedUp 58 = .ok (.iload 7, 2) := by decide +kernel
theorem dX12_summedUp_60 : decode cX12_summedUp 60 = .ok (.imul, 1) := by decide +kernel
theorem dX12_summedUp_61 : decode cX12_summedUp 61 = .ok (.iadd, 1) := by decide +kernel
theorem dX12_summedUp_62 : decode cX12_summedUp 62 = .ok (.iaload, 1) := by decide +kernel
theorem dX12_summedUp_63 : decode cX12_summedUp 63 = .ok (.istore 8, 2) := by decide +kernel
theorem dX12_summedUp_65 : decode cX12_summedUp 65 = .ok (.aload_n 0, 1) := by decide +kernel
theorem dX12_summedUp_66 : decode cX12_summedUp 66 = .ok (.getfield 16, 3) := by decide +kernel
theorem dX12_summedUp_69 : decode cX12_summedUp 69 = .ok (.iload 4, 2) := by decide +kernel
theorem dX12_summedUp_71 : decode cX12_summedUp 71 = .ok (.iconst 2, 1) := by decide +kernel
theorem dX12_summedUp_72 : decode cX12_summedUp 72 = .ok (.iload 7, 2) := by decide +kernel
theorem dX12_summedUp_74 : decode cX12_summedUp 74 = .ok (.imul, 1) := by decide +kernel
theorem dX12_summedUp_75 : decode cX12_summedUp 75 = .ok (.iadd, 1) := by decide +kernel
theorem dX12_summedUp_76 : decode cX12_summedUp 76 = .ok (.iconst 1, 1) := by decide +kernel
theorem dX12_summedUp_77 : decode cX12_summedUp 77 = .ok (.iadd, 1) := by decide +kernel
theorem dX12_summedUp_78 : decode cX12_summedUp 78 = .ok (.iaload, 1) := by decide +kernel
theorem dX12_summedUp_79 : decode cX12_summedUp 79 = .ok (.istore 9, 2) := by decide +kernel
theorem dX12_summedUp_81 : decode cX12_summedUp 81 = .ok (.iload 8, 2) := by decide +kernel
theorem dX12_summedUp_83 : decode cX12_summedUp 83 = .ok (.iconst 1, 1) := by decide +kernel
theorem dX12_summedUp_84 : decode cX12_summedUp 84 = .ok (.if_icmp .gt 35, 3) := by decide +kernel
theorem dX12_summedUp_87 : decode cX12_summedUp 87 = .ok (.aload_n 0, 1) := by decide +kernel
theorem dX12_summedUp_88 : decode cX12_summedUp 88 = .ok (.getfield 35, 3) := by decide +kernel
theorem dX12_summedUp_91 : decode cX12_summedUp 91 = .ok (.iload 5, 2) := by decide +kernel
theorem dX12_summedUp_93 : decode cX12_summedUp 93 = .ok (.iload 8, 2) := by decide +kernel
theorem dX12_summedUp_95 : decode cX12_summedUp 95 = .ok (.ifCond .ne 9, 3) := by decide +kernel
theorem dX12_summedUp_98 : decode cX12_summedUp 98 = .ok (.iload 9, 2) := by decide +kernel
theorem dX12_summedUp_100 : decode cX12_summedUp 100 = .ok (.i2l, 1) := by decide +kernel
theorem dX12_summedUp_101 : decode cX12_summedUp 101 = .ok (.goto 11, 3) := by decide +kernel
theorem dX12_summedUp_104 : decode cX12_summedUp 104 = .ok (.aload_n 0, 1) := by decide +kernel
theorem dX12_summedUp_105 : decode cX12_summedUp 105 = .ok (.getfield 32, 3) := by decide +kernel
theorem dX12_summedUp_108 : decode cX12_summedUp 108 = .ok (.iload 9, 2) := by decide +kernel
theorem dX12_summedUp_110 : decode cX12_summedUp 110 = .ok (.iaload, 1) := by decide +kernel
theorem dX12_summedUp_111 : decode cX12_summedUp 111 = .ok (.i2l, 1) := by decide +kernel
theorem dX12_summedUp_112 : decode cX12_summedUp 112 = .ok (.lastore, 1) := by decide +kernel
theorem dX12_summedUp_113 : decode cX12_summedUp 113 = .ok (.iinc 5 1, 3) := by decide +kernel
theorem dX12_summedUp_116 : decode cX12_summedUp 116 = .ok (.goto 284, 3) := by decide +kernel
theorem dX12_summedUp_119 : decode cX12_summedUp 119 = .ok (.iload 8, 2) := by decide +kernel
theorem dX12_summedUp_121 : decode cX12_summedUp 121 = .ok (.iconst 3, 1) := by decide +kernel
theorem dX12_summedUp_122 : decode cX12_summedUp 122 = .ok (.if_icmp .ne 38, 3) := by decide +kernel
theorem dX12_summedUp_125 : decode cX12_summedUp 125 = .ok (.iinc 5 (-1), 3) := by decide +kernel
theorem dX12_summedUp_128 : decode cX12_summedUp 128 = .ok (.iinc 6 (-1), 3) := by decide +kernel
theorem dX12_summedUp_131 : decode cX12_summedUp 131 = .ok (.aload_n 0, 1) := by decide +kernel
theorem dX12_summedUp_132 : decode cX12_summedUp 132 = .ok (.getfield 39, 3) := by decide +kernel
theorem dX12_summedUp_135 : decode cX12_summedUp 135 = .ok (.iload 6, 2) := by decide +kernel
theorem dX12_summedUp_137 : decode cX12_summedUp 137 = .ok (.baload, 1) := by decide +kernel
theorem dX12_summedUp_138 : decode cX12_summedUp 138 = .ok (.ifCond .ne 262, 3) := by decide +kernel
theorem dX12_summedUp_141 : decode cX12_summedUp 141 = .ok (.aload_n 0, 1) := by decide +kernel
theorem dX12_summedUp_142 : decode cX12_summedUp 142 = .ok (.getfield 35, 3) := by decide +kernel
theorem dX12_summedUp_145 : decode cX12_summedUp 145 = .ok (.iload 5, 2) := by decide +kernel
theorem dX12_summedUp_147 : decode cX12_summedUp 147 = .ok (.iconst 1, 1) := by decide +kernel
theorem dX12_summedUp_148 : decode cX12_summedUp 148 = .ok (.isub, 1) := by decide +kernel
theorem dX12_summedUp_149 : decode cX12_summedUp 149 = .ok (.aload_n 0, 1) := by decide +kernel
theorem dX12_summedUp_150 : decode cX12_summedUp 150 = .ok (.getfield 35, 3) := by decide +kernel
theorem dX12_summedUp_153 : decode cX12_summedUp 153 = .ok (.iload 5, 2) := by decide +kernel
theorem dX12_summedUp_155 : decode cX12_summedUp 155 = .ok (.laload, 1) := by decide +kernel
theorem dX12_summedUp_156 : decode cX12_summedUp 156 = .ok (.lastore, 1) := by decide +kernel
theorem dX12_summedUp_157 : decode cX12_summedUp 157 = .ok (.goto 243, 3) := by decide +kernel
theorem dX12_summedUp_160 : decode cX12_summedUp 160 = .ok (.iload 8, 2) := by decide +kernel
theorem dX12_summedUp_162 : decode cX12_summedUp 162 = .ok (.iconst 5, 1) := by decide +kernel
theorem dX12_summedUp_163 : decode cX12_summedUp 163 = .ok (.if_icmp .eq 9, 3) := by decide +kernel
theorem dX12_summedUp_166 : decode cX12_summedUp 166 = .ok (.iload 8, 2) := by decide +kernel
theorem dX12_summedUp_168 : decode cX12_summedUp 168 = .ok (.iconst 2, 1) := by decide +kernel
theorem dX12_summedUp_169 : decode cX12_summedUp 169 = .ok (.if_icmp .ne 47, 3) := by decide +kernel
theorem dX12_summedUp_172 : decode cX12_summedUp 172 = .ok (.aload_n 0, 1) := by decide +kernel
theorem dX12_summedUp_173 : decode cX12_summedUp 173 = .ok (.getfield 35, 3) := by decide +kernel
theorem dX12_summedUp_176 : decode cX12_summedUp 176 = .ok (.iload 5, 2) := by decide +kernel
theorem dX12_summedUp_178 : decode cX12_summedUp 178 = .ok (.iconst 1, 1) := by decide +kernel
theorem dX12_summedUp_179 : decode cX12_summedUp 179 = .ok (.isub, 1) := by decide +kernel
theorem dX12_summedUp_180 : decode cX12_summedUp 180 = .ok (.iload 8, 2) := by decide +kernel
theorem dX12_summedUp_182 : decode cX12_summedUp 182 = .ok (.iconst 5, 1) := by decide +kernel
theorem dX12_summedUp_183 : decode cX12_summedUp 183 = .ok (.if_icmp .ne 16, 3) := by decide +kernel
theorem dX12_summedUp_186 : decode cX12_summedUp 186 = .ok (.aload_n 0, 1) := by decide +kernel
theorem dX12_summedUp_187 : decode cX12_summedUp 187 = .ok (.getfield 35, 3) := by decide +kernel
theorem dX12_summedUp_190 : decode cX12_summedUp 190 = .ok (.iload 5, 2) := by decide +kernel
theorem dX12_summedUp_192 : decode cX12_summedUp 192 = .ok (.iconst 1, 1) := by decide +kernel
theorem dX12_summedUp_193 : decode cX12_summedUp 193 = .ok (.isub, 1) := by decide +kernel
theorem dX12_summedUp_194 : decode cX12_summedUp 194 = .ok (.laload, 1) := by decide +kernel
theorem dX12_summedUp_195 : decode cX12_summedUp 195 = .ok (.lneg, 1) := by decide +kernel
theorem dX12_summedUp_196 : decode cX12_summedUp 196 = .ok (.goto 16, 3) := by decide +kernel
theorem dX12_summedUp_199 : decode cX12_summedUp 199 = .ok (.aload_n 0, 1) := by decide +kernel
theorem dX12_summedUp_200 : decode cX12_summedUp 200 = .ok (.aload_n 0, 1) := by decide +kernel
theorem dX12_summedUp_201 : decode cX12_summedUp 201 = .ok (.getfield 35, 3) := by decide +kernel
theorem dX12_summedUp_204 : decode cX12_summedUp 204 = .ok (.iload 5, 2) := by decide +kernel
theorem dX12_summedUp_206 : decode cX12_summedUp 206 = .ok (.iconst 1, 1) := by decide +kernel
theorem dX12_summedUp_207 : decode cX12_summedUp 207 = .ok (.isub, 1) := by decide +kernel
theorem dX12_summedUp_208 : decode cX12_summedUp 208 = .ok (.laload, 1) := by decide +kernel
theorem dX12_summedUp_209 : decode cX12_summedUp 209 = .ok (.invokevirtual 276, 3) := by decide +kernel
theorem dX12_summedUp_212 : decode cX12_summedUp 212 = .ok (.lastore, 1) := by decide +kernel
theorem dX12_summedUp_213 : decode cX12_summedUp 213 = .ok (.goto 187, 3) := by decide +kernel
theorem dX12_summedUp_216 : decode cX12_summedUp 216 = .ok (.iload 8, 2) := by decide +kernel
theorem dX12_summedUp_218 : decode cX12_summedUp 218 = .ok (.bipush 10, 2) := by decide +kernel
theorem dX12_summedUp_220 : decode cX12_summedUp 220 = .ok (.if_icmp .ge 67, 3) := by decide +kernel
theorem dX12_summedUp_223 : decode cX12_summedUp 223 = .ok (.iinc 5 (-1), 3) := by decide +kernel
theorem dX12_summedUp_226 : decode cX12_summedUp 226 = .ok (.aload_n 0, 1) := by decide +kernel
theorem dX12_summedUp_227 : decode cX12_summedUp 227 = .ok (.getfield 35, 3) := by decide +kernel
theorem dX12_summedUp_230 : decode cX12_summedUp 230 = .ok (.iload 5, 2) := by decide +kernel
theorem dX12_summedUp_232 : decode cX12_summedUp 232 = .ok (.iconst 1, 1) := by decide +kernel
theorem dX12_summedUp_233 : decode cX12_summedUp 233 = .ok (.isub, 1) := by decide +kernel
theorem dX12_summedUp_234 : decode cX12_summedUp 234 = .ok (.iload 8, 2) := by decide +kernel
theorem dX12_summedUp_236 : decode cX12_summedUp 236 = .ok (.iconst 4, 1) := by decide +kernel
theorem dX12_summedUp_237 : decode cX12_summedUp 237 = .ok (.if_icmp .ne 25, 3) := by decide +kernel
theorem dX12_summedUp_240 : decode cX12_summedUp 240 = .ok (.aload_n 0, 1) := by decide +kernel
theorem dX12_summedUp_241 : decode cX12_summedUp 241 = .ok (.getfield 35, 3) := by decide +kernel
theorem dX12_summedUp_244 : decode cX12_summedUp 244 = .ok (.iload 5, 2) := by decide +kernel
theorem dX12_summedUp_246 : decode cX12_summedUp 246 = .ok (.iconst 1, 1) := by decide +kernel
theorem dX12_summedUp_247 : decode cX12_summedUp 247 = .ok (.isub, 1) := by decide +kernel
theorem dX12_summedUp_248 : decode cX12_summedUp 248 = .ok (.laload, 1) := by decide +kernel
theorem dX12_summedUp_249 : decode cX12_summedUp 249 = .ok (.aload_n 0, 1) := by decide +kernel
theorem dX12_summedUp_250 : decode cX12_summedUp 250 = .ok (.getfield 35, 3) := by decide +kernel
theorem dX12_summedUp_253 : decode cX12_summedUp 253 = .ok (.iload 5, 2) := by decide +kernel
theorem dX12_summedUp_255 : decode cX12_summedUp 255 = .ok (.laload, 1) := by decide +kernel
theorem dX12_summedUp_256 : decode cX12_summedUp 256 = .ok (.invokestatic 279, 3) := by decide +kernel
theorem dX12_summedUp_259 : decode cX12_summedUp 259 = .ok (.goto 24, 3) := by decide +kernel
theorem dX12_summedUp_262 : decode cX12_summedUp 262 = .ok (.iload 8, 2) := by decide +kernel
theorem dX12_summedUp_264 : decode cX12_summedUp 264 = .ok (.aload_n 0, 1) := by decide +kernel
theorem dX12_summedUp_265 : decode cX12_summedUp 265 = .ok (.getfield 35, 3) := by decide +kernel
theorem dX12_summedUp_268 : decode cX12_summedUp 268 = .ok (.iload 5, 2) := by decide +kernel
theorem dX12_summedUp_270 : decode cX12_summedUp 270 = .ok (.iconst 1, 1) := by decide +kernel
theorem dX12_summedUp_271 : decode cX12_summedUp 271 = .ok (.isub, 1) := by decide +kernel
theorem dX12_summedUp_272 : decode cX12_summedUp 272 = .ok (.laload, 1) := by decide +kernel
theorem dX12_summedUp_273 : decode cX12_summedUp 273 = .ok (.aload_n 0, 1) := by decide +kernel
theorem dX12_summedUp_274 : decode cX12_summedUp 274 = .ok (.getfield 35, 3) := by decide +kernel
theorem dX12_summedUp_277 : decode cX12_summedUp 277 = .ok (.iload 5, 2) := by decide +kernel
theorem dX12_summedUp_279 : decode cX12_summedUp 279 = .ok (.laload, 1) := by decide +kernel
theorem dX12_summedUp_280 : decode cX12_summedUp 280 = .ok (.invokestatic 283, 3) := by decide +kernel
theorem dX12_summedUp_283 : decode cX12_summedUp 283 = .ok (.lastore, 1) := by decide +kernel
theorem dX12_summedUp_284 : decode cX12_summedUp 284 = .ok (.goto 116, 3) := by decide +kernel
theorem dX12_summedUp_287 : decode cX12_summedUp 287 = .ok (.iload 8, 2) := by decide +kernel
theorem dX12_summedUp_289 : decode cX12_summedUp 289 = .ok (.bipush 20, 2) := by decide +kernel
theorem dX12_summedUp_291 : decode cX12_summedUp 291 = .ok (.if_icmp .ge 40, 3) := by decide +kernel
theorem dX12_summedUp_294 : decode cX12_summedUp 294 = .ok (.iinc 5 (-2), 3) := by decide +kernel
theorem dX12_summedUp_297 : decode cX12_summedUp 297 = .ok (.aload_n 0, 1) := by decide +kernel
theorem dX12_summedUp_298 : decode cX12_summedUp 298 = .ok (.getfield 39, 3) := by decide +kernel
theorem dX12_summedUp_301 : decode cX12_summedUp 301 = .ok (.iload 6, 2) := by decide +kernel
theorem dX12_summedUp_303 : decode cX12_summedUp 303 = .ok (.iload 8, 2) := by decide +kernel
theorem dX12_summedUp_305 : decode cX12_summedUp 305 = .ok (.aload_n 0, 1) := by decide +kernel
theorem dX12_summedUp_306 : decode cX12_summedUp 306 = .ok (.getfield 35, 3) := by decide +kernel
theorem dX12_summedUp_309 : decode cX12_summedUp 309 = .ok (.iload 5, 2) := by decide +kernel
theorem dX12_summedUp_311 : decode cX12_summedUp 311 = .ok (.laload, 1) := by decide +kernel
theorem dX12_summedUp_312 : decode cX12_summedUp 312 = .ok (.aload_n 0, 1) := by decide +kernel
theorem dX12_summedUp_313 : decode cX12_summedUp 313 = .ok (.getfield 35, 3) := by decide +kernel
theorem dX12_summedUp_316 : decode cX12_summedUp 316 = .ok (.iload 5, 2) := by decide +kernel
theorem dX12_summedUp_318 : decode cX12_summedUp 318 = .ok (.iconst 1, 1) := by decide +kernel
theorem dX12_summedUp_319 : decode cX12_summedUp 319 = .ok (.iadd, 1) := by decide +kernel
theorem dX12_summedUp_320 : decode cX12_summedUp 320 = .ok (.laload, 1) := by decide +kernel
theorem dX12_summedUp_321 : decode cX12_summedUp 321 = .ok (.invokestatic 287, 3) := by decide +kernel
theorem dX12_summedUp_324 : decode cX12_summedUp 324 = .ok (.bastore, 1) := by decide +kernel
theorem dX12_summedUp_325 : decode cX12_summedUp 325 = .ok (.iinc 6 1, 3) := by decide +kernel
theorem dX12_summedUp_328 : decode cX12_summedUp 328 = .ok (.goto 72, 3) := by decide +kernel
theorem dX12_summedUp_331 : decode cX12_summedUp 331 = .ok (.iload 8, 2) := by decide +kernel
theorem dX12_summedUp_333 : decode cX12_summedUp 333 = .ok (.bipush 20, 2) := by decide +kernel
theorem dX12_summedUp_335 : decode cX12_summedUp 335 = .ok (.if_icmp .ne 32, 3) := by decide +kernel
theorem dX12_summedUp_338 : decode cX12_summedUp 338 = .ok (.aload_n 0, 1) := by decide +kernel
theorem dX12_summedUp_339 : decode cX12_summedUp 339 = .ok (.getfield 39, 3) := by decide +kernel
theorem dX12_summedUp_342 : decode cX12_summedUp 342 = .ok (.iload 6, 2) := by decide +kernel
theorem dX12_summedUp_344 : decode cX12_summedUp 344 = .ok (.iconst 1, 1) := by decide +kernel
theorem dX12_summedUp_345 : decode cX12_summedUp 345 = .ok (.isub, 1) := by decide +kernel
theorem dX12_summedUp_346 : decode cX12_summedUp 346 = .ok (.aload_n 0, 1) := by decide +kernel
theorem dX12_summedUp_347 : decode cX12_summedUp 347 = .ok (.getfield 39, 3) := by decide +kernel
theorem dX12_summedUp_350 : decode cX12_summedUp 350 = .ok (.iload 6, 2) := by decide +kernel
theorem dX12_summedUp_352 : decode cX12_summedUp 352 = .ok (.iconst 1, 1) := by decide +kernel
theorem dX12_summedUp_353 : decode cX12_summedUp 353 = .ok (.isub, 1) := by decide +kernel
theorem dX12_summedUp_354 : decode cX12_summedUp 354 = .ok (.baload, 1) := by decide +kernel
theorem dX12_summedUp_355 : decode cX12_summedUp 355 = .ok (.ifCond .ne 7, 3) := by decide +kernel
theorem dX12_summedUp_358 : decode cX12_summedUp 358 = .ok (.iconst 1, 1) := by decide +kernel
theorem dX12_summedUp_359 : decode cX12_summedUp 359 = .ok (.goto 4, 3) := by decide +kernel
theorem dX12_summedUp_362 : decode cX12_summedUp 362 = .ok (.iconst 0, 1) := by decide +kernel
theorem dX12_summedUp_363 : decode cX12_summedUp 363 = .ok (.bastore, 1) := by decide +kernel
theorem dX12_summedUp_364 : decode cX12_summedUp 364 = .ok (.goto 36, 3) := by decide +kernel
theorem dX12_summedUp_367 : decode cX12_summedUp 367 = .ok (.iinc 6 (-1), 3) := by decide +kernel
theorem dX12_summedUp_370 : decode cX12_summedUp 370 = .ok (.aload_n 0, 1) := by decide +kernel
theorem dX12_summedUp_371 : decode cX12_summedUp 371 = .ok (.getfield 39, 3) := by decide +kernel
theorem dX12_summedUp_374 : decode cX12_summedUp 374 = .ok (.iload 6, 2) := by decide +kernel
theorem dX12_summedUp_376 : decode cX12_summedUp 376 = .ok (.iconst 1, 1) := by decide +kernel
theorem dX12_summedUp_377 : decode cX12_summedUp 377 = .ok (.isub, 1) := by decide +kernel
theorem dX12_summedUp_378 : decode cX12_summedUp 378 = .ok (.iload 8, 2) := by decide +kernel
theorem dX12_summedUp_380 : decode cX12_summedUp 380 = .ok (.aload_n 0, 1) := by decide +kernel
theorem dX12_summedUp_381 : decode cX12_summedUp 381 = .ok (.getfield 39, 3) := by decide +kernel
theorem dX12_summedUp_384 : decode cX12_summedUp 384 = .ok (.iload 6, 2) := by decide +kernel
theorem dX12_summedUp_386 : decode cX12_summedUp 386 = .ok (.iconst 1, 1) := by decide +kernel
theorem dX12_summedUp_387 : decode cX12_summedUp 387 = .ok (.isub, 1) := by decide +kernel
theorem dX12_summedUp_388 : decode cX12_summedUp 388 = .ok (.baload, 1) := by decide +kernel
theorem dX12_summedUp_389 : decode cX12_summedUp 389 = .ok (.aload_n 0, 1) := by decide +kernel
theorem dX12_summedUp_390 : decode cX12_summedUp 390 = .ok (.getfield 39, 3) := by decide +kernel
theorem dX12_summedUp_393 : decode cX12_summedUp 393 = .ok (.iload 6, 2) := by decide +kernel
theorem dX12_summedUp_395 : decode cX12_summedUp 395 = .ok (.baload, 1) := by decide +kernel
theorem dX12_summedUp_396 : decode cX12_summedUp 396 = .ok (.invokestatic 291, 3) := by decide +kernel
theorem dX12_summedUp_399 : decode cX12_summedUp 399 = .ok (.bastore, 1) := by decide +kernel
theorem dX12_summedUp_400 : decode cX12_summedUp 400 = .ok (.iinc 7 1, 3) := by decide +kernel
theorem dX12_summedUp_403 : decode cX12_summedUp 403 = .ok (.goto (-365), 3) := by decide +kernel
theorem dX12_summedUp_406 : decode cX12_summedUp 406 = .ok (.aload_n 0, 1) := by decide +kernel
theorem dX12_summedUp_407 : decode cX12_summedUp 407 = .ok (.getfield 35, 3) := by decide +kernel
theorem dX12_summedUp_410 : decode cX12_summedUp 410 = .ok (.iconst 0, 1) := by decide +kernel
theorem dX12_summedUp_411 : decode cX12_summedUp 411 = .ok (.laload, 1) := by decide +kernel
theorem dX12_summedUp_412 : decode cX12_summedUp 412 = .ok (.lreturn, 1) := by decide +kernel
theorem dX12_says_0 : decode cX12_says 0 = .ok (.iconst 0, 1) := by decide +kernel
theorem dX12_says_1 : decode cX12_says 1 = .ok (.istore 6, 2) := by decide +kernel
theorem dX12_says_3 : decode cX12_says 3 = .ok (.iload_n 1, 1) := by decide +kernel
theorem dX12_says_4 : decode cX12_says 4 = .ok (.ifCond .lt 60, 3) := by decide +kernel
theorem dX12_says_7 : decode cX12_says 7 = .ok (.iload 6, 2) := by decide +kernel
theorem dX12_says_9 : decode cX12_says 9 = .ok (.aload_n 0, 1) := by decide +kernel
theorem dX12_says_10 : decode cX12_says 10 = .ok (.getfield 16, 3) := by decide +kernel
theorem dX12_says_13 : decode cX12_says 13 = .ok (.sipush 681, 3) := by decide +kernel
theorem dX12_says_16 : decode cX12_says 16 = .ok (.iload_n 1, 1) := by decide +kernel
theorem dX12_says_17 : decode cX12_says 17 = .ok (.imul, 1) := by decide +kernel
theorem dX12_says_18 : decode cX12_says 18 = .ok (.iaload, 1) := by decide +kernel
theorem dX12_says_19 : decode cX12_says 19 = .ok (.if_icmp .ge 45, 3) := by decide +kernel
theorem dX12_says_22 : decode cX12_says 22 = .ok (.aload_n 0, 1) := by decide +kernel
theorem dX12_says_23 : decode cX12_says 23 = .ok (.getfield 16, 3) := by decide +kernel
theorem dX12_says_26 : decode cX12_says 26 = .ok (.sipush 681, 3) := by decide +kernel
theorem dX12_says_29 : decode cX12_says 29 = .ok (.iload_n 1, 1) := by decide +kernel
theorem dX12_says_30 : decode cX12_says 30 = .ok (.imul, 1) := by decide +kernel
theorem dX12_says_31 : decode cX12_says 31 = .ok (.iconst 1, 1) := by decide +kernel
theorem dX12_says_32 : decode cX12_says 32 = .ok (.iadd, 1) := by decide +kernel
theorem dX12_says_33 : decode cX12_says 33 = .ok (.iconst 3, 1) := by decide +kernel
theorem dX12_says_34 : decode cX12_says 34 = .ok (.iload 6, 2) := by decide +kernel
theorem dX12_says_36 : decode cX12_says 36 = .ok (.imul, 1) := by decide +kernel
theorem dX12_says_37 : decode cX12_says 37 = .ok (.iadd, 1) := by decide +kernel
theorem dX12_says_38 : decode cX12_says 38 = .ok (.iaload, 1) := by decide +kernel
theorem dX12_says_39 : decode cX12_says 39 = .ok (.iload_n 2, 1) := by decide +kernel
theorem dX12_says_40 : decode cX12_says 40 = .ok (.if_icmp .ne 18, 3) := by decide +kernel
theorem dX12_says_43 : decode cX12_says 43 = .ok (.aload_n 0, 1) := by decide +kernel
theorem dX12_says_44 : decode cX12_says 44 = .ok (.iload_n 1, 1) := by decide +kernel
theorem dX12_says_45 : decode cX12_says 45 = .ok (.iload 6, 2) := by decide +kernel
theorem dX12_says_47 : decode cX12_says 47 = .ok (.invokevirtual 295, 3) := by decide +kernel
theorem dX12_says_50 : decode cX12_says 50 = .ok (.iload 4, 2) := by decide +kernel
theorem dX12_says_52 : decode cX12_says 52 = .ok (.iload 5, 2) := by decide +kernel
theorem dX12_says_54 : decode cX12_says 54 = .ok (.invokestatic 298, 3) := by decide +kernel
theorem dX12_says_57 : decode cX12_says 57 = .ok (.ireturn, 1) := by decide +kernel
theorem dX12_says_58 : decode cX12_says 58 = .ok (.iinc 6 1, 3) := by decide +kernel
theorem dX12_says_61 : decode cX12_says 61 = .ok (.goto (-58), 3) := by decide +kernel
theorem dX12_says_64 : decode cX12_says 64 = .ok (.iload_n 3, 1) := by decide +kernel
theorem dX12_says_65 : decode cX12_says 65 = .ok (.ireturn, 1) := by decide +kernel
theorem dX12_cellOf_0 : decode cX12_cellOf 0 = .ok (.aload_n 0, 1) := by decide +kernel
theorem dX12_cellOf_1 : decode cX12_cellOf 1 = .ok (.iload_n 1, 1) := by decide +kernel
theorem dX12_cellOf_2 : decode cX12_cellOf 2 = .ok (.iconst 0, 1) := by decide +kernel
theorem dX12_cellOf_3 : decode cX12_cellOf 3 = .ok (.invokevirtual 264, 3) := by decide +kernel
theorem dX12_cellOf_6 : decode cX12_cellOf 6 = .ok (.invokestatic 84, 3) := by decide +kernel
theorem dX12_cellOf_9 : decode cX12_cellOf 9 = .ok (.ifCond .eq 12, 3) := by decide +kernel
theorem dX12_cellOf_12 : decode cX12_cellOf 12 = .ok (.aload_n 0, 1) := by decide +kernel
theorem dX12_cellOf_13 : decode cX12_cellOf 13 = .ok (.iload_n 1, 1) := by decide +kernel
theorem dX12_cellOf_14 : decode cX12_cellOf 14 = .ok (.iconst 0, 1) := by decide +kernel
theorem dX12_cellOf_15 : decode cX12_cellOf 15 = .ok (.invokevirtual 264, 3) := by decide +kernel
theorem dX12_cellOf_18 : decode cX12_cellOf 18 = .ok (.goto 4, 3) := by decide +kernel
theorem dX12_cellOf_21 : decode cX12_cellOf 21 = .ok (.iconst 0, 1) := by decide +kernel
theorem dX12_cellOf_22 : decode cX12_cellOf 22 = .ok (.ireturn, 1) := by decide +kernel
theorem dX12_layNamed_0 : decode cX12_layNamed 0 = .ok (.aload_n 0, 1) := by decide +kernel
theorem dX12_layNamed_1 : decode cX12_layNamed 1 = .ok (.getfield 32, 3) := by decide +kernel
theorem dX12_layNamed_4 : decode cX12_layNamed 4 = .ok (.iconst 0, 1) := by decide +kernel
theorem dX12_layNamed_5 : decode cX12_layNamed 5 = .ok (.aload_n 0, 1) := by decide +kernel
theorem dX12_layNamed_6 : decode cX12_layNamed 6 = .ok (.getfield 7, 3) := by decide +kernel
theorem dX12_layNamed_9 : decode cX12_layNamed 9 = .ok (.bipush 7, 2) := by decide +kernel
theorem dX12_layNamed_11 : decode cX12_layNamed 11 = .ok (.iaload, 1) := by decide +kernel
theorem dX12_layNamed_12 : decode cX12_layNamed 12 = .ok (.iastore, 1) := by decide +kernel
theorem dX12_layNamed_13 : decode cX12_layNamed 13 = .ok (.aload_n 0, 1) := by decide +kernel
theorem dX12_layNamed_14 : decode cX12_layNamed 14 = .ok (.getfield 32, 3) := by decide +kernel
theorem dX12_layNamed_17 : decode cX12_layNamed 17 = .ok (.iconst 1, 1) := by decide +kernel
theorem dX12_layNamed_18 : decode cX12_layNamed 18 = .ok (.aload_n 0, 1) := by decide +kernel
theorem dX12_layNamed_19 : decode cX12_layNamed 19 = .ok (.getfield 7, 3) := by decide +kernel
theorem dX12_layNamed_22 : decode cX12_layNamed 22 = .ok (.bipush 9, 2) := by decide +kernel
theorem dX12_layNamed_24 : decode cX12_layNamed 24 = .ok (.iaload, 1) := by decide +kernel
theorem dX12_layNamed_25 : decode cX12_layNamed 25 = .ok (.iastore, 1) := by decide +kernel
theorem dX12_layNamed_26 : decode cX12_layNamed 26 = .ok (.aload_n 0, 1) := by decide +kernel
theorem dX12_layNamed_27 : decode cX12_layNamed 27 = .ok (.getfield 32, 3) := by decide +kernel
theorem dX12_layNamed_30 : decode cX12_layNamed 30 = .ok (.iconst 2, 1) := by decide +kernel
theorem dX12_layNamed_31 : decode cX12_layNamed 31 = .ok (.aload_n 0, 1) := by decide +kernel
theorem dX12_layNamed_32 : decode cX12_layNamed 32 = .ok (.getfield 7, 3) := by decide +kernel
theorem dX12_layNamed_35 : decode cX12_layNamed 35 = .ok (.bipush 36, 2) := by decide +kernel
theorem dX12_layNamed_37 : decode cX12_layNamed 37 = .ok (.iload_n 1, 1) := by decide +kernel
theorem dX12_layNamed_38 : decode cX12_layNamed 38 = .ok (.iadd, 1) := by decide +kernel
theorem dX12_layNamed_39 : decode cX12_layNamed 39 = .ok (.iaload, 1) := by decide +kernel
theorem dX12_layNamed_40 : decode cX12_layNamed 40 = .ok (.iastore, 1) := by decide +kernel
theorem dX12_layNamed_41 : decode cX12_layNamed 41 = .ok (.aload_n 0, 1) := by decide +kernel
theorem dX12_layNamed_42 : decode cX12_layNamed 42 = .ok (.getfield 32, 3) := by decide +kernel
theorem dX12_layNamed_45 : decode cX12_layNamed 45 = .ok (.iconst 3, 1) := by decide +kernel
theorem dX12_layNamed_46 : decode cX12_layNamed 46 = .ok (.aload_n 0, 1) := by decide +kernel
theorem dX12_layNamed_47 : decode cX12_layNamed 47 = .ok (.iload_n 1, 1) := by decide +kernel
theorem dX12_layNamed_48 : decode cX12_layNamed 48 = .ok (.iconst 1, 1) := by decide +kernel
theorem dX12_layNamed_49 : decode cX12_layNamed 49 = .ok (.invokevirtual 264, 3) := by decide +kernel
theorem dX12_layNamed_52 : decode cX12_layNamed 52 = .ok (.iastore, 1) := by decide +kernel
theorem dX12_layNamed_53 : decode cX12_layNamed 53 = .ok (.aload_n 0, 1) := by decide +kernel
theorem dX12_layNamed_54 : decode cX12_layNamed 54 = .ok (.getfield 32, 3) := by decide +kernel
theorem dX12_layNamed_57 : decode cX12_layNamed 57 = .ok (.iconst 4, 1) := by decide +kernel
theorem dX12_layNamed_58 : decode cX12_layNamed 58 = .ok (.iload_n 1, 1) := by decide +kernel
theorem dX12_layNamed_59 : decode cX12_layNamed 59 = .ok (.iastore, 1) := by decide +kernel
theorem dX12_layNamed_60 : decode cX12_layNamed 60 = .ok (.aload_n 0, 1) := by decide +kernel
theorem dX12_layNamed_61 : decode cX12_layNamed 61 = .ok (.getfield 32, 3) := by decide +kernel
theorem dX12_layNamed_64 : decode cX12_layNamed 64 = .ok (.iconst 5, 1) := by decide +kernel
theorem dX12_layNamed_65 : decode cX12_layNamed 65 = .ok (.aload_n 0, 1) := by decide +kernel
theorem dX12_layNamed_66 : decode cX12_layNamed 66 = .ok (.getfield 7, 3) := by decide +kernel
theorem dX12_layNamed_69 : decode cX12_layNamed 69 = .ok (.bipush 30, 2) := by decide +kernel
theorem dX12_layNamed_71 : decode cX12_layNamed 71 = .ok (.iload_n 1, 1) := by decide +kernel
theorem dX12_layNamed_72 : decode cX12_layNamed 72 = .ok (.iadd, 1) := by decide +kernel
theorem dX12_layNamed_73 : decode cX12_layNamed 73 = .ok (.iaload, 1) := by decide +kernel
theorem dX12_layNamed_74 : decode cX12_layNamed 74 = .ok (.iastore, 1) := by decide +kernel
theorem dX12_layNamed_75 : decode cX12_layNamed 75 = .ok (.aload_n 0, 1) := by decide +kernel
theorem dX12_layNamed_76 : decode cX12_layNamed 76 = .ok (.getfield 32, 3) := by decide +kernel
theorem dX12_layNamed_79 : decode cX12_layNamed 79 = .ok (.bipush 6, 2) := by decide +kernel
theorem dX12_layNamed_81 : decode cX12_layNamed 81 = .ok (.iload_n 2, 1) := by decide +kernel
theorem dX12_layNamed_82 : decode cX12_layNamed 82 = .ok (.iastore, 1) := by decide +kernel
theorem dX12_layNamed_83 : decode cX12_layNamed 83 = .ok (.return_, 1) := by decide +kernel
theorem dX12_meltsOf_0 : decode cX12_meltsOf 0 = .ok (.aload_n 0, 1) := by decide +kernel
theorem dX12_meltsOf_1 : decode cX12_meltsOf 1 = .ok (.iload_n 2, 1) := by decide +kernel
theorem dX12_meltsOf_2 : decode cX12_meltsOf 2 = .ok (.iconst 0, 1) := by decide +kernel
theorem dX12_meltsOf_3 : decode cX12_meltsOf 3 = .ok (.invokevirtual 302, 3) := by decide +kernel
theorem dX12_meltsOf_6 : decode cX12_meltsOf 6 = .ok (.aload_n 0, 1) := by decide +kernel
theorem dX12_meltsOf_7 : decode cX12_meltsOf 7 = .ok (.iload_n 1, 1) := by decide +kernel
theorem dX12_meltsOf_8 : decode cX12_meltsOf 8 = .ok (.iconst 0, 1) := by decide +kernel
theorem dX12_meltsOf_9 : decode cX12_meltsOf 9 = .ok (.aload_n 0, 1) := by decide +kernel
theorem dX12_meltsOf_10 : decode cX12_meltsOf 10 = .ok (.getfield 7, 3) := by decide +kernel
theorem dX12_meltsOf_13 : decode cX12_meltsOf 13 = .ok (.bipush 9, 2) := by decide +kernel
theorem dX12_meltsOf_15 : decode cX12_meltsOf 15 = .ok (.iaload, 1) := by decide +kernel
theorem dX12_meltsOf_16 : decode cX12_meltsOf 16 = .ok (.aload_n 0, 1) := by decide +kernel
theorem dX12_meltsOf_17 : decode cX12_meltsOf 17 = .ok (.getfield 7, 3) := by decide +kernel
theorem dX12_meltsOf_20 : decode cX12_meltsOf 20 = .ok (.bipush 36, 2) := by decide +kernel
theorem dX12_meltsOf_22 : decode cX12_meltsOf 22 = .ok (.iload_n 2, 1) := by decide +kernel
theorem dX12_meltsOf_23 : decode cX12_meltsOf 23 = .ok (.iadd, 1) := by decide +kernel
theorem dX12_meltsOf_24 : decode cX12_meltsOf 24 = .ok (.iaload, 1) := by decide +kernel
theorem dX12_meltsOf_25 : decode cX12_meltsOf 25 = .ok (.isub, 1) := by decide +kernel
theorem dX12_meltsOf_26 : decode cX12_meltsOf 26 = .ok (.bipush (-99), 2) := by decide +kernel
theorem dX12_meltsOf_28 : decode cX12_meltsOf 28 = .ok (.bipush 99, 2) := by decide +kernel
theorem dX12_meltsOf_30 : decode cX12_meltsOf 30 = .ok (.invokevirtual 305, 3) := by decide +kernel
theorem dX12_meltsOf_33 : decode cX12_meltsOf 33 = .ok (.ireturn, 1) := by decide +kernel
theorem dX12_breaksOf_0 : decode cX12_breaksOf 0 = .ok (.aload_n 0, 1) := by decide +kernel
theorem dX12_breaksOf_1 : decode cX12_breaksOf 1 = .ok (.iload_n 1, 1) := by decide +kernel
theorem dX12_breaksOf_2 : decode cX12_breaksOf 2 = .ok (.iload_n 2, 1) := by decide +kernel
theorem dX12_breaksOf_3 : decode cX12_breaksOf 3 = .ok (.invokevirtual 302, 3) := by decide +kernel
theorem dX12_breaksOf_6 : decode cX12_breaksOf 6 = .ok (.aload_n 0, 1) := by decide +kernel
theorem dX12_breaksOf_7 : decode cX12_breaksOf 7 = .ok (.aload_n 0, 1) := by decide +kernel
theorem dX12_breaksOf_8 : decode cX12_breaksOf 8 = .ok (.getfield 7, 3) := by decide +kernel
theorem dX12_breaksOf_11 : decode cX12_breaksOf 11 = .ok (.iconst 3, 1) := by decide +kernel
theorem dX12_breaksOf_12 : decode cX12_breaksOf 12 = .ok (.iaload, 1) := by decide +kernel
theorem dX12_breaksOf_13 : decode cX12_breaksOf 13 = .ok (.iconst 1, 1) := by decide +kernel
theorem dX12_breaksOf_14 : decode cX12_breaksOf 14 = .ok (.iconst 3, 1) := by decide +kernel
theorem dX12_breaksOf_15 : decode cX12_breaksOf 15 = .ok (.iconst 0, 1) := by decide +kernel
theorem dX12_breaksOf_16 : decode cX12_breaksOf 16 = .ok (.bipush 10, 2) := by decide +kernel
theorem dX12_breaksOf_18 : decode cX12_breaksOf 18 = .ok (.invokevirtual 305, 3) := by decide +kernel
theorem dX12_breaksOf_21 : decode cX12_breaksOf 21 = .ok (.ireturn, 1) := by decide +kernel
theorem dX12_claimsOf_0 : decode cX12_claimsOf 0 = .ok (.aload_n 0, 1) := by decide +kernel
theorem dX12_claimsOf_1 : decode cX12_claimsOf 1 = .ok (.iload_n 1, 1) := by decide +kernel
theorem dX12_claimsOf_2 : decode cX12_claimsOf 2 = .ok (.aload_n 0, 1) := by decide +kernel
theorem dX12_claimsOf_3 : decode cX12_claimsOf 3 = .ok (.iload_n 1, 1) := by decide +kernel
theorem dX12_claimsOf_4 : decode cX12_claimsOf 4 = .ok (.invokevirtual 309, 3) := by decide +kernel
theorem dX12_claimsOf_7 : decode cX12_claimsOf 7 = .ok (.invokevirtual 302, 3) := by decide +kernel
theorem dX12_claimsOf_10 : decode cX12_claimsOf 10 = .ok (.aload_n 0, 1) := by decide +kernel
theorem dX12_claimsOf_11 : decode cX12_claimsOf 11 = .ok (.getfield 32, 3) := by decide +kernel
theorem dX12_claimsOf_14 : decode cX12_claimsOf 14 = .ok (.bipush 7, 2) := by decide +kernel
theorem dX12_claimsOf_16 : decode cX12_claimsOf 16 = .ok (.aload_n 0, 1) := by decide +kernel
theorem dX12_claimsOf_17 : decode cX12_claimsOf 17 = .ok (.getfield 7, 3) := by decide +kernel
theorem dX12_claimsOf_20 : decode cX12_claimsOf 20 = .ok (.bipush 42, 2) := by decide +kernel
theorem dX12_claimsOf_22 : decode cX12_claimsOf 22 = .ok (.iload_n 2, 1) := by decide +kernel
theorem dX12_claimsOf_23 : decode cX12_claimsOf 23 = .ok (.iadd, 1) := by decide +kernel
theorem dX12_claimsOf_24 : decode cX12_claimsOf 24 = .ok (.iaload, 1) := by decide +kernel
theorem dX12_claimsOf_25 : decode cX12_claimsOf 25 = .ok (.iastore, 1) := by decide +kernel
theorem dX12_claimsOf_26 : decode cX12_claimsOf 26 = .ok (.aload_n 0, 1) := by decide +kernel
theorem dX12_claimsOf_27 : decode cX12_claimsOf 27 = .ok (.getfield 32, 3) := by decide +kernel
theorem dX12_claimsOf_30 : decode cX12_claimsOf 30 = .ok (.bipush 8, 2) := by decide +kernel
theorem dX12_claimsOf_32 : decode cX12_claimsOf 32 = .ok (.iload_n 2, 1) := by decide +kernel
theorem dX12_claimsOf_33 : decode cX12_claimsOf 33 = .ok (.iastore, 1) := by decide +kernel
theorem dX12_claimsOf_34 : decode cX12_claimsOf 34 = .ok (.aload_n 0, 1) := by decide +kernel
theorem dX12_claimsOf_35 : decode cX12_claimsOf 35 = .ok (.aload_n 0, 1) := by decide +kernel
theorem dX12_claimsOf_36 : decode cX12_claimsOf 36 = .ok (.getfield 7, 3) := by decide +kernel
theorem dX12_claimsOf_39 : decode cX12_claimsOf 39 = .ok (.iconst 3, 1) := by decide +kernel
theorem dX12_claimsOf_40 : decode cX12_claimsOf 40 = .ok (.iaload, 1) := by decide +kernel
theorem dX12_claimsOf_41 : decode cX12_claimsOf 41 = .ok (.iconst 2, 1) := by decide +kernel
theorem dX12_claimsOf_42 : decode cX12_claimsOf 42 = .ok (.iconst 1, 1) := by decide +kernel
theorem dX12_claimsOf_43 : decode cX12_claimsOf 43 = .ok (.bipush (-99), 2) := by decide +kernel
theorem dX12_claimsOf_45 : decode cX12_claimsOf 45 = .ok (.bipush 99, 2) := by decide +kernel
theorem dX12_claimsOf_47 : decode cX12_claimsOf 47 = .ok (.invokevirtual 305, 3) := by decide +kernel
theorem dX12_claimsOf_50 : decode cX12_claimsOf 50 = .ok (.ireturn, 1) := by decide +kernel
theorem dX12_write_0 : decode cX12_write 0 = .ok (.aload_n 0, 1) := by decide +kernel
theorem dX12_write_1 : decode cX12_write 1 = .ok (.getfield 43, 3) := by decide +kernel
theorem dX12_write_4 : decode cX12_write 4 = .ok (.ifCond .ne 4, 3) := by decide +kernel
theorem dX12_write_7 : decode cX12_write 7 = .ok (.return_, 1) := by decide +kernel
theorem dX12_write_8 : decode cX12_write 8 = .ok (.aload_n 0, 1) := by decide +kernel
theorem dX12_write_9 : decode cX12_write 9 = .ok (.getfield 7, 3) := by decide +kernel
theorem dX12_write_12 : decode cX12_write 12 = .ok (.bipush 11, 2) := by decide +kernel
theorem dX12_write_14 : decode cX12_write 14 = .ok (.iaload, 1) := by decide +kernel
theorem dX12_write_15 : decode cX12_write 15 = .ok (.bipush 30, 2) := by decide +kernel
theorem dX12_write_17 : decode cX12_write 17 = .ok (.if_icmp .ne 54, 3) := by decide +kernel
theorem dX12_write_20 : decode cX12_write 20 = .ok (.iconst 1, 1) := by decide +kernel
theorem dX12_write_21 : decode cX12_write 21 = .ok (.istore 4, 2) := by decide +kernel
theorem dX12_write_23 : decode cX12_write 23 = .ok (.iload 4, 2) := by decide +kernel
theorem dX12_write_25 : decode cX12_write 25 = .ok (.bipush 30, 2) := by decide +kernel
theorem dX12_write_27 : decode cX12_write 27 = .ok (.if_icmp .ge 33, 3) := by decide +kernel
theorem dX12_write_30 : decode cX12_write 30 = .ok (.aload_n 0, 1) := by decide +kernel
theorem dX12_write_31 : decode cX12_write 31 = .ok (.getfield 7, 3) := by decide +kernel
theorem dX12_write_34 : decode cX12_write 34 = .ok (.sipush 1762, 3) := by decide +kernel
theorem dX12_write_37 : decode cX12_write 37 = .ok (.iload 4, 2) := by decide +kernel
theorem dX12_write_39 : decode cX12_write 39 = .ok (.iadd, 1) := by decide +kernel
theorem dX12_write_40 : decode cX12_write 40 = .ok (.iconst 1, 1) := by decide +kernel
theorem dX12_write_41 : decode cX12_write 41 = .ok (.isub, 1) := by decide +kernel
theorem dX12_write_42 : decode cX12_write 42 = .ok (.aload_n 0, 1) := by decide +kernel
theorem dX12_write_43 : decode cX12_write 43 = .ok (.getfield 7, 3) := by decide +kernel
theorem dX12_write_46 : decode cX12_write 46 = .ok (.sipush 1762, 3) := by decide +kernel
theorem dX12_write_49 : decode cX12_write 49 = .ok (.iload 4, 2) := by decide +kernel
theorem dX12_write_51 : decode cX12_write 51 = .ok (.iadd, 1) := by decide +kernel
theorem dX12_write_52 : decode cX12_write 52 = .ok (.iaload, 1) := by decide +kernel
theorem dX12_write_53 : decode cX12_write 53 = .ok (.iastore, 1) := by decide +kernel
theorem dX12_write_54 : decode cX12_write 54 = .ok (.iinc 4 1, 3) := by decide +kernel
theorem dX12_write_57 : decode cX12_write 57 = .ok (.goto (-34), 3) := by decide +kernel
theorem dX12_write_60 : decode cX12_write 60 = .ok (.aload_n 0, 1) := by decide +kernel
theorem dX12_write_61 : decode cX12_write 61 = .ok (.getfield 7, 3) := by decide +kernel
theorem dX12_write_64 : decode cX12_write 64 = .ok (.bipush 11, 2) := by decide +kernel
theorem dX12_write_66 : decode cX12_write 66 = .ok (.dup2, 1) := by decide +kernel
theorem dX12_write_67 : decode cX12_write 67 = .ok (.iaload, 1) := by decide +kernel
theorem dX12_write_68 : decode cX12_write 68 = .ok (.iconst 1, 1) := by decide +kernel
theorem dX12_write_69 : decode cX12_write 69 = .ok (.isub, 1) := by decide +kernel
theorem dX12_write_70 : decode cX12_write 70 = .ok (.iastore, 1) := by decide +kernel
theorem dX12_write_71 : decode cX12_write 71 = .ok (.aload_n 0, 1) := by decide +kernel
theorem dX12_write_72 : decode cX12_write 72 = .ok (.getfield 7, 3) := by decide +kernel
theorem dX12_write_75 : decode cX12_write 75 = .ok (.sipush 1762, 3) := by decide +kernel
theorem dX12_write_78 : decode cX12_write 78 = .ok (.aload_n 0, 1) := by decide +kernel
theorem dX12_write_79 : decode cX12_write 79 = .ok (.getfield 7, 3) := by decide +kernel
theorem dX12_write_82 : decode cX12_write 82 = .ok (.bipush 11, 2) := by decide +kernel
theorem dX12_write_84 : decode cX12_write 84 = .ok (.iaload, 1) := by decide +kernel
theorem dX12_write_85 : decode cX12_write 85 = .ok (.iadd, 1) := by decide +kernel
theorem dX12_write_86 : decode cX12_write 86 = .ok (.aload_n 0, 1) := by decide +kernel
theorem dX12_write_87 : decode cX12_write 87 = .ok (.getfield 7, 3) := by decide +kernel
theorem dX12_write_90 : decode cX12_write 90 = .ok (.bipush 7, 2) := by decide +kernel
theorem dX12_write_92 : decode cX12_write 92 = .ok (.iaload, 1) := by decide +kernel
theorem dX12_write_93 : decode cX12_write 93 = .ok (.bipush 6, 2) := by decide +kernel
theorem dX12_write_95 : decode cX12_write 95 = .ok (.imul, 1) := by decide +kernel
theorem dX12_write_96 : decode cX12_write 96 = .ok (.iload_n 1, 1) := by decide +kernel
theorem dX12_write_97 : decode cX12_write 97 = .ok (.iadd, 1) := by decide +kernel
theorem dX12_write_98 : decode cX12_write 98 = .ok (.iconst 3, 1) := by decide +kernel
theorem dX12_write_99 : decode cX12_write 99 = .ok (.imul, 1) := by decide +kernel
theorem dX12_write_100 : decode cX12_write 100 = .ok (.iload_n 2, 1) := by decide +kernel
theorem dX12_write_101 : decode cX12_write 101 = .ok (.iadd, 1) := by decide +kernel
theorem dX12_write_102 : decode cX12_write 102 = .ok (.bipush 10, 2) := by decide +kernel
theorem dX12_write_104 : decode cX12_write 104 = .ok (.imul, 1) := by decide +kernel
theorem dX12_write_105 : decode cX12_write 105 = .ok (.iload_n 3, 1) := by decide +kernel
theorem dX12_write_106 : decode cX12_write 106 = .ok (.iadd, 1) := by decide +kernel
theorem dX12_write_107 : decode cX12_write 107 = .ok (.iastore, 1) := by decide +kernel
theorem dX12_write_108 : decode cX12_write 108 = .ok (.aload_n 0, 1) := by decide +kernel
theorem dX12_write_109 : decode cX12_write 109 = .ok (.getfield 7, 3) := by decide +kernel
theorem dX12_write_112 : decode cX12_write 112 = .ok (.bipush 11, 2) := by decide +kernel
theorem dX12_write_114 : decode cX12_write 114 = .ok (.dup2, 1) := by decide +kernel
theorem dX12_write_115 : decode cX12_write 115 = .ok (.iaload, 1) := by decide +kernel
theorem dX12_write_116 : decode cX12_write 116 = .ok (.iconst 1, 1) := by decide +kernel
theorem dX12_write_117 : decode cX12_write 117 = .ok (.iadd, 1) := by decide +kernel
theorem dX12_write_118 : decode cX12_write 118 = .ok (.iastore, 1) := by decide +kernel
theorem dX12_write_119 : decode cX12_write 119 = .ok (.return_, 1) := by decide +kernel
theorem dX12_drawnBy_0 : decode cX12_drawnBy 0 = .ok (.aload_n 0, 1) := by decide +kernel
theorem dX12_drawnBy_1 : decode cX12_drawnBy 1 = .ok (.getfield 7, 3) := by decide +kernel
theorem dX12_drawnBy_4 : decode cX12_drawnBy 4 = .ok (.bipush 8, 2) := by decide +kernel
theorem dX12_drawnBy_6 : decode cX12_drawnBy 6 = .ok (.iaload, 1) := by decide +kernel
theorem dX12_drawnBy_7 : decode cX12_drawnBy 7 = .ok (.iload_n 1, 1) := by decide +kernel
theorem dX12_drawnBy_8 : decode cX12_drawnBy 8 = .ok (.irem, 1) := by decide +kernel
theorem dX12_drawnBy_9 : decode cX12_drawnBy 9 = .ok (.istore_n 2, 1) := by decide +kernel
theorem dX12_drawnBy_10 : decode cX12_drawnBy 10 = .ok (.aload_n 0, 1) := by decide +kernel
theorem dX12_drawnBy_11 : decode cX12_drawnBy 11 = .ok (.invokevirtual 312, 3) := by decide +kernel
theorem dX12_drawnBy_14 : decode cX12_drawnBy 14 = .ok (.iload_n 2, 1) := by decide +kernel
theorem dX12_drawnBy_15 : decode cX12_drawnBy 15 = .ok (.ireturn, 1) := by decide +kernel
theorem dX12_anew_0 : decode cX12_anew 0 = .ok (.aload_n 0, 1) := by decide +kernel
theorem dX12_anew_1 : decode cX12_anew 1 = .ok (.getfield 7, 3) := by decide +kernel
theorem dX12_anew_4 : decode cX12_anew 4 = .ok (.bipush 8, 2) := by decide +kernel
theorem dX12_anew_6 : decode cX12_anew 6 = .ok (.aload_n 0, 1) := by decide +kernel
theorem dX12_anew_7 : decode cX12_anew 7 = .ok (.getfield 7, 3) := by decide +kernel
theorem dX12_anew_10 : decode cX12_anew 10 = .ok (.bipush 8, 2) := by decide +kernel
theorem dX12_anew_12 : decode cX12_anew 12 = .ok (.iaload, 1) := by decide +kernel
theorem dX12_anew_13 : decode cX12_anew 13 = .ok (.i2l, 1) := by decide +kernel
theorem dX12_anew_14 : decode cX12_anew 14 = .ok (.ldc2_w 315, 3) := by decide +kernel
theorem dX12_anew_17 : decode cX12_anew 17 = .ok (.lmul, 1) := by decide +kernel
theorem dX12_anew_18 : decode cX12_anew 18 = .ok (.ldc2_w 317, 3) := by decide +kernel
theorem dX12_anew_21 : decode cX12_anew 21 = .ok (.ladd, 1) := by decide +kernel
theorem dX12_anew_22 : decode cX12_anew 22 = .ok (.ldc2_w 319, 3) := by decide +kernel
theorem dX12_anew_25 : decode cX12_anew 25 = .ok (.lrem, 1) := by decide +kernel
theorem dX12_anew_26 : decode cX12_anew 26 = .ok (.l2i, 1) := by decide +kernel
theorem dX12_anew_27 : decode cX12_anew 27 = .ok (.iastore, 1) := by decide +kernel
theorem dX12_anew_28 : decode cX12_anew 28 = .ok (.return_, 1) := by decide +kernel
theorem dX12_breakBy_0 : decode cX12_breakBy 0 = .ok (.aload_n 0, 1) := by decide +kernel
theorem dX12_breakBy_1 : decode cX12_breakBy 1 = .ok (.iload_n 1, 1) := by decide +kernel
theorem dX12_breakBy_2 : decode cX12_breakBy 2 = .ok (.iconst 0, 1) := by decide +kernel
theorem dX12_breakBy_3 : decode cX12_breakBy 3 = .ok (.invokevirtual 264, 3) := by decide +kernel
theorem dX12_breakBy_6 : decode cX12_breakBy 6 = .ok (.istore_n 2, 1) := by decide +kernel
theorem dX12_breakBy_7 : decode cX12_breakBy 7 = .ok (.aload_n 0, 1) := by decide +kernel
theorem dX12_breakBy_8 : decode cX12_breakBy 8 = .ok (.getfield 7, 3) := by decide +kernel
theorem dX12_breakBy_11 : decode cX12_breakBy 11 = .ok (.bipush 10, 2) := by decide +kernel
theorem dX12_breakBy_13 : decode cX12_breakBy 13 = .ok (.iaload, 1) := by decide +kernel
theorem dX12_breakBy_14 : decode cX12_breakBy 14 = .ok (.iload_n 2, 1) := by decide +kernel
theorem dX12_breakBy_15 : decode cX12_breakBy 15 = .ok (.invokestatic 239, 3) := by decide +kernel
theorem dX12_breakBy_18 : decode cX12_breakBy 18 = .ok (.ifCond .eq 13, 3) := by decide +kernel
theorem dX12_breakBy_21 : decode cX12_breakBy 21 = .ok (.aload_n 0, 1) := by decide +kernel
theorem dX12_breakBy_22 : decode cX12_breakBy 22 = .ok (.iload_n 1, 1) := by decide +kernel
theorem dX12_breakBy_23 : decode cX12_breakBy 23 = .ok (.iconst 1, 1) := by decide +kernel
theorem dX12_breakBy_24 : decode cX12_breakBy 24 = .ok (.invokevirtual 264, 3) := by decide +kernel
theorem dX12_breakBy_27 : decode cX12_breakBy 27 = .ok (.iconst 1, 1) := by decide +kernel
theorem dX12_breakBy_28 : decode cX12_breakBy 28 = .ok (.if_icmp .ne 4, 3) := by decide +kernel
theorem dX12_breakBy_31 : decode cX12_breakBy 31 = .ok (.return_, 1) := by decide +kernel
theorem dX12_breakBy_32 : decode cX12_breakBy 32 = .ok (.aload_n 0, 1) := by decide +kernel
theorem dX12_breakBy_33 : decode cX12_breakBy 33 = .ok (.iload_n 1, 1) := by decide +kernel
theorem dX12_breakBy_34 : decode cX12_breakBy 34 = .ok (.iload_n 2, 1) := by decide +kernel
theorem dX12_breakBy_35 : decode cX12_breakBy 35 = .ok (.invokevirtual 321, 3) := by decide +kernel
theorem dX12_breakBy_38 : decode cX12_breakBy 38 = .ok (.istore_n 3, 1) := by decide +kernel
theorem dX12_breakBy_39 : decode cX12_breakBy 39 = .ok (.aload_n 0, 1) := by decide +kernel
theorem dX12_breakBy_40 : decode cX12_breakBy 40 = .ok (.bipush 10, 2) := by decide +kernel
theorem dX12_breakBy_42 : decode cX12_breakBy 42 = .ok (.invokevirtual 324, 3) := by decide +kernel
theorem dX12_breakBy_45 : decode cX12_breakBy 45 = .ok (.iload_n 3, 1) := by decide +kernel
theorem dX12_breakBy_46 : decode cX12_breakBy 46 = .ok (.if_icmp .lt 4, 3) := by decide +kernel
theorem dX12_breakBy_49 : decode cX12_breakBy 49 = .ok (.return_, 1) := by decide +kernel
theorem dX12_breakBy_50 : decode cX12_breakBy 50 = .ok (.aload_n 0, 1) := by decide +kernel
theorem dX12_breakBy_51 : decode cX12_breakBy 51 = .ok (.iload_n 1, 1) := by decide +kernel
theorem dX12_breakBy_52 : decode cX12_breakBy 52 = .ok (.iconst 1, 1) := by decide +kernel
theorem dX12_breakBy_53 : decode cX12_breakBy 53 = .ok (.aload_n 0, 1) := by decide +kernel
theorem dX12_breakBy_54 : decode cX12_breakBy 54 = .ok (.iload_n 1, 1) := by decide +kernel
theorem dX12_breakBy_55 : decode cX12_breakBy 55 = .ok (.iconst 1, 1) := by decide +kernel
theorem dX12_breakBy_56 : decode cX12_breakBy 56 = .ok (.invokevirtual 264, 3) := by decide +kernel
theorem dX12_breakBy_59 : decode cX12_breakBy 59 = .ok (.iconst 1, 1) := by decide +kernel
theorem dX12_breakBy_60 : decode cX12_breakBy 60 = .ok (.iadd, 1) := by decide +kernel
theorem dX12_breakBy_61 : decode cX12_breakBy 61 = .ok (.iconst 2, 1) := by decide +kernel
theorem dX12_breakBy_62 : decode cX12_breakBy 62 = .ok (.idiv, 1) := by decide +kernel
theorem dX12_breakBy_63 : decode cX12_breakBy 63 = .ok (.invokevirtual 76, 3) := by decide +kernel
theorem dX12_breakBy_66 : decode cX12_breakBy 66 = .ok (.aload_n 0, 1) := by decide +kernel
theorem dX12_breakBy_67 : decode cX12_breakBy 67 = .ok (.iload_n 1, 1) := by decide +kernel
theorem dX12_breakBy_68 : decode cX12_breakBy 68 = .ok (.iconst 2, 1) := by decide +kernel
theorem dX12_breakBy_69 : decode cX12_breakBy 69 = .ok (.iload_n 2, 1) := by decide +kernel
theorem dX12_breakBy_70 : decode cX12_breakBy 70 = .ok (.invokevirtual 327, 3) := by decide +kernel
theorem dX12_breakBy_73 : decode cX12_breakBy 73 = .ok (.return_, 1) := by decide +kernel
theorem dX12_claimBy_0 : decode cX12_claimBy 0 = .ok (.iconst 0, 1) := by decide +kernel
theorem dX12_claimBy_1 : decode cX12_claimBy 1 = .ok (.istore_n 2, 1) := by decide +kernel
theorem dX12_claimBy_2 : decode cX12_claimBy 2 = .ok (.iload_n 2, 1) := by decide +kernel
theorem dX12_claimBy_3 : decode cX12_claimBy 3 = .ok (.aload_n 0, 1) := by decide +kernel
theorem dX12_claimBy_4 : decode cX12_claimBy 4 = .ok (.getfield 7, 3) := by decide +kernel
theorem dX12_claimBy_7 : decode cX12_claimBy 7 = .ok (.iconst 1, 1) := by decide +kernel
theorem dX12_claimBy_8 : decode cX12_claimBy 8 = .ok (.iaload, 1) := by decide +kernel
theorem dX12_claimBy_9 : decode cX12_claimBy 9 = .ok (.if_icmp .ge 85, 3) := by decide +kernel
theorem dX12_claimBy_12 : decode cX12_claimBy 12 = .ok (.aload_n 0, 1) := by decide +kernel
theorem dX12_claimBy_13 : decode cX12_claimBy 13 = .ok (.getfield 7, 3) := by decide +kernel
theorem dX12_claimBy_16 : decode cX12_claimBy 16 = .ok (.bipush 24, 2) := by decide +kernel
theorem dX12_claimBy_18 : decode cX12_claimBy 18 = .ok (.iload_n 2, 1) := by decide +kernel
theorem dX12_claimBy_19 : decode cX12_claimBy 19 = .ok (.iadd, 1) := by decide +kernel
theorem dX12_claimBy_20 : decode cX12_claimBy 20 = .ok (.iaload, 1) := by decide +kernel
theorem dX12_claimBy_21 : decode cX12_claimBy 21 = .ok (.aload_n 0, 1) := by decide +kernel
theorem dX12_claimBy_22 : decode cX12_claimBy 22 = .ok (.iload_n 1, 1) := by decide +kernel
theorem dX12_claimBy_23 : decode cX12_claimBy 23 = .ok (.iconst 0, 1) := by decide +kernel
theorem dX12_claimBy_24 : decode cX12_claimBy 24 = .ok (.invokevirtual 264, 3) := by decide +kernel
theorem dX12_claimBy_27 : decode cX12_claimBy 27 = .ok (.if_icmp .ne 61, 3) := by decide +kernel
theorem dX12_claimBy_30 : decode cX12_claimBy 30 = .ok (.aload_n 0, 1) := by decide +kernel
theorem dX12_claimBy_31 : decode cX12_claimBy 31 = .ok (.getfield 7, 3) := by decide +kernel
theorem dX12_claimBy_34 : decode cX12_claimBy 34 = .ok (.bipush 42, 2) := by decide +kernel
theorem dX12_claimBy_36 : decode cX12_claimBy 36 = .ok (.iload_n 2, 1) := by decide +kernel
theorem dX12_claimBy_37 : decode cX12_claimBy 37 = .ok (.iadd, 1) := by decide +kernel
theorem dX12_claimBy_38 : decode cX12_claimBy 38 = .ok (.iaload, 1) := by decide +kernel
theorem dX12_claimBy_39 : decode cX12_claimBy 39 = .ok (.aload_n 0, 1) := by decide +kernel
theorem dX12_claimBy_40 : decode cX12_claimBy 40 = .ok (.iload_n 1, 1) := by decide +kernel
theorem dX12_claimBy_41 : decode cX12_claimBy 41 = .ok (.iconst 1, 1) := by decide +kernel
theorem dX12_claimBy_42 : decode cX12_claimBy 42 = .ok (.invokevirtual 264, 3) := by decide +kernel
theorem dX12_claimBy_45 : decode cX12_claimBy 45 = .ok (.if_icmp .lt 43, 3) := by decide +kernel
theorem dX12_claimBy_48 : decode cX12_claimBy 48 = .ok (.aload_n 0, 1) := by decide +kernel
theorem dX12_claimBy_49 : decode cX12_claimBy 49 = .ok (.iload_n 1, 1) := by decide +kernel
theorem dX12_claimBy_50 : decode cX12_claimBy 50 = .ok (.iload_n 2, 1) := by decide +kernel
theorem dX12_claimBy_51 : decode cX12_claimBy 51 = .ok (.invokevirtual 330, 3) := by decide +kernel
theorem dX12_claimBy_54 : decode cX12_claimBy 54 = .ok (.ifCond .gt 6, 3) := by decide +kernel
theorem dX12_claimBy_57 : decode cX12_claimBy 57 = .ok (.goto 31, 3) := by decide +kernel
theorem dX12_claimBy_60 : decode cX12_claimBy 60 = .ok (.aload_n 0, 1) := by decide +kernel
theorem dX12_claimBy_61 : decode cX12_claimBy 61 = .ok (.iload_n 1, 1) := by decide +kernel
theorem dX12_claimBy_62 : decode cX12_claimBy 62 = .ok (.iconst 0, 1) := by decide +kernel
theorem dX12_claimBy_63 : decode cX12_claimBy 63 = .ok (.bipush 20, 2) := by decide +kernel
theorem dX12_claimBy_65 : decode cX12_claimBy 65 = .ok (.iload_n 2, 1) := by decide +kernel
theorem dX12_claimBy_66 : decode cX12_claimBy 66 = .ok (.iadd, 1) := by decide +kernel
theorem dX12_claimBy_67 : decode cX12_claimBy 67 = .ok (.invokevirtual 76, 3) := by decide +kernel
theorem dX12_claimBy_70 : decode cX12_claimBy 70 = .ok (.aload_n 0, 1) := by decide +kernel
theorem dX12_claimBy_71 : decode cX12_claimBy 71 = .ok (.dup, 1) := by decide +kernel
theorem dX12_claimBy_72 : decode cX12_claimBy 72 = .ok (.getfield 333, 3) := by decide +kernel
theorem dX12_claimBy_75 : decode cX12_claimBy 75 = .ok (.iconst 1, 1) := by decide +kernel
theorem dX12_claimBy_76 : decode cX12_claimBy 76 = .ok (.iadd, 1) := by decide +kernel
theorem dX12_claimBy_77 : decode cX12_claimBy 77 = .ok (.putfield 333, 3) := by decide +kernel
theorem dX12_claimBy_80 : decode cX12_claimBy 80 = .ok (.aload_n 0, 1) := by decide +kernel
theorem dX12_claimBy_81 : decode cX12_claimBy 81 = .ok (.iload_n 1, 1) := by decide +kernel
theorem dX12_claimBy_82 : decode cX12_claimBy 82 = .ok (.iconst 0, 1) := by decide +kernel
theorem dX12_claimBy_83 : decode cX12_claimBy 83 = .ok (.iload_n 2, 1) := by decide +kernel
theorem dX12_claimBy_84 : decode cX12_claimBy 84 = .ok (.invokevirtual 327, 3) := by decide +kernel
theorem dX12_claimBy_87 : decode cX12_claimBy 87 = .ok (.return_, 1) := by decide +kernel
theorem dX12_claimBy_88 : decode cX12_claimBy 88 = .ok (.iinc 2 1, 3) := by decide +kernel
theorem dX12_claimBy_91 : decode cX12_claimBy 91 = .ok (.goto (-89), 3) := by decide +kernel
theorem dX12_claimBy_94 : decode cX12_claimBy 94 = .ok (.return_, 1) := by decide +kernel
theorem dX12_goOn_0 : decode cX12_goOn 0 = .ok (.aload_n 0, 1) := by decide +kernel
theorem dX12_goOn_1 : decode cX12_goOn 1 = .ok (.getfield 7, 3) := by decide +kernel
theorem dX12_goOn_4 : decode cX12_goOn 4 = .ok (.bipush 29, 2) := by decide +kernel
theorem dX12_goOn_6 : decode cX12_goOn 6 = .ok (.iaload, 1) := by decide +kernel
theorem dX12_goOn_7 : decode cX12_goOn 7 = .ok (.aload_n 0, 1) := by decide +kernel
theorem dX12_goOn_8 : decode cX12_goOn 8 = .ok (.iload_n 1, 1) := by decide +kernel
theorem dX12_goOn_9 : decode cX12_goOn 9 = .ok (.iconst 0, 1) := by decide +kernel
theorem dX12_goOn_10 : decode cX12_goOn 10 = .ok (.invokevirtual 264, 3) := by decide +kernel
theorem dX12_goOn_13 : decode cX12_goOn 13 = .ok (.invokestatic 239, 3) := by decide +kernel
theorem dX12_goOn_16 : decode cX12_goOn 16 = .ok (.ifCond .eq 15, 3) := by decide +kernel
theorem dX12_goOn_19 : decode cX12_goOn 19 = .ok (.aload_n 0, 1) := by decide +kernel
theorem dX12_goOn_20 : decode cX12_goOn 20 = .ok (.iconst 2, 1) := by decide +kernel
theorem dX12_goOn_21 : decode cX12_goOn 21 = .ok (.invokevirtual 324, 3) := by decide +kernel
theorem dX12_goOn_24 : decode cX12_goOn 24 = .ok (.ifCond .ne 7, 3) := by decide +kernel
theorem dX12_goOn_27 : decode cX12_goOn 27 = .ok (.iconst 1, 1) := by decide +kernel
theorem dX12_goOn_28 : decode cX12_goOn 28 = .ok (.goto 4, 3) := by decide +kernel
theorem dX12_goOn_31 : decode cX12_goOn 31 = .ok (.iconst 0, 1) := by decide +kernel
theorem dX12_goOn_32 : decode cX12_goOn 32 = .ok (.istore_n 2, 1) := by decide +kernel
theorem dX12_goOn_33 : decode cX12_goOn 33 = .ok (.iload_n 2, 1) := by decide +kernel
theorem dX12_goOn_34 : decode cX12_goOn 34 = .ok (.ifCond .ne 65, 3) := by decide +kernel
theorem dX12_goOn_37 : decode cX12_goOn 37 = .ok (.aload_n 0, 1) := by decide +kernel
theorem dX12_goOn_38 : decode cX12_goOn 38 = .ok (.iload_n 1, 1) := by decide +kernel
theorem dX12_goOn_39 : decode cX12_goOn 39 = .ok (.iconst 0, 1) := by decide +kernel
theorem dX12_goOn_40 : decode cX12_goOn 40 = .ok (.invokevirtual 264, 3) := by decide +kernel
theorem dX12_goOn_43 : decode cX12_goOn 43 = .ok (.aload_n 0, 1) := by decide +kernel
theorem dX12_goOn_44 : decode cX12_goOn 44 = .ok (.getfield 7, 3) := by decide +kernel
theorem dX12_goOn_47 : decode cX12_goOn 47 = .ok (.bipush 9, 2) := by decide +kernel
theorem dX12_goOn_49 : decode cX12_goOn 49 = .ok (.iaload, 1) := by decide +kernel
theorem dX12_goOn_50 : decode cX12_goOn 50 = .ok (.iconst 4, 1) := by decide +kernel
theorem dX12_goOn_51 : decode cX12_goOn 51 = .ok (.if_icmp .le 7, 3) := by decide +kernel
theorem dX12_goOn_54 : decode cX12_goOn 54 = .ok (.iconst 2, 1) := by decide +kernel
theorem dX12_goOn_55 : decode cX12_goOn 55 = .ok (.goto 4, 3) := by decide +kernel
theorem dX12_goOn_58 : decode cX12_goOn 58 = .ok (.iconst 1, 1) := by decide +kernel
theorem dX12_goOn_59 : decode cX12_goOn 59 = .ok (.iadd, 1) := by decide +kernel
theorem dX12_goOn_60 : decode cX12_goOn 60 = .ok (.istore_n 3, 1) := by decide +kernel
theorem dX12_goOn_61 : decode cX12_goOn 61 = .ok (.aload_n 0, 1) := by decide +kernel
theorem dX12_goOn_62 : decode cX12_goOn 62 = .ok (.iload_n 1, 1) := by decide +kernel
theorem dX12_goOn_63 : decode cX12_goOn 63 = .ok (.iconst 0, 1) := by decide +kernel
theorem dX12_goOn_64 : decode cX12_goOn 64 = .ok (.iload_n 3, 1) := by decide +kernel
theorem dX12_goOn_65 : decode cX12_goOn 65 = .ok (.bipush 9, 2) := by decide +kernel
theorem dX12_goOn_67 : decode cX12_goOn 67 = .ok (.if_icmp .ge 7, 3) := by decide +kernel
theorem dX12_goOn_70 : decode cX12_goOn 70 = .ok (.iload_n 3, 1) := by decide +kernel
theorem dX12_goOn_71 : decode cX12_goOn 71 = .ok (.goto 5, 3) := by decide +kernel
theorem dX12_goOn_74 : decode cX12_goOn 74 = .ok (.bipush 10, 2) := by decide +kernel
theorem dX12_goOn_76 : decode cX12_goOn 76 = .ok (.invokevirtual 76, 3) := by decide +kernel
theorem dX12_goOn_79 : decode cX12_goOn 79 = .ok (.iload_n 3, 1) := by decide +kernel
theorem dX12_goOn_80 : decode cX12_goOn 80 = .ok (.bipush 9, 2) := by decide +kernel
theorem dX12_goOn_82 : decode cX12_goOn 82 = .ok (.if_icmp .lt 12, 3) := by decide +kernel
theorem dX12_goOn_85 : decode cX12_goOn 85 = .ok (.aload_n 0, 1) := by decide +kernel
theorem dX12_goOn_86 : decode cX12_goOn 86 = .ok (.iload_n 1, 1) := by decide +kernel
theorem dX12_goOn_87 : decode cX12_goOn 87 = .ok (.iconst 1, 1) := by decide +kernel
theorem dX12_goOn_88 : decode cX12_goOn 88 = .ok (.bipush 9, 2) := by decide +kernel
theorem dX12_goOn_90 : decode cX12_goOn 90 = .ok (.invokevirtual 327, 3) := by decide +kernel
theorem dX12_goOn_93 : decode cX12_goOn 93 = .ok (.return_, 1) := by decide +kernel
theorem dX12_goOn_94 : decode cX12_goOn 94 = .ok (.aload_n 0, 1) := by decide +kernel
theorem dX12_goOn_95 : decode cX12_goOn 95 = .ok (.iload_n 1, 1) := by decide +kernel
theorem dX12_goOn_96 : decode cX12_goOn 96 = .ok (.invokevirtual 336, 3) := by decide +kernel
theorem dX12_goOn_99 : decode cX12_goOn 99 = .ok (.aload_n 0, 1) := by decide +kernel
theorem dX12_goOn_100 : decode cX12_goOn 100 = .ok (.iload_n 1, 1) := by decide +kernel
theorem dX12_goOn_101 : decode cX12_goOn 101 = .ok (.invokevirtual 339, 3) := by decide +kernel
theorem dX12_goOn_104 : decode cX12_goOn 104 = .ok (.return_, 1) := by decide +kernel
theorem dX12_pass_0 : decode cX12_pass 0 = .ok (.aload_n 0, 1) := by decide +kernel
theorem dX12_pass_1 : decode cX12_pass 1 = .ok (.getfield 7, 3) := by decide +kernel
theorem dX12_pass_4 : decode cX12_pass 4 = .ok (.bipush 9, 2) := by decide +kernel
theorem dX12_pass_6 : decode cX12_pass 6 = .ok (.aload_n 0, 1) := by decide +kernel
theorem dX12_pass_7 : decode cX12_pass 7 = .ok (.bipush 10, 2) := by decide +kernel
theorem dX12_pass_9 : decode cX12_pass 9 = .ok (.invokevirtual 324, 3) := by decide +kernel
theorem dX12_pass_12 : decode cX12_pass 12 = .ok (.iastore, 1) := by decide +kernel
theorem dX12_pass_13 : decode cX12_pass 13 = .ok (.iconst 0, 1) := by decide +kernel
theorem dX12_pass_14 : decode cX12_pass 14 = .ok (.istore_n 1, 1) := by decide +kernel
theorem dX12_pass_15 : decode cX12_pass 15 = .ok (.iload_n 1, 1) := by decide +kernel
theorem dX12_pass_16 : decode cX12_pass 16 = .ok (.aload_n 0, 1) := by decide +kernel
theorem dX12_pass_17 : decode cX12_pass 17 = .ok (.getfield 7, 3) := by decide +kernel
theorem dX12_pass_20 : decode cX12_pass 20 = .ok (.iconst 0, 1) := by decide +kernel
theorem dX12_pass_21 : decode cX12_pass 21 = .ok (.iaload, 1) := by decide +kernel
theorem dX12_pass_22 : decode cX12_pass 22 = .ok (.if_icmp .ge 58, 3) := by decide +kernel
theorem dX12_pass_25 : decode cX12_pass 25 = .ok (.aload_n 0, 1) := by decide +kernel
theorem dX12_pass_26 : decode cX12_pass 26 = .ok (.iload_n 1, 1) := by decide +kernel
theorem dX12_pass_27 : decode cX12_pass 27 = .ok (.invokevirtual 269, 3) := by decide +kernel
theorem dX12_pass_30 : decode cX12_pass 30 = .ok (.ifCond .eq 27, 3) := by decide +kernel
theorem dX12_pass_33 : decode cX12_pass 33 = .ok (.aload_n 0, 1) := by decide +kernel
theorem dX12_pass_34 : decode cX12_pass 34 = .ok (.aload_n 0, 1) := by decide +kernel
theorem dX12_pass_35 : decode cX12_pass 35 = .ok (.getfield 7, 3) := by decide +kernel
theorem dX12_pass_38 : decode cX12_pass 38 = .ok (.iconst 3, 1) := by decide +kernel
theorem dX12_pass_39 : decode cX12_pass 39 = .ok (.iaload, 1) := by decide +kernel
theorem dX12_pass_40 : decode cX12_pass 40 = .ok (.iload_n 1, 1) := by decide +kernel
theorem dX12_pass_41 : decode cX12_pass 41 = .ok (.invokevirtual 342, 3) := by decide +kernel
theorem dX12_pass_44 : decode cX12_pass 44 = .ok (.ifCond .le 30, 3) := by decide +kernel
theorem dX12_pass_47 : decode cX12_pass 47 = .ok (.aload_n 0, 1) := by decide +kernel
theorem dX12_pass_48 : decode cX12_pass 48 = .ok (.iload_n 1, 1) := by decide +kernel
theorem dX12_pass_49 : decode cX12_pass 49 = .ok (.iconst 0, 1) := by decide +kernel
theorem dX12_pass_50 : decode cX12_pass 50 = .ok (.iconst 0, 1) := by decide +kernel
theorem dX12_pass_51 : decode cX12_pass 51 = .ok (.invokevirtual 76, 3) := by decide +kernel
theorem dX12_pass_54 : decode cX12_pass 54 = .ok (.goto 20, 3) := by decide +kernel
theorem dX12_pass_57 : decode cX12_pass 57 = .ok (.aload_n 0, 1) := by decide +kernel
theorem dX12_pass_58 : decode cX12_pass 58 = .ok (.iload_n 1, 1) := by decide +kernel
theorem dX12_pass_59 : decode cX12_pass 59 = .ok (.iconst 0, 1) := by decide +kernel
theorem dX12_pass_60 : decode cX12_pass 60 = .ok (.invokevirtual 264, 3) := by decide +kernel
theorem dX12_pass_63 : decode cX12_pass 63 = .ok (.invokestatic 84, 3) := by decide +kernel
theorem dX12_pass_66 : decode cX12_pass 66 = .ok (.ifCond .eq 8, 3) := by decide +kernel
theorem dX12_pass_69 : decode cX12_pass 69 = .ok (.aload_n 0, 1) := by decide +kernel
theorem dX12_pass_70 : decode cX12_pass 70 = .ok (.iload_n 1, 1) := by decide +kernel
theorem dX12_pass_71 : decode cX12_pass 71 = .ok (.invokevirtual 345, 3) := by decide +kernel
theorem dX12_pass_74 : decode cX12_pass 74 = .ok (.iinc 1 1, 3) := by decide +kernel
theorem dX12_pass_77 : decode cX12_pass 77 = .ok (.goto (-62), 3) := by decide +kernel
theorem dX12_pass_80 : decode cX12_pass 80 = .ok (.aload_n 0, 1) := by decide +kernel
theorem dX12_pass_81 : decode cX12_pass 81 = .ok (.getfield 7, 3) := by decide +kernel
theorem dX12_pass_84 : decode cX12_pass 84 = .ok (.bipush 7, 2) := by decide +kernel
theorem dX12_pass_86 : decode cX12_pass 86 = .ok (.dup2, 1) := by decide +kernel
theorem dX12_pass_87 : decode cX12_pass 87 = .ok (.iaload, 1) := by decide +kernel
theorem dX12_pass_88 : decode cX12_pass 88 = .ok (.iconst 1, 1) := by decide +kernel
theorem dX12_pass_89 : decode cX12_pass 89 = .ok (.iadd, 1) := by decide +kernel
theorem dX12_pass_90 : decode cX12_pass 90 = .ok (.iastore, 1) := by decide +kernel
theorem dX12_pass_91 : decode cX12_pass 91 = .ok (.return_, 1) := by decide +kernel
theorem dX12_keep_0 : decode cX12_keep 0 = .ok (.aload_n 0, 1) := by decide +kernel
theorem dX12_keep_1 : decode cX12_keep 1 = .ok (.getfield 7, 3) := by decide +kernel
theorem dX12_keep_4 : decode cX12_keep 4 = .ok (.iconst 4, 1) := by decide +kernel
theorem dX12_keep_5 : decode cX12_keep 5 = .ok (.iaload, 1) := by decide +kernel
theorem dX12_keep_6 : decode cX12_keep 6 = .ok (.bipush 30, 2) := by decide +kernel
theorem dX12_keep_8 : decode cX12_keep 8 = .ok (.if_icmp .ne 48, 3) := by decide +kernel
theorem dX12_keep_11 : decode cX12_keep 11 = .ok (.iconst 0, 1) := by decide +kernel
theorem dX12_keep_12 : decode cX12_keep 12 = .ok (.istore_n 1, 1) := by decide +kernel
theorem dX12_keep_13 : decode cX12_keep 13 = .ok (.iload_n 1, 1) := by decide +kernel
theorem dX12_keep_14 : decode cX12_keep 14 = .ok (.sipush 1566, 3) := by decide +kernel
theorem dX12_keep_17 : decode cX12_keep 17 = .ok (.if_icmp .ge 29, 3) := by decide +kernel
theorem dX12_keep_20 : decode cX12_keep 20 = .ok (.aload_n 0, 1) := by decide +kernel
theorem dX12_keep_21 : decode cX12_keep 21 = .ok (.getfield 7, 3) := by decide +kernel
theorem dX12_keep_24 : decode cX12_keep 24 = .ok (.sipush 142, 3) := by decide +kernel
theorem dX12_keep_27 : decode cX12_keep 27 = .ok (.iload_n 1, 1) := by decide +kernel
theorem dX12_keep_28 : decode cX12_keep 28 = .ok (.iadd, 1) := by decide +kernel
theorem dX12_keep_29 : decode cX12_keep 29 = .ok (.aload_n 0, 1) := by decide +kernel
theorem dX12_keep_30 : decode cX12_keep 30 = .ok (.getfield 7, 3) := by decide +kernel
theorem dX12_keep_33 : decode cX12_keep 33 = .ok (.sipush 196, 3) := by decide +kernel
theorem dX12_keep_36 : decode cX12_keep 36 = .ok (.iload_n 1, 1) := by decide +kernel
theorem dX12_keep_37 : decode cX12_keep 37 = .ok (.iadd, 1) := by decide +kernel
theorem dX12_keep_38 : decode cX12_keep 38 = .ok (.iaload, 1) := by decide +kernel
theorem dX12_keep_39 : decode cX12_keep 39 = .ok (.iastore, 1) := by decide +kernel
theorem dX12_keep_40 : decode cX12_keep 40 = .ok (.iinc 1 1, 3) := by decide +kernel
theorem dX12_keep_43 : decode cX12_keep 43 = .ok (.goto (-30), 3) := by decide +kernel
theorem dX12_keep_46 : decode cX12_keep 46 = .ok (.aload_n 0, 1) := by decide +kernel
theorem dX12_keep_47 : decode cX12_keep 47 = .ok (.getfield 7, 3) := by decide +kernel
theorem dX12_keep_50 : decode cX12_keep 50 = .ok (.iconst 4, 1) := by decide +kernel
theorem dX12_keep_51 : decode cX12_keep 51 = .ok (.dup2, 1) := by decide +kernel
theorem dX12_keep_52 : decode cX12_keep 52 = .ok (.iaload, 1) := by decide +kernel
theorem dX12_keep_53 : decode cX12_keep 53 = .ok (.iconst 1, 1) := by decide +kernel
theorem dX12_keep_54 : decode cX12_keep 54 = .ok (.isub, 1) := by decide +kernel
theorem dX12_keep_55 : decode cX12_keep 55 = .ok (.iastore, 1) := by decide +kernel
theorem dX12_keep_56 : decode cX12_keep 56 = .ok (.sipush 142, 3) := by decide +kernel
theorem dX12_keep_59 : decode cX12_keep 59 = .ok (.bipush 54, 2) := by decide +kernel
theorem dX12_keep_61 : decode cX12_keep 61 = .ok (.aload_n 0, 1) := by decide +kernel
theorem dX12_keep_62 : decode cX12_keep 62 = .ok (.getfield 7, 3) := by decide +kernel
theorem dX12_keep_65 : decode cX12_keep 65 = .ok (.iconst 4, 1) := by decide +kernel
theorem dX12_keep_66 : decode cX12_keep 66 = .ok (.iaload, 1) := by decide +kernel
theorem dX12_keep_67 : decode cX12_keep 67 = .ok (.imul, 1) := by decide +kernel
theorem dX12_keep_68 : decode cX12_keep 68 = .ok (.iadd, 1) := by decide +kernel
theorem dX12_keep_69 : decode cX12_keep 69 = .ok (.istore_n 1, 1) := by decide +kernel
theorem dX12_keep_70 : decode cX12_keep 70 = .ok (.aload_n 0, 1) := by decide +kernel
theorem dX12_keep_71 : decode cX12_keep 71 = .ok (.getfield 7, 3) := by decide +kernel
theorem dX12_keep_74 : decode cX12_keep 74 = .ok (.iload_n 1, 1) := by decide +kernel
theorem dX12_keep_75 : decode cX12_keep 75 = .ok (.aload_n 0, 1) := by decide +kernel
theorem dX12_keep_76 : decode cX12_keep 76 = .ok (.getfield 7, 3) := by decide +kernel
theorem dX12_keep_79 : decode cX12_keep 79 = .ok (.iconst 0, 1) := by decide +kernel
theorem dX12_keep_80 : decode cX12_keep 80 = .ok (.iaload, 1) := by decide +kernel
theorem dX12_keep_81 : decode cX12_keep 81 = .ok (.iastore, 1) := by decide +kernel
theorem dX12_keep_82 : decode cX12_keep 82 = .ok (.aload_n 0, 1) := by decide +kernel
theorem dX12_keep_83 : decode cX12_keep 83 = .ok (.getfield 7, 3) := by decide +kernel
theorem dX12_keep_86 : decode cX12_keep 86 = .ok (.iload_n 1, 1) := by decide +kernel
theorem dX12_keep_87 : decode cX12_keep 87 = .ok (.iconst 1, 1) := by decide +kernel
theorem dX12_keep_88 : decode cX12_keep 88 = .ok (.iadd, 1) := by decide +kernel
theorem dX12_keep_89 : decode cX12_keep 89 = .ok (.aload_n 0, 1) := by decide +kernel
theorem dX12_keep_90 : decode cX12_keep 90 = .ok (.getfield 7, 3) := by decide +kernel
theorem dX12_keep_93 : decode cX12_keep 93 = .ok (.iconst 1, 1) := by decide +kernel
theorem dX12_keep_94 : decode cX12_keep 94 = .ok (.iaload, 1) := by decide +kernel
theorem dX12_keep_95 : decode cX12_keep 95 = .ok (.iastore, 1) := by decide +kernel
theorem dX12_keep_96 : decode cX12_keep 96 = .ok (.iconst 0, 1) := by decide +kernel
theorem dX12_keep_97 : decode cX12_keep 97 = .ok (.istore_n 2, 1) := by decide +kernel
theorem dX12_keep_98 : decode cX12_keep 98 = .ok (.iload_n 2, 1) := by decide +kernel
theorem dX12_keep_99 : decode cX12_keep 99 = .ok (.bipush 22, 2) := by decide +kernel
theorem dX12_keep_101 : decode cX12_keep 101 = .ok (.if_icmp .ge 28, 3) := by decide +kernel
theorem dX12_keep_104 : decode cX12_keep 104 = .ok (.aload_n 0, 1) := by decide +kernel
theorem dX12_keep_105 : decode cX12_keep 105 = .ok (.getfield 7, 3) := by decide +kernel
theorem dX12_keep_108 : decode cX12_keep 108 = .ok (.iload_n 1, 1) := by decide +kernel
theorem dX12_keep_109 : decode cX12_keep 109 = .ok (.iconst 2, 1) := by decide +kernel
theorem dX12_keep_110 : decode cX12_keep 110 = .ok (.iadd, 1) := by decide +kernel
theorem dX12_keep_111 : decode cX12_keep 111 = .ok (.iload_n 2, 1) := by decide +kernel
theorem dX12_keep_112 : decode cX12_keep 112 = .ok (.iadd, 1) := by decide +kernel
theorem dX12_keep_113 : decode cX12_keep 113 = .ok (.aload_n 0, 1) := by decide +kernel
theorem dX12_keep_114 : decode cX12_keep 114 = .ok (.getfield 7, 3) := by decide +kernel
theorem dX12_keep_117 : decode cX12_keep 117 = .ok (.bipush 7, 2) := by decide +kernel
theorem dX12_keep_119 : decode cX12_keep 119 = .ok (.iload_n 2, 1) := by decide +kernel
theorem dX12_keep_120 : decode cX12_keep 120 = .ok (.iadd, 1) := by decide +kernel
theorem dX12_keep_121 : decode cX12_keep 121 = .ok (.iaload, 1) := by decide +kernel
theorem dX12_keep_122 : decode cX12_keep 122 = .ok (.iastore, 1) := by decide +kernel
theorem dX12_keep_123 : decode cX12_keep 123 = .ok (.iinc 2 1, 3) := by decide +kernel
theorem dX12_keep_126 : decode cX12_keep 126 = .ok (.goto (-28), 3) := by decide +kernel
theorem dX12_keep_129 : decode cX12_keep 129 = .ok (.iconst 0, 1) := by decide +kernel
theorem dX12_keep_130 : decode cX12_keep 130 = .ok (.istore_n 2, 1) := by decide +kernel
theorem dX12_keep_131 : decode cX12_keep 131 = .ok (.iload_n 2, 1) := by decide +kernel
theorem dX12_keep_132 : decode cX12_keep 132 = .ok (.bipush 30, 2) := by decide +kernel
theorem dX12_keep_134 : decode cX12_keep 134 = .ok (.if_icmp .ge 30, 3) := by decide +kernel
theorem dX12_keep_137 : decode cX12_keep 137 = .ok (.aload_n 0, 1) := by decide +kernel
theorem dX12_keep_138 : decode cX12_keep 138 = .ok (.getfield 7, 3) := by decide +kernel
theorem dX12_keep_141 : decode cX12_keep 141 = .ok (.iload_n 1, 1) := by decide +kernel
theorem dX12_keep_142 : decode cX12_keep 142 = .ok (.bipush 24, 2) := by decide +kernel
theorem dX12_keep_144 : decode cX12_keep 144 = .ok (.iadd, 1) := by decide +kernel
theorem dX12_keep_145 : decode cX12_keep 145 = .ok (.iload_n 2, 1) := by decide +kernel
theorem dX12_keep_146 : decode cX12_keep 146 = .ok (.iadd, 1) := by decide +kernel
theorem dX12_keep_147 : decode cX12_keep 147 = .ok (.aload_n 0, 1) := by decide +kernel
theorem dX12_keep_148 : decode cX12_keep 148 = .ok (.getfield 7, 3) := by decide +kernel
theorem dX12_keep_151 : decode cX12_keep 151 = .ok (.sipush 1762, 3) := by decide +kernel
theorem dX12_keep_154 : decode cX12_keep 154 = .ok (.iload_n 2, 1) := by decide +kernel
theorem dX12_keep_155 : decode cX12_keep 155 = .ok (.iadd, 1) := by decide +kernel
theorem dX12_keep_156 : decode cX12_keep 156 = .ok (.iaload, 1) := by decide +kernel
theorem dX12_keep_157 : decode cX12_keep 157 = .ok (.iastore, 1) := by decide +kernel
theorem dX12_keep_158 : decode cX12_keep 158 = .ok (.iinc 2 1, 3) := by decide +kernel
theorem dX12_keep_161 : decode cX12_keep 161 = .ok (.goto (-30), 3) := by decide +kernel
theorem dX12_keep_164 : decode cX12_keep 164 = .ok (.aload_n 0, 1) := by decide +kernel
theorem dX12_keep_165 : decode cX12_keep 165 = .ok (.getfield 7, 3) := by decide +kernel
theorem dX12_keep_168 : decode cX12_keep 168 = .ok (.iconst 4, 1) := by decide +kernel
theorem dX12_keep_169 : decode cX12_keep 169 = .ok (.dup2, 1) := by decide +kernel
theorem dX12_keep_170 : decode cX12_keep 170 = .ok (.iaload, 1) := by decide +kernel
theorem dX12_keep_171 : decode cX12_keep 171 = .ok (.iconst 1, 1) := by decide +kernel
theorem dX12_keep_172 : decode cX12_keep 172 = .ok (.iadd, 1) := by decide +kernel
theorem dX12_keep_173 : decode cX12_keep 173 = .ok (.iastore, 1) := by decide +kernel
theorem dX12_keep_174 : decode cX12_keep 174 = .ok (.return_, 1) := by decide +kernel
theorem dX12_undo_0 : decode cX12_undo 0 = .ok (.aload_n 0, 1) := by decide +kernel
theorem dX12_undo_1 : decode cX12_undo 1 = .ok (.getfield 7, 3) := by decide +kernel
theorem dX12_undo_4 : decode cX12_undo 4 = .ok (.iconst 4, 1) := by decide +kernel
theorem dX12_undo_5 : decode cX12_undo 5 = .ok (.iaload, 1) := by decide +kernel
theorem dX12_undo_6 : decode cX12_undo 6 = .ok (.ifCond .ne 5, 3) := by decide +kernel
theorem dX12_undo_9 : decode cX12_undo 9 = .ok (.iconst (-1), 1) := by decide +kernel
theorem dX12_undo_10 : decode cX12_undo 10 = .ok (.ireturn, 1) := by decide +kernel
theorem dX12_undo_11 : decode cX12_undo 11 = .ok (.aload_n 0, 1) := by decide +kernel
theorem dX12_undo_12 : decode cX12_undo 12 = .ok (.getfield 7, 3) := by decide +kernel
theorem dX12_undo_15 : decode cX12_undo 15 = .ok (.iconst 4, 1) := by decide +kernel
theorem dX12_undo_16 : decode cX12_undo 16 = .ok (.dup2, 1) := by decide +kernel
theorem dX12_undo_17 : decode cX12_undo 17 = .ok (.iaload, 1) := by decide +kernel
theorem dX12_undo_18 : decode cX12_undo 18 = .ok (.iconst 1, 1) := by decide +kernel
theorem dX12_undo_19 : decode cX12_undo 19 = .ok (.isub, 1) := by decide +kernel
theorem dX12_undo_20 : decode cX12_undo 20 = .ok (.iastore, 1) := by decide +kernel
theorem dX12_undo_21 : decode cX12_undo 21 = .ok (.sipush 142, 3) := by decide +kernel
theorem dX12_undo_24 : decode cX12_undo 24 = .ok (.bipush 54, 2) := by decide +kernel
theorem dX12_undo_26 : decode cX12_undo 26 = .ok (.aload_n 0, 1) := by decide +kernel
theorem dX12_undo_27 : decode cX12_undo 27 = .ok (.getfield 7, 3) := by decide +kernel
theorem dX12_undo_30 : decode cX12_undo 30 = .ok (.iconst 4, 1) := by decide +kernel
theorem dX12_undo_31 : decode cX12_undo 31 = .ok (.iaload, 1) := by decide +kernel
theorem dX12_undo_32 : decode cX12_undo 32 = .ok (.imul, 1) := by decide +kernel
theorem dX12_undo_33 : decode cX12_undo 33 = .ok (.iadd, 1) := by decide +kernel
theorem dX12_undo_34 : decode cX12_undo 34 = .ok (.istore_n 1, 1) := by decide +kernel
theorem dX12_undo_35 : decode cX12_undo 35 = .ok (.iconst 0, 1) := by decide +kernel
theorem dX12_undo_36 : decode cX12_undo 36 = .ok (.istore_n 2, 1) := by decide +kernel
theorem dX12_undo_37 : decode cX12_undo 37 = .ok (.iload_n 2, 1) := by decide +kernel
theorem dX12_undo_38 : decode cX12_undo 38 = .ok (.bipush 22, 2) := by decide +kernel
theorem dX12_undo_40 : decode cX12_undo 40 = .ok (.if_icmp .ge 28, 3) := by decide +kernel
theorem dX12_undo_43 : decode cX12_undo 43 = .ok (.aload_n 0, 1) := by decide +kernel
theorem dX12_undo_44 : decode cX12_undo 44 = .ok (.getfield 7, 3) := by decide +kernel
theorem dX12_undo_47 : decode cX12_undo 47 = .ok (.bipush 7, 2) := by decide +kernel
theorem dX12_undo_49 : decode cX12_undo 49 = .ok (.iload_n 2, 1) := by decide +kernel
theorem dX12_undo_50 : decode cX12_undo 50 = .ok (.iadd, 1) := by decide +kernel
theorem dX12_undo_51 : decode cX12_undo 51 = .ok (.aload_n 0, 1) := by decide +kernel
theorem dX12_undo_52 : decode cX12_undo 52 = .ok (.getfield 7, 3) := by decide +kernel
theorem dX12_undo_55 : decode cX12_undo 55 = .ok (.iload_n 1, 1) := by decide +kernel
theorem dX12_undo_56 : decode cX12_undo 56 = .ok (.iconst 2, 1) := by decide +kernel
theorem dX12_undo_57 : decode cX12_undo 57 = .ok (.iadd, 1) := by decide +kernel
theorem dX12_undo_58 : decode cX12_undo 58 = .ok (.iload_n 2, 1) := by decide +kernel
theorem dX12_undo_59 : decode cX12_undo 59 = .ok (.iadd, 1) := by decide +kernel
theorem dX12_undo_60 : decode cX12_undo 60 = .ok (.iaload, 1) := by decide +kernel
theorem dX12_undo_61 : decode cX12_undo 61 = .ok (.iastore, 1) := by decide +kernel
theorem dX12_undo_62 : decode cX12_undo 62 = .ok (.iinc 2 1, 3) := by decide +kernel
theorem dX12_undo_65 : decode cX12_undo 65 = .ok (.goto (-28), 3) := by decide +kernel
theorem dX12_undo_68 : decode cX12_undo 68 = .ok (.aload_n 0, 1) := by decide +kernel
theorem dX12_undo_69 : decode cX12_undo 69 = .ok (.getfield 7, 3) := by decide +kernel
theorem dX12_undo_72 : decode cX12_undo 72 = .ok (.iload_n 1, 1) := by decide +kernel
theorem dX12_undo_73 : decode cX12_undo 73 = .ok (.iaload, 1) := by decide +kernel
theorem dX12_undo_74 : decode cX12_undo 74 = .ok (.istore_n 2, 1) := by decide +kernel
theorem dX12_undo_75 : decode cX12_undo 75 = .ok (.iload_n 2, 1) := by decide +kernel
theorem dX12_undo_76 : decode cX12_undo 76 = .ok (.aload_n 0, 1) := by decide +kernel
theorem dX12_undo_77 : decode cX12_undo 77 = .ok (.getfield 7, 3) := by decide +kernel
theorem dX12_undo_80 : decode cX12_undo 80 = .ok (.iconst 0, 1) := by decide +kernel
theorem dX12_undo_81 : decode cX12_undo 81 = .ok (.iaload, 1) := by decide +kernel
theorem dX12_undo_82 : decode cX12_undo 82 = .ok (.if_icmp .ge 14, 3) := by decide +kernel
theorem dX12_undo_85 : decode cX12_undo 85 = .ok (.aload_n 0, 1) := by decide +kernel
theorem dX12_undo_86 : decode cX12_undo 86 = .ok (.iload_n 2, 1) := by decide +kernel
theorem dX12_undo_87 : decode cX12_undo 87 = .ok (.invokevirtual 72, 3) := by decide +kernel
theorem dX12_undo_90 : decode cX12_undo 90 = .ok (.iinc 2 1, 3) := by decide +kernel
theorem dX12_undo_93 : decode cX12_undo 93 = .ok (.goto (-18), 3) := by decide +kernel
theorem dX12_undo_96 : decode cX12_undo 96 = .ok (.aload_n 0, 1) := by decide +kernel
theorem dX12_undo_97 : decode cX12_undo 97 = .ok (.getfield 7, 3) := by decide +kernel
theorem dX12_undo_100 : decode cX12_undo 100 = .ok (.iload_n 1, 1) := by decide +kernel
theorem dX12_undo_101 : decode cX12_undo 101 = .ok (.iconst 1, 1) := by decide +kernel
theorem dX12_undo_102 : decode cX12_undo 102 = .ok (.iadd, 1) := by decide +kernel
theorem dX12_undo_103 : decode cX12_undo 103 = .ok (.iaload, 1) := by decide +kernel
theorem dX12_undo_104 : decode cX12_undo 104 = .ok (.istore_n 2, 1) := by decide +kernel
theorem dX12_undo_105 : decode cX12_undo 105 = .ok (.iload_n 2, 1) := by decide +kernel
theorem dX12_undo_106 : decode cX12_undo 106 = .ok (.aload_n 0, 1) := by decide +kernel
theorem dX12_undo_107 : decode cX12_undo 107 = .ok (.getfield 7, 3) := by decide +kernel
theorem dX12_undo_110 : decode cX12_undo 110 = .ok (.iconst 1, 1) := by decide +kernel
theorem dX12_undo_111 : decode cX12_undo 111 = .ok (.iaload, 1) := by decide +kernel
theorem dX12_undo_112 : decode cX12_undo 112 = .ok (.if_icmp .ge 27, 3) := by decide +kernel
theorem dX12_undo_115 : decode cX12_undo 115 = .ok (.aload_n 0, 1) := by decide +kernel
theorem dX12_undo_116 : decode cX12_undo 116 = .ok (.getfield 7, 3) := by decide +kernel
theorem dX12_undo_119 : decode cX12_undo 119 = .ok (.bipush 24, 2) := by decide +kernel
theorem dX12_undo_121 : decode cX12_undo 121 = .ok (.iload_n 2, 1) := by decide +kernel
theorem dX12_undo_122 : decode cX12_undo 122 = .ok (.iadd, 1) := by decide +kernel
theorem dX12_undo_123 : decode cX12_undo 123 = .ok (.aload_n 0, 1) := by decide +kernel
theorem dX12_undo_124 : decode cX12_undo 124 = .ok (.getfield 7, 3) := by decide +kernel
theorem dX12_undo_127 : decode cX12_undo 127 = .ok (.bipush 47, 2) := by decide +kernel
theorem dX12_undo_129 : decode cX12_undo 129 = .ok (.iload_n 2, 1) := by decide +kernel
theorem dX12_undo_130 : decode cX12_undo 130 = .ok (.iadd, 1) := by decide +kernel
theorem dX12_undo_131 : decode cX12_undo 131 = .ok (.iaload, 1) := by decide +kernel
theorem dX12_undo_132 : decode cX12_undo 132 = .ok (.iastore, 1) := by decide +kernel
theorem dX12_undo_133 : decode cX12_undo 133 = .ok (.iinc 2 1, 3) := by decide +kernel
theorem dX12_undo_136 : decode cX12_undo 136 = .ok (.goto (-31), 3) := by decide +kernel
theorem dX12_undo_139 : decode cX12_undo 139 = .ok (.iconst 0, 1) := by decide +kernel
theorem dX12_undo_140 : decode cX12_undo 140 = .ok (.istore_n 2, 1) := by decide +kernel
theorem dX12_undo_141 : decode cX12_undo 141 = .ok (.iload_n 2, 1) := by decide +kernel
theorem dX12_undo_142 : decode cX12_undo 142 = .ok (.bipush 30, 2) := by decide +kernel
theorem dX12_undo_144 : decode cX12_undo 144 = .ok (.if_icmp .ge 30, 3) := by decide +kernel
theorem dX12_undo_147 : decode cX12_undo 147 = .ok (.aload_n 0, 1) := by decide +kernel
theorem dX12_undo_148 : decode cX12_undo 148 = .ok (.getfield 7, 3) := by decide +kernel
theorem dX12_undo_151 : decode cX12_undo 151 = .ok (.sipush 1762, 3) := by decide +kernel
theorem dX12_undo_154 : decode cX12_undo 154 = .ok (.iload_n 2, 1) := by decide +kernel
theorem dX12_undo_155 : decode cX12_undo 155 = .ok (.iadd, 1) := by decide +kernel
theorem dX12_undo_156 : decode cX12_undo 156 = .ok (.aload_n 0, 1) := by decide +kernel
theorem dX12_undo_157 : decode cX12_undo 157 = .ok (.getfield 7, 3) := by decide +kernel
theorem dX12_undo_160 : decode cX12_undo 160 = .ok (.iload_n 1, 1) := by decide +kernel
theorem dX12_undo_161 : decode cX12_undo 161 = .ok (.bipush 24, 2) := by decide +kernel
theorem dX12_undo_163 : decode cX12_undo 163 = .ok (.iadd, 1) := by decide +kernel
theorem dX12_undo_164 : decode cX12_undo 164 = .ok (.iload_n 2, 1) := by decide +kernel
theorem dX12_undo_165 : decode cX12_undo 165 = .ok (.iadd, 1) := by decide +kernel
theorem dX12_undo_166 : decode cX12_undo 166 = .ok (.iaload, 1) := by decide +kernel
theorem dX12_undo_167 : decode cX12_undo 167 = .ok (.iastore, 1) := by decide +kernel
theorem dX12_undo_168 : decode cX12_undo 168 = .ok (.iinc 2 1, 3) := by decide +kernel
theorem dX12_undo_171 : decode cX12_undo 171 = .ok (.goto (-30), 3) := by decide +kernel
theorem dX12_undo_174 : decode cX12_undo 174 = .ok (.aload_n 0, 1) := by decide +kernel
theorem dX12_undo_175 : decode cX12_undo 175 = .ok (.getfield 7, 3) := by decide +kernel
theorem dX12_undo_178 : decode cX12_undo 178 = .ok (.iconst 4, 1) := by decide +kernel
theorem dX12_undo_179 : decode cX12_undo 179 = .ok (.iaload, 1) := by decide +kernel
theorem dX12_undo_180 : decode cX12_undo 180 = .ok (.ireturn, 1) := by decide +kernel
theorem dX12_call_0 : decode cX12_call 0 = .ok (.aload_n 0, 1) := by decide +kernel
theorem dX12_call_1 : decode cX12_call 1 = .ok (.iload_n 1, 1) := by decide +kernel
theorem dX12_call_2 : decode cX12_call 2 = .ok (.invokevirtual 269, 3) := by decide +kernel
theorem dX12_call_5 : decode cX12_call 5 = .ok (.ifCond .ne 5, 3) := by decide +kernel
theorem dX12_call_8 : decode cX12_call 8 = .ok (.iconst 0, 1) := by decide +kernel
theorem dX12_call_9 : decode cX12_call 9 = .ok (.ireturn, 1) := by decide +kernel
theorem dX12_call_10 : decode cX12_call 10 = .ok (.aload_n 0, 1) := by decide +kernel
theorem dX12_call_11 : decode cX12_call 11 = .ok (.invokevirtual 348, 3) := by decide +kernel
theorem dX12_call_14 : decode cX12_call 14 = .ok (.aload_n 0, 1) := by decide +kernel
theorem dX12_call_15 : decode cX12_call 15 = .ok (.iload_n 1, 1) := by decide +kernel
theorem dX12_call_16 : decode cX12_call 16 = .ok (.iconst 0, 1) := by decide +kernel
theorem dX12_call_17 : decode cX12_call 17 = .ok (.iconst 0, 1) := by decide +kernel
theorem dX12_call_18 : decode cX12_call 18 = .ok (.invokevirtual 76, 3) := by decide +kernel
theorem dX12_call_21 : decode cX12_call 21 = .ok (.iconst 1, 1) := by decide +kernel
theorem dX12_call_22 : decode cX12_call 22 = .ok (.ireturn, 1) := by decide +kernel
theorem dX12_stone_0 : decode cX12_stone 0 = .ok (.iload_n 1, 1) := by decide +kernel
theorem dX12_stone_1 : decode cX12_stone 1 = .ok (.invokestatic 84, 3) := by decide +kernel
theorem dX12_stone_4 : decode cX12_stone 4 = .ok (.ifCond .eq 18, 3) := by decide +kernel
theorem dX12_stone_7 : decode cX12_stone 7 = .ok (.aload_n 0, 1) := by decide +kernel
theorem dX12_stone_8 : decode cX12_stone 8 = .ok (.getfield 7, 3) := by decide +kernel
theorem dX12_stone_11 : decode cX12_stone 11 = .ok (.bipush 10, 2) := by decide +kernel
theorem dX12_stone_13 : decode cX12_stone 13 = .ok (.iaload, 1) := by decide +kernel
theorem dX12_stone_14 : decode cX12_stone 14 = .ok (.iload_n 1, 1) := by decide +kernel
theorem dX12_stone_15 : decode cX12_stone 15 = .ok (.invokestatic 239, 3) := by decide +kernel
theorem dX12_stone_18 : decode cX12_stone 18 = .ok (.iload_n 2, 1) := by decide +kernel
theorem dX12_stone_19 : decode cX12_stone 19 = .ok (.if_icmp .ne 5, 3) := by decide +kernel
theorem dX12_stone_22 : decode cX12_stone 22 = .ok (.iconst 0, 1) := by decide +kernel
theorem dX12_stone_23 : decode cX12_stone 23 = .ok (.ireturn, 1) := by decide +kernel
theorem dX12_stone_24 : decode cX12_stone 24 = .ok (.aload_n 0, 1) := by decide +kernel
theorem dX12_stone_25 : decode cX12_stone 25 = .ok (.invokevirtual 348, 3) := by decide +kernel
theorem dX12_stone_28 : decode cX12_stone 28 = .ok (.aload_n 0, 1) := by decide +kernel
theorem dX12_stone_29 : decode cX12_stone 29 = .ok (.getfield 7, 3) := by decide +kernel
theorem dX12_stone_32 : decode cX12_stone 32 = .ok (.bipush 10, 2) := by decide +kernel
theorem dX12_stone_34 : decode cX12_stone 34 = .ok (.dup2, 1) := by decide +kernel
theorem dX12_stone_35 : decode cX12_stone 35 = .ok (.iaload, 1) := by decide +kernel
theorem dX12_stone_36 : decode cX12_stone 36 = .ok (.iconst 1, 1) := by decide +kernel
theorem dX12_stone_37 : decode cX12_stone 37 = .ok (.iload_n 1, 1) := by decide +kernel
theorem dX12_stone_38 : decode cX12_stone 38 = .ok (.ishl, 1) := by decide +kernel
theorem dX12_stone_39 : decode cX12_stone 39 = .ok (.ixor, 1) := by decide +kernel
theorem dX12_stone_40 : decode cX12_stone 40 = .ok (.iastore, 1) := by decide +kernel
theorem dX12_stone_41 : decode cX12_stone 41 = .ok (.iconst 1, 1) := by decide +kernel
theorem dX12_stone_42 : decode cX12_stone 42 = .ok (.ireturn, 1) := by decide +kernel
theorem dX12_stand_0 : decode cX12_stand 0 = .ok (.aload_n 0, 1) := by decide +kernel
theorem dX12_stand_1 : decode cX12_stand 1 = .ok (.iload_n 1, 1) := by decide +kernel
theorem dX12_stand_2 : decode cX12_stand 2 = .ok (.invokevirtual 351, 3) := by decide +kernel
theorem dX12_stand_5 : decode cX12_stand 5 = .ok (.ifCond .eq 23, 3) := by decide +kernel
theorem dX12_stand_8 : decode cX12_stand 8 = .ok (.iload_n 2, 1) := by decide +kernel
theorem dX12_stand_9 : decode cX12_stand 9 = .ok (.invokestatic 84, 3) := by decide +kernel
theorem dX12_stand_12 : decode cX12_stand 12 = .ok (.ifCond .eq 16, 3) := by decide +kernel
theorem dX12_stand_15 : decode cX12_stand 15 = .ok (.aload_n 0, 1) := by decide +kernel
theorem dX12_stand_16 : decode cX12_stand 16 = .ok (.getfield 7, 3) := by decide +kernel
theorem dX12_stand_19 : decode cX12_stand 19 = .ok (.bipush 24, 2) := by decide +kernel
theorem dX12_stand_21 : decode cX12_stand 21 = .ok (.iload_n 1, 1) := by decide +kernel
theorem dX12_stand_22 : decode cX12_stand 22 = .ok (.iadd, 1) := by decide +kernel
theorem dX12_stand_23 : decode cX12_stand 23 = .ok (.iaload, 1) := by decide +kernel
theorem dX12_stand_24 : decode cX12_stand 24 = .ok (.iload_n 2, 1) := by decide +kernel
theorem dX12_stand_25 : decode cX12_stand 25 = .ok (.if_icmp .ne 5, 3) := by decide +kernel
theorem dX12_stand_28 : decode cX12_stand 28 = .ok (.iconst 0, 1) := by decide +kernel
theorem dX12_stand_29 : decode cX12_stand 29 = .ok (.ireturn, 1) := by decide +kernel
theorem dX12_stand_30 : decode cX12_stand 30 = .ok (.aload_n 0, 1) := by decide +kernel
theorem dX12_stand_31 : decode cX12_stand 31 = .ok (.invokevirtual 348, 3) := by decide +kernel
theorem dX12_stand_34 : decode cX12_stand 34 = .ok (.aload_n 0, 1) := by decide +kernel
theorem dX12_stand_35 : decode cX12_stand 35 = .ok (.getfield 7, 3) := by decide +kernel
theorem dX12_stand_38 : decode cX12_stand 38 = .ok (.bipush 24, 2) := by decide +kernel
theorem dX12_stand_40 : decode cX12_stand 40 = .ok (.iload_n 1, 1) := by decide +kernel
theorem dX12_stand_41 : decode cX12_stand 41 = .ok (.iadd, 1) := by decide +kernel
theorem dX12_stand_42 : decode cX12_stand 42 = .ok (.iload_n 2, 1) := by decide +kernel
theorem dX12_stand_43 : decode cX12_stand 43 = .ok (.iastore, 1) := by decide +kernel
theorem dX12_stand_44 : decode cX12_stand 44 = .ok (.iconst 1, 1) := by decide +kernel
theorem dX12_stand_45 : decode cX12_stand 45 = .ok (.ireturn, 1) := by decide +kernel
theorem dX12_isWith_0 : decode cX12_isWith 0 = .ok (.aload_n 0, 1) := by decide +kernel
theorem dX12_isWith_1 : decode cX12_isWith 1 = .ok (.iload_n 1, 1) := by decide +kernel
theorem dX12_isWith_2 : decode cX12_isWith 2 = .ok (.invokevirtual 261, 3) := by decide +kernel
theorem dX12_isWith_5 : decode cX12_isWith 5 = .ok (.ifCond .eq 18, 3) := by decide +kernel
theorem dX12_isWith_8 : decode cX12_isWith 8 = .ok (.aload_n 0, 1) := by decide +kernel
theorem dX12_isWith_9 : decode cX12_isWith 9 = .ok (.iload_n 1, 1) := by decide +kernel
theorem dX12_isWith_10 : decode cX12_isWith 10 = .ok (.iconst 0, 1) := by decide +kernel
theorem dX12_isWith_11 : decode cX12_isWith 11 = .ok (.invokevirtual 264, 3) := by decide +kernel
theorem dX12_isWith_14 : decode cX12_isWith 14 = .ok (.bipush 20, 2) := by decide +kernel
theorem dX12_isWith_16 : decode cX12_isWith 16 = .ok (.if_icmp .lt 7, 3) := by decide +kernel
theorem dX12_isWith_19 : decode cX12_isWith 19 = .ok (.iconst 1, 1) := by decide +kernel
theorem dX12_isWith_20 : decode cX12_isWith 20 = .ok (.goto 4, 3) := by decide +kernel
theorem dX12_isWith_23 : decode cX12_isWith 23 = .ok (.iconst 0, 1) := by decide +kernel
theorem dX12_isWith_24 : decode cX12_isWith 24 = .ok (.ireturn, 1) := by decide +kernel
theorem dX12_sink_0 : decode cX12_sink 0 = .ok (.aload_n 0, 1) := by decide +kernel
theorem dX12_sink_1 : decode cX12_sink 1 = .ok (.iload_n 1, 1) := by decide +kernel
theorem dX12_sink_2 : decode cX12_sink 2 = .ok (.invokevirtual 354, 3) := by decide +kernel
theorem dX12_sink_5 : decode cX12_sink 5 = .ok (.ifCond .ne 5, 3) := by decide +kernel
theorem dX12_sink_8 : decode cX12_sink 8 = .ok (.iconst 0, 1) := by decide +kernel
theorem dX12_sink_9 : decode cX12_sink 9 = .ok (.ireturn, 1) := by decide +kernel
theorem dX12_sink_10 : decode cX12_sink 10 = .ok (.aload_n 0, 1) := by decide +kernel
theorem dX12_sink_11 : decode cX12_sink 11 = .ok (.invokevirtual 348, 3) := by decide +kernel
theorem dX12_sink_14 : decode cX12_sink 14 = .ok (.aload_n 0, 1) := by decide +kernel
theorem dX12_sink_15 : decode cX12_sink 15 = .ok (.iload_n 1, 1) := by decide +kernel
theorem dX12_sink_16 : decode cX12_sink 16 = .ok (.iconst 0, 1) := by decide +kernel
theorem dX12_sink_17 : decode cX12_sink 17 = .ok (.iconst 0, 1) := by decide +kernel
theorem dX12_sink_18 : decode cX12_sink 18 = .ok (.invokevirtual 76, 3) := by decide +kernel
theorem dX12_sink_21 : decode cX12_sink 21 = .ok (.iconst 1, 1) := by decide +kernel
theorem dX12_sink_22 : decode cX12_sink 22 = .ok (.ireturn, 1) := by decide +kernel
theorem dX12_arePassed_0 : decode cX12_arePassed 0 = .ok (.aload_n 0, 1) := by decide +kernel
theorem dX12_arePassed_1 : decode cX12_arePassed 1 = .ok (.iconst 0, 1) := by decide +kernel
theorem dX12_arePassed_2 : decode cX12_arePassed 2 = .ok (.putfield 333, 3) := by decide +kernel
theorem dX12_arePassed_5 : decode cX12_arePassed 5 = .ok (.iconst 0, 1) := by decide +kernel
theorem dX12_arePassed_6 : decode cX12_arePassed 6 = .ok (.istore_n 2, 1) := by decide +kernel
theorem dX12_arePassed_7 : decode cX12_arePassed 7 = .ok (.iload_n 2, 1) := by decide +kernel
theorem dX12_arePassed_8 : decode cX12_arePassed 8 = .ok (.iload_n 1, 1) := by decide +kernel
theorem dX12_arePassed_9 : decode cX12_arePassed 9 = .ok (.if_icmp .ge 32, 3) := by decide +kernel
theorem dX12_arePassed_12 : decode cX12_arePassed 12 = .ok (.aload_n 0, 1) := by decide +kernel
theorem dX12_arePassed_13 : decode cX12_arePassed 13 = .ok (.getfield 7, 3) := by decide +kernel
theorem dX12_arePassed_16 : decode cX12_arePassed 16 = .ok (.bipush 7, 2) := by decide +kernel
theorem dX12_arePassed_18 : decode cX12_arePassed 18 = .ok (.iaload, 1) := by decide +kernel
theorem dX12_arePassed_19 : decode cX12_arePassed 19 = .ok (.sipush 9999, 3) := by decide +kernel
theorem dX12_arePassed_22 : decode cX12_arePassed 22 = .ok (.if_icmp .ne 5, 3) := by decide +kernel
theorem dX12_arePassed_25 : decode cX12_arePassed 25 = .ok (.iconst 0, 1) := by decide +kernel
theorem dX12_arePassed_26 : decode cX12_arePassed 26 = .ok (.ireturn, 1) := by decide +kernel
theorem dX12_arePassed_27 : decode cX12_arePassed 27 = .ok (.aload_n 0, 1) := by decide +kernel
theorem dX12_arePassed_28 : decode cX12_arePassed 28 = .ok (.invokevirtual 348, 3) := by decide +kernel
theorem dX12_arePassed_31 : decode cX12_arePassed 31 = .ok (.aload_n 0, 1) := by decide +kernel
theorem dX12_arePassed_32 : decode cX12_arePassed 32 = .ok (.invokevirtual 357, 3) := by decide +kernel
theorem dX12_arePassed_35 : decode cX12_arePassed 35 = .ok (.iinc 2 1, 3) := by decide +kernel
theorem dX12_arePassed_38 : decode cX12_arePassed 38 = .ok (.goto (-31), 3) := by decide +kernel
theorem dX12_arePassed_41 : decode cX12_arePassed 41 = .ok (.iconst 1, 1) := by decide +kernel
theorem dX12_arePassed_42 : decode cX12_arePassed 42 = .ok (.ireturn, 1) := by decide +kernel
theorem dX12_hour_0 : decode cX12_hour 0 = .ok (.iload_n 1, 1) := by decide +kernel
theorem dX12_hour_1 : decode cX12_hour 1 = .ok (.iconst 1, 1) := by decide +kernel
theorem dX12_hour_2 : decode cX12_hour 2 = .ok (.bipush 60, 2) := by decide +kernel
theorem dX12_hour_4 : decode cX12_hour 4 = .ok (.invokestatic 63, 3) := by decide +kernel
theorem dX12_hour_7 : decode cX12_hour 7 = .ok (.ifCond .eq 33, 3) := by decide +kernel
theorem dX12_hour_10 : decode cX12_hour 10 = .ok (.aload_n 0, 1) := by decide +kernel
theorem dX12_hour_11 : decode cX12_hour 11 = .ok (.getfield 7, 3) := by decide +kernel
theorem dX12_hour_14 : decode cX12_hour 14 = .ok (.bipush 7, 2) := by decide +kernel
theorem dX12_hour_16 : decode cX12_hour 16 = .ok (.iaload, 1) := by decide +kernel
theorem dX12_hour_17 : decode cX12_hour 17 = .ok (.iload_n 1, 1) := by decide +kernel
theorem dX12_hour_18 : decode cX12_hour 18 = .ok (.iadd, 1) := by decide +kernel
theorem dX12_hour_19 : decode cX12_hour 19 = .ok (.sipush 9999, 3) := by decide +kernel
theorem dX12_hour_22 : decode cX12_hour 22 = .ok (.if_icmp .gt 18, 3) := by decide +kernel
theorem dX12_hour_25 : decode cX12_hour 25 = .ok (.aload_n 0, 1) := by decide +kernel
theorem dX12_hour_26 : decode cX12_hour 26 = .ok (.iload_n 1, 1) := by decide +kernel
theorem dX12_hour_27 : decode cX12_hour 27 = .ok (.invokevirtual 360, 3) := by decide +kernel
theorem dX12_hour_30 : decode cX12_hour 30 = .ok (.ifCond .eq 10, 3) := by decide +kernel
theorem dX12_hour_33 : decode cX12_hour 33 = .ok (.aload_n 0, 1) := by decide +kernel
theorem dX12_hour_34 : decode cX12_hour 34 = .ok (.getfield 333, 3) := by decide +kernel
theorem dX12_hour_37 : decode cX12_hour 37 = .ok (.goto 4, 3) := by decide +kernel
theorem dX12_hour_40 : decode cX12_hour 40 = .ok (.iconst (-1), 1) := by decide +kernel
theorem dX12_hour_41 : decode cX12_hour 41 = .ok (.ireturn, 1) := by decide +kernel
theorem dX12_isPlayed_0 : decode cX12_isPlayed 0 = .ok (.aload_n 0, 1) := by decide +kernel
theorem dX12_isPlayed_1 : decode cX12_isPlayed 1 = .ok (.getfield 16, 3) := by decide +kernel
theorem dX12_isPlayed_4 : decode cX12_isPlayed 4 = .ok (.iload_n 1, 1) := by decide +kernel
theorem dX12_isPlayed_5 : decode cX12_isPlayed 5 = .ok (.iconst 1, 1) := by decide +kernel
theorem dX12_isPlayed_6 : decode cX12_isPlayed 6 = .ok (.iadd, 1) := by decide +kernel
theorem dX12_isPlayed_7 : decode cX12_isPlayed 7 = .ok (.iaload, 1) := by decide +kernel
theorem dX12_isPlayed_8 : decode cX12_isPlayed 8 = .ok (.istore_n 2, 1) := by decide +kernel
theorem dX12_isPlayed_9 : decode cX12_isPlayed 9 = .ok (.aload_n 0, 1) := by decide +kernel
theorem dX12_isPlayed_10 : decode cX12_isPlayed 10 = .ok (.getfield 16, 3) := by decide +kernel
theorem dX12_isPlayed_13 : decode cX12_isPlayed 13 = .ok (.iload_n 1, 1) := by decide +kernel
theorem dX12_isPlayed_14 : decode cX12_isPlayed 14 = .ok (.iconst 2, 1) := by decide +kernel
theorem dX12_isPlayed_15 : decode cX12_isPlayed 15 = .ok (.iadd, 1) := by decide +kernel
theorem dX12_isPlayed_16 : decode cX12_isPlayed 16 = .ok (.iaload, 1) := by decide +kernel
theorem dX12_isPlayed_17 : decode cX12_isPlayed 17 = .ok (.istore_n 3, 1) := by decide +kernel
theorem dX12_isPlayed_18 : decode cX12_isPlayed 18 = .ok (.aload_n 0, 1) := by decide +kernel
theorem dX12_isPlayed_19 : decode cX12_isPlayed 19 = .ok (.getfield 16, 3) := by decide +kernel
theorem dX12_isPlayed_22 : decode cX12_isPlayed 22 = .ok (.iload_n 1, 1) := by decide +kernel
theorem dX12_isPlayed_23 : decode cX12_isPlayed 23 = .ok (.iaload, 1) := by decide +kernel
theorem dX12_isPlayed_24 : decode cX12_isPlayed 24 = .ok (.tableswitch 117 3 10 #[48, 63, 78, 84, 91, 98, 105, 111], 48) := by decide +kernel
theorem dX12_isPlayed_72 : decode cX12_isPlayed 72 = .ok (.aload_n 0, 1) := by decide +kernel
theorem dX12_isPlayed_73 : decode cX12_isPlayed 73 = .ok (.iload_n 2, 1) := by decide +kernel
theorem dX12_isPlayed_74 : decode cX12_isPlayed 74 = .ok (.iload_n 3, 1) := by decide +kernel
theorem dX12_isPlayed_75 : decode cX12_isPlayed 75 = .ok (.invokevirtual 363, 3) := by decide +kernel
theorem dX12_isPlayed_78 : decode cX12_isPlayed 78 = .ok (.ifCond .lt 7, 3) := by decide +kernel
theorem dX12_isPlayed_81 : decode cX12_isPlayed 81 = .ok (.iconst 1, 1) := by decide +kernel
theorem dX12_isPlayed_82 : decode cX12_isPlayed 82 = .ok (.goto 4, 3) := by decide +kernel
theorem dX12_isPlayed_85 : decode cX12_isPlayed 85 = .ok (.iconst 0, 1) := by decide +kernel
theorem dX12_isPlayed_86 : decode cX12_isPlayed 86 = .ok (.ireturn, 1) := by decide +kernel
theorem dX12_isPlayed_87 : decode cX12_isPlayed 87 = .ok (.aload_n 0, 1) := by decide +kernel
theorem dX12_isPlayed_88 : decode cX12_isPlayed 88 = .ok (.iload_n 2, 1) := by decide +kernel
theorem dX12_isPlayed_89 : decode cX12_isPlayed 89 = .ok (.iload_n 3, 1) := by decide +kernel
theorem dX12_isPlayed_90 : decode cX12_isPlayed 90 = .ok (.invokevirtual 366, 3) := by decide +kernel
theorem dX12_isPlayed_93 : decode cX12_isPlayed 93 = .ok (.ifCond .lt 7, 3) := by decide +kernel
theorem dX12_isPlayed_96 : decode cX12_isPlayed 96 = .ok (.iconst 1, 1) := by decide +kernel
theorem dX12_isPlayed_97 : decode cX12_isPlayed 97 = .ok (.goto 4, 3) := by decide +kernel
theorem dX12_isPlayed_100 : decode cX12_isPlayed 100 = .ok (.iconst 0, 1) := by decide +kernel
theorem dX12_isPlayed_101 : decode cX12_isPlayed 101 = .ok (.ireturn, 1) := by decide +kernel
theorem dX12_isPlayed_102 : decode cX12_isPlayed 102 = .ok (.aload_n 0, 1) := by decide +kernel
theorem dX12_isPlayed_103 : decode cX12_isPlayed 103 = .ok (.iload_n 2, 1) := by decide +kernel
theorem dX12_isPlayed_104 : decode cX12_isPlayed 104 = .ok (.invokevirtual 369, 3) := by decide +kernel
theorem dX12_isPlayed_107 : decode cX12_isPlayed 107 = .ok (.ireturn, 1) := by decide +kernel
theorem dX12_isPlayed_108 : decode cX12_isPlayed 108 = .ok (.aload_n 0, 1) := by decide +kernel
theorem dX12_isPlayed_109 : decode cX12_isPlayed 109 = .ok (.iload_n 2, 1) := by decide +kernel
theorem dX12_isPlayed_110 : decode cX12_isPlayed 110 = .ok (.iconst 1, 1) := by decide +kernel
theorem dX12_isPlayed_111 : decode cX12_isPlayed 111 = .ok (.invokevirtual 372, 3) := by decide +kernel
theorem dX12_isPlayed_114 : decode cX12_isPlayed 114 = .ok (.ireturn, 1) := by decide +kernel
theorem dX12_isPlayed_115 : decode cX12_isPlayed 115 = .ok (.aload_n 0, 1) := by decide +kernel
theorem dX12_isPlayed_116 : decode cX12_isPlayed 116 = .ok (.iload_n 2, 1) := by decide +kernel
theorem dX12_isPlayed_117 : decode cX12_isPlayed 117 = .ok (.iconst 0, 1) := by decide +kernel
theorem dX12_isPlayed_118 : decode cX12_isPlayed 118 = .ok (.invokevirtual 372, 3) := by decide +kernel
theorem dX12_isPlayed_121 : decode cX12_isPlayed 121 = .ok (.ireturn, 1) := by decide +kernel
theorem dX12_isPlayed_122 : decode cX12_isPlayed 122 = .ok (.aload_n 0, 1) := by decide +kernel
theorem dX12_isPlayed_123 : decode cX12_isPlayed 123 = .ok (.iload_n 2, 1) := by decide +kernel
theorem dX12_isPlayed_124 : decode cX12_isPlayed 124 = .ok (.iload_n 3, 1) := by decide +kernel
theorem dX12_isPlayed_125 : decode cX12_isPlayed 125 = .ok (.invokevirtual 376, 3) := by decide +kernel
theorem dX12_isPlayed_128 : decode cX12_isPlayed 128 = .ok (.ireturn, 1) := by decide +kernel
theorem dX12_isPlayed_129 : decode cX12_isPlayed 129 = .ok (.aload_n 0, 1) := by decide +kernel
theorem dX12_isPlayed_130 : decode cX12_isPlayed 130 = .ok (.iload_n 2, 1) := by decide +kernel
theorem dX12_isPlayed_131 : decode cX12_isPlayed 131 = .ok (.invokevirtual 379, 3) := by decide +kernel
theorem dX12_isPlayed_134 : decode cX12_isPlayed 134 = .ok (.ireturn, 1) := by decide +kernel
theorem dX12_isPlayed_135 : decode cX12_isPlayed 135 = .ok (.aload_n 0, 1) := by decide +kernel
theorem dX12_isPlayed_136 : decode cX12_isPlayed 136 = .ok (.iload_n 2, 1) := by decide +kernel
theorem dX12_isPlayed_137 : decode cX12_isPlayed 137 = .ok (.invokevirtual 360, 3) := by decide +kernel
theorem dX12_isPlayed_140 : decode cX12_isPlayed 140 = .ok (.ireturn, 1) := by decide +kernel
theorem dX12_isPlayed_141 : decode cX12_isPlayed 141 = .ok (.iconst 1, 1) := by decide +kernel
theorem dX12_isPlayed_142 : decode cX12_isPlayed 142 = .ok (.ireturn, 1) := by decide +kernel
theorem dX12_played_0 : decode cX12_played 0 = .ok (.iload_n 1, 1) := by decide +kernel
theorem dX12_played_1 : decode cX12_played 1 = .ok (.iconst 0, 1) := by decide +kernel
theorem dX12_played_2 : decode cX12_played 2 = .ok (.aload_n 0, 1) := by decide +kernel
theorem dX12_played_3 : decode cX12_played 3 = .ok (.getfield 7, 3) := by decide +kernel
theorem dX12_played_6 : decode cX12_played 6 = .ok (.iconst 2, 1) := by decide +kernel
theorem dX12_played_7 : decode cX12_played 7 = .ok (.iaload, 1) := by decide +kernel
theorem dX12_played_8 : decode cX12_played 8 = .ok (.iconst 1, 1) := by decide +kernel
theorem dX12_played_9 : decode cX12_played 9 = .ok (.isub, 1) := by decide +kernel
theorem dX12_played_10 : decode cX12_played 10 = .ok (.invokestatic 63, 3) := by decide +kernel
theorem dX12_played_13 : decode cX12_played 13 = .ok (.ifCond .ne 6, 3) := by decide +kernel
theorem dX12_played_16 : decode cX12_played 16 = .ok (.bipush (-2), 2) := by decide +kernel
theorem dX12_played_18 : decode cX12_played 18 = .ok (.ireturn, 1) := by decide +kernel
theorem dX12_played_19 : decode cX12_played 19 = .ok (.iconst 0, 1) := by decide +kernel
theorem dX12_played_20 : decode cX12_played 20 = .ok (.istore_n 2, 1) := by decide +kernel
theorem dX12_played_21 : decode cX12_played 21 = .ok (.iload_n 2, 1) := by decide +kernel
theorem dX12_played_22 : decode cX12_played 22 = .ok (.aload_n 0, 1) := by decide +kernel
theorem dX12_played_23 : decode cX12_played 23 = .ok (.getfield 16, 3) := by decide +kernel
theorem dX12_played_26 : decode cX12_played 26 = .ok (.sipush 681, 3) := by decide +kernel
theorem dX12_played_29 : decode cX12_played 29 = .ok (.iload_n 1, 1) := by decide +kernel
theorem dX12_played_30 : decode cX12_played 30 = .ok (.imul, 1) := by decide +kernel
theorem dX12_played_31 : decode cX12_played 31 = .ok (.iaload, 1) := by decide +kernel
theorem dX12_played_32 : decode cX12_played 32 = .ok (.if_icmp .ge 29, 3) := by decide +kernel
theorem dX12_played_35 : decode cX12_played 35 = .ok (.aload_n 0, 1) := by decide +kernel
theorem dX12_played_36 : decode cX12_played 36 = .ok (.sipush 681, 3) := by decide +kernel
theorem dX12_played_39 : decode cX12_played 39 = .ok (.iload_n 1, 1) := by decide +kernel
theorem dX12_played_40 : decode cX12_played 40 = .ok (.imul, 1) := by decide +kernel
theorem dX12_played_41 : decode cX12_played 41 = .ok (.iconst 1, 1) := by decide +kernel
theorem dX12_played_42 : decode cX12_played 42 = .ok (.iadd, 1) := by decide +kernel
theorem dX12_played_43 : decode cX12_played 43 = .ok (.iconst 3, 1) := by decide +kernel
theorem dX12_played_44 : decode cX12_played 44 = .ok (.iload_n 2, 1) := by decide +kernel
theorem dX12_played_45 : decode cX12_played 45 = .ok (.imul, 1) := by decide +kernel
theorem dX12_played_46 : decode cX12_played 46 = .ok (.iadd, 1) := by decide +kernel
theorem dX12_played_47 : decode cX12_played 47 = .ok (.invokevirtual 382, 3) := by decide +kernel
theorem dX12_played_50 : decode cX12_played 50 = .ok (.ifCond .ne 5, 3) := by decide +kernel
theorem dX12_played_53 : decode cX12_played 53 = .ok (.iload_n 2, 1) := by decide +kernel
theorem dX12_played_54 : decode cX12_played 54 = .ok (.ireturn, 1) := by decide +kernel
theorem dX12_played_55 : decode cX12_played 55 = .ok (.iinc 2 1, 3) := by decide +kernel
theorem dX12_played_58 : decode cX12_played 58 = .ok (.goto (-37), 3) := by decide +kernel
theorem dX12_played_61 : decode cX12_played 61 = .ok (.iconst (-1), 1) := by decide +kernel
theorem dX12_played_62 : decode cX12_played 62 = .ok (.ireturn, 1) := by decide +kernel
theorem dX12_happens_0 : decode cX12_happens 0 = .ok (.iload_n 1, 1) := by decide +kernel
theorem dX12_happens_1 : decode cX12_happens 1 = .ok (.bipush 7, 2) := by decide +kernel
theorem dX12_happens_3 : decode cX12_happens 3 = .ok (.idiv, 1) := by decide +kernel
theorem dX12_happens_4 : decode cX12_happens 4 = .ok (.bipush 10, 2) := by decide +kernel
theorem dX12_happens_6 : decode cX12_happens 6 = .ok (.irem, 1) := by decide +kernel
theorem dX12_happens_7 : decode cX12_happens 7 = .ok (.istore_n 2, 1) := by decide +kernel
theorem dX12_happens_8 : decode cX12_happens 8 = .ok (.iload_n 1, 1) := by decide +kernel
theorem dX12_happens_9 : decode cX12_happens 9 = .ok (.bipush 7, 2) := by decide +kernel
theorem dX12_happens_11 : decode cX12_happens 11 = .ok (.irem, 1) := by decide +kernel
theorem dX12_happens_12 : decode cX12_happens 12 = .ok (.tableswitch 181 0 4 #[36, 77, 93, 111, 140], 36) := by decide +kernel
theorem dX12_happens_48 : decode cX12_happens 48 = .ok (.aload_n 0, 1) := by decide +kernel
theorem dX12_happens_49 : decode cX12_happens 49 = .ok (.getfield 7, 3) := by decide +kernel
theorem dX12_happens_52 : decode cX12_happens 52 = .ok (.iconst 0, 1) := by decide +kernel
theorem dX12_happens_53 : decode cX12_happens 53 = .ok (.iaload, 1) := by decide +kernel
theorem dX12_happens_54 : decode cX12_happens 54 = .ok (.ifCond .le 156, 3) := by decide +kernel
theorem dX12_happens_57 : decode cX12_happens 57 = .ok (.aload_n 0, 1) := by decide +kernel
theorem dX12_happens_58 : decode cX12_happens 58 = .ok (.iload_n 1, 1) := by decide +kernel
theorem dX12_happens_59 : decode cX12_happens 59 = .ok (.aload_n 0, 1) := by decide +kernel
theorem dX12_happens_60 : decode cX12_happens 60 = .ok (.getfield 7, 3) := by decide +kernel
theorem dX12_happens_63 : decode cX12_happens 63 = .ok (.iconst 0, 1) := by decide +kernel
theorem dX12_happens_64 : decode cX12_happens 64 = .ok (.iaload, 1) := by decide +kernel
theorem dX12_happens_65 : decode cX12_happens 65 = .ok (.irem, 1) := by decide +kernel
theorem dX12_happens_66 : decode cX12_happens 66 = .ok (.invokevirtual 269, 3) := by decide +kernel
theorem dX12_happens_69 : decode cX12_happens 69 = .ok (.ifCond .eq 141, 3) := by decide +kernel
theorem dX12_happens_72 : decode cX12_happens 72 = .ok (.aload_n 0, 1) := by decide +kernel
theorem dX12_happens_73 : decode cX12_happens 73 = .ok (.iload_n 1, 1) := by decide +kernel
theorem dX12_happens_74 : decode cX12_happens 74 = .ok (.aload_n 0, 1) := by decide +kernel
theorem dX12_happens_75 : decode cX12_happens 75 = .ok (.getfield 7, 3) := by decide +kernel
theorem dX12_happens_78 : decode cX12_happens 78 = .ok (.iconst 0, 1) := by decide +kernel
theorem dX12_happens_79 : decode cX12_happens 79 = .ok (.iaload, 1) := by decide +kernel
theorem dX12_happens_80 : decode cX12_happens 80 = .ok (.irem, 1) := by decide +kernel
theorem dX12_happens_81 : decode cX12_happens 81 = .ok (.iconst 0, 1) := by decide +kernel
theorem dX12_happens_82 : decode cX12_happens 82 = .ok (.iconst 0, 1) := by decide +kernel
theorem dX12_happens_83 : decode cX12_happens 83 = .ok (.invokevirtual 76, 3) := by decide +kernel
theorem dX12_happens_86 : decode cX12_happens 86 = .ok (.goto 124, 3) := by decide +kernel
theorem dX12_happens_89 : decode cX12_happens 89 = .ok (.aload_n 0, 1) := by decide +kernel
theorem dX12_happens_90 : decode cX12_happens 90 = .ok (.getfield 7, 3) := by decide +kernel
theorem dX12_happens_93 : decode cX12_happens 93 = .ok (.bipush 10, 2) := by decide +kernel
theorem dX12_happens_95 : decode cX12_happens 95 = .ok (.dup2, 1) := by decide +kernel
theorem dX12_happens_96 : decode cX12_happens 96 = .ok (.iaload, 1) := by decide +kernel
theorem dX12_happens_97 : decode cX12_happens 97 = .ok (.iconst 1, 1) := by decide +kernel
theorem dX12_happens_98 : decode cX12_happens 98 = .ok (.iload_n 2, 1) := by decide +kernel
theorem dX12_happens_99 : decode cX12_happens 99 = .ok (.ishl, 1) := by decide +kernel
theorem dX12_happens_100 : decode cX12_happens 100 = .ok (.ior, 1) := by decide +kernel
theorem dX12_happens_101 : decode cX12_happens 101 = .ok (.iastore, 1) := by decide +kernel
theorem dX12_happens_102 : decode cX12_happens 102 = .ok (.goto 108, 3) := by decide +kernel
theorem dX12_happens_105 : decode cX12_happens 105 = .ok (.aload_n 0, 1) := by decide +kernel
theorem dX12_happens_106 : decode cX12_happens 106 = .ok (.getfield 7, 3) := by decide +kernel
theorem dX12_happens_109 : decode cX12_happens 109 = .ok (.bipush 10, 2) := by decide +kernel
theorem dX12_happens_111 : decode cX12_happens 111 = .ok (.dup2, 1) := by decide +kernel
theorem dX12_happens_112 : decode cX12_happens 112 = .ok (.iaload, 1) := by decide +kernel
theorem dX12_happens_113 : decode cX12_happens 113 = .ok (.iconst 1, 1) := by decide +kernel
theorem dX12_happens_114 : decode cX12_happens 114 = .ok (.iload_n 2, 1) := by decide +kernel
theorem dX12_happens_115 : decode cX12_happens 115 = .ok (.ishl, 1) := by decide +kernel
theorem dX12_happens_116 : decode cX12_happens 116 = .ok (.iconst (-1), 1) := by decide +kernel
theorem dX12_happens_117 : decode cX12_happens 117 = .ok (.ixor, 1) := by decide +kernel
theorem dX12_happens_118 : decode cX12_happens 118 = .ok (.iand, 1) := by decide +kernel
theorem dX12_happens_119 : decode cX12_happens 119 = .ok (.iastore, 1) := by decide +kernel
theorem dX12_happens_120 : decode cX12_happens 120 = .ok (.goto 90, 3) := by decide +kernel
theorem dX12_happens_123 : decode cX12_happens 123 = .ok (.aload_n 0, 1) := by decide +kernel
theorem dX12_happens_124 : decode cX12_happens 124 = .ok (.getfield 7, 3) := by decide +kernel
theorem dX12_happens_127 : decode cX12_happens 127 = .ok (.iconst 1, 1) := by decide +kernel
theorem dX12_happens_128 : decode cX12_happens 128 = .ok (.iaload, 1) := by decide +kernel
theorem dX12_happens_129 : decode cX12_happens 129 = .ok (.ifCond .le 81, 3) := by decide +kernel
theorem dX12_happens_132 : decode cX12_happens 132 = .ok (.aload_n 0, 1) := by decide +kernel
theorem dX12_happens_133 : decode cX12_happens 133 = .ok (.getfield 7, 3) := by decide +kernel
theorem dX12_happens_136 : decode cX12_happens 136 = .ok (.bipush 24, 2) := by decide +kernel
theorem dX12_happens_138 : decode cX12_happens 138 = .ok (.iload_n 1, 1) := by decide +kernel
theorem dX12_happens_139 : decode cX12_happens 139 = .ok (.aload_n 0, 1) := by decide +kernel
theorem dX12_happens_140 : decode cX12_happens 140 = .ok (.getfield 7, 3) := by decide +kernel
theorem dX12_happens_143 : decode cX12_happens 143 = .ok (.iconst 1, 1) := by decide +kernel
theorem dX12_happens_144 : decode cX12_happens 144 = .ok (.iaload, 1) := by decide +kernel
theorem dX12_happens_145 : decode cX12_happens 145 = .ok (.irem, 1) := by decide +kernel
theorem dX12_happens_146 : decode cX12_happens 146 = .ok (.iadd, 1) := by decide +kernel
theorem dX12_happens_147 : decode cX12_happens 147 = .ok (.iload_n 2, 1) := by decide +kernel
theorem dX12_happens_148 : decode cX12_happens 148 = .ok (.iastore, 1) := by decide +kernel
theorem dX12_happens_149 : decode cX12_happens 149 = .ok (.goto 61, 3) := by decide +kernel
theorem dX12_happens_152 : decode cX12_happens 152 = .ok (.aload_n 0, 1) := by decide +kernel
theorem dX12_happens_153 : decode cX12_happens 153 = .ok (.getfield 7, 3) := by decide +kernel
theorem dX12_happens_156 : decode cX12_happens 156 = .ok (.iconst 0, 1) := by decide +kernel
theorem dX12_happens_157 : decode cX12_happens 157 = .ok (.iaload, 1) := by decide +kernel
theorem dX12_happens_158 : decode cX12_happens 158 = .ok (.ifCond .le 52, 3) := by decide +kernel
theorem dX12_happens_161 : decode cX12_happens 161 = .ok (.aload_n 0, 1) := by decide +kernel
theorem dX12_happens_162 : decode cX12_happens 162 = .ok (.iload_n 1, 1) := by decide +kernel
theorem dX12_happens_163 : decode cX12_happens 163 = .ok (.aload_n 0, 1) := by decide +kernel
theorem dX12_happens_164 : decode cX12_happens 164 = .ok (.getfield 7, 3) := by decide +kernel
theorem dX12_happens_167 : decode cX12_happens 167 = .ok (.iconst 0, 1) := by decide +kernel
theorem dX12_happens_168 : decode cX12_happens 168 = .ok (.iaload, 1) := by decide +kernel
theorem dX12_happens_169 : decode cX12_happens 169 = .ok (.irem, 1) := by decide +kernel
theorem dX12_happens_170 : decode cX12_happens 170 = .ok (.invokevirtual 354, 3) := by decide +kernel
theorem dX12_happens_173 : decode cX12_happens 173 = .ok (.ifCond .eq 37, 3) := by decide +kernel
theorem dX12_happens_176 : decode cX12_happens 176 = .ok (.aload_n 0, 1) := by decide +kernel
theorem dX12_happens_177 : decode cX12_happens 177 = .ok (.iload_n 1, 1) := by decide +kernel
theorem dX12_happens_178 : decode cX12_happens 178 = .ok (.aload_n 0, 1) := by decide +kernel
theorem dX12_happens_179 : decode cX12_happens 179 = .ok (.getfield 7, 3) := by decide +kernel
theorem dX12_happens_182 : decode cX12_happens 182 = .ok (.iconst 0, 1) := by decide +kernel
theorem dX12_happens_183 : decode cX12_happens 183 = .ok (.iaload, 1) := by decide +kernel
theorem dX12_happens_184 : decode cX12_happens 184 = .ok (.irem, 1) := by decide +kernel
theorem dX12_happens_185 : decode cX12_happens 185 = .ok (.iconst 0, 1) := by decide +kernel
theorem dX12_happens_186 : decode cX12_happens 186 = .ok (.iconst 0, 1) := by decide +kernel
theorem dX12_happens_187 : decode cX12_happens 187 = .ok (.invokevirtual 76, 3) := by decide +kernel
theorem dX12_happens_190 : decode cX12_happens 190 = .ok (.goto 20, 3) := by decide +kernel
theorem dX12_happens_193 : decode cX12_happens 193 = .ok (.aload_n 0, 1) := by decide +kernel
theorem dX12_happens_194 : decode cX12_happens 194 = .ok (.getfield 7, 3) := by decide +kernel
theorem dX12_happens_197 : decode cX12_happens 197 = .ok (.bipush 7, 2) := by decide +kernel
theorem dX12_happens_199 : decode cX12_happens 199 = .ok (.iaload, 1) := by decide +kernel
theorem dX12_happens_200 : decode cX12_happens 200 = .ok (.sipush 9999, 3) := by decide +kernel
theorem dX12_happens_203 : decode cX12_happens 203 = .ok (.if_icmp .ge 7, 3) := by decide +kernel
theorem dX12_happens_206 : decode cX12_happens 206 = .ok (.aload_n 0, 1) := by decide +kernel
theorem dX12_happens_207 : decode cX12_happens 207 = .ok (.invokevirtual 357, 3) := by decide +kernel
theorem dX12_happens_210 : decode cX12_happens 210 = .ok (.return_, 1) := by decide +kernel
theorem dX12_springs_0 : decode cX12_springs 0 = .ok (.iload_n 1, 1) := by decide +kernel
theorem dX12_springs_1 : decode cX12_springs 1 = .ok (.iconst 0, 1) := by decide +kernel
theorem dX12_springs_2 : decode cX12_springs 2 = .ok (.sipush 9999, 3) := by decide +kernel
theorem dX12_springs_5 : decode cX12_springs 5 = .ok (.invokestatic 63, 3) := by decide +kernel
theorem dX12_springs_8 : decode cX12_springs 8 = .ok (.ifCond .eq 13, 3) := by decide +kernel
theorem dX12_springs_11 : decode cX12_springs 11 = .ok (.iload_n 2, 1) := by decide +kernel
theorem dX12_springs_12 : decode cX12_springs 12 = .ok (.iconst 1, 1) := by decide +kernel
theorem dX12_springs_13 : decode cX12_springs 13 = .ok (.bipush 40, 2) := by decide +kernel
theorem dX12_springs_15 : decode cX12_springs 15 = .ok (.invokestatic 63, 3) := by decide +kernel
theorem dX12_springs_18 : decode cX12_springs 18 = .ok (.ifCond .ne 5, 3) := by decide +kernel
theorem dX12_springs_21 : decode cX12_springs 21 = .ok (.iconst (-1), 1) := by decide +kernel
theorem dX12_springs_22 : decode cX12_springs 22 = .ok (.ireturn, 1) := by decide +kernel
theorem dX12_springs_23 : decode cX12_springs 23 = .ok (.aload_n 0, 1) := by decide +kernel
theorem dX12_springs_24 : decode cX12_springs 24 = .ok (.invokevirtual 348, 3) := by decide +kernel
theorem dX12_springs_27 : decode cX12_springs 27 = .ok (.aload_n 0, 1) := by decide +kernel
theorem dX12_springs_28 : decode cX12_springs 28 = .ok (.getfield 7, 3) := by decide +kernel
theorem dX12_springs_31 : decode cX12_springs 31 = .ok (.bipush 8, 2) := by decide +kernel
theorem dX12_springs_33 : decode cX12_springs 33 = .ok (.iload_n 1, 1) := by decide +kernel
theorem dX12_springs_34 : decode cX12_springs 34 = .ok (.iconst 2, 1) := by decide +kernel
theorem dX12_springs_35 : decode cX12_springs 35 = .ok (.imul, 1) := by decide +kernel
theorem dX12_springs_36 : decode cX12_springs 36 = .ok (.sipush 307, 3) := by decide +kernel
theorem dX12_springs_39 : decode cX12_springs 39 = .ok (.iadd, 1) := by decide +kernel
theorem dX12_springs_40 : decode cX12_springs 40 = .ok (.iastore, 1) := by decide +kernel
theorem dX12_springs_41 : decode cX12_springs 41 = .ok (.iconst 0, 1) := by decide +kernel
theorem dX12_springs_42 : decode cX12_springs 42 = .ok (.istore_n 3, 1) := by decide +kernel
theorem dX12_springs_43 : decode cX12_springs 43 = .ok (.iload_n 3, 1) := by decide +kernel
theorem dX12_springs_44 : decode cX12_springs 44 = .ok (.iload_n 2, 1) := by decide +kernel
theorem dX12_springs_45 : decode cX12_springs 45 = .ok (.if_icmp .ge 28, 3) := by decide +kernel
theorem dX12_springs_48 : decode cX12_springs 48 = .ok (.aload_n 0, 1) := by decide +kernel
theorem dX12_springs_49 : decode cX12_springs 49 = .ok (.getfield 7, 3) := by decide +kernel
theorem dX12_springs_52 : decode cX12_springs 52 = .ok (.bipush 8, 2) := by decide +kernel
theorem dX12_springs_54 : decode cX12_springs 54 = .ok (.iaload, 1) := by decide +kernel
theorem dX12_springs_55 : decode cX12_springs 55 = .ok (.istore 4, 2) := by decide +kernel
theorem dX12_springs_57 : decode cX12_springs 57 = .ok (.aload_n 0, 1) := by decide +kernel
theorem dX12_springs_58 : decode cX12_springs 58 = .ok (.invokevirtual 312, 3) := by decide +kernel
theorem dX12_springs_61 : decode cX12_springs 61 = .ok (.aload_n 0, 1) := by decide +kernel
theorem dX12_springs_62 : decode cX12_springs 62 = .ok (.iload 4, 2) := by decide +kernel
theorem dX12_springs_64 : decode cX12_springs 64 = .ok (.invokevirtual 385, 3) := by decide +kernel
theorem dX12_springs_67 : decode cX12_springs 67 = .ok (.iinc 3 1, 3) := by decide +kernel
theorem dX12_springs_70 : decode cX12_springs 70 = .ok (.goto (-27), 3) := by decide +kernel
theorem dX12_springs_73 : decode cX12_springs 73 = .ok (.aload_n 0, 1) := by decide +kernel
theorem dX12_springs_74 : decode cX12_springs 74 = .ok (.getfield 7, 3) := by decide +kernel
theorem dX12_springs_77 : decode cX12_springs 77 = .ok (.bipush 7, 2) := by decide +kernel
theorem dX12_springs_79 : decode cX12_springs 79 = .ok (.iaload, 1) := by decide +kernel
theorem dX12_springs_80 : decode cX12_springs 80 = .ok (.ireturn, 1) := by decide +kernel
theorem dX12_leftOf_0 : decode cX12_leftOf 0 = .ok (.aload_n 0, 1) := by decide +kernel
theorem dX12_leftOf_1 : decode cX12_leftOf 1 = .ok (.getfield 7, 3) := by decide +kernel
theorem dX12_leftOf_4 : decode cX12_leftOf 4 = .ok (.bipush 30, 2) := by decide +kernel
theorem dX12_leftOf_6 : decode cX12_leftOf 6 = .ok (.iload_n 1, 1) := by decide +kernel
theorem dX12_leftOf_7 : decode cX12_leftOf 7 = .ok (.iadd, 1) := by decide +kernel
theorem dX12_leftOf_8 : decode cX12_leftOf 8 = .ok (.iaload, 1) := by decide +kernel
theorem dX12_leftOf_9 : decode cX12_leftOf 9 = .ok (.istore_n 2, 1) := by decide +kernel
theorem dX12_leftOf_10 : decode cX12_leftOf 10 = .ok (.iload_n 2, 1) := by decide +kernel
theorem dX12_leftOf_11 : decode cX12_leftOf 11 = .ok (.invokestatic 80, 3) := by decide +kernel
theorem dX12_leftOf_14 : decode cX12_leftOf 14 = .ok (.istore_n 3, 1) := by decide +kernel
theorem dX12_leftOf_15 : decode cX12_leftOf 15 = .ok (.iload_n 3, 1) := by decide +kernel
theorem dX12_leftOf_16 : decode cX12_leftOf 16 = .ok (.aload_n 0, 1) := by decide +kernel
theorem dX12_leftOf_17 : decode cX12_leftOf 17 = .ok (.iload_n 1, 1) := by decide +kernel
theorem dX12_leftOf_18 : decode cX12_leftOf 18 = .ok (.iconst 1, 1) := by decide +kernel
theorem dX12_leftOf_19 : decode cX12_leftOf 19 = .ok (.invokevirtual 264, 3) := by decide +kernel
theorem dX12_leftOf_22 : decode cX12_leftOf 22 = .ok (.if_icmp .le 14, 3) := by decide +kernel
theorem dX12_leftOf_25 : decode cX12_leftOf 25 = .ok (.iload_n 2, 1) := by decide +kernel
theorem dX12_leftOf_26 : decode cX12_leftOf 26 = .ok (.bipush 10, 2) := by decide +kernel
theorem dX12_leftOf_28 : decode cX12_leftOf 28 = .ok (.idiv, 1) := by decide +kernel
theorem dX12_leftOf_29 : decode cX12_leftOf 29 = .ok (.istore_n 2, 1) := by decide +kernel
theorem dX12_leftOf_30 : decode cX12_leftOf 30 = .ok (.iinc 3 (-1), 3) := by decide +kernel
theorem dX12_leftOf_33 : decode cX12_leftOf 33 = .ok (.goto (-18), 3) := by decide +kernel
theorem dX12_leftOf_36 : decode cX12_leftOf 36 = .ok (.iload_n 2, 1) := by decide +kernel
theorem dX12_leftOf_37 : decode cX12_leftOf 37 = .ok (.ireturn, 1) := by decide +kernel
theorem dX12_of_0 : decode cX12_of 0 = .ok (.aload_n 0, 1) := by decide +kernel
theorem dX12_of_1 : decode cX12_of 1 = .ok (.iload_n 1, 1) := by decide +kernel
theorem dX12_of_2 : decode cX12_of 2 = .ok (.invokevirtual 261, 3) := by decide +kernel
theorem dX12_of_5 : decode cX12_of 5 = .ok (.ifCond .ne 6, 3) := by decide +kernel
theorem dX12_of_8 : decode cX12_of 8 = .ok (.bipush (-2), 2) := by decide +kernel
theorem dX12_of_10 : decode cX12_of 10 = .ok (.ireturn, 1) := by decide +kernel
theorem dX12_of_11 : decode cX12_of 11 = .ok (.iload_n 2, 1) := by decide +kernel
theorem dX12_of_12 : decode cX12_of 12 = .ok (.tableswitch 76 0 4 #[36, 46, 56, 63, 70], 36) := by decide +kernel
theorem dX12_of_48 : decode cX12_of 48 = .ok (.aload_n 0, 1) := by decide +kernel
theorem dX12_of_49 : decode cX12_of 49 = .ok (.getfield 7, 3) := by decide +kernel
theorem dX12_of_52 : decode cX12_of 52 = .ok (.bipush 30, 2) := by decide +kernel
theorem dX12_of_54 : decode cX12_of 54 = .ok (.iload_n 1, 1) := by decide +kernel
theorem dX12_of_55 : decode cX12_of 55 = .ok (.iadd, 1) := by decide +kernel
theorem dX12_of_56 : decode cX12_of 56 = .ok (.iaload, 1) := by decide +kernel
theorem dX12_of_57 : decode cX12_of 57 = .ok (.ireturn, 1) := by decide +kernel
theorem dX12_of_58 : decode cX12_of 58 = .ok (.aload_n 0, 1) := by decide +kernel
theorem dX12_of_59 : decode cX12_of 59 = .ok (.getfield 7, 3) := by decide +kernel
theorem dX12_of_62 : decode cX12_of 62 = .ok (.bipush 36, 2) := by decide +kernel
theorem dX12_of_64 : decode cX12_of 64 = .ok (.iload_n 1, 1) := by decide +kernel
theorem dX12_of_65 : decode cX12_of 65 = .ok (.iadd, 1) := by decide +kernel
theorem dX12_of_66 : decode cX12_of 66 = .ok (.iaload, 1) := by decide +kernel
theorem dX12_of_67 : decode cX12_of 67 = .ok (.ireturn, 1) := by decide +kernel
theorem dX12_of_68 : decode cX12_of 68 = .ok (.aload_n 0, 1) := by decide +kernel
theorem dX12_of_69 : decode cX12_of 69 = .ok (.iload_n 1, 1) := by decide +kernel
theorem dX12_of_70 : decode cX12_of 70 = .ok (.iconst 1, 1) := by decide +kernel
theorem dX12_of_71 : decode cX12_of 71 = .ok (.invokevirtual 264, 3) := by decide +kernel
theorem dX12_of_74 : decode cX12_of 74 = .ok (.ireturn, 1) := by decide +kernel
theorem dX12_of_75 : decode cX12_of 75 = .ok (.aload_n 0, 1) := by decide +kernel
theorem dX12_of_76 : decode cX12_of 76 = .ok (.iload_n 1, 1) := by decide +kernel
theorem dX12_of_77 : decode cX12_of 77 = .ok (.iconst 0, 1) := by decide +kernel
theorem dX12_of_78 : decode cX12_of 78 = .ok (.invokevirtual 264, 3) := by decide +kernel
theorem dX12_of_81 : decode cX12_of 81 = .ok (.ireturn, 1) := by decide +kernel
theorem dX12_of_82 : decode cX12_of 82 = .ok (.aload_n 0, 1) := by decide +kernel
theorem dX12_of_83 : decode cX12_of 83 = .ok (.iload_n 1, 1) := by decide +kernel
theorem dX12_of_84 : decode cX12_of 84 = .ok (.invokevirtual 388, 3) := by decide +kernel
theorem dX12_of_87 : decode cX12_of 87 = .ok (.ireturn, 1) := by decide +kernel
theorem dX12_of_88 : decode cX12_of 88 = .ok (.bipush (-2), 2) := by decide +kernel
theorem dX12_of_90 : decode cX12_of 90 = .ok (.ireturn, 1) := by decide +kernel
theorem dX12_namesWith_0 : decode cX12_namesWith 0 = .ok (.iconst 0, 1) := by decide +kernel
theorem dX12_namesWith_1 : decode cX12_namesWith 1 = .ok (.istore_n 2, 1) := by decide +kernel
theorem dX12_namesWith_2 : decode cX12_namesWith 2 = .ok (.iconst 0, 1) := by decide +kernel
theorem dX12_namesWith_3 : decode cX12_namesWith 3 = .ok (.istore_n 3, 1) := by decide +kernel
theorem dX12_namesWith_4 : decode cX12_namesWith 4 = .ok (.iload_n 3, 1) := by decide +kernel
theorem dX12_namesWith_5 : decode cX12_namesWith 5 = .ok (.aload_n 0, 1) := by decide +kernel
theorem dX12_namesWith_6 : decode cX12_namesWith 6 = .ok (.getfield 7, 3) := by decide +kernel
theorem dX12_namesWith_9 : decode cX12_namesWith 9 = .ok (.iconst 0, 1) := by decide +kernel
theorem dX12_namesWith_10 : decode cX12_namesWith 10 = .ok (.iaload, 1) := by decide +kernel
theorem dX12_namesWith_11 : decode cX12_namesWith 11 = .ok (.if_icmp .ge 32, 3) := by decide +kernel
theorem dX12_namesWith_14 : decode cX12_namesWith 14 = .ok (.iload_n 2, 1) := by decide +kernel
theorem dX12_namesWith_15 : decode cX12_namesWith 15 = .ok (.aload_n 0, 1) := by decide +kernel
theorem dX12_namesWith_16 : decode cX12_namesWith 16 = .ok (.iload_n 3, 1) := by decide +kernel
theorem dX12_namesWith_17 : decode cX12_namesWith 17 = .ok (.iconst 0, 1) := by decide +kernel
theorem dX12_namesWith_18 : decode cX12_namesWith 18 = .ok (.invokevirtual 264, 3) := by decide +kernel
theorem dX12_namesWith_21 : decode cX12_namesWith 21 = .ok (.bipush 20, 2) := by decide +kernel
theorem dX12_namesWith_23 : decode cX12_namesWith 23 = .ok (.iload_n 1, 1) := by decide +kernel
theorem dX12_namesWith_24 : decode cX12_namesWith 24 = .ok (.iadd, 1) := by decide +kernel
theorem dX12_namesWith_25 : decode cX12_namesWith 25 = .ok (.if_icmp .ne 9, 3) := by decide +kernel
theorem dX12_namesWith_28 : decode cX12_namesWith 28 = .ok (.iconst 1, 1) := by decide +kernel
theorem dX12_namesWith_29 : decode cX12_namesWith 29 = .ok (.iload_n 3, 1) := by decide +kernel
theorem dX12_namesWith_30 : decode cX12_namesWith 30 = .ok (.ishl, 1) := by decide +kernel
theorem dX12_namesWith_31 : decode cX12_namesWith 31 = .ok (.goto 4, 3) := by decide +kernel
theorem dX12_namesWith_34 : decode cX12_namesWith 34 = .ok (.iconst 0, 1) := by decide +kernel
theorem dX12_namesWith_35 : decode cX12_namesWith 35 = .ok (.ior, 1) := by decide +kernel
theorem dX12_namesWith_36 : decode cX12_namesWith 36 = .ok (.istore_n 2, 1) := by decide +kernel
theorem dX12_namesWith_37 : decode cX12_namesWith 37 = .ok (.iinc 3 1, 3) := by decide +kernel
theorem dX12_namesWith_40 : decode cX12_namesWith 40 = .ok (.goto (-36), 3) := by decide +kernel
theorem dX12_namesWith_43 : decode cX12_namesWith 43 = .ok (.iload_n 2, 1) := by decide +kernel
theorem dX12_namesWith_44 : decode cX12_namesWith 44 = .ok (.ireturn, 1) := by decide +kernel
theorem dX12_ofFamily_0 : decode cX12_ofFamily 0 = .ok (.aload_n 0, 1) := by decide +kernel
theorem dX12_ofFamily_1 : decode cX12_ofFamily 1 = .ok (.iload_n 1, 1) := by decide +kernel
theorem dX12_ofFamily_2 : decode cX12_ofFamily 2 = .ok (.invokevirtual 351, 3) := by decide +kernel
theorem dX12_ofFamily_5 : decode cX12_ofFamily 5 = .ok (.ifCond .ne 5, 3) := by decide +kernel
theorem dX12_ofFamily_8 : decode cX12_ofFamily 8 = .ok (.iconst (-1), 1) := by decide +kernel
theorem dX12_ofFamily_9 : decode cX12_ofFamily 9 = .ok (.ireturn, 1) := by decide +kernel
theorem dX12_ofFamily_10 : decode cX12_ofFamily 10 = .ok (.iload_n 2, 1) := by decide +kernel
theorem dX12_ofFamily_11 : decode cX12_ofFamily 11 = .ok (.ifCond .ne 15, 3) := by decide +kernel
theorem dX12_ofFamily_14 : decode cX12_ofFamily 14 = .ok (.aload_n 0, 1) := by decide +kernel
theorem dX12_ofFamily_15 : decode cX12_ofFamily 15 = .ok (.getfield 7, 3) := by decide +kernel
theorem dX12_ofFamily_18 : decode cX12_ofFamily 18 = .ok (.bipush 42, 2) := by decide +kernel
theorem dX12_ofFamily_20 : decode cX12_ofFamily 20 = .ok (.iload_n 1, 1) := by decide +kernel
theorem dX12_ofFamily_21 : decode cX12_ofFamily 21 = .ok (.iadd, 1) := by decide +kernel
theorem dX12_ofFamily_22 : decode cX12_ofFamily 22 = .ok (.iaload, 1) := by decide +kernel
theorem dX12_ofFamily_23 : decode cX12_ofFamily 23 = .ok (.goto 34, 3) := by decide +kernel
theorem dX12_ofFamily_26 : decode cX12_ofFamily 26 = .ok (.iload_n 2, 1) := by decide +kernel
theorem dX12_ofFamily_27 : decode cX12_ofFamily 27 = .ok (.iconst 1, 1) := by decide +kernel
theorem dX12_ofFamily_28 : decode cX12_ofFamily 28 = .ok (.if_icmp .ne 15, 3) := by decide +kernel
theorem dX12_ofFamily_31 : decode cX12_ofFamily 31 = .ok (.aload_n 0, 1) := by decide +kernel
theorem dX12_ofFamily_32 : decode cX12_ofFamily 32 = .ok (.getfield 7, 3) := by decide +kernel
theorem dX12_ofFamily_35 : decode cX12_ofFamily 35 = .ok (.bipush 24, 2) := by decide +kernel
theorem dX12_ofFamily_37 : decode cX12_ofFamily 37 = .ok (.iload_n 1, 1) := by decide +kernel
theorem dX12_ofFamily_38 : decode cX12_ofFamily 38 = .ok (.iadd, 1) := by decide +kernel
theorem dX12_ofFamily_39 : decode cX12_ofFamily 39 = .ok (.iaload, 1) := by decide +kernel
theorem dX12_ofFamily_40 : decode cX12_ofFamily 40 = .ok (.goto 17, 3) := by decide +kernel
theorem dX12_ofFamily_43 : decode cX12_ofFamily 43 = .ok (.iload_n 2, 1) := by decide +kernel
theorem dX12_ofFamily_44 : decode cX12_ofFamily 44 = .ok (.iconst 2, 1) := by decide +kernel
theorem dX12_ofFamily_45 : decode cX12_ofFamily 45 = .ok (.if_icmp .ne 11, 3) := by decide +kernel
theorem dX12_ofFamily_48 : decode cX12_ofFamily 48 = .ok (.aload_n 0, 1) := by decide +kernel
theorem dX12_ofFamily_49 : decode cX12_ofFamily 49 = .ok (.iload_n 1, 1) := by decide +kernel
theorem dX12_ofFamily_50 : decode cX12_ofFamily 50 = .ok (.invokevirtual 391, 3) := by decide +kernel
theorem dX12_ofFamily_53 : decode cX12_ofFamily 53 = .ok (.goto 4, 3) := by decide +kernel
theorem dX12_ofFamily_56 : decode cX12_ofFamily 56 = .ok (.iconst (-1), 1) := by decide +kernel
theorem dX12_ofFamily_57 : decode cX12_ofFamily 57 = .ok (.ireturn, 1) := by decide +kernel
theorem dX12_law_0 : decode cX12_law 0 = .ok (.aload_n 0, 1) := by decide +kernel
theorem dX12_law_1 : decode cX12_law 1 = .ok (.iload_n 1, 1) := by decide +kernel
theorem dX12_law_2 : decode cX12_law 2 = .ok (.invokevirtual 261, 3) := by decide +kernel
theorem dX12_law_5 : decode cX12_law 5 = .ok (.ifCond .eq 16, 3) := by decide +kernel
theorem dX12_law_8 : decode cX12_law 8 = .ok (.iload_n 3, 1) := by decide +kernel
theorem dX12_law_9 : decode cX12_law 9 = .ok (.iconst 2, 1) := by decide +kernel
theorem dX12_law_10 : decode cX12_law 10 = .ok (.if_icmp .ne 14, 3) := by decide +kernel
theorem dX12_law_13 : decode cX12_law 13 = .ok (.aload_n 0, 1) := by decide +kernel
theorem dX12_law_14 : decode cX12_law 14 = .ok (.iload_n 2, 1) := by decide +kernel
theorem dX12_law_15 : decode cX12_law 15 = .ok (.invokevirtual 351, 3) := by decide +kernel
theorem dX12_law_18 : decode cX12_law 18 = .ok (.ifCond .ne 6, 3) := by decide +kernel
theorem dX12_law_21 : decode cX12_law 21 = .ok (.bipush (-100), 2) := by decide +kernel
theorem dX12_law_23 : decode cX12_law 23 = .ok (.ireturn, 1) := by decide +kernel
theorem dX12_law_24 : decode cX12_law 24 = .ok (.iload_n 3, 1) := by decide +kernel
theorem dX12_law_25 : decode cX12_law 25 = .ok (.ifCond .ne 17, 3) := by decide +kernel
theorem dX12_law_28 : decode cX12_law 28 = .ok (.aload_n 0, 1) := by decide +kernel
theorem dX12_law_29 : decode cX12_law 29 = .ok (.aload_n 0, 1) := by decide +kernel
theorem dX12_law_30 : decode cX12_law 30 = .ok (.getfield 7, 3) := by decide +kernel
theorem dX12_law_33 : decode cX12_law 33 = .ok (.iconst 3, 1) := by decide +kernel
theorem dX12_law_34 : decode cX12_law 34 = .ok (.iaload, 1) := by decide +kernel
theorem dX12_law_35 : decode cX12_law 35 = .ok (.iload_n 1, 1) := by decide +kernel
theorem dX12_law_36 : decode cX12_law 36 = .ok (.invokevirtual 342, 3) := by decide +kernel
theorem dX12_law_39 : decode cX12_law 39 = .ok (.goto 37, 3) := by decide +kernel
theorem dX12_law_42 : decode cX12_law 42 = .ok (.iload_n 3, 1) := by decide +kernel
theorem dX12_law_43 : decode cX12_law 43 = .ok (.iconst 1, 1) := by decide +kernel
theorem dX12_law_44 : decode cX12_law 44 = .ok (.if_icmp .ne 16, 3) := by decide +kernel
theorem dX12_law_47 : decode cX12_law 47 = .ok (.aload_n 0, 1) := by decide +kernel
theorem dX12_law_48 : decode cX12_law 48 = .ok (.iload_n 1, 1) := by decide +kernel
theorem dX12_law_49 : decode cX12_law 49 = .ok (.aload_n 0, 1) := by decide +kernel
theorem dX12_law_50 : decode cX12_law 50 = .ok (.iload_n 1, 1) := by decide +kernel
theorem dX12_law_51 : decode cX12_law 51 = .ok (.invokevirtual 309, 3) := by decide +kernel
theorem dX12_law_54 : decode cX12_law 54 = .ok (.invokevirtual 321, 3) := by decide +kernel
theorem dX12_law_57 : decode cX12_law 57 = .ok (.goto 19, 3) := by decide +kernel
theorem dX12_law_60 : decode cX12_law 60 = .ok (.iload_n 3, 1) := by decide +kernel
theorem dX12_law_61 : decode cX12_law 61 = .ok (.iconst 2, 1) := by decide +kernel
theorem dX12_law_62 : decode cX12_law 62 = .ok (.if_icmp .ne 12, 3) := by decide +kernel
theorem dX12_law_65 : decode cX12_law 65 = .ok (.aload_n 0, 1) := by decide +kernel
theorem dX12_law_66 : decode cX12_law 66 = .ok (.iload_n 1, 1) := by decide +kernel
theorem dX12_law_67 : decode cX12_law 67 = .ok (.iload_n 2, 1) := by decide +kernel
theorem dX12_law_68 : decode cX12_law 68 = .ok (.invokevirtual 330, 3) := by decide +kernel
theorem dX12_law_71 : decode cX12_law 71 = .ok (.goto 5, 3) := by decide +kernel
theorem dX12_law_74 : decode cX12_law 74 = .ok (.bipush (-100), 2) := by decide +kernel
theorem dX12_law_76 : decode cX12_law 76 = .ok (.ireturn, 1) := by decide +kernel
theorem dX12_is_0 : decode cX12_is 0 = .ok (.iload_n 1, 1) := by decide +kernel
theorem dX12_is_1 : decode cX12_is 1 = .ok (.iconst 0, 1) := by decide +kernel
theorem dX12_is_2 : decode cX12_is 2 = .ok (.iconst 3, 1) := by decide +kernel
theorem dX12_is_3 : decode cX12_is 3 = .ok (.invokestatic 63, 3) := by decide +kernel
theorem dX12_is_6 : decode cX12_is 6 = .ok (.ifCond .eq 15, 3) := by decide +kernel
theorem dX12_is_9 : decode cX12_is 9 = .ok (.aload_n 0, 1) := by decide +kernel
theorem dX12_is_10 : decode cX12_is 10 = .ok (.getfield 7, 3) := by decide +kernel
theorem dX12_is_13 : decode cX12_is 13 = .ok (.bipush 7, 2) := by decide +kernel
theorem dX12_is_15 : decode cX12_is 15 = .ok (.iload_n 1, 1) := by decide +kernel
theorem dX12_is_16 : decode cX12_is 16 = .ok (.iadd, 1) := by decide +kernel
theorem dX12_is_17 : decode cX12_is 17 = .ok (.iaload, 1) := by decide +kernel
theorem dX12_is_18 : decode cX12_is 18 = .ok (.goto 20, 3) := by decide +kernel
theorem dX12_is_21 : decode cX12_is 21 = .ok (.iload_n 1, 1) := by decide +kernel
theorem dX12_is_22 : decode cX12_is 22 = .ok (.iconst 4, 1) := by decide +kernel
theorem dX12_is_23 : decode cX12_is 23 = .ok (.if_icmp .ne 13, 3) := by decide +kernel
theorem dX12_is_26 : decode cX12_is 26 = .ok (.aload_n 0, 1) := by decide +kernel
theorem dX12_is_27 : decode cX12_is 27 = .ok (.getfield 7, 3) := by decide +kernel
theorem dX12_is_30 : decode cX12_is 30 = .ok (.bipush 29, 2) := by decide +kernel
theorem dX12_is_32 : decode cX12_is 32 = .ok (.iaload, 1) := by decide +kernel
theorem dX12_is_33 : decode cX12_is 33 = .ok (.goto 5, 3) := by decide +kernel
theorem dX12_is_36 : decode cX12_is 36 = .ok (.bipush (-2), 2) := by decide +kernel
theorem dX12_is_38 : decode cX12_is 38 = .ok (.ireturn, 1) := by decide +kernel
theorem dX12_entry_0 : decode cX12_entry 0 = .ok (.aload_n 0, 1) := by decide +kernel
theorem dX12_entry_1 : decode cX12_entry 1 = .ok (.getfield 7, 3) := by decide +kernel
theorem dX12_entry_4 : decode cX12_entry 4 = .ok (.sipush 1762, 3) := by decide +kernel
theorem dX12_entry_7 : decode cX12_entry 7 = .ok (.iload_n 1, 1) := by decide +kernel
theorem dX12_entry_8 : decode cX12_entry 8 = .ok (.iadd, 1) := by decide +kernel
theorem dX12_entry_9 : decode cX12_entry 9 = .ok (.iaload, 1) := by decide +kernel
theorem dX12_entry_10 : decode cX12_entry 10 = .ok (.istore_n 3, 1) := by decide +kernel
theorem dX12_entry_11 : decode cX12_entry 11 = .ok (.iload_n 2, 1) := by decide +kernel
theorem dX12_entry_12 : decode cX12_entry 12 = .ok (.ifCond .ne 11, 3) := by decide +kernel
theorem dX12_entry_15 : decode cX12_entry 15 = .ok (.iload_n 3, 1) := by decide +kernel
theorem dX12_entry_16 : decode cX12_entry 16 = .ok (.sipush 180, 3) := by decide +kernel
theorem dX12_entry_19 : decode cX12_entry 19 = .ok (.idiv, 1) := by decide +kernel
theorem dX12_entry_20 : decode cX12_entry 20 = .ok (.goto 36, 3) := by decide +kernel
theorem dX12_entry_23 : decode cX12_entry 23 = .ok (.iload_n 2, 1) := by decide +kernel
theorem dX12_entry_24 : decode cX12_entry 24 = .ok (.iconst 1, 1) := by decide +kernel
theorem dX12_entry_25 : decode cX12_entry 25 = .ok (.if_icmp .ne 13, 3) := by decide +kernel
theorem dX12_entry_28 : decode cX12_entry 28 = .ok (.iload_n 3, 1) := by decide +kernel
theorem dX12_entry_29 : decode cX12_entry 29 = .ok (.bipush 30, 2) := by decide +kernel
theorem dX12_entry_31 : decode cX12_entry 31 = .ok (.idiv, 1) := by decide +kernel
theorem dX12_entry_32 : decode cX12_entry 32 = .ok (.bipush 6, 2) := by decide +kernel
theorem dX12_entry_34 : decode cX12_entry 34 = .ok (.irem, 1) := by decide +kernel
theorem dX12_entry_35 : decode cX12_entry 35 = .ok (.goto 21, 3) := by decide +kernel
theorem dX12_entry_38 : decode cX12_entry 38 = .ok (.iload_n 2, 1) := by decide +kernel
theorem dX12_entry_39 : decode cX12_entry 39 = .ok (.iconst 2, 1) := by decide +kernel
theorem dX12_entry_40 : decode cX12_entry 40 = .ok (.if_icmp .ne 12, 3) := by decide +kernel
theorem dX12_entry_43 : decode cX12_entry 43 = .ok (.iload_n 3, 1) := by decide +kernel
theorem dX12_entry_44 : decode cX12_entry 44 = .ok (.bipush 10, 2) := by decide +kernel
theorem dX12_entry_46 : decode cX12_entry 46 = .ok (.idiv, 1) := by decide +kernel
theorem dX12_entry_47 : decode cX12_entry 47 = .ok (.iconst 3, 1) := by decide +kernel
theorem dX12_entry_48 : decode cX12_entry 48 = .ok (.irem, 1) := by decide +kernel
theorem dX12_entry_49 : decode cX12_entry 49 = .ok (.goto 7, 3) := by decide +kernel
theorem dX12_entry_52 : decode cX12_entry 52 = .ok (.iload_n 3, 1) := by decide +kernel
theorem dX12_entry_53 : decode cX12_entry 53 = .ok (.bipush 10, 2) := by decide +kernel
theorem dX12_entry_55 : decode cX12_entry 55 = .ok (.irem, 1) := by decide +kernel
theorem dX12_entry_56 : decode cX12_entry 56 = .ok (.ireturn, 1) := by decide +kernel
theorem dX12_book_0 : decode cX12_book 0 = .ok (.iload_n 1, 1) := by decide +kernel
theorem dX12_book_1 : decode cX12_book 1 = .ok (.iconst (-1), 1) := by decide +kernel
theorem dX12_book_2 : decode cX12_book 2 = .ok (.if_icmp .ne 11, 3) := by decide +kernel
theorem dX12_book_5 : decode cX12_book 5 = .ok (.aload_n 0, 1) := by decide +kernel
theorem dX12_book_6 : decode cX12_book 6 = .ok (.getfield 7, 3) := by decide +kernel
theorem dX12_book_9 : decode cX12_book 9 = .ok (.bipush 11, 2) := by decide +kernel
theorem dX12_book_11 : decode cX12_book 11 = .ok (.iaload, 1) := by decide +kernel
theorem dX12_book_12 : decode cX12_book 12 = .ok (.ireturn, 1) := by decide +kernel
theorem dX12_book_13 : decode cX12_book 13 = .ok (.iload_n 1, 1) := by decide +kernel
theorem dX12_book_14 : decode cX12_book 14 = .ok (.iconst 0, 1) := by decide +kernel
theorem dX12_book_15 : decode cX12_book 15 = .ok (.aload_n 0, 1) := by decide +kernel
theorem dX12_book_16 : decode cX12_book 16 = .ok (.getfield 7, 3) := by decide +kernel
theorem dX12_book_19 : decode cX12_book 19 = .ok (.bipush 11, 2) := by decide +kernel
theorem dX12_book_21 : decode cX12_book 21 = .ok (.iaload, 1) := by decide +kernel
theorem dX12_book_22 : decode cX12_book 22 = .ok (.iconst 1, 1) := by decide +kernel
theorem dX12_book_23 : decode cX12_book 23 = .ok (.isub, 1) := by decide +kernel
theorem dX12_book_24 : decode cX12_book 24 = .ok (.invokestatic 63, 3) := by decide +kernel
theorem dX12_book_27 : decode cX12_book 27 = .ok (.ifCond .eq 21, 3) := by decide +kernel
theorem dX12_book_30 : decode cX12_book 30 = .ok (.iload_n 2, 1) := by decide +kernel
theorem dX12_book_31 : decode cX12_book 31 = .ok (.iconst 0, 1) := by decide +kernel
theorem dX12_book_32 : decode cX12_book 32 = .ok (.iconst 3, 1) := by decide +kernel
