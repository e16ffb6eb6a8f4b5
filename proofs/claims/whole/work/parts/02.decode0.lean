theorem d_CR_init_0 : decode b_CR_init 0 = .ok (.aload_n 0, 1) := by decide +kernel
theorem d_CR_init_1 : decode b_CR_init 1 = .ok (.invokespecial 3, 3) := by decide +kernel
theorem d_CR_init_4 : decode b_CR_init 4 = .ok (.aload_n 0, 1) := by decide +kernel
theorem d_CR_init_5 : decode b_CR_init 5 = .ok (.new 9, 3) := by decide +kernel
theorem d_CR_init_8 : decode b_CR_init 8 = .ok (.dup, 1) := by decide +kernel
theorem d_CR_init_9 : decode b_CR_init 9 = .ok (.invokespecial 11, 3) := by decide +kernel
theorem d_CR_init_12 : decode b_CR_init 12 = .ok (.putfield 12, 3) := by decide +kernel
theorem d_CR_init_15 : decode b_CR_init 15 = .ok (.aload_n 0, 1) := by decide +kernel
theorem d_CR_init_16 : decode b_CR_init 16 = .ok (.new 16, 3) := by decide +kernel
theorem d_CR_init_19 : decode b_CR_init 19 = .ok (.dup, 1) := by decide +kernel
theorem d_CR_init_20 : decode b_CR_init 20 = .ok (.invokespecial 18, 3) := by decide +kernel
theorem d_CR_init_23 : decode b_CR_init 23 = .ok (.putfield 19, 3) := by decide +kernel
theorem d_CR_init_26 : decode b_CR_init 26 = .ok (.aload_n 0, 1) := by decide +kernel
theorem d_CR_init_27 : decode b_CR_init 27 = .ok (.new 23, 3) := by decide +kernel
theorem d_CR_init_30 : decode b_CR_init 30 = .ok (.dup, 1) := by decide +kernel
theorem d_CR_init_31 : decode b_CR_init 31 = .ok (.invokespecial 25, 3) := by decide +kernel
theorem d_CR_init_34 : decode b_CR_init 34 = .ok (.putfield 26, 3) := by decide +kernel
theorem d_CR_init_37 : decode b_CR_init 37 = .ok (.aload_n 0, 1) := by decide +kernel
theorem d_CR_init_38 : decode b_CR_init 38 = .ok (.bipush 8, 2) := by decide +kernel
theorem d_CR_init_40 : decode b_CR_init 40 = .ok (.newarray .int, 2) := by decide +kernel
theorem d_CR_init_42 : decode b_CR_init 42 = .ok (.putfield 30, 3) := by decide +kernel
theorem d_CR_init_45 : decode b_CR_init 45 = .ok (.aload_n 0, 1) := by decide +kernel
theorem d_CR_init_46 : decode b_CR_init 46 = .ok (.new 34, 3) := by decide +kernel
theorem d_CR_init_49 : decode b_CR_init 49 = .ok (.dup, 1) := by decide +kernel
theorem d_CR_init_50 : decode b_CR_init 50 = .ok (.aload_n 0, 1) := by decide +kernel
theorem d_CR_init_51 : decode b_CR_init 51 = .ok (.getfield 12, 3) := by decide +kernel
theorem d_CR_init_54 : decode b_CR_init 54 = .ok (.aload_n 0, 1) := by decide +kernel
theorem d_CR_init_55 : decode b_CR_init 55 = .ok (.getfield 19, 3) := by decide +kernel
theorem d_CR_init_58 : decode b_CR_init 58 = .ok (.invokespecial 36, 3) := by decide +kernel
theorem d_CR_init_61 : decode b_CR_init 61 = .ok (.putfield 39, 3) := by decide +kernel
theorem d_CR_init_64 : decode b_CR_init 64 = .ok (.return_, 1) := by decide +kernel
theorem d_Sp_init_0 : decode b_Sp_init 0 = .ok (.aload_n 0, 1) := by decide +kernel
theorem d_Sp_init_1 : decode b_Sp_init 1 = .ok (.invokespecial 3, 3) := by decide +kernel
theorem d_Sp_init_4 : decode b_Sp_init 4 = .ok (.aload_n 0, 1) := by decide +kernel
theorem d_Sp_init_5 : decode b_Sp_init 5 = .ok (.bipush 6, 2) := by decide +kernel
theorem d_Sp_init_7 : decode b_Sp_init 7 = .ok (.newarray .int, 2) := by decide +kernel
theorem d_Sp_init_9 : decode b_Sp_init 9 = .ok (.putfield 9, 3) := by decide +kernel
theorem d_Sp_init_12 : decode b_Sp_init 12 = .ok (.aload_n 0, 1) := by decide +kernel
theorem d_Sp_init_13 : decode b_Sp_init 13 = .ok (.bipush 6, 2) := by decide +kernel
theorem d_Sp_init_15 : decode b_Sp_init 15 = .ok (.newarray .int, 2) := by decide +kernel
theorem d_Sp_init_17 : decode b_Sp_init 17 = .ok (.putfield 15, 3) := by decide +kernel
theorem d_Sp_init_20 : decode b_Sp_init 20 = .ok (.aload_n 0, 1) := by decide +kernel
theorem d_Sp_init_21 : decode b_Sp_init 21 = .ok (.new 18, 3) := by decide +kernel
theorem d_Sp_init_24 : decode b_Sp_init 24 = .ok (.dup, 1) := by decide +kernel
theorem d_Sp_init_25 : decode b_Sp_init 25 = .ok (.invokespecial 20, 3) := by decide +kernel
theorem d_Sp_init_28 : decode b_Sp_init 28 = .ok (.putfield 21, 3) := by decide +kernel
theorem d_Sp_init_31 : decode b_Sp_init 31 = .ok (.aload_n 0, 1) := by decide +kernel
theorem d_Sp_init_32 : decode b_Sp_init 32 = .ok (.new 18, 3) := by decide +kernel
theorem d_Sp_init_35 : decode b_Sp_init 35 = .ok (.dup, 1) := by decide +kernel
theorem d_Sp_init_36 : decode b_Sp_init 36 = .ok (.invokespecial 20, 3) := by decide +kernel
theorem d_Sp_init_39 : decode b_Sp_init 39 = .ok (.putfield 25, 3) := by decide +kernel
theorem d_Sp_init_42 : decode b_Sp_init 42 = .ok (.aload_n 0, 1) := by decide +kernel
theorem d_Sp_init_43 : decode b_Sp_init 43 = .ok (.new 18, 3) := by decide +kernel
theorem d_Sp_init_46 : decode b_Sp_init 46 = .ok (.dup, 1) := by decide +kernel
theorem d_Sp_init_47 : decode b_Sp_init 47 = .ok (.invokespecial 20, 3) := by decide +kernel
theorem d_Sp_init_50 : decode b_Sp_init 50 = .ok (.putfield 28, 3) := by decide +kernel
theorem d_Sp_init_53 : decode b_Sp_init 53 = .ok (.aload_n 0, 1) := by decide +kernel
theorem d_Sp_init_54 : decode b_Sp_init 54 = .ok (.getfield 9, 3) := by decide +kernel
theorem d_Sp_init_57 : decode b_Sp_init 57 = .ok (.iconst 1, 1) := by decide +kernel
theorem d_Sp_init_58 : decode b_Sp_init 58 = .ok (.invokestatic 31, 3) := by decide +kernel
theorem d_Sp_init_61 : decode b_Sp_init 61 = .ok (.aload_n 0, 1) := by decide +kernel
theorem d_Sp_init_62 : decode b_Sp_init 62 = .ok (.getfield 21, 3) := by decide +kernel
theorem d_Sp_init_65 : decode b_Sp_init 65 = .ok (.invokevirtual 37, 3) := by decide +kernel
theorem d_Sp_init_68 : decode b_Sp_init 68 = .ok (.aload_n 0, 1) := by decide +kernel
theorem d_Sp_init_69 : decode b_Sp_init 69 = .ok (.invokevirtual 40, 3) := by decide +kernel
theorem d_Sp_init_72 : decode b_Sp_init 72 = .ok (.return_, 1) := by decide +kernel
theorem d_NS_init_0 : decode b_NS_init 0 = .ok (.aload_n 0, 1) := by decide +kernel
theorem d_NS_init_1 : decode b_NS_init 1 = .ok (.invokespecial 3, 3) := by decide +kernel
theorem d_NS_init_4 : decode b_NS_init 4 = .ok (.aload_n 0, 1) := by decide +kernel
theorem d_NS_init_5 : decode b_NS_init 5 = .ok (.bipush 64, 2) := by decide +kernel
theorem d_NS_init_7 : decode b_NS_init 7 = .ok (.newarray .long, 2) := by decide +kernel
theorem d_NS_init_9 : decode b_NS_init 9 = .ok (.putfield 9, 3) := by decide +kernel
theorem d_NS_init_12 : decode b_NS_init 12 = .ok (.return_, 1) := by decide +kernel
theorem d_JA_fillI_0 : decode b_JA_fillI 0 = .ok (.iconst 0, 1) := by decide +kernel
theorem d_JA_fillI_1 : decode b_JA_fillI 1 = .ok (.istore_n 2, 1) := by decide +kernel
theorem d_JA_fillI_2 : decode b_JA_fillI 2 = .ok (.aload_n 0, 1) := by decide +kernel
theorem d_JA_fillI_3 : decode b_JA_fillI 3 = .ok (.arraylength, 1) := by decide +kernel
theorem d_JA_fillI_4 : decode b_JA_fillI 4 = .ok (.istore_n 3, 1) := by decide +kernel
theorem d_JA_fillI_5 : decode b_JA_fillI 5 = .ok (.iload_n 2, 1) := by decide +kernel
theorem d_JA_fillI_6 : decode b_JA_fillI 6 = .ok (.iload_n 3, 1) := by decide +kernel
theorem d_JA_fillI_7 : decode b_JA_fillI 7 = .ok (.if_icmp .ge 13, 3) := by decide +kernel
theorem d_JA_fillI_10 : decode b_JA_fillI 10 = .ok (.aload_n 0, 1) := by decide +kernel
theorem d_JA_fillI_11 : decode b_JA_fillI 11 = .ok (.iload_n 2, 1) := by decide +kernel
theorem d_JA_fillI_12 : decode b_JA_fillI 12 = .ok (.iload_n 1, 1) := by decide +kernel
theorem d_JA_fillI_13 : decode b_JA_fillI 13 = .ok (.iastore, 1) := by decide +kernel
theorem d_JA_fillI_14 : decode b_JA_fillI 14 = .ok (.iinc 2 1, 3) := by decide +kernel
theorem d_JA_fillI_17 : decode b_JA_fillI 17 = .ok (.goto (-12), 3) := by decide +kernel
theorem d_JA_fillI_20 : decode b_JA_fillI 20 = .ok (.return_, 1) := by decide +kernel
theorem d_NS_becomeAll_0 : decode b_NS_becomeAll 0 = .ok (.aload_n 0, 1) := by decide +kernel
theorem d_NS_becomeAll_1 : decode b_NS_becomeAll 1 = .ok (.getfield 9, 3) := by decide +kernel
theorem d_NS_becomeAll_4 : decode b_NS_becomeAll 4 = .ok (.ldc2_w 33, 3) := by decide +kernel
theorem d_NS_becomeAll_7 : decode b_NS_becomeAll 7 = .ok (.invokestatic 45, 3) := by decide +kernel
theorem d_NS_becomeAll_10 : decode b_NS_becomeAll 10 = .ok (.return_, 1) := by decide +kernel
theorem d_JA_fillL_0 : decode b_JA_fillL 0 = .ok (.iconst 0, 1) := by decide +kernel
theorem d_JA_fillL_1 : decode b_JA_fillL 1 = .ok (.istore_n 3, 1) := by decide +kernel
theorem d_JA_fillL_2 : decode b_JA_fillL 2 = .ok (.aload_n 0, 1) := by decide +kernel
theorem d_JA_fillL_3 : decode b_JA_fillL 3 = .ok (.arraylength, 1) := by decide +kernel
theorem d_JA_fillL_4 : decode b_JA_fillL 4 = .ok (.istore 4, 2) := by decide +kernel
theorem d_JA_fillL_6 : decode b_JA_fillL 6 = .ok (.iload_n 3, 1) := by decide +kernel
theorem d_JA_fillL_7 : decode b_JA_fillL 7 = .ok (.iload 4, 2) := by decide +kernel
theorem d_JA_fillL_9 : decode b_JA_fillL 9 = .ok (.if_icmp .ge 13, 3) := by decide +kernel
theorem d_JA_fillL_12 : decode b_JA_fillL 12 = .ok (.aload_n 0, 1) := by decide +kernel
theorem d_JA_fillL_13 : decode b_JA_fillL 13 = .ok (.iload_n 3, 1) := by decide +kernel
theorem d_JA_fillL_14 : decode b_JA_fillL 14 = .ok (.lload_n 1, 1) := by decide +kernel
theorem d_JA_fillL_15 : decode b_JA_fillL 15 = .ok (.lastore, 1) := by decide +kernel
theorem d_JA_fillL_16 : decode b_JA_fillL 16 = .ok (.iinc 3 1, 3) := by decide +kernel
theorem d_JA_fillL_19 : decode b_JA_fillL 19 = .ok (.goto (-13), 3) := by decide +kernel
theorem d_JA_fillL_22 : decode b_JA_fillL 22 = .ok (.return_, 1) := by decide +kernel
theorem d_Sp_sortRows_0 : decode b_Sp_sortRows 0 = .ok (.iconst 0, 1) := by decide +kernel
theorem d_Sp_sortRows_1 : decode b_Sp_sortRows 1 = .ok (.istore_n 1, 1) := by decide +kernel
theorem d_Sp_sortRows_2 : decode b_Sp_sortRows 2 = .ok (.iload_n 1, 1) := by decide +kernel
theorem d_Sp_sortRows_3 : decode b_Sp_sortRows 3 = .ok (.bipush 64, 2) := by decide +kernel
theorem d_Sp_sortRows_5 : decode b_Sp_sortRows 5 = .ok (.if_icmp .ge 110, 3) := by decide +kernel
theorem d_Sp_sortRows_8 : decode b_Sp_sortRows 8 = .ok (.aload_n 0, 1) := by decide +kernel
theorem d_Sp_sortRows_9 : decode b_Sp_sortRows 9 = .ok (.getfield 21, 3) := by decide +kernel
theorem d_Sp_sortRows_12 : decode b_Sp_sortRows 12 = .ok (.getfield 54, 3) := by decide +kernel
theorem d_Sp_sortRows_15 : decode b_Sp_sortRows 15 = .ok (.iload_n 1, 1) := by decide +kernel
theorem d_Sp_sortRows_16 : decode b_Sp_sortRows 16 = .ok (.laload, 1) := by decide +kernel
theorem d_Sp_sortRows_17 : decode b_Sp_sortRows 17 = .ok (.lstore_n 2, 1) := by decide +kernel
theorem d_Sp_sortRows_18 : decode b_Sp_sortRows 18 = .ok (.lconst 0, 1) := by decide +kernel
theorem d_Sp_sortRows_19 : decode b_Sp_sortRows 19 = .ok (.lstore 4, 2) := by decide +kernel
theorem d_Sp_sortRows_21 : decode b_Sp_sortRows 21 = .ok (.iconst 0, 1) := by decide +kernel
theorem d_Sp_sortRows_22 : decode b_Sp_sortRows 22 = .ok (.istore 6, 2) := by decide +kernel
theorem d_Sp_sortRows_24 : decode b_Sp_sortRows 24 = .ok (.iload 6, 2) := by decide +kernel
theorem d_Sp_sortRows_26 : decode b_Sp_sortRows 26 = .ok (.bipush 6, 2) := by decide +kernel
theorem d_Sp_sortRows_28 : decode b_Sp_sortRows 28 = .ok (.if_icmp .ge 60, 3) := by decide +kernel
theorem d_Sp_sortRows_31 : decode b_Sp_sortRows 31 = .ok (.aload_n 0, 1) := by decide +kernel
theorem d_Sp_sortRows_32 : decode b_Sp_sortRows 32 = .ok (.iload 6, 2) := by decide +kernel
theorem d_Sp_sortRows_34 : decode b_Sp_sortRows 34 = .ok (.aload_n 0, 1) := by decide +kernel
theorem d_Sp_sortRows_35 : decode b_Sp_sortRows 35 = .ok (.getfield 15, 3) := by decide +kernel
theorem d_Sp_sortRows_38 : decode b_Sp_sortRows 38 = .ok (.iload 6, 2) := by decide +kernel
theorem d_Sp_sortRows_40 : decode b_Sp_sortRows 40 = .ok (.iaload, 1) := by decide +kernel
theorem d_Sp_sortRows_41 : decode b_Sp_sortRows 41 = .ok (.iconst (-1), 1) := by decide +kernel
theorem d_Sp_sortRows_42 : decode b_Sp_sortRows 42 = .ok (.ixor, 1) := by decide +kernel
theorem d_Sp_sortRows_43 : decode b_Sp_sortRows 43 = .ok (.iload_n 1, 1) := by decide +kernel
theorem d_Sp_sortRows_44 : decode b_Sp_sortRows 44 = .ok (.invokevirtual 58, 3) := by decide +kernel
theorem d_Sp_sortRows_47 : decode b_Sp_sortRows 47 = .ok (.lstore 7, 2) := by decide +kernel
theorem d_Sp_sortRows_49 : decode b_Sp_sortRows 49 = .ok (.aload_n 0, 1) := by decide +kernel
theorem d_Sp_sortRows_50 : decode b_Sp_sortRows 50 = .ok (.iload 6, 2) := by decide +kernel
theorem d_Sp_sortRows_52 : decode b_Sp_sortRows 52 = .ok (.aload_n 0, 1) := by decide +kernel
theorem d_Sp_sortRows_53 : decode b_Sp_sortRows 53 = .ok (.getfield 15, 3) := by decide +kernel
theorem d_Sp_sortRows_56 : decode b_Sp_sortRows 56 = .ok (.iload 6, 2) := by decide +kernel
theorem d_Sp_sortRows_58 : decode b_Sp_sortRows 58 = .ok (.iaload, 1) := by decide +kernel
theorem d_Sp_sortRows_59 : decode b_Sp_sortRows 59 = .ok (.iload_n 1, 1) := by decide +kernel
theorem d_Sp_sortRows_60 : decode b_Sp_sortRows 60 = .ok (.invokevirtual 58, 3) := by decide +kernel
theorem d_Sp_sortRows_63 : decode b_Sp_sortRows 63 = .ok (.lstore 9, 2) := by decide +kernel
theorem d_Sp_sortRows_65 : decode b_Sp_sortRows 65 = .ok (.lload 4, 2) := by decide +kernel
theorem d_Sp_sortRows_67 : decode b_Sp_sortRows 67 = .ok (.lload 7, 2) := by decide +kernel
theorem d_Sp_sortRows_69 : decode b_Sp_sortRows 69 = .ok (.land, 1) := by decide +kernel
theorem d_Sp_sortRows_70 : decode b_Sp_sortRows 70 = .ok (.lload_n 2, 1) := by decide +kernel
theorem d_Sp_sortRows_71 : decode b_Sp_sortRows 71 = .ok (.lload 9, 2) := by decide +kernel
theorem d_Sp_sortRows_73 : decode b_Sp_sortRows 73 = .ok (.land, 1) := by decide +kernel
theorem d_Sp_sortRows_74 : decode b_Sp_sortRows 74 = .ok (.lor, 1) := by decide +kernel
theorem d_Sp_sortRows_75 : decode b_Sp_sortRows 75 = .ok (.lstore 4, 2) := by decide +kernel
theorem d_Sp_sortRows_77 : decode b_Sp_sortRows 77 = .ok (.lload_n 2, 1) := by decide +kernel
theorem d_Sp_sortRows_78 : decode b_Sp_sortRows 78 = .ok (.lload 7, 2) := by decide +kernel
theorem d_Sp_sortRows_80 : decode b_Sp_sortRows 80 = .ok (.land, 1) := by decide +kernel
theorem d_Sp_sortRows_81 : decode b_Sp_sortRows 81 = .ok (.lstore_n 2, 1) := by decide +kernel
theorem d_Sp_sortRows_82 : decode b_Sp_sortRows 82 = .ok (.iinc 6 1, 3) := by decide +kernel
theorem d_Sp_sortRows_85 : decode b_Sp_sortRows 85 = .ok (.goto (-61), 3) := by decide +kernel
theorem d_Sp_sortRows_88 : decode b_Sp_sortRows 88 = .ok (.aload_n 0, 1) := by decide +kernel
theorem d_Sp_sortRows_89 : decode b_Sp_sortRows 89 = .ok (.getfield 25, 3) := by decide +kernel
theorem d_Sp_sortRows_92 : decode b_Sp_sortRows 92 = .ok (.getfield 54, 3) := by decide +kernel
theorem d_Sp_sortRows_95 : decode b_Sp_sortRows 95 = .ok (.iload_n 1, 1) := by decide +kernel
theorem d_Sp_sortRows_96 : decode b_Sp_sortRows 96 = .ok (.lload_n 2, 1) := by decide +kernel
theorem d_Sp_sortRows_97 : decode b_Sp_sortRows 97 = .ok (.lastore, 1) := by decide +kernel
theorem d_Sp_sortRows_98 : decode b_Sp_sortRows 98 = .ok (.aload_n 0, 1) := by decide +kernel
theorem d_Sp_sortRows_99 : decode b_Sp_sortRows 99 = .ok (.getfield 28, 3) := by decide +kernel
theorem d_Sp_sortRows_102 : decode b_Sp_sortRows 102 = .ok (.getfield 54, 3) := by decide +kernel
theorem d_Sp_sortRows_105 : decode b_Sp_sortRows 105 = .ok (.iload_n 1, 1) := by decide +kernel
theorem d_Sp_sortRows_106 : decode b_Sp_sortRows 106 = .ok (.lload 4, 2) := by decide +kernel
theorem d_Sp_sortRows_108 : decode b_Sp_sortRows 108 = .ok (.lastore, 1) := by decide +kernel
theorem d_Sp_sortRows_109 : decode b_Sp_sortRows 109 = .ok (.iinc 1 1, 3) := by decide +kernel
theorem d_Sp_sortRows_112 : decode b_Sp_sortRows 112 = .ok (.goto (-110), 3) := by decide +kernel
theorem d_Sp_sortRows_115 : decode b_Sp_sortRows 115 = .ok (.return_, 1) := by decide +kernel
theorem d_Sp_wordWith_0 : decode b_Sp_wordWith 0 = .ok (.lconst 0, 1) := by decide +kernel
theorem d_Sp_wordWith_1 : decode b_Sp_wordWith 1 = .ok (.lstore 4, 2) := by decide +kernel
theorem d_Sp_wordWith_3 : decode b_Sp_wordWith 3 = .ok (.iconst 0, 1) := by decide +kernel
theorem d_Sp_wordWith_4 : decode b_Sp_wordWith 4 = .ok (.istore 6, 2) := by decide +kernel
theorem d_Sp_wordWith_6 : decode b_Sp_wordWith 6 = .ok (.iload 6, 2) := by decide +kernel
theorem d_Sp_wordWith_8 : decode b_Sp_wordWith 8 = .ok (.aload_n 0, 1) := by decide +kernel
theorem d_Sp_wordWith_9 : decode b_Sp_wordWith 9 = .ok (.getfield 9, 3) := by decide +kernel
theorem d_Sp_wordWith_12 : decode b_Sp_wordWith 12 = .ok (.iload_n 1, 1) := by decide +kernel
theorem d_Sp_wordWith_13 : decode b_Sp_wordWith 13 = .ok (.iaload, 1) := by decide +kernel
theorem d_Sp_wordWith_14 : decode b_Sp_wordWith 14 = .ok (.if_icmp .ge 30, 3) := by decide +kernel
theorem d_Sp_wordWith_17 : decode b_Sp_wordWith 17 = .ok (.iload_n 2, 1) := by decide +kernel
theorem d_Sp_wordWith_18 : decode b_Sp_wordWith 18 = .ok (.iload 6, 2) := by decide +kernel
theorem d_Sp_wordWith_20 : decode b_Sp_wordWith 20 = .ok (.ishr, 1) := by decide +kernel
theorem d_Sp_wordWith_21 : decode b_Sp_wordWith 21 = .ok (.iconst 1, 1) := by decide +kernel
theorem d_Sp_wordWith_22 : decode b_Sp_wordWith 22 = .ok (.iand, 1) := by decide +kernel
theorem d_Sp_wordWith_23 : decode b_Sp_wordWith 23 = .ok (.ifCond .eq 15, 3) := by decide +kernel
theorem d_Sp_wordWith_26 : decode b_Sp_wordWith 26 = .ok (.lload 4, 2) := by decide +kernel
theorem d_Sp_wordWith_28 : decode b_Sp_wordWith 28 = .ok (.iload_n 1, 1) := by decide +kernel
theorem d_Sp_wordWith_29 : decode b_Sp_wordWith 29 = .ok (.iload 6, 2) := by decide +kernel
theorem d_Sp_wordWith_31 : decode b_Sp_wordWith 31 = .ok (.iload_n 3, 1) := by decide +kernel
theorem d_Sp_wordWith_32 : decode b_Sp_wordWith 32 = .ok (.invokestatic 62, 3) := by decide +kernel
theorem d_Sp_wordWith_35 : decode b_Sp_wordWith 35 = .ok (.lor, 1) := by decide +kernel
theorem d_Sp_wordWith_36 : decode b_Sp_wordWith 36 = .ok (.lstore 4, 2) := by decide +kernel
theorem d_Sp_wordWith_38 : decode b_Sp_wordWith 38 = .ok (.iinc 6 1, 3) := by decide +kernel
theorem d_Sp_wordWith_41 : decode b_Sp_wordWith 41 = .ok (.goto (-35), 3) := by decide +kernel
theorem d_Sp_wordWith_44 : decode b_Sp_wordWith 44 = .ok (.lload 4, 2) := by decide +kernel
theorem d_Sp_wordWith_46 : decode b_Sp_wordWith 46 = .ok (.lreturn, 1) := by decide +kernel
theorem d_NS_wordOf_0 : decode b_NS_wordOf 0 = .ok (.iload_n 0, 1) := by decide +kernel
theorem d_NS_wordOf_1 : decode b_NS_wordOf 1 = .ok (.iconst 3, 1) := by decide +kernel
theorem d_NS_wordOf_2 : decode b_NS_wordOf 2 = .ok (.if_icmp .ge 15, 3) := by decide +kernel
theorem d_NS_wordOf_5 : decode b_NS_wordOf 5 = .ok (.getstatic 38, 3) := by decide +kernel
theorem d_NS_wordOf_8 : decode b_NS_wordOf 8 = .ok (.iload_n 0, 1) := by decide +kernel
theorem d_NS_wordOf_9 : decode b_NS_wordOf 9 = .ok (.laload, 1) := by decide +kernel
theorem d_NS_wordOf_10 : decode b_NS_wordOf 10 = .ok (.iload_n 1, 1) := by decide +kernel
theorem d_NS_wordOf_11 : decode b_NS_wordOf 11 = .ok (.iconst 2, 1) := by decide +kernel
theorem d_NS_wordOf_12 : decode b_NS_wordOf 12 = .ok (.iload_n 0, 1) := by decide +kernel
theorem d_NS_wordOf_13 : decode b_NS_wordOf 13 = .ok (.imul, 1) := by decide +kernel
theorem d_NS_wordOf_14 : decode b_NS_wordOf 14 = .ok (.ishl, 1) := by decide +kernel
theorem d_NS_wordOf_15 : decode b_NS_wordOf 15 = .ok (.lshl, 1) := by decide +kernel
theorem d_NS_wordOf_16 : decode b_NS_wordOf 16 = .ok (.lreturn, 1) := by decide +kernel
theorem d_NS_wordOf_17 : decode b_NS_wordOf 17 = .ok (.iload_n 0, 1) := by decide +kernel
theorem d_NS_wordOf_18 : decode b_NS_wordOf 18 = .ok (.iconst 3, 1) := by decide +kernel
theorem d_NS_wordOf_19 : decode b_NS_wordOf 19 = .ok (.isub, 1) := by decide +kernel
theorem d_NS_wordOf_20 : decode b_NS_wordOf 20 = .ok (.iload_n 2, 1) := by decide +kernel
theorem d_NS_wordOf_21 : decode b_NS_wordOf 21 = .ok (.invokestatic 35, 3) := by decide +kernel
theorem d_NS_wordOf_24 : decode b_NS_wordOf 24 = .ok (.iload_n 1, 1) := by decide +kernel
theorem d_NS_wordOf_25 : decode b_NS_wordOf 25 = .ok (.if_icmp .ne 9, 3) := by decide +kernel
theorem d_NS_wordOf_28 : decode b_NS_wordOf 28 = .ok (.ldc2_w 33, 3) := by decide +kernel
theorem d_NS_wordOf_31 : decode b_NS_wordOf 31 = .ok (.goto 4, 3) := by decide +kernel
theorem d_NS_wordOf_34 : decode b_NS_wordOf 34 = .ok (.lconst 0, 1) := by decide +kernel
theorem d_NS_wordOf_35 : decode b_NS_wordOf 35 = .ok (.lreturn, 1) := by decide +kernel
theorem d_CR_valueOf_0 : decode b_CR_valueOf 0 = .ok (.iload_n 1, 1) := by decide +kernel
theorem d_CR_valueOf_1 : decode b_CR_valueOf 1 = .ok (.iconst 2, 1) := by decide +kernel
theorem d_CR_valueOf_2 : decode b_CR_valueOf 2 = .ok (.iload_n 0, 1) := by decide +kernel
theorem d_CR_valueOf_3 : decode b_CR_valueOf 3 = .ok (.imul, 1) := by decide +kernel
theorem d_CR_valueOf_4 : decode b_CR_valueOf 4 = .ok (.ishr, 1) := by decide +kernel
theorem d_CR_valueOf_5 : decode b_CR_valueOf 5 = .ok (.iconst 3, 1) := by decide +kernel
theorem d_CR_valueOf_6 : decode b_CR_valueOf 6 = .ok (.iand, 1) := by decide +kernel
theorem d_CR_valueOf_7 : decode b_CR_valueOf 7 = .ok (.ireturn, 1) := by decide +kernel
theorem d_Re_init_0 : decode b_Re_init 0 = .ok (.aload_n 0, 1) := by decide +kernel
theorem d_Re_init_1 : decode b_Re_init 1 = .ok (.invokespecial 3, 3) := by decide +kernel
theorem d_Re_init_4 : decode b_Re_init 4 = .ok (.return_, 1) := by decide +kernel
theorem d_Te_init_0 : decode b_Te_init 0 = .ok (.aload_n 0, 1) := by decide +kernel
theorem d_Te_init_1 : decode b_Te_init 1 = .ok (.invokespecial 3, 3) := by decide +kernel
theorem d_Te_init_4 : decode b_Te_init 4 = .ok (.aload_n 0, 1) := by decide +kernel
theorem d_Te_init_5 : decode b_Te_init 5 = .ok (.bipush 8, 2) := by decide +kernel
theorem d_Te_init_7 : decode b_Te_init 7 = .ok (.anewarray 9, 3) := by decide +kernel
theorem d_Te_init_10 : decode b_Te_init 10 = .ok (.putfield 11, 3) := by decide +kernel
theorem d_Te_init_13 : decode b_Te_init 13 = .ok (.aload_n 0, 1) := by decide +kernel
theorem d_Te_init_14 : decode b_Te_init 14 = .ok (.bipush 8, 2) := by decide +kernel
theorem d_Te_init_16 : decode b_Te_init 16 = .ok (.newarray .int, 2) := by decide +kernel
theorem d_Te_init_18 : decode b_Te_init 18 = .ok (.putfield 17, 3) := by decide +kernel
theorem d_Te_init_21 : decode b_Te_init 21 = .ok (.iconst 0, 1) := by decide +kernel
theorem d_Te_init_22 : decode b_Te_init 22 = .ok (.istore_n 1, 1) := by decide +kernel
theorem d_Te_init_23 : decode b_Te_init 23 = .ok (.iload_n 1, 1) := by decide +kernel
theorem d_Te_init_24 : decode b_Te_init 24 = .ok (.bipush 8, 2) := by decide +kernel
theorem d_Te_init_26 : decode b_Te_init 26 = .ok (.if_icmp .ge 22, 3) := by decide +kernel
theorem d_Te_init_29 : decode b_Te_init 29 = .ok (.aload_n 0, 1) := by decide +kernel
theorem d_Te_init_30 : decode b_Te_init 30 = .ok (.getfield 11, 3) := by decide +kernel
theorem d_Te_init_33 : decode b_Te_init 33 = .ok (.iload_n 1, 1) := by decide +kernel
theorem d_Te_init_34 : decode b_Te_init 34 = .ok (.new 9, 3) := by decide +kernel
theorem d_Te_init_37 : decode b_Te_init 37 = .ok (.dup, 1) := by decide +kernel
theorem d_Te_init_38 : decode b_Te_init 38 = .ok (.invokespecial 21, 3) := by decide +kernel
theorem d_Te_init_41 : decode b_Te_init 41 = .ok (.aastore, 1) := by decide +kernel
theorem d_Te_init_42 : decode b_Te_init 42 = .ok (.iinc 1 1, 3) := by decide +kernel
theorem d_Te_init_45 : decode b_Te_init 45 = .ok (.goto (-22), 3) := by decide +kernel
theorem d_Te_init_48 : decode b_Te_init 48 = .ok (.return_, 1) := by decide +kernel
theorem d_Ge_init_0 : decode b_Ge_init 0 = .ok (.aload_n 0, 1) := by decide +kernel
theorem d_Ge_init_1 : decode b_Ge_init 1 = .ok (.invokespecial 3, 3) := by decide +kernel
theorem d_Ge_init_4 : decode b_Ge_init 4 = .ok (.aload_n 0, 1) := by decide +kernel
theorem d_Ge_init_5 : decode b_Ge_init 5 = .ok (.bipush 64, 2) := by decide +kernel
theorem d_Ge_init_7 : decode b_Ge_init 7 = .ok (.newarray .long, 2) := by decide +kernel
theorem d_Ge_init_9 : decode b_Ge_init 9 = .ok (.putfield 9, 3) := by decide +kernel
theorem d_Ge_init_12 : decode b_Ge_init 12 = .ok (.aload_n 0, 1) := by decide +kernel
theorem d_Ge_init_13 : decode b_Ge_init 13 = .ok (.sipush 4096, 3) := by decide +kernel
theorem d_Ge_init_16 : decode b_Ge_init 16 = .ok (.newarray .int, 2) := by decide +kernel
theorem d_Ge_init_18 : decode b_Ge_init 18 = .ok (.putfield 15, 3) := by decide +kernel
theorem d_Ge_init_21 : decode b_Ge_init 21 = .ok (.aload_n 0, 1) := by decide +kernel
theorem d_Ge_init_22 : decode b_Ge_init 22 = .ok (.sipush 520, 3) := by decide +kernel
theorem d_Ge_init_25 : decode b_Ge_init 25 = .ok (.newarray .int, 2) := by decide +kernel
theorem d_Ge_init_27 : decode b_Ge_init 27 = .ok (.putfield 19, 3) := by decide +kernel
theorem d_Ge_init_30 : decode b_Ge_init 30 = .ok (.aload_n 0, 1) := by decide +kernel
theorem d_Ge_init_31 : decode b_Ge_init 31 = .ok (.sipush 520, 3) := by decide +kernel
theorem d_Ge_init_34 : decode b_Ge_init 34 = .ok (.newarray .int, 2) := by decide +kernel
theorem d_Ge_init_36 : decode b_Ge_init 36 = .ok (.putfield 22, 3) := by decide +kernel
theorem d_Ge_init_39 : decode b_Ge_init 39 = .ok (.aload_n 0, 1) := by decide +kernel
theorem d_Ge_init_40 : decode b_Ge_init 40 = .ok (.aload_n 1, 1) := by decide +kernel
theorem d_Ge_init_41 : decode b_Ge_init 41 = .ok (.putfield 25, 3) := by decide +kernel
theorem d_Ge_init_44 : decode b_Ge_init 44 = .ok (.aload_n 0, 1) := by decide +kernel
theorem d_Ge_init_45 : decode b_Ge_init 45 = .ok (.aload_n 2, 1) := by decide +kernel
theorem d_Ge_init_46 : decode b_Ge_init 46 = .ok (.putfield 29, 3) := by decide +kernel
theorem d_Ge_init_49 : decode b_Ge_init 49 = .ok (.return_, 1) := by decide +kernel
theorem d_CR_parameter_0 : decode b_CR_parameter 0 = .ok (.aload_n 0, 1) := by decide +kernel
theorem d_CR_parameter_1 : decode b_CR_parameter 1 = .ok (.getfield 43, 3) := by decide +kernel
theorem d_CR_parameter_4 : decode b_CR_parameter 4 = .ok (.ifCond .eq 5, 3) := by decide +kernel
theorem d_CR_parameter_7 : decode b_CR_parameter 7 = .ok (.iconst (-1), 1) := by decide +kernel
theorem d_CR_parameter_8 : decode b_CR_parameter 8 = .ok (.ireturn, 1) := by decide +kernel
theorem d_CR_parameter_9 : decode b_CR_parameter 9 = .ok (.iload_n 1, 1) := by decide +kernel
theorem d_CR_parameter_10 : decode b_CR_parameter 10 = .ok (.iconst 2, 1) := by decide +kernel
theorem d_CR_parameter_11 : decode b_CR_parameter 11 = .ok (.if_icmp .lt 20, 3) := by decide +kernel
theorem d_CR_parameter_14 : decode b_CR_parameter 14 = .ok (.iload_n 1, 1) := by decide +kernel
theorem d_CR_parameter_15 : decode b_CR_parameter 15 = .ok (.iconst 4, 1) := by decide +kernel
theorem d_CR_parameter_16 : decode b_CR_parameter 16 = .ok (.if_icmp .gt 15, 3) := by decide +kernel
theorem d_CR_parameter_19 : decode b_CR_parameter 19 = .ok (.aload_n 0, 1) := by decide +kernel
theorem d_CR_parameter_20 : decode b_CR_parameter 20 = .ok (.getfield 12, 3) := by decide +kernel
theorem d_CR_parameter_23 : decode b_CR_parameter 23 = .ok (.getfield 47, 3) := by decide +kernel
theorem d_CR_parameter_26 : decode b_CR_parameter 26 = .ok (.bipush 6, 2) := by decide +kernel
theorem d_CR_parameter_28 : decode b_CR_parameter 28 = .ok (.if_icmp .ne 6, 3) := by decide +kernel
theorem d_CR_parameter_31 : decode b_CR_parameter 31 = .ok (.bipush (-2), 2) := by decide +kernel
theorem d_CR_parameter_33 : decode b_CR_parameter 33 = .ok (.ireturn, 1) := by decide +kernel
theorem d_CR_parameter_34 : decode b_CR_parameter 34 = .ok (.aload_n 0, 1) := by decide +kernel
theorem d_CR_parameter_35 : decode b_CR_parameter 35 = .ok (.getfield 12, 3) := by decide +kernel
theorem d_CR_parameter_38 : decode b_CR_parameter 38 = .ok (.iload_n 1, 1) := by decide +kernel
theorem d_CR_parameter_39 : decode b_CR_parameter 39 = .ok (.invokevirtual 51, 3) := by decide +kernel
theorem d_CR_parameter_42 : decode b_CR_parameter 42 = .ok (.aload_n 0, 1) := by decide +kernel
theorem d_CR_parameter_43 : decode b_CR_parameter 43 = .ok (.getfield 12, 3) := by decide +kernel
theorem d_CR_parameter_46 : decode b_CR_parameter 46 = .ok (.getfield 47, 3) := by decide +kernel
theorem d_CR_parameter_49 : decode b_CR_parameter 49 = .ok (.iconst 1, 1) := by decide +kernel
theorem d_CR_parameter_50 : decode b_CR_parameter 50 = .ok (.isub, 1) := by decide +kernel
theorem d_CR_parameter_51 : decode b_CR_parameter 51 = .ok (.ireturn, 1) := by decide +kernel
theorem d_Sp_addParameter_0 : decode b_Sp_addParameter 0 = .ok (.aload_n 0, 1) := by decide +kernel
theorem d_Sp_addParameter_1 : decode b_Sp_addParameter 1 = .ok (.getfield 9, 3) := by decide +kernel
theorem d_Sp_addParameter_4 : decode b_Sp_addParameter 4 = .ok (.aload_n 0, 1) := by decide +kernel
theorem d_Sp_addParameter_5 : decode b_Sp_addParameter 5 = .ok (.getfield 43, 3) := by decide +kernel
theorem d_Sp_addParameter_8 : decode b_Sp_addParameter 8 = .ok (.iload_n 1, 1) := by decide +kernel
theorem d_Sp_addParameter_9 : decode b_Sp_addParameter 9 = .ok (.iastore, 1) := by decide +kernel
theorem d_Sp_addParameter_10 : decode b_Sp_addParameter 10 = .ok (.aload_n 0, 1) := by decide +kernel
theorem d_Sp_addParameter_11 : decode b_Sp_addParameter 11 = .ok (.dup, 1) := by decide +kernel
theorem d_Sp_addParameter_12 : decode b_Sp_addParameter 12 = .ok (.getfield 43, 3) := by decide +kernel
theorem d_Sp_addParameter_15 : decode b_Sp_addParameter 15 = .ok (.iconst 1, 1) := by decide +kernel
theorem d_Sp_addParameter_16 : decode b_Sp_addParameter 16 = .ok (.iadd, 1) := by decide +kernel
theorem d_Sp_addParameter_17 : decode b_Sp_addParameter 17 = .ok (.putfield 43, 3) := by decide +kernel
theorem d_Sp_addParameter_20 : decode b_Sp_addParameter 20 = .ok (.aload_n 0, 1) := by decide +kernel
theorem d_Sp_addParameter_21 : decode b_Sp_addParameter 21 = .ok (.invokevirtual 40, 3) := by decide +kernel
theorem d_Sp_addParameter_24 : decode b_Sp_addParameter 24 = .ok (.return_, 1) := by decide +kernel
theorem d_CR_invalid_0 : decode b_CR_invalid 0 = .ok (.aload_n 0, 1) := by decide +kernel
theorem d_CR_invalid_1 : decode b_CR_invalid 1 = .ok (.getfield 43, 3) := by decide +kernel
theorem d_CR_invalid_4 : decode b_CR_invalid 4 = .ok (.ifCond .ne 27, 3) := by decide +kernel
theorem d_CR_invalid_7 : decode b_CR_invalid 7 = .ok (.aload_n 0, 1) := by decide +kernel
theorem d_CR_invalid_8 : decode b_CR_invalid 8 = .ok (.getfield 12, 3) := by decide +kernel
theorem d_CR_invalid_11 : decode b_CR_invalid 11 = .ok (.iload_n 1, 1) := by decide +kernel
theorem d_CR_invalid_12 : decode b_CR_invalid 12 = .ok (.iload_n 2, 1) := by decide +kernel
theorem d_CR_invalid_13 : decode b_CR_invalid 13 = .ok (.invokevirtual 55, 3) := by decide +kernel
theorem d_CR_invalid_16 : decode b_CR_invalid 16 = .ok (.ifCond .eq 15, 3) := by decide +kernel
theorem d_CR_invalid_19 : decode b_CR_invalid 19 = .ok (.aload_n 0, 1) := by decide +kernel
theorem d_CR_invalid_20 : decode b_CR_invalid 20 = .ok (.getfield 12, 3) := by decide +kernel
theorem d_CR_invalid_23 : decode b_CR_invalid 23 = .ok (.iload_n 1, 1) := by decide +kernel
theorem d_CR_invalid_24 : decode b_CR_invalid 24 = .ok (.iload_n 2, 1) := by decide +kernel
theorem d_CR_invalid_25 : decode b_CR_invalid 25 = .ok (.invokevirtual 59, 3) := by decide +kernel
theorem d_CR_invalid_28 : decode b_CR_invalid 28 = .ok (.ifCond .eq 5, 3) := by decide +kernel
theorem d_CR_invalid_31 : decode b_CR_invalid 31 = .ok (.iconst 0, 1) := by decide +kernel
theorem d_CR_invalid_32 : decode b_CR_invalid 32 = .ok (.ireturn, 1) := by decide +kernel
theorem d_CR_invalid_33 : decode b_CR_invalid 33 = .ok (.aload_n 0, 1) := by decide +kernel
theorem d_CR_invalid_34 : decode b_CR_invalid 34 = .ok (.getfield 12, 3) := by decide +kernel
theorem d_CR_invalid_37 : decode b_CR_invalid 37 = .ok (.iload_n 1, 1) := by decide +kernel
theorem d_CR_invalid_38 : decode b_CR_invalid 38 = .ok (.iload_n 2, 1) := by decide +kernel
theorem d_CR_invalid_39 : decode b_CR_invalid 39 = .ok (.invokevirtual 62, 3) := by decide +kernel
theorem d_CR_invalid_42 : decode b_CR_invalid 42 = .ok (.iconst 1, 1) := by decide +kernel
theorem d_CR_invalid_43 : decode b_CR_invalid 43 = .ok (.ireturn, 1) := by decide +kernel
theorem d_Sp_hasValue_0 : decode b_Sp_hasValue 0 = .ok (.iload_n 1, 1) := by decide +kernel
theorem d_Sp_hasValue_1 : decode b_Sp_hasValue 1 = .ok (.ifCond .lt 29, 3) := by decide +kernel
theorem d_Sp_hasValue_4 : decode b_Sp_hasValue 4 = .ok (.iload_n 1, 1) := by decide +kernel
theorem d_Sp_hasValue_5 : decode b_Sp_hasValue 5 = .ok (.aload_n 0, 1) := by decide +kernel
theorem d_Sp_hasValue_6 : decode b_Sp_hasValue 6 = .ok (.getfield 43, 3) := by decide +kernel
theorem d_Sp_hasValue_9 : decode b_Sp_hasValue 9 = .ok (.if_icmp .ge 21, 3) := by decide +kernel
theorem d_Sp_hasValue_12 : decode b_Sp_hasValue 12 = .ok (.iload_n 2, 1) := by decide +kernel
theorem d_Sp_hasValue_13 : decode b_Sp_hasValue 13 = .ok (.ifCond .lt 17, 3) := by decide +kernel
theorem d_Sp_hasValue_16 : decode b_Sp_hasValue 16 = .ok (.iload_n 2, 1) := by decide +kernel
theorem d_Sp_hasValue_17 : decode b_Sp_hasValue 17 = .ok (.aload_n 0, 1) := by decide +kernel
theorem d_Sp_hasValue_18 : decode b_Sp_hasValue 18 = .ok (.getfield 9, 3) := by decide +kernel
theorem d_Sp_hasValue_21 : decode b_Sp_hasValue 21 = .ok (.iload_n 1, 1) := by decide +kernel
theorem d_Sp_hasValue_22 : decode b_Sp_hasValue 22 = .ok (.iaload, 1) := by decide +kernel
theorem d_Sp_hasValue_23 : decode b_Sp_hasValue 23 = .ok (.if_icmp .ge 7, 3) := by decide +kernel
theorem d_Sp_hasValue_26 : decode b_Sp_hasValue 26 = .ok (.iconst 1, 1) := by decide +kernel
theorem d_Sp_hasValue_27 : decode b_Sp_hasValue 27 = .ok (.goto 4, 3) := by decide +kernel
theorem d_Sp_hasValue_30 : decode b_Sp_hasValue 30 = .ok (.iconst 0, 1) := by decide +kernel
theorem d_Sp_hasValue_31 : decode b_Sp_hasValue 31 = .ok (.ireturn, 1) := by decide +kernel
theorem d_Sp_isInvalid_0 : decode b_Sp_isInvalid 0 = .ok (.aload_n 0, 1) := by decide +kernel
theorem d_Sp_isInvalid_1 : decode b_Sp_isInvalid 1 = .ok (.getfield 15, 3) := by decide +kernel
theorem d_Sp_isInvalid_4 : decode b_Sp_isInvalid 4 = .ok (.iload_n 1, 1) := by decide +kernel
theorem d_Sp_isInvalid_5 : decode b_Sp_isInvalid 5 = .ok (.iaload, 1) := by decide +kernel
theorem d_Sp_isInvalid_6 : decode b_Sp_isInvalid 6 = .ok (.iload_n 2, 1) := by decide +kernel
theorem d_Sp_isInvalid_7 : decode b_Sp_isInvalid 7 = .ok (.ishr, 1) := by decide +kernel
theorem d_Sp_isInvalid_8 : decode b_Sp_isInvalid 8 = .ok (.iconst 1, 1) := by decide +kernel
theorem d_Sp_isInvalid_9 : decode b_Sp_isInvalid 9 = .ok (.iand, 1) := by decide +kernel
theorem d_Sp_isInvalid_10 : decode b_Sp_isInvalid 10 = .ok (.ifCond .eq 7, 3) := by decide +kernel
theorem d_Sp_isInvalid_13 : decode b_Sp_isInvalid 13 = .ok (.iconst 1, 1) := by decide +kernel
theorem d_Sp_isInvalid_14 : decode b_Sp_isInvalid 14 = .ok (.goto 4, 3) := by decide +kernel
theorem d_Sp_isInvalid_17 : decode b_Sp_isInvalid 17 = .ok (.iconst 0, 1) := by decide +kernel
theorem d_Sp_isInvalid_18 : decode b_Sp_isInvalid 18 = .ok (.ireturn, 1) := by decide +kernel
theorem d_Sp_makeInvalid_0 : decode b_Sp_makeInvalid 0 = .ok (.aload_n 0, 1) := by decide +kernel
theorem d_Sp_makeInvalid_1 : decode b_Sp_makeInvalid 1 = .ok (.getfield 15, 3) := by decide +kernel
theorem d_Sp_makeInvalid_4 : decode b_Sp_makeInvalid 4 = .ok (.iload_n 1, 1) := by decide +kernel
theorem d_Sp_makeInvalid_5 : decode b_Sp_makeInvalid 5 = .ok (.dup2, 1) := by decide +kernel
theorem d_Sp_makeInvalid_6 : decode b_Sp_makeInvalid 6 = .ok (.iaload, 1) := by decide +kernel
theorem d_Sp_makeInvalid_7 : decode b_Sp_makeInvalid 7 = .ok (.iconst 1, 1) := by decide +kernel
theorem d_Sp_makeInvalid_8 : decode b_Sp_makeInvalid 8 = .ok (.iload_n 2, 1) := by decide +kernel
theorem d_Sp_makeInvalid_9 : decode b_Sp_makeInvalid 9 = .ok (.ishl, 1) := by decide +kernel
theorem d_Sp_makeInvalid_10 : decode b_Sp_makeInvalid 10 = .ok (.ior, 1) := by decide +kernel
theorem d_Sp_makeInvalid_11 : decode b_Sp_makeInvalid 11 = .ok (.iastore, 1) := by decide +kernel
theorem d_Sp_makeInvalid_12 : decode b_Sp_makeInvalid 12 = .ok (.aload_n 0, 1) := by decide +kernel
theorem d_Sp_makeInvalid_13 : decode b_Sp_makeInvalid 13 = .ok (.invokevirtual 40, 3) := by decide +kernel
theorem d_Sp_makeInvalid_16 : decode b_Sp_makeInvalid 16 = .ok (.return_, 1) := by decide +kernel
theorem d_CR_relation_0 : decode b_CR_relation 0 = .ok (.aload_n 0, 1) := by decide +kernel
theorem d_CR_relation_1 : decode b_CR_relation 1 = .ok (.getfield 43, 3) := by decide +kernel
theorem d_CR_relation_4 : decode b_CR_relation 4 = .ok (.ifCond .eq 5, 3) := by decide +kernel
theorem d_CR_relation_7 : decode b_CR_relation 7 = .ok (.iconst (-1), 1) := by decide +kernel
theorem d_CR_relation_8 : decode b_CR_relation 8 = .ok (.ireturn, 1) := by decide +kernel
theorem d_CR_relation_9 : decode b_CR_relation 9 = .ok (.aload_n 0, 1) := by decide +kernel
theorem d_CR_relation_10 : decode b_CR_relation 10 = .ok (.getfield 12, 3) := by decide +kernel
theorem d_CR_relation_13 : decode b_CR_relation 13 = .ok (.iload_n 1, 1) := by decide +kernel
theorem d_CR_relation_14 : decode b_CR_relation 14 = .ok (.invokevirtual 66, 3) := by decide +kernel
theorem d_CR_relation_17 : decode b_CR_relation 17 = .ok (.ifCond .eq 21, 3) := by decide +kernel
theorem d_CR_relation_20 : decode b_CR_relation 20 = .ok (.iload_n 2, 1) := by decide +kernel
theorem d_CR_relation_21 : decode b_CR_relation 21 = .ok (.iconst 1, 1) := by decide +kernel
theorem d_CR_relation_22 : decode b_CR_relation 22 = .ok (.if_icmp .lt 16, 3) := by decide +kernel
theorem d_CR_relation_25 : decode b_CR_relation 25 = .ok (.iload_n 2, 1) := by decide +kernel
theorem d_CR_relation_26 : decode b_CR_relation 26 = .ok (.iconst 3, 1) := by decide +kernel
theorem d_CR_relation_27 : decode b_CR_relation 27 = .ok (.if_icmp .gt 11, 3) := by decide +kernel
theorem d_CR_relation_30 : decode b_CR_relation 30 = .ok (.iload_n 1, 1) := by decide +kernel
theorem d_CR_relation_31 : decode b_CR_relation 31 = .ok (.invokestatic 70, 3) := by decide +kernel
theorem d_CR_relation_34 : decode b_CR_relation 34 = .ok (.iload_n 2, 1) := by decide +kernel
theorem d_CR_relation_35 : decode b_CR_relation 35 = .ok (.if_icmp .ge 6, 3) := by decide +kernel
theorem d_CR_relation_38 : decode b_CR_relation 38 = .ok (.bipush (-2), 2) := by decide +kernel
theorem d_CR_relation_40 : decode b_CR_relation 40 = .ok (.ireturn, 1) := by decide +kernel
theorem d_CR_relation_41 : decode b_CR_relation 41 = .ok (.aload_n 0, 1) := by decide +kernel
theorem d_CR_relation_42 : decode b_CR_relation 42 = .ok (.getfield 19, 3) := by decide +kernel
theorem d_CR_relation_45 : decode b_CR_relation 45 = .ok (.getfield 76, 3) := by decide +kernel
theorem d_CR_relation_48 : decode b_CR_relation 48 = .ok (.bipush 8, 2) := by decide +kernel
theorem d_CR_relation_50 : decode b_CR_relation 50 = .ok (.if_icmp .ne 6, 3) := by decide +kernel
theorem d_CR_relation_53 : decode b_CR_relation 53 = .ok (.bipush (-3), 2) := by decide +kernel
theorem d_CR_relation_55 : decode b_CR_relation 55 = .ok (.ireturn, 1) := by decide +kernel
theorem d_CR_relation_56 : decode b_CR_relation 56 = .ok (.aload_n 0, 1) := by decide +kernel
theorem d_CR_relation_57 : decode b_CR_relation 57 = .ok (.getfield 19, 3) := by decide +kernel
theorem d_CR_relation_60 : decode b_CR_relation 60 = .ok (.iload_n 1, 1) := by decide +kernel
theorem d_CR_relation_61 : decode b_CR_relation 61 = .ok (.iload_n 2, 1) := by decide +kernel
theorem d_CR_relation_62 : decode b_CR_relation 62 = .ok (.invokevirtual 79, 3) := by decide +kernel
theorem d_CR_relation_65 : decode b_CR_relation 65 = .ok (.aload_n 0, 1) := by decide +kernel
theorem d_CR_relation_66 : decode b_CR_relation 66 = .ok (.getfield 19, 3) := by decide +kernel
theorem d_CR_relation_69 : decode b_CR_relation 69 = .ok (.getfield 76, 3) := by decide +kernel
theorem d_CR_relation_72 : decode b_CR_relation 72 = .ok (.ireturn, 1) := by decide +kernel
theorem d_Sp_isSet_0 : decode b_Sp_isSet 0 = .ok (.iload_n 1, 1) := by decide +kernel
theorem d_Sp_isSet_1 : decode b_Sp_isSet 1 = .ok (.ifCond .le 17, 3) := by decide +kernel
theorem d_Sp_isSet_4 : decode b_Sp_isSet 4 = .ok (.iload_n 1, 1) := by decide +kernel
theorem d_Sp_isSet_5 : decode b_Sp_isSet 5 = .ok (.iconst 1, 1) := by decide +kernel
theorem d_Sp_isSet_6 : decode b_Sp_isSet 6 = .ok (.aload_n 0, 1) := by decide +kernel
theorem d_Sp_isSet_7 : decode b_Sp_isSet 7 = .ok (.getfield 43, 3) := by decide +kernel
theorem d_Sp_isSet_10 : decode b_Sp_isSet 10 = .ok (.ishl, 1) := by decide +kernel
theorem d_Sp_isSet_11 : decode b_Sp_isSet 11 = .ok (.if_icmp .ge 7, 3) := by decide +kernel
theorem d_Sp_isSet_14 : decode b_Sp_isSet 14 = .ok (.iconst 1, 1) := by decide +kernel
theorem d_Sp_isSet_15 : decode b_Sp_isSet 15 = .ok (.goto 4, 3) := by decide +kernel
theorem d_Sp_isSet_18 : decode b_Sp_isSet 18 = .ok (.iconst 0, 1) := by decide +kernel
theorem d_Sp_isSet_19 : decode b_Sp_isSet 19 = .ok (.ireturn, 1) := by decide +kernel
theorem d_JI_bitCount_0 : decode b_JI_bitCount 0 = .ok (.iload_n 0, 1) := by decide +kernel
theorem d_JI_bitCount_1 : decode b_JI_bitCount 1 = .ok (.iload_n 0, 1) := by decide +kernel
theorem d_JI_bitCount_2 : decode b_JI_bitCount 2 = .ok (.iconst 1, 1) := by decide +kernel
theorem d_JI_bitCount_3 : decode b_JI_bitCount 3 = .ok (.iushr, 1) := by decide +kernel
theorem d_JI_bitCount_4 : decode b_JI_bitCount 4 = .ok (.ldc_w 265, 3) := by decide +kernel
theorem d_JI_bitCount_7 : decode b_JI_bitCount 7 = .ok (.iand, 1) := by decide +kernel
theorem d_JI_bitCount_8 : decode b_JI_bitCount 8 = .ok (.isub, 1) := by decide +kernel
theorem d_JI_bitCount_9 : decode b_JI_bitCount 9 = .ok (.istore_n 0, 1) := by decide +kernel
theorem d_JI_bitCount_10 : decode b_JI_bitCount 10 = .ok (.iload_n 0, 1) := by decide +kernel
theorem d_JI_bitCount_11 : decode b_JI_bitCount 11 = .ok (.ldc_w 266, 3) := by decide +kernel
theorem d_JI_bitCount_14 : decode b_JI_bitCount 14 = .ok (.iand, 1) := by decide +kernel
theorem d_JI_bitCount_15 : decode b_JI_bitCount 15 = .ok (.iload_n 0, 1) := by decide +kernel
theorem d_JI_bitCount_16 : decode b_JI_bitCount 16 = .ok (.iconst 2, 1) := by decide +kernel
theorem d_JI_bitCount_17 : decode b_JI_bitCount 17 = .ok (.iushr, 1) := by decide +kernel
theorem d_JI_bitCount_18 : decode b_JI_bitCount 18 = .ok (.ldc_w 266, 3) := by decide +kernel
theorem d_JI_bitCount_21 : decode b_JI_bitCount 21 = .ok (.iand, 1) := by decide +kernel
theorem d_JI_bitCount_22 : decode b_JI_bitCount 22 = .ok (.iadd, 1) := by decide +kernel
theorem d_JI_bitCount_23 : decode b_JI_bitCount 23 = .ok (.istore_n 0, 1) := by decide +kernel
theorem d_JI_bitCount_24 : decode b_JI_bitCount 24 = .ok (.iload_n 0, 1) := by decide +kernel
theorem d_JI_bitCount_25 : decode b_JI_bitCount 25 = .ok (.iload_n 0, 1) := by decide +kernel
theorem d_JI_bitCount_26 : decode b_JI_bitCount 26 = .ok (.iconst 4, 1) := by decide +kernel
theorem d_JI_bitCount_27 : decode b_JI_bitCount 27 = .ok (.iushr, 1) := by decide +kernel
theorem d_JI_bitCount_28 : decode b_JI_bitCount 28 = .ok (.iadd, 1) := by decide +kernel
theorem d_JI_bitCount_29 : decode b_JI_bitCount 29 = .ok (.ldc_w 267, 3) := by decide +kernel
theorem d_JI_bitCount_32 : decode b_JI_bitCount 32 = .ok (.iand, 1) := by decide +kernel
theorem d_JI_bitCount_33 : decode b_JI_bitCount 33 = .ok (.istore_n 0, 1) := by decide +kernel
theorem d_JI_bitCount_34 : decode b_JI_bitCount 34 = .ok (.iload_n 0, 1) := by decide +kernel
theorem d_JI_bitCount_35 : decode b_JI_bitCount 35 = .ok (.iload_n 0, 1) := by decide +kernel
theorem d_JI_bitCount_36 : decode b_JI_bitCount 36 = .ok (.bipush 8, 2) := by decide +kernel
theorem d_JI_bitCount_38 : decode b_JI_bitCount 38 = .ok (.iushr, 1) := by decide +kernel
theorem d_JI_bitCount_39 : decode b_JI_bitCount 39 = .ok (.iadd, 1) := by decide +kernel
theorem d_JI_bitCount_40 : decode b_JI_bitCount 40 = .ok (.istore_n 0, 1) := by decide +kernel
theorem d_JI_bitCount_41 : decode b_JI_bitCount 41 = .ok (.iload_n 0, 1) := by decide +kernel
theorem d_JI_bitCount_42 : decode b_JI_bitCount 42 = .ok (.iload_n 0, 1) := by decide +kernel
theorem d_JI_bitCount_43 : decode b_JI_bitCount 43 = .ok (.bipush 16, 2) := by decide +kernel
theorem d_JI_bitCount_45 : decode b_JI_bitCount 45 = .ok (.iushr, 1) := by decide +kernel
theorem d_JI_bitCount_46 : decode b_JI_bitCount 46 = .ok (.iadd, 1) := by decide +kernel
theorem d_JI_bitCount_47 : decode b_JI_bitCount 47 = .ok (.istore_n 0, 1) := by decide +kernel
theorem d_JI_bitCount_48 : decode b_JI_bitCount 48 = .ok (.iload_n 0, 1) := by decide +kernel
theorem d_JI_bitCount_49 : decode b_JI_bitCount 49 = .ok (.bipush 63, 2) := by decide +kernel
theorem d_JI_bitCount_51 : decode b_JI_bitCount 51 = .ok (.iand, 1) := by decide +kernel
theorem d_JI_bitCount_52 : decode b_JI_bitCount 52 = .ok (.ireturn, 1) := by decide +kernel
theorem d_Re_add_0 : decode b_Re_add 0 = .ok (.iconst 1, 1) := by decide +kernel
theorem d_Re_add_1 : decode b_Re_add 1 = .ok (.istore_n 3, 1) := by decide +kernel
theorem d_Re_add_2 : decode b_Re_add 2 = .ok (.iload_n 3, 1) := by decide +kernel
theorem d_Re_add_3 : decode b_Re_add 3 = .ok (.bipush 64, 2) := by decide +kernel
theorem d_Re_add_5 : decode b_Re_add 5 = .ok (.if_icmp .ge 37, 3) := by decide +kernel
theorem d_Re_add_8 : decode b_Re_add 8 = .ok (.iload_n 3, 1) := by decide +kernel
theorem d_Re_add_9 : decode b_Re_add 9 = .ok (.iload_n 1, 1) := by decide +kernel
theorem d_Re_add_10 : decode b_Re_add 10 = .ok (.iconst (-1), 1) := by decide +kernel
theorem d_Re_add_11 : decode b_Re_add 11 = .ok (.ixor, 1) := by decide +kernel
theorem d_Re_add_12 : decode b_Re_add 12 = .ok (.iand, 1) := by decide +kernel
theorem d_Re_add_13 : decode b_Re_add 13 = .ok (.ifCond .ne 23, 3) := by decide +kernel
theorem d_Re_add_16 : decode b_Re_add 16 = .ok (.iload_n 3, 1) := by decide +kernel
theorem d_Re_add_17 : decode b_Re_add 17 = .ok (.invokestatic 9, 3) := by decide +kernel
theorem d_Re_add_20 : decode b_Re_add 20 = .ok (.iload_n 2, 1) := by decide +kernel
theorem d_Re_add_21 : decode b_Re_add 21 = .ok (.if_icmp .ne 15, 3) := by decide +kernel
theorem d_Re_add_24 : decode b_Re_add 24 = .ok (.aload_n 0, 1) := by decide +kernel
theorem d_Re_add_25 : decode b_Re_add 25 = .ok (.dup, 1) := by decide +kernel
theorem d_Re_add_26 : decode b_Re_add 26 = .ok (.getfield 15, 3) := by decide +kernel
theorem d_Re_add_29 : decode b_Re_add 29 = .ok (.lconst 1, 1) := by decide +kernel
theorem d_Re_add_30 : decode b_Re_add 30 = .ok (.iload_n 3, 1) := by decide +kernel
theorem d_Re_add_31 : decode b_Re_add 31 = .ok (.lshl, 1) := by decide +kernel
theorem d_Re_add_32 : decode b_Re_add 32 = .ok (.lor, 1) := by decide +kernel
theorem d_Re_add_33 : decode b_Re_add 33 = .ok (.putfield 15, 3) := by decide +kernel
theorem d_Re_add_36 : decode b_Re_add 36 = .ok (.iinc 3 1, 3) := by decide +kernel
theorem d_Re_add_39 : decode b_Re_add 39 = .ok (.goto (-37), 3) := by decide +kernel
theorem d_Re_add_42 : decode b_Re_add 42 = .ok (.aload_n 0, 1) := by decide +kernel
theorem d_Re_add_43 : decode b_Re_add 43 = .ok (.dup, 1) := by decide +kernel
theorem d_Re_add_44 : decode b_Re_add 44 = .ok (.getfield 21, 3) := by decide +kernel
theorem d_Re_add_47 : decode b_Re_add 47 = .ok (.iconst 1, 1) := by decide +kernel
theorem d_Re_add_48 : decode b_Re_add 48 = .ok (.iadd, 1) := by decide +kernel
theorem d_Re_add_49 : decode b_Re_add 49 = .ok (.putfield 21, 3) := by decide +kernel
theorem d_Re_add_52 : decode b_Re_add 52 = .ok (.return_, 1) := by decide +kernel
theorem d_CR_is_0 : decode b_CR_is 0 = .ok (.aload_n 0, 1) := by decide +kernel
theorem d_CR_is_1 : decode b_CR_is 1 = .ok (.getfield 43, 3) := by decide +kernel
theorem d_CR_is_4 : decode b_CR_is 4 = .ok (.ifCond .ne 31, 3) := by decide +kernel
theorem d_CR_is_7 : decode b_CR_is 7 = .ok (.aload_n 0, 1) := by decide +kernel
theorem d_CR_is_8 : decode b_CR_is 8 = .ok (.getfield 12, 3) := by decide +kernel
theorem d_CR_is_11 : decode b_CR_is 11 = .ok (.iload_n 1, 1) := by decide +kernel
theorem d_CR_is_12 : decode b_CR_is 12 = .ok (.iload_n 2, 1) := by decide +kernel
theorem d_CR_is_13 : decode b_CR_is 13 = .ok (.invokevirtual 55, 3) := by decide +kernel
theorem d_CR_is_16 : decode b_CR_is 16 = .ok (.ifCond .eq 19, 3) := by decide +kernel
theorem d_CR_is_19 : decode b_CR_is 19 = .ok (.aload_n 0, 1) := by decide +kernel
theorem d_CR_is_20 : decode b_CR_is 20 = .ok (.getfield 26, 3) := by decide +kernel
theorem d_CR_is_23 : decode b_CR_is 23 = .ok (.iload_n 1, 1) := by decide +kernel
theorem d_CR_is_24 : decode b_CR_is 24 = .ok (.iload_n 2, 1) := by decide +kernel
theorem d_CR_is_25 : decode b_CR_is 25 = .ok (.invokevirtual 82, 3) := by decide +kernel
theorem d_CR_is_28 : decode b_CR_is 28 = .ok (.ifCond .eq 7, 3) := by decide +kernel
theorem d_CR_is_31 : decode b_CR_is 31 = .ok (.iconst 1, 1) := by decide +kernel
theorem d_CR_is_32 : decode b_CR_is 32 = .ok (.goto 4, 3) := by decide +kernel
theorem d_CR_is_35 : decode b_CR_is 35 = .ok (.iconst 0, 1) := by decide +kernel
theorem d_CR_is_36 : decode b_CR_is 36 = .ok (.ireturn, 1) := by decide +kernel
theorem d_Te_push_0 : decode b_Te_push 0 = .ok (.aload_n 0, 1) := by decide +kernel
theorem d_Te_push_1 : decode b_Te_push 1 = .ok (.getfield 22, 3) := by decide +kernel
theorem d_Te_push_4 : decode b_Te_push 4 = .ok (.bipush 8, 2) := by decide +kernel
theorem d_Te_push_6 : decode b_Te_push 6 = .ok (.if_icmp .ne 5, 3) := by decide +kernel
theorem d_Te_push_9 : decode b_Te_push 9 = .ok (.iconst 0, 1) := by decide +kernel
theorem d_Te_push_10 : decode b_Te_push 10 = .ok (.ireturn, 1) := by decide +kernel
theorem d_Te_push_11 : decode b_Te_push 11 = .ok (.aload_n 0, 1) := by decide +kernel
theorem d_Te_push_12 : decode b_Te_push 12 = .ok (.getfield 11, 3) := by decide +kernel
theorem d_Te_push_15 : decode b_Te_push 15 = .ok (.aload_n 0, 1) := by decide +kernel
theorem d_Te_push_16 : decode b_Te_push 16 = .ok (.getfield 22, 3) := by decide +kernel
theorem d_Te_push_19 : decode b_Te_push 19 = .ok (.aaload, 1) := by decide +kernel
theorem d_Te_push_20 : decode b_Te_push 20 = .ok (.iload_n 1, 1) := by decide +kernel
theorem d_Te_push_21 : decode b_Te_push 21 = .ok (.iload_n 2, 1) := by decide +kernel
theorem d_Te_push_22 : decode b_Te_push 22 = .ok (.invokevirtual 26, 3) := by decide +kernel
theorem d_Te_push_25 : decode b_Te_push 25 = .ok (.aload_n 0, 1) := by decide +kernel
theorem d_Te_push_26 : decode b_Te_push 26 = .ok (.getfield 17, 3) := by decide +kernel
theorem d_Te_push_29 : decode b_Te_push 29 = .ok (.aload_n 0, 1) := by decide +kernel
theorem d_Te_push_30 : decode b_Te_push 30 = .ok (.getfield 22, 3) := by decide +kernel
theorem d_Te_push_33 : decode b_Te_push 33 = .ok (.iconst 1, 1) := by decide +kernel
theorem d_Te_push_34 : decode b_Te_push 34 = .ok (.iastore, 1) := by decide +kernel
theorem d_Te_push_35 : decode b_Te_push 35 = .ok (.aload_n 0, 1) := by decide +kernel
theorem d_Te_push_36 : decode b_Te_push 36 = .ok (.dup, 1) := by decide +kernel
theorem d_Te_push_37 : decode b_Te_push 37 = .ok (.getfield 22, 3) := by decide +kernel
theorem d_Te_push_40 : decode b_Te_push 40 = .ok (.iconst 1, 1) := by decide +kernel
theorem d_Te_push_41 : decode b_Te_push 41 = .ok (.iadd, 1) := by decide +kernel
theorem d_Te_push_42 : decode b_Te_push 42 = .ok (.putfield 22, 3) := by decide +kernel
theorem d_Te_push_45 : decode b_Te_push 45 = .ok (.iconst 1, 1) := by decide +kernel
theorem d_Te_push_46 : decode b_Te_push 46 = .ok (.ireturn, 1) := by decide +kernel
theorem d_NS_becomeIs_0 : decode b_NS_becomeIs 0 = .ok (.iconst 0, 1) := by decide +kernel
theorem d_NS_becomeIs_1 : decode b_NS_becomeIs 1 = .ok (.istore_n 3, 1) := by decide +kernel
theorem d_NS_becomeIs_2 : decode b_NS_becomeIs 2 = .ok (.iload_n 3, 1) := by decide +kernel
theorem d_NS_becomeIs_3 : decode b_NS_becomeIs 3 = .ok (.bipush 64, 2) := by decide +kernel
theorem d_NS_becomeIs_5 : decode b_NS_becomeIs 5 = .ok (.if_icmp .ge 21, 3) := by decide +kernel
theorem d_NS_becomeIs_8 : decode b_NS_becomeIs 8 = .ok (.aload_n 0, 1) := by decide +kernel
theorem d_NS_becomeIs_9 : decode b_NS_becomeIs 9 = .ok (.getfield 9, 3) := by decide +kernel
theorem d_NS_becomeIs_12 : decode b_NS_becomeIs 12 = .ok (.iload_n 3, 1) := by decide +kernel
theorem d_NS_becomeIs_13 : decode b_NS_becomeIs 13 = .ok (.iload_n 1, 1) := by decide +kernel
theorem d_NS_becomeIs_14 : decode b_NS_becomeIs 14 = .ok (.iload_n 2, 1) := by decide +kernel
theorem d_NS_becomeIs_15 : decode b_NS_becomeIs 15 = .ok (.iload_n 3, 1) := by decide +kernel
theorem d_NS_becomeIs_16 : decode b_NS_becomeIs 16 = .ok (.invokestatic 41, 3) := by decide +kernel
theorem d_NS_becomeIs_19 : decode b_NS_becomeIs 19 = .ok (.lastore, 1) := by decide +kernel
theorem d_NS_becomeIs_20 : decode b_NS_becomeIs 20 = .ok (.iinc 3 1, 3) := by decide +kernel
theorem d_NS_becomeIs_23 : decode b_NS_becomeIs 23 = .ok (.goto (-21), 3) := by decide +kernel
theorem d_NS_becomeIs_26 : decode b_NS_becomeIs 26 = .ok (.return_, 1) := by decide +kernel
theorem d_CR_not_0 : decode b_CR_not 0 = .ok (.aload_n 0, 1) := by decide +kernel
theorem d_CR_not_1 : decode b_CR_not 1 = .ok (.getfield 43, 3) := by decide +kernel
theorem d_CR_not_4 : decode b_CR_not 4 = .ok (.ifCond .ne 17, 3) := by decide +kernel
theorem d_CR_not_7 : decode b_CR_not 7 = .ok (.aload_n 0, 1) := by decide +kernel
theorem d_CR_not_8 : decode b_CR_not 8 = .ok (.getfield 26, 3) := by decide +kernel
theorem d_CR_not_11 : decode b_CR_not 11 = .ok (.invokevirtual 85, 3) := by decide +kernel
theorem d_CR_not_14 : decode b_CR_not 14 = .ok (.ifCond .eq 7, 3) := by decide +kernel
theorem d_CR_not_17 : decode b_CR_not 17 = .ok (.iconst 1, 1) := by decide +kernel
theorem d_CR_not_18 : decode b_CR_not 18 = .ok (.goto 4, 3) := by decide +kernel
theorem d_CR_not_21 : decode b_CR_not 21 = .ok (.iconst 0, 1) := by decide +kernel
theorem d_CR_not_22 : decode b_CR_not 22 = .ok (.ireturn, 1) := by decide +kernel
theorem d_Te_negate_0 : decode b_Te_negate 0 = .ok (.aload_n 0, 1) := by decide +kernel
theorem d_Te_negate_1 : decode b_Te_negate 1 = .ok (.getfield 22, 3) := by decide +kernel
theorem d_Te_negate_4 : decode b_Te_negate 4 = .ok (.ifCond .eq 19, 3) := by decide +kernel
theorem d_Te_negate_7 : decode b_Te_negate 7 = .ok (.aload_n 0, 1) := by decide +kernel
theorem d_Te_negate_8 : decode b_Te_negate 8 = .ok (.getfield 17, 3) := by decide +kernel
theorem d_Te_negate_11 : decode b_Te_negate 11 = .ok (.aload_n 0, 1) := by decide +kernel
theorem d_Te_negate_12 : decode b_Te_negate 12 = .ok (.getfield 22, 3) := by decide +kernel
theorem d_Te_negate_15 : decode b_Te_negate 15 = .ok (.iconst 1, 1) := by decide +kernel
theorem d_Te_negate_16 : decode b_Te_negate 16 = .ok (.isub, 1) := by decide +kernel
theorem d_Te_negate_17 : decode b_Te_negate 17 = .ok (.iaload, 1) := by decide +kernel
theorem d_Te_negate_18 : decode b_Te_negate 18 = .ok (.bipush 8, 2) := by decide +kernel
theorem d_Te_negate_20 : decode b_Te_negate 20 = .ok (.if_icmp .ne 5, 3) := by decide +kernel
theorem d_Te_negate_23 : decode b_Te_negate 23 = .ok (.iconst 0, 1) := by decide +kernel
theorem d_Te_negate_24 : decode b_Te_negate 24 = .ok (.ireturn, 1) := by decide +kernel
theorem d_Te_negate_25 : decode b_Te_negate 25 = .ok (.aload_n 0, 1) := by decide +kernel
theorem d_Te_negate_26 : decode b_Te_negate 26 = .ok (.getfield 11, 3) := by decide +kernel
theorem d_Te_negate_29 : decode b_Te_negate 29 = .ok (.aload_n 0, 1) := by decide +kernel
theorem d_Te_negate_30 : decode b_Te_negate 30 = .ok (.getfield 22, 3) := by decide +kernel
theorem d_Te_negate_33 : decode b_Te_negate 33 = .ok (.iconst 1, 1) := by decide +kernel
theorem d_Te_negate_34 : decode b_Te_negate 34 = .ok (.isub, 1) := by decide +kernel
theorem d_Te_negate_35 : decode b_Te_negate 35 = .ok (.aaload, 1) := by decide +kernel
theorem d_Te_negate_36 : decode b_Te_negate 36 = .ok (.invokevirtual 30, 3) := by decide +kernel
theorem d_Te_negate_39 : decode b_Te_negate 39 = .ok (.aload_n 0, 1) := by decide +kernel
theorem d_Te_negate_40 : decode b_Te_negate 40 = .ok (.getfield 17, 3) := by decide +kernel
theorem d_Te_negate_43 : decode b_Te_negate 43 = .ok (.aload_n 0, 1) := by decide +kernel
theorem d_Te_negate_44 : decode b_Te_negate 44 = .ok (.getfield 22, 3) := by decide +kernel
theorem d_Te_negate_47 : decode b_Te_negate 47 = .ok (.iconst 1, 1) := by decide +kernel
theorem d_Te_negate_48 : decode b_Te_negate 48 = .ok (.isub, 1) := by decide +kernel
theorem d_Te_negate_49 : decode b_Te_negate 49 = .ok (.dup2, 1) := by decide +kernel
theorem d_Te_negate_50 : decode b_Te_negate 50 = .ok (.iaload, 1) := by decide +kernel
theorem d_Te_negate_51 : decode b_Te_negate 51 = .ok (.iconst 1, 1) := by decide +kernel
theorem d_Te_negate_52 : decode b_Te_negate 52 = .ok (.iadd, 1) := by decide +kernel
theorem d_Te_negate_53 : decode b_Te_negate 53 = .ok (.iastore, 1) := by decide +kernel
theorem d_Te_negate_54 : decode b_Te_negate 54 = .ok (.iconst 1, 1) := by decide +kernel
theorem d_Te_negate_55 : decode b_Te_negate 55 = .ok (.ireturn, 1) := by decide +kernel
theorem d_NS_becomeNot_0 : decode b_NS_becomeNot 0 = .ok (.iconst 0, 1) := by decide +kernel
theorem d_NS_becomeNot_1 : decode b_NS_becomeNot 1 = .ok (.istore_n 1, 1) := by decide +kernel
theorem d_NS_becomeNot_2 : decode b_NS_becomeNot 2 = .ok (.iload_n 1, 1) := by decide +kernel
theorem d_NS_becomeNot_3 : decode b_NS_becomeNot 3 = .ok (.bipush 64, 2) := by decide +kernel
theorem d_NS_becomeNot_5 : decode b_NS_becomeNot 5 = .ok (.if_icmp .ge 25, 3) := by decide +kernel
theorem d_NS_becomeNot_8 : decode b_NS_becomeNot 8 = .ok (.aload_n 0, 1) := by decide +kernel
theorem d_NS_becomeNot_9 : decode b_NS_becomeNot 9 = .ok (.getfield 9, 3) := by decide +kernel
theorem d_NS_becomeNot_12 : decode b_NS_becomeNot 12 = .ok (.iload_n 1, 1) := by decide +kernel
theorem d_NS_becomeNot_13 : decode b_NS_becomeNot 13 = .ok (.aload_n 0, 1) := by decide +kernel
theorem d_NS_becomeNot_14 : decode b_NS_becomeNot 14 = .ok (.getfield 9, 3) := by decide +kernel
theorem d_NS_becomeNot_17 : decode b_NS_becomeNot 17 = .ok (.iload_n 1, 1) := by decide +kernel
theorem d_NS_becomeNot_18 : decode b_NS_becomeNot 18 = .ok (.laload, 1) := by decide +kernel
theorem d_NS_becomeNot_19 : decode b_NS_becomeNot 19 = .ok (.ldc2_w 33, 3) := by decide +kernel
theorem d_NS_becomeNot_22 : decode b_NS_becomeNot 22 = .ok (.lxor, 1) := by decide +kernel
theorem d_NS_becomeNot_23 : decode b_NS_becomeNot 23 = .ok (.lastore, 1) := by decide +kernel
theorem d_NS_becomeNot_24 : decode b_NS_becomeNot 24 = .ok (.iinc 1 1, 3) := by decide +kernel
theorem d_NS_becomeNot_27 : decode b_NS_becomeNot 27 = .ok (.goto (-25), 3) := by decide +kernel
theorem d_NS_becomeNot_30 : decode b_NS_becomeNot 30 = .ok (.return_, 1) := by decide +kernel
theorem d_CR_join_0 : decode b_CR_join 0 = .ok (.aload_n 0, 1) := by decide +kernel
theorem d_CR_join_1 : decode b_CR_join 1 = .ok (.getfield 43, 3) := by decide +kernel
theorem d_CR_join_4 : decode b_CR_join 4 = .ok (.ifCond .ne 27, 3) := by decide +kernel
theorem d_CR_join_7 : decode b_CR_join 7 = .ok (.iload_n 1, 1) := by decide +kernel
theorem d_CR_join_8 : decode b_CR_join 8 = .ok (.ifCond .lt 23, 3) := by decide +kernel
theorem d_CR_join_11 : decode b_CR_join 11 = .ok (.iload_n 1, 1) := by decide +kernel
theorem d_CR_join_12 : decode b_CR_join 12 = .ok (.iconst 2, 1) := by decide +kernel
theorem d_CR_join_13 : decode b_CR_join 13 = .ok (.if_icmp .gt 18, 3) := by decide +kernel
theorem d_CR_join_16 : decode b_CR_join 16 = .ok (.aload_n 0, 1) := by decide +kernel
theorem d_CR_join_17 : decode b_CR_join 17 = .ok (.getfield 26, 3) := by decide +kernel
theorem d_CR_join_20 : decode b_CR_join 20 = .ok (.iload_n 1, 1) := by decide +kernel
theorem d_CR_join_21 : decode b_CR_join 21 = .ok (.invokevirtual 89, 3) := by decide +kernel
theorem d_CR_join_24 : decode b_CR_join 24 = .ok (.ifCond .eq 7, 3) := by decide +kernel
theorem d_CR_join_27 : decode b_CR_join 27 = .ok (.iconst 1, 1) := by decide +kernel
theorem d_CR_join_28 : decode b_CR_join 28 = .ok (.goto 4, 3) := by decide +kernel
theorem d_CR_join_31 : decode b_CR_join 31 = .ok (.iconst 0, 1) := by decide +kernel
theorem d_CR_join_32 : decode b_CR_join 32 = .ok (.ireturn, 1) := by decide +kernel
theorem d_Te_combine_0 : decode b_Te_combine 0 = .ok (.aload_n 0, 1) := by decide +kernel
theorem d_Te_combine_1 : decode b_Te_combine 1 = .ok (.getfield 22, 3) := by decide +kernel
theorem d_Te_combine_4 : decode b_Te_combine 4 = .ok (.iconst 2, 1) := by decide +kernel
theorem d_Te_combine_5 : decode b_Te_combine 5 = .ok (.if_icmp .ge 5, 3) := by decide +kernel
theorem d_Te_combine_8 : decode b_Te_combine 8 = .ok (.iconst 0, 1) := by decide +kernel
theorem d_Te_combine_9 : decode b_Te_combine 9 = .ok (.ireturn, 1) := by decide +kernel
theorem d_Te_combine_10 : decode b_Te_combine 10 = .ok (.aload_n 0, 1) := by decide +kernel
theorem d_Te_combine_11 : decode b_Te_combine 11 = .ok (.getfield 17, 3) := by decide +kernel
theorem d_Te_combine_14 : decode b_Te_combine 14 = .ok (.aload_n 0, 1) := by decide +kernel
theorem d_Te_combine_15 : decode b_Te_combine 15 = .ok (.getfield 22, 3) := by decide +kernel
theorem d_Te_combine_18 : decode b_Te_combine 18 = .ok (.iconst 2, 1) := by decide +kernel
theorem d_Te_combine_19 : decode b_Te_combine 19 = .ok (.isub, 1) := by decide +kernel
theorem d_Te_combine_20 : decode b_Te_combine 20 = .ok (.iaload, 1) := by decide +kernel
theorem d_Te_combine_21 : decode b_Te_combine 21 = .ok (.aload_n 0, 1) := by decide +kernel
theorem d_Te_combine_22 : decode b_Te_combine 22 = .ok (.getfield 17, 3) := by decide +kernel
theorem d_Te_combine_25 : decode b_Te_combine 25 = .ok (.aload_n 0, 1) := by decide +kernel
theorem d_Te_combine_26 : decode b_Te_combine 26 = .ok (.getfield 22, 3) := by decide +kernel
theorem d_Te_combine_29 : decode b_Te_combine 29 = .ok (.iconst 1, 1) := by decide +kernel
theorem d_Te_combine_30 : decode b_Te_combine 30 = .ok (.isub, 1) := by decide +kernel
theorem d_Te_combine_31 : decode b_Te_combine 31 = .ok (.iaload, 1) := by decide +kernel
theorem d_Te_combine_32 : decode b_Te_combine 32 = .ok (.invokestatic 33, 3) := by decide +kernel
theorem d_Te_combine_35 : decode b_Te_combine 35 = .ok (.istore_n 2, 1) := by decide +kernel
theorem d_Te_combine_36 : decode b_Te_combine 36 = .ok (.iload_n 2, 1) := by decide +kernel
theorem d_Te_combine_37 : decode b_Te_combine 37 = .ok (.bipush 8, 2) := by decide +kernel
theorem d_Te_combine_39 : decode b_Te_combine 39 = .ok (.if_icmp .ne 5, 3) := by decide +kernel
theorem d_Te_combine_42 : decode b_Te_combine 42 = .ok (.iconst 0, 1) := by decide +kernel
theorem d_Te_combine_43 : decode b_Te_combine 43 = .ok (.ireturn, 1) := by decide +kernel
theorem d_Te_combine_44 : decode b_Te_combine 44 = .ok (.iload_n 1, 1) := by decide +kernel
theorem d_Te_combine_45 : decode b_Te_combine 45 = .ok (.aload_n 0, 1) := by decide +kernel
theorem d_Te_combine_46 : decode b_Te_combine 46 = .ok (.getfield 11, 3) := by decide +kernel
theorem d_Te_combine_49 : decode b_Te_combine 49 = .ok (.aload_n 0, 1) := by decide +kernel
theorem d_Te_combine_50 : decode b_Te_combine 50 = .ok (.getfield 22, 3) := by decide +kernel
theorem d_Te_combine_53 : decode b_Te_combine 53 = .ok (.iconst 2, 1) := by decide +kernel
theorem d_Te_combine_54 : decode b_Te_combine 54 = .ok (.isub, 1) := by decide +kernel
