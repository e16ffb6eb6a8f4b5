theorem d_Ge_take_34 : decode b_Ge_take 34 = .ok (.invokevirtual 52, 3) := by decide +kernel
theorem d_Ge_take_37 : decode b_Ge_take 37 = .ok (.lstore_n 3, 1) := by decide +kernel
theorem d_Ge_take_38 : decode b_Ge_take 38 = .ok (.iconst 0, 1) := by decide +kernel
theorem d_Ge_take_39 : decode b_Ge_take 39 = .ok (.istore 5, 2) := by decide +kernel
theorem d_Ge_take_41 : decode b_Ge_take 41 = .ok (.iconst 1, 1) := by decide +kernel
theorem d_Ge_take_42 : decode b_Ge_take 42 = .ok (.istore 6, 2) := by decide +kernel
theorem d_Ge_take_44 : decode b_Ge_take 44 = .ok (.iload 6, 2) := by decide +kernel
theorem d_Ge_take_46 : decode b_Ge_take 46 = .ok (.bipush 64, 2) := by decide +kernel
theorem d_Ge_take_48 : decode b_Ge_take 48 = .ok (.if_icmp .ge 44, 3) := by decide +kernel
theorem d_Ge_take_51 : decode b_Ge_take 51 = .ok (.lload_n 3, 1) := by decide +kernel
theorem d_Ge_take_52 : decode b_Ge_take 52 = .ok (.iload 6, 2) := by decide +kernel
theorem d_Ge_take_54 : decode b_Ge_take 54 = .ok (.lushr, 1) := by decide +kernel
theorem d_Ge_take_55 : decode b_Ge_take 55 = .ok (.lconst 1, 1) := by decide +kernel
theorem d_Ge_take_56 : decode b_Ge_take 56 = .ok (.land, 1) := by decide +kernel
theorem d_Ge_take_57 : decode b_Ge_take 57 = .ok (.lconst 0, 1) := by decide +kernel
theorem d_Ge_take_58 : decode b_Ge_take 58 = .ok (.lcmp, 1) := by decide +kernel
theorem d_Ge_take_59 : decode b_Ge_take 59 = .ok (.ifCond .eq 27, 3) := by decide +kernel
theorem d_Ge_take_62 : decode b_Ge_take 62 = .ok (.aload_n 0, 1) := by decide +kernel
theorem d_Ge_take_63 : decode b_Ge_take 63 = .ok (.iload 6, 2) := by decide +kernel
theorem d_Ge_take_65 : decode b_Ge_take 65 = .ok (.iload_n 1, 1) := by decide +kernel
theorem d_Ge_take_66 : decode b_Ge_take 66 = .ok (.invokevirtual 112, 3) := by decide +kernel
theorem d_Ge_take_69 : decode b_Ge_take 69 = .ok (.ifCond .eq 17, 3) := by decide +kernel
theorem d_Ge_take_72 : decode b_Ge_take 72 = .ok (.aload_n 0, 1) := by decide +kernel
theorem d_Ge_take_73 : decode b_Ge_take 73 = .ok (.iload 6, 2) := by decide +kernel
theorem d_Ge_take_75 : decode b_Ge_take 75 = .ok (.invokestatic 67, 3) := by decide +kernel
theorem d_Ge_take_78 : decode b_Ge_take 78 = .ok (.iload_n 1, 1) := by decide +kernel
theorem d_Ge_take_79 : decode b_Ge_take 79 = .ok (.aload_n 2, 1) := by decide +kernel
theorem d_Ge_take_80 : decode b_Ge_take 80 = .ok (.invokevirtual 115, 3) := by decide +kernel
theorem d_Ge_take_83 : decode b_Ge_take 83 = .ok (.iinc 5 1, 3) := by decide +kernel
theorem d_Ge_take_86 : decode b_Ge_take 86 = .ok (.iinc 6 1, 3) := by decide +kernel
theorem d_Ge_take_89 : decode b_Ge_take 89 = .ok (.goto (-45), 3) := by decide +kernel
theorem d_Ge_take_92 : decode b_Ge_take 92 = .ok (.aload_n 0, 1) := by decide +kernel
theorem d_Ge_take_93 : decode b_Ge_take 93 = .ok (.getfield 19, 3) := by decide +kernel
theorem d_Ge_take_96 : decode b_Ge_take 96 = .ok (.aload_n 0, 1) := by decide +kernel
theorem d_Ge_take_97 : decode b_Ge_take 97 = .ok (.getfield 39, 3) := by decide +kernel
theorem d_Ge_take_100 : decode b_Ge_take 100 = .ok (.iload_n 1, 1) := by decide +kernel
theorem d_Ge_take_101 : decode b_Ge_take 101 = .ok (.iastore, 1) := by decide +kernel
theorem d_Ge_take_102 : decode b_Ge_take 102 = .ok (.aload_n 0, 1) := by decide +kernel
theorem d_Ge_take_103 : decode b_Ge_take 103 = .ok (.getfield 22, 3) := by decide +kernel
theorem d_Ge_take_106 : decode b_Ge_take 106 = .ok (.aload_n 0, 1) := by decide +kernel
theorem d_Ge_take_107 : decode b_Ge_take 107 = .ok (.getfield 39, 3) := by decide +kernel
theorem d_Ge_take_110 : decode b_Ge_take 110 = .ok (.iload 5, 2) := by decide +kernel
theorem d_Ge_take_112 : decode b_Ge_take 112 = .ok (.iastore, 1) := by decide +kernel
theorem d_Ge_take_113 : decode b_Ge_take 113 = .ok (.aload_n 0, 1) := by decide +kernel
theorem d_Ge_take_114 : decode b_Ge_take 114 = .ok (.dup, 1) := by decide +kernel
theorem d_Ge_take_115 : decode b_Ge_take 115 = .ok (.getfield 39, 3) := by decide +kernel
theorem d_Ge_take_118 : decode b_Ge_take 118 = .ok (.iconst 1, 1) := by decide +kernel
theorem d_Ge_take_119 : decode b_Ge_take 119 = .ok (.iadd, 1) := by decide +kernel
theorem d_Ge_take_120 : decode b_Ge_take 120 = .ok (.putfield 39, 3) := by decide +kernel
theorem d_Ge_take_123 : decode b_Ge_take 123 = .ok (.aload_n 0, 1) := by decide +kernel
theorem d_Ge_take_124 : decode b_Ge_take 124 = .ok (.dup, 1) := by decide +kernel
theorem d_Ge_take_125 : decode b_Ge_take 125 = .ok (.getfield 43, 3) := by decide +kernel
theorem d_Ge_take_128 : decode b_Ge_take 128 = .ok (.iload 5, 2) := by decide +kernel
theorem d_Ge_take_130 : decode b_Ge_take 130 = .ok (.isub, 1) := by decide +kernel
theorem d_Ge_take_131 : decode b_Ge_take 131 = .ok (.putfield 43, 3) := by decide +kernel
theorem d_Ge_take_134 : decode b_Ge_take 134 = .ok (.return_, 1) := by decide +kernel
theorem d_Ge_cover_0 : decode b_Ge_cover 0 = .ok (.lconst 1, 1) := by decide +kernel
theorem d_Ge_cover_1 : decode b_Ge_cover 1 = .ok (.iload_n 1, 1) := by decide +kernel
theorem d_Ge_cover_2 : decode b_Ge_cover 2 = .ok (.iload_n 2, 1) := by decide +kernel
theorem d_Ge_cover_3 : decode b_Ge_cover 3 = .ok (.invokestatic 119, 3) := by decide +kernel
theorem d_Ge_cover_6 : decode b_Ge_cover 6 = .ok (.lshl, 1) := by decide +kernel
theorem d_Ge_cover_7 : decode b_Ge_cover 7 = .ok (.lstore_n 3, 1) := by decide +kernel
theorem d_Ge_cover_8 : decode b_Ge_cover 8 = .ok (.aload_n 0, 1) := by decide +kernel
theorem d_Ge_cover_9 : decode b_Ge_cover 9 = .ok (.getfield 9, 3) := by decide +kernel
theorem d_Ge_cover_12 : decode b_Ge_cover 12 = .ok (.iload_n 1, 1) := by decide +kernel
theorem d_Ge_cover_13 : decode b_Ge_cover 13 = .ok (.laload, 1) := by decide +kernel
theorem d_Ge_cover_14 : decode b_Ge_cover 14 = .ok (.lload_n 3, 1) := by decide +kernel
theorem d_Ge_cover_15 : decode b_Ge_cover 15 = .ok (.land, 1) := by decide +kernel
theorem d_Ge_cover_16 : decode b_Ge_cover 16 = .ok (.lconst 0, 1) := by decide +kernel
theorem d_Ge_cover_17 : decode b_Ge_cover 17 = .ok (.lcmp, 1) := by decide +kernel
theorem d_Ge_cover_18 : decode b_Ge_cover 18 = .ok (.ifCond .ne 7, 3) := by decide +kernel
theorem d_Ge_cover_21 : decode b_Ge_cover 21 = .ok (.iconst 1, 1) := by decide +kernel
theorem d_Ge_cover_22 : decode b_Ge_cover 22 = .ok (.goto 4, 3) := by decide +kernel
theorem d_Ge_cover_25 : decode b_Ge_cover 25 = .ok (.iconst 0, 1) := by decide +kernel
theorem d_Ge_cover_26 : decode b_Ge_cover 26 = .ok (.istore 5, 2) := by decide +kernel
theorem d_Ge_cover_28 : decode b_Ge_cover 28 = .ok (.aload_n 0, 1) := by decide +kernel
theorem d_Ge_cover_29 : decode b_Ge_cover 29 = .ok (.getfield 9, 3) := by decide +kernel
theorem d_Ge_cover_32 : decode b_Ge_cover 32 = .ok (.iload_n 1, 1) := by decide +kernel
theorem d_Ge_cover_33 : decode b_Ge_cover 33 = .ok (.dup2, 1) := by decide +kernel
theorem d_Ge_cover_34 : decode b_Ge_cover 34 = .ok (.laload, 1) := by decide +kernel
theorem d_Ge_cover_35 : decode b_Ge_cover 35 = .ok (.lload_n 3, 1) := by decide +kernel
theorem d_Ge_cover_36 : decode b_Ge_cover 36 = .ok (.lor, 1) := by decide +kernel
theorem d_Ge_cover_37 : decode b_Ge_cover 37 = .ok (.lastore, 1) := by decide +kernel
theorem d_Ge_cover_38 : decode b_Ge_cover 38 = .ok (.iload 5, 2) := by decide +kernel
theorem d_Ge_cover_40 : decode b_Ge_cover 40 = .ok (.ireturn, 1) := by decide +kernel
theorem d_Ge_pack_0 : decode b_Ge_pack 0 = .ok (.iconst 0, 1) := by decide +kernel
theorem d_Ge_pack_1 : decode b_Ge_pack 1 = .ok (.istore_n 2, 1) := by decide +kernel
theorem d_Ge_pack_2 : decode b_Ge_pack 2 = .ok (.iconst 0, 1) := by decide +kernel
theorem d_Ge_pack_3 : decode b_Ge_pack 3 = .ok (.istore_n 3, 1) := by decide +kernel
theorem d_Ge_pack_4 : decode b_Ge_pack 4 = .ok (.iload_n 3, 1) := by decide +kernel
theorem d_Ge_pack_5 : decode b_Ge_pack 5 = .ok (.bipush 6, 2) := by decide +kernel
theorem d_Ge_pack_7 : decode b_Ge_pack 7 = .ok (.if_icmp .ge 27, 3) := by decide +kernel
theorem d_Ge_pack_10 : decode b_Ge_pack 10 = .ok (.iload_n 0, 1) := by decide +kernel
theorem d_Ge_pack_11 : decode b_Ge_pack 11 = .ok (.iload_n 3, 1) := by decide +kernel
theorem d_Ge_pack_12 : decode b_Ge_pack 12 = .ok (.ishr, 1) := by decide +kernel
theorem d_Ge_pack_13 : decode b_Ge_pack 13 = .ok (.iconst 1, 1) := by decide +kernel
theorem d_Ge_pack_14 : decode b_Ge_pack 14 = .ok (.iand, 1) := by decide +kernel
theorem d_Ge_pack_15 : decode b_Ge_pack 15 = .ok (.ifCond .eq 13, 3) := by decide +kernel
theorem d_Ge_pack_18 : decode b_Ge_pack 18 = .ok (.iload_n 2, 1) := by decide +kernel
theorem d_Ge_pack_19 : decode b_Ge_pack 19 = .ok (.iconst 2, 1) := by decide +kernel
theorem d_Ge_pack_20 : decode b_Ge_pack 20 = .ok (.ishl, 1) := by decide +kernel
theorem d_Ge_pack_21 : decode b_Ge_pack 21 = .ok (.iload_n 3, 1) := by decide +kernel
theorem d_Ge_pack_22 : decode b_Ge_pack 22 = .ok (.iload_n 1, 1) := by decide +kernel
theorem d_Ge_pack_23 : decode b_Ge_pack 23 = .ok (.invokestatic 122, 3) := by decide +kernel
theorem d_Ge_pack_26 : decode b_Ge_pack 26 = .ok (.ior, 1) := by decide +kernel
theorem d_Ge_pack_27 : decode b_Ge_pack 27 = .ok (.istore_n 2, 1) := by decide +kernel
theorem d_Ge_pack_28 : decode b_Ge_pack 28 = .ok (.iinc 3 1, 3) := by decide +kernel
theorem d_Ge_pack_31 : decode b_Ge_pack 31 = .ok (.goto (-27), 3) := by decide +kernel
theorem d_Ge_pack_34 : decode b_Ge_pack 34 = .ok (.iload_n 2, 1) := by decide +kernel
theorem d_Ge_pack_35 : decode b_Ge_pack 35 = .ok (.ireturn, 1) := by decide +kernel
theorem d_Ge_lowerGains_0 : decode b_Ge_lowerGains 0 = .ok (.aload_n 0, 1) := by decide +kernel
theorem d_Ge_lowerGains_1 : decode b_Ge_lowerGains 1 = .ok (.getfield 25, 3) := by decide +kernel
theorem d_Ge_lowerGains_4 : decode b_Ge_lowerGains 4 = .ok (.invokevirtual 105, 3) := by decide +kernel
theorem d_Ge_lowerGains_7 : decode b_Ge_lowerGains 7 = .ok (.iload_n 1, 1) := by decide +kernel
theorem d_Ge_lowerGains_8 : decode b_Ge_lowerGains 8 = .ok (.iconst (-1), 1) := by decide +kernel
theorem d_Ge_lowerGains_9 : decode b_Ge_lowerGains 9 = .ok (.ixor, 1) := by decide +kernel
theorem d_Ge_lowerGains_10 : decode b_Ge_lowerGains 10 = .ok (.iand, 1) := by decide +kernel
theorem d_Ge_lowerGains_11 : decode b_Ge_lowerGains 11 = .ok (.istore 4, 2) := by decide +kernel
theorem d_Ge_lowerGains_13 : decode b_Ge_lowerGains 13 = .ok (.iconst 1, 1) := by decide +kernel
theorem d_Ge_lowerGains_14 : decode b_Ge_lowerGains 14 = .ok (.iload 4, 2) := by decide +kernel
theorem d_Ge_lowerGains_16 : decode b_Ge_lowerGains 16 = .ok (.invokestatic 74, 3) := by decide +kernel
theorem d_Ge_lowerGains_19 : decode b_Ge_lowerGains 19 = .ok (.ishl, 1) := by decide +kernel
theorem d_Ge_lowerGains_20 : decode b_Ge_lowerGains 20 = .ok (.istore 5, 2) := by decide +kernel
theorem d_Ge_lowerGains_22 : decode b_Ge_lowerGains 22 = .ok (.iconst 0, 1) := by decide +kernel
theorem d_Ge_lowerGains_23 : decode b_Ge_lowerGains 23 = .ok (.istore 6, 2) := by decide +kernel
theorem d_Ge_lowerGains_25 : decode b_Ge_lowerGains 25 = .ok (.iconst 0, 1) := by decide +kernel
theorem d_Ge_lowerGains_26 : decode b_Ge_lowerGains 26 = .ok (.istore 7, 2) := by decide +kernel
theorem d_Ge_lowerGains_28 : decode b_Ge_lowerGains 28 = .ok (.iload 7, 2) := by decide +kernel
theorem d_Ge_lowerGains_30 : decode b_Ge_lowerGains 30 = .ok (.iload 5, 2) := by decide +kernel
theorem d_Ge_lowerGains_32 : decode b_Ge_lowerGains 32 = .ok (.if_icmp .ge 46, 3) := by decide +kernel
theorem d_Ge_lowerGains_35 : decode b_Ge_lowerGains 35 = .ok (.iload_n 2, 1) := by decide +kernel
theorem d_Ge_lowerGains_36 : decode b_Ge_lowerGains 36 = .ok (.iload_n 1, 1) := by decide +kernel
theorem d_Ge_lowerGains_37 : decode b_Ge_lowerGains 37 = .ok (.iand, 1) := by decide +kernel
theorem d_Ge_lowerGains_38 : decode b_Ge_lowerGains 38 = .ok (.iload 6, 2) := by decide +kernel
theorem d_Ge_lowerGains_40 : decode b_Ge_lowerGains 40 = .ok (.ior, 1) := by decide +kernel
theorem d_Ge_lowerGains_41 : decode b_Ge_lowerGains 41 = .ok (.istore 8, 2) := by decide +kernel
theorem d_Ge_lowerGains_43 : decode b_Ge_lowerGains 43 = .ok (.aload_n 3, 1) := by decide +kernel
theorem d_Ge_lowerGains_44 : decode b_Ge_lowerGains 44 = .ok (.iload 8, 2) := by decide +kernel
theorem d_Ge_lowerGains_46 : decode b_Ge_lowerGains 46 = .ok (.invokevirtual 101, 3) := by decide +kernel
theorem d_Ge_lowerGains_49 : decode b_Ge_lowerGains 49 = .ok (.ifCond .eq 14, 3) := by decide +kernel
theorem d_Ge_lowerGains_52 : decode b_Ge_lowerGains 52 = .ok (.aload_n 0, 1) := by decide +kernel
theorem d_Ge_lowerGains_53 : decode b_Ge_lowerGains 53 = .ok (.getfield 15, 3) := by decide +kernel
theorem d_Ge_lowerGains_56 : decode b_Ge_lowerGains 56 = .ok (.iload 8, 2) := by decide +kernel
theorem d_Ge_lowerGains_58 : decode b_Ge_lowerGains 58 = .ok (.dup2, 1) := by decide +kernel
theorem d_Ge_lowerGains_59 : decode b_Ge_lowerGains 59 = .ok (.iaload, 1) := by decide +kernel
theorem d_Ge_lowerGains_60 : decode b_Ge_lowerGains 60 = .ok (.iconst 1, 1) := by decide +kernel
theorem d_Ge_lowerGains_61 : decode b_Ge_lowerGains 61 = .ok (.isub, 1) := by decide +kernel
theorem d_Ge_lowerGains_62 : decode b_Ge_lowerGains 62 = .ok (.iastore, 1) := by decide +kernel
theorem d_Ge_lowerGains_63 : decode b_Ge_lowerGains 63 = .ok (.iload 4, 2) := by decide +kernel
theorem d_Ge_lowerGains_65 : decode b_Ge_lowerGains 65 = .ok (.iload 6, 2) := by decide +kernel
theorem d_Ge_lowerGains_67 : decode b_Ge_lowerGains 67 = .ok (.invokestatic 82, 3) := by decide +kernel
theorem d_Ge_lowerGains_70 : decode b_Ge_lowerGains 70 = .ok (.istore 6, 2) := by decide +kernel
theorem d_Ge_lowerGains_72 : decode b_Ge_lowerGains 72 = .ok (.iinc 7 1, 3) := by decide +kernel
theorem d_Ge_lowerGains_75 : decode b_Ge_lowerGains 75 = .ok (.goto (-47), 3) := by decide +kernel
theorem d_Ge_lowerGains_78 : decode b_Ge_lowerGains 78 = .ok (.return_, 1) := by decide +kernel
theorem d_CR_next_0 : decode b_CR_next 0 = .ok (.aload_n 0, 1) := by decide +kernel
theorem d_CR_next_1 : decode b_CR_next 1 = .ok (.getfield 43, 3) := by decide +kernel
theorem d_CR_next_4 : decode b_CR_next 4 = .ok (.ifCond .ne 5, 3) := by decide +kernel
theorem d_CR_next_7 : decode b_CR_next 7 = .ok (.iconst (-1), 1) := by decide +kernel
theorem d_CR_next_8 : decode b_CR_next 8 = .ok (.ireturn, 1) := by decide +kernel
theorem d_CR_next_9 : decode b_CR_next 9 = .ok (.aload_n 0, 1) := by decide +kernel
theorem d_CR_next_10 : decode b_CR_next 10 = .ok (.getfield 39, 3) := by decide +kernel
theorem d_CR_next_13 : decode b_CR_next 13 = .ok (.invokevirtual 132, 3) := by decide +kernel
theorem d_CR_next_16 : decode b_CR_next 16 = .ok (.istore_n 1, 1) := by decide +kernel
theorem d_CR_next_17 : decode b_CR_next 17 = .ok (.iload_n 1, 1) := by decide +kernel
theorem d_CR_next_18 : decode b_CR_next 18 = .ok (.iconst (-1), 1) := by decide +kernel
theorem d_CR_next_19 : decode b_CR_next 19 = .ok (.if_icmp .eq 13, 3) := by decide +kernel
theorem d_CR_next_22 : decode b_CR_next 22 = .ok (.aload_n 0, 1) := by decide +kernel
theorem d_CR_next_23 : decode b_CR_next 23 = .ok (.getfield 39, 3) := by decide +kernel
theorem d_CR_next_26 : decode b_CR_next 26 = .ok (.invokevirtual 135, 3) := by decide +kernel
theorem d_CR_next_29 : decode b_CR_next 29 = .ok (.ifCond .eq 6, 3) := by decide +kernel
theorem d_CR_next_32 : decode b_CR_next 32 = .ok (.bipush (-2), 2) := by decide +kernel
theorem d_CR_next_34 : decode b_CR_next 34 = .ok (.ireturn, 1) := by decide +kernel
theorem d_CR_next_35 : decode b_CR_next 35 = .ok (.aload_n 0, 1) := by decide +kernel
theorem d_CR_next_36 : decode b_CR_next 36 = .ok (.getfield 39, 3) := by decide +kernel
theorem d_CR_next_39 : decode b_CR_next 39 = .ok (.iload_n 1, 1) := by decide +kernel
theorem d_CR_next_40 : decode b_CR_next 40 = .ok (.invokevirtual 129, 3) := by decide +kernel
theorem d_CR_next_43 : decode b_CR_next 43 = .ok (.iload_n 1, 1) := by decide +kernel
theorem d_CR_next_44 : decode b_CR_next 44 = .ok (.ireturn, 1) := by decide +kernel
theorem d_Ge_best_0 : decode b_Ge_best 0 = .ok (.aload_n 0, 1) := by decide +kernel
theorem d_Ge_best_1 : decode b_Ge_best 1 = .ok (.aload_n 0, 1) := by decide +kernel
theorem d_Ge_best_2 : decode b_Ge_best 2 = .ok (.getfield 25, 3) := by decide +kernel
theorem d_Ge_best_5 : decode b_Ge_best 5 = .ok (.getfield 89, 3) := by decide +kernel
theorem d_Ge_best_8 : decode b_Ge_best 8 = .ok (.invokevirtual 108, 3) := by decide +kernel
theorem d_Ge_best_11 : decode b_Ge_best 11 = .ok (.istore_n 1, 1) := by decide +kernel
theorem d_Ge_best_12 : decode b_Ge_best 12 = .ok (.iload_n 1, 1) := by decide +kernel
theorem d_Ge_best_13 : decode b_Ge_best 13 = .ok (.iconst (-1), 1) := by decide +kernel
theorem d_Ge_best_14 : decode b_Ge_best 14 = .ok (.if_icmp .ne 17, 3) := by decide +kernel
theorem d_Ge_best_17 : decode b_Ge_best 17 = .ok (.aload_n 0, 1) := by decide +kernel
theorem d_Ge_best_18 : decode b_Ge_best 18 = .ok (.aload_n 0, 1) := by decide +kernel
theorem d_Ge_best_19 : decode b_Ge_best 19 = .ok (.getfield 25, 3) := by decide +kernel
theorem d_Ge_best_22 : decode b_Ge_best 22 = .ok (.getfield 98, 3) := by decide +kernel
theorem d_Ge_best_25 : decode b_Ge_best 25 = .ok (.invokevirtual 108, 3) := by decide +kernel
theorem d_Ge_best_28 : decode b_Ge_best 28 = .ok (.goto 4, 3) := by decide +kernel
theorem d_Ge_best_31 : decode b_Ge_best 31 = .ok (.iload_n 1, 1) := by decide +kernel
theorem d_Ge_best_32 : decode b_Ge_best 32 = .ok (.ireturn, 1) := by decide +kernel
theorem d_Ge_bestOf_0 : decode b_Ge_bestOf 0 = .ok (.iconst (-1), 1) := by decide +kernel
theorem d_Ge_bestOf_1 : decode b_Ge_bestOf 1 = .ok (.istore_n 2, 1) := by decide +kernel
theorem d_Ge_bestOf_2 : decode b_Ge_bestOf 2 = .ok (.iconst 0, 1) := by decide +kernel
theorem d_Ge_bestOf_3 : decode b_Ge_bestOf 3 = .ok (.istore_n 3, 1) := by decide +kernel
theorem d_Ge_bestOf_4 : decode b_Ge_bestOf 4 = .ok (.aload_n 0, 1) := by decide +kernel
theorem d_Ge_bestOf_5 : decode b_Ge_bestOf 5 = .ok (.getfield 25, 3) := by decide +kernel
theorem d_Ge_bestOf_8 : decode b_Ge_bestOf 8 = .ok (.invokevirtual 46, 3) := by decide +kernel
theorem d_Ge_bestOf_11 : decode b_Ge_bestOf 11 = .ok (.istore 4, 2) := by decide +kernel
theorem d_Ge_bestOf_13 : decode b_Ge_bestOf 13 = .ok (.iconst 0, 1) := by decide +kernel
theorem d_Ge_bestOf_14 : decode b_Ge_bestOf 14 = .ok (.istore 5, 2) := by decide +kernel
theorem d_Ge_bestOf_16 : decode b_Ge_bestOf 16 = .ok (.iload 5, 2) := by decide +kernel
theorem d_Ge_bestOf_18 : decode b_Ge_bestOf 18 = .ok (.iload 4, 2) := by decide +kernel
theorem d_Ge_bestOf_20 : decode b_Ge_bestOf 20 = .ok (.if_icmp .ge 40, 3) := by decide +kernel
theorem d_Ge_bestOf_23 : decode b_Ge_bestOf 23 = .ok (.aload_n 0, 1) := by decide +kernel
theorem d_Ge_bestOf_24 : decode b_Ge_bestOf 24 = .ok (.getfield 15, 3) := by decide +kernel
theorem d_Ge_bestOf_27 : decode b_Ge_bestOf 27 = .ok (.iload 5, 2) := by decide +kernel
theorem d_Ge_bestOf_29 : decode b_Ge_bestOf 29 = .ok (.iaload, 1) := by decide +kernel
theorem d_Ge_bestOf_30 : decode b_Ge_bestOf 30 = .ok (.iload_n 3, 1) := by decide +kernel
theorem d_Ge_bestOf_31 : decode b_Ge_bestOf 31 = .ok (.if_icmp .le 23, 3) := by decide +kernel
theorem d_Ge_bestOf_34 : decode b_Ge_bestOf 34 = .ok (.aload_n 1, 1) := by decide +kernel
theorem d_Ge_bestOf_35 : decode b_Ge_bestOf 35 = .ok (.iload 5, 2) := by decide +kernel
theorem d_Ge_bestOf_37 : decode b_Ge_bestOf 37 = .ok (.invokevirtual 101, 3) := by decide +kernel
theorem d_Ge_bestOf_40 : decode b_Ge_bestOf 40 = .ok (.ifCond .eq 14, 3) := by decide +kernel
theorem d_Ge_bestOf_43 : decode b_Ge_bestOf 43 = .ok (.aload_n 0, 1) := by decide +kernel
theorem d_Ge_bestOf_44 : decode b_Ge_bestOf 44 = .ok (.getfield 15, 3) := by decide +kernel
theorem d_Ge_bestOf_47 : decode b_Ge_bestOf 47 = .ok (.iload 5, 2) := by decide +kernel
theorem d_Ge_bestOf_49 : decode b_Ge_bestOf 49 = .ok (.iaload, 1) := by decide +kernel
theorem d_Ge_bestOf_50 : decode b_Ge_bestOf 50 = .ok (.istore_n 3, 1) := by decide +kernel
theorem d_Ge_bestOf_51 : decode b_Ge_bestOf 51 = .ok (.iload 5, 2) := by decide +kernel
theorem d_Ge_bestOf_53 : decode b_Ge_bestOf 53 = .ok (.istore_n 2, 1) := by decide +kernel
theorem d_Ge_bestOf_54 : decode b_Ge_bestOf 54 = .ok (.iinc 5 1, 3) := by decide +kernel
theorem d_Ge_bestOf_57 : decode b_Ge_bestOf 57 = .ok (.goto (-41), 3) := by decide +kernel
theorem d_Ge_bestOf_60 : decode b_Ge_bestOf 60 = .ok (.iload_n 2, 1) := by decide +kernel
theorem d_Ge_bestOf_61 : decode b_Ge_bestOf 61 = .ok (.ireturn, 1) := by decide +kernel
theorem d_Ge_isFull_0 : decode b_Ge_isFull 0 = .ok (.aload_n 0, 1) := by decide +kernel
theorem d_Ge_isFull_1 : decode b_Ge_isFull 1 = .ok (.getfield 39, 3) := by decide +kernel
theorem d_Ge_isFull_4 : decode b_Ge_isFull 4 = .ok (.sipush 520, 3) := by decide +kernel
theorem d_Ge_isFull_7 : decode b_Ge_isFull 7 = .ok (.if_icmp .ne 7, 3) := by decide +kernel
theorem d_Ge_isFull_10 : decode b_Ge_isFull 10 = .ok (.iconst 1, 1) := by decide +kernel
theorem d_Ge_isFull_11 : decode b_Ge_isFull 11 = .ok (.goto 4, 3) := by decide +kernel
theorem d_Ge_isFull_14 : decode b_Ge_isFull 14 = .ok (.iconst 0, 1) := by decide +kernel
theorem d_Ge_isFull_15 : decode b_Ge_isFull 15 = .ok (.ireturn, 1) := by decide +kernel
theorem d_CR_end_0 : decode b_CR_end 0 = .ok (.aload_n 0, 1) := by decide +kernel
theorem d_CR_end_1 : decode b_CR_end 1 = .ok (.getfield 43, 3) := by decide +kernel
theorem d_CR_end_4 : decode b_CR_end 4 = .ok (.istore_n 1, 1) := by decide +kernel
theorem d_CR_end_5 : decode b_CR_end 5 = .ok (.aload_n 0, 1) := by decide +kernel
theorem d_CR_end_6 : decode b_CR_end 6 = .ok (.iconst 0, 1) := by decide +kernel
theorem d_CR_end_7 : decode b_CR_end 7 = .ok (.putfield 43, 3) := by decide +kernel
theorem d_CR_end_10 : decode b_CR_end 10 = .ok (.iload_n 1, 1) := by decide +kernel
theorem d_CR_end_11 : decode b_CR_end 11 = .ok (.ireturn, 1) := by decide +kernel
theorem d_CR_rows_0 : decode b_CR_rows 0 = .ok (.aload_n 0, 1) := by decide +kernel
theorem d_CR_rows_1 : decode b_CR_rows 1 = .ok (.getfield 43, 3) := by decide +kernel
theorem d_CR_rows_4 : decode b_CR_rows 4 = .ok (.ifCond .eq 13, 3) := by decide +kernel
theorem d_CR_rows_7 : decode b_CR_rows 7 = .ok (.aload_n 0, 1) := by decide +kernel
theorem d_CR_rows_8 : decode b_CR_rows 8 = .ok (.getfield 39, 3) := by decide +kernel
theorem d_CR_rows_11 : decode b_CR_rows 11 = .ok (.getfield 138, 3) := by decide +kernel
theorem d_CR_rows_14 : decode b_CR_rows 14 = .ok (.goto 4, 3) := by decide +kernel
theorem d_CR_rows_17 : decode b_CR_rows 17 = .ok (.iconst 0, 1) := by decide +kernel
theorem d_CR_rows_18 : decode b_CR_rows 18 = .ok (.ireturn, 1) := by decide +kernel
theorem d_CR_row_0 : decode b_CR_row 0 = .ok (.aload_n 0, 1) := by decide +kernel
theorem d_CR_row_1 : decode b_CR_row 1 = .ok (.iload_n 1, 1) := by decide +kernel
theorem d_CR_row_2 : decode b_CR_row 2 = .ok (.invokevirtual 141, 3) := by decide +kernel
theorem d_CR_row_5 : decode b_CR_row 5 = .ok (.ifCond .eq 15, 3) := by decide +kernel
theorem d_CR_row_8 : decode b_CR_row 8 = .ok (.aload_n 0, 1) := by decide +kernel
theorem d_CR_row_9 : decode b_CR_row 9 = .ok (.getfield 39, 3) := by decide +kernel
theorem d_CR_row_12 : decode b_CR_row 12 = .ok (.getfield 144, 3) := by decide +kernel
theorem d_CR_row_15 : decode b_CR_row 15 = .ok (.iload_n 1, 1) := by decide +kernel
theorem d_CR_row_16 : decode b_CR_row 16 = .ok (.iaload, 1) := by decide +kernel
theorem d_CR_row_17 : decode b_CR_row 17 = .ok (.goto 4, 3) := by decide +kernel
theorem d_CR_row_20 : decode b_CR_row 20 = .ok (.iconst (-1), 1) := by decide +kernel
theorem d_CR_row_21 : decode b_CR_row 21 = .ok (.ireturn, 1) := by decide +kernel
theorem d_CR_isTaken_0 : decode b_CR_isTaken 0 = .ok (.aload_n 0, 1) := by decide +kernel
theorem d_CR_isTaken_1 : decode b_CR_isTaken 1 = .ok (.getfield 43, 3) := by decide +kernel
theorem d_CR_isTaken_4 : decode b_CR_isTaken 4 = .ok (.ifCond .eq 22, 3) := by decide +kernel
theorem d_CR_isTaken_7 : decode b_CR_isTaken 7 = .ok (.iload_n 1, 1) := by decide +kernel
theorem d_CR_isTaken_8 : decode b_CR_isTaken 8 = .ok (.ifCond .lt 18, 3) := by decide +kernel
theorem d_CR_isTaken_11 : decode b_CR_isTaken 11 = .ok (.iload_n 1, 1) := by decide +kernel
theorem d_CR_isTaken_12 : decode b_CR_isTaken 12 = .ok (.aload_n 0, 1) := by decide +kernel
theorem d_CR_isTaken_13 : decode b_CR_isTaken 13 = .ok (.getfield 39, 3) := by decide +kernel
theorem d_CR_isTaken_16 : decode b_CR_isTaken 16 = .ok (.getfield 138, 3) := by decide +kernel
theorem d_CR_isTaken_19 : decode b_CR_isTaken 19 = .ok (.if_icmp .ge 7, 3) := by decide +kernel
theorem d_CR_isTaken_22 : decode b_CR_isTaken 22 = .ok (.iconst 1, 1) := by decide +kernel
theorem d_CR_isTaken_23 : decode b_CR_isTaken 23 = .ok (.goto 4, 3) := by decide +kernel
theorem d_CR_isTaken_26 : decode b_CR_isTaken 26 = .ok (.iconst 0, 1) := by decide +kernel
theorem d_CR_isTaken_27 : decode b_CR_isTaken 27 = .ok (.ireturn, 1) := by decide +kernel
theorem d_CR_gained_0 : decode b_CR_gained 0 = .ok (.aload_n 0, 1) := by decide +kernel
theorem d_CR_gained_1 : decode b_CR_gained 1 = .ok (.iload_n 1, 1) := by decide +kernel
theorem d_CR_gained_2 : decode b_CR_gained 2 = .ok (.invokevirtual 141, 3) := by decide +kernel
theorem d_CR_gained_5 : decode b_CR_gained 5 = .ok (.ifCond .eq 15, 3) := by decide +kernel
theorem d_CR_gained_8 : decode b_CR_gained 8 = .ok (.aload_n 0, 1) := by decide +kernel
theorem d_CR_gained_9 : decode b_CR_gained 9 = .ok (.getfield 39, 3) := by decide +kernel
theorem d_CR_gained_12 : decode b_CR_gained 12 = .ok (.getfield 147, 3) := by decide +kernel
theorem d_CR_gained_15 : decode b_CR_gained 15 = .ok (.iload_n 1, 1) := by decide +kernel
theorem d_CR_gained_16 : decode b_CR_gained 16 = .ok (.iaload, 1) := by decide +kernel
theorem d_CR_gained_17 : decode b_CR_gained 17 = .ok (.goto 4, 3) := by decide +kernel
theorem d_CR_gained_20 : decode b_CR_gained 20 = .ok (.iconst (-1), 1) := by decide +kernel
theorem d_CR_gained_21 : decode b_CR_gained 21 = .ok (.ireturn, 1) := by decide +kernel
theorem d_CR_left_0 : decode b_CR_left 0 = .ok (.aload_n 0, 1) := by decide +kernel
theorem d_CR_left_1 : decode b_CR_left 1 = .ok (.getfield 43, 3) := by decide +kernel
theorem d_CR_left_4 : decode b_CR_left 4 = .ok (.ifCond .eq 13, 3) := by decide +kernel
theorem d_CR_left_7 : decode b_CR_left 7 = .ok (.aload_n 0, 1) := by decide +kernel
theorem d_CR_left_8 : decode b_CR_left 8 = .ok (.getfield 39, 3) := by decide +kernel
theorem d_CR_left_11 : decode b_CR_left 11 = .ok (.getfield 150, 3) := by decide +kernel
theorem d_CR_left_14 : decode b_CR_left 14 = .ok (.goto 4, 3) := by decide +kernel
theorem d_CR_left_17 : decode b_CR_left 17 = .ok (.iconst (-1), 1) := by decide +kernel
theorem d_CR_left_18 : decode b_CR_left 18 = .ok (.ireturn, 1) := by decide +kernel
theorem d_CR_gain_0 : decode b_CR_gain 0 = .ok (.aload_n 0, 1) := by decide +kernel
theorem d_CR_gain_1 : decode b_CR_gain 1 = .ok (.getfield 43, 3) := by decide +kernel
theorem d_CR_gain_4 : decode b_CR_gain 4 = .ok (.ifCond .ne 5, 3) := by decide +kernel
theorem d_CR_gain_7 : decode b_CR_gain 7 = .ok (.iconst (-1), 1) := by decide +kernel
theorem d_CR_gain_8 : decode b_CR_gain 8 = .ok (.ireturn, 1) := by decide +kernel
theorem d_CR_gain_9 : decode b_CR_gain 9 = .ok (.aload_n 0, 1) := by decide +kernel
theorem d_CR_gain_10 : decode b_CR_gain 10 = .ok (.getfield 12, 3) := by decide +kernel
theorem d_CR_gain_13 : decode b_CR_gain 13 = .ok (.iload_n 1, 1) := by decide +kernel
theorem d_CR_gain_14 : decode b_CR_gain 14 = .ok (.invokevirtual 126, 3) := by decide +kernel
theorem d_CR_gain_17 : decode b_CR_gain 17 = .ok (.iconst 1, 1) := by decide +kernel
theorem d_CR_gain_18 : decode b_CR_gain 18 = .ok (.if_icmp .lt 15, 3) := by decide +kernel
theorem d_CR_gain_21 : decode b_CR_gain 21 = .ok (.aload_n 0, 1) := by decide +kernel
theorem d_CR_gain_22 : decode b_CR_gain 22 = .ok (.getfield 39, 3) := by decide +kernel
theorem d_CR_gain_25 : decode b_CR_gain 25 = .ok (.getfield 153, 3) := by decide +kernel
theorem d_CR_gain_28 : decode b_CR_gain 28 = .ok (.iload_n 1, 1) := by decide +kernel
theorem d_CR_gain_29 : decode b_CR_gain 29 = .ok (.iaload, 1) := by decide +kernel
theorem d_CR_gain_30 : decode b_CR_gain 30 = .ok (.goto 5, 3) := by decide +kernel
theorem d_CR_gain_33 : decode b_CR_gain 33 = .ok (.bipush (-2), 2) := by decide +kernel
theorem d_CR_gain_35 : decode b_CR_gain 35 = .ok (.ireturn, 1) := by decide +kernel
theorem d_CR_kind_0 : decode b_CR_kind 0 = .ok (.aload_n 0, 1) := by decide +kernel
theorem d_CR_kind_1 : decode b_CR_kind 1 = .ok (.getfield 12, 3) := by decide +kernel
theorem d_CR_kind_4 : decode b_CR_kind 4 = .ok (.getfield 47, 3) := by decide +kernel
theorem d_CR_kind_7 : decode b_CR_kind 7 = .ok (.ifCond .ne 7, 3) := by decide +kernel
theorem d_CR_kind_10 : decode b_CR_kind 10 = .ok (.iconst (-1), 1) := by decide +kernel
theorem d_CR_kind_11 : decode b_CR_kind 11 = .ok (.goto 11, 3) := by decide +kernel
theorem d_CR_kind_14 : decode b_CR_kind 14 = .ok (.aload_n 0, 1) := by decide +kernel
theorem d_CR_kind_15 : decode b_CR_kind 15 = .ok (.getfield 12, 3) := by decide +kernel
theorem d_CR_kind_18 : decode b_CR_kind 18 = .ok (.iload_n 1, 1) := by decide +kernel
theorem d_CR_kind_19 : decode b_CR_kind 19 = .ok (.invokevirtual 126, 3) := by decide +kernel
theorem d_CR_kind_22 : decode b_CR_kind 22 = .ok (.ireturn, 1) := by decide +kernel
theorem d_CR_extendable_0 : decode b_CR_extendable 0 = .ok (.aload_n 0, 1) := by decide +kernel
theorem d_CR_extendable_1 : decode b_CR_extendable 1 = .ok (.getfield 12, 3) := by decide +kernel
theorem d_CR_extendable_4 : decode b_CR_extendable 4 = .ok (.getfield 47, 3) := by decide +kernel
theorem d_CR_extendable_7 : decode b_CR_extendable 7 = .ok (.ifCond .eq 17, 3) := by decide +kernel
theorem d_CR_extendable_10 : decode b_CR_extendable 10 = .ok (.iload_n 1, 1) := by decide +kernel
theorem d_CR_extendable_11 : decode b_CR_extendable 11 = .ok (.iconst 3, 1) := by decide +kernel
theorem d_CR_extendable_12 : decode b_CR_extendable 12 = .ok (.aload_n 0, 1) := by decide +kernel
theorem d_CR_extendable_13 : decode b_CR_extendable 13 = .ok (.getfield 12, 3) := by decide +kernel
theorem d_CR_extendable_16 : decode b_CR_extendable 16 = .ok (.getfield 47, 3) := by decide +kernel
theorem d_CR_extendable_19 : decode b_CR_extendable 19 = .ok (.imul, 1) := by decide +kernel
theorem d_CR_extendable_20 : decode b_CR_extendable 20 = .ok (.iushr, 1) := by decide +kernel
theorem d_CR_extendable_21 : decode b_CR_extendable 21 = .ok (.ifCond .eq 5, 3) := by decide +kernel
theorem d_CR_extendable_24 : decode b_CR_extendable 24 = .ok (.iconst (-1), 1) := by decide +kernel
theorem d_CR_extendable_25 : decode b_CR_extendable 25 = .ok (.ireturn, 1) := by decide +kernel
theorem d_CR_extendable_26 : decode b_CR_extendable 26 = .ok (.iconst 0, 1) := by decide +kernel
theorem d_CR_extendable_27 : decode b_CR_extendable 27 = .ok (.istore_n 2, 1) := by decide +kernel
theorem d_CR_extendable_28 : decode b_CR_extendable 28 = .ok (.iconst 0, 1) := by decide +kernel
theorem d_CR_extendable_29 : decode b_CR_extendable 29 = .ok (.istore_n 3, 1) := by decide +kernel
theorem d_CR_extendable_30 : decode b_CR_extendable 30 = .ok (.iconst 0, 1) := by decide +kernel
theorem d_CR_extendable_31 : decode b_CR_extendable 31 = .ok (.istore 4, 2) := by decide +kernel
theorem d_CR_extendable_33 : decode b_CR_extendable 33 = .ok (.iload 4, 2) := by decide +kernel
theorem d_CR_extendable_35 : decode b_CR_extendable 35 = .ok (.aload_n 0, 1) := by decide +kernel
theorem d_CR_extendable_36 : decode b_CR_extendable 36 = .ok (.getfield 12, 3) := by decide +kernel
theorem d_CR_extendable_39 : decode b_CR_extendable 39 = .ok (.getfield 47, 3) := by decide +kernel
theorem d_CR_extendable_42 : decode b_CR_extendable 42 = .ok (.if_icmp .ge 62, 3) := by decide +kernel
theorem d_CR_extendable_45 : decode b_CR_extendable 45 = .ok (.iload_n 1, 1) := by decide +kernel
theorem d_CR_extendable_46 : decode b_CR_extendable 46 = .ok (.iconst 3, 1) := by decide +kernel
theorem d_CR_extendable_47 : decode b_CR_extendable 47 = .ok (.iload 4, 2) := by decide +kernel
theorem d_CR_extendable_49 : decode b_CR_extendable 49 = .ok (.imul, 1) := by decide +kernel
theorem d_CR_extendable_50 : decode b_CR_extendable 50 = .ok (.ishr, 1) := by decide +kernel
theorem d_CR_extendable_51 : decode b_CR_extendable 51 = .ok (.bipush 7, 2) := by decide +kernel
theorem d_CR_extendable_53 : decode b_CR_extendable 53 = .ok (.iand, 1) := by decide +kernel
theorem d_CR_extendable_54 : decode b_CR_extendable 54 = .ok (.istore 5, 2) := by decide +kernel
theorem d_CR_extendable_56 : decode b_CR_extendable 56 = .ok (.iload 5, 2) := by decide +kernel
theorem d_CR_extendable_58 : decode b_CR_extendable 58 = .ok (.bipush 7, 2) := by decide +kernel
theorem d_CR_extendable_60 : decode b_CR_extendable 60 = .ok (.if_icmp .eq 38, 3) := by decide +kernel
theorem d_CR_extendable_63 : decode b_CR_extendable 63 = .ok (.aload_n 0, 1) := by decide +kernel
theorem d_CR_extendable_64 : decode b_CR_extendable 64 = .ok (.getfield 12, 3) := by decide +kernel
theorem d_CR_extendable_67 : decode b_CR_extendable 67 = .ok (.iload 4, 2) := by decide +kernel
theorem d_CR_extendable_69 : decode b_CR_extendable 69 = .ok (.iload 5, 2) := by decide +kernel
theorem d_CR_extendable_71 : decode b_CR_extendable 71 = .ok (.invokevirtual 55, 3) := by decide +kernel
theorem d_CR_extendable_74 : decode b_CR_extendable 74 = .ok (.ifCond .ne 5, 3) := by decide +kernel
theorem d_CR_extendable_77 : decode b_CR_extendable 77 = .ok (.iconst (-1), 1) := by decide +kernel
theorem d_CR_extendable_78 : decode b_CR_extendable 78 = .ok (.ireturn, 1) := by decide +kernel
theorem d_CR_extendable_79 : decode b_CR_extendable 79 = .ok (.iload_n 2, 1) := by decide +kernel
theorem d_CR_extendable_80 : decode b_CR_extendable 80 = .ok (.iconst 3, 1) := by decide +kernel
theorem d_CR_extendable_81 : decode b_CR_extendable 81 = .ok (.iconst 2, 1) := by decide +kernel
theorem d_CR_extendable_82 : decode b_CR_extendable 82 = .ok (.iload 4, 2) := by decide +kernel
theorem d_CR_extendable_84 : decode b_CR_extendable 84 = .ok (.imul, 1) := by decide +kernel
theorem d_CR_extendable_85 : decode b_CR_extendable 85 = .ok (.ishl, 1) := by decide +kernel
theorem d_CR_extendable_86 : decode b_CR_extendable 86 = .ok (.ior, 1) := by decide +kernel
theorem d_CR_extendable_87 : decode b_CR_extendable 87 = .ok (.istore_n 2, 1) := by decide +kernel
theorem d_CR_extendable_88 : decode b_CR_extendable 88 = .ok (.iload_n 3, 1) := by decide +kernel
theorem d_CR_extendable_89 : decode b_CR_extendable 89 = .ok (.iload 5, 2) := by decide +kernel
theorem d_CR_extendable_91 : decode b_CR_extendable 91 = .ok (.iconst 2, 1) := by decide +kernel
theorem d_CR_extendable_92 : decode b_CR_extendable 92 = .ok (.iload 4, 2) := by decide +kernel
theorem d_CR_extendable_94 : decode b_CR_extendable 94 = .ok (.imul, 1) := by decide +kernel
theorem d_CR_extendable_95 : decode b_CR_extendable 95 = .ok (.ishl, 1) := by decide +kernel
theorem d_CR_extendable_96 : decode b_CR_extendable 96 = .ok (.ior, 1) := by decide +kernel
theorem d_CR_extendable_97 : decode b_CR_extendable 97 = .ok (.istore_n 3, 1) := by decide +kernel
theorem d_CR_extendable_98 : decode b_CR_extendable 98 = .ok (.iinc 4 1, 3) := by decide +kernel
theorem d_CR_extendable_101 : decode b_CR_extendable 101 = .ok (.goto (-68), 3) := by decide +kernel
theorem d_CR_extendable_104 : decode b_CR_extendable 104 = .ok (.aload_n 0, 1) := by decide +kernel
theorem d_CR_extendable_105 : decode b_CR_extendable 105 = .ok (.getfield 12, 3) := by decide +kernel
theorem d_CR_extendable_108 : decode b_CR_extendable 108 = .ok (.getfield 107, 3) := by decide +kernel
theorem d_CR_extendable_111 : decode b_CR_extendable 111 = .ok (.iload_n 2, 1) := by decide +kernel
theorem d_CR_extendable_112 : decode b_CR_extendable 112 = .ok (.iload_n 3, 1) := by decide +kernel
theorem d_CR_extendable_113 : decode b_CR_extendable 113 = .ok (.invokevirtual 156, 3) := by decide +kernel
theorem d_CR_extendable_116 : decode b_CR_extendable 116 = .ok (.ifCond .eq 5, 3) := by decide +kernel
theorem d_CR_extendable_119 : decode b_CR_extendable 119 = .ok (.iconst 2, 1) := by decide +kernel
theorem d_CR_extendable_120 : decode b_CR_extendable 120 = .ok (.ireturn, 1) := by decide +kernel
theorem d_CR_extendable_121 : decode b_CR_extendable 121 = .ok (.aload_n 0, 1) := by decide +kernel
theorem d_CR_extendable_122 : decode b_CR_extendable 122 = .ok (.getfield 12, 3) := by decide +kernel
theorem d_CR_extendable_125 : decode b_CR_extendable 125 = .ok (.getfield 159, 3) := by decide +kernel
theorem d_CR_extendable_128 : decode b_CR_extendable 128 = .ok (.iload_n 2, 1) := by decide +kernel
theorem d_CR_extendable_129 : decode b_CR_extendable 129 = .ok (.iload_n 3, 1) := by decide +kernel
theorem d_CR_extendable_130 : decode b_CR_extendable 130 = .ok (.invokevirtual 156, 3) := by decide +kernel
theorem d_CR_extendable_133 : decode b_CR_extendable 133 = .ok (.ifCond .eq 7, 3) := by decide +kernel
theorem d_CR_extendable_136 : decode b_CR_extendable 136 = .ok (.iconst 1, 1) := by decide +kernel
theorem d_CR_extendable_137 : decode b_CR_extendable 137 = .ok (.goto 4, 3) := by decide +kernel
theorem d_CR_extendable_140 : decode b_CR_extendable 140 = .ok (.iconst 0, 1) := by decide +kernel
theorem d_CR_extendable_141 : decode b_CR_extendable 141 = .ok (.ireturn, 1) := by decide +kernel
theorem d_CR_forbidden_0 : decode b_CR_forbidden 0 = .ok (.iload_n 1, 1) := by decide +kernel
theorem d_CR_forbidden_1 : decode b_CR_forbidden 1 = .ok (.iconst 1, 1) := by decide +kernel
theorem d_CR_forbidden_2 : decode b_CR_forbidden 2 = .ok (.if_icmp .lt 8, 3) := by decide +kernel
theorem d_CR_forbidden_5 : decode b_CR_forbidden 5 = .ok (.iload_n 1, 1) := by decide +kernel
theorem d_CR_forbidden_6 : decode b_CR_forbidden 6 = .ok (.iconst 3, 1) := by decide +kernel
theorem d_CR_forbidden_7 : decode b_CR_forbidden 7 = .ok (.if_icmp .le 5, 3) := by decide +kernel
theorem d_CR_forbidden_10 : decode b_CR_forbidden 10 = .ok (.iconst (-1), 1) := by decide +kernel
theorem d_CR_forbidden_11 : decode b_CR_forbidden 11 = .ok (.ireturn, 1) := by decide +kernel
theorem d_CR_forbidden_12 : decode b_CR_forbidden 12 = .ok (.iconst 0, 1) := by decide +kernel
theorem d_CR_forbidden_13 : decode b_CR_forbidden 13 = .ok (.istore_n 2, 1) := by decide +kernel
theorem d_CR_forbidden_14 : decode b_CR_forbidden 14 = .ok (.iconst 1, 1) := by decide +kernel
theorem d_CR_forbidden_15 : decode b_CR_forbidden 15 = .ok (.istore_n 3, 1) := by decide +kernel
theorem d_CR_forbidden_16 : decode b_CR_forbidden 16 = .ok (.iload_n 3, 1) := by decide +kernel
theorem d_CR_forbidden_17 : decode b_CR_forbidden 17 = .ok (.bipush 64, 2) := by decide +kernel
theorem d_CR_forbidden_19 : decode b_CR_forbidden 19 = .ok (.if_icmp .ge 42, 3) := by decide +kernel
theorem d_CR_forbidden_22 : decode b_CR_forbidden 22 = .ok (.aload_n 0, 1) := by decide +kernel
theorem d_CR_forbidden_23 : decode b_CR_forbidden 23 = .ok (.getfield 12, 3) := by decide +kernel
theorem d_CR_forbidden_26 : decode b_CR_forbidden 26 = .ok (.iload_n 3, 1) := by decide +kernel
theorem d_CR_forbidden_27 : decode b_CR_forbidden 27 = .ok (.invokevirtual 66, 3) := by decide +kernel
theorem d_CR_forbidden_30 : decode b_CR_forbidden 30 = .ok (.ifCond .eq 25, 3) := by decide +kernel
theorem d_CR_forbidden_33 : decode b_CR_forbidden 33 = .ok (.iload_n 3, 1) := by decide +kernel
theorem d_CR_forbidden_34 : decode b_CR_forbidden 34 = .ok (.invokestatic 70, 3) := by decide +kernel
theorem d_CR_forbidden_37 : decode b_CR_forbidden 37 = .ok (.iload_n 1, 1) := by decide +kernel
theorem d_CR_forbidden_38 : decode b_CR_forbidden 38 = .ok (.if_icmp .ne 17, 3) := by decide +kernel
theorem d_CR_forbidden_41 : decode b_CR_forbidden 41 = .ok (.iload_n 2, 1) := by decide +kernel
theorem d_CR_forbidden_42 : decode b_CR_forbidden 42 = .ok (.aload_n 0, 1) := by decide +kernel
theorem d_CR_forbidden_43 : decode b_CR_forbidden 43 = .ok (.getfield 12, 3) := by decide +kernel
theorem d_CR_forbidden_46 : decode b_CR_forbidden 46 = .ok (.iload_n 3, 1) := by decide +kernel
theorem d_CR_forbidden_47 : decode b_CR_forbidden 47 = .ok (.invokestatic 162, 3) := by decide +kernel
theorem d_CR_forbidden_50 : decode b_CR_forbidden 50 = .ok (.invokevirtual 165, 3) := by decide +kernel
theorem d_CR_forbidden_53 : decode b_CR_forbidden 53 = .ok (.iadd, 1) := by decide +kernel
theorem d_CR_forbidden_54 : decode b_CR_forbidden 54 = .ok (.istore_n 2, 1) := by decide +kernel
theorem d_CR_forbidden_55 : decode b_CR_forbidden 55 = .ok (.iinc 3 1, 3) := by decide +kernel
theorem d_CR_forbidden_58 : decode b_CR_forbidden 58 = .ok (.goto (-42), 3) := by decide +kernel
theorem d_CR_forbidden_61 : decode b_CR_forbidden 61 = .ok (.iload_n 2, 1) := by decide +kernel
theorem d_CR_forbidden_62 : decode b_CR_forbidden 62 = .ok (.ireturn, 1) := by decide +kernel
theorem d_Sp_minimalForbidden_0 : decode b_Sp_minimalForbidden 0 = .ok (.iconst 0, 1) := by decide +kernel
theorem d_Sp_minimalForbidden_1 : decode b_Sp_minimalForbidden 1 = .ok (.istore_n 2, 1) := by decide +kernel
theorem d_Sp_minimalForbidden_2 : decode b_Sp_minimalForbidden 2 = .ok (.iconst 1, 1) := by decide +kernel
theorem d_Sp_minimalForbidden_3 : decode b_Sp_minimalForbidden 3 = .ok (.iload_n 1, 1) := by decide +kernel
theorem d_Sp_minimalForbidden_4 : decode b_Sp_minimalForbidden 4 = .ok (.invokestatic 84, 3) := by decide +kernel
theorem d_Sp_minimalForbidden_7 : decode b_Sp_minimalForbidden 7 = .ok (.ishl, 1) := by decide +kernel
theorem d_Sp_minimalForbidden_8 : decode b_Sp_minimalForbidden 8 = .ok (.istore_n 3, 1) := by decide +kernel
theorem d_Sp_minimalForbidden_9 : decode b_Sp_minimalForbidden 9 = .ok (.iconst 0, 1) := by decide +kernel
theorem d_Sp_minimalForbidden_10 : decode b_Sp_minimalForbidden 10 = .ok (.istore 4, 2) := by decide +kernel
theorem d_Sp_minimalForbidden_12 : decode b_Sp_minimalForbidden 12 = .ok (.iconst 0, 1) := by decide +kernel
theorem d_Sp_minimalForbidden_13 : decode b_Sp_minimalForbidden 13 = .ok (.istore 5, 2) := by decide +kernel
theorem d_Sp_minimalForbidden_15 : decode b_Sp_minimalForbidden 15 = .ok (.iload 5, 2) := by decide +kernel
theorem d_Sp_minimalForbidden_17 : decode b_Sp_minimalForbidden 17 = .ok (.iload_n 3, 1) := by decide +kernel
theorem d_Sp_minimalForbidden_18 : decode b_Sp_minimalForbidden 18 = .ok (.if_icmp .ge 30, 3) := by decide +kernel
theorem d_Sp_minimalForbidden_21 : decode b_Sp_minimalForbidden 21 = .ok (.aload_n 0, 1) := by decide +kernel
theorem d_Sp_minimalForbidden_22 : decode b_Sp_minimalForbidden 22 = .ok (.iload_n 1, 1) := by decide +kernel
theorem d_Sp_minimalForbidden_23 : decode b_Sp_minimalForbidden 23 = .ok (.iload 4, 2) := by decide +kernel
theorem d_Sp_minimalForbidden_25 : decode b_Sp_minimalForbidden 25 = .ok (.invokevirtual 90, 3) := by decide +kernel
theorem d_Sp_minimalForbidden_28 : decode b_Sp_minimalForbidden 28 = .ok (.ifCond .eq 6, 3) := by decide +kernel
theorem d_Sp_minimalForbidden_31 : decode b_Sp_minimalForbidden 31 = .ok (.iinc 2 1, 3) := by decide +kernel
theorem d_Sp_minimalForbidden_34 : decode b_Sp_minimalForbidden 34 = .ok (.iload_n 1, 1) := by decide +kernel
theorem d_Sp_minimalForbidden_35 : decode b_Sp_minimalForbidden 35 = .ok (.iload 4, 2) := by decide +kernel
theorem d_Sp_minimalForbidden_37 : decode b_Sp_minimalForbidden 37 = .ok (.invokestatic 93, 3) := by decide +kernel
theorem d_Sp_minimalForbidden_40 : decode b_Sp_minimalForbidden 40 = .ok (.istore 4, 2) := by decide +kernel
theorem d_Sp_minimalForbidden_42 : decode b_Sp_minimalForbidden 42 = .ok (.iinc 5 1, 3) := by decide +kernel
theorem d_Sp_minimalForbidden_45 : decode b_Sp_minimalForbidden 45 = .ok (.goto (-30), 3) := by decide +kernel
theorem d_Sp_minimalForbidden_48 : decode b_Sp_minimalForbidden 48 = .ok (.iload_n 2, 1) := by decide +kernel
theorem d_Sp_minimalForbidden_49 : decode b_Sp_minimalForbidden 49 = .ok (.ireturn, 1) := by decide +kernel
theorem d_Sp_isMinimalForbidden_0 : decode b_Sp_isMinimalForbidden 0 = .ok (.aload_n 0, 1) := by decide +kernel
theorem d_Sp_isMinimalForbidden_1 : decode b_Sp_isMinimalForbidden 1 = .ok (.iload_n 2, 1) := by decide +kernel
theorem d_Sp_isMinimalForbidden_2 : decode b_Sp_isMinimalForbidden 2 = .ok (.invokevirtual 69, 3) := by decide +kernel
theorem d_Sp_isMinimalForbidden_5 : decode b_Sp_isMinimalForbidden 5 = .ok (.ifCond .eq 24, 3) := by decide +kernel
theorem d_Sp_isMinimalForbidden_8 : decode b_Sp_isMinimalForbidden 8 = .ok (.aload_n 0, 1) := by decide +kernel
theorem d_Sp_isMinimalForbidden_9 : decode b_Sp_isMinimalForbidden 9 = .ok (.iload_n 1, 1) := by decide +kernel
theorem d_Sp_isMinimalForbidden_10 : decode b_Sp_isMinimalForbidden 10 = .ok (.iload_n 2, 1) := by decide +kernel
theorem d_Sp_isMinimalForbidden_11 : decode b_Sp_isMinimalForbidden 11 = .ok (.invokevirtual 96, 3) := by decide +kernel
theorem d_Sp_isMinimalForbidden_14 : decode b_Sp_isMinimalForbidden 14 = .ok (.ifCond .ne 15, 3) := by decide +kernel
theorem d_Sp_isMinimalForbidden_17 : decode b_Sp_isMinimalForbidden 17 = .ok (.aload_n 0, 1) := by decide +kernel
theorem d_Sp_isMinimalForbidden_18 : decode b_Sp_isMinimalForbidden 18 = .ok (.getfield 25, 3) := by decide +kernel
theorem d_Sp_isMinimalForbidden_21 : decode b_Sp_isMinimalForbidden 21 = .ok (.iload_n 1, 1) := by decide +kernel
theorem d_Sp_isMinimalForbidden_22 : decode b_Sp_isMinimalForbidden 22 = .ok (.iload_n 2, 1) := by decide +kernel
theorem d_Sp_isMinimalForbidden_23 : decode b_Sp_isMinimalForbidden 23 = .ok (.invokevirtual 99, 3) := by decide +kernel
theorem d_Sp_isMinimalForbidden_26 : decode b_Sp_isMinimalForbidden 26 = .ok (.ifCond .eq 5, 3) := by decide +kernel
theorem d_Sp_isMinimalForbidden_29 : decode b_Sp_isMinimalForbidden 29 = .ok (.iconst 0, 1) := by decide +kernel
theorem d_Sp_isMinimalForbidden_30 : decode b_Sp_isMinimalForbidden 30 = .ok (.ireturn, 1) := by decide +kernel
theorem d_Sp_isMinimalForbidden_31 : decode b_Sp_isMinimalForbidden 31 = .ok (.iconst 0, 1) := by decide +kernel
theorem d_Sp_isMinimalForbidden_32 : decode b_Sp_isMinimalForbidden 32 = .ok (.istore_n 3, 1) := by decide +kernel
theorem d_Sp_isMinimalForbidden_33 : decode b_Sp_isMinimalForbidden 33 = .ok (.iload_n 3, 1) := by decide +kernel
theorem d_Sp_isMinimalForbidden_34 : decode b_Sp_isMinimalForbidden 34 = .ok (.bipush 6, 2) := by decide +kernel
theorem d_Sp_isMinimalForbidden_36 : decode b_Sp_isMinimalForbidden 36 = .ok (.if_icmp .ge 44, 3) := by decide +kernel
theorem d_Sp_isMinimalForbidden_39 : decode b_Sp_isMinimalForbidden 39 = .ok (.iload_n 1, 1) := by decide +kernel
theorem d_Sp_isMinimalForbidden_40 : decode b_Sp_isMinimalForbidden 40 = .ok (.iconst 3, 1) := by decide +kernel
theorem d_Sp_isMinimalForbidden_41 : decode b_Sp_isMinimalForbidden 41 = .ok (.iconst 2, 1) := by decide +kernel
theorem d_Sp_isMinimalForbidden_42 : decode b_Sp_isMinimalForbidden 42 = .ok (.iload_n 3, 1) := by decide +kernel
theorem d_Sp_isMinimalForbidden_43 : decode b_Sp_isMinimalForbidden 43 = .ok (.imul, 1) := by decide +kernel
theorem d_Sp_isMinimalForbidden_44 : decode b_Sp_isMinimalForbidden 44 = .ok (.ishl, 1) := by decide +kernel
theorem d_Sp_isMinimalForbidden_45 : decode b_Sp_isMinimalForbidden 45 = .ok (.iconst (-1), 1) := by decide +kernel
theorem d_Sp_isMinimalForbidden_46 : decode b_Sp_isMinimalForbidden 46 = .ok (.ixor, 1) := by decide +kernel
theorem d_Sp_isMinimalForbidden_47 : decode b_Sp_isMinimalForbidden 47 = .ok (.iand, 1) := by decide +kernel
theorem d_Sp_isMinimalForbidden_48 : decode b_Sp_isMinimalForbidden 48 = .ok (.istore 4, 2) := by decide +kernel
theorem d_Sp_isMinimalForbidden_50 : decode b_Sp_isMinimalForbidden 50 = .ok (.iload 4, 2) := by decide +kernel
theorem d_Sp_isMinimalForbidden_52 : decode b_Sp_isMinimalForbidden 52 = .ok (.iload_n 1, 1) := by decide +kernel
theorem d_Sp_isMinimalForbidden_53 : decode b_Sp_isMinimalForbidden 53 = .ok (.if_icmp .eq 21, 3) := by decide +kernel
theorem d_Sp_isMinimalForbidden_56 : decode b_Sp_isMinimalForbidden 56 = .ok (.aload_n 0, 1) := by decide +kernel
theorem d_Sp_isMinimalForbidden_57 : decode b_Sp_isMinimalForbidden 57 = .ok (.getfield 25, 3) := by decide +kernel
theorem d_Sp_isMinimalForbidden_60 : decode b_Sp_isMinimalForbidden 60 = .ok (.iload 4, 2) := by decide +kernel
theorem d_Sp_isMinimalForbidden_62 : decode b_Sp_isMinimalForbidden 62 = .ok (.iload_n 2, 1) := by decide +kernel
theorem d_Sp_isMinimalForbidden_63 : decode b_Sp_isMinimalForbidden 63 = .ok (.iload 4, 2) := by decide +kernel
theorem d_Sp_isMinimalForbidden_65 : decode b_Sp_isMinimalForbidden 65 = .ok (.iand, 1) := by decide +kernel
theorem d_Sp_isMinimalForbidden_66 : decode b_Sp_isMinimalForbidden 66 = .ok (.invokevirtual 99, 3) := by decide +kernel
theorem d_Sp_isMinimalForbidden_69 : decode b_Sp_isMinimalForbidden 69 = .ok (.ifCond .ne 5, 3) := by decide +kernel
theorem d_Sp_isMinimalForbidden_72 : decode b_Sp_isMinimalForbidden 72 = .ok (.iconst 0, 1) := by decide +kernel
theorem d_Sp_isMinimalForbidden_73 : decode b_Sp_isMinimalForbidden 73 = .ok (.ireturn, 1) := by decide +kernel
theorem d_Sp_isMinimalForbidden_74 : decode b_Sp_isMinimalForbidden 74 = .ok (.iinc 3 1, 3) := by decide +kernel
theorem d_Sp_isMinimalForbidden_77 : decode b_Sp_isMinimalForbidden 77 = .ok (.goto (-44), 3) := by decide +kernel
theorem d_Sp_isMinimalForbidden_80 : decode b_Sp_isMinimalForbidden 80 = .ok (.iconst 1, 1) := by decide +kernel
theorem d_Sp_isMinimalForbidden_81 : decode b_Sp_isMinimalForbidden 81 = .ok (.ireturn, 1) := by decide +kernel
theorem d_Mo_init_0 : decode b_Mo_init 0 = .ok (.aload_n 0, 1) := by decide +kernel
theorem d_Mo_init_1 : decode b_Mo_init 1 = .ok (.invokespecial 1, 3) := by decide +kernel
theorem d_Mo_init_4 : decode b_Mo_init 4 = .ok (.aload_n 0, 1) := by decide +kernel
theorem d_Mo_init_5 : decode b_Mo_init 5 = .ok (.bipush 6, 2) := by decide +kernel
theorem d_Mo_init_7 : decode b_Mo_init 7 = .ok (.newarray .int, 2) := by decide +kernel
theorem d_Mo_init_9 : decode b_Mo_init 9 = .ok (.putfield 7, 3) := by decide +kernel
theorem d_Mo_init_12 : decode b_Mo_init 12 = .ok (.aload_n 0, 1) := by decide +kernel
theorem d_Mo_init_13 : decode b_Mo_init 13 = .ok (.bipush 24, 2) := by decide +kernel
theorem d_Mo_init_15 : decode b_Mo_init 15 = .ok (.newarray .boolean, 2) := by decide +kernel
theorem d_Mo_init_17 : decode b_Mo_init 17 = .ok (.putfield 13, 3) := by decide +kernel
theorem d_Mo_init_20 : decode b_Mo_init 20 = .ok (.aload_n 0, 1) := by decide +kernel
theorem d_Mo_init_21 : decode b_Mo_init 21 = .ok (.bipush 8, 2) := by decide +kernel
theorem d_Mo_init_23 : decode b_Mo_init 23 = .ok (.newarray .int, 2) := by decide +kernel
theorem d_Mo_init_25 : decode b_Mo_init 25 = .ok (.putfield 17, 3) := by decide +kernel
theorem d_Mo_init_28 : decode b_Mo_init 28 = .ok (.aload_n 0, 1) := by decide +kernel
theorem d_Mo_init_29 : decode b_Mo_init 29 = .ok (.bipush 8, 2) := by decide +kernel
theorem d_Mo_init_31 : decode b_Mo_init 31 = .ok (.newarray .int, 2) := by decide +kernel
theorem d_Mo_init_33 : decode b_Mo_init 33 = .ok (.putfield 20, 3) := by decide +kernel
theorem d_Mo_init_36 : decode b_Mo_init 36 = .ok (.aload_n 0, 1) := by decide +kernel
theorem d_Mo_init_37 : decode b_Mo_init 37 = .ok (.sipush 520, 3) := by decide +kernel
theorem d_Mo_init_40 : decode b_Mo_init 40 = .ok (.newarray .byte, 2) := by decide +kernel
theorem d_Mo_init_42 : decode b_Mo_init 42 = .ok (.putfield 23, 3) := by decide +kernel
theorem d_Mo_init_45 : decode b_Mo_init 45 = .ok (.aload_n 0, 1) := by decide +kernel
theorem d_Mo_init_46 : decode b_Mo_init 46 = .ok (.sipush 520, 3) := by decide +kernel
theorem d_Mo_init_49 : decode b_Mo_init 49 = .ok (.newarray .short, 2) := by decide +kernel
theorem d_Mo_init_51 : decode b_Mo_init 51 = .ok (.putfield 27, 3) := by decide +kernel
theorem d_Mo_init_54 : decode b_Mo_init 54 = .ok (.aload_n 0, 1) := by decide +kernel
theorem d_Mo_init_55 : decode b_Mo_init 55 = .ok (.sipush 520, 3) := by decide +kernel
theorem d_Mo_init_58 : decode b_Mo_init 58 = .ok (.newarray .short, 2) := by decide +kernel
theorem d_Mo_init_60 : decode b_Mo_init 60 = .ok (.putfield 31, 3) := by decide +kernel
theorem d_Mo_init_63 : decode b_Mo_init 63 = .ok (.aload_n 0, 1) := by decide +kernel
theorem d_Mo_init_64 : decode b_Mo_init 64 = .ok (.sipush 520, 3) := by decide +kernel
theorem d_Mo_init_67 : decode b_Mo_init 67 = .ok (.newarray .byte, 2) := by decide +kernel
theorem d_Mo_init_69 : decode b_Mo_init 69 = .ok (.putfield 34, 3) := by decide +kernel
theorem d_Mo_init_72 : decode b_Mo_init 72 = .ok (.aload_n 0, 1) := by decide +kernel
theorem d_Mo_init_73 : decode b_Mo_init 73 = .ok (.sipush 520, 3) := by decide +kernel
theorem d_Mo_init_76 : decode b_Mo_init 76 = .ok (.newarray .boolean, 2) := by decide +kernel
theorem d_Mo_init_78 : decode b_Mo_init 78 = .ok (.putfield 37, 3) := by decide +kernel
theorem d_Mo_init_81 : decode b_Mo_init 81 = .ok (.aload_n 0, 1) := by decide +kernel
theorem d_Mo_init_82 : decode b_Mo_init 82 = .ok (.bipush 8, 2) := by decide +kernel
theorem d_Mo_init_84 : decode b_Mo_init 84 = .ok (.newarray .int, 2) := by decide +kernel
theorem d_Mo_init_86 : decode b_Mo_init 86 = .ok (.putfield 40, 3) := by decide +kernel
theorem d_Mo_init_89 : decode b_Mo_init 89 = .ok (.aload_n 0, 1) := by decide +kernel
theorem d_Mo_init_90 : decode b_Mo_init 90 = .ok (.bipush 8, 2) := by decide +kernel
theorem d_Mo_init_92 : decode b_Mo_init 92 = .ok (.newarray .int, 2) := by decide +kernel
theorem d_Mo_init_94 : decode b_Mo_init 94 = .ok (.putfield 43, 3) := by decide +kernel
theorem d_Mo_init_97 : decode b_Mo_init 97 = .ok (.aload_n 0, 1) := by decide +kernel
theorem d_Mo_init_98 : decode b_Mo_init 98 = .ok (.bipush 8, 2) := by decide +kernel
theorem d_Mo_init_100 : decode b_Mo_init 100 = .ok (.newarray .int, 2) := by decide +kernel
theorem d_Mo_init_102 : decode b_Mo_init 102 = .ok (.putfield 46, 3) := by decide +kernel
theorem d_Mo_init_105 : decode b_Mo_init 105 = .ok (.aload_n 0, 1) := by decide +kernel
theorem d_Mo_init_106 : decode b_Mo_init 106 = .ok (.sipush 4096, 3) := by decide +kernel
theorem d_Mo_init_109 : decode b_Mo_init 109 = .ok (.newarray .byte, 2) := by decide +kernel
theorem d_Mo_init_111 : decode b_Mo_init 111 = .ok (.putfield 49, 3) := by decide +kernel
theorem d_Mo_init_114 : decode b_Mo_init 114 = .ok (.aload_n 0, 1) := by decide +kernel
theorem d_Mo_init_115 : decode b_Mo_init 115 = .ok (.sipush 4096, 3) := by decide +kernel
theorem d_Mo_init_118 : decode b_Mo_init 118 = .ok (.newarray .boolean, 2) := by decide +kernel
theorem d_Mo_init_120 : decode b_Mo_init 120 = .ok (.putfield 52, 3) := by decide +kernel
theorem d_Mo_init_123 : decode b_Mo_init 123 = .ok (.aload_n 0, 1) := by decide +kernel
theorem d_Mo_init_124 : decode b_Mo_init 124 = .ok (.sipush 4096, 3) := by decide +kernel
theorem d_Mo_init_127 : decode b_Mo_init 127 = .ok (.newarray .boolean, 2) := by decide +kernel
theorem d_Mo_init_129 : decode b_Mo_init 129 = .ok (.putfield 55, 3) := by decide +kernel
theorem d_Mo_init_132 : decode b_Mo_init 132 = .ok (.aload_n 0, 1) := by decide +kernel
theorem d_Mo_init_133 : decode b_Mo_init 133 = .ok (.sipush 4096, 3) := by decide +kernel
theorem d_Mo_init_136 : decode b_Mo_init 136 = .ok (.newarray .boolean, 2) := by decide +kernel
theorem d_Mo_init_138 : decode b_Mo_init 138 = .ok (.putfield 58, 3) := by decide +kernel
theorem d_Mo_init_141 : decode b_Mo_init 141 = .ok (.aload_n 0, 1) := by decide +kernel
theorem d_Mo_init_142 : decode b_Mo_init 142 = .ok (.sipush 528, 3) := by decide +kernel
theorem d_Mo_init_145 : decode b_Mo_init 145 = .ok (.newarray .short, 2) := by decide +kernel
theorem d_Mo_init_147 : decode b_Mo_init 147 = .ok (.putfield 61, 3) := by decide +kernel
theorem d_Mo_init_150 : decode b_Mo_init 150 = .ok (.aload_n 0, 1) := by decide +kernel
theorem d_Mo_init_151 : decode b_Mo_init 151 = .ok (.sipush 528, 3) := by decide +kernel
theorem d_Mo_init_154 : decode b_Mo_init 154 = .ok (.newarray .short, 2) := by decide +kernel
theorem d_Mo_init_156 : decode b_Mo_init 156 = .ok (.putfield 64, 3) := by decide +kernel
theorem d_Mo_init_159 : decode b_Mo_init 159 = .ok (.return_, 1) := by decide +kernel
theorem d_Mo_parameter_0 : decode b_Mo_parameter 0 = .ok (.aload_n 0, 1) := by decide +kernel
theorem d_Mo_parameter_1 : decode b_Mo_parameter 1 = .ok (.getfield 67, 3) := by decide +kernel
theorem d_Mo_parameter_4 : decode b_Mo_parameter 4 = .ok (.ifCond .eq 5, 3) := by decide +kernel
theorem d_Mo_parameter_7 : decode b_Mo_parameter 7 = .ok (.iconst (-1), 1) := by decide +kernel
theorem d_Mo_parameter_8 : decode b_Mo_parameter 8 = .ok (.ireturn, 1) := by decide +kernel
theorem d_Mo_parameter_9 : decode b_Mo_parameter 9 = .ok (.iload_n 1, 1) := by decide +kernel
theorem d_Mo_parameter_10 : decode b_Mo_parameter 10 = .ok (.iconst 2, 1) := by decide +kernel
theorem d_Mo_parameter_11 : decode b_Mo_parameter 11 = .ok (.if_icmp .lt 17, 3) := by decide +kernel
theorem d_Mo_parameter_14 : decode b_Mo_parameter 14 = .ok (.iload_n 1, 1) := by decide +kernel
theorem d_Mo_parameter_15 : decode b_Mo_parameter 15 = .ok (.iconst 4, 1) := by decide +kernel
theorem d_Mo_parameter_16 : decode b_Mo_parameter 16 = .ok (.if_icmp .gt 12, 3) := by decide +kernel
theorem d_Mo_parameter_19 : decode b_Mo_parameter 19 = .ok (.aload_n 0, 1) := by decide +kernel
theorem d_Mo_parameter_20 : decode b_Mo_parameter 20 = .ok (.getfield 71, 3) := by decide +kernel
theorem d_Mo_parameter_23 : decode b_Mo_parameter 23 = .ok (.bipush 6, 2) := by decide +kernel
theorem d_Mo_parameter_25 : decode b_Mo_parameter 25 = .ok (.if_icmp .ne 6, 3) := by decide +kernel
theorem d_Mo_parameter_28 : decode b_Mo_parameter 28 = .ok (.bipush (-2), 2) := by decide +kernel
theorem d_Mo_parameter_30 : decode b_Mo_parameter 30 = .ok (.ireturn, 1) := by decide +kernel
theorem d_Mo_parameter_31 : decode b_Mo_parameter 31 = .ok (.aload_n 0, 1) := by decide +kernel
theorem d_Mo_parameter_32 : decode b_Mo_parameter 32 = .ok (.getfield 7, 3) := by decide +kernel
theorem d_Mo_parameter_35 : decode b_Mo_parameter 35 = .ok (.aload_n 0, 1) := by decide +kernel
theorem d_Mo_parameter_36 : decode b_Mo_parameter 36 = .ok (.getfield 71, 3) := by decide +kernel
theorem d_Mo_parameter_39 : decode b_Mo_parameter 39 = .ok (.iload_n 1, 1) := by decide +kernel
theorem d_Mo_parameter_40 : decode b_Mo_parameter 40 = .ok (.iastore, 1) := by decide +kernel
theorem d_Mo_parameter_41 : decode b_Mo_parameter 41 = .ok (.aload_n 0, 1) := by decide +kernel
theorem d_Mo_parameter_42 : decode b_Mo_parameter 42 = .ok (.dup, 1) := by decide +kernel
theorem d_Mo_parameter_43 : decode b_Mo_parameter 43 = .ok (.getfield 71, 3) := by decide +kernel
theorem d_Mo_parameter_46 : decode b_Mo_parameter 46 = .ok (.iconst 1, 1) := by decide +kernel
theorem d_Mo_parameter_47 : decode b_Mo_parameter 47 = .ok (.iadd, 1) := by decide +kernel
theorem d_Mo_parameter_48 : decode b_Mo_parameter 48 = .ok (.putfield 71, 3) := by decide +kernel
theorem d_Mo_parameter_51 : decode b_Mo_parameter 51 = .ok (.aload_n 0, 1) := by decide +kernel
theorem d_Mo_parameter_52 : decode b_Mo_parameter 52 = .ok (.iconst 0, 1) := by decide +kernel
theorem d_Mo_parameter_53 : decode b_Mo_parameter 53 = .ok (.putfield 75, 3) := by decide +kernel
theorem d_Mo_parameter_56 : decode b_Mo_parameter 56 = .ok (.aload_n 0, 1) := by decide +kernel
theorem d_Mo_parameter_57 : decode b_Mo_parameter 57 = .ok (.getfield 71, 3) := by decide +kernel
theorem d_Mo_parameter_60 : decode b_Mo_parameter 60 = .ok (.iconst 1, 1) := by decide +kernel
theorem d_Mo_parameter_61 : decode b_Mo_parameter 61 = .ok (.isub, 1) := by decide +kernel
theorem d_Mo_parameter_62 : decode b_Mo_parameter 62 = .ok (.ireturn, 1) := by decide +kernel
theorem d_Mo_invalid_0 : decode b_Mo_invalid 0 = .ok (.aload_n 0, 1) := by decide +kernel
theorem d_Mo_invalid_1 : decode b_Mo_invalid 1 = .ok (.getfield 67, 3) := by decide +kernel
theorem d_Mo_invalid_4 : decode b_Mo_invalid 4 = .ok (.ifCond .ne 25, 3) := by decide +kernel
theorem d_Mo_invalid_7 : decode b_Mo_invalid 7 = .ok (.aload_n 0, 1) := by decide +kernel
theorem d_Mo_invalid_8 : decode b_Mo_invalid 8 = .ok (.iload_n 1, 1) := by decide +kernel
theorem d_Mo_invalid_9 : decode b_Mo_invalid 9 = .ok (.iload_n 2, 1) := by decide +kernel
theorem d_Mo_invalid_10 : decode b_Mo_invalid 10 = .ok (.invokevirtual 78, 3) := by decide +kernel
theorem d_Mo_invalid_13 : decode b_Mo_invalid 13 = .ok (.ifCond .ne 16, 3) := by decide +kernel
theorem d_Mo_invalid_16 : decode b_Mo_invalid 16 = .ok (.aload_n 0, 1) := by decide +kernel
theorem d_Mo_invalid_17 : decode b_Mo_invalid 17 = .ok (.getfield 13, 3) := by decide +kernel
theorem d_Mo_invalid_20 : decode b_Mo_invalid 20 = .ok (.iconst 4, 1) := by decide +kernel
theorem d_Mo_invalid_21 : decode b_Mo_invalid 21 = .ok (.iload_n 1, 1) := by decide +kernel
theorem d_Mo_invalid_22 : decode b_Mo_invalid 22 = .ok (.imul, 1) := by decide +kernel
theorem d_Mo_invalid_23 : decode b_Mo_invalid 23 = .ok (.iload_n 2, 1) := by decide +kernel
theorem d_Mo_invalid_24 : decode b_Mo_invalid 24 = .ok (.iadd, 1) := by decide +kernel
theorem d_Mo_invalid_25 : decode b_Mo_invalid 25 = .ok (.baload, 1) := by decide +kernel
theorem d_Mo_invalid_26 : decode b_Mo_invalid 26 = .ok (.ifCond .eq 5, 3) := by decide +kernel
theorem d_Mo_invalid_29 : decode b_Mo_invalid 29 = .ok (.iconst 0, 1) := by decide +kernel
theorem d_Mo_invalid_30 : decode b_Mo_invalid 30 = .ok (.ireturn, 1) := by decide +kernel
theorem d_Mo_invalid_31 : decode b_Mo_invalid 31 = .ok (.aload_n 0, 1) := by decide +kernel
theorem d_Mo_invalid_32 : decode b_Mo_invalid 32 = .ok (.getfield 13, 3) := by decide +kernel
theorem d_Mo_invalid_35 : decode b_Mo_invalid 35 = .ok (.iconst 4, 1) := by decide +kernel
theorem d_Mo_invalid_36 : decode b_Mo_invalid 36 = .ok (.iload_n 1, 1) := by decide +kernel
theorem d_Mo_invalid_37 : decode b_Mo_invalid 37 = .ok (.imul, 1) := by decide +kernel
theorem d_Mo_invalid_38 : decode b_Mo_invalid 38 = .ok (.iload_n 2, 1) := by decide +kernel
theorem d_Mo_invalid_39 : decode b_Mo_invalid 39 = .ok (.iadd, 1) := by decide +kernel
theorem d_Mo_invalid_40 : decode b_Mo_invalid 40 = .ok (.iconst 1, 1) := by decide +kernel
theorem d_Mo_invalid_41 : decode b_Mo_invalid 41 = .ok (.bastore, 1) := by decide +kernel
theorem d_Mo_invalid_42 : decode b_Mo_invalid 42 = .ok (.aload_n 0, 1) := by decide +kernel
theorem d_Mo_invalid_43 : decode b_Mo_invalid 43 = .ok (.iconst 0, 1) := by decide +kernel
theorem d_Mo_invalid_44 : decode b_Mo_invalid 44 = .ok (.putfield 75, 3) := by decide +kernel
theorem d_Mo_invalid_47 : decode b_Mo_invalid 47 = .ok (.iconst 1, 1) := by decide +kernel
theorem d_Mo_invalid_48 : decode b_Mo_invalid 48 = .ok (.ireturn, 1) := by decide +kernel
theorem d_Mo_noValue_0 : decode b_Mo_noValue 0 = .ok (.iload_n 1, 1) := by decide +kernel
theorem d_Mo_noValue_1 : decode b_Mo_noValue 1 = .ok (.ifCond .lt 25, 3) := by decide +kernel
theorem d_Mo_noValue_4 : decode b_Mo_noValue 4 = .ok (.iload_n 1, 1) := by decide +kernel
theorem d_Mo_noValue_5 : decode b_Mo_noValue 5 = .ok (.aload_n 0, 1) := by decide +kernel
theorem d_Mo_noValue_6 : decode b_Mo_noValue 6 = .ok (.getfield 71, 3) := by decide +kernel
theorem d_Mo_noValue_9 : decode b_Mo_noValue 9 = .ok (.if_icmp .ge 17, 3) := by decide +kernel
theorem d_Mo_noValue_12 : decode b_Mo_noValue 12 = .ok (.iload_n 2, 1) := by decide +kernel
theorem d_Mo_noValue_13 : decode b_Mo_noValue 13 = .ok (.ifCond .lt 13, 3) := by decide +kernel
theorem d_Mo_noValue_16 : decode b_Mo_noValue 16 = .ok (.iload_n 2, 1) := by decide +kernel
theorem d_Mo_noValue_17 : decode b_Mo_noValue 17 = .ok (.aload_n 0, 1) := by decide +kernel
theorem d_Mo_noValue_18 : decode b_Mo_noValue 18 = .ok (.getfield 7, 3) := by decide +kernel
theorem d_Mo_noValue_21 : decode b_Mo_noValue 21 = .ok (.iload_n 1, 1) := by decide +kernel
theorem d_Mo_noValue_22 : decode b_Mo_noValue 22 = .ok (.iaload, 1) := by decide +kernel
theorem d_Mo_noValue_23 : decode b_Mo_noValue 23 = .ok (.if_icmp .lt 7, 3) := by decide +kernel
theorem d_Mo_noValue_26 : decode b_Mo_noValue 26 = .ok (.iconst 1, 1) := by decide +kernel
theorem d_Mo_noValue_27 : decode b_Mo_noValue 27 = .ok (.goto 4, 3) := by decide +kernel
theorem d_Mo_noValue_30 : decode b_Mo_noValue 30 = .ok (.iconst 0, 1) := by decide +kernel
theorem d_Mo_noValue_31 : decode b_Mo_noValue 31 = .ok (.ireturn, 1) := by decide +kernel
theorem d_Mo_relation_0 : decode b_Mo_relation 0 = .ok (.aload_n 0, 1) := by decide +kernel
theorem d_Mo_relation_1 : decode b_Mo_relation 1 = .ok (.getfield 67, 3) := by decide +kernel
theorem d_Mo_relation_4 : decode b_Mo_relation 4 = .ok (.ifCond .eq 5, 3) := by decide +kernel
theorem d_Mo_relation_7 : decode b_Mo_relation 7 = .ok (.iconst (-1), 1) := by decide +kernel
theorem d_Mo_relation_8 : decode b_Mo_relation 8 = .ok (.ireturn, 1) := by decide +kernel
theorem d_Mo_relation_9 : decode b_Mo_relation 9 = .ok (.iload_n 1, 1) := by decide +kernel
theorem d_Mo_relation_10 : decode b_Mo_relation 10 = .ok (.iconst 1, 1) := by decide +kernel
theorem d_Mo_relation_11 : decode b_Mo_relation 11 = .ok (.if_icmp .lt 32, 3) := by decide +kernel
theorem d_Mo_relation_14 : decode b_Mo_relation 14 = .ok (.iload_n 1, 1) := by decide +kernel
theorem d_Mo_relation_15 : decode b_Mo_relation 15 = .ok (.iconst 1, 1) := by decide +kernel
