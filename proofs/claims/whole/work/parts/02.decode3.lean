theorem d_Mo_relation_16 : decode b_Mo_relation 16 = .ok (.aload_n 0, 1) := by decide +kernel
theorem d_Mo_relation_17 : decode b_Mo_relation 17 = .ok (.getfield 71, 3) := by decide +kernel
theorem d_Mo_relation_20 : decode b_Mo_relation 20 = .ok (.ishl, 1) := by decide +kernel
theorem d_Mo_relation_21 : decode b_Mo_relation 21 = .ok (.if_icmp .ge 22, 3) := by decide +kernel
theorem d_Mo_relation_24 : decode b_Mo_relation 24 = .ok (.iload_n 2, 1) := by decide +kernel
theorem d_Mo_relation_25 : decode b_Mo_relation 25 = .ok (.iconst 1, 1) := by decide +kernel
theorem d_Mo_relation_26 : decode b_Mo_relation 26 = .ok (.if_icmp .lt 17, 3) := by decide +kernel
theorem d_Mo_relation_29 : decode b_Mo_relation 29 = .ok (.iload_n 2, 1) := by decide +kernel
theorem d_Mo_relation_30 : decode b_Mo_relation 30 = .ok (.iconst 3, 1) := by decide +kernel
theorem d_Mo_relation_31 : decode b_Mo_relation 31 = .ok (.if_icmp .gt 12, 3) := by decide +kernel
theorem d_Mo_relation_34 : decode b_Mo_relation 34 = .ok (.aload_n 0, 1) := by decide +kernel
theorem d_Mo_relation_35 : decode b_Mo_relation 35 = .ok (.iload_n 1, 1) := by decide +kernel
theorem d_Mo_relation_36 : decode b_Mo_relation 36 = .ok (.invokevirtual 82, 3) := by decide +kernel
theorem d_Mo_relation_39 : decode b_Mo_relation 39 = .ok (.iload_n 2, 1) := by decide +kernel
theorem d_Mo_relation_40 : decode b_Mo_relation 40 = .ok (.if_icmp .ge 6, 3) := by decide +kernel
theorem d_Mo_relation_43 : decode b_Mo_relation 43 = .ok (.bipush (-2), 2) := by decide +kernel
theorem d_Mo_relation_45 : decode b_Mo_relation 45 = .ok (.ireturn, 1) := by decide +kernel
theorem d_Mo_relation_46 : decode b_Mo_relation 46 = .ok (.aload_n 0, 1) := by decide +kernel
theorem d_Mo_relation_47 : decode b_Mo_relation 47 = .ok (.getfield 86, 3) := by decide +kernel
theorem d_Mo_relation_50 : decode b_Mo_relation 50 = .ok (.bipush 8, 2) := by decide +kernel
theorem d_Mo_relation_52 : decode b_Mo_relation 52 = .ok (.if_icmp .ne 6, 3) := by decide +kernel
theorem d_Mo_relation_55 : decode b_Mo_relation 55 = .ok (.bipush (-3), 2) := by decide +kernel
theorem d_Mo_relation_57 : decode b_Mo_relation 57 = .ok (.ireturn, 1) := by decide +kernel
theorem d_Mo_relation_58 : decode b_Mo_relation 58 = .ok (.aload_n 0, 1) := by decide +kernel
theorem d_Mo_relation_59 : decode b_Mo_relation 59 = .ok (.getfield 17, 3) := by decide +kernel
theorem d_Mo_relation_62 : decode b_Mo_relation 62 = .ok (.aload_n 0, 1) := by decide +kernel
theorem d_Mo_relation_63 : decode b_Mo_relation 63 = .ok (.getfield 86, 3) := by decide +kernel
theorem d_Mo_relation_66 : decode b_Mo_relation 66 = .ok (.iload_n 1, 1) := by decide +kernel
theorem d_Mo_relation_67 : decode b_Mo_relation 67 = .ok (.iastore, 1) := by decide +kernel
theorem d_Mo_relation_68 : decode b_Mo_relation 68 = .ok (.aload_n 0, 1) := by decide +kernel
theorem d_Mo_relation_69 : decode b_Mo_relation 69 = .ok (.getfield 20, 3) := by decide +kernel
theorem d_Mo_relation_72 : decode b_Mo_relation 72 = .ok (.aload_n 0, 1) := by decide +kernel
theorem d_Mo_relation_73 : decode b_Mo_relation 73 = .ok (.getfield 86, 3) := by decide +kernel
theorem d_Mo_relation_76 : decode b_Mo_relation 76 = .ok (.iload_n 2, 1) := by decide +kernel
theorem d_Mo_relation_77 : decode b_Mo_relation 77 = .ok (.iastore, 1) := by decide +kernel
theorem d_Mo_relation_78 : decode b_Mo_relation 78 = .ok (.aload_n 0, 1) := by decide +kernel
theorem d_Mo_relation_79 : decode b_Mo_relation 79 = .ok (.dup, 1) := by decide +kernel
theorem d_Mo_relation_80 : decode b_Mo_relation 80 = .ok (.getfield 86, 3) := by decide +kernel
theorem d_Mo_relation_83 : decode b_Mo_relation 83 = .ok (.iconst 1, 1) := by decide +kernel
theorem d_Mo_relation_84 : decode b_Mo_relation 84 = .ok (.iadd, 1) := by decide +kernel
theorem d_Mo_relation_85 : decode b_Mo_relation 85 = .ok (.putfield 86, 3) := by decide +kernel
theorem d_Mo_relation_88 : decode b_Mo_relation 88 = .ok (.aload_n 0, 1) := by decide +kernel
theorem d_Mo_relation_89 : decode b_Mo_relation 89 = .ok (.getfield 86, 3) := by decide +kernel
theorem d_Mo_relation_92 : decode b_Mo_relation 92 = .ok (.ireturn, 1) := by decide +kernel
theorem d_Mo_size_0 : decode b_Mo_size 0 = .ok (.iconst 0, 1) := by decide +kernel
theorem d_Mo_size_1 : decode b_Mo_size 1 = .ok (.istore_n 2, 1) := by decide +kernel
theorem d_Mo_size_2 : decode b_Mo_size 2 = .ok (.iconst 0, 1) := by decide +kernel
theorem d_Mo_size_3 : decode b_Mo_size 3 = .ok (.istore_n 3, 1) := by decide +kernel
theorem d_Mo_size_4 : decode b_Mo_size 4 = .ok (.iload_n 3, 1) := by decide +kernel
theorem d_Mo_size_5 : decode b_Mo_size 5 = .ok (.bipush 6, 2) := by decide +kernel
theorem d_Mo_size_7 : decode b_Mo_size 7 = .ok (.if_icmp .ge 17, 3) := by decide +kernel
theorem d_Mo_size_10 : decode b_Mo_size 10 = .ok (.iload_n 2, 1) := by decide +kernel
theorem d_Mo_size_11 : decode b_Mo_size 11 = .ok (.iload_n 1, 1) := by decide +kernel
theorem d_Mo_size_12 : decode b_Mo_size 12 = .ok (.iload_n 3, 1) := by decide +kernel
theorem d_Mo_size_13 : decode b_Mo_size 13 = .ok (.ishr, 1) := by decide +kernel
theorem d_Mo_size_14 : decode b_Mo_size 14 = .ok (.iconst 1, 1) := by decide +kernel
theorem d_Mo_size_15 : decode b_Mo_size 15 = .ok (.iand, 1) := by decide +kernel
theorem d_Mo_size_16 : decode b_Mo_size 16 = .ok (.iadd, 1) := by decide +kernel
theorem d_Mo_size_17 : decode b_Mo_size 17 = .ok (.istore_n 2, 1) := by decide +kernel
theorem d_Mo_size_18 : decode b_Mo_size 18 = .ok (.iinc 3 1, 3) := by decide +kernel
theorem d_Mo_size_21 : decode b_Mo_size 21 = .ok (.goto (-17), 3) := by decide +kernel
theorem d_Mo_size_24 : decode b_Mo_size 24 = .ok (.iload_n 2, 1) := by decide +kernel
theorem d_Mo_size_25 : decode b_Mo_size 25 = .ok (.ireturn, 1) := by decide +kernel
theorem d_Mo_is_0 : decode b_Mo_is 0 = .ok (.aload_n 0, 1) := by decide +kernel
theorem d_Mo_is_1 : decode b_Mo_is 1 = .ok (.getfield 67, 3) := by decide +kernel
theorem d_Mo_is_4 : decode b_Mo_is 4 = .ok (.ifCond .ne 36, 3) := by decide +kernel
theorem d_Mo_is_7 : decode b_Mo_is 7 = .ok (.aload_n 0, 1) := by decide +kernel
theorem d_Mo_is_8 : decode b_Mo_is 8 = .ok (.iload_n 1, 1) := by decide +kernel
theorem d_Mo_is_9 : decode b_Mo_is 9 = .ok (.iload_n 2, 1) := by decide +kernel
theorem d_Mo_is_10 : decode b_Mo_is 10 = .ok (.invokevirtual 78, 3) := by decide +kernel
theorem d_Mo_is_13 : decode b_Mo_is 13 = .ok (.ifCond .ne 27, 3) := by decide +kernel
theorem d_Mo_is_16 : decode b_Mo_is 16 = .ok (.aload_n 0, 1) := by decide +kernel
theorem d_Mo_is_17 : decode b_Mo_is 17 = .ok (.getfield 92, 3) := by decide +kernel
theorem d_Mo_is_20 : decode b_Mo_is 20 = .ok (.bipush 8, 2) := by decide +kernel
theorem d_Mo_is_22 : decode b_Mo_is 22 = .ok (.if_icmp .ge 18, 3) := by decide +kernel
theorem d_Mo_is_25 : decode b_Mo_is 25 = .ok (.aload_n 0, 1) := by decide +kernel
theorem d_Mo_is_26 : decode b_Mo_is 26 = .ok (.iconst 4, 1) := by decide +kernel
theorem d_Mo_is_27 : decode b_Mo_is 27 = .ok (.iload_n 1, 1) := by decide +kernel
theorem d_Mo_is_28 : decode b_Mo_is 28 = .ok (.iload_n 2, 1) := by decide +kernel
theorem d_Mo_is_29 : decode b_Mo_is 29 = .ok (.iconst 1, 1) := by decide +kernel
theorem d_Mo_is_30 : decode b_Mo_is 30 = .ok (.invokevirtual 95, 3) := by decide +kernel
theorem d_Mo_is_33 : decode b_Mo_is 33 = .ok (.ifCond .eq 7, 3) := by decide +kernel
theorem d_Mo_is_36 : decode b_Mo_is 36 = .ok (.iconst 1, 1) := by decide +kernel
theorem d_Mo_is_37 : decode b_Mo_is 37 = .ok (.goto 4, 3) := by decide +kernel
theorem d_Mo_is_40 : decode b_Mo_is 40 = .ok (.iconst 0, 1) := by decide +kernel
theorem d_Mo_is_41 : decode b_Mo_is 41 = .ok (.ireturn, 1) := by decide +kernel
theorem d_Mo_push_0 : decode b_Mo_push 0 = .ok (.aload_n 0, 1) := by decide +kernel
theorem d_Mo_push_1 : decode b_Mo_push 1 = .ok (.getfield 23, 3) := by decide +kernel
theorem d_Mo_push_4 : decode b_Mo_push 4 = .ok (.aload_n 0, 1) := by decide +kernel
theorem d_Mo_push_5 : decode b_Mo_push 5 = .ok (.getfield 89, 3) := by decide +kernel
theorem d_Mo_push_8 : decode b_Mo_push 8 = .ok (.iload_n 1, 1) := by decide +kernel
theorem d_Mo_push_9 : decode b_Mo_push 9 = .ok (.i2b, 1) := by decide +kernel
theorem d_Mo_push_10 : decode b_Mo_push 10 = .ok (.bastore, 1) := by decide +kernel
theorem d_Mo_push_11 : decode b_Mo_push 11 = .ok (.aload_n 0, 1) := by decide +kernel
theorem d_Mo_push_12 : decode b_Mo_push 12 = .ok (.getfield 27, 3) := by decide +kernel
theorem d_Mo_push_15 : decode b_Mo_push 15 = .ok (.aload_n 0, 1) := by decide +kernel
theorem d_Mo_push_16 : decode b_Mo_push 16 = .ok (.getfield 89, 3) := by decide +kernel
theorem d_Mo_push_19 : decode b_Mo_push 19 = .ok (.iload_n 2, 1) := by decide +kernel
theorem d_Mo_push_20 : decode b_Mo_push 20 = .ok (.i2s, 1) := by decide +kernel
theorem d_Mo_push_21 : decode b_Mo_push 21 = .ok (.sastore, 1) := by decide +kernel
theorem d_Mo_push_22 : decode b_Mo_push 22 = .ok (.aload_n 0, 1) := by decide +kernel
theorem d_Mo_push_23 : decode b_Mo_push 23 = .ok (.getfield 31, 3) := by decide +kernel
theorem d_Mo_push_26 : decode b_Mo_push 26 = .ok (.aload_n 0, 1) := by decide +kernel
theorem d_Mo_push_27 : decode b_Mo_push 27 = .ok (.getfield 89, 3) := by decide +kernel
theorem d_Mo_push_30 : decode b_Mo_push 30 = .ok (.iload_n 3, 1) := by decide +kernel
theorem d_Mo_push_31 : decode b_Mo_push 31 = .ok (.i2s, 1) := by decide +kernel
theorem d_Mo_push_32 : decode b_Mo_push 32 = .ok (.sastore, 1) := by decide +kernel
theorem d_Mo_push_33 : decode b_Mo_push 33 = .ok (.aload_n 0, 1) := by decide +kernel
theorem d_Mo_push_34 : decode b_Mo_push 34 = .ok (.getfield 34, 3) := by decide +kernel
theorem d_Mo_push_37 : decode b_Mo_push 37 = .ok (.aload_n 0, 1) := by decide +kernel
theorem d_Mo_push_38 : decode b_Mo_push 38 = .ok (.getfield 89, 3) := by decide +kernel
theorem d_Mo_push_41 : decode b_Mo_push 41 = .ok (.iload 4, 2) := by decide +kernel
theorem d_Mo_push_43 : decode b_Mo_push 43 = .ok (.i2b, 1) := by decide +kernel
theorem d_Mo_push_44 : decode b_Mo_push 44 = .ok (.bastore, 1) := by decide +kernel
theorem d_Mo_push_45 : decode b_Mo_push 45 = .ok (.aload_n 0, 1) := by decide +kernel
theorem d_Mo_push_46 : decode b_Mo_push 46 = .ok (.getfield 40, 3) := by decide +kernel
theorem d_Mo_push_49 : decode b_Mo_push 49 = .ok (.aload_n 0, 1) := by decide +kernel
theorem d_Mo_push_50 : decode b_Mo_push 50 = .ok (.getfield 92, 3) := by decide +kernel
theorem d_Mo_push_53 : decode b_Mo_push 53 = .ok (.aload_n 0, 1) := by decide +kernel
theorem d_Mo_push_54 : decode b_Mo_push 54 = .ok (.getfield 89, 3) := by decide +kernel
theorem d_Mo_push_57 : decode b_Mo_push 57 = .ok (.iastore, 1) := by decide +kernel
theorem d_Mo_push_58 : decode b_Mo_push 58 = .ok (.aload_n 0, 1) := by decide +kernel
theorem d_Mo_push_59 : decode b_Mo_push 59 = .ok (.dup, 1) := by decide +kernel
theorem d_Mo_push_60 : decode b_Mo_push 60 = .ok (.getfield 92, 3) := by decide +kernel
theorem d_Mo_push_63 : decode b_Mo_push 63 = .ok (.iconst 1, 1) := by decide +kernel
theorem d_Mo_push_64 : decode b_Mo_push 64 = .ok (.iadd, 1) := by decide +kernel
theorem d_Mo_push_65 : decode b_Mo_push 65 = .ok (.putfield 92, 3) := by decide +kernel
theorem d_Mo_push_68 : decode b_Mo_push 68 = .ok (.aload_n 0, 1) := by decide +kernel
theorem d_Mo_push_69 : decode b_Mo_push 69 = .ok (.dup, 1) := by decide +kernel
theorem d_Mo_push_70 : decode b_Mo_push 70 = .ok (.getfield 89, 3) := by decide +kernel
theorem d_Mo_push_73 : decode b_Mo_push 73 = .ok (.iconst 1, 1) := by decide +kernel
theorem d_Mo_push_74 : decode b_Mo_push 74 = .ok (.iadd, 1) := by decide +kernel
theorem d_Mo_push_75 : decode b_Mo_push 75 = .ok (.putfield 89, 3) := by decide +kernel
theorem d_Mo_push_78 : decode b_Mo_push 78 = .ok (.iconst 1, 1) := by decide +kernel
theorem d_Mo_push_79 : decode b_Mo_push 79 = .ok (.ireturn, 1) := by decide +kernel
theorem d_Mo_not_0 : decode b_Mo_not 0 = .ok (.aload_n 0, 1) := by decide +kernel
theorem d_Mo_not_1 : decode b_Mo_not 1 = .ok (.getfield 67, 3) := by decide +kernel
theorem d_Mo_not_4 : decode b_Mo_not 4 = .ok (.ifCond .ne 31, 3) := by decide +kernel
theorem d_Mo_not_7 : decode b_Mo_not 7 = .ok (.aload_n 0, 1) := by decide +kernel
theorem d_Mo_not_8 : decode b_Mo_not 8 = .ok (.getfield 92, 3) := by decide +kernel
theorem d_Mo_not_11 : decode b_Mo_not 11 = .ok (.ifCond .eq 24, 3) := by decide +kernel
theorem d_Mo_not_14 : decode b_Mo_not 14 = .ok (.aload_n 0, 1) := by decide +kernel
theorem d_Mo_not_15 : decode b_Mo_not 15 = .ok (.getfield 34, 3) := by decide +kernel
theorem d_Mo_not_18 : decode b_Mo_not 18 = .ok (.aload_n 0, 1) := by decide +kernel
theorem d_Mo_not_19 : decode b_Mo_not 19 = .ok (.getfield 40, 3) := by decide +kernel
theorem d_Mo_not_22 : decode b_Mo_not 22 = .ok (.aload_n 0, 1) := by decide +kernel
theorem d_Mo_not_23 : decode b_Mo_not 23 = .ok (.getfield 92, 3) := by decide +kernel
theorem d_Mo_not_26 : decode b_Mo_not 26 = .ok (.iconst 1, 1) := by decide +kernel
theorem d_Mo_not_27 : decode b_Mo_not 27 = .ok (.isub, 1) := by decide +kernel
theorem d_Mo_not_28 : decode b_Mo_not 28 = .ok (.iaload, 1) := by decide +kernel
theorem d_Mo_not_29 : decode b_Mo_not 29 = .ok (.baload, 1) := by decide +kernel
theorem d_Mo_not_30 : decode b_Mo_not 30 = .ok (.bipush 8, 2) := by decide +kernel
theorem d_Mo_not_32 : decode b_Mo_not 32 = .ok (.if_icmp .ne 5, 3) := by decide +kernel
theorem d_Mo_not_35 : decode b_Mo_not 35 = .ok (.iconst 0, 1) := by decide +kernel
theorem d_Mo_not_36 : decode b_Mo_not 36 = .ok (.ireturn, 1) := by decide +kernel
theorem d_Mo_not_37 : decode b_Mo_not 37 = .ok (.aload_n 0, 1) := by decide +kernel
theorem d_Mo_not_38 : decode b_Mo_not 38 = .ok (.getfield 40, 3) := by decide +kernel
theorem d_Mo_not_41 : decode b_Mo_not 41 = .ok (.aload_n 0, 1) := by decide +kernel
theorem d_Mo_not_42 : decode b_Mo_not 42 = .ok (.getfield 92, 3) := by decide +kernel
theorem d_Mo_not_45 : decode b_Mo_not 45 = .ok (.iconst 1, 1) := by decide +kernel
theorem d_Mo_not_46 : decode b_Mo_not 46 = .ok (.isub, 1) := by decide +kernel
theorem d_Mo_not_47 : decode b_Mo_not 47 = .ok (.iaload, 1) := by decide +kernel
theorem d_Mo_not_48 : decode b_Mo_not 48 = .ok (.istore_n 1, 1) := by decide +kernel
theorem d_Mo_not_49 : decode b_Mo_not 49 = .ok (.aload_n 0, 1) := by decide +kernel
theorem d_Mo_not_50 : decode b_Mo_not 50 = .ok (.dup, 1) := by decide +kernel
theorem d_Mo_not_51 : decode b_Mo_not 51 = .ok (.getfield 92, 3) := by decide +kernel
theorem d_Mo_not_54 : decode b_Mo_not 54 = .ok (.iconst 1, 1) := by decide +kernel
theorem d_Mo_not_55 : decode b_Mo_not 55 = .ok (.isub, 1) := by decide +kernel
theorem d_Mo_not_56 : decode b_Mo_not 56 = .ok (.putfield 92, 3) := by decide +kernel
theorem d_Mo_not_59 : decode b_Mo_not 59 = .ok (.aload_n 0, 1) := by decide +kernel
theorem d_Mo_not_60 : decode b_Mo_not 60 = .ok (.iconst 3, 1) := by decide +kernel
theorem d_Mo_not_61 : decode b_Mo_not 61 = .ok (.iload_n 1, 1) := by decide +kernel
theorem d_Mo_not_62 : decode b_Mo_not 62 = .ok (.iconst 0, 1) := by decide +kernel
theorem d_Mo_not_63 : decode b_Mo_not 63 = .ok (.aload_n 0, 1) := by decide +kernel
theorem d_Mo_not_64 : decode b_Mo_not 64 = .ok (.getfield 34, 3) := by decide +kernel
theorem d_Mo_not_67 : decode b_Mo_not 67 = .ok (.iload_n 1, 1) := by decide +kernel
theorem d_Mo_not_68 : decode b_Mo_not 68 = .ok (.baload, 1) := by decide +kernel
theorem d_Mo_not_69 : decode b_Mo_not 69 = .ok (.iconst 1, 1) := by decide +kernel
theorem d_Mo_not_70 : decode b_Mo_not 70 = .ok (.iadd, 1) := by decide +kernel
theorem d_Mo_not_71 : decode b_Mo_not 71 = .ok (.invokevirtual 95, 3) := by decide +kernel
theorem d_Mo_not_74 : decode b_Mo_not 74 = .ok (.ireturn, 1) := by decide +kernel
theorem d_Mo_join_0 : decode b_Mo_join 0 = .ok (.aload_n 0, 1) := by decide +kernel
theorem d_Mo_join_1 : decode b_Mo_join 1 = .ok (.getfield 67, 3) := by decide +kernel
theorem d_Mo_join_4 : decode b_Mo_join 4 = .ok (.ifCond .ne 20, 3) := by decide +kernel
theorem d_Mo_join_7 : decode b_Mo_join 7 = .ok (.iload_n 1, 1) := by decide +kernel
theorem d_Mo_join_8 : decode b_Mo_join 8 = .ok (.ifCond .lt 16, 3) := by decide +kernel
theorem d_Mo_join_11 : decode b_Mo_join 11 = .ok (.iload_n 1, 1) := by decide +kernel
theorem d_Mo_join_12 : decode b_Mo_join 12 = .ok (.iconst 2, 1) := by decide +kernel
theorem d_Mo_join_13 : decode b_Mo_join 13 = .ok (.if_icmp .gt 11, 3) := by decide +kernel
theorem d_Mo_join_16 : decode b_Mo_join 16 = .ok (.aload_n 0, 1) := by decide +kernel
theorem d_Mo_join_17 : decode b_Mo_join 17 = .ok (.getfield 92, 3) := by decide +kernel
theorem d_Mo_join_20 : decode b_Mo_join 20 = .ok (.iconst 2, 1) := by decide +kernel
theorem d_Mo_join_21 : decode b_Mo_join 21 = .ok (.if_icmp .ge 5, 3) := by decide +kernel
theorem d_Mo_join_24 : decode b_Mo_join 24 = .ok (.iconst 0, 1) := by decide +kernel
theorem d_Mo_join_25 : decode b_Mo_join 25 = .ok (.ireturn, 1) := by decide +kernel
theorem d_Mo_join_26 : decode b_Mo_join 26 = .ok (.aload_n 0, 1) := by decide +kernel
theorem d_Mo_join_27 : decode b_Mo_join 27 = .ok (.getfield 40, 3) := by decide +kernel
theorem d_Mo_join_30 : decode b_Mo_join 30 = .ok (.aload_n 0, 1) := by decide +kernel
theorem d_Mo_join_31 : decode b_Mo_join 31 = .ok (.getfield 92, 3) := by decide +kernel
theorem d_Mo_join_34 : decode b_Mo_join 34 = .ok (.iconst 1, 1) := by decide +kernel
theorem d_Mo_join_35 : decode b_Mo_join 35 = .ok (.isub, 1) := by decide +kernel
theorem d_Mo_join_36 : decode b_Mo_join 36 = .ok (.iaload, 1) := by decide +kernel
theorem d_Mo_join_37 : decode b_Mo_join 37 = .ok (.istore_n 2, 1) := by decide +kernel
theorem d_Mo_join_38 : decode b_Mo_join 38 = .ok (.aload_n 0, 1) := by decide +kernel
theorem d_Mo_join_39 : decode b_Mo_join 39 = .ok (.getfield 40, 3) := by decide +kernel
theorem d_Mo_join_42 : decode b_Mo_join 42 = .ok (.aload_n 0, 1) := by decide +kernel
theorem d_Mo_join_43 : decode b_Mo_join 43 = .ok (.getfield 92, 3) := by decide +kernel
theorem d_Mo_join_46 : decode b_Mo_join 46 = .ok (.iconst 2, 1) := by decide +kernel
theorem d_Mo_join_47 : decode b_Mo_join 47 = .ok (.isub, 1) := by decide +kernel
theorem d_Mo_join_48 : decode b_Mo_join 48 = .ok (.iaload, 1) := by decide +kernel
theorem d_Mo_join_49 : decode b_Mo_join 49 = .ok (.istore_n 3, 1) := by decide +kernel
theorem d_Mo_join_50 : decode b_Mo_join 50 = .ok (.aload_n 0, 1) := by decide +kernel
theorem d_Mo_join_51 : decode b_Mo_join 51 = .ok (.getfield 34, 3) := by decide +kernel
theorem d_Mo_join_54 : decode b_Mo_join 54 = .ok (.iload_n 3, 1) := by decide +kernel
theorem d_Mo_join_55 : decode b_Mo_join 55 = .ok (.baload, 1) := by decide +kernel
theorem d_Mo_join_56 : decode b_Mo_join 56 = .ok (.aload_n 0, 1) := by decide +kernel
theorem d_Mo_join_57 : decode b_Mo_join 57 = .ok (.getfield 34, 3) := by decide +kernel
theorem d_Mo_join_60 : decode b_Mo_join 60 = .ok (.iload_n 2, 1) := by decide +kernel
theorem d_Mo_join_61 : decode b_Mo_join 61 = .ok (.baload, 1) := by decide +kernel
theorem d_Mo_join_62 : decode b_Mo_join 62 = .ok (.if_icmp .le 12, 3) := by decide +kernel
theorem d_Mo_join_65 : decode b_Mo_join 65 = .ok (.aload_n 0, 1) := by decide +kernel
theorem d_Mo_join_66 : decode b_Mo_join 66 = .ok (.getfield 34, 3) := by decide +kernel
theorem d_Mo_join_69 : decode b_Mo_join 69 = .ok (.iload_n 3, 1) := by decide +kernel
theorem d_Mo_join_70 : decode b_Mo_join 70 = .ok (.baload, 1) := by decide +kernel
theorem d_Mo_join_71 : decode b_Mo_join 71 = .ok (.goto 9, 3) := by decide +kernel
theorem d_Mo_join_74 : decode b_Mo_join 74 = .ok (.aload_n 0, 1) := by decide +kernel
theorem d_Mo_join_75 : decode b_Mo_join 75 = .ok (.getfield 34, 3) := by decide +kernel
theorem d_Mo_join_78 : decode b_Mo_join 78 = .ok (.iload_n 2, 1) := by decide +kernel
theorem d_Mo_join_79 : decode b_Mo_join 79 = .ok (.baload, 1) := by decide +kernel
theorem d_Mo_join_80 : decode b_Mo_join 80 = .ok (.istore 4, 2) := by decide +kernel
theorem d_Mo_join_82 : decode b_Mo_join 82 = .ok (.iload 4, 2) := by decide +kernel
theorem d_Mo_join_84 : decode b_Mo_join 84 = .ok (.bipush 8, 2) := by decide +kernel
theorem d_Mo_join_86 : decode b_Mo_join 86 = .ok (.if_icmp .ne 5, 3) := by decide +kernel
theorem d_Mo_join_89 : decode b_Mo_join 89 = .ok (.iconst 0, 1) := by decide +kernel
theorem d_Mo_join_90 : decode b_Mo_join 90 = .ok (.ireturn, 1) := by decide +kernel
theorem d_Mo_join_91 : decode b_Mo_join 91 = .ok (.aload_n 0, 1) := by decide +kernel
theorem d_Mo_join_92 : decode b_Mo_join 92 = .ok (.aload_n 0, 1) := by decide +kernel
theorem d_Mo_join_93 : decode b_Mo_join 93 = .ok (.getfield 92, 3) := by decide +kernel
theorem d_Mo_join_96 : decode b_Mo_join 96 = .ok (.iconst 2, 1) := by decide +kernel
theorem d_Mo_join_97 : decode b_Mo_join 97 = .ok (.isub, 1) := by decide +kernel
theorem d_Mo_join_98 : decode b_Mo_join 98 = .ok (.putfield 92, 3) := by decide +kernel
theorem d_Mo_join_101 : decode b_Mo_join 101 = .ok (.aload_n 0, 1) := by decide +kernel
theorem d_Mo_join_102 : decode b_Mo_join 102 = .ok (.iload_n 1, 1) := by decide +kernel
theorem d_Mo_join_103 : decode b_Mo_join 103 = .ok (.iload_n 3, 1) := by decide +kernel
theorem d_Mo_join_104 : decode b_Mo_join 104 = .ok (.iload_n 2, 1) := by decide +kernel
theorem d_Mo_join_105 : decode b_Mo_join 105 = .ok (.iload 4, 2) := by decide +kernel
theorem d_Mo_join_107 : decode b_Mo_join 107 = .ok (.iconst 1, 1) := by decide +kernel
theorem d_Mo_join_108 : decode b_Mo_join 108 = .ok (.iadd, 1) := by decide +kernel
theorem d_Mo_join_109 : decode b_Mo_join 109 = .ok (.invokevirtual 95, 3) := by decide +kernel
theorem d_Mo_join_112 : decode b_Mo_join 112 = .ok (.ireturn, 1) := by decide +kernel
theorem d_Mo_require_0 : decode b_Mo_require 0 = .ok (.aload_n 0, 1) := by decide +kernel
theorem d_Mo_require_1 : decode b_Mo_require 1 = .ok (.getfield 67, 3) := by decide +kernel
theorem d_Mo_require_4 : decode b_Mo_require 4 = .ok (.ifCond .eq 5, 3) := by decide +kernel
theorem d_Mo_require_7 : decode b_Mo_require 7 = .ok (.iconst (-1), 1) := by decide +kernel
theorem d_Mo_require_8 : decode b_Mo_require 8 = .ok (.ireturn, 1) := by decide +kernel
theorem d_Mo_require_9 : decode b_Mo_require 9 = .ok (.aload_n 0, 1) := by decide +kernel
theorem d_Mo_require_10 : decode b_Mo_require 10 = .ok (.getfield 92, 3) := by decide +kernel
theorem d_Mo_require_13 : decode b_Mo_require 13 = .ok (.ifCond .ne 6, 3) := by decide +kernel
theorem d_Mo_require_16 : decode b_Mo_require 16 = .ok (.bipush (-2), 2) := by decide +kernel
theorem d_Mo_require_18 : decode b_Mo_require 18 = .ok (.ireturn, 1) := by decide +kernel
theorem d_Mo_require_19 : decode b_Mo_require 19 = .ok (.aload_n 0, 1) := by decide +kernel
theorem d_Mo_require_20 : decode b_Mo_require 20 = .ok (.getfield 99, 3) := by decide +kernel
theorem d_Mo_require_23 : decode b_Mo_require 23 = .ok (.bipush 8, 2) := by decide +kernel
theorem d_Mo_require_25 : decode b_Mo_require 25 = .ok (.if_icmp .ne 6, 3) := by decide +kernel
theorem d_Mo_require_28 : decode b_Mo_require 28 = .ok (.bipush (-3), 2) := by decide +kernel
theorem d_Mo_require_30 : decode b_Mo_require 30 = .ok (.ireturn, 1) := by decide +kernel
theorem d_Mo_require_31 : decode b_Mo_require 31 = .ok (.aload_n 0, 1) := by decide +kernel
theorem d_Mo_require_32 : decode b_Mo_require 32 = .ok (.dup, 1) := by decide +kernel
theorem d_Mo_require_33 : decode b_Mo_require 33 = .ok (.getfield 92, 3) := by decide +kernel
theorem d_Mo_require_36 : decode b_Mo_require 36 = .ok (.iconst 1, 1) := by decide +kernel
theorem d_Mo_require_37 : decode b_Mo_require 37 = .ok (.isub, 1) := by decide +kernel
theorem d_Mo_require_38 : decode b_Mo_require 38 = .ok (.putfield 92, 3) := by decide +kernel
theorem d_Mo_require_41 : decode b_Mo_require 41 = .ok (.aload_n 0, 1) := by decide +kernel
theorem d_Mo_require_42 : decode b_Mo_require 42 = .ok (.getfield 43, 3) := by decide +kernel
theorem d_Mo_require_45 : decode b_Mo_require 45 = .ok (.aload_n 0, 1) := by decide +kernel
theorem d_Mo_require_46 : decode b_Mo_require 46 = .ok (.getfield 99, 3) := by decide +kernel
theorem d_Mo_require_49 : decode b_Mo_require 49 = .ok (.aload_n 0, 1) := by decide +kernel
theorem d_Mo_require_50 : decode b_Mo_require 50 = .ok (.getfield 40, 3) := by decide +kernel
theorem d_Mo_require_53 : decode b_Mo_require 53 = .ok (.aload_n 0, 1) := by decide +kernel
theorem d_Mo_require_54 : decode b_Mo_require 54 = .ok (.getfield 92, 3) := by decide +kernel
theorem d_Mo_require_57 : decode b_Mo_require 57 = .ok (.iaload, 1) := by decide +kernel
theorem d_Mo_require_58 : decode b_Mo_require 58 = .ok (.iastore, 1) := by decide +kernel
theorem d_Mo_require_59 : decode b_Mo_require 59 = .ok (.aload_n 0, 1) := by decide +kernel
theorem d_Mo_require_60 : decode b_Mo_require 60 = .ok (.dup, 1) := by decide +kernel
theorem d_Mo_require_61 : decode b_Mo_require 61 = .ok (.getfield 99, 3) := by decide +kernel
theorem d_Mo_require_64 : decode b_Mo_require 64 = .ok (.iconst 1, 1) := by decide +kernel
theorem d_Mo_require_65 : decode b_Mo_require 65 = .ok (.iadd, 1) := by decide +kernel
theorem d_Mo_require_66 : decode b_Mo_require 66 = .ok (.putfield 99, 3) := by decide +kernel
theorem d_Mo_require_69 : decode b_Mo_require 69 = .ok (.aload_n 0, 1) := by decide +kernel
theorem d_Mo_require_70 : decode b_Mo_require 70 = .ok (.iconst 0, 1) := by decide +kernel
theorem d_Mo_require_71 : decode b_Mo_require 71 = .ok (.putfield 75, 3) := by decide +kernel
theorem d_Mo_require_74 : decode b_Mo_require 74 = .ok (.aload_n 0, 1) := by decide +kernel
theorem d_Mo_require_75 : decode b_Mo_require 75 = .ok (.getfield 99, 3) := by decide +kernel
theorem d_Mo_require_78 : decode b_Mo_require 78 = .ok (.ireturn, 1) := by decide +kernel
theorem d_Mo_seed_0 : decode b_Mo_seed 0 = .ok (.aload_n 0, 1) := by decide +kernel
theorem d_Mo_seed_1 : decode b_Mo_seed 1 = .ok (.getfield 67, 3) := by decide +kernel
theorem d_Mo_seed_4 : decode b_Mo_seed 4 = .ok (.ifCond .eq 5, 3) := by decide +kernel
theorem d_Mo_seed_7 : decode b_Mo_seed 7 = .ok (.iconst (-1), 1) := by decide +kernel
theorem d_Mo_seed_8 : decode b_Mo_seed 8 = .ok (.ireturn, 1) := by decide +kernel
theorem d_Mo_seed_9 : decode b_Mo_seed 9 = .ok (.aload_n 0, 1) := by decide +kernel
theorem d_Mo_seed_10 : decode b_Mo_seed 10 = .ok (.getfield 102, 3) := by decide +kernel
theorem d_Mo_seed_13 : decode b_Mo_seed 13 = .ok (.bipush 8, 2) := by decide +kernel
theorem d_Mo_seed_15 : decode b_Mo_seed 15 = .ok (.if_icmp .ne 6, 3) := by decide +kernel
theorem d_Mo_seed_18 : decode b_Mo_seed 18 = .ok (.bipush (-2), 2) := by decide +kernel
theorem d_Mo_seed_20 : decode b_Mo_seed 20 = .ok (.ireturn, 1) := by decide +kernel
theorem d_Mo_seed_21 : decode b_Mo_seed 21 = .ok (.aload_n 0, 1) := by decide +kernel
theorem d_Mo_seed_22 : decode b_Mo_seed 22 = .ok (.getfield 46, 3) := by decide +kernel
theorem d_Mo_seed_25 : decode b_Mo_seed 25 = .ok (.aload_n 0, 1) := by decide +kernel
theorem d_Mo_seed_26 : decode b_Mo_seed 26 = .ok (.getfield 102, 3) := by decide +kernel
theorem d_Mo_seed_29 : decode b_Mo_seed 29 = .ok (.iload_n 1, 1) := by decide +kernel
theorem d_Mo_seed_30 : decode b_Mo_seed 30 = .ok (.iastore, 1) := by decide +kernel
theorem d_Mo_seed_31 : decode b_Mo_seed 31 = .ok (.aload_n 0, 1) := by decide +kernel
theorem d_Mo_seed_32 : decode b_Mo_seed 32 = .ok (.dup, 1) := by decide +kernel
theorem d_Mo_seed_33 : decode b_Mo_seed 33 = .ok (.getfield 102, 3) := by decide +kernel
theorem d_Mo_seed_36 : decode b_Mo_seed 36 = .ok (.iconst 1, 1) := by decide +kernel
theorem d_Mo_seed_37 : decode b_Mo_seed 37 = .ok (.iadd, 1) := by decide +kernel
theorem d_Mo_seed_38 : decode b_Mo_seed 38 = .ok (.putfield 102, 3) := by decide +kernel
theorem d_Mo_seed_41 : decode b_Mo_seed 41 = .ok (.aload_n 0, 1) := by decide +kernel
theorem d_Mo_seed_42 : decode b_Mo_seed 42 = .ok (.getfield 102, 3) := by decide +kernel
theorem d_Mo_seed_45 : decode b_Mo_seed 45 = .ok (.ireturn, 1) := by decide +kernel
theorem d_Mo_begin_0 : decode b_Mo_begin 0 = .ok (.aload_n 0, 1) := by decide +kernel
theorem d_Mo_begin_1 : decode b_Mo_begin 1 = .ok (.getfield 67, 3) := by decide +kernel
theorem d_Mo_begin_4 : decode b_Mo_begin 4 = .ok (.ifCond .eq 5, 3) := by decide +kernel
theorem d_Mo_begin_7 : decode b_Mo_begin 7 = .ok (.iconst (-1), 1) := by decide +kernel
theorem d_Mo_begin_8 : decode b_Mo_begin 8 = .ok (.ireturn, 1) := by decide +kernel
theorem d_Mo_begin_9 : decode b_Mo_begin 9 = .ok (.aload_n 0, 1) := by decide +kernel
theorem d_Mo_begin_10 : decode b_Mo_begin 10 = .ok (.getfield 71, 3) := by decide +kernel
theorem d_Mo_begin_13 : decode b_Mo_begin 13 = .ok (.ifCond .ne 6, 3) := by decide +kernel
theorem d_Mo_begin_16 : decode b_Mo_begin 16 = .ok (.bipush (-2), 2) := by decide +kernel
theorem d_Mo_begin_18 : decode b_Mo_begin 18 = .ok (.ireturn, 1) := by decide +kernel
theorem d_Mo_begin_19 : decode b_Mo_begin 19 = .ok (.aload_n 0, 1) := by decide +kernel
theorem d_Mo_begin_20 : decode b_Mo_begin 20 = .ok (.invokevirtual 116, 3) := by decide +kernel
theorem d_Mo_begin_23 : decode b_Mo_begin 23 = .ok (.aload_n 0, 1) := by decide +kernel
theorem d_Mo_begin_24 : decode b_Mo_begin 24 = .ok (.getfield 52, 3) := by decide +kernel
theorem d_Mo_begin_27 : decode b_Mo_begin 27 = .ok (.iconst 0, 1) := by decide +kernel
theorem d_Mo_begin_28 : decode b_Mo_begin 28 = .ok (.baload, 1) := by decide +kernel
theorem d_Mo_begin_29 : decode b_Mo_begin 29 = .ok (.ifCond .ne 6, 3) := by decide +kernel
theorem d_Mo_begin_32 : decode b_Mo_begin 32 = .ok (.bipush (-3), 2) := by decide +kernel
theorem d_Mo_begin_34 : decode b_Mo_begin 34 = .ok (.ireturn, 1) := by decide +kernel
theorem d_Mo_begin_35 : decode b_Mo_begin 35 = .ok (.aload_n 0, 1) := by decide +kernel
theorem d_Mo_begin_36 : decode b_Mo_begin 36 = .ok (.iconst 1, 1) := by decide +kernel
theorem d_Mo_begin_37 : decode b_Mo_begin 37 = .ok (.putfield 67, 3) := by decide +kernel
theorem d_Mo_begin_40 : decode b_Mo_begin 40 = .ok (.aload_n 0, 1) := by decide +kernel
theorem d_Mo_begin_41 : decode b_Mo_begin 41 = .ok (.iconst 0, 1) := by decide +kernel
theorem d_Mo_begin_42 : decode b_Mo_begin 42 = .ok (.putfield 119, 3) := by decide +kernel
theorem d_Mo_begin_45 : decode b_Mo_begin 45 = .ok (.aload_n 0, 1) := by decide +kernel
theorem d_Mo_begin_46 : decode b_Mo_begin 46 = .ok (.iconst 0, 1) := by decide +kernel
theorem d_Mo_begin_47 : decode b_Mo_begin 47 = .ok (.putfield 122, 3) := by decide +kernel
theorem d_Mo_begin_50 : decode b_Mo_begin 50 = .ok (.aload_n 0, 1) := by decide +kernel
theorem d_Mo_begin_51 : decode b_Mo_begin 51 = .ok (.iconst 0, 1) := by decide +kernel
theorem d_Mo_begin_52 : decode b_Mo_begin 52 = .ok (.putfield 125, 3) := by decide +kernel
theorem d_Mo_begin_55 : decode b_Mo_begin 55 = .ok (.iconst 0, 1) := by decide +kernel
theorem d_Mo_begin_56 : decode b_Mo_begin 56 = .ok (.istore_n 1, 1) := by decide +kernel
theorem d_Mo_begin_57 : decode b_Mo_begin 57 = .ok (.iload_n 1, 1) := by decide +kernel
theorem d_Mo_begin_58 : decode b_Mo_begin 58 = .ok (.sipush 4096, 3) := by decide +kernel
theorem d_Mo_begin_61 : decode b_Mo_begin 61 = .ok (.if_icmp .ge 141, 3) := by decide +kernel
theorem d_Mo_begin_64 : decode b_Mo_begin 64 = .ok (.iload_n 1, 1) := by decide +kernel
theorem d_Mo_begin_65 : decode b_Mo_begin 65 = .ok (.bipush 64, 2) := by decide +kernel
theorem d_Mo_begin_67 : decode b_Mo_begin 67 = .ok (.idiv, 1) := by decide +kernel
theorem d_Mo_begin_68 : decode b_Mo_begin 68 = .ok (.iconst 1, 1) := by decide +kernel
theorem d_Mo_begin_69 : decode b_Mo_begin 69 = .ok (.aload_n 0, 1) := by decide +kernel
theorem d_Mo_begin_70 : decode b_Mo_begin 70 = .ok (.getfield 71, 3) := by decide +kernel
theorem d_Mo_begin_73 : decode b_Mo_begin 73 = .ok (.ishl, 1) := by decide +kernel
theorem d_Mo_begin_74 : decode b_Mo_begin 74 = .ok (.if_icmp .ge 18, 3) := by decide +kernel
theorem d_Mo_begin_77 : decode b_Mo_begin 77 = .ok (.aload_n 0, 1) := by decide +kernel
theorem d_Mo_begin_78 : decode b_Mo_begin 78 = .ok (.iload_n 1, 1) := by decide +kernel
theorem d_Mo_begin_79 : decode b_Mo_begin 79 = .ok (.bipush 64, 2) := by decide +kernel
theorem d_Mo_begin_81 : decode b_Mo_begin 81 = .ok (.idiv, 1) := by decide +kernel
theorem d_Mo_begin_82 : decode b_Mo_begin 82 = .ok (.invokevirtual 128, 3) := by decide +kernel
theorem d_Mo_begin_85 : decode b_Mo_begin 85 = .ok (.ifCond .eq 7, 3) := by decide +kernel
theorem d_Mo_begin_88 : decode b_Mo_begin 88 = .ok (.iconst 1, 1) := by decide +kernel
theorem d_Mo_begin_89 : decode b_Mo_begin 89 = .ok (.goto 4, 3) := by decide +kernel
theorem d_Mo_begin_92 : decode b_Mo_begin 92 = .ok (.iconst 0, 1) := by decide +kernel
theorem d_Mo_begin_93 : decode b_Mo_begin 93 = .ok (.istore_n 2, 1) := by decide +kernel
theorem d_Mo_begin_94 : decode b_Mo_begin 94 = .ok (.iload_n 2, 1) := by decide +kernel
theorem d_Mo_begin_95 : decode b_Mo_begin 95 = .ok (.ifCond .eq 11, 3) := by decide +kernel
theorem d_Mo_begin_98 : decode b_Mo_begin 98 = .ok (.aload_n 0, 1) := by decide +kernel
theorem d_Mo_begin_99 : decode b_Mo_begin 99 = .ok (.iload_n 1, 1) := by decide +kernel
theorem d_Mo_begin_100 : decode b_Mo_begin 100 = .ok (.invokevirtual 131, 3) := by decide +kernel
theorem d_Mo_begin_103 : decode b_Mo_begin 103 = .ok (.goto 4, 3) := by decide +kernel
theorem d_Mo_begin_106 : decode b_Mo_begin 106 = .ok (.iconst (-1), 1) := by decide +kernel
theorem d_Mo_begin_107 : decode b_Mo_begin 107 = .ok (.istore_n 3, 1) := by decide +kernel
theorem d_Mo_begin_108 : decode b_Mo_begin 108 = .ok (.aload_n 0, 1) := by decide +kernel
theorem d_Mo_begin_109 : decode b_Mo_begin 109 = .ok (.getfield 58, 3) := by decide +kernel
theorem d_Mo_begin_112 : decode b_Mo_begin 112 = .ok (.iload_n 1, 1) := by decide +kernel
theorem d_Mo_begin_113 : decode b_Mo_begin 113 = .ok (.iload_n 3, 1) := by decide +kernel
theorem d_Mo_begin_114 : decode b_Mo_begin 114 = .ok (.ifCond .ne 12, 3) := by decide +kernel
theorem d_Mo_begin_117 : decode b_Mo_begin 117 = .ok (.aload_n 0, 1) := by decide +kernel
theorem d_Mo_begin_118 : decode b_Mo_begin 118 = .ok (.getfield 52, 3) := by decide +kernel
theorem d_Mo_begin_121 : decode b_Mo_begin 121 = .ok (.iload_n 1, 1) := by decide +kernel
theorem d_Mo_begin_122 : decode b_Mo_begin 122 = .ok (.baload, 1) := by decide +kernel
theorem d_Mo_begin_123 : decode b_Mo_begin 123 = .ok (.ifCond .ne 17, 3) := by decide +kernel
theorem d_Mo_begin_126 : decode b_Mo_begin 126 = .ok (.iload_n 3, 1) := by decide +kernel
theorem d_Mo_begin_127 : decode b_Mo_begin 127 = .ok (.iconst 1, 1) := by decide +kernel
theorem d_Mo_begin_128 : decode b_Mo_begin 128 = .ok (.if_icmp .ne 16, 3) := by decide +kernel
theorem d_Mo_begin_131 : decode b_Mo_begin 131 = .ok (.aload_n 0, 1) := by decide +kernel
theorem d_Mo_begin_132 : decode b_Mo_begin 132 = .ok (.getfield 55, 3) := by decide +kernel
theorem d_Mo_begin_135 : decode b_Mo_begin 135 = .ok (.iload_n 1, 1) := by decide +kernel
theorem d_Mo_begin_136 : decode b_Mo_begin 136 = .ok (.baload, 1) := by decide +kernel
theorem d_Mo_begin_137 : decode b_Mo_begin 137 = .ok (.ifCond .eq 7, 3) := by decide +kernel
theorem d_Mo_begin_140 : decode b_Mo_begin 140 = .ok (.iconst 1, 1) := by decide +kernel
theorem d_Mo_begin_141 : decode b_Mo_begin 141 = .ok (.goto 4, 3) := by decide +kernel
theorem d_Mo_begin_144 : decode b_Mo_begin 144 = .ok (.iconst 0, 1) := by decide +kernel
theorem d_Mo_begin_145 : decode b_Mo_begin 145 = .ok (.bastore, 1) := by decide +kernel
theorem d_Mo_begin_146 : decode b_Mo_begin 146 = .ok (.aload_n 0, 1) := by decide +kernel
theorem d_Mo_begin_147 : decode b_Mo_begin 147 = .ok (.aload_n 0, 1) := by decide +kernel
theorem d_Mo_begin_148 : decode b_Mo_begin 148 = .ok (.getfield 122, 3) := by decide +kernel
theorem d_Mo_begin_151 : decode b_Mo_begin 151 = .ok (.aload_n 0, 1) := by decide +kernel
theorem d_Mo_begin_152 : decode b_Mo_begin 152 = .ok (.getfield 58, 3) := by decide +kernel
theorem d_Mo_begin_155 : decode b_Mo_begin 155 = .ok (.iload_n 1, 1) := by decide +kernel
theorem d_Mo_begin_156 : decode b_Mo_begin 156 = .ok (.baload, 1) := by decide +kernel
theorem d_Mo_begin_157 : decode b_Mo_begin 157 = .ok (.ifCond .eq 7, 3) := by decide +kernel
theorem d_Mo_begin_160 : decode b_Mo_begin 160 = .ok (.iconst 1, 1) := by decide +kernel
theorem d_Mo_begin_161 : decode b_Mo_begin 161 = .ok (.goto 4, 3) := by decide +kernel
theorem d_Mo_begin_164 : decode b_Mo_begin 164 = .ok (.iconst 0, 1) := by decide +kernel
theorem d_Mo_begin_165 : decode b_Mo_begin 165 = .ok (.iadd, 1) := by decide +kernel
theorem d_Mo_begin_166 : decode b_Mo_begin 166 = .ok (.putfield 122, 3) := by decide +kernel
theorem d_Mo_begin_169 : decode b_Mo_begin 169 = .ok (.aload_n 0, 1) := by decide +kernel
theorem d_Mo_begin_170 : decode b_Mo_begin 170 = .ok (.aload_n 0, 1) := by decide +kernel
theorem d_Mo_begin_171 : decode b_Mo_begin 171 = .ok (.getfield 125, 3) := by decide +kernel
theorem d_Mo_begin_174 : decode b_Mo_begin 174 = .ok (.aload_n 0, 1) := by decide +kernel
theorem d_Mo_begin_175 : decode b_Mo_begin 175 = .ok (.getfield 58, 3) := by decide +kernel
theorem d_Mo_begin_178 : decode b_Mo_begin 178 = .ok (.iload_n 1, 1) := by decide +kernel
theorem d_Mo_begin_179 : decode b_Mo_begin 179 = .ok (.baload, 1) := by decide +kernel
theorem d_Mo_begin_180 : decode b_Mo_begin 180 = .ok (.ifCond .eq 11, 3) := by decide +kernel
theorem d_Mo_begin_183 : decode b_Mo_begin 183 = .ok (.iload_n 3, 1) := by decide +kernel
theorem d_Mo_begin_184 : decode b_Mo_begin 184 = .ok (.ifCond .ne 7, 3) := by decide +kernel
theorem d_Mo_begin_187 : decode b_Mo_begin 187 = .ok (.iconst 1, 1) := by decide +kernel
theorem d_Mo_begin_188 : decode b_Mo_begin 188 = .ok (.goto 4, 3) := by decide +kernel
theorem d_Mo_begin_191 : decode b_Mo_begin 191 = .ok (.iconst 0, 1) := by decide +kernel
theorem d_Mo_begin_192 : decode b_Mo_begin 192 = .ok (.iadd, 1) := by decide +kernel
theorem d_Mo_begin_193 : decode b_Mo_begin 193 = .ok (.putfield 125, 3) := by decide +kernel
theorem d_Mo_begin_196 : decode b_Mo_begin 196 = .ok (.iinc 1 1, 3) := by decide +kernel
theorem d_Mo_begin_199 : decode b_Mo_begin 199 = .ok (.goto (-142), 3) := by decide +kernel
theorem d_Mo_begin_202 : decode b_Mo_begin 202 = .ok (.aload_n 0, 1) := by decide +kernel
theorem d_Mo_begin_203 : decode b_Mo_begin 203 = .ok (.getfield 122, 3) := by decide +kernel
theorem d_Mo_begin_206 : decode b_Mo_begin 206 = .ok (.istore_n 1, 1) := by decide +kernel
theorem d_Mo_begin_207 : decode b_Mo_begin 207 = .ok (.iconst 0, 1) := by decide +kernel
theorem d_Mo_begin_208 : decode b_Mo_begin 208 = .ok (.istore_n 2, 1) := by decide +kernel
theorem d_Mo_begin_209 : decode b_Mo_begin 209 = .ok (.iload_n 2, 1) := by decide +kernel
theorem d_Mo_begin_210 : decode b_Mo_begin 210 = .ok (.aload_n 0, 1) := by decide +kernel
theorem d_Mo_begin_211 : decode b_Mo_begin 211 = .ok (.getfield 102, 3) := by decide +kernel
theorem d_Mo_begin_214 : decode b_Mo_begin 214 = .ok (.if_icmp .ge 41, 3) := by decide +kernel
theorem d_Mo_begin_217 : decode b_Mo_begin 217 = .ok (.aload_n 0, 1) := by decide +kernel
theorem d_Mo_begin_218 : decode b_Mo_begin 218 = .ok (.getfield 46, 3) := by decide +kernel
theorem d_Mo_begin_221 : decode b_Mo_begin 221 = .ok (.iload_n 2, 1) := by decide +kernel
theorem d_Mo_begin_222 : decode b_Mo_begin 222 = .ok (.iaload, 1) := by decide +kernel
theorem d_Mo_begin_223 : decode b_Mo_begin 223 = .ok (.istore_n 3, 1) := by decide +kernel
theorem d_Mo_begin_224 : decode b_Mo_begin 224 = .ok (.iload_n 3, 1) := by decide +kernel
theorem d_Mo_begin_225 : decode b_Mo_begin 225 = .ok (.ifCond .lt 24, 3) := by decide +kernel
theorem d_Mo_begin_228 : decode b_Mo_begin 228 = .ok (.iload_n 3, 1) := by decide +kernel
theorem d_Mo_begin_229 : decode b_Mo_begin 229 = .ok (.sipush 4096, 3) := by decide +kernel
theorem d_Mo_begin_232 : decode b_Mo_begin 232 = .ok (.if_icmp .ge 17, 3) := by decide +kernel
theorem d_Mo_begin_235 : decode b_Mo_begin 235 = .ok (.aload_n 0, 1) := by decide +kernel
theorem d_Mo_begin_236 : decode b_Mo_begin 236 = .ok (.getfield 49, 3) := by decide +kernel
theorem d_Mo_begin_239 : decode b_Mo_begin 239 = .ok (.iload_n 3, 1) := by decide +kernel
theorem d_Mo_begin_240 : decode b_Mo_begin 240 = .ok (.baload, 1) := by decide +kernel
theorem d_Mo_begin_241 : decode b_Mo_begin 241 = .ok (.ifCond .le 8, 3) := by decide +kernel
theorem d_Mo_begin_244 : decode b_Mo_begin 244 = .ok (.aload_n 0, 1) := by decide +kernel
theorem d_Mo_begin_245 : decode b_Mo_begin 245 = .ok (.iload_n 3, 1) := by decide +kernel
theorem d_Mo_begin_246 : decode b_Mo_begin 246 = .ok (.invokevirtual 134, 3) := by decide +kernel
theorem d_Mo_begin_249 : decode b_Mo_begin 249 = .ok (.iinc 2 1, 3) := by decide +kernel
theorem d_Mo_begin_252 : decode b_Mo_begin 252 = .ok (.goto (-43), 3) := by decide +kernel
theorem d_Mo_begin_255 : decode b_Mo_begin 255 = .ok (.iload_n 1, 1) := by decide +kernel
theorem d_Mo_begin_256 : decode b_Mo_begin 256 = .ok (.ireturn, 1) := by decide +kernel
theorem d_Mo_look_0 : decode b_Mo_look 0 = .ok (.aload_n 0, 1) := by decide +kernel
theorem d_Mo_look_1 : decode b_Mo_look 1 = .ok (.getfield 75, 3) := by decide +kernel
theorem d_Mo_look_4 : decode b_Mo_look 4 = .ok (.ifCond .eq 4, 3) := by decide +kernel
theorem d_Mo_look_7 : decode b_Mo_look 7 = .ok (.return_, 1) := by decide +kernel
theorem d_Mo_look_8 : decode b_Mo_look 8 = .ok (.aload_n 0, 1) := by decide +kernel
theorem d_Mo_look_9 : decode b_Mo_look 9 = .ok (.iconst 1, 1) := by decide +kernel
theorem d_Mo_look_10 : decode b_Mo_look 10 = .ok (.putfield 75, 3) := by decide +kernel
theorem d_Mo_look_13 : decode b_Mo_look 13 = .ok (.iconst 0, 1) := by decide +kernel
theorem d_Mo_look_14 : decode b_Mo_look 14 = .ok (.istore_n 1, 1) := by decide +kernel
theorem d_Mo_look_15 : decode b_Mo_look 15 = .ok (.iload_n 1, 1) := by decide +kernel
theorem d_Mo_look_16 : decode b_Mo_look 16 = .ok (.sipush 4096, 3) := by decide +kernel
theorem d_Mo_look_19 : decode b_Mo_look 19 = .ok (.if_icmp .ge 23, 3) := by decide +kernel
theorem d_Mo_look_22 : decode b_Mo_look 22 = .ok (.aload_n 0, 1) := by decide +kernel
theorem d_Mo_look_23 : decode b_Mo_look 23 = .ok (.getfield 52, 3) := by decide +kernel
theorem d_Mo_look_26 : decode b_Mo_look 26 = .ok (.iload_n 1, 1) := by decide +kernel
theorem d_Mo_look_27 : decode b_Mo_look 27 = .ok (.iconst 0, 1) := by decide +kernel
theorem d_Mo_look_28 : decode b_Mo_look 28 = .ok (.bastore, 1) := by decide +kernel
theorem d_Mo_look_29 : decode b_Mo_look 29 = .ok (.aload_n 0, 1) := by decide +kernel
theorem d_Mo_look_30 : decode b_Mo_look 30 = .ok (.getfield 55, 3) := by decide +kernel
theorem d_Mo_look_33 : decode b_Mo_look 33 = .ok (.iload_n 1, 1) := by decide +kernel
theorem d_Mo_look_34 : decode b_Mo_look 34 = .ok (.iconst 0, 1) := by decide +kernel
theorem d_Mo_look_35 : decode b_Mo_look 35 = .ok (.bastore, 1) := by decide +kernel
theorem d_Mo_look_36 : decode b_Mo_look 36 = .ok (.iinc 1 1, 3) := by decide +kernel
theorem d_Mo_look_39 : decode b_Mo_look 39 = .ok (.goto (-24), 3) := by decide +kernel
theorem d_Mo_look_42 : decode b_Mo_look 42 = .ok (.iconst 0, 1) := by decide +kernel
theorem d_Mo_look_43 : decode b_Mo_look 43 = .ok (.istore_n 1, 1) := by decide +kernel
theorem d_Mo_look_44 : decode b_Mo_look 44 = .ok (.iload_n 1, 1) := by decide +kernel
theorem d_Mo_look_45 : decode b_Mo_look 45 = .ok (.sipush 4096, 3) := by decide +kernel
theorem d_Mo_look_48 : decode b_Mo_look 48 = .ok (.if_icmp .ge 135, 3) := by decide +kernel
theorem d_Mo_look_51 : decode b_Mo_look 51 = .ok (.aload_n 0, 1) := by decide +kernel
theorem d_Mo_look_52 : decode b_Mo_look 52 = .ok (.getfield 49, 3) := by decide +kernel
theorem d_Mo_look_55 : decode b_Mo_look 55 = .ok (.iload_n 1, 1) := by decide +kernel
theorem d_Mo_look_56 : decode b_Mo_look 56 = .ok (.aload_n 0, 1) := by decide +kernel
theorem d_Mo_look_57 : decode b_Mo_look 57 = .ok (.getfield 71, 3) := by decide +kernel
theorem d_Mo_look_60 : decode b_Mo_look 60 = .ok (.ifCond .ne 7, 3) := by decide +kernel
theorem d_Mo_look_63 : decode b_Mo_look 63 = .ok (.iconst (-1), 1) := by decide +kernel
theorem d_Mo_look_64 : decode b_Mo_look 64 = .ok (.goto 8, 3) := by decide +kernel
theorem d_Mo_look_67 : decode b_Mo_look 67 = .ok (.aload_n 0, 1) := by decide +kernel
theorem d_Mo_look_68 : decode b_Mo_look 68 = .ok (.iload_n 1, 1) := by decide +kernel
theorem d_Mo_look_69 : decode b_Mo_look 69 = .ok (.invokevirtual 109, 3) := by decide +kernel
theorem d_Mo_look_72 : decode b_Mo_look 72 = .ok (.i2b, 1) := by decide +kernel
theorem d_Mo_look_73 : decode b_Mo_look 73 = .ok (.bastore, 1) := by decide +kernel
theorem d_Mo_look_74 : decode b_Mo_look 74 = .ok (.iconst 0, 1) := by decide +kernel
theorem d_Mo_look_75 : decode b_Mo_look 75 = .ok (.istore_n 2, 1) := by decide +kernel
theorem d_Mo_look_76 : decode b_Mo_look 76 = .ok (.iload_n 2, 1) := by decide +kernel
theorem d_Mo_look_77 : decode b_Mo_look 77 = .ok (.iconst 1, 1) := by decide +kernel
theorem d_Mo_look_78 : decode b_Mo_look 78 = .ok (.aload_n 0, 1) := by decide +kernel
theorem d_Mo_look_79 : decode b_Mo_look 79 = .ok (.getfield 71, 3) := by decide +kernel
theorem d_Mo_look_82 : decode b_Mo_look 82 = .ok (.ishl, 1) := by decide +kernel
theorem d_Mo_look_83 : decode b_Mo_look 83 = .ok (.if_icmp .ge 94, 3) := by decide +kernel
theorem d_Mo_look_86 : decode b_Mo_look 86 = .ok (.aload_n 0, 1) := by decide +kernel
theorem d_Mo_look_87 : decode b_Mo_look 87 = .ok (.getfield 49, 3) := by decide +kernel
theorem d_Mo_look_90 : decode b_Mo_look 90 = .ok (.iload_n 1, 1) := by decide +kernel
theorem d_Mo_look_91 : decode b_Mo_look 91 = .ok (.baload, 1) := by decide +kernel
theorem d_Mo_look_92 : decode b_Mo_look 92 = .ok (.ifCond .le 85, 3) := by decide +kernel
theorem d_Mo_look_95 : decode b_Mo_look 95 = .ok (.aload_n 0, 1) := by decide +kernel
theorem d_Mo_look_96 : decode b_Mo_look 96 = .ok (.iload_n 2, 1) := by decide +kernel
theorem d_Mo_look_97 : decode b_Mo_look 97 = .ok (.invokevirtual 82, 3) := by decide +kernel
theorem d_Mo_look_100 : decode b_Mo_look 100 = .ok (.iconst 3, 1) := by decide +kernel
theorem d_Mo_look_101 : decode b_Mo_look 101 = .ok (.if_icmp .gt 70, 3) := by decide +kernel
theorem d_Mo_look_104 : decode b_Mo_look 104 = .ok (.aload_n 0, 1) := by decide +kernel
theorem d_Mo_look_105 : decode b_Mo_look 105 = .ok (.iload_n 1, 1) := by decide +kernel
theorem d_Mo_look_106 : decode b_Mo_look 106 = .ok (.iload_n 2, 1) := by decide +kernel
theorem d_Mo_look_107 : decode b_Mo_look 107 = .ok (.invokevirtual 112, 3) := by decide +kernel
theorem d_Mo_look_110 : decode b_Mo_look 110 = .ok (.istore_n 3, 1) := by decide +kernel
theorem d_Mo_look_111 : decode b_Mo_look 111 = .ok (.aload_n 0, 1) := by decide +kernel
theorem d_Mo_look_112 : decode b_Mo_look 112 = .ok (.getfield 52, 3) := by decide +kernel
theorem d_Mo_look_115 : decode b_Mo_look 115 = .ok (.iload_n 3, 1) := by decide +kernel
theorem d_Mo_look_116 : decode b_Mo_look 116 = .ok (.aload_n 0, 1) := by decide +kernel
theorem d_Mo_look_117 : decode b_Mo_look 117 = .ok (.getfield 52, 3) := by decide +kernel
theorem d_Mo_look_120 : decode b_Mo_look 120 = .ok (.iload_n 3, 1) := by decide +kernel
theorem d_Mo_look_121 : decode b_Mo_look 121 = .ok (.baload, 1) := by decide +kernel
theorem d_Mo_look_122 : decode b_Mo_look 122 = .ok (.ifCond .ne 13, 3) := by decide +kernel
theorem d_Mo_look_125 : decode b_Mo_look 125 = .ok (.aload_n 0, 1) := by decide +kernel
theorem d_Mo_look_126 : decode b_Mo_look 126 = .ok (.getfield 49, 3) := by decide +kernel
theorem d_Mo_look_129 : decode b_Mo_look 129 = .ok (.iload_n 1, 1) := by decide +kernel
theorem d_Mo_look_130 : decode b_Mo_look 130 = .ok (.baload, 1) := by decide +kernel
theorem d_Mo_look_131 : decode b_Mo_look 131 = .ok (.iconst 2, 1) := by decide +kernel
theorem d_Mo_look_132 : decode b_Mo_look 132 = .ok (.if_icmp .ne 7, 3) := by decide +kernel
theorem d_Mo_look_135 : decode b_Mo_look 135 = .ok (.iconst 1, 1) := by decide +kernel
theorem d_Mo_look_136 : decode b_Mo_look 136 = .ok (.goto 4, 3) := by decide +kernel
theorem d_Mo_look_139 : decode b_Mo_look 139 = .ok (.iconst 0, 1) := by decide +kernel
theorem d_Mo_look_140 : decode b_Mo_look 140 = .ok (.bastore, 1) := by decide +kernel
theorem d_Mo_look_141 : decode b_Mo_look 141 = .ok (.aload_n 0, 1) := by decide +kernel
theorem d_Mo_look_142 : decode b_Mo_look 142 = .ok (.getfield 55, 3) := by decide +kernel
theorem d_Mo_look_145 : decode b_Mo_look 145 = .ok (.iload_n 3, 1) := by decide +kernel
theorem d_Mo_look_146 : decode b_Mo_look 146 = .ok (.aload_n 0, 1) := by decide +kernel
theorem d_Mo_look_147 : decode b_Mo_look 147 = .ok (.getfield 55, 3) := by decide +kernel
theorem d_Mo_look_150 : decode b_Mo_look 150 = .ok (.iload_n 3, 1) := by decide +kernel
theorem d_Mo_look_151 : decode b_Mo_look 151 = .ok (.baload, 1) := by decide +kernel
theorem d_Mo_look_152 : decode b_Mo_look 152 = .ok (.ifCond .ne 13, 3) := by decide +kernel
theorem d_Mo_look_155 : decode b_Mo_look 155 = .ok (.aload_n 0, 1) := by decide +kernel
theorem d_Mo_look_156 : decode b_Mo_look 156 = .ok (.getfield 49, 3) := by decide +kernel
theorem d_Mo_look_159 : decode b_Mo_look 159 = .ok (.iload_n 1, 1) := by decide +kernel
theorem d_Mo_look_160 : decode b_Mo_look 160 = .ok (.baload, 1) := by decide +kernel
theorem d_Mo_look_161 : decode b_Mo_look 161 = .ok (.iconst 1, 1) := by decide +kernel
theorem d_Mo_look_162 : decode b_Mo_look 162 = .ok (.if_icmp .ne 7, 3) := by decide +kernel
theorem d_Mo_look_165 : decode b_Mo_look 165 = .ok (.iconst 1, 1) := by decide +kernel
theorem d_Mo_look_166 : decode b_Mo_look 166 = .ok (.goto 4, 3) := by decide +kernel
theorem d_Mo_look_169 : decode b_Mo_look 169 = .ok (.iconst 0, 1) := by decide +kernel
theorem d_Mo_look_170 : decode b_Mo_look 170 = .ok (.bastore, 1) := by decide +kernel
theorem d_Mo_look_171 : decode b_Mo_look 171 = .ok (.iinc 2 1, 3) := by decide +kernel
theorem d_Mo_look_174 : decode b_Mo_look 174 = .ok (.goto (-98), 3) := by decide +kernel
theorem d_Mo_look_177 : decode b_Mo_look 177 = .ok (.iinc 1 1, 3) := by decide +kernel
theorem d_Mo_look_180 : decode b_Mo_look 180 = .ok (.goto (-136), 3) := by decide +kernel
theorem d_Mo_look_183 : decode b_Mo_look 183 = .ok (.return_, 1) := by decide +kernel
theorem d_Mo_judge_0 : decode b_Mo_judge 0 = .ok (.iconst 0, 1) := by decide +kernel
theorem d_Mo_judge_1 : decode b_Mo_judge 1 = .ok (.istore_n 2, 1) := by decide +kernel
theorem d_Mo_judge_2 : decode b_Mo_judge 2 = .ok (.iconst 0, 1) := by decide +kernel
theorem d_Mo_judge_3 : decode b_Mo_judge 3 = .ok (.istore_n 3, 1) := by decide +kernel
theorem d_Mo_judge_4 : decode b_Mo_judge 4 = .ok (.iload_n 3, 1) := by decide +kernel
theorem d_Mo_judge_5 : decode b_Mo_judge 5 = .ok (.bipush 6, 2) := by decide +kernel
theorem d_Mo_judge_7 : decode b_Mo_judge 7 = .ok (.if_icmp .ge 77, 3) := by decide +kernel
theorem d_Mo_judge_10 : decode b_Mo_judge 10 = .ok (.iload_n 1, 1) := by decide +kernel
theorem d_Mo_judge_11 : decode b_Mo_judge 11 = .ok (.iconst 2, 1) := by decide +kernel
theorem d_Mo_judge_12 : decode b_Mo_judge 12 = .ok (.iload_n 3, 1) := by decide +kernel
theorem d_Mo_judge_13 : decode b_Mo_judge 13 = .ok (.imul, 1) := by decide +kernel
theorem d_Mo_judge_14 : decode b_Mo_judge 14 = .ok (.ishr, 1) := by decide +kernel
theorem d_Mo_judge_15 : decode b_Mo_judge 15 = .ok (.iconst 3, 1) := by decide +kernel
theorem d_Mo_judge_16 : decode b_Mo_judge 16 = .ok (.iand, 1) := by decide +kernel
theorem d_Mo_judge_17 : decode b_Mo_judge 17 = .ok (.istore 4, 2) := by decide +kernel
theorem d_Mo_judge_19 : decode b_Mo_judge 19 = .ok (.iload_n 3, 1) := by decide +kernel
theorem d_Mo_judge_20 : decode b_Mo_judge 20 = .ok (.aload_n 0, 1) := by decide +kernel
theorem d_Mo_judge_21 : decode b_Mo_judge 21 = .ok (.getfield 71, 3) := by decide +kernel
theorem d_Mo_judge_24 : decode b_Mo_judge 24 = .ok (.if_icmp .ge 17, 3) := by decide +kernel
theorem d_Mo_judge_27 : decode b_Mo_judge 27 = .ok (.iload 4, 2) := by decide +kernel
theorem d_Mo_judge_29 : decode b_Mo_judge 29 = .ok (.aload_n 0, 1) := by decide +kernel
theorem d_Mo_judge_30 : decode b_Mo_judge 30 = .ok (.getfield 7, 3) := by decide +kernel
theorem d_Mo_judge_33 : decode b_Mo_judge 33 = .ok (.iload_n 3, 1) := by decide +kernel
theorem d_Mo_judge_34 : decode b_Mo_judge 34 = .ok (.iaload, 1) := by decide +kernel
theorem d_Mo_judge_35 : decode b_Mo_judge 35 = .ok (.if_icmp .lt 13, 3) := by decide +kernel
theorem d_Mo_judge_38 : decode b_Mo_judge 38 = .ok (.goto 8, 3) := by decide +kernel
theorem d_Mo_judge_41 : decode b_Mo_judge 41 = .ok (.iload 4, 2) := by decide +kernel
theorem d_Mo_judge_43 : decode b_Mo_judge 43 = .ok (.ifCond .le 5, 3) := by decide +kernel
theorem d_Mo_judge_46 : decode b_Mo_judge 46 = .ok (.iconst (-1), 1) := by decide +kernel
theorem d_Mo_judge_47 : decode b_Mo_judge 47 = .ok (.ireturn, 1) := by decide +kernel
theorem d_Mo_judge_48 : decode b_Mo_judge 48 = .ok (.iload_n 2, 1) := by decide +kernel
theorem d_Mo_judge_49 : decode b_Mo_judge 49 = .ok (.iload_n 3, 1) := by decide +kernel
theorem d_Mo_judge_50 : decode b_Mo_judge 50 = .ok (.aload_n 0, 1) := by decide +kernel
theorem d_Mo_judge_51 : decode b_Mo_judge 51 = .ok (.getfield 71, 3) := by decide +kernel
theorem d_Mo_judge_54 : decode b_Mo_judge 54 = .ok (.if_icmp .ge 21, 3) := by decide +kernel
theorem d_Mo_judge_57 : decode b_Mo_judge 57 = .ok (.aload_n 0, 1) := by decide +kernel
theorem d_Mo_judge_58 : decode b_Mo_judge 58 = .ok (.getfield 13, 3) := by decide +kernel
theorem d_Mo_judge_61 : decode b_Mo_judge 61 = .ok (.iconst 4, 1) := by decide +kernel
theorem d_Mo_judge_62 : decode b_Mo_judge 62 = .ok (.iload_n 3, 1) := by decide +kernel
theorem d_Mo_judge_63 : decode b_Mo_judge 63 = .ok (.imul, 1) := by decide +kernel
theorem d_Mo_judge_64 : decode b_Mo_judge 64 = .ok (.iload 4, 2) := by decide +kernel
theorem d_Mo_judge_66 : decode b_Mo_judge 66 = .ok (.iadd, 1) := by decide +kernel
theorem d_Mo_judge_67 : decode b_Mo_judge 67 = .ok (.baload, 1) := by decide +kernel
theorem d_Mo_judge_68 : decode b_Mo_judge 68 = .ok (.ifCond .eq 7, 3) := by decide +kernel
theorem d_Mo_judge_71 : decode b_Mo_judge 71 = .ok (.iconst 1, 1) := by decide +kernel
theorem d_Mo_judge_72 : decode b_Mo_judge 72 = .ok (.goto 4, 3) := by decide +kernel
theorem d_Mo_judge_75 : decode b_Mo_judge 75 = .ok (.iconst 0, 1) := by decide +kernel
theorem d_Mo_judge_76 : decode b_Mo_judge 76 = .ok (.iadd, 1) := by decide +kernel
theorem d_Mo_judge_77 : decode b_Mo_judge 77 = .ok (.istore_n 2, 1) := by decide +kernel
theorem d_Mo_judge_78 : decode b_Mo_judge 78 = .ok (.iinc 3 1, 3) := by decide +kernel
theorem d_Mo_judge_81 : decode b_Mo_judge 81 = .ok (.goto (-77), 3) := by decide +kernel
theorem d_Mo_judge_84 : decode b_Mo_judge 84 = .ok (.iload_n 2, 1) := by decide +kernel
theorem d_Mo_judge_85 : decode b_Mo_judge 85 = .ok (.iconst 1, 1) := by decide +kernel
theorem d_Mo_judge_86 : decode b_Mo_judge 86 = .ok (.if_icmp .gt 11, 3) := by decide +kernel
theorem d_Mo_judge_89 : decode b_Mo_judge 89 = .ok (.aload_n 0, 1) := by decide +kernel
theorem d_Mo_judge_90 : decode b_Mo_judge 90 = .ok (.iload_n 1, 1) := by decide +kernel
theorem d_Mo_judge_91 : decode b_Mo_judge 91 = .ok (.invokevirtual 105, 3) := by decide +kernel
theorem d_Mo_judge_94 : decode b_Mo_judge 94 = .ok (.ifCond .ne 7, 3) := by decide +kernel
theorem d_Mo_judge_97 : decode b_Mo_judge 97 = .ok (.iconst 0, 1) := by decide +kernel
theorem d_Mo_judge_98 : decode b_Mo_judge 98 = .ok (.goto 6, 3) := by decide +kernel
theorem d_Mo_judge_101 : decode b_Mo_judge 101 = .ok (.iconst 2, 1) := by decide +kernel
theorem d_Mo_judge_102 : decode b_Mo_judge 102 = .ok (.iload_n 2, 1) := by decide +kernel
theorem d_Mo_judge_103 : decode b_Mo_judge 103 = .ok (.isub, 1) := by decide +kernel
theorem d_Mo_judge_104 : decode b_Mo_judge 104 = .ok (.ireturn, 1) := by decide +kernel
theorem d_Mo_meets_0 : decode b_Mo_meets 0 = .ok (.iconst 0, 1) := by decide +kernel
theorem d_Mo_meets_1 : decode b_Mo_meets 1 = .ok (.istore_n 2, 1) := by decide +kernel
theorem d_Mo_meets_2 : decode b_Mo_meets 2 = .ok (.iload_n 2, 1) := by decide +kernel
theorem d_Mo_meets_3 : decode b_Mo_meets 3 = .ok (.aload_n 0, 1) := by decide +kernel
theorem d_Mo_meets_4 : decode b_Mo_meets 4 = .ok (.getfield 89, 3) := by decide +kernel
theorem d_Mo_meets_7 : decode b_Mo_meets 7 = .ok (.if_icmp .ge 202, 3) := by decide +kernel
theorem d_Mo_meets_10 : decode b_Mo_meets 10 = .ok (.aload_n 0, 1) := by decide +kernel
theorem d_Mo_meets_11 : decode b_Mo_meets 11 = .ok (.getfield 27, 3) := by decide +kernel
theorem d_Mo_meets_14 : decode b_Mo_meets 14 = .ok (.iload_n 2, 1) := by decide +kernel
theorem d_Mo_meets_15 : decode b_Mo_meets 15 = .ok (.saload, 1) := by decide +kernel
theorem d_Mo_meets_16 : decode b_Mo_meets 16 = .ok (.istore_n 3, 1) := by decide +kernel
theorem d_Mo_meets_17 : decode b_Mo_meets 17 = .ok (.aload_n 0, 1) := by decide +kernel
theorem d_Mo_meets_18 : decode b_Mo_meets 18 = .ok (.getfield 31, 3) := by decide +kernel
theorem d_Mo_meets_21 : decode b_Mo_meets 21 = .ok (.iload_n 2, 1) := by decide +kernel
theorem d_Mo_meets_22 : decode b_Mo_meets 22 = .ok (.saload, 1) := by decide +kernel
theorem d_Mo_meets_23 : decode b_Mo_meets 23 = .ok (.istore 4, 2) := by decide +kernel
theorem d_Mo_meets_25 : decode b_Mo_meets 25 = .ok (.aload_n 0, 1) := by decide +kernel
theorem d_Mo_meets_26 : decode b_Mo_meets 26 = .ok (.getfield 23, 3) := by decide +kernel
theorem d_Mo_meets_29 : decode b_Mo_meets 29 = .ok (.iload_n 2, 1) := by decide +kernel
theorem d_Mo_meets_30 : decode b_Mo_meets 30 = .ok (.baload, 1) := by decide +kernel
theorem d_Mo_meets_31 : decode b_Mo_meets 31 = .ok (.iconst 4, 1) := by decide +kernel
theorem d_Mo_meets_32 : decode b_Mo_meets 32 = .ok (.if_icmp .ne 29, 3) := by decide +kernel
theorem d_Mo_meets_35 : decode b_Mo_meets 35 = .ok (.aload_n 0, 1) := by decide +kernel
theorem d_Mo_meets_36 : decode b_Mo_meets 36 = .ok (.getfield 37, 3) := by decide +kernel
theorem d_Mo_meets_39 : decode b_Mo_meets 39 = .ok (.iload_n 2, 1) := by decide +kernel
theorem d_Mo_meets_40 : decode b_Mo_meets 40 = .ok (.iload_n 1, 1) := by decide +kernel
theorem d_Mo_meets_41 : decode b_Mo_meets 41 = .ok (.iconst 2, 1) := by decide +kernel
theorem d_Mo_meets_42 : decode b_Mo_meets 42 = .ok (.iload_n 3, 1) := by decide +kernel
theorem d_Mo_meets_43 : decode b_Mo_meets 43 = .ok (.imul, 1) := by decide +kernel
theorem d_Mo_meets_44 : decode b_Mo_meets 44 = .ok (.ishr, 1) := by decide +kernel
theorem d_Mo_meets_45 : decode b_Mo_meets 45 = .ok (.iconst 3, 1) := by decide +kernel
theorem d_Mo_meets_46 : decode b_Mo_meets 46 = .ok (.iand, 1) := by decide +kernel
theorem d_Mo_meets_47 : decode b_Mo_meets 47 = .ok (.iload 4, 2) := by decide +kernel
theorem d_Mo_meets_49 : decode b_Mo_meets 49 = .ok (.if_icmp .ne 7, 3) := by decide +kernel
theorem d_Mo_meets_52 : decode b_Mo_meets 52 = .ok (.iconst 1, 1) := by decide +kernel
theorem d_Mo_meets_53 : decode b_Mo_meets 53 = .ok (.goto 4, 3) := by decide +kernel
theorem d_Mo_meets_56 : decode b_Mo_meets 56 = .ok (.iconst 0, 1) := by decide +kernel
theorem d_Mo_meets_57 : decode b_Mo_meets 57 = .ok (.bastore, 1) := by decide +kernel
theorem d_Mo_meets_58 : decode b_Mo_meets 58 = .ok (.goto 145, 3) := by decide +kernel
theorem d_Mo_meets_61 : decode b_Mo_meets 61 = .ok (.aload_n 0, 1) := by decide +kernel
theorem d_Mo_meets_62 : decode b_Mo_meets 62 = .ok (.getfield 23, 3) := by decide +kernel
theorem d_Mo_meets_65 : decode b_Mo_meets 65 = .ok (.iload_n 2, 1) := by decide +kernel
theorem d_Mo_meets_66 : decode b_Mo_meets 66 = .ok (.baload, 1) := by decide +kernel
theorem d_Mo_meets_67 : decode b_Mo_meets 67 = .ok (.iconst 3, 1) := by decide +kernel
theorem d_Mo_meets_68 : decode b_Mo_meets 68 = .ok (.if_icmp .ne 26, 3) := by decide +kernel
theorem d_Mo_meets_71 : decode b_Mo_meets 71 = .ok (.aload_n 0, 1) := by decide +kernel
theorem d_Mo_meets_72 : decode b_Mo_meets 72 = .ok (.getfield 37, 3) := by decide +kernel
theorem d_Mo_meets_75 : decode b_Mo_meets 75 = .ok (.iload_n 2, 1) := by decide +kernel
theorem d_Mo_meets_76 : decode b_Mo_meets 76 = .ok (.aload_n 0, 1) := by decide +kernel
theorem d_Mo_meets_77 : decode b_Mo_meets 77 = .ok (.getfield 37, 3) := by decide +kernel
theorem d_Mo_meets_80 : decode b_Mo_meets 80 = .ok (.iload_n 3, 1) := by decide +kernel
theorem d_Mo_meets_81 : decode b_Mo_meets 81 = .ok (.baload, 1) := by decide +kernel
theorem d_Mo_meets_82 : decode b_Mo_meets 82 = .ok (.ifCond .ne 7, 3) := by decide +kernel
theorem d_Mo_meets_85 : decode b_Mo_meets 85 = .ok (.iconst 1, 1) := by decide +kernel
theorem d_Mo_meets_86 : decode b_Mo_meets 86 = .ok (.goto 4, 3) := by decide +kernel
theorem d_Mo_meets_89 : decode b_Mo_meets 89 = .ok (.iconst 0, 1) := by decide +kernel
theorem d_Mo_meets_90 : decode b_Mo_meets 90 = .ok (.bastore, 1) := by decide +kernel
theorem d_Mo_meets_91 : decode b_Mo_meets 91 = .ok (.goto 112, 3) := by decide +kernel
theorem d_Mo_meets_94 : decode b_Mo_meets 94 = .ok (.aload_n 0, 1) := by decide +kernel
theorem d_Mo_meets_95 : decode b_Mo_meets 95 = .ok (.getfield 23, 3) := by decide +kernel
theorem d_Mo_meets_98 : decode b_Mo_meets 98 = .ok (.iload_n 2, 1) := by decide +kernel
theorem d_Mo_meets_99 : decode b_Mo_meets 99 = .ok (.baload, 1) := by decide +kernel
theorem d_Mo_meets_100 : decode b_Mo_meets 100 = .ok (.iconst 2, 1) := by decide +kernel
theorem d_Mo_meets_101 : decode b_Mo_meets 101 = .ok (.if_icmp .ne 36, 3) := by decide +kernel
theorem d_Mo_meets_104 : decode b_Mo_meets 104 = .ok (.aload_n 0, 1) := by decide +kernel
