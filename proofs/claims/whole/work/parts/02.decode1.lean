theorem d_Te_combine_55 : decode b_Te_combine 55 = .ok (.aaload, 1) := by decide +kernel
theorem d_Te_combine_56 : decode b_Te_combine 56 = .ok (.aload_n 0, 1) := by decide +kernel
theorem d_Te_combine_57 : decode b_Te_combine 57 = .ok (.getfield 11, 3) := by decide +kernel
theorem d_Te_combine_60 : decode b_Te_combine 60 = .ok (.aload_n 0, 1) := by decide +kernel
theorem d_Te_combine_61 : decode b_Te_combine 61 = .ok (.getfield 22, 3) := by decide +kernel
theorem d_Te_combine_64 : decode b_Te_combine 64 = .ok (.iconst 1, 1) := by decide +kernel
theorem d_Te_combine_65 : decode b_Te_combine 65 = .ok (.isub, 1) := by decide +kernel
theorem d_Te_combine_66 : decode b_Te_combine 66 = .ok (.aaload, 1) := by decide +kernel
theorem d_Te_combine_67 : decode b_Te_combine 67 = .ok (.invokestatic 39, 3) := by decide +kernel
theorem d_Te_combine_70 : decode b_Te_combine 70 = .ok (.aload_n 0, 1) := by decide +kernel
theorem d_Te_combine_71 : decode b_Te_combine 71 = .ok (.getfield 17, 3) := by decide +kernel
theorem d_Te_combine_74 : decode b_Te_combine 74 = .ok (.aload_n 0, 1) := by decide +kernel
theorem d_Te_combine_75 : decode b_Te_combine 75 = .ok (.getfield 22, 3) := by decide +kernel
theorem d_Te_combine_78 : decode b_Te_combine 78 = .ok (.iconst 2, 1) := by decide +kernel
theorem d_Te_combine_79 : decode b_Te_combine 79 = .ok (.isub, 1) := by decide +kernel
theorem d_Te_combine_80 : decode b_Te_combine 80 = .ok (.iload_n 2, 1) := by decide +kernel
theorem d_Te_combine_81 : decode b_Te_combine 81 = .ok (.iconst 1, 1) := by decide +kernel
theorem d_Te_combine_82 : decode b_Te_combine 82 = .ok (.iadd, 1) := by decide +kernel
theorem d_Te_combine_83 : decode b_Te_combine 83 = .ok (.iastore, 1) := by decide +kernel
theorem d_Te_combine_84 : decode b_Te_combine 84 = .ok (.aload_n 0, 1) := by decide +kernel
theorem d_Te_combine_85 : decode b_Te_combine 85 = .ok (.dup, 1) := by decide +kernel
theorem d_Te_combine_86 : decode b_Te_combine 86 = .ok (.getfield 22, 3) := by decide +kernel
theorem d_Te_combine_89 : decode b_Te_combine 89 = .ok (.iconst 1, 1) := by decide +kernel
theorem d_Te_combine_90 : decode b_Te_combine 90 = .ok (.isub, 1) := by decide +kernel
theorem d_Te_combine_91 : decode b_Te_combine 91 = .ok (.putfield 22, 3) := by decide +kernel
theorem d_Te_combine_94 : decode b_Te_combine 94 = .ok (.iconst 1, 1) := by decide +kernel
theorem d_Te_combine_95 : decode b_Te_combine 95 = .ok (.ireturn, 1) := by decide +kernel
theorem d_JM_max_0 : decode b_JM_max 0 = .ok (.iload_n 0, 1) := by decide +kernel
theorem d_JM_max_1 : decode b_JM_max 1 = .ok (.iload_n 1, 1) := by decide +kernel
theorem d_JM_max_2 : decode b_JM_max 2 = .ok (.if_icmp .lt 7, 3) := by decide +kernel
theorem d_JM_max_5 : decode b_JM_max 5 = .ok (.iload_n 0, 1) := by decide +kernel
theorem d_JM_max_6 : decode b_JM_max 6 = .ok (.goto 4, 3) := by decide +kernel
theorem d_JM_max_9 : decode b_JM_max 9 = .ok (.iload_n 1, 1) := by decide +kernel
theorem d_JM_max_10 : decode b_JM_max 10 = .ok (.ireturn, 1) := by decide +kernel
theorem d_Te_combineSets_0 : decode b_Te_combineSets 0 = .ok (.iload_n 0, 1) := by decide +kernel
theorem d_Te_combineSets_1 : decode b_Te_combineSets 1 = .ok (.ifCond .ne 11, 3) := by decide +kernel
theorem d_Te_combineSets_4 : decode b_Te_combineSets 4 = .ok (.aload_n 1, 1) := by decide +kernel
theorem d_Te_combineSets_5 : decode b_Te_combineSets 5 = .ok (.aload_n 2, 1) := by decide +kernel
theorem d_Te_combineSets_6 : decode b_Te_combineSets 6 = .ok (.invokevirtual 43, 3) := by decide +kernel
theorem d_Te_combineSets_9 : decode b_Te_combineSets 9 = .ok (.goto 25, 3) := by decide +kernel
theorem d_Te_combineSets_12 : decode b_Te_combineSets 12 = .ok (.iload_n 0, 1) := by decide +kernel
theorem d_Te_combineSets_13 : decode b_Te_combineSets 13 = .ok (.iconst 1, 1) := by decide +kernel
theorem d_Te_combineSets_14 : decode b_Te_combineSets 14 = .ok (.if_icmp .ne 11, 3) := by decide +kernel
theorem d_Te_combineSets_17 : decode b_Te_combineSets 17 = .ok (.aload_n 1, 1) := by decide +kernel
theorem d_Te_combineSets_18 : decode b_Te_combineSets 18 = .ok (.aload_n 2, 1) := by decide +kernel
theorem d_Te_combineSets_19 : decode b_Te_combineSets 19 = .ok (.invokevirtual 47, 3) := by decide +kernel
theorem d_Te_combineSets_22 : decode b_Te_combineSets 22 = .ok (.goto 12, 3) := by decide +kernel
theorem d_Te_combineSets_25 : decode b_Te_combineSets 25 = .ok (.aload_n 1, 1) := by decide +kernel
theorem d_Te_combineSets_26 : decode b_Te_combineSets 26 = .ok (.invokevirtual 30, 3) := by decide +kernel
theorem d_Te_combineSets_29 : decode b_Te_combineSets 29 = .ok (.aload_n 1, 1) := by decide +kernel
theorem d_Te_combineSets_30 : decode b_Te_combineSets 30 = .ok (.aload_n 2, 1) := by decide +kernel
theorem d_Te_combineSets_31 : decode b_Te_combineSets 31 = .ok (.invokevirtual 47, 3) := by decide +kernel
theorem d_Te_combineSets_34 : decode b_Te_combineSets 34 = .ok (.return_, 1) := by decide +kernel
theorem d_NS_becomeAnd_0 : decode b_NS_becomeAnd 0 = .ok (.iconst 0, 1) := by decide +kernel
theorem d_NS_becomeAnd_1 : decode b_NS_becomeAnd 1 = .ok (.istore_n 2, 1) := by decide +kernel
theorem d_NS_becomeAnd_2 : decode b_NS_becomeAnd 2 = .ok (.iload_n 2, 1) := by decide +kernel
theorem d_NS_becomeAnd_3 : decode b_NS_becomeAnd 3 = .ok (.bipush 64, 2) := by decide +kernel
theorem d_NS_becomeAnd_5 : decode b_NS_becomeAnd 5 = .ok (.if_icmp .ge 24, 3) := by decide +kernel
theorem d_NS_becomeAnd_8 : decode b_NS_becomeAnd 8 = .ok (.aload_n 0, 1) := by decide +kernel
theorem d_NS_becomeAnd_9 : decode b_NS_becomeAnd 9 = .ok (.getfield 9, 3) := by decide +kernel
theorem d_NS_becomeAnd_12 : decode b_NS_becomeAnd 12 = .ok (.iload_n 2, 1) := by decide +kernel
theorem d_NS_becomeAnd_13 : decode b_NS_becomeAnd 13 = .ok (.dup2, 1) := by decide +kernel
theorem d_NS_becomeAnd_14 : decode b_NS_becomeAnd 14 = .ok (.laload, 1) := by decide +kernel
theorem d_NS_becomeAnd_15 : decode b_NS_becomeAnd 15 = .ok (.aload_n 1, 1) := by decide +kernel
theorem d_NS_becomeAnd_16 : decode b_NS_becomeAnd 16 = .ok (.getfield 9, 3) := by decide +kernel
theorem d_NS_becomeAnd_19 : decode b_NS_becomeAnd 19 = .ok (.iload_n 2, 1) := by decide +kernel
theorem d_NS_becomeAnd_20 : decode b_NS_becomeAnd 20 = .ok (.laload, 1) := by decide +kernel
theorem d_NS_becomeAnd_21 : decode b_NS_becomeAnd 21 = .ok (.land, 1) := by decide +kernel
theorem d_NS_becomeAnd_22 : decode b_NS_becomeAnd 22 = .ok (.lastore, 1) := by decide +kernel
theorem d_NS_becomeAnd_23 : decode b_NS_becomeAnd 23 = .ok (.iinc 2 1, 3) := by decide +kernel
theorem d_NS_becomeAnd_26 : decode b_NS_becomeAnd 26 = .ok (.goto (-24), 3) := by decide +kernel
theorem d_NS_becomeAnd_29 : decode b_NS_becomeAnd 29 = .ok (.return_, 1) := by decide +kernel
theorem d_NS_becomeOr_0 : decode b_NS_becomeOr 0 = .ok (.iconst 0, 1) := by decide +kernel
theorem d_NS_becomeOr_1 : decode b_NS_becomeOr 1 = .ok (.istore_n 2, 1) := by decide +kernel
theorem d_NS_becomeOr_2 : decode b_NS_becomeOr 2 = .ok (.iload_n 2, 1) := by decide +kernel
theorem d_NS_becomeOr_3 : decode b_NS_becomeOr 3 = .ok (.bipush 64, 2) := by decide +kernel
theorem d_NS_becomeOr_5 : decode b_NS_becomeOr 5 = .ok (.if_icmp .ge 24, 3) := by decide +kernel
theorem d_NS_becomeOr_8 : decode b_NS_becomeOr 8 = .ok (.aload_n 0, 1) := by decide +kernel
theorem d_NS_becomeOr_9 : decode b_NS_becomeOr 9 = .ok (.getfield 9, 3) := by decide +kernel
theorem d_NS_becomeOr_12 : decode b_NS_becomeOr 12 = .ok (.iload_n 2, 1) := by decide +kernel
theorem d_NS_becomeOr_13 : decode b_NS_becomeOr 13 = .ok (.dup2, 1) := by decide +kernel
theorem d_NS_becomeOr_14 : decode b_NS_becomeOr 14 = .ok (.laload, 1) := by decide +kernel
theorem d_NS_becomeOr_15 : decode b_NS_becomeOr 15 = .ok (.aload_n 1, 1) := by decide +kernel
theorem d_NS_becomeOr_16 : decode b_NS_becomeOr 16 = .ok (.getfield 9, 3) := by decide +kernel
theorem d_NS_becomeOr_19 : decode b_NS_becomeOr 19 = .ok (.iload_n 2, 1) := by decide +kernel
theorem d_NS_becomeOr_20 : decode b_NS_becomeOr 20 = .ok (.laload, 1) := by decide +kernel
theorem d_NS_becomeOr_21 : decode b_NS_becomeOr 21 = .ok (.lor, 1) := by decide +kernel
theorem d_NS_becomeOr_22 : decode b_NS_becomeOr 22 = .ok (.lastore, 1) := by decide +kernel
theorem d_NS_becomeOr_23 : decode b_NS_becomeOr 23 = .ok (.iinc 2 1, 3) := by decide +kernel
theorem d_NS_becomeOr_26 : decode b_NS_becomeOr 26 = .ok (.goto (-24), 3) := by decide +kernel
theorem d_NS_becomeOr_29 : decode b_NS_becomeOr 29 = .ok (.return_, 1) := by decide +kernel
theorem d_CR_require_0 : decode b_CR_require 0 = .ok (.aload_n 0, 1) := by decide +kernel
theorem d_CR_require_1 : decode b_CR_require 1 = .ok (.getfield 43, 3) := by decide +kernel
theorem d_CR_require_4 : decode b_CR_require 4 = .ok (.ifCond .eq 5, 3) := by decide +kernel
theorem d_CR_require_7 : decode b_CR_require 7 = .ok (.iconst (-1), 1) := by decide +kernel
theorem d_CR_require_8 : decode b_CR_require 8 = .ok (.ireturn, 1) := by decide +kernel
theorem d_CR_require_9 : decode b_CR_require 9 = .ok (.aload_n 0, 1) := by decide +kernel
theorem d_CR_require_10 : decode b_CR_require 10 = .ok (.getfield 26, 3) := by decide +kernel
theorem d_CR_require_13 : decode b_CR_require 13 = .ok (.getfield 92, 3) := by decide +kernel
theorem d_CR_require_16 : decode b_CR_require 16 = .ok (.ifCond .ne 6, 3) := by decide +kernel
theorem d_CR_require_19 : decode b_CR_require 19 = .ok (.bipush (-2), 2) := by decide +kernel
theorem d_CR_require_21 : decode b_CR_require 21 = .ok (.ireturn, 1) := by decide +kernel
theorem d_CR_require_22 : decode b_CR_require 22 = .ok (.aload_n 0, 1) := by decide +kernel
theorem d_CR_require_23 : decode b_CR_require 23 = .ok (.getfield 12, 3) := by decide +kernel
theorem d_CR_require_26 : decode b_CR_require 26 = .ok (.getfield 93, 3) := by decide +kernel
theorem d_CR_require_29 : decode b_CR_require 29 = .ok (.bipush 8, 2) := by decide +kernel
theorem d_CR_require_31 : decode b_CR_require 31 = .ok (.if_icmp .ne 6, 3) := by decide +kernel
theorem d_CR_require_34 : decode b_CR_require 34 = .ok (.bipush (-3), 2) := by decide +kernel
theorem d_CR_require_36 : decode b_CR_require 36 = .ok (.ireturn, 1) := by decide +kernel
theorem d_CR_require_37 : decode b_CR_require 37 = .ok (.aload_n 0, 1) := by decide +kernel
theorem d_CR_require_38 : decode b_CR_require 38 = .ok (.getfield 12, 3) := by decide +kernel
theorem d_CR_require_41 : decode b_CR_require 41 = .ok (.aload_n 0, 1) := by decide +kernel
theorem d_CR_require_42 : decode b_CR_require 42 = .ok (.getfield 26, 3) := by decide +kernel
theorem d_CR_require_45 : decode b_CR_require 45 = .ok (.invokevirtual 96, 3) := by decide +kernel
theorem d_CR_require_48 : decode b_CR_require 48 = .ok (.invokevirtual 100, 3) := by decide +kernel
theorem d_CR_require_51 : decode b_CR_require 51 = .ok (.aload_n 0, 1) := by decide +kernel
theorem d_CR_require_52 : decode b_CR_require 52 = .ok (.getfield 12, 3) := by decide +kernel
theorem d_CR_require_55 : decode b_CR_require 55 = .ok (.getfield 93, 3) := by decide +kernel
theorem d_CR_require_58 : decode b_CR_require 58 = .ok (.ireturn, 1) := by decide +kernel
theorem d_Te_pop_0 : decode b_Te_pop 0 = .ok (.aload_n 0, 1) := by decide +kernel
theorem d_Te_pop_1 : decode b_Te_pop 1 = .ok (.getfield 22, 3) := by decide +kernel
theorem d_Te_pop_4 : decode b_Te_pop 4 = .ok (.ifCond .le 13, 3) := by decide +kernel
theorem d_Te_pop_7 : decode b_Te_pop 7 = .ok (.aload_n 0, 1) := by decide +kernel
theorem d_Te_pop_8 : decode b_Te_pop 8 = .ok (.dup, 1) := by decide +kernel
theorem d_Te_pop_9 : decode b_Te_pop 9 = .ok (.getfield 22, 3) := by decide +kernel
theorem d_Te_pop_12 : decode b_Te_pop 12 = .ok (.iconst 1, 1) := by decide +kernel
theorem d_Te_pop_13 : decode b_Te_pop 13 = .ok (.isub, 1) := by decide +kernel
theorem d_Te_pop_14 : decode b_Te_pop 14 = .ok (.putfield 22, 3) := by decide +kernel
theorem d_Te_pop_17 : decode b_Te_pop 17 = .ok (.aload_n 0, 1) := by decide +kernel
theorem d_Te_pop_18 : decode b_Te_pop 18 = .ok (.getfield 11, 3) := by decide +kernel
theorem d_Te_pop_21 : decode b_Te_pop 21 = .ok (.aload_n 0, 1) := by decide +kernel
theorem d_Te_pop_22 : decode b_Te_pop 22 = .ok (.getfield 22, 3) := by decide +kernel
theorem d_Te_pop_25 : decode b_Te_pop 25 = .ok (.aaload, 1) := by decide +kernel
theorem d_Te_pop_26 : decode b_Te_pop 26 = .ok (.areturn, 1) := by decide +kernel
theorem d_Sp_addRule_0 : decode b_Sp_addRule 0 = .ok (.aload_n 0, 1) := by decide +kernel
theorem d_Sp_addRule_1 : decode b_Sp_addRule 1 = .ok (.getfield 21, 3) := by decide +kernel
theorem d_Sp_addRule_4 : decode b_Sp_addRule 4 = .ok (.aload_n 1, 1) := by decide +kernel
theorem d_Sp_addRule_5 : decode b_Sp_addRule 5 = .ok (.invokevirtual 47, 3) := by decide +kernel
theorem d_Sp_addRule_8 : decode b_Sp_addRule 8 = .ok (.aload_n 0, 1) := by decide +kernel
theorem d_Sp_addRule_9 : decode b_Sp_addRule 9 = .ok (.dup, 1) := by decide +kernel
theorem d_Sp_addRule_10 : decode b_Sp_addRule 10 = .ok (.getfield 51, 3) := by decide +kernel
theorem d_Sp_addRule_13 : decode b_Sp_addRule 13 = .ok (.iconst 1, 1) := by decide +kernel
theorem d_Sp_addRule_14 : decode b_Sp_addRule 14 = .ok (.iadd, 1) := by decide +kernel
theorem d_Sp_addRule_15 : decode b_Sp_addRule 15 = .ok (.putfield 51, 3) := by decide +kernel
theorem d_Sp_addRule_18 : decode b_Sp_addRule 18 = .ok (.aload_n 0, 1) := by decide +kernel
theorem d_Sp_addRule_19 : decode b_Sp_addRule 19 = .ok (.invokevirtual 40, 3) := by decide +kernel
theorem d_Sp_addRule_22 : decode b_Sp_addRule 22 = .ok (.return_, 1) := by decide +kernel
theorem d_CR_seed_0 : decode b_CR_seed 0 = .ok (.aload_n 0, 1) := by decide +kernel
theorem d_CR_seed_1 : decode b_CR_seed 1 = .ok (.getfield 43, 3) := by decide +kernel
theorem d_CR_seed_4 : decode b_CR_seed 4 = .ok (.ifCond .eq 5, 3) := by decide +kernel
theorem d_CR_seed_7 : decode b_CR_seed 7 = .ok (.iconst (-1), 1) := by decide +kernel
theorem d_CR_seed_8 : decode b_CR_seed 8 = .ok (.ireturn, 1) := by decide +kernel
theorem d_CR_seed_9 : decode b_CR_seed 9 = .ok (.aload_n 0, 1) := by decide +kernel
theorem d_CR_seed_10 : decode b_CR_seed 10 = .ok (.getfield 104, 3) := by decide +kernel
theorem d_CR_seed_13 : decode b_CR_seed 13 = .ok (.bipush 8, 2) := by decide +kernel
theorem d_CR_seed_15 : decode b_CR_seed 15 = .ok (.if_icmp .ne 6, 3) := by decide +kernel
theorem d_CR_seed_18 : decode b_CR_seed 18 = .ok (.bipush (-2), 2) := by decide +kernel
theorem d_CR_seed_20 : decode b_CR_seed 20 = .ok (.ireturn, 1) := by decide +kernel
theorem d_CR_seed_21 : decode b_CR_seed 21 = .ok (.aload_n 0, 1) := by decide +kernel
theorem d_CR_seed_22 : decode b_CR_seed 22 = .ok (.getfield 30, 3) := by decide +kernel
theorem d_CR_seed_25 : decode b_CR_seed 25 = .ok (.aload_n 0, 1) := by decide +kernel
theorem d_CR_seed_26 : decode b_CR_seed 26 = .ok (.getfield 104, 3) := by decide +kernel
theorem d_CR_seed_29 : decode b_CR_seed 29 = .ok (.iload_n 1, 1) := by decide +kernel
theorem d_CR_seed_30 : decode b_CR_seed 30 = .ok (.iastore, 1) := by decide +kernel
theorem d_CR_seed_31 : decode b_CR_seed 31 = .ok (.aload_n 0, 1) := by decide +kernel
theorem d_CR_seed_32 : decode b_CR_seed 32 = .ok (.dup, 1) := by decide +kernel
theorem d_CR_seed_33 : decode b_CR_seed 33 = .ok (.getfield 104, 3) := by decide +kernel
theorem d_CR_seed_36 : decode b_CR_seed 36 = .ok (.iconst 1, 1) := by decide +kernel
theorem d_CR_seed_37 : decode b_CR_seed 37 = .ok (.iadd, 1) := by decide +kernel
theorem d_CR_seed_38 : decode b_CR_seed 38 = .ok (.putfield 104, 3) := by decide +kernel
theorem d_CR_seed_41 : decode b_CR_seed 41 = .ok (.aload_n 0, 1) := by decide +kernel
theorem d_CR_seed_42 : decode b_CR_seed 42 = .ok (.getfield 104, 3) := by decide +kernel
theorem d_CR_seed_45 : decode b_CR_seed 45 = .ok (.ireturn, 1) := by decide +kernel
theorem d_CR_begin_0 : decode b_CR_begin 0 = .ok (.aload_n 0, 1) := by decide +kernel
theorem d_CR_begin_1 : decode b_CR_begin 1 = .ok (.getfield 43, 3) := by decide +kernel
theorem d_CR_begin_4 : decode b_CR_begin 4 = .ok (.ifCond .eq 5, 3) := by decide +kernel
theorem d_CR_begin_7 : decode b_CR_begin 7 = .ok (.iconst (-1), 1) := by decide +kernel
theorem d_CR_begin_8 : decode b_CR_begin 8 = .ok (.ireturn, 1) := by decide +kernel
theorem d_CR_begin_9 : decode b_CR_begin 9 = .ok (.aload_n 0, 1) := by decide +kernel
theorem d_CR_begin_10 : decode b_CR_begin 10 = .ok (.getfield 12, 3) := by decide +kernel
theorem d_CR_begin_13 : decode b_CR_begin 13 = .ok (.getfield 47, 3) := by decide +kernel
theorem d_CR_begin_16 : decode b_CR_begin 16 = .ok (.ifCond .ne 6, 3) := by decide +kernel
theorem d_CR_begin_19 : decode b_CR_begin 19 = .ok (.bipush (-2), 2) := by decide +kernel
theorem d_CR_begin_21 : decode b_CR_begin 21 = .ok (.ireturn, 1) := by decide +kernel
theorem d_CR_begin_22 : decode b_CR_begin 22 = .ok (.aload_n 0, 1) := by decide +kernel
theorem d_CR_begin_23 : decode b_CR_begin 23 = .ok (.getfield 12, 3) := by decide +kernel
theorem d_CR_begin_26 : decode b_CR_begin 26 = .ok (.getfield 107, 3) := by decide +kernel
theorem d_CR_begin_29 : decode b_CR_begin 29 = .ok (.invokevirtual 111, 3) := by decide +kernel
theorem d_CR_begin_32 : decode b_CR_begin 32 = .ok (.ifCond .eq 6, 3) := by decide +kernel
theorem d_CR_begin_35 : decode b_CR_begin 35 = .ok (.bipush (-3), 2) := by decide +kernel
theorem d_CR_begin_37 : decode b_CR_begin 37 = .ok (.ireturn, 1) := by decide +kernel
theorem d_CR_begin_38 : decode b_CR_begin 38 = .ok (.aload_n 0, 1) := by decide +kernel
theorem d_CR_begin_39 : decode b_CR_begin 39 = .ok (.iconst 1, 1) := by decide +kernel
theorem d_CR_begin_40 : decode b_CR_begin 40 = .ok (.putfield 43, 3) := by decide +kernel
theorem d_CR_begin_43 : decode b_CR_begin 43 = .ok (.aload_n 0, 1) := by decide +kernel
theorem d_CR_begin_44 : decode b_CR_begin 44 = .ok (.getfield 39, 3) := by decide +kernel
theorem d_CR_begin_47 : decode b_CR_begin 47 = .ok (.invokevirtual 116, 3) := by decide +kernel
theorem d_CR_begin_50 : decode b_CR_begin 50 = .ok (.istore_n 1, 1) := by decide +kernel
theorem d_CR_begin_51 : decode b_CR_begin 51 = .ok (.aload_n 0, 1) := by decide +kernel
theorem d_CR_begin_52 : decode b_CR_begin 52 = .ok (.getfield 39, 3) := by decide +kernel
theorem d_CR_begin_55 : decode b_CR_begin 55 = .ok (.iload_n 1, 1) := by decide +kernel
theorem d_CR_begin_56 : decode b_CR_begin 56 = .ok (.invokevirtual 120, 3) := by decide +kernel
theorem d_CR_begin_59 : decode b_CR_begin 59 = .ok (.aload_n 0, 1) := by decide +kernel
theorem d_CR_begin_60 : decode b_CR_begin 60 = .ok (.invokevirtual 123, 3) := by decide +kernel
theorem d_CR_begin_63 : decode b_CR_begin 63 = .ok (.iload_n 1, 1) := by decide +kernel
theorem d_CR_begin_64 : decode b_CR_begin 64 = .ok (.ireturn, 1) := by decide +kernel
theorem d_NS_isEmpty_0 : decode b_NS_isEmpty 0 = .ok (.aload_n 0, 1) := by decide +kernel
theorem d_NS_isEmpty_1 : decode b_NS_isEmpty 1 = .ok (.iconst 0, 1) := by decide +kernel
theorem d_NS_isEmpty_2 : decode b_NS_isEmpty 2 = .ok (.iconst 0, 1) := by decide +kernel
theorem d_NS_isEmpty_3 : decode b_NS_isEmpty 3 = .ok (.invokevirtual 15, 3) := by decide +kernel
theorem d_NS_isEmpty_6 : decode b_NS_isEmpty 6 = .ok (.ifCond .ne 7, 3) := by decide +kernel
theorem d_NS_isEmpty_9 : decode b_NS_isEmpty 9 = .ok (.iconst 1, 1) := by decide +kernel
theorem d_NS_isEmpty_10 : decode b_NS_isEmpty 10 = .ok (.goto 4, 3) := by decide +kernel
theorem d_NS_isEmpty_13 : decode b_NS_isEmpty 13 = .ok (.iconst 0, 1) := by decide +kernel
theorem d_NS_isEmpty_14 : decode b_NS_isEmpty 14 = .ok (.ireturn, 1) := by decide +kernel
theorem d_NS_hasRowWith_0 : decode b_NS_hasRowWith 0 = .ok (.iload_n 1, 1) := by decide +kernel
theorem d_NS_hasRowWith_1 : decode b_NS_hasRowWith 1 = .ok (.iload_n 2, 1) := by decide +kernel
theorem d_NS_hasRowWith_2 : decode b_NS_hasRowWith 2 = .ok (.invokestatic 19, 3) := by decide +kernel
theorem d_NS_hasRowWith_5 : decode b_NS_hasRowWith 5 = .ok (.lstore_n 3, 1) := by decide +kernel
theorem d_NS_hasRowWith_6 : decode b_NS_hasRowWith 6 = .ok (.iload_n 2, 1) := by decide +kernel
theorem d_NS_hasRowWith_7 : decode b_NS_hasRowWith 7 = .ok (.bipush 6, 2) := by decide +kernel
theorem d_NS_hasRowWith_9 : decode b_NS_hasRowWith 9 = .ok (.ishr, 1) := by decide +kernel
theorem d_NS_hasRowWith_10 : decode b_NS_hasRowWith 10 = .ok (.bipush 63, 2) := by decide +kernel
theorem d_NS_hasRowWith_12 : decode b_NS_hasRowWith 12 = .ok (.iand, 1) := by decide +kernel
theorem d_NS_hasRowWith_13 : decode b_NS_hasRowWith 13 = .ok (.istore 5, 2) := by decide +kernel
theorem d_NS_hasRowWith_15 : decode b_NS_hasRowWith 15 = .ok (.iload_n 1, 1) := by decide +kernel
theorem d_NS_hasRowWith_16 : decode b_NS_hasRowWith 16 = .ok (.bipush 6, 2) := by decide +kernel
theorem d_NS_hasRowWith_18 : decode b_NS_hasRowWith 18 = .ok (.ishr, 1) := by decide +kernel
theorem d_NS_hasRowWith_19 : decode b_NS_hasRowWith 19 = .ok (.iconst (-1), 1) := by decide +kernel
theorem d_NS_hasRowWith_20 : decode b_NS_hasRowWith 20 = .ok (.ixor, 1) := by decide +kernel
theorem d_NS_hasRowWith_21 : decode b_NS_hasRowWith 21 = .ok (.bipush 63, 2) := by decide +kernel
theorem d_NS_hasRowWith_23 : decode b_NS_hasRowWith 23 = .ok (.iand, 1) := by decide +kernel
theorem d_NS_hasRowWith_24 : decode b_NS_hasRowWith 24 = .ok (.istore 6, 2) := by decide +kernel
theorem d_NS_hasRowWith_26 : decode b_NS_hasRowWith 26 = .ok (.iconst 1, 1) := by decide +kernel
theorem d_NS_hasRowWith_27 : decode b_NS_hasRowWith 27 = .ok (.iload 6, 2) := by decide +kernel
theorem d_NS_hasRowWith_29 : decode b_NS_hasRowWith 29 = .ok (.invokestatic 23, 3) := by decide +kernel
theorem d_NS_hasRowWith_32 : decode b_NS_hasRowWith 32 = .ok (.ishl, 1) := by decide +kernel
theorem d_NS_hasRowWith_33 : decode b_NS_hasRowWith 33 = .ok (.istore 7, 2) := by decide +kernel
theorem d_NS_hasRowWith_35 : decode b_NS_hasRowWith 35 = .ok (.iconst 0, 1) := by decide +kernel
theorem d_NS_hasRowWith_36 : decode b_NS_hasRowWith 36 = .ok (.istore 8, 2) := by decide +kernel
theorem d_NS_hasRowWith_38 : decode b_NS_hasRowWith 38 = .ok (.iconst 0, 1) := by decide +kernel
theorem d_NS_hasRowWith_39 : decode b_NS_hasRowWith 39 = .ok (.istore 9, 2) := by decide +kernel
theorem d_NS_hasRowWith_41 : decode b_NS_hasRowWith 41 = .ok (.iload 9, 2) := by decide +kernel
theorem d_NS_hasRowWith_43 : decode b_NS_hasRowWith 43 = .ok (.iload 7, 2) := by decide +kernel
theorem d_NS_hasRowWith_45 : decode b_NS_hasRowWith 45 = .ok (.if_icmp .ge 37, 3) := by decide +kernel
theorem d_NS_hasRowWith_48 : decode b_NS_hasRowWith 48 = .ok (.aload_n 0, 1) := by decide +kernel
theorem d_NS_hasRowWith_49 : decode b_NS_hasRowWith 49 = .ok (.getfield 9, 3) := by decide +kernel
theorem d_NS_hasRowWith_52 : decode b_NS_hasRowWith 52 = .ok (.iload 5, 2) := by decide +kernel
theorem d_NS_hasRowWith_54 : decode b_NS_hasRowWith 54 = .ok (.iload 8, 2) := by decide +kernel
theorem d_NS_hasRowWith_56 : decode b_NS_hasRowWith 56 = .ok (.ior, 1) := by decide +kernel
theorem d_NS_hasRowWith_57 : decode b_NS_hasRowWith 57 = .ok (.laload, 1) := by decide +kernel
theorem d_NS_hasRowWith_58 : decode b_NS_hasRowWith 58 = .ok (.lload_n 3, 1) := by decide +kernel
theorem d_NS_hasRowWith_59 : decode b_NS_hasRowWith 59 = .ok (.land, 1) := by decide +kernel
theorem d_NS_hasRowWith_60 : decode b_NS_hasRowWith 60 = .ok (.lconst 0, 1) := by decide +kernel
theorem d_NS_hasRowWith_61 : decode b_NS_hasRowWith 61 = .ok (.lcmp, 1) := by decide +kernel
theorem d_NS_hasRowWith_62 : decode b_NS_hasRowWith 62 = .ok (.ifCond .eq 5, 3) := by decide +kernel
theorem d_NS_hasRowWith_65 : decode b_NS_hasRowWith 65 = .ok (.iconst 1, 1) := by decide +kernel
theorem d_NS_hasRowWith_66 : decode b_NS_hasRowWith 66 = .ok (.ireturn, 1) := by decide +kernel
theorem d_NS_hasRowWith_67 : decode b_NS_hasRowWith 67 = .ok (.iload 6, 2) := by decide +kernel
theorem d_NS_hasRowWith_69 : decode b_NS_hasRowWith 69 = .ok (.iload 8, 2) := by decide +kernel
theorem d_NS_hasRowWith_71 : decode b_NS_hasRowWith 71 = .ok (.invokestatic 29, 3) := by decide +kernel
theorem d_NS_hasRowWith_74 : decode b_NS_hasRowWith 74 = .ok (.istore 8, 2) := by decide +kernel
theorem d_NS_hasRowWith_76 : decode b_NS_hasRowWith 76 = .ok (.iinc 9 1, 3) := by decide +kernel
theorem d_NS_hasRowWith_79 : decode b_NS_hasRowWith 79 = .ok (.goto (-38), 3) := by decide +kernel
theorem d_NS_hasRowWith_82 : decode b_NS_hasRowWith 82 = .ok (.iconst 0, 1) := by decide +kernel
theorem d_NS_hasRowWith_83 : decode b_NS_hasRowWith 83 = .ok (.ireturn, 1) := by decide +kernel
theorem d_NS_inWordWith_0 : decode b_NS_inWordWith 0 = .ok (.ldc2_w 33, 3) := by decide +kernel
theorem d_NS_inWordWith_3 : decode b_NS_inWordWith 3 = .ok (.lstore_n 2, 1) := by decide +kernel
theorem d_NS_inWordWith_4 : decode b_NS_inWordWith 4 = .ok (.iconst 0, 1) := by decide +kernel
theorem d_NS_inWordWith_5 : decode b_NS_inWordWith 5 = .ok (.istore 4, 2) := by decide +kernel
theorem d_NS_inWordWith_7 : decode b_NS_inWordWith 7 = .ok (.iload 4, 2) := by decide +kernel
theorem d_NS_inWordWith_9 : decode b_NS_inWordWith 9 = .ok (.iconst 3, 1) := by decide +kernel
theorem d_NS_inWordWith_10 : decode b_NS_inWordWith 10 = .ok (.if_icmp .ge 39, 3) := by decide +kernel
theorem d_NS_inWordWith_13 : decode b_NS_inWordWith 13 = .ok (.iload 4, 2) := by decide +kernel
theorem d_NS_inWordWith_15 : decode b_NS_inWordWith 15 = .ok (.iload_n 0, 1) := by decide +kernel
theorem d_NS_inWordWith_16 : decode b_NS_inWordWith 16 = .ok (.invokestatic 35, 3) := by decide +kernel
theorem d_NS_inWordWith_19 : decode b_NS_inWordWith 19 = .ok (.ifCond .eq 24, 3) := by decide +kernel
theorem d_NS_inWordWith_22 : decode b_NS_inWordWith 22 = .ok (.lload_n 2, 1) := by decide +kernel
theorem d_NS_inWordWith_23 : decode b_NS_inWordWith 23 = .ok (.getstatic 38, 3) := by decide +kernel
theorem d_NS_inWordWith_26 : decode b_NS_inWordWith 26 = .ok (.iload 4, 2) := by decide +kernel
theorem d_NS_inWordWith_28 : decode b_NS_inWordWith 28 = .ok (.laload, 1) := by decide +kernel
theorem d_NS_inWordWith_29 : decode b_NS_inWordWith 29 = .ok (.iload 4, 2) := by decide +kernel
theorem d_NS_inWordWith_31 : decode b_NS_inWordWith 31 = .ok (.iload_n 1, 1) := by decide +kernel
theorem d_NS_inWordWith_32 : decode b_NS_inWordWith 32 = .ok (.invokestatic 35, 3) := by decide +kernel
theorem d_NS_inWordWith_35 : decode b_NS_inWordWith 35 = .ok (.iconst 2, 1) := by decide +kernel
theorem d_NS_inWordWith_36 : decode b_NS_inWordWith 36 = .ok (.iload 4, 2) := by decide +kernel
theorem d_NS_inWordWith_38 : decode b_NS_inWordWith 38 = .ok (.imul, 1) := by decide +kernel
theorem d_NS_inWordWith_39 : decode b_NS_inWordWith 39 = .ok (.ishl, 1) := by decide +kernel
theorem d_NS_inWordWith_40 : decode b_NS_inWordWith 40 = .ok (.lshl, 1) := by decide +kernel
theorem d_NS_inWordWith_41 : decode b_NS_inWordWith 41 = .ok (.land, 1) := by decide +kernel
theorem d_NS_inWordWith_42 : decode b_NS_inWordWith 42 = .ok (.lstore_n 2, 1) := by decide +kernel
theorem d_NS_inWordWith_43 : decode b_NS_inWordWith 43 = .ok (.iinc 4 1, 3) := by decide +kernel
theorem d_NS_inWordWith_46 : decode b_NS_inWordWith 46 = .ok (.goto (-39), 3) := by decide +kernel
theorem d_NS_inWordWith_49 : decode b_NS_inWordWith 49 = .ok (.lload_n 2, 1) := by decide +kernel
theorem d_NS_inWordWith_50 : decode b_NS_inWordWith 50 = .ok (.lreturn, 1) := by decide +kernel
theorem d_CR_nextWithin_0 : decode b_CR_nextWithin 0 = .ok (.iload_n 1, 1) := by decide +kernel
theorem d_CR_nextWithin_1 : decode b_CR_nextWithin 1 = .ok (.iload_n 0, 1) := by decide +kernel
theorem d_CR_nextWithin_2 : decode b_CR_nextWithin 2 = .ok (.isub, 1) := by decide +kernel
theorem d_CR_nextWithin_3 : decode b_CR_nextWithin 3 = .ok (.iload_n 0, 1) := by decide +kernel
theorem d_CR_nextWithin_4 : decode b_CR_nextWithin 4 = .ok (.iand, 1) := by decide +kernel
theorem d_CR_nextWithin_5 : decode b_CR_nextWithin 5 = .ok (.ireturn, 1) := by decide +kernel
theorem d_Ge_countGoals_0 : decode b_Ge_countGoals 0 = .ok (.aload_n 0, 1) := by decide +kernel
theorem d_Ge_countGoals_1 : decode b_Ge_countGoals 1 = .ok (.getfield 29, 3) := by decide +kernel
theorem d_Ge_countGoals_4 : decode b_Ge_countGoals 4 = .ok (.iconst 0, 1) := by decide +kernel
theorem d_Ge_countGoals_5 : decode b_Ge_countGoals 5 = .ok (.invokevirtual 62, 3) := by decide +kernel
theorem d_Ge_countGoals_8 : decode b_Ge_countGoals 8 = .ok (.lstore_n 1, 1) := by decide +kernel
theorem d_Ge_countGoals_9 : decode b_Ge_countGoals 9 = .ok (.iconst 0, 1) := by decide +kernel
theorem d_Ge_countGoals_10 : decode b_Ge_countGoals 10 = .ok (.istore_n 3, 1) := by decide +kernel
theorem d_Ge_countGoals_11 : decode b_Ge_countGoals 11 = .ok (.iconst 1, 1) := by decide +kernel
theorem d_Ge_countGoals_12 : decode b_Ge_countGoals 12 = .ok (.istore 4, 2) := by decide +kernel
theorem d_Ge_countGoals_14 : decode b_Ge_countGoals 14 = .ok (.iload 4, 2) := by decide +kernel
theorem d_Ge_countGoals_16 : decode b_Ge_countGoals 16 = .ok (.bipush 64, 2) := by decide +kernel
theorem d_Ge_countGoals_18 : decode b_Ge_countGoals 18 = .ok (.if_icmp .ge 32, 3) := by decide +kernel
theorem d_Ge_countGoals_21 : decode b_Ge_countGoals 21 = .ok (.lload_n 1, 1) := by decide +kernel
theorem d_Ge_countGoals_22 : decode b_Ge_countGoals 22 = .ok (.iload 4, 2) := by decide +kernel
theorem d_Ge_countGoals_24 : decode b_Ge_countGoals 24 = .ok (.lushr, 1) := by decide +kernel
theorem d_Ge_countGoals_25 : decode b_Ge_countGoals 25 = .ok (.lconst 1, 1) := by decide +kernel
theorem d_Ge_countGoals_26 : decode b_Ge_countGoals 26 = .ok (.land, 1) := by decide +kernel
theorem d_Ge_countGoals_27 : decode b_Ge_countGoals 27 = .ok (.lconst 0, 1) := by decide +kernel
theorem d_Ge_countGoals_28 : decode b_Ge_countGoals 28 = .ok (.lcmp, 1) := by decide +kernel
theorem d_Ge_countGoals_29 : decode b_Ge_countGoals 29 = .ok (.ifCond .eq 15, 3) := by decide +kernel
theorem d_Ge_countGoals_32 : decode b_Ge_countGoals 32 = .ok (.iload_n 3, 1) := by decide +kernel
theorem d_Ge_countGoals_33 : decode b_Ge_countGoals 33 = .ok (.aload_n 0, 1) := by decide +kernel
theorem d_Ge_countGoals_34 : decode b_Ge_countGoals 34 = .ok (.iload 4, 2) := by decide +kernel
theorem d_Ge_countGoals_36 : decode b_Ge_countGoals 36 = .ok (.invokestatic 67, 3) := by decide +kernel
theorem d_Ge_countGoals_39 : decode b_Ge_countGoals 39 = .ok (.invokevirtual 71, 3) := by decide +kernel
theorem d_Ge_countGoals_42 : decode b_Ge_countGoals 42 = .ok (.iadd, 1) := by decide +kernel
theorem d_Ge_countGoals_43 : decode b_Ge_countGoals 43 = .ok (.istore_n 3, 1) := by decide +kernel
theorem d_Ge_countGoals_44 : decode b_Ge_countGoals 44 = .ok (.iinc 4 1, 3) := by decide +kernel
theorem d_Ge_countGoals_47 : decode b_Ge_countGoals 47 = .ok (.goto (-33), 3) := by decide +kernel
theorem d_Ge_countGoals_50 : decode b_Ge_countGoals 50 = .ok (.iload_n 3, 1) := by decide +kernel
theorem d_Ge_countGoals_51 : decode b_Ge_countGoals 51 = .ok (.ireturn, 1) := by decide +kernel
theorem d_Re_askedWith_0 : decode b_Re_askedWith 0 = .ok (.aload_n 0, 1) := by decide +kernel
theorem d_Re_askedWith_1 : decode b_Re_askedWith 1 = .ok (.getfield 15, 3) := by decide +kernel
theorem d_Re_askedWith_4 : decode b_Re_askedWith 4 = .ok (.lstore_n 2, 1) := by decide +kernel
theorem d_Re_askedWith_5 : decode b_Re_askedWith 5 = .ok (.iconst 0, 1) := by decide +kernel
theorem d_Re_askedWith_6 : decode b_Re_askedWith 6 = .ok (.istore 4, 2) := by decide +kernel
theorem d_Re_askedWith_8 : decode b_Re_askedWith 8 = .ok (.iload 4, 2) := by decide +kernel
theorem d_Re_askedWith_10 : decode b_Re_askedWith 10 = .ok (.bipush 6, 2) := by decide +kernel
theorem d_Re_askedWith_12 : decode b_Re_askedWith 12 = .ok (.if_icmp .ge 27, 3) := by decide +kernel
theorem d_Re_askedWith_15 : decode b_Re_askedWith 15 = .ok (.iload_n 1, 1) := by decide +kernel
theorem d_Re_askedWith_16 : decode b_Re_askedWith 16 = .ok (.iload 4, 2) := by decide +kernel
theorem d_Re_askedWith_18 : decode b_Re_askedWith 18 = .ok (.ishr, 1) := by decide +kernel
theorem d_Re_askedWith_19 : decode b_Re_askedWith 19 = .ok (.iconst 1, 1) := by decide +kernel
theorem d_Re_askedWith_20 : decode b_Re_askedWith 20 = .ok (.iand, 1) := by decide +kernel
theorem d_Re_askedWith_21 : decode b_Re_askedWith 21 = .ok (.ifCond .eq 12, 3) := by decide +kernel
theorem d_Re_askedWith_24 : decode b_Re_askedWith 24 = .ok (.lload_n 2, 1) := by decide +kernel
theorem d_Re_askedWith_25 : decode b_Re_askedWith 25 = .ok (.getstatic 25, 3) := by decide +kernel
theorem d_Re_askedWith_28 : decode b_Re_askedWith 28 = .ok (.iload 4, 2) := by decide +kernel
theorem d_Re_askedWith_30 : decode b_Re_askedWith 30 = .ok (.laload, 1) := by decide +kernel
theorem d_Re_askedWith_31 : decode b_Re_askedWith 31 = .ok (.land, 1) := by decide +kernel
theorem d_Re_askedWith_32 : decode b_Re_askedWith 32 = .ok (.lstore_n 2, 1) := by decide +kernel
theorem d_Re_askedWith_33 : decode b_Re_askedWith 33 = .ok (.iinc 4 1, 3) := by decide +kernel
theorem d_Re_askedWith_36 : decode b_Re_askedWith 36 = .ok (.goto (-28), 3) := by decide +kernel
theorem d_Re_askedWith_39 : decode b_Re_askedWith 39 = .ok (.lload_n 2, 1) := by decide +kernel
theorem d_Re_askedWith_40 : decode b_Re_askedWith 40 = .ok (.lreturn, 1) := by decide +kernel
theorem d_CR_fieldsOf_0 : decode b_CR_fieldsOf 0 = .ok (.iconst 0, 1) := by decide +kernel
theorem d_CR_fieldsOf_1 : decode b_CR_fieldsOf 1 = .ok (.istore_n 1, 1) := by decide +kernel
theorem d_CR_fieldsOf_2 : decode b_CR_fieldsOf 2 = .ok (.iconst 0, 1) := by decide +kernel
theorem d_CR_fieldsOf_3 : decode b_CR_fieldsOf 3 = .ok (.istore_n 2, 1) := by decide +kernel
theorem d_CR_fieldsOf_4 : decode b_CR_fieldsOf 4 = .ok (.iload_n 2, 1) := by decide +kernel
theorem d_CR_fieldsOf_5 : decode b_CR_fieldsOf 5 = .ok (.bipush 6, 2) := by decide +kernel
theorem d_CR_fieldsOf_7 : decode b_CR_fieldsOf 7 = .ok (.if_icmp .ge 25, 3) := by decide +kernel
theorem d_CR_fieldsOf_10 : decode b_CR_fieldsOf 10 = .ok (.iload_n 0, 1) := by decide +kernel
theorem d_CR_fieldsOf_11 : decode b_CR_fieldsOf 11 = .ok (.iload_n 2, 1) := by decide +kernel
theorem d_CR_fieldsOf_12 : decode b_CR_fieldsOf 12 = .ok (.ishr, 1) := by decide +kernel
theorem d_CR_fieldsOf_13 : decode b_CR_fieldsOf 13 = .ok (.iconst 1, 1) := by decide +kernel
theorem d_CR_fieldsOf_14 : decode b_CR_fieldsOf 14 = .ok (.iand, 1) := by decide +kernel
theorem d_CR_fieldsOf_15 : decode b_CR_fieldsOf 15 = .ok (.ifCond .eq 11, 3) := by decide +kernel
theorem d_CR_fieldsOf_18 : decode b_CR_fieldsOf 18 = .ok (.iload_n 1, 1) := by decide +kernel
theorem d_CR_fieldsOf_19 : decode b_CR_fieldsOf 19 = .ok (.iconst 3, 1) := by decide +kernel
theorem d_CR_fieldsOf_20 : decode b_CR_fieldsOf 20 = .ok (.iconst 2, 1) := by decide +kernel
theorem d_CR_fieldsOf_21 : decode b_CR_fieldsOf 21 = .ok (.iload_n 2, 1) := by decide +kernel
theorem d_CR_fieldsOf_22 : decode b_CR_fieldsOf 22 = .ok (.imul, 1) := by decide +kernel
theorem d_CR_fieldsOf_23 : decode b_CR_fieldsOf 23 = .ok (.ishl, 1) := by decide +kernel
theorem d_CR_fieldsOf_24 : decode b_CR_fieldsOf 24 = .ok (.ior, 1) := by decide +kernel
theorem d_CR_fieldsOf_25 : decode b_CR_fieldsOf 25 = .ok (.istore_n 1, 1) := by decide +kernel
theorem d_CR_fieldsOf_26 : decode b_CR_fieldsOf 26 = .ok (.iinc 2 1, 3) := by decide +kernel
theorem d_CR_fieldsOf_29 : decode b_CR_fieldsOf 29 = .ok (.goto (-25), 3) := by decide +kernel
theorem d_CR_fieldsOf_32 : decode b_CR_fieldsOf 32 = .ok (.iload_n 1, 1) := by decide +kernel
theorem d_CR_fieldsOf_33 : decode b_CR_fieldsOf 33 = .ok (.ireturn, 1) := by decide +kernel
theorem d_Ge_countGoalsOf_0 : decode b_Ge_countGoalsOf 0 = .ok (.iconst 0, 1) := by decide +kernel
theorem d_Ge_countGoalsOf_1 : decode b_Ge_countGoalsOf 1 = .ok (.istore_n 2, 1) := by decide +kernel
theorem d_Ge_countGoalsOf_2 : decode b_Ge_countGoalsOf 2 = .ok (.iconst 1, 1) := by decide +kernel
theorem d_Ge_countGoalsOf_3 : decode b_Ge_countGoalsOf 3 = .ok (.iload_n 1, 1) := by decide +kernel
theorem d_Ge_countGoalsOf_4 : decode b_Ge_countGoalsOf 4 = .ok (.invokestatic 74, 3) := by decide +kernel
theorem d_Ge_countGoalsOf_7 : decode b_Ge_countGoalsOf 7 = .ok (.ishl, 1) := by decide +kernel
theorem d_Ge_countGoalsOf_8 : decode b_Ge_countGoalsOf 8 = .ok (.istore_n 3, 1) := by decide +kernel
theorem d_Ge_countGoalsOf_9 : decode b_Ge_countGoalsOf 9 = .ok (.iconst 0, 1) := by decide +kernel
theorem d_Ge_countGoalsOf_10 : decode b_Ge_countGoalsOf 10 = .ok (.istore 4, 2) := by decide +kernel
theorem d_Ge_countGoalsOf_12 : decode b_Ge_countGoalsOf 12 = .ok (.iconst 0, 1) := by decide +kernel
theorem d_Ge_countGoalsOf_13 : decode b_Ge_countGoalsOf 13 = .ok (.istore 5, 2) := by decide +kernel
theorem d_Ge_countGoalsOf_15 : decode b_Ge_countGoalsOf 15 = .ok (.iload 5, 2) := by decide +kernel
theorem d_Ge_countGoalsOf_17 : decode b_Ge_countGoalsOf 17 = .ok (.iload_n 3, 1) := by decide +kernel
theorem d_Ge_countGoalsOf_18 : decode b_Ge_countGoalsOf 18 = .ok (.if_icmp .ge 30, 3) := by decide +kernel
theorem d_Ge_countGoalsOf_21 : decode b_Ge_countGoalsOf 21 = .ok (.aload_n 0, 1) := by decide +kernel
theorem d_Ge_countGoalsOf_22 : decode b_Ge_countGoalsOf 22 = .ok (.iload_n 1, 1) := by decide +kernel
theorem d_Ge_countGoalsOf_23 : decode b_Ge_countGoalsOf 23 = .ok (.iload 4, 2) := by decide +kernel
theorem d_Ge_countGoalsOf_25 : decode b_Ge_countGoalsOf 25 = .ok (.invokevirtual 78, 3) := by decide +kernel
theorem d_Ge_countGoalsOf_28 : decode b_Ge_countGoalsOf 28 = .ok (.ifCond .eq 6, 3) := by decide +kernel
theorem d_Ge_countGoalsOf_31 : decode b_Ge_countGoalsOf 31 = .ok (.iinc 2 1, 3) := by decide +kernel
theorem d_Ge_countGoalsOf_34 : decode b_Ge_countGoalsOf 34 = .ok (.iload_n 1, 1) := by decide +kernel
theorem d_Ge_countGoalsOf_35 : decode b_Ge_countGoalsOf 35 = .ok (.iload 4, 2) := by decide +kernel
theorem d_Ge_countGoalsOf_37 : decode b_Ge_countGoalsOf 37 = .ok (.invokestatic 82, 3) := by decide +kernel
theorem d_Ge_countGoalsOf_40 : decode b_Ge_countGoalsOf 40 = .ok (.istore 4, 2) := by decide +kernel
theorem d_Ge_countGoalsOf_42 : decode b_Ge_countGoalsOf 42 = .ok (.iinc 5 1, 3) := by decide +kernel
theorem d_Ge_countGoalsOf_45 : decode b_Ge_countGoalsOf 45 = .ok (.goto (-30), 3) := by decide +kernel
theorem d_Ge_countGoalsOf_48 : decode b_Ge_countGoalsOf 48 = .ok (.iload_n 2, 1) := by decide +kernel
theorem d_Ge_countGoalsOf_49 : decode b_Ge_countGoalsOf 49 = .ok (.ireturn, 1) := by decide +kernel
theorem d_Ge_isGoal_0 : decode b_Ge_isGoal 0 = .ok (.aload_n 0, 1) := by decide +kernel
theorem d_Ge_isGoal_1 : decode b_Ge_isGoal 1 = .ok (.getfield 25, 3) := by decide +kernel
theorem d_Ge_isGoal_4 : decode b_Ge_isGoal 4 = .ok (.iload_n 1, 1) := by decide +kernel
theorem d_Ge_isGoal_5 : decode b_Ge_isGoal 5 = .ok (.iload_n 2, 1) := by decide +kernel
theorem d_Ge_isGoal_6 : decode b_Ge_isGoal 6 = .ok (.invokevirtual 86, 3) := by decide +kernel
theorem d_Ge_isGoal_9 : decode b_Ge_isGoal 9 = .ok (.istore_n 3, 1) := by decide +kernel
theorem d_Ge_isGoal_10 : decode b_Ge_isGoal 10 = .ok (.iload_n 3, 1) := by decide +kernel
theorem d_Ge_isGoal_11 : decode b_Ge_isGoal 11 = .ok (.ifCond .ne 16, 3) := by decide +kernel
theorem d_Ge_isGoal_14 : decode b_Ge_isGoal 14 = .ok (.aload_n 0, 1) := by decide +kernel
theorem d_Ge_isGoal_15 : decode b_Ge_isGoal 15 = .ok (.getfield 25, 3) := by decide +kernel
theorem d_Ge_isGoal_18 : decode b_Ge_isGoal 18 = .ok (.getfield 89, 3) := by decide +kernel
theorem d_Ge_isGoal_21 : decode b_Ge_isGoal 21 = .ok (.iload_n 1, 1) := by decide +kernel
theorem d_Ge_isGoal_22 : decode b_Ge_isGoal 22 = .ok (.iload_n 2, 1) := by decide +kernel
theorem d_Ge_isGoal_23 : decode b_Ge_isGoal 23 = .ok (.invokevirtual 93, 3) := by decide +kernel
theorem d_Ge_isGoal_26 : decode b_Ge_isGoal 26 = .ok (.ireturn, 1) := by decide +kernel
theorem d_Ge_isGoal_27 : decode b_Ge_isGoal 27 = .ok (.iload_n 3, 1) := by decide +kernel
theorem d_Ge_isGoal_28 : decode b_Ge_isGoal 28 = .ok (.invokestatic 74, 3) := by decide +kernel
theorem d_Ge_isGoal_31 : decode b_Ge_isGoal 31 = .ok (.iconst 1, 1) := by decide +kernel
theorem d_Ge_isGoal_32 : decode b_Ge_isGoal 32 = .ok (.if_icmp .ne 22, 3) := by decide +kernel
theorem d_Ge_isGoal_35 : decode b_Ge_isGoal 35 = .ok (.aload_n 0, 1) := by decide +kernel
theorem d_Ge_isGoal_36 : decode b_Ge_isGoal 36 = .ok (.getfield 25, 3) := by decide +kernel
theorem d_Ge_isGoal_39 : decode b_Ge_isGoal 39 = .ok (.getfield 98, 3) := by decide +kernel
theorem d_Ge_isGoal_42 : decode b_Ge_isGoal 42 = .ok (.iload_n 1, 1) := by decide +kernel
theorem d_Ge_isGoal_43 : decode b_Ge_isGoal 43 = .ok (.iload_n 2, 1) := by decide +kernel
theorem d_Ge_isGoal_44 : decode b_Ge_isGoal 44 = .ok (.invokevirtual 93, 3) := by decide +kernel
theorem d_Ge_isGoal_47 : decode b_Ge_isGoal 47 = .ok (.ifCond .eq 7, 3) := by decide +kernel
theorem d_Ge_isGoal_50 : decode b_Ge_isGoal 50 = .ok (.iconst 1, 1) := by decide +kernel
theorem d_Ge_isGoal_51 : decode b_Ge_isGoal 51 = .ok (.goto 4, 3) := by decide +kernel
theorem d_Ge_isGoal_54 : decode b_Ge_isGoal 54 = .ok (.iconst 0, 1) := by decide +kernel
theorem d_Ge_isGoal_55 : decode b_Ge_isGoal 55 = .ok (.ireturn, 1) := by decide +kernel
theorem d_Sp_invalidIn_0 : decode b_Sp_invalidIn 0 = .ok (.iconst 0, 1) := by decide +kernel
theorem d_Sp_invalidIn_1 : decode b_Sp_invalidIn 1 = .ok (.istore_n 3, 1) := by decide +kernel
theorem d_Sp_invalidIn_2 : decode b_Sp_invalidIn 2 = .ok (.iconst 0, 1) := by decide +kernel
theorem d_Sp_invalidIn_3 : decode b_Sp_invalidIn 3 = .ok (.istore 4, 2) := by decide +kernel
theorem d_Sp_invalidIn_5 : decode b_Sp_invalidIn 5 = .ok (.iload 4, 2) := by decide +kernel
theorem d_Sp_invalidIn_7 : decode b_Sp_invalidIn 7 = .ok (.bipush 6, 2) := by decide +kernel
theorem d_Sp_invalidIn_9 : decode b_Sp_invalidIn 9 = .ok (.if_icmp .ge 40, 3) := by decide +kernel
theorem d_Sp_invalidIn_12 : decode b_Sp_invalidIn 12 = .ok (.iload 4, 2) := by decide +kernel
theorem d_Sp_invalidIn_14 : decode b_Sp_invalidIn 14 = .ok (.iload_n 1, 1) := by decide +kernel
theorem d_Sp_invalidIn_15 : decode b_Sp_invalidIn 15 = .ok (.invokestatic 76, 3) := by decide +kernel
theorem d_Sp_invalidIn_18 : decode b_Sp_invalidIn 18 = .ok (.ifCond .eq 25, 3) := by decide +kernel
theorem d_Sp_invalidIn_21 : decode b_Sp_invalidIn 21 = .ok (.aload_n 0, 1) := by decide +kernel
theorem d_Sp_invalidIn_22 : decode b_Sp_invalidIn 22 = .ok (.iload 4, 2) := by decide +kernel
theorem d_Sp_invalidIn_24 : decode b_Sp_invalidIn 24 = .ok (.iload 4, 2) := by decide +kernel
theorem d_Sp_invalidIn_26 : decode b_Sp_invalidIn 26 = .ok (.iload_n 2, 1) := by decide +kernel
theorem d_Sp_invalidIn_27 : decode b_Sp_invalidIn 27 = .ok (.invokestatic 76, 3) := by decide +kernel
theorem d_Sp_invalidIn_30 : decode b_Sp_invalidIn 30 = .ok (.invokevirtual 80, 3) := by decide +kernel
theorem d_Sp_invalidIn_33 : decode b_Sp_invalidIn 33 = .ok (.ifCond .eq 10, 3) := by decide +kernel
theorem d_Sp_invalidIn_36 : decode b_Sp_invalidIn 36 = .ok (.iload_n 3, 1) := by decide +kernel
theorem d_Sp_invalidIn_37 : decode b_Sp_invalidIn 37 = .ok (.iconst 1, 1) := by decide +kernel
theorem d_Sp_invalidIn_38 : decode b_Sp_invalidIn 38 = .ok (.iload 4, 2) := by decide +kernel
theorem d_Sp_invalidIn_40 : decode b_Sp_invalidIn 40 = .ok (.ishl, 1) := by decide +kernel
theorem d_Sp_invalidIn_41 : decode b_Sp_invalidIn 41 = .ok (.ior, 1) := by decide +kernel
theorem d_Sp_invalidIn_42 : decode b_Sp_invalidIn 42 = .ok (.istore_n 3, 1) := by decide +kernel
theorem d_Sp_invalidIn_43 : decode b_Sp_invalidIn 43 = .ok (.iinc 4 1, 3) := by decide +kernel
theorem d_Sp_invalidIn_46 : decode b_Sp_invalidIn 46 = .ok (.goto (-41), 3) := by decide +kernel
theorem d_Sp_invalidIn_49 : decode b_Sp_invalidIn 49 = .ok (.iload_n 3, 1) := by decide +kernel
theorem d_Sp_invalidIn_50 : decode b_Sp_invalidIn 50 = .ok (.ireturn, 1) := by decide +kernel
theorem d_Ge_start_0 : decode b_Ge_start 0 = .ok (.aload_n 0, 1) := by decide +kernel
theorem d_Ge_start_1 : decode b_Ge_start 1 = .ok (.getfield 9, 3) := by decide +kernel
theorem d_Ge_start_4 : decode b_Ge_start 4 = .ok (.lconst 0, 1) := by decide +kernel
theorem d_Ge_start_5 : decode b_Ge_start 5 = .ok (.invokestatic 33, 3) := by decide +kernel
theorem d_Ge_start_8 : decode b_Ge_start 8 = .ok (.aload_n 0, 1) := by decide +kernel
theorem d_Ge_start_9 : decode b_Ge_start 9 = .ok (.iconst 0, 1) := by decide +kernel
theorem d_Ge_start_10 : decode b_Ge_start 10 = .ok (.putfield 39, 3) := by decide +kernel
theorem d_Ge_start_13 : decode b_Ge_start 13 = .ok (.aload_n 0, 1) := by decide +kernel
theorem d_Ge_start_14 : decode b_Ge_start 14 = .ok (.iload_n 1, 1) := by decide +kernel
theorem d_Ge_start_15 : decode b_Ge_start 15 = .ok (.putfield 43, 3) := by decide +kernel
theorem d_Ge_start_18 : decode b_Ge_start 18 = .ok (.aload_n 0, 1) := by decide +kernel
theorem d_Ge_start_19 : decode b_Ge_start 19 = .ok (.getfield 25, 3) := by decide +kernel
theorem d_Ge_start_22 : decode b_Ge_start 22 = .ok (.invokevirtual 46, 3) := by decide +kernel
theorem d_Ge_start_25 : decode b_Ge_start 25 = .ok (.istore_n 2, 1) := by decide +kernel
theorem d_Ge_start_26 : decode b_Ge_start 26 = .ok (.iconst 0, 1) := by decide +kernel
theorem d_Ge_start_27 : decode b_Ge_start 27 = .ok (.istore_n 3, 1) := by decide +kernel
theorem d_Ge_start_28 : decode b_Ge_start 28 = .ok (.iload_n 3, 1) := by decide +kernel
theorem d_Ge_start_29 : decode b_Ge_start 29 = .ok (.iload_n 2, 1) := by decide +kernel
theorem d_Ge_start_30 : decode b_Ge_start 30 = .ok (.if_icmp .ge 23, 3) := by decide +kernel
theorem d_Ge_start_33 : decode b_Ge_start 33 = .ok (.aload_n 0, 1) := by decide +kernel
theorem d_Ge_start_34 : decode b_Ge_start 34 = .ok (.getfield 15, 3) := by decide +kernel
theorem d_Ge_start_37 : decode b_Ge_start 37 = .ok (.iload_n 3, 1) := by decide +kernel
theorem d_Ge_start_38 : decode b_Ge_start 38 = .ok (.aload_n 0, 1) := by decide +kernel
theorem d_Ge_start_39 : decode b_Ge_start 39 = .ok (.iload_n 3, 1) := by decide +kernel
theorem d_Ge_start_40 : decode b_Ge_start 40 = .ok (.invokevirtual 52, 3) := by decide +kernel
theorem d_Ge_start_43 : decode b_Ge_start 43 = .ok (.invokestatic 56, 3) := by decide +kernel
theorem d_Ge_start_46 : decode b_Ge_start 46 = .ok (.iastore, 1) := by decide +kernel
theorem d_Ge_start_47 : decode b_Ge_start 47 = .ok (.iinc 3 1, 3) := by decide +kernel
theorem d_Ge_start_50 : decode b_Ge_start 50 = .ok (.goto (-22), 3) := by decide +kernel
theorem d_Ge_start_53 : decode b_Ge_start 53 = .ok (.return_, 1) := by decide +kernel
theorem d_Sp_numberLimit_0 : decode b_Sp_numberLimit 0 = .ok (.iconst 1, 1) := by decide +kernel
theorem d_Sp_numberLimit_1 : decode b_Sp_numberLimit 1 = .ok (.iconst 2, 1) := by decide +kernel
theorem d_Sp_numberLimit_2 : decode b_Sp_numberLimit 2 = .ok (.aload_n 0, 1) := by decide +kernel
theorem d_Sp_numberLimit_3 : decode b_Sp_numberLimit 3 = .ok (.getfield 43, 3) := by decide +kernel
theorem d_Sp_numberLimit_6 : decode b_Sp_numberLimit 6 = .ok (.imul, 1) := by decide +kernel
theorem d_Sp_numberLimit_7 : decode b_Sp_numberLimit 7 = .ok (.ishl, 1) := by decide +kernel
theorem d_Sp_numberLimit_8 : decode b_Sp_numberLimit 8 = .ok (.ireturn, 1) := by decide +kernel
theorem d_Ge_setsCoveredBy_0 : decode b_Ge_setsCoveredBy 0 = .ok (.aload_n 0, 1) := by decide +kernel
theorem d_Ge_setsCoveredBy_1 : decode b_Ge_setsCoveredBy 1 = .ok (.getfield 25, 3) := by decide +kernel
theorem d_Ge_setsCoveredBy_4 : decode b_Ge_setsCoveredBy 4 = .ok (.getfield 89, 3) := by decide +kernel
theorem d_Ge_setsCoveredBy_7 : decode b_Ge_setsCoveredBy 7 = .ok (.iload_n 1, 1) := by decide +kernel
theorem d_Ge_setsCoveredBy_8 : decode b_Ge_setsCoveredBy 8 = .ok (.invokevirtual 101, 3) := by decide +kernel
theorem d_Ge_setsCoveredBy_11 : decode b_Ge_setsCoveredBy 11 = .ok (.ifCond .eq 12, 3) := by decide +kernel
theorem d_Ge_setsCoveredBy_14 : decode b_Ge_setsCoveredBy 14 = .ok (.aload_n 0, 1) := by decide +kernel
theorem d_Ge_setsCoveredBy_15 : decode b_Ge_setsCoveredBy 15 = .ok (.getfield 29, 3) := by decide +kernel
theorem d_Ge_setsCoveredBy_18 : decode b_Ge_setsCoveredBy 18 = .ok (.iconst 0, 1) := by decide +kernel
theorem d_Ge_setsCoveredBy_19 : decode b_Ge_setsCoveredBy 19 = .ok (.invokevirtual 62, 3) := by decide +kernel
theorem d_Ge_setsCoveredBy_22 : decode b_Ge_setsCoveredBy 22 = .ok (.lreturn, 1) := by decide +kernel
theorem d_Ge_setsCoveredBy_23 : decode b_Ge_setsCoveredBy 23 = .ok (.aload_n 0, 1) := by decide +kernel
theorem d_Ge_setsCoveredBy_24 : decode b_Ge_setsCoveredBy 24 = .ok (.getfield 25, 3) := by decide +kernel
theorem d_Ge_setsCoveredBy_27 : decode b_Ge_setsCoveredBy 27 = .ok (.getfield 98, 3) := by decide +kernel
theorem d_Ge_setsCoveredBy_30 : decode b_Ge_setsCoveredBy 30 = .ok (.iload_n 1, 1) := by decide +kernel
theorem d_Ge_setsCoveredBy_31 : decode b_Ge_setsCoveredBy 31 = .ok (.invokevirtual 101, 3) := by decide +kernel
theorem d_Ge_setsCoveredBy_34 : decode b_Ge_setsCoveredBy 34 = .ok (.ifCond .eq 26, 3) := by decide +kernel
theorem d_Ge_setsCoveredBy_37 : decode b_Ge_setsCoveredBy 37 = .ok (.aload_n 0, 1) := by decide +kernel
theorem d_Ge_setsCoveredBy_38 : decode b_Ge_setsCoveredBy 38 = .ok (.getfield 29, 3) := by decide +kernel
theorem d_Ge_setsCoveredBy_41 : decode b_Ge_setsCoveredBy 41 = .ok (.aload_n 0, 1) := by decide +kernel
theorem d_Ge_setsCoveredBy_42 : decode b_Ge_setsCoveredBy 42 = .ok (.getfield 25, 3) := by decide +kernel
theorem d_Ge_setsCoveredBy_45 : decode b_Ge_setsCoveredBy 45 = .ok (.aload_n 0, 1) := by decide +kernel
theorem d_Ge_setsCoveredBy_46 : decode b_Ge_setsCoveredBy 46 = .ok (.getfield 25, 3) := by decide +kernel
theorem d_Ge_setsCoveredBy_49 : decode b_Ge_setsCoveredBy 49 = .ok (.invokevirtual 105, 3) := by decide +kernel
theorem d_Ge_setsCoveredBy_52 : decode b_Ge_setsCoveredBy 52 = .ok (.iload_n 1, 1) := by decide +kernel
theorem d_Ge_setsCoveredBy_53 : decode b_Ge_setsCoveredBy 53 = .ok (.invokevirtual 86, 3) := by decide +kernel
theorem d_Ge_setsCoveredBy_56 : decode b_Ge_setsCoveredBy 56 = .ok (.invokevirtual 62, 3) := by decide +kernel
theorem d_Ge_setsCoveredBy_59 : decode b_Ge_setsCoveredBy 59 = .ok (.lreturn, 1) := by decide +kernel
theorem d_Ge_setsCoveredBy_60 : decode b_Ge_setsCoveredBy 60 = .ok (.lconst 0, 1) := by decide +kernel
theorem d_Ge_setsCoveredBy_61 : decode b_Ge_setsCoveredBy 61 = .ok (.lreturn, 1) := by decide +kernel
theorem d_NS_has_0 : decode b_NS_has 0 = .ok (.iload_n 1, 1) := by decide +kernel
theorem d_NS_has_1 : decode b_NS_has 1 = .ok (.ifCond .lt 35, 3) := by decide +kernel
theorem d_NS_has_4 : decode b_NS_has 4 = .ok (.iload_n 1, 1) := by decide +kernel
theorem d_NS_has_5 : decode b_NS_has 5 = .ok (.sipush 4096, 3) := by decide +kernel
theorem d_NS_has_8 : decode b_NS_has 8 = .ok (.if_icmp .ge 28, 3) := by decide +kernel
theorem d_NS_has_11 : decode b_NS_has 11 = .ok (.aload_n 0, 1) := by decide +kernel
theorem d_NS_has_12 : decode b_NS_has 12 = .ok (.getfield 9, 3) := by decide +kernel
theorem d_NS_has_15 : decode b_NS_has 15 = .ok (.iload_n 1, 1) := by decide +kernel
theorem d_NS_has_16 : decode b_NS_has 16 = .ok (.bipush 6, 2) := by decide +kernel
theorem d_NS_has_18 : decode b_NS_has 18 = .ok (.ishr, 1) := by decide +kernel
theorem d_NS_has_19 : decode b_NS_has 19 = .ok (.laload, 1) := by decide +kernel
theorem d_NS_has_20 : decode b_NS_has 20 = .ok (.iload_n 1, 1) := by decide +kernel
theorem d_NS_has_21 : decode b_NS_has 21 = .ok (.bipush 63, 2) := by decide +kernel
theorem d_NS_has_23 : decode b_NS_has 23 = .ok (.iand, 1) := by decide +kernel
theorem d_NS_has_24 : decode b_NS_has 24 = .ok (.lushr, 1) := by decide +kernel
theorem d_NS_has_25 : decode b_NS_has 25 = .ok (.lconst 1, 1) := by decide +kernel
theorem d_NS_has_26 : decode b_NS_has 26 = .ok (.land, 1) := by decide +kernel
theorem d_NS_has_27 : decode b_NS_has 27 = .ok (.lconst 0, 1) := by decide +kernel
theorem d_NS_has_28 : decode b_NS_has 28 = .ok (.lcmp, 1) := by decide +kernel
theorem d_NS_has_29 : decode b_NS_has 29 = .ok (.ifCond .eq 7, 3) := by decide +kernel
theorem d_NS_has_32 : decode b_NS_has 32 = .ok (.iconst 1, 1) := by decide +kernel
theorem d_NS_has_33 : decode b_NS_has 33 = .ok (.goto 4, 3) := by decide +kernel
theorem d_NS_has_36 : decode b_NS_has 36 = .ok (.iconst 0, 1) := by decide +kernel
theorem d_NS_has_37 : decode b_NS_has 37 = .ok (.ireturn, 1) := by decide +kernel
theorem d_Sp_allFields_0 : decode b_Sp_allFields 0 = .ok (.aload_n 0, 1) := by decide +kernel
theorem d_Sp_allFields_1 : decode b_Sp_allFields 1 = .ok (.invokevirtual 65, 3) := by decide +kernel
theorem d_Sp_allFields_4 : decode b_Sp_allFields 4 = .ok (.iconst 1, 1) := by decide +kernel
theorem d_Sp_allFields_5 : decode b_Sp_allFields 5 = .ok (.isub, 1) := by decide +kernel
theorem d_Sp_allFields_6 : decode b_Sp_allFields 6 = .ok (.ireturn, 1) := by decide +kernel
theorem d_JL_bitCount_0 : decode b_JL_bitCount 0 = .ok (.lload_n 0, 1) := by decide +kernel
theorem d_JL_bitCount_1 : decode b_JL_bitCount 1 = .ok (.lload_n 0, 1) := by decide +kernel
theorem d_JL_bitCount_2 : decode b_JL_bitCount 2 = .ok (.iconst 1, 1) := by decide +kernel
theorem d_JL_bitCount_3 : decode b_JL_bitCount 3 = .ok (.lushr, 1) := by decide +kernel
theorem d_JL_bitCount_4 : decode b_JL_bitCount 4 = .ok (.ldc2_w 314, 3) := by decide +kernel
theorem d_JL_bitCount_7 : decode b_JL_bitCount 7 = .ok (.land, 1) := by decide +kernel
theorem d_JL_bitCount_8 : decode b_JL_bitCount 8 = .ok (.lsub, 1) := by decide +kernel
theorem d_JL_bitCount_9 : decode b_JL_bitCount 9 = .ok (.lstore_n 0, 1) := by decide +kernel
theorem d_JL_bitCount_10 : decode b_JL_bitCount 10 = .ok (.lload_n 0, 1) := by decide +kernel
theorem d_JL_bitCount_11 : decode b_JL_bitCount 11 = .ok (.ldc2_w 316, 3) := by decide +kernel
theorem d_JL_bitCount_14 : decode b_JL_bitCount 14 = .ok (.land, 1) := by decide +kernel
theorem d_JL_bitCount_15 : decode b_JL_bitCount 15 = .ok (.lload_n 0, 1) := by decide +kernel
theorem d_JL_bitCount_16 : decode b_JL_bitCount 16 = .ok (.iconst 2, 1) := by decide +kernel
theorem d_JL_bitCount_17 : decode b_JL_bitCount 17 = .ok (.lushr, 1) := by decide +kernel
theorem d_JL_bitCount_18 : decode b_JL_bitCount 18 = .ok (.ldc2_w 316, 3) := by decide +kernel
theorem d_JL_bitCount_21 : decode b_JL_bitCount 21 = .ok (.land, 1) := by decide +kernel
theorem d_JL_bitCount_22 : decode b_JL_bitCount 22 = .ok (.ladd, 1) := by decide +kernel
theorem d_JL_bitCount_23 : decode b_JL_bitCount 23 = .ok (.lstore_n 0, 1) := by decide +kernel
theorem d_JL_bitCount_24 : decode b_JL_bitCount 24 = .ok (.lload_n 0, 1) := by decide +kernel
theorem d_JL_bitCount_25 : decode b_JL_bitCount 25 = .ok (.lload_n 0, 1) := by decide +kernel
theorem d_JL_bitCount_26 : decode b_JL_bitCount 26 = .ok (.iconst 4, 1) := by decide +kernel
theorem d_JL_bitCount_27 : decode b_JL_bitCount 27 = .ok (.lushr, 1) := by decide +kernel
theorem d_JL_bitCount_28 : decode b_JL_bitCount 28 = .ok (.ladd, 1) := by decide +kernel
theorem d_JL_bitCount_29 : decode b_JL_bitCount 29 = .ok (.ldc2_w 318, 3) := by decide +kernel
theorem d_JL_bitCount_32 : decode b_JL_bitCount 32 = .ok (.land, 1) := by decide +kernel
theorem d_JL_bitCount_33 : decode b_JL_bitCount 33 = .ok (.lstore_n 0, 1) := by decide +kernel
theorem d_JL_bitCount_34 : decode b_JL_bitCount 34 = .ok (.lload_n 0, 1) := by decide +kernel
theorem d_JL_bitCount_35 : decode b_JL_bitCount 35 = .ok (.lload_n 0, 1) := by decide +kernel
theorem d_JL_bitCount_36 : decode b_JL_bitCount 36 = .ok (.bipush 8, 2) := by decide +kernel
theorem d_JL_bitCount_38 : decode b_JL_bitCount 38 = .ok (.lushr, 1) := by decide +kernel
theorem d_JL_bitCount_39 : decode b_JL_bitCount 39 = .ok (.ladd, 1) := by decide +kernel
theorem d_JL_bitCount_40 : decode b_JL_bitCount 40 = .ok (.lstore_n 0, 1) := by decide +kernel
theorem d_JL_bitCount_41 : decode b_JL_bitCount 41 = .ok (.lload_n 0, 1) := by decide +kernel
theorem d_JL_bitCount_42 : decode b_JL_bitCount 42 = .ok (.lload_n 0, 1) := by decide +kernel
theorem d_JL_bitCount_43 : decode b_JL_bitCount 43 = .ok (.bipush 16, 2) := by decide +kernel
theorem d_JL_bitCount_45 : decode b_JL_bitCount 45 = .ok (.lushr, 1) := by decide +kernel
theorem d_JL_bitCount_46 : decode b_JL_bitCount 46 = .ok (.ladd, 1) := by decide +kernel
theorem d_JL_bitCount_47 : decode b_JL_bitCount 47 = .ok (.lstore_n 0, 1) := by decide +kernel
theorem d_JL_bitCount_48 : decode b_JL_bitCount 48 = .ok (.lload_n 0, 1) := by decide +kernel
theorem d_JL_bitCount_49 : decode b_JL_bitCount 49 = .ok (.lload_n 0, 1) := by decide +kernel
theorem d_JL_bitCount_50 : decode b_JL_bitCount 50 = .ok (.bipush 32, 2) := by decide +kernel
theorem d_JL_bitCount_52 : decode b_JL_bitCount 52 = .ok (.lushr, 1) := by decide +kernel
theorem d_JL_bitCount_53 : decode b_JL_bitCount 53 = .ok (.ladd, 1) := by decide +kernel
theorem d_JL_bitCount_54 : decode b_JL_bitCount 54 = .ok (.lstore_n 0, 1) := by decide +kernel
theorem d_JL_bitCount_55 : decode b_JL_bitCount 55 = .ok (.lload_n 0, 1) := by decide +kernel
theorem d_JL_bitCount_56 : decode b_JL_bitCount 56 = .ok (.l2i, 1) := by decide +kernel
theorem d_JL_bitCount_57 : decode b_JL_bitCount 57 = .ok (.bipush 127, 2) := by decide +kernel
theorem d_JL_bitCount_59 : decode b_JL_bitCount 59 = .ok (.iand, 1) := by decide +kernel
theorem d_JL_bitCount_60 : decode b_JL_bitCount 60 = .ok (.ireturn, 1) := by decide +kernel
theorem d_CR_takeSeeds_0 : decode b_CR_takeSeeds 0 = .ok (.iconst 0, 1) := by decide +kernel
theorem d_CR_takeSeeds_1 : decode b_CR_takeSeeds 1 = .ok (.istore_n 1, 1) := by decide +kernel
theorem d_CR_takeSeeds_2 : decode b_CR_takeSeeds 2 = .ok (.iload_n 1, 1) := by decide +kernel
theorem d_CR_takeSeeds_3 : decode b_CR_takeSeeds 3 = .ok (.aload_n 0, 1) := by decide +kernel
theorem d_CR_takeSeeds_4 : decode b_CR_takeSeeds 4 = .ok (.getfield 104, 3) := by decide +kernel
theorem d_CR_takeSeeds_7 : decode b_CR_takeSeeds 7 = .ok (.if_icmp .ge 39, 3) := by decide +kernel
theorem d_CR_takeSeeds_10 : decode b_CR_takeSeeds 10 = .ok (.aload_n 0, 1) := by decide +kernel
theorem d_CR_takeSeeds_11 : decode b_CR_takeSeeds 11 = .ok (.getfield 12, 3) := by decide +kernel
theorem d_CR_takeSeeds_14 : decode b_CR_takeSeeds 14 = .ok (.aload_n 0, 1) := by decide +kernel
theorem d_CR_takeSeeds_15 : decode b_CR_takeSeeds 15 = .ok (.getfield 30, 3) := by decide +kernel
theorem d_CR_takeSeeds_18 : decode b_CR_takeSeeds 18 = .ok (.iload_n 1, 1) := by decide +kernel
theorem d_CR_takeSeeds_19 : decode b_CR_takeSeeds 19 = .ok (.iaload, 1) := by decide +kernel
theorem d_CR_takeSeeds_20 : decode b_CR_takeSeeds 20 = .ok (.invokevirtual 126, 3) := by decide +kernel
theorem d_CR_takeSeeds_23 : decode b_CR_takeSeeds 23 = .ok (.iconst 1, 1) := by decide +kernel
theorem d_CR_takeSeeds_24 : decode b_CR_takeSeeds 24 = .ok (.if_icmp .lt 16, 3) := by decide +kernel
theorem d_CR_takeSeeds_27 : decode b_CR_takeSeeds 27 = .ok (.aload_n 0, 1) := by decide +kernel
theorem d_CR_takeSeeds_28 : decode b_CR_takeSeeds 28 = .ok (.getfield 39, 3) := by decide +kernel
theorem d_CR_takeSeeds_31 : decode b_CR_takeSeeds 31 = .ok (.aload_n 0, 1) := by decide +kernel
theorem d_CR_takeSeeds_32 : decode b_CR_takeSeeds 32 = .ok (.getfield 30, 3) := by decide +kernel
theorem d_CR_takeSeeds_35 : decode b_CR_takeSeeds 35 = .ok (.iload_n 1, 1) := by decide +kernel
theorem d_CR_takeSeeds_36 : decode b_CR_takeSeeds 36 = .ok (.iaload, 1) := by decide +kernel
theorem d_CR_takeSeeds_37 : decode b_CR_takeSeeds 37 = .ok (.invokevirtual 129, 3) := by decide +kernel
theorem d_CR_takeSeeds_40 : decode b_CR_takeSeeds 40 = .ok (.iinc 1 1, 3) := by decide +kernel
theorem d_CR_takeSeeds_43 : decode b_CR_takeSeeds 43 = .ok (.goto (-41), 3) := by decide +kernel
theorem d_CR_takeSeeds_46 : decode b_CR_takeSeeds 46 = .ok (.return_, 1) := by decide +kernel
theorem d_Sp_rank_0 : decode b_Sp_rank 0 = .ok (.iload_n 1, 1) := by decide +kernel
theorem d_Sp_rank_1 : decode b_Sp_rank 1 = .ok (.ifCond .lt 19, 3) := by decide +kernel
theorem d_Sp_rank_4 : decode b_Sp_rank 4 = .ok (.iload_n 1, 1) := by decide +kernel
theorem d_Sp_rank_5 : decode b_Sp_rank 5 = .ok (.aload_n 0, 1) := by decide +kernel
theorem d_Sp_rank_6 : decode b_Sp_rank 6 = .ok (.invokevirtual 65, 3) := by decide +kernel
theorem d_Sp_rank_9 : decode b_Sp_rank 9 = .ok (.if_icmp .ge 11, 3) := by decide +kernel
theorem d_Sp_rank_12 : decode b_Sp_rank 12 = .ok (.aload_n 0, 1) := by decide +kernel
theorem d_Sp_rank_13 : decode b_Sp_rank 13 = .ok (.iload_n 1, 1) := by decide +kernel
theorem d_Sp_rank_14 : decode b_Sp_rank 14 = .ok (.invokevirtual 69, 3) := by decide +kernel
theorem d_Sp_rank_17 : decode b_Sp_rank 17 = .ok (.ifCond .ne 5, 3) := by decide +kernel
theorem d_Sp_rank_20 : decode b_Sp_rank 20 = .ok (.iconst (-1), 1) := by decide +kernel
theorem d_Sp_rank_21 : decode b_Sp_rank 21 = .ok (.ireturn, 1) := by decide +kernel
theorem d_Sp_rank_22 : decode b_Sp_rank 22 = .ok (.aload_n 0, 1) := by decide +kernel
theorem d_Sp_rank_23 : decode b_Sp_rank 23 = .ok (.getfield 25, 3) := by decide +kernel
theorem d_Sp_rank_26 : decode b_Sp_rank 26 = .ok (.iload_n 1, 1) := by decide +kernel
theorem d_Sp_rank_27 : decode b_Sp_rank 27 = .ok (.invokevirtual 73, 3) := by decide +kernel
theorem d_Sp_rank_30 : decode b_Sp_rank 30 = .ok (.ifCond .eq 5, 3) := by decide +kernel
theorem d_Sp_rank_33 : decode b_Sp_rank 33 = .ok (.iconst 2, 1) := by decide +kernel
theorem d_Sp_rank_34 : decode b_Sp_rank 34 = .ok (.ireturn, 1) := by decide +kernel
theorem d_Sp_rank_35 : decode b_Sp_rank 35 = .ok (.aload_n 0, 1) := by decide +kernel
theorem d_Sp_rank_36 : decode b_Sp_rank 36 = .ok (.getfield 28, 3) := by decide +kernel
theorem d_Sp_rank_39 : decode b_Sp_rank 39 = .ok (.iload_n 1, 1) := by decide +kernel
theorem d_Sp_rank_40 : decode b_Sp_rank 40 = .ok (.invokevirtual 73, 3) := by decide +kernel
theorem d_Sp_rank_43 : decode b_Sp_rank 43 = .ok (.ifCond .eq 7, 3) := by decide +kernel
theorem d_Sp_rank_46 : decode b_Sp_rank 46 = .ok (.iconst 1, 1) := by decide +kernel
theorem d_Sp_rank_47 : decode b_Sp_rank 47 = .ok (.goto 4, 3) := by decide +kernel
theorem d_Sp_rank_50 : decode b_Sp_rank 50 = .ok (.iconst 0, 1) := by decide +kernel
theorem d_Sp_rank_51 : decode b_Sp_rank 51 = .ok (.ireturn, 1) := by decide +kernel
theorem d_Sp_hasAllValues_0 : decode b_Sp_hasAllValues 0 = .ok (.iconst 0, 1) := by decide +kernel
theorem d_Sp_hasAllValues_1 : decode b_Sp_hasAllValues 1 = .ok (.istore_n 2, 1) := by decide +kernel
theorem d_Sp_hasAllValues_2 : decode b_Sp_hasAllValues 2 = .ok (.iload_n 2, 1) := by decide +kernel
theorem d_Sp_hasAllValues_3 : decode b_Sp_hasAllValues 3 = .ok (.bipush 6, 2) := by decide +kernel
theorem d_Sp_hasAllValues_5 : decode b_Sp_hasAllValues 5 = .ok (.if_icmp .ge 25, 3) := by decide +kernel
theorem d_Sp_hasAllValues_8 : decode b_Sp_hasAllValues 8 = .ok (.iload_n 2, 1) := by decide +kernel
theorem d_Sp_hasAllValues_9 : decode b_Sp_hasAllValues 9 = .ok (.iload_n 1, 1) := by decide +kernel
theorem d_Sp_hasAllValues_10 : decode b_Sp_hasAllValues 10 = .ok (.invokestatic 76, 3) := by decide +kernel
theorem d_Sp_hasAllValues_13 : decode b_Sp_hasAllValues 13 = .ok (.aload_n 0, 1) := by decide +kernel
theorem d_Sp_hasAllValues_14 : decode b_Sp_hasAllValues 14 = .ok (.getfield 9, 3) := by decide +kernel
theorem d_Sp_hasAllValues_17 : decode b_Sp_hasAllValues 17 = .ok (.iload_n 2, 1) := by decide +kernel
theorem d_Sp_hasAllValues_18 : decode b_Sp_hasAllValues 18 = .ok (.iaload, 1) := by decide +kernel
theorem d_Sp_hasAllValues_19 : decode b_Sp_hasAllValues 19 = .ok (.if_icmp .lt 5, 3) := by decide +kernel
theorem d_Sp_hasAllValues_22 : decode b_Sp_hasAllValues 22 = .ok (.iconst 0, 1) := by decide +kernel
theorem d_Sp_hasAllValues_23 : decode b_Sp_hasAllValues 23 = .ok (.ireturn, 1) := by decide +kernel
theorem d_Sp_hasAllValues_24 : decode b_Sp_hasAllValues 24 = .ok (.iinc 2 1, 3) := by decide +kernel
theorem d_Sp_hasAllValues_27 : decode b_Sp_hasAllValues 27 = .ok (.goto (-25), 3) := by decide +kernel
theorem d_Sp_hasAllValues_30 : decode b_Sp_hasAllValues 30 = .ok (.iconst 1, 1) := by decide +kernel
theorem d_Sp_hasAllValues_31 : decode b_Sp_hasAllValues 31 = .ok (.ireturn, 1) := by decide +kernel
theorem d_Ge_take_0 : decode b_Ge_take 0 = .ok (.aload_n 0, 1) := by decide +kernel
theorem d_Ge_take_1 : decode b_Ge_take 1 = .ok (.getfield 25, 3) := by decide +kernel
theorem d_Ge_take_4 : decode b_Ge_take 4 = .ok (.getfield 89, 3) := by decide +kernel
theorem d_Ge_take_7 : decode b_Ge_take 7 = .ok (.iload_n 1, 1) := by decide +kernel
theorem d_Ge_take_8 : decode b_Ge_take 8 = .ok (.invokevirtual 101, 3) := by decide +kernel
theorem d_Ge_take_11 : decode b_Ge_take 11 = .ok (.ifCond .eq 13, 3) := by decide +kernel
theorem d_Ge_take_14 : decode b_Ge_take 14 = .ok (.aload_n 0, 1) := by decide +kernel
theorem d_Ge_take_15 : decode b_Ge_take 15 = .ok (.getfield 25, 3) := by decide +kernel
theorem d_Ge_take_18 : decode b_Ge_take 18 = .ok (.getfield 89, 3) := by decide +kernel
theorem d_Ge_take_21 : decode b_Ge_take 21 = .ok (.goto 10, 3) := by decide +kernel
theorem d_Ge_take_24 : decode b_Ge_take 24 = .ok (.aload_n 0, 1) := by decide +kernel
theorem d_Ge_take_25 : decode b_Ge_take 25 = .ok (.getfield 25, 3) := by decide +kernel
theorem d_Ge_take_28 : decode b_Ge_take 28 = .ok (.getfield 98, 3) := by decide +kernel
theorem d_Ge_take_31 : decode b_Ge_take 31 = .ok (.astore_n 2, 1) := by decide +kernel
theorem d_Ge_take_32 : decode b_Ge_take 32 = .ok (.aload_n 0, 1) := by decide +kernel
theorem d_Ge_take_33 : decode b_Ge_take 33 = .ok (.iload_n 1, 1) := by decide +kernel
