theorem dX0_init_0 : decode cX0_init 0 = .ok (.aload_n 0, 1) := by decide +kernel
theorem dX0_init_1 : decode cX0_init 1 = .ok (.invokespecial 1, 3) := by decide +kernel
theorem dX0_init_4 : decode cX0_init 4 = .ok (.return_, 1) := by decide +kernel
theorem dX0_begin_0 : decode cX0_begin 0 = .ok (.aload_n 0, 1) := by decide +kernel
theorem dX0_begin_1 : decode cX0_begin 1 = .ok (.iload_n 1, 1) := by decide +kernel
theorem dX0_begin_2 : decode cX0_begin 2 = .ok (.putfield 7, 3) := by decide +kernel
theorem dX0_begin_5 : decode cX0_begin 5 = .ok (.aload_n 0, 1) := by decide +kernel
theorem dX0_begin_6 : decode cX0_begin 6 = .ok (.iload_n 2, 1) := by decide +kernel
theorem dX0_begin_7 : decode cX0_begin 7 = .ok (.putfield 13, 3) := by decide +kernel
theorem dX0_begin_10 : decode cX0_begin 10 = .ok (.aload_n 0, 1) := by decide +kernel
theorem dX0_begin_11 : decode cX0_begin 11 = .ok (.iload_n 2, 1) := by decide +kernel
theorem dX0_begin_12 : decode cX0_begin 12 = .ok (.putfield 17, 3) := by decide +kernel
theorem dX0_begin_15 : decode cX0_begin 15 = .ok (.aload_n 0, 1) := by decide +kernel
theorem dX0_begin_16 : decode cX0_begin 16 = .ok (.iload_n 3, 1) := by decide +kernel
theorem dX0_begin_17 : decode cX0_begin 17 = .ok (.putfield 20, 3) := by decide +kernel
theorem dX0_begin_20 : decode cX0_begin 20 = .ok (.aload_n 0, 1) := by decide +kernel
theorem dX0_begin_21 : decode cX0_begin 21 = .ok (.iload 4, 2) := by decide +kernel
theorem dX0_begin_23 : decode cX0_begin 23 = .ok (.putfield 23, 3) := by decide +kernel
theorem dX0_begin_26 : decode cX0_begin 26 = .ok (.return_, 1) := by decide +kernel
theorem dX0_extend_0 : decode cX0_extend 0 = .ok (.aload_n 0, 1) := by decide +kernel
theorem dX0_extend_1 : decode cX0_extend 1 = .ok (.dup, 1) := by decide +kernel
theorem dX0_extend_2 : decode cX0_extend 2 = .ok (.getfield 17, 3) := by decide +kernel
theorem dX0_extend_5 : decode cX0_extend 5 = .ok (.iconst 1, 1) := by decide +kernel
theorem dX0_extend_6 : decode cX0_extend 6 = .ok (.iadd, 1) := by decide +kernel
theorem dX0_extend_7 : decode cX0_extend 7 = .ok (.putfield 17, 3) := by decide +kernel
theorem dX0_extend_10 : decode cX0_extend 10 = .ok (.return_, 1) := by decide +kernel
theorem dX1_init_0 : decode cX1_init 0 = .ok (.aload_n 0, 1) := by decide +kernel
theorem dX1_init_1 : decode cX1_init 1 = .ok (.invokespecial 3, 3) := by decide +kernel
theorem dX1_init_4 : decode cX1_init 4 = .ok (.aload_n 0, 1) := by decide +kernel
theorem dX1_init_5 : decode cX1_init 5 = .ok (.sipush 141, 3) := by decide +kernel
theorem dX1_init_8 : decode cX1_init 8 = .ok (.newarray .int, 2) := by decide +kernel
theorem dX1_init_10 : decode cX1_init 10 = .ok (.putfield 9, 3) := by decide +kernel
theorem dX1_init_13 : decode cX1_init 13 = .ok (.aload_n 0, 1) := by decide +kernel
theorem dX1_init_14 : decode cX1_init 14 = .ok (.sipush 141, 3) := by decide +kernel
theorem dX1_init_17 : decode cX1_init 17 = .ok (.newarray .int, 2) := by decide +kernel
theorem dX1_init_19 : decode cX1_init 19 = .ok (.putfield 15, 3) := by decide +kernel
theorem dX1_init_22 : decode cX1_init 22 = .ok (.return_, 1) := by decide +kernel
theorem dX1_wipe_0 : decode cX1_wipe 0 = .ok (.aload_n 0, 1) := by decide +kernel
theorem dX1_wipe_1 : decode cX1_wipe 1 = .ok (.iconst 0, 1) := by decide +kernel
theorem dX1_wipe_2 : decode cX1_wipe 2 = .ok (.putfield 18, 3) := by decide +kernel
theorem dX1_wipe_5 : decode cX1_wipe 5 = .ok (.return_, 1) := by decide +kernel
theorem dX1_count_0 : decode cX1_count 0 = .ok (.aload_n 0, 1) := by decide +kernel
theorem dX1_count_1 : decode cX1_count 1 = .ok (.getfield 18, 3) := by decide +kernel
theorem dX1_count_4 : decode cX1_count 4 = .ok (.ireturn, 1) := by decide +kernel
theorem dX1_add_0 : decode cX1_add 0 = .ok (.aload_n 0, 1) := by decide +kernel
theorem dX1_add_1 : decode cX1_add 1 = .ok (.getfield 18, 3) := by decide +kernel
theorem dX1_add_4 : decode cX1_add 4 = .ok (.sipush 141, 3) := by decide +kernel
theorem dX1_add_7 : decode cX1_add 7 = .ok (.if_icmp .ge 33, 3) := by decide +kernel
theorem dX1_add_10 : decode cX1_add 10 = .ok (.aload_n 0, 1) := by decide +kernel
theorem dX1_add_11 : decode cX1_add 11 = .ok (.getfield 9, 3) := by decide +kernel
theorem dX1_add_14 : decode cX1_add 14 = .ok (.aload_n 0, 1) := by decide +kernel
theorem dX1_add_15 : decode cX1_add 15 = .ok (.getfield 18, 3) := by decide +kernel
theorem dX1_add_18 : decode cX1_add 18 = .ok (.iload_n 1, 1) := by decide +kernel
theorem dX1_add_19 : decode cX1_add 19 = .ok (.iastore, 1) := by decide +kernel
theorem dX1_add_20 : decode cX1_add 20 = .ok (.aload_n 0, 1) := by decide +kernel
theorem dX1_add_21 : decode cX1_add 21 = .ok (.getfield 15, 3) := by decide +kernel
theorem dX1_add_24 : decode cX1_add 24 = .ok (.aload_n 0, 1) := by decide +kernel
theorem dX1_add_25 : decode cX1_add 25 = .ok (.getfield 18, 3) := by decide +kernel
theorem dX1_add_28 : decode cX1_add 28 = .ok (.iload_n 2, 1) := by decide +kernel
theorem dX1_add_29 : decode cX1_add 29 = .ok (.iastore, 1) := by decide +kernel
theorem dX1_add_30 : decode cX1_add 30 = .ok (.aload_n 0, 1) := by decide +kernel
theorem dX1_add_31 : decode cX1_add 31 = .ok (.dup, 1) := by decide +kernel
theorem dX1_add_32 : decode cX1_add 32 = .ok (.getfield 18, 3) := by decide +kernel
theorem dX1_add_35 : decode cX1_add 35 = .ok (.iconst 1, 1) := by decide +kernel
theorem dX1_add_36 : decode cX1_add 36 = .ok (.iadd, 1) := by decide +kernel
theorem dX1_add_37 : decode cX1_add 37 = .ok (.putfield 18, 3) := by decide +kernel
theorem dX1_add_40 : decode cX1_add 40 = .ok (.return_, 1) := by decide +kernel
theorem dX2_init_0 : decode cX2_init 0 = .ok (.aload_n 0, 1) := by decide +kernel
theorem dX2_init_1 : decode cX2_init 1 = .ok (.invokespecial 1, 3) := by decide +kernel
theorem dX2_init_4 : decode cX2_init 4 = .ok (.return_, 1) := by decide +kernel
theorem dX2_set_0 : decode cX2_set 0 = .ok (.aload_n 0, 1) := by decide +kernel
theorem dX2_set_1 : decode cX2_set 1 = .ok (.iload_n 1, 1) := by decide +kernel
theorem dX2_set_2 : decode cX2_set 2 = .ok (.putfield 7, 3) := by decide +kernel
theorem dX2_set_5 : decode cX2_set 5 = .ok (.aload_n 0, 1) := by decide +kernel
theorem dX2_set_6 : decode cX2_set 6 = .ok (.iload_n 2, 1) := by decide +kernel
theorem dX2_set_7 : decode cX2_set 7 = .ok (.putfield 13, 3) := by decide +kernel
theorem dX2_set_10 : decode cX2_set 10 = .ok (.aload_n 0, 1) := by decide +kernel
theorem dX2_set_11 : decode cX2_set 11 = .ok (.iload_n 3, 1) := by decide +kernel
theorem dX2_set_12 : decode cX2_set 12 = .ok (.putfield 17, 3) := by decide +kernel
theorem dX2_set_15 : decode cX2_set 15 = .ok (.return_, 1) := by decide +kernel
theorem dX3_init_0 : decode cX3_init 0 = .ok (.aload_n 0, 1) := by decide +kernel
theorem dX3_init_1 : decode cX3_init 1 = .ok (.invokespecial 3, 3) := by decide +kernel
theorem dX3_init_4 : decode cX3_init 4 = .ok (.aload_n 0, 1) := by decide +kernel
theorem dX3_init_5 : decode cX3_init 5 = .ok (.bipush 10, 2) := by decide +kernel
theorem dX3_init_7 : decode cX3_init 7 = .ok (.newarray .int, 2) := by decide +kernel
theorem dX3_init_9 : decode cX3_init 9 = .ok (.putfield 9, 3) := by decide +kernel
theorem dX3_init_12 : decode cX3_init 12 = .ok (.aload_n 0, 1) := by decide +kernel
theorem dX3_init_13 : decode cX3_init 13 = .ok (.bipush 12, 2) := by decide +kernel
theorem dX3_init_15 : decode cX3_init 15 = .ok (.newarray .int, 2) := by decide +kernel
theorem dX3_init_17 : decode cX3_init 17 = .ok (.putfield 15, 3) := by decide +kernel
theorem dX3_init_20 : decode cX3_init 20 = .ok (.aload_n 0, 1) := by decide +kernel
theorem dX3_init_21 : decode cX3_init 21 = .ok (.bipush 10, 2) := by decide +kernel
theorem dX3_init_23 : decode cX3_init 23 = .ok (.newarray .int, 2) := by decide +kernel
theorem dX3_init_25 : decode cX3_init 25 = .ok (.putfield 18, 3) := by decide +kernel
theorem dX3_init_28 : decode cX3_init 28 = .ok (.aload_n 0, 1) := by decide +kernel
theorem dX3_init_29 : decode cX3_init 29 = .ok (.bipush 11, 2) := by decide +kernel
theorem dX3_init_31 : decode cX3_init 31 = .ok (.newarray .int, 2) := by decide +kernel
theorem dX3_init_33 : decode cX3_init 33 = .ok (.putfield 21, 3) := by decide +kernel
theorem dX3_init_36 : decode cX3_init 36 = .ok (.aload_n 0, 1) := by decide +kernel
theorem dX3_init_37 : decode cX3_init 37 = .ok (.aload_n 1, 1) := by decide +kernel
theorem dX3_init_38 : decode cX3_init 38 = .ok (.putfield 24, 3) := by decide +kernel
theorem dX3_init_41 : decode cX3_init 41 = .ok (.return_, 1) := by decide +kernel
theorem dX3_canDivide_0 : decode cX3_canDivide 0 = .ok (.aload_n 0, 1) := by decide +kernel
theorem dX3_canDivide_1 : decode cX3_canDivide 1 = .ok (.aload_n 1, 1) := by decide +kernel
theorem dX3_canDivide_2 : decode cX3_canDivide 2 = .ok (.invokevirtual 28, 3) := by decide +kernel
theorem dX3_canDivide_5 : decode cX3_canDivide 5 = .ok (.aload_n 0, 1) := by decide +kernel
theorem dX3_canDivide_6 : decode cX3_canDivide 6 = .ok (.getfield 24, 3) := by decide +kernel
theorem dX3_canDivide_9 : decode cX3_canDivide 9 = .ok (.invokevirtual 32, 3) := by decide +kernel
theorem dX3_canDivide_12 : decode cX3_canDivide 12 = .ok (.istore_n 2, 1) := by decide +kernel
theorem dX3_canDivide_13 : decode cX3_canDivide 13 = .ok (.aload_n 0, 1) := by decide +kernel
theorem dX3_canDivide_14 : decode cX3_canDivide 14 = .ok (.getfield 15, 3) := by decide +kernel
theorem dX3_canDivide_17 : decode cX3_canDivide 17 = .ok (.iload_n 2, 1) := by decide +kernel
theorem dX3_canDivide_18 : decode cX3_canDivide 18 = .ok (.iconst 1, 1) := by decide +kernel
theorem dX3_canDivide_19 : decode cX3_canDivide 19 = .ok (.aload_n 1, 1) := by decide +kernel
theorem dX3_canDivide_20 : decode cX3_canDivide 20 = .ok (.invokevirtual 38, 3) := by decide +kernel
theorem dX3_canDivide_23 : decode cX3_canDivide 23 = .ok (.ishl, 1) := by decide +kernel
theorem dX3_canDivide_24 : decode cX3_canDivide 24 = .ok (.invokestatic 43, 3) := by decide +kernel
theorem dX3_canDivide_27 : decode cX3_canDivide 27 = .ok (.iload_n 2, 1) := by decide +kernel
theorem dX3_canDivide_28 : decode cX3_canDivide 28 = .ok (.iconst 1, 1) := by decide +kernel
theorem dX3_canDivide_29 : decode cX3_canDivide 29 = .ok (.isub, 1) := by decide +kernel
theorem dX3_canDivide_30 : decode cX3_canDivide 30 = .ok (.istore_n 3, 1) := by decide +kernel
theorem dX3_canDivide_31 : decode cX3_canDivide 31 = .ok (.iload_n 3, 1) := by decide +kernel
theorem dX3_canDivide_32 : decode cX3_canDivide 32 = .ok (.ifCond .lt 47, 3) := by decide +kernel
theorem dX3_canDivide_35 : decode cX3_canDivide 35 = .ok (.aload_n 0, 1) := by decide +kernel
theorem dX3_canDivide_36 : decode cX3_canDivide 36 = .ok (.aload_n 0, 1) := by decide +kernel
theorem dX3_canDivide_37 : decode cX3_canDivide 37 = .ok (.getfield 24, 3) := by decide +kernel
theorem dX3_canDivide_40 : decode cX3_canDivide 40 = .ok (.iload_n 3, 1) := by decide +kernel
theorem dX3_canDivide_41 : decode cX3_canDivide 41 = .ok (.invokevirtual 47, 3) := by decide +kernel
theorem dX3_canDivide_44 : decode cX3_canDivide 44 = .ok (.aload_n 0, 1) := by decide +kernel
theorem dX3_canDivide_45 : decode cX3_canDivide 45 = .ok (.getfield 15, 3) := by decide +kernel
theorem dX3_canDivide_48 : decode cX3_canDivide 48 = .ok (.iload_n 3, 1) := by decide +kernel
theorem dX3_canDivide_49 : decode cX3_canDivide 49 = .ok (.iconst 1, 1) := by decide +kernel
theorem dX3_canDivide_50 : decode cX3_canDivide 50 = .ok (.iadd, 1) := by decide +kernel
theorem dX3_canDivide_51 : decode cX3_canDivide 51 = .ok (.invokestatic 51, 3) := by decide +kernel
theorem dX3_canDivide_54 : decode cX3_canDivide 54 = .ok (.invokevirtual 55, 3) := by decide +kernel
theorem dX3_canDivide_57 : decode cX3_canDivide 57 = .ok (.aload_n 0, 1) := by decide +kernel
theorem dX3_canDivide_58 : decode cX3_canDivide 58 = .ok (.getfield 15, 3) := by decide +kernel
theorem dX3_canDivide_61 : decode cX3_canDivide 61 = .ok (.iload_n 3, 1) := by decide +kernel
theorem dX3_canDivide_62 : decode cX3_canDivide 62 = .ok (.aload_n 0, 1) := by decide +kernel
theorem dX3_canDivide_63 : decode cX3_canDivide 63 = .ok (.getfield 18, 3) := by decide +kernel
theorem dX3_canDivide_66 : decode cX3_canDivide 66 = .ok (.iconst 0, 1) := by decide +kernel
theorem dX3_canDivide_67 : decode cX3_canDivide 67 = .ok (.invokestatic 51, 3) := by decide +kernel
theorem dX3_canDivide_70 : decode cX3_canDivide 70 = .ok (.invokestatic 43, 3) := by decide +kernel
theorem dX3_canDivide_73 : decode cX3_canDivide 73 = .ok (.iinc 3 (-1), 3) := by decide +kernel
theorem dX3_canDivide_76 : decode cX3_canDivide 76 = .ok (.goto (-45), 3) := by decide +kernel
theorem dX3_canDivide_79 : decode cX3_canDivide 79 = .ok (.aload_n 0, 1) := by decide +kernel
theorem dX3_canDivide_80 : decode cX3_canDivide 80 = .ok (.getfield 15, 3) := by decide +kernel
theorem dX3_canDivide_83 : decode cX3_canDivide 83 = .ok (.iconst 0, 1) := by decide +kernel
theorem dX3_canDivide_84 : decode cX3_canDivide 84 = .ok (.invokestatic 51, 3) := by decide +kernel
theorem dX3_canDivide_87 : decode cX3_canDivide 87 = .ok (.iconst 0, 1) := by decide +kernel
theorem dX3_canDivide_88 : decode cX3_canDivide 88 = .ok (.invokestatic 59, 3) := by decide +kernel
theorem dX3_canDivide_91 : decode cX3_canDivide 91 = .ok (.ireturn, 1) := by decide +kernel
theorem dX3_divide_0 : decode cX3_divide 0 = .ok (.iconst 0, 1) := by decide +kernel
theorem dX3_divide_1 : decode cX3_divide 1 = .ok (.istore_n 2, 1) := by decide +kernel
theorem dX3_divide_2 : decode cX3_divide 2 = .ok (.iconst 0, 1) := by decide +kernel
theorem dX3_divide_3 : decode cX3_divide 3 = .ok (.istore_n 3, 1) := by decide +kernel
theorem dX3_divide_4 : decode cX3_divide 4 = .ok (.iload_n 3, 1) := by decide +kernel
theorem dX3_divide_5 : decode cX3_divide 5 = .ok (.aload_n 0, 1) := by decide +kernel
theorem dX3_divide_6 : decode cX3_divide 6 = .ok (.getfield 24, 3) := by decide +kernel
theorem dX3_divide_9 : decode cX3_divide 9 = .ok (.invokevirtual 32, 3) := by decide +kernel
theorem dX3_divide_12 : decode cX3_divide 12 = .ok (.if_icmp .ge 89, 3) := by decide +kernel
theorem dX3_divide_15 : decode cX3_divide 15 = .ok (.aload_n 0, 1) := by decide +kernel
theorem dX3_divide_16 : decode cX3_divide 16 = .ok (.getfield 24, 3) := by decide +kernel
theorem dX3_divide_19 : decode cX3_divide 19 = .ok (.iload_n 3, 1) := by decide +kernel
theorem dX3_divide_20 : decode cX3_divide 20 = .ok (.invokevirtual 47, 3) := by decide +kernel
theorem dX3_divide_23 : decode cX3_divide 23 = .ok (.astore 4, 2) := by decide +kernel
theorem dX3_divide_25 : decode cX3_divide 25 = .ok (.aload_n 0, 1) := by decide +kernel
theorem dX3_divide_26 : decode cX3_divide 26 = .ok (.aload 4, 2) := by decide +kernel
theorem dX3_divide_28 : decode cX3_divide 28 = .ok (.aload_n 0, 1) := by decide +kernel
theorem dX3_divide_29 : decode cX3_divide 29 = .ok (.getfield 15, 3) := by decide +kernel
theorem dX3_divide_32 : decode cX3_divide 32 = .ok (.iload_n 3, 1) := by decide +kernel
theorem dX3_divide_33 : decode cX3_divide 33 = .ok (.iconst 1, 1) := by decide +kernel
theorem dX3_divide_34 : decode cX3_divide 34 = .ok (.iadd, 1) := by decide +kernel
theorem dX3_divide_35 : decode cX3_divide 35 = .ok (.invokestatic 51, 3) := by decide +kernel
theorem dX3_divide_38 : decode cX3_divide 38 = .ok (.invokevirtual 55, 3) := by decide +kernel
theorem dX3_divide_41 : decode cX3_divide 41 = .ok (.iconst 0, 1) := by decide +kernel
theorem dX3_divide_42 : decode cX3_divide 42 = .ok (.istore 5, 2) := by decide +kernel
theorem dX3_divide_44 : decode cX3_divide 44 = .ok (.iload 5, 2) := by decide +kernel
theorem dX3_divide_46 : decode cX3_divide 46 = .ok (.aload 4, 2) := by decide +kernel
theorem dX3_divide_48 : decode cX3_divide 48 = .ok (.getfield 63, 3) := by decide +kernel
theorem dX3_divide_51 : decode cX3_divide 51 = .ok (.if_icmp .ge 44, 3) := by decide +kernel
theorem dX3_divide_54 : decode cX3_divide 54 = .ok (.aload_n 0, 1) := by decide +kernel
theorem dX3_divide_55 : decode cX3_divide 55 = .ok (.aload 4, 2) := by decide +kernel
theorem dX3_divide_57 : decode cX3_divide 57 = .ok (.aload_n 0, 1) := by decide +kernel
theorem dX3_divide_58 : decode cX3_divide 58 = .ok (.getfield 18, 3) := by decide +kernel
theorem dX3_divide_61 : decode cX3_divide 61 = .ok (.iload 5, 2) := by decide +kernel
theorem dX3_divide_63 : decode cX3_divide 63 = .ok (.iconst 1, 1) := by decide +kernel
theorem dX3_divide_64 : decode cX3_divide 64 = .ok (.iadd, 1) := by decide +kernel
theorem dX3_divide_65 : decode cX3_divide 65 = .ok (.invokestatic 51, 3) := by decide +kernel
theorem dX3_divide_68 : decode cX3_divide 68 = .ok (.invokevirtual 69, 3) := by decide +kernel
theorem dX3_divide_71 : decode cX3_divide 71 = .ok (.iload_n 2, 1) := by decide +kernel
theorem dX3_divide_72 : decode cX3_divide 72 = .ok (.invokestatic 59, 3) := by decide +kernel
theorem dX3_divide_75 : decode cX3_divide 75 = .ok (.ifCond .eq 20, 3) := by decide +kernel
theorem dX3_divide_78 : decode cX3_divide 78 = .ok (.iinc 5 1, 3) := by decide +kernel
theorem dX3_divide_81 : decode cX3_divide 81 = .ok (.aload_n 0, 1) := by decide +kernel
theorem dX3_divide_82 : decode cX3_divide 82 = .ok (.aload_n 1, 1) := by decide +kernel
theorem dX3_divide_83 : decode cX3_divide 83 = .ok (.aload 4, 2) := by decide +kernel
theorem dX3_divide_85 : decode cX3_divide 85 = .ok (.iload 5, 2) := by decide +kernel
theorem dX3_divide_87 : decode cX3_divide 87 = .ok (.iload_n 2, 1) := by decide +kernel
theorem dX3_divide_88 : decode cX3_divide 88 = .ok (.invokevirtual 73, 3) := by decide +kernel
theorem dX3_divide_91 : decode cX3_divide 91 = .ok (.istore_n 2, 1) := by decide +kernel
theorem dX3_divide_92 : decode cX3_divide 92 = .ok (.goto (-48), 3) := by decide +kernel
theorem dX3_divide_95 : decode cX3_divide 95 = .ok (.iinc 3 1, 3) := by decide +kernel
theorem dX3_divide_98 : decode cX3_divide 98 = .ok (.goto (-94), 3) := by decide +kernel
theorem dX3_divide_101 : decode cX3_divide 101 = .ok (.return_, 1) := by decide +kernel
theorem dX3_viableCount_0 : decode cX3_viableCount 0 = .ok (.aload_n 0, 1) := by decide +kernel
theorem dX3_viableCount_1 : decode cX3_viableCount 1 = .ok (.iconst 1, 1) := by decide +kernel
theorem dX3_viableCount_2 : decode cX3_viableCount 2 = .ok (.putfield 77, 3) := by decide +kernel
theorem dX3_viableCount_5 : decode cX3_viableCount 5 = .ok (.iconst 1, 1) := by decide +kernel
theorem dX3_viableCount_6 : decode cX3_viableCount 6 = .ok (.istore_n 2, 1) := by decide +kernel
theorem dX3_viableCount_7 : decode cX3_viableCount 7 = .ok (.iconst 0, 1) := by decide +kernel
theorem dX3_viableCount_8 : decode cX3_viableCount 8 = .ok (.istore_n 3, 1) := by decide +kernel
theorem dX3_viableCount_9 : decode cX3_viableCount 9 = .ok (.iload_n 3, 1) := by decide +kernel
theorem dX3_viableCount_10 : decode cX3_viableCount 10 = .ok (.aload_n 0, 1) := by decide +kernel
theorem dX3_viableCount_11 : decode cX3_viableCount 11 = .ok (.getfield 24, 3) := by decide +kernel
theorem dX3_viableCount_14 : decode cX3_viableCount 14 = .ok (.invokevirtual 32, 3) := by decide +kernel
theorem dX3_viableCount_17 : decode cX3_viableCount 17 = .ok (.if_icmp .ge 23, 3) := by decide +kernel
theorem dX3_viableCount_20 : decode cX3_viableCount 20 = .ok (.aload_n 0, 1) := by decide +kernel
theorem dX3_viableCount_21 : decode cX3_viableCount 21 = .ok (.aload_n 0, 1) := by decide +kernel
theorem dX3_viableCount_22 : decode cX3_viableCount 22 = .ok (.getfield 24, 3) := by decide +kernel
theorem dX3_viableCount_25 : decode cX3_viableCount 25 = .ok (.iload_n 3, 1) := by decide +kernel
theorem dX3_viableCount_26 : decode cX3_viableCount 26 = .ok (.invokevirtual 47, 3) := by decide +kernel
theorem dX3_viableCount_29 : decode cX3_viableCount 29 = .ok (.iload_n 2, 1) := by decide +kernel
theorem dX3_viableCount_30 : decode cX3_viableCount 30 = .ok (.invokevirtual 80, 3) := by decide +kernel
theorem dX3_viableCount_33 : decode cX3_viableCount 33 = .ok (.istore_n 2, 1) := by decide +kernel
theorem dX3_viableCount_34 : decode cX3_viableCount 34 = .ok (.iinc 3 1, 3) := by decide +kernel
theorem dX3_viableCount_37 : decode cX3_viableCount 37 = .ok (.goto (-28), 3) := by decide +kernel
theorem dX3_viableCount_40 : decode cX3_viableCount 40 = .ok (.iconst 0, 1) := by decide +kernel
theorem dX3_viableCount_41 : decode cX3_viableCount 41 = .ok (.istore_n 3, 1) := by decide +kernel
theorem dX3_viableCount_42 : decode cX3_viableCount 42 = .ok (.iload_n 3, 1) := by decide +kernel
theorem dX3_viableCount_43 : decode cX3_viableCount 43 = .ok (.aload_n 1, 1) := by decide +kernel
theorem dX3_viableCount_44 : decode cX3_viableCount 44 = .ok (.invokevirtual 38, 3) := by decide +kernel
theorem dX3_viableCount_47 : decode cX3_viableCount 47 = .ok (.if_icmp .ge 22, 3) := by decide +kernel
theorem dX3_viableCount_50 : decode cX3_viableCount 50 = .ok (.aload_n 0, 1) := by decide +kernel
theorem dX3_viableCount_51 : decode cX3_viableCount 51 = .ok (.getfield 77, 3) := by decide +kernel
theorem dX3_viableCount_54 : decode cX3_viableCount 54 = .ok (.iload_n 3, 1) := by decide +kernel
theorem dX3_viableCount_55 : decode cX3_viableCount 55 = .ok (.iconst 1, 1) := by decide +kernel
theorem dX3_viableCount_56 : decode cX3_viableCount 56 = .ok (.iadd, 1) := by decide +kernel
theorem dX3_viableCount_57 : decode cX3_viableCount 57 = .ok (.invokestatic 59, 3) := by decide +kernel
theorem dX3_viableCount_60 : decode cX3_viableCount 60 = .ok (.ifCond .eq 9, 3) := by decide +kernel
theorem dX3_viableCount_63 : decode cX3_viableCount 63 = .ok (.iinc 3 1, 3) := by decide +kernel
theorem dX3_viableCount_66 : decode cX3_viableCount 66 = .ok (.goto (-24), 3) := by decide +kernel
theorem dX3_viableCount_69 : decode cX3_viableCount 69 = .ok (.iload_n 3, 1) := by decide +kernel
theorem dX3_viableCount_70 : decode cX3_viableCount 70 = .ok (.ireturn, 1) := by decide +kernel
theorem dX3_findMarks_0 : decode cX3_findMarks 0 = .ok (.iconst 0, 1) := by decide +kernel
theorem dX3_findMarks_1 : decode cX3_findMarks 1 = .ok (.istore_n 2, 1) := by decide +kernel
theorem dX3_findMarks_2 : decode cX3_findMarks 2 = .ok (.iload_n 2, 1) := by decide +kernel
theorem dX3_findMarks_3 : decode cX3_findMarks 3 = .ok (.aload_n 0, 1) := by decide +kernel
theorem dX3_findMarks_4 : decode cX3_findMarks 4 = .ok (.getfield 24, 3) := by decide +kernel
theorem dX3_findMarks_7 : decode cX3_findMarks 7 = .ok (.invokevirtual 83, 3) := by decide +kernel
theorem dX3_findMarks_10 : decode cX3_findMarks 10 = .ok (.if_icmp .ge 68, 3) := by decide +kernel
theorem dX3_findMarks_13 : decode cX3_findMarks 13 = .ok (.iconst 0, 1) := by decide +kernel
theorem dX3_findMarks_14 : decode cX3_findMarks 14 = .ok (.istore_n 3, 1) := by decide +kernel
theorem dX3_findMarks_15 : decode cX3_findMarks 15 = .ok (.iconst 0, 1) := by decide +kernel
theorem dX3_findMarks_16 : decode cX3_findMarks 16 = .ok (.istore 4, 2) := by decide +kernel
theorem dX3_findMarks_18 : decode cX3_findMarks 18 = .ok (.iload 4, 2) := by decide +kernel
theorem dX3_findMarks_20 : decode cX3_findMarks 20 = .ok (.aload_n 1, 1) := by decide +kernel
theorem dX3_findMarks_21 : decode cX3_findMarks 21 = .ok (.invokevirtual 38, 3) := by decide +kernel
theorem dX3_findMarks_24 : decode cX3_findMarks 24 = .ok (.if_icmp .ge 39, 3) := by decide +kernel
theorem dX3_findMarks_27 : decode cX3_findMarks 27 = .ok (.aload_n 1, 1) := by decide +kernel
theorem dX3_findMarks_28 : decode cX3_findMarks 28 = .ok (.iload 4, 2) := by decide +kernel
theorem dX3_findMarks_30 : decode cX3_findMarks 30 = .ok (.invokevirtual 86, 3) := by decide +kernel
theorem dX3_findMarks_33 : decode cX3_findMarks 33 = .ok (.invokevirtual 90, 3) := by decide +kernel
theorem dX3_findMarks_36 : decode cX3_findMarks 36 = .ok (.aload_n 0, 1) := by decide +kernel
theorem dX3_findMarks_37 : decode cX3_findMarks 37 = .ok (.getfield 24, 3) := by decide +kernel
theorem dX3_findMarks_40 : decode cX3_findMarks 40 = .ok (.iload_n 2, 1) := by decide +kernel
theorem dX3_findMarks_41 : decode cX3_findMarks 41 = .ok (.invokevirtual 96, 3) := by decide +kernel
theorem dX3_findMarks_44 : decode cX3_findMarks 44 = .ok (.getfield 100, 3) := by decide +kernel
theorem dX3_findMarks_47 : decode cX3_findMarks 47 = .ok (.if_icmp .ne 10, 3) := by decide +kernel
theorem dX3_findMarks_50 : decode cX3_findMarks 50 = .ok (.iload_n 3, 1) := by decide +kernel
theorem dX3_findMarks_51 : decode cX3_findMarks 51 = .ok (.iconst 1, 1) := by decide +kernel
theorem dX3_findMarks_52 : decode cX3_findMarks 52 = .ok (.iload 4, 2) := by decide +kernel
theorem dX3_findMarks_54 : decode cX3_findMarks 54 = .ok (.ishl, 1) := by decide +kernel
theorem dX3_findMarks_55 : decode cX3_findMarks 55 = .ok (.ior, 1) := by decide +kernel
theorem dX3_findMarks_56 : decode cX3_findMarks 56 = .ok (.istore_n 3, 1) := by decide +kernel
theorem dX3_findMarks_57 : decode cX3_findMarks 57 = .ok (.iinc 4 1, 3) := by decide +kernel
theorem dX3_findMarks_60 : decode cX3_findMarks 60 = .ok (.goto (-42), 3) := by decide +kernel
theorem dX3_findMarks_63 : decode cX3_findMarks 63 = .ok (.aload_n 0, 1) := by decide +kernel
theorem dX3_findMarks_64 : decode cX3_findMarks 64 = .ok (.getfield 9, 3) := by decide +kernel
theorem dX3_findMarks_67 : decode cX3_findMarks 67 = .ok (.iload_n 2, 1) := by decide +kernel
theorem dX3_findMarks_68 : decode cX3_findMarks 68 = .ok (.iload_n 3, 1) := by decide +kernel
theorem dX3_findMarks_69 : decode cX3_findMarks 69 = .ok (.invokestatic 43, 3) := by decide +kernel
theorem dX3_findMarks_72 : decode cX3_findMarks 72 = .ok (.iinc 2 1, 3) := by decide +kernel
theorem dX3_findMarks_75 : decode cX3_findMarks 75 = .ok (.goto (-73), 3) := by decide +kernel
theorem dX3_findMarks_78 : decode cX3_findMarks 78 = .ok (.return_, 1) := by decide +kernel
theorem dX3_at_0 : decode cX3_at 0 = .ok (.iload_n 1, 1) := by decide +kernel
theorem dX3_at_1 : decode cX3_at 1 = .ok (.ifCond .lt 15, 3) := by decide +kernel
theorem dX3_at_4 : decode cX3_at 4 = .ok (.iload_n 1, 1) := by decide +kernel
theorem dX3_at_5 : decode cX3_at 5 = .ok (.aload_n 0, 1) := by decide +kernel
theorem dX3_at_6 : decode cX3_at 6 = .ok (.arraylength, 1) := by decide +kernel
theorem dX3_at_7 : decode cX3_at 7 = .ok (.if_icmp .ge 9, 3) := by decide +kernel
theorem dX3_at_10 : decode cX3_at 10 = .ok (.aload_n 0, 1) := by decide +kernel
theorem dX3_at_11 : decode cX3_at 11 = .ok (.iload_n 1, 1) := by decide +kernel
theorem dX3_at_12 : decode cX3_at 12 = .ok (.iaload, 1) := by decide +kernel
theorem dX3_at_13 : decode cX3_at 13 = .ok (.goto 4, 3) := by decide +kernel
theorem dX3_at_16 : decode cX3_at 16 = .ok (.iconst 0, 1) := by decide +kernel
theorem dX3_at_17 : decode cX3_at 17 = .ok (.ireturn, 1) := by decide +kernel
theorem dX3_put_0 : decode cX3_put 0 = .ok (.iload_n 1, 1) := by decide +kernel
theorem dX3_put_1 : decode cX3_put 1 = .ok (.ifCond .lt 13, 3) := by decide +kernel
theorem dX3_put_4 : decode cX3_put 4 = .ok (.iload_n 1, 1) := by decide +kernel
theorem dX3_put_5 : decode cX3_put 5 = .ok (.aload_n 0, 1) := by decide +kernel
theorem dX3_put_6 : decode cX3_put 6 = .ok (.arraylength, 1) := by decide +kernel
theorem dX3_put_7 : decode cX3_put 7 = .ok (.if_icmp .ge 7, 3) := by decide +kernel
theorem dX3_put_10 : decode cX3_put 10 = .ok (.aload_n 0, 1) := by decide +kernel
theorem dX3_put_11 : decode cX3_put 11 = .ok (.iload_n 1, 1) := by decide +kernel
theorem dX3_put_12 : decode cX3_put 12 = .ok (.iload_n 2, 1) := by decide +kernel
theorem dX3_put_13 : decode cX3_put 13 = .ok (.iastore, 1) := by decide +kernel
theorem dX3_put_14 : decode cX3_put 14 = .ok (.return_, 1) := by decide +kernel
theorem dX3_contains_0 : decode cX3_contains 0 = .ok (.iload_n 0, 1) := by decide +kernel
theorem dX3_contains_1 : decode cX3_contains 1 = .ok (.iload_n 1, 1) := by decide +kernel
theorem dX3_contains_2 : decode cX3_contains 2 = .ok (.ishr, 1) := by decide +kernel
theorem dX3_contains_3 : decode cX3_contains 3 = .ok (.iconst 1, 1) := by decide +kernel
theorem dX3_contains_4 : decode cX3_contains 4 = .ok (.iand, 1) := by decide +kernel
theorem dX3_contains_5 : decode cX3_contains 5 = .ok (.iconst 1, 1) := by decide +kernel
theorem dX3_contains_6 : decode cX3_contains 6 = .ok (.if_icmp .ne 7, 3) := by decide +kernel
theorem dX3_contains_9 : decode cX3_contains 9 = .ok (.iconst 1, 1) := by decide +kernel
theorem dX3_contains_10 : decode cX3_contains 10 = .ok (.goto 4, 3) := by decide +kernel
theorem dX3_contains_13 : decode cX3_contains 13 = .ok (.iconst 0, 1) := by decide +kernel
theorem dX3_contains_14 : decode cX3_contains 14 = .ok (.ireturn, 1) := by decide +kernel
theorem dX3_findAfters_0 : decode cX3_findAfters 0 = .ok (.aload_n 0, 1) := by decide +kernel
theorem dX3_findAfters_1 : decode cX3_findAfters 1 = .ok (.getfield 18, 3) := by decide +kernel
theorem dX3_findAfters_4 : decode cX3_findAfters 4 = .ok (.aload_n 1, 1) := by decide +kernel
theorem dX3_findAfters_5 : decode cX3_findAfters 5 = .ok (.getfield 63, 3) := by decide +kernel
theorem dX3_findAfters_8 : decode cX3_findAfters 8 = .ok (.iload_n 2, 1) := by decide +kernel
theorem dX3_findAfters_9 : decode cX3_findAfters 9 = .ok (.invokestatic 43, 3) := by decide +kernel
theorem dX3_findAfters_12 : decode cX3_findAfters 12 = .ok (.aload_n 1, 1) := by decide +kernel
theorem dX3_findAfters_13 : decode cX3_findAfters 13 = .ok (.getfield 63, 3) := by decide +kernel
theorem dX3_findAfters_16 : decode cX3_findAfters 16 = .ok (.iconst 1, 1) := by decide +kernel
theorem dX3_findAfters_17 : decode cX3_findAfters 17 = .ok (.isub, 1) := by decide +kernel
theorem dX3_findAfters_18 : decode cX3_findAfters 18 = .ok (.istore_n 3, 1) := by decide +kernel
theorem dX3_findAfters_19 : decode cX3_findAfters 19 = .ok (.iload_n 3, 1) := by decide +kernel
theorem dX3_findAfters_20 : decode cX3_findAfters 20 = .ok (.ifCond .lt 51, 3) := by decide +kernel
theorem dX3_findAfters_23 : decode cX3_findAfters 23 = .ok (.aload_n 0, 1) := by decide +kernel
theorem dX3_findAfters_24 : decode cX3_findAfters 24 = .ok (.aload_n 1, 1) := by decide +kernel
theorem dX3_findAfters_25 : decode cX3_findAfters 25 = .ok (.aload_n 0, 1) := by decide +kernel
theorem dX3_findAfters_26 : decode cX3_findAfters 26 = .ok (.getfield 18, 3) := by decide +kernel
theorem dX3_findAfters_29 : decode cX3_findAfters 29 = .ok (.iload_n 3, 1) := by decide +kernel
theorem dX3_findAfters_30 : decode cX3_findAfters 30 = .ok (.iconst 1, 1) := by decide +kernel
theorem dX3_findAfters_31 : decode cX3_findAfters 31 = .ok (.iadd, 1) := by decide +kernel
theorem dX3_findAfters_32 : decode cX3_findAfters 32 = .ok (.invokestatic 51, 3) := by decide +kernel
theorem dX3_findAfters_35 : decode cX3_findAfters 35 = .ok (.invokevirtual 69, 3) := by decide +kernel
theorem dX3_findAfters_38 : decode cX3_findAfters 38 = .ok (.istore 4, 2) := by decide +kernel
theorem dX3_findAfters_40 : decode cX3_findAfters 40 = .ok (.aload_n 0, 1) := by decide +kernel
theorem dX3_findAfters_41 : decode cX3_findAfters 41 = .ok (.getfield 18, 3) := by decide +kernel
theorem dX3_findAfters_44 : decode cX3_findAfters 44 = .ok (.iload_n 3, 1) := by decide +kernel
theorem dX3_findAfters_45 : decode cX3_findAfters 45 = .ok (.iload_n 3, 1) := by decide +kernel
theorem dX3_findAfters_46 : decode cX3_findAfters 46 = .ok (.aload_n 1, 1) := by decide +kernel
theorem dX3_findAfters_47 : decode cX3_findAfters 47 = .ok (.getfield 105, 3) := by decide +kernel
theorem dX3_findAfters_50 : decode cX3_findAfters 50 = .ok (.if_icmp .lt 10, 3) := by decide +kernel
theorem dX3_findAfters_53 : decode cX3_findAfters 53 = .ok (.iload 4, 2) := by decide +kernel
theorem dX3_findAfters_55 : decode cX3_findAfters 55 = .ok (.iload_n 2, 1) := by decide +kernel
theorem dX3_findAfters_56 : decode cX3_findAfters 56 = .ok (.ior, 1) := by decide +kernel
theorem dX3_findAfters_57 : decode cX3_findAfters 57 = .ok (.goto 5, 3) := by decide +kernel
theorem dX3_findAfters_60 : decode cX3_findAfters 60 = .ok (.iload 4, 2) := by decide +kernel
theorem dX3_findAfters_62 : decode cX3_findAfters 62 = .ok (.invokestatic 43, 3) := by decide +kernel
theorem dX3_findAfters_65 : decode cX3_findAfters 65 = .ok (.iinc 3 (-1), 3) := by decide +kernel
theorem dX3_findAfters_68 : decode cX3_findAfters 68 = .ok (.goto (-49), 3) := by decide +kernel
theorem dX3_findAfters_71 : decode cX3_findAfters 71 = .ok (.return_, 1) := by decide +kernel
theorem dX3_placesBeforePass_0 : decode cX3_placesBeforePass 0 = .ok (.iconst 0, 1) := by decide +kernel
theorem dX3_placesBeforePass_1 : decode cX3_placesBeforePass 1 = .ok (.istore_n 3, 1) := by decide +kernel
theorem dX3_placesBeforePass_2 : decode cX3_placesBeforePass 2 = .ok (.aload_n 0, 1) := by decide +kernel
theorem dX3_placesBeforePass_3 : decode cX3_placesBeforePass 3 = .ok (.getfield 21, 3) := by decide +kernel
theorem dX3_placesBeforePass_6 : decode cX3_placesBeforePass 6 = .ok (.aload_n 1, 1) := by decide +kernel
theorem dX3_placesBeforePass_7 : decode cX3_placesBeforePass 7 = .ok (.getfield 108, 3) := by decide +kernel
theorem dX3_placesBeforePass_10 : decode cX3_placesBeforePass 10 = .ok (.iload_n 2, 1) := by decide +kernel
theorem dX3_placesBeforePass_11 : decode cX3_placesBeforePass 11 = .ok (.invokestatic 43, 3) := by decide +kernel
theorem dX3_placesBeforePass_14 : decode cX3_placesBeforePass 14 = .ok (.aload_n 1, 1) := by decide +kernel
theorem dX3_placesBeforePass_15 : decode cX3_placesBeforePass 15 = .ok (.getfield 108, 3) := by decide +kernel
theorem dX3_placesBeforePass_18 : decode cX3_placesBeforePass 18 = .ok (.iconst 1, 1) := by decide +kernel
theorem dX3_placesBeforePass_19 : decode cX3_placesBeforePass 19 = .ok (.isub, 1) := by decide +kernel
theorem dX3_placesBeforePass_20 : decode cX3_placesBeforePass 20 = .ok (.istore 4, 2) := by decide +kernel
theorem dX3_placesBeforePass_22 : decode cX3_placesBeforePass 22 = .ok (.iload 4, 2) := by decide +kernel
theorem dX3_placesBeforePass_24 : decode cX3_placesBeforePass 24 = .ok (.aload_n 1, 1) := by decide +kernel
theorem dX3_placesBeforePass_25 : decode cX3_placesBeforePass 25 = .ok (.getfield 111, 3) := by decide +kernel
theorem dX3_placesBeforePass_28 : decode cX3_placesBeforePass 28 = .ok (.if_icmp .lt 117, 3) := by decide +kernel
theorem dX3_placesBeforePass_31 : decode cX3_placesBeforePass 31 = .ok (.aload_n 0, 1) := by decide +kernel
theorem dX3_placesBeforePass_32 : decode cX3_placesBeforePass 32 = .ok (.getfield 24, 3) := by decide +kernel
theorem dX3_placesBeforePass_35 : decode cX3_placesBeforePass 35 = .ok (.iload 4, 2) := by decide +kernel
theorem dX3_placesBeforePass_37 : decode cX3_placesBeforePass 37 = .ok (.invokevirtual 96, 3) := by decide +kernel
theorem dX3_placesBeforePass_40 : decode cX3_placesBeforePass 40 = .ok (.astore 5, 2) := by decide +kernel
theorem dX3_placesBeforePass_42 : decode cX3_placesBeforePass 42 = .ok (.aload_n 0, 1) := by decide +kernel
theorem dX3_placesBeforePass_43 : decode cX3_placesBeforePass 43 = .ok (.getfield 21, 3) := by decide +kernel
theorem dX3_placesBeforePass_46 : decode cX3_placesBeforePass 46 = .ok (.iload 4, 2) := by decide +kernel
theorem dX3_placesBeforePass_48 : decode cX3_placesBeforePass 48 = .ok (.iconst 1, 1) := by decide +kernel
theorem dX3_placesBeforePass_49 : decode cX3_placesBeforePass 49 = .ok (.iadd, 1) := by decide +kernel
theorem dX3_placesBeforePass_50 : decode cX3_placesBeforePass 50 = .ok (.invokestatic 51, 3) := by decide +kernel
theorem dX3_placesBeforePass_53 : decode cX3_placesBeforePass 53 = .ok (.istore 6, 2) := by decide +kernel
theorem dX3_placesBeforePass_55 : decode cX3_placesBeforePass 55 = .ok (.aload_n 0, 1) := by decide +kernel
theorem dX3_placesBeforePass_56 : decode cX3_placesBeforePass 56 = .ok (.getfield 9, 3) := by decide +kernel
theorem dX3_placesBeforePass_59 : decode cX3_placesBeforePass 59 = .ok (.iload 4, 2) := by decide +kernel
theorem dX3_placesBeforePass_61 : decode cX3_placesBeforePass 61 = .ok (.invokestatic 51, 3) := by decide +kernel
theorem dX3_placesBeforePass_64 : decode cX3_placesBeforePass 64 = .ok (.aload 5, 2) := by decide +kernel
theorem dX3_placesBeforePass_66 : decode cX3_placesBeforePass 66 = .ok (.getfield 114, 3) := by decide +kernel
theorem dX3_placesBeforePass_69 : decode cX3_placesBeforePass 69 = .ok (.iconst 1, 1) := by decide +kernel
theorem dX3_placesBeforePass_70 : decode cX3_placesBeforePass 70 = .ok (.invokestatic 115, 3) := by decide +kernel
theorem dX3_placesBeforePass_73 : decode cX3_placesBeforePass 73 = .ok (.aload 5, 2) := by decide +kernel
theorem dX3_placesBeforePass_75 : decode cX3_placesBeforePass 75 = .ok (.getfield 121, 3) := by decide +kernel
theorem dX3_placesBeforePass_78 : decode cX3_placesBeforePass 78 = .ok (.iload 6, 2) := by decide +kernel
theorem dX3_placesBeforePass_80 : decode cX3_placesBeforePass 80 = .ok (.invokestatic 122, 3) := by decide +kernel
theorem dX3_placesBeforePass_83 : decode cX3_placesBeforePass 83 = .ok (.istore 7, 2) := by decide +kernel
theorem dX3_placesBeforePass_85 : decode cX3_placesBeforePass 85 = .ok (.aload 5, 2) := by decide +kernel
theorem dX3_placesBeforePass_87 : decode cX3_placesBeforePass 87 = .ok (.getfield 114, 3) := by decide +kernel
theorem dX3_placesBeforePass_90 : decode cX3_placesBeforePass 90 = .ok (.ifCond .ne 7, 3) := by decide +kernel
theorem dX3_placesBeforePass_93 : decode cX3_placesBeforePass 93 = .ok (.iconst 1, 1) := by decide +kernel
theorem dX3_placesBeforePass_94 : decode cX3_placesBeforePass 94 = .ok (.goto 4, 3) := by decide +kernel
theorem dX3_placesBeforePass_97 : decode cX3_placesBeforePass 97 = .ok (.iconst 0, 1) := by decide +kernel
theorem dX3_placesBeforePass_98 : decode cX3_placesBeforePass 98 = .ok (.istore 8, 2) := by decide +kernel
theorem dX3_placesBeforePass_100 : decode cX3_placesBeforePass 100 = .ok (.aload_n 0, 1) := by decide +kernel
theorem dX3_placesBeforePass_101 : decode cX3_placesBeforePass 101 = .ok (.getfield 21, 3) := by decide +kernel
theorem dX3_placesBeforePass_104 : decode cX3_placesBeforePass 104 = .ok (.iload 4, 2) := by decide +kernel
theorem dX3_placesBeforePass_106 : decode cX3_placesBeforePass 106 = .ok (.iload 8, 2) := by decide +kernel
theorem dX3_placesBeforePass_108 : decode cX3_placesBeforePass 108 = .ok (.ifCond .eq 11, 3) := by decide +kernel
theorem dX3_placesBeforePass_111 : decode cX3_placesBeforePass 111 = .ok (.iload 7, 2) := by decide +kernel
theorem dX3_placesBeforePass_113 : decode cX3_placesBeforePass 113 = .ok (.iload 6, 2) := by decide +kernel
theorem dX3_placesBeforePass_115 : decode cX3_placesBeforePass 115 = .ok (.ior, 1) := by decide +kernel
theorem dX3_placesBeforePass_116 : decode cX3_placesBeforePass 116 = .ok (.goto 5, 3) := by decide +kernel
theorem dX3_placesBeforePass_119 : decode cX3_placesBeforePass 119 = .ok (.iload 7, 2) := by decide +kernel
theorem dX3_placesBeforePass_121 : decode cX3_placesBeforePass 121 = .ok (.invokestatic 43, 3) := by decide +kernel
theorem dX3_placesBeforePass_124 : decode cX3_placesBeforePass 124 = .ok (.iload 8, 2) := by decide +kernel
theorem dX3_placesBeforePass_126 : decode cX3_placesBeforePass 126 = .ok (.ifCond .eq 10, 3) := by decide +kernel
theorem dX3_placesBeforePass_129 : decode cX3_placesBeforePass 129 = .ok (.iload 7, 2) := by decide +kernel
theorem dX3_placesBeforePass_131 : decode cX3_placesBeforePass 131 = .ok (.iload_n 3, 1) := by decide +kernel
theorem dX3_placesBeforePass_132 : decode cX3_placesBeforePass 132 = .ok (.ior, 1) := by decide +kernel
theorem dX3_placesBeforePass_133 : decode cX3_placesBeforePass 133 = .ok (.goto 5, 3) := by decide +kernel
theorem dX3_placesBeforePass_136 : decode cX3_placesBeforePass 136 = .ok (.iload 7, 2) := by decide +kernel
theorem dX3_placesBeforePass_138 : decode cX3_placesBeforePass 138 = .ok (.istore_n 3, 1) := by decide +kernel
theorem dX3_placesBeforePass_139 : decode cX3_placesBeforePass 139 = .ok (.iinc 4 (-1), 3) := by decide +kernel
theorem dX3_placesBeforePass_142 : decode cX3_placesBeforePass 142 = .ok (.goto (-120), 3) := by decide +kernel
theorem dX3_placesBeforePass_145 : decode cX3_placesBeforePass 145 = .ok (.iload_n 3, 1) := by decide +kernel
theorem dX3_placesBeforePass_146 : decode cX3_placesBeforePass 146 = .ok (.ireturn, 1) := by decide +kernel
theorem dX3_placesBeforeItem_0 : decode cX3_placesBeforeItem 0 = .ok (.iconst 0, 1) := by decide +kernel
theorem dX3_placesBeforeItem_1 : decode cX3_placesBeforeItem 1 = .ok (.istore 4, 2) := by decide +kernel
theorem dX3_placesBeforeItem_3 : decode cX3_placesBeforeItem 3 = .ok (.iload_n 3, 1) := by decide +kernel
theorem dX3_placesBeforeItem_4 : decode cX3_placesBeforeItem 4 = .ok (.istore 5, 2) := by decide +kernel
theorem dX3_placesBeforeItem_6 : decode cX3_placesBeforeItem 6 = .ok (.iconst 0, 1) := by decide +kernel
theorem dX3_placesBeforeItem_7 : decode cX3_placesBeforeItem 7 = .ok (.istore 6, 2) := by decide +kernel
theorem dX3_placesBeforeItem_9 : decode cX3_placesBeforeItem 9 = .ok (.iload 6, 2) := by decide +kernel
theorem dX3_placesBeforeItem_11 : decode cX3_placesBeforeItem 11 = .ok (.iload_n 2, 1) := by decide +kernel
theorem dX3_placesBeforeItem_12 : decode cX3_placesBeforeItem 12 = .ok (.if_icmp .gt 35, 3) := by decide +kernel
theorem dX3_placesBeforeItem_15 : decode cX3_placesBeforeItem 15 = .ok (.iload 5, 2) := by decide +kernel
theorem dX3_placesBeforeItem_17 : decode cX3_placesBeforeItem 17 = .ok (.ifCond .eq 30, 3) := by decide +kernel
theorem dX3_placesBeforeItem_20 : decode cX3_placesBeforeItem 20 = .ok (.iload 6, 2) := by decide +kernel
theorem dX3_placesBeforeItem_22 : decode cX3_placesBeforeItem 22 = .ok (.iload_n 1, 1) := by decide +kernel
theorem dX3_placesBeforeItem_23 : decode cX3_placesBeforeItem 23 = .ok (.if_icmp .lt 10, 3) := by decide +kernel
theorem dX3_placesBeforeItem_26 : decode cX3_placesBeforeItem 26 = .ok (.iload 4, 2) := by decide +kernel
theorem dX3_placesBeforeItem_28 : decode cX3_placesBeforeItem 28 = .ok (.iload 5, 2) := by decide +kernel
theorem dX3_placesBeforeItem_30 : decode cX3_placesBeforeItem 30 = .ok (.ior, 1) := by decide +kernel
theorem dX3_placesBeforeItem_31 : decode cX3_placesBeforeItem 31 = .ok (.istore 4, 2) := by decide +kernel
theorem dX3_placesBeforeItem_33 : decode cX3_placesBeforeItem 33 = .ok (.iload 5, 2) := by decide +kernel
theorem dX3_placesBeforeItem_35 : decode cX3_placesBeforeItem 35 = .ok (.iconst 1, 1) := by decide +kernel
theorem dX3_placesBeforeItem_36 : decode cX3_placesBeforeItem 36 = .ok (.ishr, 1) := by decide +kernel
theorem dX3_placesBeforeItem_37 : decode cX3_placesBeforeItem 37 = .ok (.iload_n 0, 1) := by decide +kernel
theorem dX3_placesBeforeItem_38 : decode cX3_placesBeforeItem 38 = .ok (.iand, 1) := by decide +kernel
theorem dX3_placesBeforeItem_39 : decode cX3_placesBeforeItem 39 = .ok (.istore 5, 2) := by decide +kernel
theorem dX3_placesBeforeItem_41 : decode cX3_placesBeforeItem 41 = .ok (.iinc 6 1, 3) := by decide +kernel
theorem dX3_placesBeforeItem_44 : decode cX3_placesBeforeItem 44 = .ok (.goto (-35), 3) := by decide +kernel
theorem dX3_placesBeforeItem_47 : decode cX3_placesBeforeItem 47 = .ok (.iload 4, 2) := by decide +kernel
theorem dX3_placesBeforeItem_49 : decode cX3_placesBeforeItem 49 = .ok (.ireturn, 1) := by decide +kernel
theorem dX3_dividePass_0 : decode cX3_dividePass 0 = .ok (.iload 4, 2) := by decide +kernel
theorem dX3_dividePass_2 : decode cX3_dividePass 2 = .ok (.istore 5, 2) := by decide +kernel
theorem dX3_dividePass_4 : decode cX3_dividePass 4 = .ok (.aload_n 2, 1) := by decide +kernel
theorem dX3_dividePass_5 : decode cX3_dividePass 5 = .ok (.getfield 111, 3) := by decide +kernel
theorem dX3_dividePass_8 : decode cX3_dividePass 8 = .ok (.istore 6, 2) := by decide +kernel
theorem dX3_dividePass_10 : decode cX3_dividePass 10 = .ok (.iload 6, 2) := by decide +kernel
theorem dX3_dividePass_12 : decode cX3_dividePass 12 = .ok (.aload_n 2, 1) := by decide +kernel
theorem dX3_dividePass_13 : decode cX3_dividePass 13 = .ok (.getfield 108, 3) := by decide +kernel
theorem dX3_dividePass_16 : decode cX3_dividePass 16 = .ok (.if_icmp .ge 69, 3) := by decide +kernel
theorem dX3_dividePass_19 : decode cX3_dividePass 19 = .ok (.aload_n 0, 1) := by decide +kernel
theorem dX3_dividePass_20 : decode cX3_dividePass 20 = .ok (.iload 6, 2) := by decide +kernel
theorem dX3_dividePass_22 : decode cX3_dividePass 22 = .ok (.iload 5, 2) := by decide +kernel
theorem dX3_dividePass_24 : decode cX3_dividePass 24 = .ok (.invokevirtual 126, 3) := by decide +kernel
theorem dX3_dividePass_27 : decode cX3_dividePass 27 = .ok (.istore 7, 2) := by decide +kernel
theorem dX3_dividePass_29 : decode cX3_dividePass 29 = .ok (.iload 5, 2) := by decide +kernel
theorem dX3_dividePass_31 : decode cX3_dividePass 31 = .ok (.istore 8, 2) := by decide +kernel
theorem dX3_dividePass_33 : decode cX3_dividePass 33 = .ok (.iload 8, 2) := by decide +kernel
theorem dX3_dividePass_35 : decode cX3_dividePass 35 = .ok (.iload 5, 2) := by decide +kernel
theorem dX3_dividePass_37 : decode cX3_dividePass 37 = .ok (.iload 7, 2) := by decide +kernel
theorem dX3_dividePass_39 : decode cX3_dividePass 39 = .ok (.iadd, 1) := by decide +kernel
theorem dX3_dividePass_40 : decode cX3_dividePass 40 = .ok (.if_icmp .ge 32, 3) := by decide +kernel
theorem dX3_dividePass_43 : decode cX3_dividePass 43 = .ok (.aload_n 1, 1) := by decide +kernel
theorem dX3_dividePass_44 : decode cX3_dividePass 44 = .ok (.iload 8, 2) := by decide +kernel
theorem dX3_dividePass_46 : decode cX3_dividePass 46 = .ok (.invokevirtual 86, 3) := by decide +kernel
theorem dX3_dividePass_49 : decode cX3_dividePass 49 = .ok (.iload 6, 2) := by decide +kernel
theorem dX3_dividePass_51 : decode cX3_dividePass 51 = .ok (.aload_n 2, 1) := by decide +kernel
theorem dX3_dividePass_52 : decode cX3_dividePass 52 = .ok (.getfield 129, 3) := by decide +kernel
theorem dX3_dividePass_55 : decode cX3_dividePass 55 = .ok (.ifCond .eq 7, 3) := by decide +kernel
theorem dX3_dividePass_58 : decode cX3_dividePass 58 = .ok (.iload_n 3, 1) := by decide +kernel
theorem dX3_dividePass_59 : decode cX3_dividePass 59 = .ok (.goto 4, 3) := by decide +kernel
theorem dX3_dividePass_62 : decode cX3_dividePass 62 = .ok (.iconst 0, 1) := by decide +kernel
theorem dX3_dividePass_63 : decode cX3_dividePass 63 = .ok (.invokevirtual 133, 3) := by decide +kernel
theorem dX3_dividePass_66 : decode cX3_dividePass 66 = .ok (.iinc 8 1, 3) := by decide +kernel
theorem dX3_dividePass_69 : decode cX3_dividePass 69 = .ok (.goto (-36), 3) := by decide +kernel
theorem dX3_dividePass_72 : decode cX3_dividePass 72 = .ok (.iload 5, 2) := by decide +kernel
theorem dX3_dividePass_74 : decode cX3_dividePass 74 = .ok (.iload 7, 2) := by decide +kernel
theorem dX3_dividePass_76 : decode cX3_dividePass 76 = .ok (.iadd, 1) := by decide +kernel
theorem dX3_dividePass_77 : decode cX3_dividePass 77 = .ok (.istore 5, 2) := by decide +kernel
theorem dX3_dividePass_79 : decode cX3_dividePass 79 = .ok (.iinc 6 1, 3) := by decide +kernel
theorem dX3_dividePass_82 : decode cX3_dividePass 82 = .ok (.goto (-72), 3) := by decide +kernel
theorem dX3_dividePass_85 : decode cX3_dividePass 85 = .ok (.iload 5, 2) := by decide +kernel
theorem dX3_dividePass_87 : decode cX3_dividePass 87 = .ok (.ireturn, 1) := by decide +kernel
theorem dX3_greatestTimes_0 : decode cX3_greatestTimes 0 = .ok (.aload_n 0, 1) := by decide +kernel
theorem dX3_greatestTimes_1 : decode cX3_greatestTimes 1 = .ok (.getfield 24, 3) := by decide +kernel
theorem dX3_greatestTimes_4 : decode cX3_greatestTimes 4 = .ok (.iload_n 1, 1) := by decide +kernel
theorem dX3_greatestTimes_5 : decode cX3_greatestTimes 5 = .ok (.invokevirtual 96, 3) := by decide +kernel
theorem dX3_greatestTimes_8 : decode cX3_greatestTimes 8 = .ok (.astore_n 3, 1) := by decide +kernel
theorem dX3_greatestTimes_9 : decode cX3_greatestTimes 9 = .ok (.aload_n 0, 1) := by decide +kernel
theorem dX3_greatestTimes_10 : decode cX3_greatestTimes 10 = .ok (.getfield 21, 3) := by decide +kernel
theorem dX3_greatestTimes_13 : decode cX3_greatestTimes 13 = .ok (.iload_n 1, 1) := by decide +kernel
theorem dX3_greatestTimes_14 : decode cX3_greatestTimes 14 = .ok (.iconst 1, 1) := by decide +kernel
theorem dX3_greatestTimes_15 : decode cX3_greatestTimes 15 = .ok (.iadd, 1) := by decide +kernel
theorem dX3_greatestTimes_16 : decode cX3_greatestTimes 16 = .ok (.invokestatic 51, 3) := by decide +kernel
theorem dX3_greatestTimes_19 : decode cX3_greatestTimes 19 = .ok (.istore 4, 2) := by decide +kernel
theorem dX3_greatestTimes_21 : decode cX3_greatestTimes 21 = .ok (.iconst 0, 1) := by decide +kernel
theorem dX3_greatestTimes_22 : decode cX3_greatestTimes 22 = .ok (.istore 5, 2) := by decide +kernel
theorem dX3_greatestTimes_24 : decode cX3_greatestTimes 24 = .ok (.iconst 0, 1) := by decide +kernel
theorem dX3_greatestTimes_25 : decode cX3_greatestTimes 25 = .ok (.istore 6, 2) := by decide +kernel
theorem dX3_greatestTimes_27 : decode cX3_greatestTimes 27 = .ok (.iload 6, 2) := by decide +kernel
theorem dX3_greatestTimes_29 : decode cX3_greatestTimes 29 = .ok (.aload_n 3, 1) := by decide +kernel
theorem dX3_greatestTimes_30 : decode cX3_greatestTimes 30 = .ok (.getfield 121, 3) := by decide +kernel
theorem dX3_greatestTimes_33 : decode cX3_greatestTimes 33 = .ok (.if_icmp .gt 55, 3) := by decide +kernel
theorem dX3_greatestTimes_36 : decode cX3_greatestTimes 36 = .ok (.iload 6, 2) := by decide +kernel
theorem dX3_greatestTimes_38 : decode cX3_greatestTimes 38 = .ok (.aload_n 3, 1) := by decide +kernel
theorem dX3_greatestTimes_39 : decode cX3_greatestTimes 39 = .ok (.getfield 114, 3) := by decide +kernel
theorem dX3_greatestTimes_42 : decode cX3_greatestTimes 42 = .ok (.if_icmp .lt 19, 3) := by decide +kernel
theorem dX3_greatestTimes_45 : decode cX3_greatestTimes 45 = .ok (.iload 4, 2) := by decide +kernel
theorem dX3_greatestTimes_47 : decode cX3_greatestTimes 47 = .ok (.iload_n 2, 1) := by decide +kernel
theorem dX3_greatestTimes_48 : decode cX3_greatestTimes 48 = .ok (.iload 6, 2) := by decide +kernel
theorem dX3_greatestTimes_50 : decode cX3_greatestTimes 50 = .ok (.iadd, 1) := by decide +kernel
theorem dX3_greatestTimes_51 : decode cX3_greatestTimes 51 = .ok (.invokestatic 59, 3) := by decide +kernel
theorem dX3_greatestTimes_54 : decode cX3_greatestTimes 54 = .ok (.ifCond .eq 7, 3) := by decide +kernel
theorem dX3_greatestTimes_57 : decode cX3_greatestTimes 57 = .ok (.iload 6, 2) := by decide +kernel
theorem dX3_greatestTimes_59 : decode cX3_greatestTimes 59 = .ok (.istore 5, 2) := by decide +kernel
theorem dX3_greatestTimes_61 : decode cX3_greatestTimes 61 = .ok (.aload_n 0, 1) := by decide +kernel
theorem dX3_greatestTimes_62 : decode cX3_greatestTimes 62 = .ok (.getfield 9, 3) := by decide +kernel
theorem dX3_greatestTimes_65 : decode cX3_greatestTimes 65 = .ok (.iload_n 1, 1) := by decide +kernel
theorem dX3_greatestTimes_66 : decode cX3_greatestTimes 66 = .ok (.invokestatic 51, 3) := by decide +kernel
theorem dX3_greatestTimes_69 : decode cX3_greatestTimes 69 = .ok (.iload_n 2, 1) := by decide +kernel
theorem dX3_greatestTimes_70 : decode cX3_greatestTimes 70 = .ok (.iload 6, 2) := by decide +kernel
theorem dX3_greatestTimes_72 : decode cX3_greatestTimes 72 = .ok (.iadd, 1) := by decide +kernel
theorem dX3_greatestTimes_73 : decode cX3_greatestTimes 73 = .ok (.invokestatic 59, 3) := by decide +kernel
theorem dX3_greatestTimes_76 : decode cX3_greatestTimes 76 = .ok (.ifCond .ne 6, 3) := by decide +kernel
theorem dX3_greatestTimes_79 : decode cX3_greatestTimes 79 = .ok (.goto 9, 3) := by decide +kernel
theorem dX3_greatestTimes_82 : decode cX3_greatestTimes 82 = .ok (.iinc 6 1, 3) := by decide +kernel
theorem dX3_greatestTimes_85 : decode cX3_greatestTimes 85 = .ok (.goto (-58), 3) := by decide +kernel
theorem dX3_greatestTimes_88 : decode cX3_greatestTimes 88 = .ok (.iload 5, 2) := by decide +kernel
theorem dX3_greatestTimes_90 : decode cX3_greatestTimes 90 = .ok (.ireturn, 1) := by decide +kernel
theorem dX3_placesBehindEntry_0 : decode cX3_placesBehindEntry 0 = .ok (.iconst 0, 1) := by decide +kernel
theorem dX3_placesBehindEntry_1 : decode cX3_placesBehindEntry 1 = .ok (.istore_n 3, 1) := by decide +kernel
theorem dX3_placesBehindEntry_2 : decode cX3_placesBehindEntry 2 = .ok (.iload_n 2, 1) := by decide +kernel
theorem dX3_placesBehindEntry_3 : decode cX3_placesBehindEntry 3 = .ok (.istore 4, 2) := by decide +kernel
theorem dX3_placesBehindEntry_5 : decode cX3_placesBehindEntry 5 = .ok (.iconst 0, 1) := by decide +kernel
theorem dX3_placesBehindEntry_6 : decode cX3_placesBehindEntry 6 = .ok (.istore 5, 2) := by decide +kernel
theorem dX3_placesBehindEntry_8 : decode cX3_placesBehindEntry 8 = .ok (.iload 5, 2) := by decide +kernel
theorem dX3_placesBehindEntry_10 : decode cX3_placesBehindEntry 10 = .ok (.aload_n 1, 1) := by decide +kernel
theorem dX3_placesBehindEntry_11 : decode cX3_placesBehindEntry 11 = .ok (.getfield 63, 3) := by decide +kernel
theorem dX3_placesBehindEntry_14 : decode cX3_placesBehindEntry 14 = .ok (.if_icmp .gt 41, 3) := by decide +kernel
theorem dX3_placesBehindEntry_17 : decode cX3_placesBehindEntry 17 = .ok (.iload 5, 2) := by decide +kernel
theorem dX3_placesBehindEntry_19 : decode cX3_placesBehindEntry 19 = .ok (.aload_n 1, 1) := by decide +kernel
theorem dX3_placesBehindEntry_20 : decode cX3_placesBehindEntry 20 = .ok (.getfield 105, 3) := by decide +kernel
theorem dX3_placesBehindEntry_23 : decode cX3_placesBehindEntry 23 = .ok (.if_icmp .lt 8, 3) := by decide +kernel
theorem dX3_placesBehindEntry_26 : decode cX3_placesBehindEntry 26 = .ok (.iload_n 3, 1) := by decide +kernel
theorem dX3_placesBehindEntry_27 : decode cX3_placesBehindEntry 27 = .ok (.iload 4, 2) := by decide +kernel
theorem dX3_placesBehindEntry_29 : decode cX3_placesBehindEntry 29 = .ok (.ior, 1) := by decide +kernel
theorem dX3_placesBehindEntry_30 : decode cX3_placesBehindEntry 30 = .ok (.istore_n 3, 1) := by decide +kernel
theorem dX3_placesBehindEntry_31 : decode cX3_placesBehindEntry 31 = .ok (.iload 5, 2) := by decide +kernel
theorem dX3_placesBehindEntry_33 : decode cX3_placesBehindEntry 33 = .ok (.aload_n 1, 1) := by decide +kernel
theorem dX3_placesBehindEntry_34 : decode cX3_placesBehindEntry 34 = .ok (.getfield 63, 3) := by decide +kernel
theorem dX3_placesBehindEntry_37 : decode cX3_placesBehindEntry 37 = .ok (.if_icmp .ge 12, 3) := by decide +kernel
theorem dX3_placesBehindEntry_40 : decode cX3_placesBehindEntry 40 = .ok (.aload_n 0, 1) := by decide +kernel
theorem dX3_placesBehindEntry_41 : decode cX3_placesBehindEntry 41 = .ok (.aload_n 1, 1) := by decide +kernel
theorem dX3_placesBehindEntry_42 : decode cX3_placesBehindEntry 42 = .ok (.iload 4, 2) := by decide +kernel
theorem dX3_placesBehindEntry_44 : decode cX3_placesBehindEntry 44 = .ok (.invokevirtual 137, 3) := by decide +kernel
theorem dX3_placesBehindEntry_47 : decode cX3_placesBehindEntry 47 = .ok (.istore 4, 2) := by decide +kernel
theorem dX3_placesBehindEntry_49 : decode cX3_placesBehindEntry 49 = .ok (.iinc 5 1, 3) := by decide +kernel
theorem dX3_placesBehindEntry_52 : decode cX3_placesBehindEntry 52 = .ok (.goto (-44), 3) := by decide +kernel
theorem dX3_placesBehindEntry_55 : decode cX3_placesBehindEntry 55 = .ok (.iload_n 3, 1) := by decide +kernel
theorem dX3_placesBehindEntry_56 : decode cX3_placesBehindEntry 56 = .ok (.ireturn, 1) := by decide +kernel
theorem dX3_placesBehindPass_0 : decode cX3_placesBehindPass 0 = .ok (.iload_n 2, 1) := by decide +kernel
theorem dX3_placesBehindPass_1 : decode cX3_placesBehindPass 1 = .ok (.istore_n 3, 1) := by decide +kernel
theorem dX3_placesBehindPass_2 : decode cX3_placesBehindPass 2 = .ok (.iconst 0, 1) := by decide +kernel
theorem dX3_placesBehindPass_3 : decode cX3_placesBehindPass 3 = .ok (.istore 4, 2) := by decide +kernel
theorem dX3_placesBehindPass_5 : decode cX3_placesBehindPass 5 = .ok (.aload_n 1, 1) := by decide +kernel
theorem dX3_placesBehindPass_6 : decode cX3_placesBehindPass 6 = .ok (.getfield 111, 3) := by decide +kernel
theorem dX3_placesBehindPass_9 : decode cX3_placesBehindPass 9 = .ok (.istore 5, 2) := by decide +kernel
theorem dX3_placesBehindPass_11 : decode cX3_placesBehindPass 11 = .ok (.iload 5, 2) := by decide +kernel
theorem dX3_placesBehindPass_13 : decode cX3_placesBehindPass 13 = .ok (.aload_n 1, 1) := by decide +kernel
theorem dX3_placesBehindPass_14 : decode cX3_placesBehindPass 14 = .ok (.getfield 108, 3) := by decide +kernel
theorem dX3_placesBehindPass_17 : decode cX3_placesBehindPass 17 = .ok (.if_icmp .ge 123, 3) := by decide +kernel
theorem dX3_placesBehindPass_20 : decode cX3_placesBehindPass 20 = .ok (.aload_n 0, 1) := by decide +kernel
theorem dX3_placesBehindPass_21 : decode cX3_placesBehindPass 21 = .ok (.getfield 24, 3) := by decide +kernel
theorem dX3_placesBehindPass_24 : decode cX3_placesBehindPass 24 = .ok (.iload 5, 2) := by decide +kernel
theorem dX3_placesBehindPass_26 : decode cX3_placesBehindPass 26 = .ok (.invokevirtual 96, 3) := by decide +kernel
theorem dX3_placesBehindPass_29 : decode cX3_placesBehindPass 29 = .ok (.astore 6, 2) := by decide +kernel
theorem dX3_placesBehindPass_31 : decode cX3_placesBehindPass 31 = .ok (.aload_n 0, 1) := by decide +kernel
theorem dX3_placesBehindPass_32 : decode cX3_placesBehindPass 32 = .ok (.getfield 9, 3) := by decide +kernel
theorem dX3_placesBehindPass_35 : decode cX3_placesBehindPass 35 = .ok (.iload 5, 2) := by decide +kernel
theorem dX3_placesBehindPass_37 : decode cX3_placesBehindPass 37 = .ok (.invokestatic 51, 3) := by decide +kernel
theorem dX3_placesBehindPass_40 : decode cX3_placesBehindPass 40 = .ok (.istore 7, 2) := by decide +kernel
theorem dX3_placesBehindPass_42 : decode cX3_placesBehindPass 42 = .ok (.aload_n 0, 1) := by decide +kernel
theorem dX3_placesBehindPass_43 : decode cX3_placesBehindPass 43 = .ok (.dup, 1) := by decide +kernel
theorem dX3_placesBehindPass_44 : decode cX3_placesBehindPass 44 = .ok (.getfield 77, 3) := by decide +kernel
theorem dX3_placesBehindPass_47 : decode cX3_placesBehindPass 47 = .ok (.iload 7, 2) := by decide +kernel
theorem dX3_placesBehindPass_49 : decode cX3_placesBehindPass 49 = .ok (.iconst 1, 1) := by decide +kernel
theorem dX3_placesBehindPass_50 : decode cX3_placesBehindPass 50 = .ok (.aload 6, 2) := by decide +kernel
theorem dX3_placesBehindPass_52 : decode cX3_placesBehindPass 52 = .ok (.getfield 121, 3) := by decide +kernel
theorem dX3_placesBehindPass_55 : decode cX3_placesBehindPass 55 = .ok (.iload_n 3, 1) := by decide +kernel
theorem dX3_placesBehindPass_56 : decode cX3_placesBehindPass 56 = .ok (.iload 4, 2) := by decide +kernel
theorem dX3_placesBehindPass_58 : decode cX3_placesBehindPass 58 = .ok (.ior, 1) := by decide +kernel
theorem dX3_placesBehindPass_59 : decode cX3_placesBehindPass 59 = .ok (.invokestatic 140, 3) := by decide +kernel
theorem dX3_placesBehindPass_62 : decode cX3_placesBehindPass 62 = .ok (.ior, 1) := by decide +kernel
theorem dX3_placesBehindPass_63 : decode cX3_placesBehindPass 63 = .ok (.putfield 77, 3) := by decide +kernel
theorem dX3_placesBehindPass_66 : decode cX3_placesBehindPass 66 = .ok (.iload 7, 2) := by decide +kernel
theorem dX3_placesBehindPass_68 : decode cX3_placesBehindPass 68 = .ok (.aload 6, 2) := by decide +kernel
theorem dX3_placesBehindPass_70 : decode cX3_placesBehindPass 70 = .ok (.getfield 114, 3) := by decide +kernel
theorem dX3_placesBehindPass_73 : decode cX3_placesBehindPass 73 = .ok (.iconst 1, 1) := by decide +kernel
theorem dX3_placesBehindPass_74 : decode cX3_placesBehindPass 74 = .ok (.invokestatic 115, 3) := by decide +kernel
theorem dX3_placesBehindPass_77 : decode cX3_placesBehindPass 77 = .ok (.aload 6, 2) := by decide +kernel
theorem dX3_placesBehindPass_79 : decode cX3_placesBehindPass 79 = .ok (.getfield 121, 3) := by decide +kernel
theorem dX3_placesBehindPass_82 : decode cX3_placesBehindPass 82 = .ok (.iload_n 3, 1) := by decide +kernel
theorem dX3_placesBehindPass_83 : decode cX3_placesBehindPass 83 = .ok (.iload 4, 2) := by decide +kernel
theorem dX3_placesBehindPass_85 : decode cX3_placesBehindPass 85 = .ok (.ior, 1) := by decide +kernel
theorem dX3_placesBehindPass_86 : decode cX3_placesBehindPass 86 = .ok (.invokestatic 140, 3) := by decide +kernel
theorem dX3_placesBehindPass_89 : decode cX3_placesBehindPass 89 = .ok (.istore 8, 2) := by decide +kernel
theorem dX3_placesBehindPass_91 : decode cX3_placesBehindPass 91 = .ok (.aload 6, 2) := by decide +kernel
theorem dX3_placesBehindPass_93 : decode cX3_placesBehindPass 93 = .ok (.getfield 114, 3) := by decide +kernel
theorem dX3_placesBehindPass_96 : decode cX3_placesBehindPass 96 = .ok (.ifCond .ne 7, 3) := by decide +kernel
theorem dX3_placesBehindPass_99 : decode cX3_placesBehindPass 99 = .ok (.iconst 1, 1) := by decide +kernel
theorem dX3_placesBehindPass_100 : decode cX3_placesBehindPass 100 = .ok (.goto 4, 3) := by decide +kernel
theorem dX3_placesBehindPass_103 : decode cX3_placesBehindPass 103 = .ok (.iconst 0, 1) := by decide +kernel
theorem dX3_placesBehindPass_104 : decode cX3_placesBehindPass 104 = .ok (.istore 9, 2) := by decide +kernel
theorem dX3_placesBehindPass_106 : decode cX3_placesBehindPass 106 = .ok (.iload 9, 2) := by decide +kernel
theorem dX3_placesBehindPass_108 : decode cX3_placesBehindPass 108 = .ok (.ifCond .eq 11, 3) := by decide +kernel
theorem dX3_placesBehindPass_111 : decode cX3_placesBehindPass 111 = .ok (.iload 8, 2) := by decide +kernel
theorem dX3_placesBehindPass_113 : decode cX3_placesBehindPass 113 = .ok (.iload 4, 2) := by decide +kernel
theorem dX3_placesBehindPass_115 : decode cX3_placesBehindPass 115 = .ok (.ior, 1) := by decide +kernel
theorem dX3_placesBehindPass_116 : decode cX3_placesBehindPass 116 = .ok (.goto 5, 3) := by decide +kernel
theorem dX3_placesBehindPass_119 : decode cX3_placesBehindPass 119 = .ok (.iload 8, 2) := by decide +kernel
theorem dX3_placesBehindPass_121 : decode cX3_placesBehindPass 121 = .ok (.istore 4, 2) := by decide +kernel
theorem dX3_placesBehindPass_123 : decode cX3_placesBehindPass 123 = .ok (.iload 9, 2) := by decide +kernel
theorem dX3_placesBehindPass_125 : decode cX3_placesBehindPass 125 = .ok (.ifCond .eq 7, 3) := by decide +kernel
theorem dX3_placesBehindPass_128 : decode cX3_placesBehindPass 128 = .ok (.iload_n 3, 1) := by decide +kernel
theorem dX3_placesBehindPass_129 : decode cX3_placesBehindPass 129 = .ok (.goto 4, 3) := by decide +kernel
theorem dX3_placesBehindPass_132 : decode cX3_placesBehindPass 132 = .ok (.iconst 0, 1) := by decide +kernel
theorem dX3_placesBehindPass_133 : decode cX3_placesBehindPass 133 = .ok (.istore_n 3, 1) := by decide +kernel
theorem dX3_placesBehindPass_134 : decode cX3_placesBehindPass 134 = .ok (.iinc 5 1, 3) := by decide +kernel
theorem dX3_placesBehindPass_137 : decode cX3_placesBehindPass 137 = .ok (.goto (-126), 3) := by decide +kernel
theorem dX3_placesBehindPass_140 : decode cX3_placesBehindPass 140 = .ok (.iload 4, 2) := by decide +kernel
theorem dX3_placesBehindPass_142 : decode cX3_placesBehindPass 142 = .ok (.ireturn, 1) := by decide +kernel
theorem dX3_placesBehindItem_0 : decode cX3_placesBehindItem 0 = .ok (.iconst 0, 1) := by decide +kernel
theorem dX3_placesBehindItem_1 : decode cX3_placesBehindItem 1 = .ok (.istore 4, 2) := by decide +kernel
theorem dX3_placesBehindItem_3 : decode cX3_placesBehindItem 3 = .ok (.iload_n 3, 1) := by decide +kernel
theorem dX3_placesBehindItem_4 : decode cX3_placesBehindItem 4 = .ok (.istore 5, 2) := by decide +kernel
theorem dX3_placesBehindItem_6 : decode cX3_placesBehindItem 6 = .ok (.iconst 0, 1) := by decide +kernel
theorem dX3_placesBehindItem_7 : decode cX3_placesBehindItem 7 = .ok (.istore 6, 2) := by decide +kernel
theorem dX3_placesBehindItem_9 : decode cX3_placesBehindItem 9 = .ok (.iload 6, 2) := by decide +kernel
theorem dX3_placesBehindItem_11 : decode cX3_placesBehindItem 11 = .ok (.iload_n 2, 1) := by decide +kernel
theorem dX3_placesBehindItem_12 : decode cX3_placesBehindItem 12 = .ok (.if_icmp .gt 35, 3) := by decide +kernel
theorem dX3_placesBehindItem_15 : decode cX3_placesBehindItem 15 = .ok (.iload 5, 2) := by decide +kernel
theorem dX3_placesBehindItem_17 : decode cX3_placesBehindItem 17 = .ok (.ifCond .eq 30, 3) := by decide +kernel
theorem dX3_placesBehindItem_20 : decode cX3_placesBehindItem 20 = .ok (.iload 6, 2) := by decide +kernel
theorem dX3_placesBehindItem_22 : decode cX3_placesBehindItem 22 = .ok (.iload_n 1, 1) := by decide +kernel
theorem dX3_placesBehindItem_23 : decode cX3_placesBehindItem 23 = .ok (.if_icmp .lt 10, 3) := by decide +kernel
theorem dX3_placesBehindItem_26 : decode cX3_placesBehindItem 26 = .ok (.iload 4, 2) := by decide +kernel
theorem dX3_placesBehindItem_28 : decode cX3_placesBehindItem 28 = .ok (.iload 5, 2) := by decide +kernel
theorem dX3_placesBehindItem_30 : decode cX3_placesBehindItem 30 = .ok (.ior, 1) := by decide +kernel
theorem dX3_placesBehindItem_31 : decode cX3_placesBehindItem 31 = .ok (.istore 4, 2) := by decide +kernel
theorem dX3_placesBehindItem_33 : decode cX3_placesBehindItem 33 = .ok (.iload 5, 2) := by decide +kernel
theorem dX3_placesBehindItem_35 : decode cX3_placesBehindItem 35 = .ok (.iload_n 0, 1) := by decide +kernel
theorem dX3_placesBehindItem_36 : decode cX3_placesBehindItem 36 = .ok (.iand, 1) := by decide +kernel
theorem dX3_placesBehindItem_37 : decode cX3_placesBehindItem 37 = .ok (.iconst 1, 1) := by decide +kernel
theorem dX3_placesBehindItem_38 : decode cX3_placesBehindItem 38 = .ok (.ishl, 1) := by decide +kernel
theorem dX3_placesBehindItem_39 : decode cX3_placesBehindItem 39 = .ok (.istore 5, 2) := by decide +kernel
theorem dX3_placesBehindItem_41 : decode cX3_placesBehindItem 41 = .ok (.iinc 6 1, 3) := by decide +kernel
theorem dX3_placesBehindItem_44 : decode cX3_placesBehindItem 44 = .ok (.goto (-35), 3) := by decide +kernel
theorem dX3_placesBehindItem_47 : decode cX3_placesBehindItem 47 = .ok (.iload 4, 2) := by decide +kernel
theorem dX3_placesBehindItem_49 : decode cX3_placesBehindItem 49 = .ok (.ireturn, 1) := by decide +kernel
theorem dX4_init_0 : decode cX4_init 0 = .ok (.aload_n 0, 1) := by decide +kernel
theorem dX4_init_1 : decode cX4_init 1 = .ok (.invokespecial 3, 3) := by decide +kernel
theorem dX4_init_4 : decode cX4_init 4 = .ok (.aload_n 0, 1) := by decide +kernel
theorem dX4_init_5 : decode cX4_init 5 = .ok (.bipush 20, 2) := by decide +kernel
theorem dX4_init_7 : decode cX4_init 7 = .ok (.anewarray 9, 3) := by decide +kernel
theorem dX4_init_10 : decode cX4_init 10 = .ok (.putfield 11, 3) := by decide +kernel
theorem dX4_init_13 : decode cX4_init 13 = .ok (.aload_n 0, 1) := by decide +kernel
theorem dX4_init_14 : decode cX4_init 14 = .ok (.new 9, 3) := by decide +kernel
theorem dX4_init_17 : decode cX4_init 17 = .ok (.dup, 1) := by decide +kernel
theorem dX4_init_18 : decode cX4_init 18 = .ok (.invokespecial 17, 3) := by decide +kernel
theorem dX4_init_21 : decode cX4_init 21 = .ok (.putfield 18, 3) := by decide +kernel
theorem dX4_init_24 : decode cX4_init 24 = .ok (.iconst 0, 1) := by decide +kernel
theorem dX4_init_25 : decode cX4_init 25 = .ok (.istore_n 1, 1) := by decide +kernel
theorem dX4_init_26 : decode cX4_init 26 = .ok (.iload_n 1, 1) := by decide +kernel
theorem dX4_init_27 : decode cX4_init 27 = .ok (.bipush 20, 2) := by decide +kernel
theorem dX4_init_29 : decode cX4_init 29 = .ok (.if_icmp .ge 22, 3) := by decide +kernel
theorem dX4_init_32 : decode cX4_init 32 = .ok (.aload_n 0, 1) := by decide +kernel
theorem dX4_init_33 : decode cX4_init 33 = .ok (.getfield 11, 3) := by decide +kernel
theorem dX4_init_36 : decode cX4_init 36 = .ok (.iload_n 1, 1) := by decide +kernel
theorem dX4_init_37 : decode cX4_init 37 = .ok (.new 9, 3) := by decide +kernel
theorem dX4_init_40 : decode cX4_init 40 = .ok (.dup, 1) := by decide +kernel
theorem dX4_init_41 : decode cX4_init 41 = .ok (.invokespecial 17, 3) := by decide +kernel
theorem dX4_init_44 : decode cX4_init 44 = .ok (.aastore, 1) := by decide +kernel
theorem dX4_init_45 : decode cX4_init 45 = .ok (.iinc 1 1, 3) := by decide +kernel
theorem dX4_init_48 : decode cX4_init 48 = .ok (.goto (-22), 3) := by decide +kernel
theorem dX4_init_51 : decode cX4_init 51 = .ok (.return_, 1) := by decide +kernel
theorem dX4_wipe_0 : decode cX4_wipe 0 = .ok (.aload_n 0, 1) := by decide +kernel
theorem dX4_wipe_1 : decode cX4_wipe 1 = .ok (.iconst 0, 1) := by decide +kernel
theorem dX4_wipe_2 : decode cX4_wipe 2 = .ok (.putfield 22, 3) := by decide +kernel
theorem dX4_wipe_5 : decode cX4_wipe 5 = .ok (.return_, 1) := by decide +kernel
theorem dX4_count_0 : decode cX4_count 0 = .ok (.aload_n 0, 1) := by decide +kernel
theorem dX4_count_1 : decode cX4_count 1 = .ok (.getfield 22, 3) := by decide +kernel
theorem dX4_count_4 : decode cX4_count 4 = .ok (.ireturn, 1) := by decide +kernel
theorem dX4_at_0 : decode cX4_at 0 = .ok (.iload_n 1, 1) := by decide +kernel
theorem dX4_at_1 : decode cX4_at 1 = .ok (.ifCond .lt 20, 3) := by decide +kernel
theorem dX4_at_4 : decode cX4_at 4 = .ok (.iload_n 1, 1) := by decide +kernel
theorem dX4_at_5 : decode cX4_at 5 = .ok (.aload_n 0, 1) := by decide +kernel
theorem dX4_at_6 : decode cX4_at 6 = .ok (.getfield 22, 3) := by decide +kernel
theorem dX4_at_9 : decode cX4_at 9 = .ok (.if_icmp .ge 12, 3) := by decide +kernel
theorem dX4_at_12 : decode cX4_at 12 = .ok (.aload_n 0, 1) := by decide +kernel
theorem dX4_at_13 : decode cX4_at 13 = .ok (.getfield 11, 3) := by decide +kernel
theorem dX4_at_16 : decode cX4_at 16 = .ok (.iload_n 1, 1) := by decide +kernel
theorem dX4_at_17 : decode cX4_at 17 = .ok (.aaload, 1) := by decide +kernel
theorem dX4_at_18 : decode cX4_at 18 = .ok (.goto 7, 3) := by decide +kernel
theorem dX4_at_21 : decode cX4_at 21 = .ok (.aload_n 0, 1) := by decide +kernel
theorem dX4_at_22 : decode cX4_at 22 = .ok (.getfield 18, 3) := by decide +kernel
theorem dX4_at_25 : decode cX4_at 25 = .ok (.areturn, 1) := by decide +kernel
theorem dX4_append_0 : decode cX4_append 0 = .ok (.aload_n 0, 1) := by decide +kernel
theorem dX4_append_1 : decode cX4_append 1 = .ok (.getfield 22, 3) := by decide +kernel
theorem dX4_append_4 : decode cX4_append 4 = .ok (.bipush 20, 2) := by decide +kernel
theorem dX4_append_6 : decode cX4_append 6 = .ok (.if_icmp .lt 8, 3) := by decide +kernel
theorem dX4_append_9 : decode cX4_append 9 = .ok (.aload_n 0, 1) := by decide +kernel
theorem dX4_append_10 : decode cX4_append 10 = .ok (.getfield 18, 3) := by decide +kernel
theorem dX4_append_13 : decode cX4_append 13 = .ok (.areturn, 1) := by decide +kernel
theorem dX4_append_14 : decode cX4_append 14 = .ok (.aload_n 0, 1) := by decide +kernel
theorem dX4_append_15 : decode cX4_append 15 = .ok (.dup, 1) := by decide +kernel
theorem dX4_append_16 : decode cX4_append 16 = .ok (.getfield 22, 3) := by decide +kernel
theorem dX4_append_19 : decode cX4_append 19 = .ok (.iconst 1, 1) := by decide +kernel
theorem dX4_append_20 : decode cX4_append 20 = .ok (.iadd, 1) := by decide +kernel
theorem dX4_append_21 : decode cX4_append 21 = .ok (.putfield 22, 3) := by decide +kernel
theorem dX4_append_24 : decode cX4_append 24 = .ok (.aload_n 0, 1) := by decide +kernel
theorem dX4_append_25 : decode cX4_append 25 = .ok (.getfield 11, 3) := by decide +kernel
theorem dX4_append_28 : decode cX4_append 28 = .ok (.aload_n 0, 1) := by decide +kernel
theorem dX4_append_29 : decode cX4_append 29 = .ok (.getfield 22, 3) := by decide +kernel
theorem dX4_append_32 : decode cX4_append 32 = .ok (.iconst 1, 1) := by decide +kernel
theorem dX4_append_33 : decode cX4_append 33 = .ok (.isub, 1) := by decide +kernel
theorem dX4_append_34 : decode cX4_append 34 = .ok (.aaload, 1) := by decide +kernel
theorem dX4_append_35 : decode cX4_append 35 = .ok (.areturn, 1) := by decide +kernel
theorem dX4_last_0 : decode cX4_last 0 = .ok (.aload_n 0, 1) := by decide +kernel
theorem dX4_last_1 : decode cX4_last 1 = .ok (.aload_n 0, 1) := by decide +kernel
theorem dX4_last_2 : decode cX4_last 2 = .ok (.getfield 22, 3) := by decide +kernel
theorem dX4_last_5 : decode cX4_last 5 = .ok (.iconst 1, 1) := by decide +kernel
theorem dX4_last_6 : decode cX4_last 6 = .ok (.isub, 1) := by decide +kernel
theorem dX4_last_7 : decode cX4_last 7 = .ok (.invokevirtual 26, 3) := by decide +kernel
theorem dX4_last_10 : decode cX4_last 10 = .ok (.areturn, 1) := by decide +kernel
theorem dX4_bodyCount_0 : decode cX4_bodyCount 0 = .ok (.aload_n 0, 1) := by decide +kernel
theorem dX4_bodyCount_1 : decode cX4_bodyCount 1 = .ok (.getfield 22, 3) := by decide +kernel
theorem dX4_bodyCount_4 : decode cX4_bodyCount 4 = .ok (.iconst 2, 1) := by decide +kernel
theorem dX4_bodyCount_5 : decode cX4_bodyCount 5 = .ok (.if_icmp .ge 7, 3) := by decide +kernel
theorem dX4_bodyCount_8 : decode cX4_bodyCount 8 = .ok (.iconst 0, 1) := by decide +kernel
theorem dX4_bodyCount_9 : decode cX4_bodyCount 9 = .ok (.goto 9, 3) := by decide +kernel
theorem dX4_bodyCount_12 : decode cX4_bodyCount 12 = .ok (.aload_n 0, 1) := by decide +kernel
theorem dX4_bodyCount_13 : decode cX4_bodyCount 13 = .ok (.getfield 22, 3) := by decide +kernel
theorem dX4_bodyCount_16 : decode cX4_bodyCount 16 = .ok (.iconst 2, 1) := by decide +kernel
theorem dX4_bodyCount_17 : decode cX4_bodyCount 17 = .ok (.isub, 1) := by decide +kernel
theorem dX4_bodyCount_18 : decode cX4_bodyCount 18 = .ok (.ireturn, 1) := by decide +kernel
theorem dX4_bodyAt_0 : decode cX4_bodyAt 0 = .ok (.iload_n 1, 1) := by decide +kernel
theorem dX4_bodyAt_1 : decode cX4_bodyAt 1 = .ok (.ifCond .lt 21, 3) := by decide +kernel
theorem dX4_bodyAt_4 : decode cX4_bodyAt 4 = .ok (.iload_n 1, 1) := by decide +kernel
theorem dX4_bodyAt_5 : decode cX4_bodyAt 5 = .ok (.aload_n 0, 1) := by decide +kernel
theorem dX4_bodyAt_6 : decode cX4_bodyAt 6 = .ok (.invokevirtual 30, 3) := by decide +kernel
theorem dX4_bodyAt_9 : decode cX4_bodyAt 9 = .ok (.if_icmp .ge 13, 3) := by decide +kernel
theorem dX4_bodyAt_12 : decode cX4_bodyAt 12 = .ok (.aload_n 0, 1) := by decide +kernel
theorem dX4_bodyAt_13 : decode cX4_bodyAt 13 = .ok (.iload_n 1, 1) := by decide +kernel
theorem dX4_bodyAt_14 : decode cX4_bodyAt 14 = .ok (.iconst 1, 1) := by decide +kernel
theorem dX4_bodyAt_15 : decode cX4_bodyAt 15 = .ok (.iadd, 1) := by decide +kernel
theorem dX4_bodyAt_16 : decode cX4_bodyAt 16 = .ok (.invokevirtual 26, 3) := by decide +kernel
theorem dX4_bodyAt_19 : decode cX4_bodyAt 19 = .ok (.goto 7, 3) := by decide +kernel
theorem dX4_bodyAt_22 : decode cX4_bodyAt 22 = .ok (.aload_n 0, 1) := by decide +kernel
theorem dX4_bodyAt_23 : decode cX4_bodyAt 23 = .ok (.getfield 18, 3) := by decide +kernel
theorem dX4_bodyAt_26 : decode cX4_bodyAt 26 = .ok (.areturn, 1) := by decide +kernel
theorem dX4_headerControl_0 : decode cX4_headerControl 0 = .ok (.aload_n 0, 1) := by decide +kernel
theorem dX4_headerControl_1 : decode cX4_headerControl 1 = .ok (.iconst 0, 1) := by decide +kernel
theorem dX4_headerControl_2 : decode cX4_headerControl 2 = .ok (.invokevirtual 26, 3) := by decide +kernel
theorem dX4_headerControl_5 : decode cX4_headerControl 5 = .ok (.iconst 0, 1) := by decide +kernel
theorem dX4_headerControl_6 : decode cX4_headerControl 6 = .ok (.invokevirtual 34, 3) := by decide +kernel
theorem dX4_headerControl_9 : decode cX4_headerControl 9 = .ok (.ireturn, 1) := by decide +kernel
theorem dX5_init_0 : decode cX5_init 0 = .ok (.aload_n 0, 1) := by decide +kernel
theorem dX5_init_1 : decode cX5_init 1 = .ok (.invokespecial 3, 3) := by decide +kernel
theorem dX5_init_4 : decode cX5_init 4 = .ok (.aload_n 0, 1) := by decide +kernel
theorem dX5_init_5 : decode cX5_init 5 = .ok (.aload_n 2, 1) := by decide +kernel
theorem dX5_init_6 : decode cX5_init 6 = .ok (.putfield 9, 3) := by decide +kernel
theorem dX5_init_9 : decode cX5_init 9 = .ok (.aload_n 0, 1) := by decide +kernel
theorem dX5_init_10 : decode cX5_init 10 = .ok (.new 15, 3) := by decide +kernel
theorem dX5_init_13 : decode cX5_init 13 = .ok (.dup, 1) := by decide +kernel
theorem dX5_init_14 : decode cX5_init 14 = .ok (.aload_n 1, 1) := by decide +kernel
theorem dX5_init_15 : decode cX5_init 15 = .ok (.invokespecial 17, 3) := by decide +kernel
theorem dX5_init_18 : decode cX5_init 18 = .ok (.putfield 20, 3) := by decide +kernel
theorem dX5_init_21 : decode cX5_init 21 = .ok (.return_, 1) := by decide +kernel
theorem dX5_accepts_0 : decode cX5_accepts 0 = .ok (.aload_n 0, 1) := by decide +kernel
theorem dX5_accepts_1 : decode cX5_accepts 1 = .ok (.getfield 9, 3) := by decide +kernel
theorem dX5_accepts_4 : decode cX5_accepts 4 = .ok (.invokevirtual 24, 3) := by decide +kernel
theorem dX5_accepts_7 : decode cX5_accepts 7 = .ok (.aload_n 0, 1) := by decide +kernel
theorem dX5_accepts_8 : decode cX5_accepts 8 = .ok (.aload_n 1, 1) := by decide +kernel
theorem dX5_accepts_9 : decode cX5_accepts 9 = .ok (.aload_n 2, 1) := by decide +kernel
theorem dX5_accepts_10 : decode cX5_accepts 10 = .ok (.invokevirtual 29, 3) := by decide +kernel
theorem dX5_accepts_13 : decode cX5_accepts 13 = .ok (.aload_n 0, 1) := by decide +kernel
theorem dX5_accepts_14 : decode cX5_accepts 14 = .ok (.getfield 9, 3) := by decide +kernel
theorem dX5_accepts_17 : decode cX5_accepts 17 = .ok (.invokevirtual 33, 3) := by decide +kernel
theorem dX5_accepts_20 : decode cX5_accepts 20 = .ok (.ifCond .ne 8, 3) := by decide +kernel
theorem dX5_accepts_23 : decode cX5_accepts 23 = .ok (.aload_n 0, 1) := by decide +kernel
theorem dX5_accepts_24 : decode cX5_accepts 24 = .ok (.aload_n 2, 1) := by decide +kernel
theorem dX5_accepts_25 : decode cX5_accepts 25 = .ok (.invokevirtual 37, 3) := by decide +kernel
theorem dX5_accepts_28 : decode cX5_accepts 28 = .ok (.aload_n 0, 1) := by decide +kernel
theorem dX5_accepts_29 : decode cX5_accepts 29 = .ok (.getfield 9, 3) := by decide +kernel
theorem dX5_accepts_32 : decode cX5_accepts 32 = .ok (.invokevirtual 33, 3) := by decide +kernel
theorem dX5_accepts_35 : decode cX5_accepts 35 = .ok (.ifCond .ne 11, 3) := by decide +kernel
theorem dX5_accepts_38 : decode cX5_accepts 38 = .ok (.aload_n 0, 1) := by decide +kernel
theorem dX5_accepts_39 : decode cX5_accepts 39 = .ok (.aload_n 2, 1) := by decide +kernel
theorem dX5_accepts_40 : decode cX5_accepts 40 = .ok (.iload_n 3, 1) := by decide +kernel
theorem dX5_accepts_41 : decode cX5_accepts 41 = .ok (.iload 4, 2) := by decide +kernel
theorem dX5_accepts_43 : decode cX5_accepts 43 = .ok (.invokevirtual 41, 3) := by decide +kernel
theorem dX5_accepts_46 : decode cX5_accepts 46 = .ok (.aload_n 0, 1) := by decide +kernel
theorem dX5_accepts_47 : decode cX5_accepts 47 = .ok (.getfield 9, 3) := by decide +kernel
theorem dX5_accepts_50 : decode cX5_accepts 50 = .ok (.invokevirtual 33, 3) := by decide +kernel
theorem dX5_accepts_53 : decode cX5_accepts 53 = .ok (.ifCond .ne 8, 3) := by decide +kernel
theorem dX5_accepts_56 : decode cX5_accepts 56 = .ok (.aload_n 0, 1) := by decide +kernel
theorem dX5_accepts_57 : decode cX5_accepts 57 = .ok (.aload_n 2, 1) := by decide +kernel
theorem dX5_accepts_58 : decode cX5_accepts 58 = .ok (.invokevirtual 45, 3) := by decide +kernel
theorem dX5_accepts_61 : decode cX5_accepts 61 = .ok (.aload_n 0, 1) := by decide +kernel
theorem dX5_accepts_62 : decode cX5_accepts 62 = .ok (.getfield 9, 3) := by decide +kernel
theorem dX5_accepts_65 : decode cX5_accepts 65 = .ok (.invokevirtual 33, 3) := by decide +kernel
theorem dX5_accepts_68 : decode cX5_accepts 68 = .ok (.ifCond .ne 7, 3) := by decide +kernel
theorem dX5_accepts_71 : decode cX5_accepts 71 = .ok (.iconst 1, 1) := by decide +kernel
theorem dX5_accepts_72 : decode cX5_accepts 72 = .ok (.goto 4, 3) := by decide +kernel
theorem dX5_accepts_75 : decode cX5_accepts 75 = .ok (.iconst 0, 1) := by decide +kernel
theorem dX5_accepts_76 : decode cX5_accepts 76 = .ok (.ireturn, 1) := by decide +kernel
theorem dX5_split_0 : decode cX5_split 0 = .ok (.aload_n 2, 1) := by decide +kernel
theorem dX5_split_1 : decode cX5_split 1 = .ok (.invokevirtual 48, 3) := by decide +kernel
theorem dX5_split_4 : decode cX5_split 4 = .ok (.iconst 0, 1) := by decide +kernel
theorem dX5_split_5 : decode cX5_split 5 = .ok (.istore_n 3, 1) := by decide +kernel
theorem dX5_split_6 : decode cX5_split 6 = .ok (.iconst 0, 1) := by decide +kernel
theorem dX5_split_7 : decode cX5_split 7 = .ok (.istore 4, 2) := by decide +kernel
theorem dX5_split_9 : decode cX5_split 9 = .ok (.iload 4, 2) := by decide +kernel
theorem dX5_split_11 : decode cX5_split 11 = .ok (.bipush 20, 2) := by decide +kernel
theorem dX5_split_13 : decode cX5_split 13 = .ok (.if_icmp .ge 60, 3) := by decide +kernel
theorem dX5_split_16 : decode cX5_split 16 = .ok (.iload_n 3, 1) := by decide +kernel
theorem dX5_split_17 : decode cX5_split 17 = .ok (.aload_n 1, 1) := by decide +kernel
theorem dX5_split_18 : decode cX5_split 18 = .ok (.invokevirtual 51, 3) := by decide +kernel
theorem dX5_split_21 : decode cX5_split 21 = .ok (.if_icmp .ge 52, 3) := by decide +kernel
theorem dX5_split_24 : decode cX5_split 24 = .ok (.aload_n 1, 1) := by decide +kernel
theorem dX5_split_25 : decode cX5_split 25 = .ok (.iload_n 3, 1) := by decide +kernel
theorem dX5_split_26 : decode cX5_split 26 = .ok (.invokestatic 54, 3) := by decide +kernel
theorem dX5_split_29 : decode cX5_split 29 = .ok (.istore 5, 2) := by decide +kernel
theorem dX5_split_31 : decode cX5_split 31 = .ok (.iload 5, 2) := by decide +kernel
theorem dX5_split_33 : decode cX5_split 33 = .ok (.aload_n 1, 1) := by decide +kernel
theorem dX5_split_34 : decode cX5_split 34 = .ok (.invokevirtual 51, 3) := by decide +kernel
theorem dX5_split_37 : decode cX5_split 37 = .ok (.if_icmp .lt 13, 3) := by decide +kernel
theorem dX5_split_40 : decode cX5_split 40 = .ok (.aload_n 0, 1) := by decide +kernel
theorem dX5_split_41 : decode cX5_split 41 = .ok (.getfield 9, 3) := by decide +kernel
theorem dX5_split_44 : decode cX5_split 44 = .ok (.iconst 1, 1) := by decide +kernel
theorem dX5_split_45 : decode cX5_split 45 = .ok (.iload_n 3, 1) := by decide +kernel
theorem dX5_split_46 : decode cX5_split 46 = .ok (.invokevirtual 58, 3) := by decide +kernel
theorem dX5_split_49 : decode cX5_split 49 = .ok (.return_, 1) := by decide +kernel
theorem dX5_split_50 : decode cX5_split 50 = .ok (.aload_n 0, 1) := by decide +kernel
theorem dX5_split_51 : decode cX5_split 51 = .ok (.aload_n 1, 1) := by decide +kernel
theorem dX5_split_52 : decode cX5_split 52 = .ok (.iload_n 3, 1) := by decide +kernel
theorem dX5_split_53 : decode cX5_split 53 = .ok (.iload 5, 2) := by decide +kernel
theorem dX5_split_55 : decode cX5_split 55 = .ok (.aload_n 2, 1) := by decide +kernel
theorem dX5_split_56 : decode cX5_split 56 = .ok (.invokevirtual 62, 3) := by decide +kernel
theorem dX5_split_59 : decode cX5_split 59 = .ok (.invokevirtual 66, 3) := by decide +kernel
theorem dX5_split_62 : decode cX5_split 62 = .ok (.iload 5, 2) := by decide +kernel
theorem dX5_split_64 : decode cX5_split 64 = .ok (.iconst 1, 1) := by decide +kernel
theorem dX5_split_65 : decode cX5_split 65 = .ok (.iadd, 1) := by decide +kernel
theorem dX5_split_66 : decode cX5_split 66 = .ok (.istore_n 3, 1) := by decide +kernel
theorem dX5_split_67 : decode cX5_split 67 = .ok (.iinc 4 1, 3) := by decide +kernel
theorem dX5_split_70 : decode cX5_split 70 = .ok (.goto (-61), 3) := by decide +kernel
theorem dX5_split_73 : decode cX5_split 73 = .ok (.iload_n 3, 1) := by decide +kernel
theorem dX5_split_74 : decode cX5_split 74 = .ok (.aload_n 1, 1) := by decide +kernel
theorem dX5_split_75 : decode cX5_split 75 = .ok (.invokevirtual 51, 3) := by decide +kernel
theorem dX5_split_78 : decode cX5_split 78 = .ok (.if_icmp .ge 12, 3) := by decide +kernel
theorem dX5_split_81 : decode cX5_split 81 = .ok (.aload_n 0, 1) := by decide +kernel
theorem dX5_split_82 : decode cX5_split 82 = .ok (.getfield 9, 3) := by decide +kernel
theorem dX5_split_85 : decode cX5_split 85 = .ok (.iconst 5, 1) := by decide +kernel
theorem dX5_split_86 : decode cX5_split 86 = .ok (.iload_n 3, 1) := by decide +kernel
theorem dX5_split_87 : decode cX5_split 87 = .ok (.invokevirtual 58, 3) := by decide +kernel
theorem dX5_split_90 : decode cX5_split 90 = .ok (.return_, 1) := by decide +kernel
theorem dX5_takeSegment_0 : decode cX5_takeSegment 0 = .ok (.aload_n 1, 1) := by decide +kernel
theorem dX5_takeSegment_1 : decode cX5_takeSegment 1 = .ok (.iload_n 2, 1) := by decide +kernel
theorem dX5_takeSegment_2 : decode cX5_takeSegment 2 = .ok (.iload_n 3, 1) := by decide +kernel
theorem dX5_takeSegment_3 : decode cX5_takeSegment 3 = .ok (.invokestatic 70, 3) := by decide +kernel
theorem dX5_takeSegment_6 : decode cX5_takeSegment 6 = .ok (.istore 5, 2) := by decide +kernel
theorem dX5_takeSegment_8 : decode cX5_takeSegment 8 = .ok (.aload 4, 2) := by decide +kernel
theorem dX5_takeSegment_10 : decode cX5_takeSegment 10 = .ok (.iload_n 2, 1) := by decide +kernel
theorem dX5_takeSegment_11 : decode cX5_takeSegment 11 = .ok (.aload_n 1, 1) := by decide +kernel
theorem dX5_takeSegment_12 : decode cX5_takeSegment 12 = .ok (.iload_n 2, 1) := by decide +kernel
theorem dX5_takeSegment_13 : decode cX5_takeSegment 13 = .ok (.iload 5, 2) := by decide +kernel
theorem dX5_takeSegment_15 : decode cX5_takeSegment 15 = .ok (.invokestatic 74, 3) := by decide +kernel
theorem dX5_takeSegment_18 : decode cX5_takeSegment 18 = .ok (.invokevirtual 78, 3) := by decide +kernel
theorem dX5_takeSegment_21 : decode cX5_takeSegment 21 = .ok (.aload 4, 2) := by decide +kernel
theorem dX5_takeSegment_23 : decode cX5_takeSegment 23 = .ok (.invokevirtual 84, 3) := by decide +kernel
theorem dX5_takeSegment_26 : decode cX5_takeSegment 26 = .ok (.invokestatic 88, 3) := by decide +kernel
theorem dX5_takeSegment_29 : decode cX5_takeSegment 29 = .ok (.ifCond .ne 12, 3) := by decide +kernel
theorem dX5_takeSegment_32 : decode cX5_takeSegment 32 = .ok (.aload_n 0, 1) := by decide +kernel
theorem dX5_takeSegment_33 : decode cX5_takeSegment 33 = .ok (.getfield 9, 3) := by decide +kernel
theorem dX5_takeSegment_36 : decode cX5_takeSegment 36 = .ok (.iconst 2, 1) := by decide +kernel
theorem dX5_takeSegment_37 : decode cX5_takeSegment 37 = .ok (.iload_n 2, 1) := by decide +kernel
theorem dX5_takeSegment_38 : decode cX5_takeSegment 38 = .ok (.invokevirtual 58, 3) := by decide +kernel
theorem dX5_takeSegment_41 : decode cX5_takeSegment 41 = .ok (.iconst 0, 1) := by decide +kernel
theorem dX5_takeSegment_42 : decode cX5_takeSegment 42 = .ok (.istore 6, 2) := by decide +kernel
theorem dX5_takeSegment_44 : decode cX5_takeSegment 44 = .ok (.iload 6, 2) := by decide +kernel
theorem dX5_takeSegment_46 : decode cX5_takeSegment 46 = .ok (.iconst 5, 1) := by decide +kernel
theorem dX5_takeSegment_47 : decode cX5_takeSegment 47 = .ok (.if_icmp .ge 41, 3) := by decide +kernel
theorem dX5_takeSegment_50 : decode cX5_takeSegment 50 = .ok (.iload 5, 2) := by decide +kernel
theorem dX5_takeSegment_52 : decode cX5_takeSegment 52 = .ok (.iload_n 3, 1) := by decide +kernel
theorem dX5_takeSegment_53 : decode cX5_takeSegment 53 = .ok (.if_icmp .ge 35, 3) := by decide +kernel
theorem dX5_takeSegment_56 : decode cX5_takeSegment 56 = .ok (.iload 5, 2) := by decide +kernel
theorem dX5_takeSegment_58 : decode cX5_takeSegment 58 = .ok (.iconst 1, 1) := by decide +kernel
theorem dX5_takeSegment_59 : decode cX5_takeSegment 59 = .ok (.iadd, 1) := by decide +kernel
theorem dX5_takeSegment_60 : decode cX5_takeSegment 60 = .ok (.istore 7, 2) := by decide +kernel
theorem dX5_takeSegment_62 : decode cX5_takeSegment 62 = .ok (.aload_n 1, 1) := by decide +kernel
theorem dX5_takeSegment_63 : decode cX5_takeSegment 63 = .ok (.iload 7, 2) := by decide +kernel
theorem dX5_takeSegment_65 : decode cX5_takeSegment 65 = .ok (.iload_n 3, 1) := by decide +kernel
theorem dX5_takeSegment_66 : decode cX5_takeSegment 66 = .ok (.invokestatic 70, 3) := by decide +kernel
theorem dX5_takeSegment_69 : decode cX5_takeSegment 69 = .ok (.istore 5, 2) := by decide +kernel
theorem dX5_takeSegment_71 : decode cX5_takeSegment 71 = .ok (.aload_n 0, 1) := by decide +kernel
theorem dX5_takeSegment_72 : decode cX5_takeSegment 72 = .ok (.aload_n 1, 1) := by decide +kernel
theorem dX5_takeSegment_73 : decode cX5_takeSegment 73 = .ok (.iload 7, 2) := by decide +kernel
theorem dX5_takeSegment_75 : decode cX5_takeSegment 75 = .ok (.iload 5, 2) := by decide +kernel
theorem dX5_takeSegment_77 : decode cX5_takeSegment 77 = .ok (.aload 4, 2) := by decide +kernel
theorem dX5_takeSegment_79 : decode cX5_takeSegment 79 = .ok (.invokevirtual 92, 3) := by decide +kernel
theorem dX5_takeSegment_82 : decode cX5_takeSegment 82 = .ok (.iinc 6 1, 3) := by decide +kernel
theorem dX5_takeSegment_85 : decode cX5_takeSegment 85 = .ok (.goto (-41), 3) := by decide +kernel
theorem dX5_takeSegment_88 : decode cX5_takeSegment 88 = .ok (.iload 5, 2) := by decide +kernel
theorem dX5_takeSegment_90 : decode cX5_takeSegment 90 = .ok (.iload_n 3, 1) := by decide +kernel
theorem dX5_takeSegment_91 : decode cX5_takeSegment 91 = .ok (.if_icmp .ge 15, 3) := by decide +kernel
theorem dX5_takeSegment_94 : decode cX5_takeSegment 94 = .ok (.aload_n 0, 1) := by decide +kernel
theorem dX5_takeSegment_95 : decode cX5_takeSegment 95 = .ok (.getfield 9, 3) := by decide +kernel
theorem dX5_takeSegment_98 : decode cX5_takeSegment 98 = .ok (.iconst 3, 1) := by decide +kernel
theorem dX5_takeSegment_99 : decode cX5_takeSegment 99 = .ok (.iload 5, 2) := by decide +kernel
theorem dX5_takeSegment_101 : decode cX5_takeSegment 101 = .ok (.iconst 1, 1) := by decide +kernel
theorem dX5_takeSegment_102 : decode cX5_takeSegment 102 = .ok (.iadd, 1) := by decide +kernel
theorem dX5_takeSegment_103 : decode cX5_takeSegment 103 = .ok (.invokevirtual 58, 3) := by decide +kernel
theorem dX5_takeSegment_106 : decode cX5_takeSegment 106 = .ok (.return_, 1) := by decide +kernel
theorem dX5_takeElement_0 : decode cX5_takeElement 0 = .ok (.aload 4, 2) := by decide +kernel
theorem dX5_takeElement_2 : decode cX5_takeElement 2 = .ok (.invokevirtual 95, 3) := by decide +kernel
theorem dX5_takeElement_5 : decode cX5_takeElement 5 = .ok (.iload_n 2, 1) := by decide +kernel
theorem dX5_takeElement_6 : decode cX5_takeElement 6 = .ok (.istore 5, 2) := by decide +kernel
theorem dX5_takeElement_8 : decode cX5_takeElement 8 = .ok (.iload 5, 2) := by decide +kernel
theorem dX5_takeElement_10 : decode cX5_takeElement 10 = .ok (.iload_n 3, 1) := by decide +kernel
theorem dX5_takeElement_11 : decode cX5_takeElement 11 = .ok (.if_icmp .ge 34, 3) := by decide +kernel
theorem dX5_takeElement_14 : decode cX5_takeElement 14 = .ok (.aload_n 1, 1) := by decide +kernel
theorem dX5_takeElement_15 : decode cX5_takeElement 15 = .ok (.iload 5, 2) := by decide +kernel
theorem dX5_takeElement_17 : decode cX5_takeElement 17 = .ok (.invokevirtual 98, 3) := by decide +kernel
theorem dX5_takeElement_20 : decode cX5_takeElement 20 = .ok (.bipush 63, 2) := by decide +kernel
theorem dX5_takeElement_22 : decode cX5_takeElement 22 = .ok (.if_icmp .ne 6, 3) := by decide +kernel
theorem dX5_takeElement_25 : decode cX5_takeElement 25 = .ok (.iinc 5 1, 3) := by decide +kernel
theorem dX5_takeElement_28 : decode cX5_takeElement 28 = .ok (.aload 4, 2) := by decide +kernel
theorem dX5_takeElement_30 : decode cX5_takeElement 30 = .ok (.aload_n 1, 1) := by decide +kernel
theorem dX5_takeElement_31 : decode cX5_takeElement 31 = .ok (.iload 5, 2) := by decide +kernel
theorem dX5_takeElement_33 : decode cX5_takeElement 33 = .ok (.invokevirtual 98, 3) := by decide +kernel
theorem dX5_takeElement_36 : decode cX5_takeElement 36 = .ok (.invokevirtual 102, 3) := by decide +kernel
theorem dX5_takeElement_39 : decode cX5_takeElement 39 = .ok (.iinc 5 1, 3) := by decide +kernel
theorem dX5_takeElement_42 : decode cX5_takeElement 42 = .ok (.goto (-34), 3) := by decide +kernel
theorem dX5_takeElement_45 : decode cX5_takeElement 45 = .ok (.aload 4, 2) := by decide +kernel
theorem dX5_takeElement_47 : decode cX5_takeElement 47 = .ok (.aload 4, 2) := by decide +kernel
theorem dX5_takeElement_49 : decode cX5_takeElement 49 = .ok (.invokevirtual 105, 3) := by decide +kernel
theorem dX5_takeElement_52 : decode cX5_takeElement 52 = .ok (.iconst 1, 1) := by decide +kernel
theorem dX5_takeElement_53 : decode cX5_takeElement 53 = .ok (.isub, 1) := by decide +kernel
theorem dX5_takeElement_54 : decode cX5_takeElement 54 = .ok (.invokevirtual 108, 3) := by decide +kernel
theorem dX5_takeElement_57 : decode cX5_takeElement 57 = .ok (.bipush 8, 2) := by decide +kernel
theorem dX5_takeElement_59 : decode cX5_takeElement 59 = .ok (.if_icmp .le 12, 3) := by decide +kernel
theorem dX5_takeElement_62 : decode cX5_takeElement 62 = .ok (.aload_n 0, 1) := by decide +kernel
theorem dX5_takeElement_63 : decode cX5_takeElement 63 = .ok (.getfield 9, 3) := by decide +kernel
theorem dX5_takeElement_66 : decode cX5_takeElement 66 = .ok (.iconst 4, 1) := by decide +kernel
theorem dX5_takeElement_67 : decode cX5_takeElement 67 = .ok (.iload_n 2, 1) := by decide +kernel
theorem dX5_takeElement_68 : decode cX5_takeElement 68 = .ok (.invokevirtual 58, 3) := by decide +kernel
theorem dX5_takeElement_71 : decode cX5_takeElement 71 = .ok (.return_, 1) := by decide +kernel
theorem dX5_tagBetween_0 : decode cX5_tagBetween 0 = .ok (.aload_n 0, 1) := by decide +kernel
theorem dX5_tagBetween_1 : decode cX5_tagBetween 1 = .ok (.iload_n 1, 1) := by decide +kernel
theorem dX5_tagBetween_2 : decode cX5_tagBetween 2 = .ok (.invokevirtual 98, 3) := by decide +kernel
theorem dX5_tagBetween_5 : decode cX5_tagBetween 5 = .ok (.bipush 63, 2) := by decide +kernel
theorem dX5_tagBetween_7 : decode cX5_tagBetween 7 = .ok (.if_icmp .ne 9, 3) := by decide +kernel
theorem dX5_tagBetween_10 : decode cX5_tagBetween 10 = .ok (.iload_n 1, 1) := by decide +kernel
theorem dX5_tagBetween_11 : decode cX5_tagBetween 11 = .ok (.iconst 1, 1) := by decide +kernel
theorem dX5_tagBetween_12 : decode cX5_tagBetween 12 = .ok (.iadd, 1) := by decide +kernel
theorem dX5_tagBetween_13 : decode cX5_tagBetween 13 = .ok (.goto 4, 3) := by decide +kernel
theorem dX5_tagBetween_16 : decode cX5_tagBetween 16 = .ok (.iload_n 1, 1) := by decide +kernel
theorem dX5_tagBetween_17 : decode cX5_tagBetween 17 = .ok (.istore_n 3, 1) := by decide +kernel
theorem dX5_tagBetween_18 : decode cX5_tagBetween 18 = .ok (.iload_n 3, 1) := by decide +kernel
theorem dX5_tagBetween_19 : decode cX5_tagBetween 19 = .ok (.iconst 1, 1) := by decide +kernel
theorem dX5_tagBetween_20 : decode cX5_tagBetween 20 = .ok (.iadd, 1) := by decide +kernel
theorem dX5_tagBetween_21 : decode cX5_tagBetween 21 = .ok (.iload_n 2, 1) := by decide +kernel
theorem dX5_tagBetween_22 : decode cX5_tagBetween 22 = .ok (.if_icmp .ne 7, 3) := by decide +kernel
theorem dX5_tagBetween_25 : decode cX5_tagBetween 25 = .ok (.iconst 1, 1) := by decide +kernel
theorem dX5_tagBetween_26 : decode cX5_tagBetween 26 = .ok (.goto 4, 3) := by decide +kernel
theorem dX5_tagBetween_29 : decode cX5_tagBetween 29 = .ok (.iconst 0, 1) := by decide +kernel
theorem dX5_tagBetween_30 : decode cX5_tagBetween 30 = .ok (.istore 4, 2) := by decide +kernel
theorem dX5_tagBetween_32 : decode cX5_tagBetween 32 = .ok (.iload 4, 2) := by decide +kernel
theorem dX5_tagBetween_34 : decode cX5_tagBetween 34 = .ok (.ifCond .eq 22, 3) := by decide +kernel
theorem dX5_tagBetween_37 : decode cX5_tagBetween 37 = .ok (.aload_n 0, 1) := by decide +kernel
theorem dX5_tagBetween_38 : decode cX5_tagBetween 38 = .ok (.iload_n 3, 1) := by decide +kernel
theorem dX5_tagBetween_39 : decode cX5_tagBetween 39 = .ok (.invokevirtual 98, 3) := by decide +kernel
theorem dX5_tagBetween_42 : decode cX5_tagBetween 42 = .ok (.invokestatic 88, 3) := by decide +kernel
theorem dX5_tagBetween_45 : decode cX5_tagBetween 45 = .ok (.ifCond .eq 11, 3) := by decide +kernel
theorem dX5_tagBetween_48 : decode cX5_tagBetween 48 = .ok (.aload_n 0, 1) := by decide +kernel
theorem dX5_tagBetween_49 : decode cX5_tagBetween 49 = .ok (.iload_n 3, 1) := by decide +kernel
theorem dX5_tagBetween_50 : decode cX5_tagBetween 50 = .ok (.invokevirtual 98, 3) := by decide +kernel
theorem dX5_tagBetween_53 : decode cX5_tagBetween 53 = .ok (.goto 5, 3) := by decide +kernel
theorem dX5_tagBetween_56 : decode cX5_tagBetween 56 = .ok (.bipush 32, 2) := by decide +kernel
theorem dX5_tagBetween_58 : decode cX5_tagBetween 58 = .ok (.ireturn, 1) := by decide +kernel
theorem dX5_segmentEnd_0 : decode cX5_segmentEnd 0 = .ok (.iload_n 1, 1) := by decide +kernel
theorem dX5_segmentEnd_1 : decode cX5_segmentEnd 1 = .ok (.istore_n 2, 1) := by decide +kernel
theorem dX5_segmentEnd_2 : decode cX5_segmentEnd 2 = .ok (.iload_n 2, 1) := by decide +kernel
theorem dX5_segmentEnd_3 : decode cX5_segmentEnd 3 = .ok (.aload_n 0, 1) := by decide +kernel
theorem dX5_segmentEnd_4 : decode cX5_segmentEnd 4 = .ok (.invokevirtual 51, 3) := by decide +kernel
theorem dX5_segmentEnd_7 : decode cX5_segmentEnd 7 = .ok (.if_icmp .ge 34, 3) := by decide +kernel
theorem dX5_segmentEnd_10 : decode cX5_segmentEnd 10 = .ok (.aload_n 0, 1) := by decide +kernel
theorem dX5_segmentEnd_11 : decode cX5_segmentEnd 11 = .ok (.iload_n 2, 1) := by decide +kernel
theorem dX5_segmentEnd_12 : decode cX5_segmentEnd 12 = .ok (.invokevirtual 98, 3) := by decide +kernel
theorem dX5_segmentEnd_15 : decode cX5_segmentEnd 15 = .ok (.bipush 39, 2) := by decide +kernel
theorem dX5_segmentEnd_17 : decode cX5_segmentEnd 17 = .ok (.if_icmp .eq 24, 3) := by decide +kernel
theorem dX5_segmentEnd_20 : decode cX5_segmentEnd 20 = .ok (.iload_n 2, 1) := by decide +kernel
theorem dX5_segmentEnd_21 : decode cX5_segmentEnd 21 = .ok (.aload_n 0, 1) := by decide +kernel
theorem dX5_segmentEnd_22 : decode cX5_segmentEnd 22 = .ok (.iload_n 2, 1) := by decide +kernel
theorem dX5_segmentEnd_23 : decode cX5_segmentEnd 23 = .ok (.invokevirtual 98, 3) := by decide +kernel
theorem dX5_segmentEnd_26 : decode cX5_segmentEnd 26 = .ok (.bipush 63, 2) := by decide +kernel
theorem dX5_segmentEnd_28 : decode cX5_segmentEnd 28 = .ok (.if_icmp .ne 7, 3) := by decide +kernel
theorem dX5_segmentEnd_31 : decode cX5_segmentEnd 31 = .ok (.iconst 2, 1) := by decide +kernel
theorem dX5_segmentEnd_32 : decode cX5_segmentEnd 32 = .ok (.goto 4, 3) := by decide +kernel
theorem dX5_segmentEnd_35 : decode cX5_segmentEnd 35 = .ok (.iconst 1, 1) := by decide +kernel
theorem dX5_segmentEnd_36 : decode cX5_segmentEnd 36 = .ok (.iadd, 1) := by decide +kernel
theorem dX5_segmentEnd_37 : decode cX5_segmentEnd 37 = .ok (.istore_n 2, 1) := by decide +kernel
theorem dX5_segmentEnd_38 : decode cX5_segmentEnd 38 = .ok (.goto (-36), 3) := by decide +kernel
theorem dX5_segmentEnd_41 : decode cX5_segmentEnd 41 = .ok (.iload_n 2, 1) := by decide +kernel
theorem dX5_segmentEnd_42 : decode cX5_segmentEnd 42 = .ok (.ireturn, 1) := by decide +kernel
theorem dX5_partEnd_0 : decode cX5_partEnd 0 = .ok (.iload_n 1, 1) := by decide +kernel
theorem dX5_partEnd_1 : decode cX5_partEnd 1 = .ok (.istore_n 3, 1) := by decide +kernel
theorem dX5_partEnd_2 : decode cX5_partEnd 2 = .ok (.iload_n 3, 1) := by decide +kernel
theorem dX5_partEnd_3 : decode cX5_partEnd 3 = .ok (.iload_n 2, 1) := by decide +kernel
theorem dX5_partEnd_4 : decode cX5_partEnd 4 = .ok (.if_icmp .ge 34, 3) := by decide +kernel
theorem dX5_partEnd_7 : decode cX5_partEnd 7 = .ok (.aload_n 0, 1) := by decide +kernel
theorem dX5_partEnd_8 : decode cX5_partEnd 8 = .ok (.iload_n 3, 1) := by decide +kernel
theorem dX5_partEnd_9 : decode cX5_partEnd 9 = .ok (.invokevirtual 98, 3) := by decide +kernel
theorem dX5_partEnd_12 : decode cX5_partEnd 12 = .ok (.bipush 43, 2) := by decide +kernel
theorem dX5_partEnd_14 : decode cX5_partEnd 14 = .ok (.if_icmp .eq 24, 3) := by decide +kernel
theorem dX5_partEnd_17 : decode cX5_partEnd 17 = .ok (.iload_n 3, 1) := by decide +kernel
theorem dX5_partEnd_18 : decode cX5_partEnd 18 = .ok (.aload_n 0, 1) := by decide +kernel
theorem dX5_partEnd_19 : decode cX5_partEnd 19 = .ok (.iload_n 3, 1) := by decide +kernel
theorem dX5_partEnd_20 : decode cX5_partEnd 20 = .ok (.invokevirtual 98, 3) := by decide +kernel
theorem dX5_partEnd_23 : decode cX5_partEnd 23 = .ok (.bipush 63, 2) := by decide +kernel
theorem dX5_partEnd_25 : decode cX5_partEnd 25 = .ok (.if_icmp .ne 7, 3) := by decide +kernel
theorem dX5_partEnd_28 : decode cX5_partEnd 28 = .ok (.iconst 2, 1) := by decide +kernel
theorem dX5_partEnd_29 : decode cX5_partEnd 29 = .ok (.goto 4, 3) := by decide +kernel
theorem dX5_partEnd_32 : decode cX5_partEnd 32 = .ok (.iconst 1, 1) := by decide +kernel
theorem dX5_partEnd_33 : decode cX5_partEnd 33 = .ok (.iadd, 1) := by decide +kernel
theorem dX5_partEnd_34 : decode cX5_partEnd 34 = .ok (.istore_n 3, 1) := by decide +kernel
theorem dX5_partEnd_35 : decode cX5_partEnd 35 = .ok (.goto (-33), 3) := by decide +kernel
theorem dX5_partEnd_38 : decode cX5_partEnd 38 = .ok (.iload_n 3, 1) := by decide +kernel
theorem dX5_partEnd_39 : decode cX5_partEnd 39 = .ok (.ireturn, 1) := by decide +kernel
theorem dX5_checkEnvelope_0 : decode cX5_checkEnvelope 0 = .ok (.aload_n 1, 1) := by decide +kernel
theorem dX5_checkEnvelope_1 : decode cX5_checkEnvelope 1 = .ok (.iconst 0, 1) := by decide +kernel
theorem dX5_checkEnvelope_2 : decode cX5_checkEnvelope 2 = .ok (.invokevirtual 112, 3) := by decide +kernel
theorem dX5_checkEnvelope_5 : decode cX5_checkEnvelope 5 = .ok (.bipush 72, 2) := by decide +kernel
theorem dX5_checkEnvelope_7 : decode cX5_checkEnvelope 7 = .ok (.iconst 1, 1) := by decide +kernel
theorem dX5_checkEnvelope_8 : decode cX5_checkEnvelope 8 = .ok (.invokevirtual 115, 3) := by decide +kernel
theorem dX5_checkEnvelope_11 : decode cX5_checkEnvelope 11 = .ok (.ifCond .ne 13, 3) := by decide +kernel
theorem dX5_checkEnvelope_14 : decode cX5_checkEnvelope 14 = .ok (.aload_n 0, 1) := by decide +kernel
theorem dX5_checkEnvelope_15 : decode cX5_checkEnvelope 15 = .ok (.getfield 9, 3) := by decide +kernel
theorem dX5_checkEnvelope_18 : decode cX5_checkEnvelope 18 = .ok (.bipush 6, 2) := by decide +kernel
theorem dX5_checkEnvelope_20 : decode cX5_checkEnvelope 20 = .ok (.iconst 0, 1) := by decide +kernel
theorem dX5_checkEnvelope_21 : decode cX5_checkEnvelope 21 = .ok (.invokevirtual 58, 3) := by decide +kernel
theorem dX5_checkEnvelope_24 : decode cX5_checkEnvelope 24 = .ok (.aload_n 1, 1) := by decide +kernel
theorem dX5_checkEnvelope_25 : decode cX5_checkEnvelope 25 = .ok (.invokevirtual 119, 3) := by decide +kernel
theorem dX5_checkEnvelope_28 : decode cX5_checkEnvelope 28 = .ok (.iconst 2, 1) := by decide +kernel
theorem dX5_checkEnvelope_29 : decode cX5_checkEnvelope 29 = .ok (.if_icmp .lt 16, 3) := by decide +kernel
theorem dX5_checkEnvelope_32 : decode cX5_checkEnvelope 32 = .ok (.aload_n 1, 1) := by decide +kernel
theorem dX5_checkEnvelope_33 : decode cX5_checkEnvelope 33 = .ok (.invokevirtual 120, 3) := by decide +kernel
theorem dX5_checkEnvelope_36 : decode cX5_checkEnvelope 36 = .ok (.bipush 84, 2) := by decide +kernel
theorem dX5_checkEnvelope_38 : decode cX5_checkEnvelope 38 = .ok (.iconst 2, 1) := by decide +kernel
theorem dX5_checkEnvelope_39 : decode cX5_checkEnvelope 39 = .ok (.invokevirtual 115, 3) := by decide +kernel
theorem dX5_checkEnvelope_42 : decode cX5_checkEnvelope 42 = .ok (.ifCond .ne 19, 3) := by decide +kernel
theorem dX5_checkEnvelope_45 : decode cX5_checkEnvelope 45 = .ok (.aload_n 0, 1) := by decide +kernel
theorem dX5_checkEnvelope_46 : decode cX5_checkEnvelope 46 = .ok (.getfield 9, 3) := by decide +kernel
theorem dX5_checkEnvelope_49 : decode cX5_checkEnvelope 49 = .ok (.bipush 7, 2) := by decide +kernel
theorem dX5_checkEnvelope_51 : decode cX5_checkEnvelope 51 = .ok (.aload_n 1, 1) := by decide +kernel
theorem dX5_checkEnvelope_52 : decode cX5_checkEnvelope 52 = .ok (.invokevirtual 120, 3) := by decide +kernel
theorem dX5_checkEnvelope_55 : decode cX5_checkEnvelope 55 = .ok (.invokevirtual 123, 3) := by decide +kernel
theorem dX5_checkEnvelope_58 : decode cX5_checkEnvelope 58 = .ok (.invokevirtual 58, 3) := by decide +kernel
theorem dX5_checkEnvelope_61 : decode cX5_checkEnvelope 61 = .ok (.return_, 1) := by decide +kernel
theorem dX5_checkNumbers_0 : decode cX5_checkNumbers 0 = .ok (.aload_n 1, 1) := by decide +kernel
theorem dX5_checkNumbers_1 : decode cX5_checkNumbers 1 = .ok (.invokevirtual 120, 3) := by decide +kernel
theorem dX5_checkNumbers_4 : decode cX5_checkNumbers 4 = .ok (.astore 4, 2) := by decide +kernel
theorem dX5_checkNumbers_6 : decode cX5_checkNumbers 6 = .ok (.aload_n 1, 1) := by decide +kernel
theorem dX5_checkNumbers_7 : decode cX5_checkNumbers 7 = .ok (.invokevirtual 126, 3) := by decide +kernel
theorem dX5_checkNumbers_10 : decode cX5_checkNumbers 10 = .ok (.istore 5, 2) := by decide +kernel
theorem dX5_checkNumbers_12 : decode cX5_checkNumbers 12 = .ok (.iload_n 2, 1) := by decide +kernel
theorem dX5_checkNumbers_13 : decode cX5_checkNumbers 13 = .ok (.ifCond .eq 21, 3) := by decide +kernel
theorem dX5_checkNumbers_16 : decode cX5_checkNumbers 16 = .ok (.iload 5, 2) := by decide +kernel
theorem dX5_checkNumbers_18 : decode cX5_checkNumbers 18 = .ok (.iload_n 3, 1) := by decide +kernel
theorem dX5_checkNumbers_19 : decode cX5_checkNumbers 19 = .ok (.iconst 1, 1) := by decide +kernel
theorem dX5_checkNumbers_20 : decode cX5_checkNumbers 20 = .ok (.iadd, 1) := by decide +kernel
theorem dX5_checkNumbers_21 : decode cX5_checkNumbers 21 = .ok (.if_icmp .eq 13, 3) := by decide +kernel
theorem dX5_checkNumbers_24 : decode cX5_checkNumbers 24 = .ok (.aload_n 0, 1) := by decide +kernel
theorem dX5_checkNumbers_25 : decode cX5_checkNumbers 25 = .ok (.getfield 9, 3) := by decide +kernel
theorem dX5_checkNumbers_28 : decode cX5_checkNumbers 28 = .ok (.bipush 10, 2) := by decide +kernel
theorem dX5_checkNumbers_30 : decode cX5_checkNumbers 30 = .ok (.iconst 0, 1) := by decide +kernel
theorem dX5_checkNumbers_31 : decode cX5_checkNumbers 31 = .ok (.invokevirtual 58, 3) := by decide +kernel
theorem dX5_checkNumbers_34 : decode cX5_checkNumbers 34 = .ok (.aload 4, 2) := by decide +kernel
theorem dX5_checkNumbers_36 : decode cX5_checkNumbers 36 = .ok (.iconst 0, 1) := by decide +kernel
theorem dX5_checkNumbers_37 : decode cX5_checkNumbers 37 = .ok (.invokevirtual 129, 3) := by decide +kernel
theorem dX5_checkNumbers_40 : decode cX5_checkNumbers 40 = .ok (.aload_n 1, 1) := by decide +kernel
theorem dX5_checkNumbers_41 : decode cX5_checkNumbers 41 = .ok (.invokevirtual 119, 3) := by decide +kernel
theorem dX5_checkNumbers_44 : decode cX5_checkNumbers 44 = .ok (.if_icmp .eq 17, 3) := by decide +kernel
theorem dX5_checkNumbers_47 : decode cX5_checkNumbers 47 = .ok (.aload_n 0, 1) := by decide +kernel
theorem dX5_checkNumbers_48 : decode cX5_checkNumbers 48 = .ok (.getfield 9, 3) := by decide +kernel
theorem dX5_checkNumbers_51 : decode cX5_checkNumbers 51 = .ok (.bipush 8, 2) := by decide +kernel
theorem dX5_checkNumbers_53 : decode cX5_checkNumbers 53 = .ok (.aload 4, 2) := by decide +kernel
theorem dX5_checkNumbers_55 : decode cX5_checkNumbers 55 = .ok (.invokevirtual 123, 3) := by decide +kernel
theorem dX5_checkNumbers_58 : decode cX5_checkNumbers 58 = .ok (.invokevirtual 58, 3) := by decide +kernel
theorem dX5_checkNumbers_61 : decode cX5_checkNumbers 61 = .ok (.aload 4, 2) := by decide +kernel
theorem dX5_checkNumbers_63 : decode cX5_checkNumbers 63 = .ok (.iconst 1, 1) := by decide +kernel
theorem dX5_checkNumbers_64 : decode cX5_checkNumbers 64 = .ok (.invokevirtual 129, 3) := by decide +kernel
theorem dX5_checkNumbers_67 : decode cX5_checkNumbers 67 = .ok (.iload 5, 2) := by decide +kernel
theorem dX5_checkNumbers_69 : decode cX5_checkNumbers 69 = .ok (.if_icmp .eq 17, 3) := by decide +kernel
theorem dX5_checkNumbers_72 : decode cX5_checkNumbers 72 = .ok (.aload_n 0, 1) := by decide +kernel
theorem dX5_checkNumbers_73 : decode cX5_checkNumbers 73 = .ok (.getfield 9, 3) := by decide +kernel
theorem dX5_checkNumbers_76 : decode cX5_checkNumbers 76 = .ok (.bipush 9, 2) := by decide +kernel
theorem dX5_checkNumbers_78 : decode cX5_checkNumbers 78 = .ok (.aload 4, 2) := by decide +kernel
theorem dX5_checkNumbers_80 : decode cX5_checkNumbers 80 = .ok (.invokevirtual 123, 3) := by decide +kernel
theorem dX5_checkNumbers_83 : decode cX5_checkNumbers 83 = .ok (.invokevirtual 58, 3) := by decide +kernel
theorem dX5_checkNumbers_86 : decode cX5_checkNumbers 86 = .ok (.return_, 1) := by decide +kernel
theorem dX5_checkBody_0 : decode cX5_checkBody 0 = .ok (.aload_n 0, 1) := by decide +kernel
theorem dX5_checkBody_1 : decode cX5_checkBody 1 = .ok (.getfield 20, 3) := by decide +kernel
theorem dX5_checkBody_4 : decode cX5_checkBody 4 = .ok (.aload_n 1, 1) := by decide +kernel
theorem dX5_checkBody_5 : decode cX5_checkBody 5 = .ok (.invokevirtual 132, 3) := by decide +kernel
theorem dX5_checkBody_8 : decode cX5_checkBody 8 = .ok (.ifCond .eq 12, 3) := by decide +kernel
theorem dX5_checkBody_11 : decode cX5_checkBody 11 = .ok (.aload_n 0, 1) := by decide +kernel
theorem dX5_checkBody_12 : decode cX5_checkBody 12 = .ok (.getfield 20, 3) := by decide +kernel
theorem dX5_checkBody_15 : decode cX5_checkBody 15 = .ok (.aload_n 1, 1) := by decide +kernel
theorem dX5_checkBody_16 : decode cX5_checkBody 16 = .ok (.invokevirtual 136, 3) := by decide +kernel
theorem dX5_checkBody_19 : decode cX5_checkBody 19 = .ok (.return_, 1) := by decide +kernel
theorem dX5_checkBody_20 : decode cX5_checkBody 20 = .ok (.aload_n 0, 1) := by decide +kernel
theorem dX5_checkBody_21 : decode cX5_checkBody 21 = .ok (.getfield 20, 3) := by decide +kernel
theorem dX5_checkBody_24 : decode cX5_checkBody 24 = .ok (.aload_n 1, 1) := by decide +kernel
theorem dX5_checkBody_25 : decode cX5_checkBody 25 = .ok (.invokevirtual 139, 3) := by decide +kernel
theorem dX5_checkBody_28 : decode cX5_checkBody 28 = .ok (.istore_n 2, 1) := by decide +kernel
theorem dX5_checkBody_29 : decode cX5_checkBody 29 = .ok (.iload_n 2, 1) := by decide +kernel
theorem dX5_checkBody_30 : decode cX5_checkBody 30 = .ok (.aload_n 1, 1) := by decide +kernel
theorem dX5_checkBody_31 : decode cX5_checkBody 31 = .ok (.invokevirtual 143, 3) := by decide +kernel
theorem dX5_checkBody_34 : decode cX5_checkBody 34 = .ok (.if_icmp .ge 23, 3) := by decide +kernel
theorem dX5_checkBody_37 : decode cX5_checkBody 37 = .ok (.aload_n 0, 1) := by decide +kernel
theorem dX5_checkBody_38 : decode cX5_checkBody 38 = .ok (.getfield 9, 3) := by decide +kernel
theorem dX5_checkBody_41 : decode cX5_checkBody 41 = .ok (.bipush 11, 2) := by decide +kernel
theorem dX5_checkBody_43 : decode cX5_checkBody 43 = .ok (.aload_n 1, 1) := by decide +kernel
theorem dX5_checkBody_44 : decode cX5_checkBody 44 = .ok (.iload_n 2, 1) := by decide +kernel
theorem dX5_checkBody_45 : decode cX5_checkBody 45 = .ok (.invokevirtual 146, 3) := by decide +kernel
theorem dX5_checkBody_48 : decode cX5_checkBody 48 = .ok (.invokevirtual 123, 3) := by decide +kernel
theorem dX5_checkBody_51 : decode cX5_checkBody 51 = .ok (.invokevirtual 58, 3) := by decide +kernel
theorem dX5_checkBody_54 : decode cX5_checkBody 54 = .ok (.goto 19, 3) := by decide +kernel
theorem dX5_checkBody_57 : decode cX5_checkBody 57 = .ok (.aload_n 0, 1) := by decide +kernel
theorem dX5_checkBody_58 : decode cX5_checkBody 58 = .ok (.getfield 9, 3) := by decide +kernel
theorem dX5_checkBody_61 : decode cX5_checkBody 61 = .ok (.bipush 12, 2) := by decide +kernel
theorem dX5_checkBody_63 : decode cX5_checkBody 63 = .ok (.aload_n 1, 1) := by decide +kernel
theorem dX5_checkBody_64 : decode cX5_checkBody 64 = .ok (.invokevirtual 120, 3) := by decide +kernel
theorem dX5_checkBody_67 : decode cX5_checkBody 67 = .ok (.invokevirtual 123, 3) := by decide +kernel
theorem dX5_checkBody_70 : decode cX5_checkBody 70 = .ok (.invokevirtual 58, 3) := by decide +kernel
theorem dX5_checkBody_73 : decode cX5_checkBody 73 = .ok (.return_, 1) := by decide +kernel
theorem dX6_init_0 : decode cX6_init 0 = .ok (.aload_n 0, 1) := by decide +kernel
theorem dX6_init_1 : decode cX6_init 1 = .ok (.invokespecial 3, 3) := by decide +kernel
theorem dX6_init_4 : decode cX6_init 4 = .ok (.aload_n 0, 1) := by decide +kernel
theorem dX6_init_5 : decode cX6_init 5 = .ok (.iconst 5, 1) := by decide +kernel
theorem dX6_init_6 : decode cX6_init 6 = .ok (.newarray .int, 2) := by decide +kernel
theorem dX6_init_8 : decode cX6_init 8 = .ok (.putfield 9, 3) := by decide +kernel
theorem dX6_init_11 : decode cX6_init 11 = .ok (.return_, 1) := by decide +kernel
theorem dX6_begin_0 : decode cX6_begin 0 = .ok (.aload_n 0, 1) := by decide +kernel
theorem dX6_begin_1 : decode cX6_begin 1 = .ok (.iload_n 1, 1) := by decide +kernel
theorem dX6_begin_2 : decode cX6_begin 2 = .ok (.putfield 15, 3) := by decide +kernel
theorem dX6_begin_5 : decode cX6_begin 5 = .ok (.aload_n 0, 1) := by decide +kernel
theorem dX6_begin_6 : decode cX6_begin 6 = .ok (.iload_n 2, 1) := by decide +kernel
theorem dX6_begin_7 : decode cX6_begin 7 = .ok (.putfield 19, 3) := by decide +kernel
theorem dX6_begin_10 : decode cX6_begin 10 = .ok (.aload_n 0, 1) := by decide +kernel
theorem dX6_begin_11 : decode cX6_begin 11 = .ok (.iconst 0, 1) := by decide +kernel
theorem dX6_begin_12 : decode cX6_begin 12 = .ok (.putfield 23, 3) := by decide +kernel
theorem dX6_begin_15 : decode cX6_begin 15 = .ok (.aload_n 0, 1) := by decide +kernel
theorem dX6_begin_16 : decode cX6_begin 16 = .ok (.iconst (-1), 1) := by decide +kernel
theorem dX6_begin_17 : decode cX6_begin 17 = .ok (.putfield 26, 3) := by decide +kernel
theorem dX6_begin_20 : decode cX6_begin 20 = .ok (.return_, 1) := by decide +kernel
theorem dX6_fieldCount_0 : decode cX6_fieldCount 0 = .ok (.aload_n 0, 1) := by decide +kernel
theorem dX6_fieldCount_1 : decode cX6_fieldCount 1 = .ok (.getfield 23, 3) := by decide +kernel
theorem dX6_fieldCount_4 : decode cX6_fieldCount 4 = .ok (.ireturn, 1) := by decide +kernel
theorem dX6_appendField_0 : decode cX6_appendField 0 = .ok (.aload_n 0, 1) := by decide +kernel
theorem dX6_appendField_1 : decode cX6_appendField 1 = .ok (.getfield 23, 3) := by decide +kernel
theorem dX6_appendField_4 : decode cX6_appendField 4 = .ok (.iconst 5, 1) := by decide +kernel
theorem dX6_appendField_5 : decode cX6_appendField 5 = .ok (.if_icmp .ge 23, 3) := by decide +kernel
theorem dX6_appendField_8 : decode cX6_appendField 8 = .ok (.aload_n 0, 1) := by decide +kernel
theorem dX6_appendField_9 : decode cX6_appendField 9 = .ok (.getfield 9, 3) := by decide +kernel
theorem dX6_appendField_12 : decode cX6_appendField 12 = .ok (.aload_n 0, 1) := by decide +kernel
theorem dX6_appendField_13 : decode cX6_appendField 13 = .ok (.getfield 23, 3) := by decide +kernel
theorem dX6_appendField_16 : decode cX6_appendField 16 = .ok (.iload_n 1, 1) := by decide +kernel
theorem dX6_appendField_17 : decode cX6_appendField 17 = .ok (.iastore, 1) := by decide +kernel
theorem dX6_appendField_18 : decode cX6_appendField 18 = .ok (.aload_n 0, 1) := by decide +kernel
theorem dX6_appendField_19 : decode cX6_appendField 19 = .ok (.dup, 1) := by decide +kernel
theorem dX6_appendField_20 : decode cX6_appendField 20 = .ok (.getfield 23, 3) := by decide +kernel
theorem dX6_appendField_23 : decode cX6_appendField 23 = .ok (.iconst 1, 1) := by decide +kernel
theorem dX6_appendField_24 : decode cX6_appendField 24 = .ok (.iadd, 1) := by decide +kernel
theorem dX6_appendField_25 : decode cX6_appendField 25 = .ok (.putfield 23, 3) := by decide +kernel
theorem dX6_appendField_28 : decode cX6_appendField 28 = .ok (.aload_n 0, 1) := by decide +kernel
theorem dX6_appendField_29 : decode cX6_appendField 29 = .ok (.getfield 23, 3) := by decide +kernel
theorem dX6_appendField_32 : decode cX6_appendField 32 = .ok (.ireturn, 1) := by decide +kernel
theorem dX6_appliesTo_0 : decode cX6_appliesTo 0 = .ok (.aload_n 1, 1) := by decide +kernel
theorem dX6_appliesTo_1 : decode cX6_appliesTo 1 = .ok (.invokevirtual 32, 3) := by decide +kernel
theorem dX6_appliesTo_4 : decode cX6_appliesTo 4 = .ok (.aload_n 0, 1) := by decide +kernel
theorem dX6_appliesTo_5 : decode cX6_appliesTo 5 = .ok (.getfield 15, 3) := by decide +kernel
theorem dX6_appliesTo_8 : decode cX6_appliesTo 8 = .ok (.if_icmp .ne 23, 3) := by decide +kernel
theorem dX6_appliesTo_11 : decode cX6_appliesTo 11 = .ok (.aload_n 0, 1) := by decide +kernel
theorem dX6_appliesTo_12 : decode cX6_appliesTo 12 = .ok (.getfield 26, 3) := by decide +kernel
theorem dX6_appliesTo_15 : decode cX6_appliesTo 15 = .ok (.iconst (-1), 1) := by decide +kernel
theorem dX6_appliesTo_16 : decode cX6_appliesTo 16 = .ok (.if_icmp .eq 11, 3) := by decide +kernel
theorem dX6_appliesTo_19 : decode cX6_appliesTo 19 = .ok (.aload_n 0, 1) := by decide +kernel
theorem dX6_appliesTo_20 : decode cX6_appliesTo 20 = .ok (.aload_n 1, 1) := by decide +kernel
theorem dX6_appliesTo_21 : decode cX6_appliesTo 21 = .ok (.invokevirtual 37, 3) := by decide +kernel
theorem dX6_appliesTo_24 : decode cX6_appliesTo 24 = .ok (.ifCond .eq 7, 3) := by decide +kernel
theorem dX6_appliesTo_27 : decode cX6_appliesTo 27 = .ok (.iconst 1, 1) := by decide +kernel
theorem dX6_appliesTo_28 : decode cX6_appliesTo 28 = .ok (.goto 4, 3) := by decide +kernel
theorem dX6_appliesTo_31 : decode cX6_appliesTo 31 = .ok (.iconst 0, 1) := by decide +kernel
theorem dX6_appliesTo_32 : decode cX6_appliesTo 32 = .ok (.ireturn, 1) := by decide +kernel
theorem dX6_holdsFor_0 : decode cX6_holdsFor 0 = .ok (.aload_n 1, 1) := by decide +kernel
theorem dX6_holdsFor_1 : decode cX6_holdsFor 1 = .ok (.aload_n 0, 1) := by decide +kernel
theorem dX6_holdsFor_2 : decode cX6_holdsFor 2 = .ok (.getfield 26, 3) := by decide +kernel
theorem dX6_holdsFor_5 : decode cX6_holdsFor 5 = .ok (.invokevirtual 41, 3) := by decide +kernel
theorem dX6_holdsFor_8 : decode cX6_holdsFor 8 = .ok (.ifCond .le 23, 3) := by decide +kernel
theorem dX6_holdsFor_11 : decode cX6_holdsFor 11 = .ok (.aload_n 1, 1) := by decide +kernel
theorem dX6_holdsFor_12 : decode cX6_holdsFor 12 = .ok (.aload_n 0, 1) := by decide +kernel
theorem dX6_holdsFor_13 : decode cX6_holdsFor 13 = .ok (.getfield 26, 3) := by decide +kernel
theorem dX6_holdsFor_16 : decode cX6_holdsFor 16 = .ok (.iconst 0, 1) := by decide +kernel
theorem dX6_holdsFor_17 : decode cX6_holdsFor 17 = .ok (.invokevirtual 45, 3) := by decide +kernel
theorem dX6_holdsFor_20 : decode cX6_holdsFor 20 = .ok (.aload_n 0, 1) := by decide +kernel
theorem dX6_holdsFor_21 : decode cX6_holdsFor 21 = .ok (.getfield 29, 3) := by decide +kernel
theorem dX6_holdsFor_24 : decode cX6_holdsFor 24 = .ok (.if_icmp .ne 7, 3) := by decide +kernel
theorem dX6_holdsFor_27 : decode cX6_holdsFor 27 = .ok (.iconst 1, 1) := by decide +kernel
theorem dX6_holdsFor_28 : decode cX6_holdsFor 28 = .ok (.goto 4, 3) := by decide +kernel
theorem dX6_holdsFor_31 : decode cX6_holdsFor 31 = .ok (.iconst 0, 1) := by decide +kernel
theorem dX6_holdsFor_32 : decode cX6_holdsFor 32 = .ok (.ireturn, 1) := by decide +kernel
theorem dX6_translate_0 : decode cX6_translate 0 = .ok (.aload_n 2, 1) := by decide +kernel
theorem dX6_translate_1 : decode cX6_translate 1 = .ok (.aload_n 0, 1) := by decide +kernel
theorem dX6_translate_2 : decode cX6_translate 2 = .ok (.getfield 19, 3) := by decide +kernel
theorem dX6_translate_5 : decode cX6_translate 5 = .ok (.invokevirtual 49, 3) := by decide +kernel
theorem dX6_translate_8 : decode cX6_translate 8 = .ok (.iconst 0, 1) := by decide +kernel
theorem dX6_translate_9 : decode cX6_translate 9 = .ok (.istore_n 3, 1) := by decide +kernel
theorem dX6_translate_10 : decode cX6_translate 10 = .ok (.iload_n 3, 1) := by decide +kernel
theorem dX6_translate_11 : decode cX6_translate 11 = .ok (.aload_n 0, 1) := by decide +kernel
theorem dX6_translate_12 : decode cX6_translate 12 = .ok (.getfield 23, 3) := by decide +kernel
theorem dX6_translate_15 : decode cX6_translate 15 = .ok (.if_icmp .ge 55, 3) := by decide +kernel
theorem dX6_translate_18 : decode cX6_translate 18 = .ok (.aload_n 0, 1) := by decide +kernel
theorem dX6_translate_19 : decode cX6_translate 19 = .ok (.getfield 9, 3) := by decide +kernel
theorem dX6_translate_22 : decode cX6_translate 22 = .ok (.iload_n 3, 1) := by decide +kernel
theorem dX6_translate_23 : decode cX6_translate 23 = .ok (.iaload, 1) := by decide +kernel
theorem dX6_translate_24 : decode cX6_translate 24 = .ok (.istore 4, 2) := by decide +kernel
theorem dX6_translate_26 : decode cX6_translate 26 = .ok (.aload_n 2, 1) := by decide +kernel
theorem dX6_translate_27 : decode cX6_translate 27 = .ok (.bipush 43, 2) := by decide +kernel
theorem dX6_translate_29 : decode cX6_translate 29 = .ok (.invokevirtual 49, 3) := by decide +kernel
theorem dX6_translate_32 : decode cX6_translate 32 = .ok (.iconst 0, 1) := by decide +kernel
theorem dX6_translate_33 : decode cX6_translate 33 = .ok (.istore 5, 2) := by decide +kernel
theorem dX6_translate_35 : decode cX6_translate 35 = .ok (.iload 5, 2) := by decide +kernel
theorem dX6_translate_37 : decode cX6_translate 37 = .ok (.aload_n 1, 1) := by decide +kernel
theorem dX6_translate_38 : decode cX6_translate 38 = .ok (.iload 4, 2) := by decide +kernel
theorem dX6_translate_40 : decode cX6_translate 40 = .ok (.invokevirtual 41, 3) := by decide +kernel
theorem dX6_translate_43 : decode cX6_translate 43 = .ok (.if_icmp .ge 21, 3) := by decide +kernel
theorem dX6_translate_46 : decode cX6_translate 46 = .ok (.aload_n 2, 1) := by decide +kernel
theorem dX6_translate_47 : decode cX6_translate 47 = .ok (.aload_n 1, 1) := by decide +kernel
theorem dX6_translate_48 : decode cX6_translate 48 = .ok (.iload 4, 2) := by decide +kernel
theorem dX6_translate_50 : decode cX6_translate 50 = .ok (.iload 5, 2) := by decide +kernel
theorem dX6_translate_52 : decode cX6_translate 52 = .ok (.invokevirtual 45, 3) := by decide +kernel
theorem dX6_translate_55 : decode cX6_translate 55 = .ok (.invokevirtual 55, 3) := by decide +kernel
theorem dX6_translate_58 : decode cX6_translate 58 = .ok (.iinc 5 1, 3) := by decide +kernel
theorem dX6_translate_61 : decode cX6_translate 61 = .ok (.goto (-26), 3) := by decide +kernel
theorem dX6_translate_64 : decode cX6_translate 64 = .ok (.iinc 3 1, 3) := by decide +kernel
theorem dX6_translate_67 : decode cX6_translate 67 = .ok (.goto (-57), 3) := by decide +kernel
theorem dX6_translate_70 : decode cX6_translate 70 = .ok (.aload_n 2, 1) := by decide +kernel
theorem dX6_translate_71 : decode cX6_translate 71 = .ok (.bipush 39, 2) := by decide +kernel
theorem dX6_translate_73 : decode cX6_translate 73 = .ok (.invokevirtual 49, 3) := by decide +kernel
theorem dX6_translate_76 : decode cX6_translate 76 = .ok (.return_, 1) := by decide +kernel
theorem dX7_init_0 : decode cX7_init 0 = .ok (.aload_n 0, 1) := by decide +kernel
theorem dX7_init_1 : decode cX7_init 1 = .ok (.invokespecial 3, 3) := by decide +kernel
theorem dX7_init_4 : decode cX7_init 4 = .ok (.aload_n 0, 1) := by decide +kernel
theorem dX7_init_5 : decode cX7_init 5 = .ok (.bipush 10, 2) := by decide +kernel
theorem dX7_init_7 : decode cX7_init 7 = .ok (.anewarray 9, 3) := by decide +kernel
theorem dX7_init_10 : decode cX7_init 10 = .ok (.putfield 11, 3) := by decide +kernel
theorem dX7_init_13 : decode cX7_init 13 = .ok (.aload_n 0, 1) := by decide +kernel
theorem dX7_init_14 : decode cX7_init 14 = .ok (.new 9, 3) := by decide +kernel
theorem dX7_init_17 : decode cX7_init 17 = .ok (.dup, 1) := by decide +kernel
theorem dX7_init_18 : decode cX7_init 18 = .ok (.invokespecial 17, 3) := by decide +kernel
theorem dX7_init_21 : decode cX7_init 21 = .ok (.putfield 18, 3) := by decide +kernel
theorem dX7_init_24 : decode cX7_init 24 = .ok (.iconst 0, 1) := by decide +kernel
theorem dX7_init_25 : decode cX7_init 25 = .ok (.istore_n 1, 1) := by decide +kernel
theorem dX7_init_26 : decode cX7_init 26 = .ok (.iload_n 1, 1) := by decide +kernel
theorem dX7_init_27 : decode cX7_init 27 = .ok (.bipush 10, 2) := by decide +kernel
theorem dX7_init_29 : decode cX7_init 29 = .ok (.if_icmp .ge 22, 3) := by decide +kernel
theorem dX7_init_32 : decode cX7_init 32 = .ok (.aload_n 0, 1) := by decide +kernel
theorem dX7_init_33 : decode cX7_init 33 = .ok (.getfield 11, 3) := by decide +kernel
theorem dX7_init_36 : decode cX7_init 36 = .ok (.iload_n 1, 1) := by decide +kernel
theorem dX7_init_37 : decode cX7_init 37 = .ok (.new 9, 3) := by decide +kernel
theorem dX7_init_40 : decode cX7_init 40 = .ok (.dup, 1) := by decide +kernel
theorem dX7_init_41 : decode cX7_init 41 = .ok (.invokespecial 17, 3) := by decide +kernel
theorem dX7_init_44 : decode cX7_init 44 = .ok (.aastore, 1) := by decide +kernel
theorem dX7_init_45 : decode cX7_init 45 = .ok (.iinc 1 1, 3) := by decide +kernel
theorem dX7_init_48 : decode cX7_init 48 = .ok (.goto (-22), 3) := by decide +kernel
theorem dX7_init_51 : decode cX7_init 51 = .ok (.return_, 1) := by decide +kernel
theorem dX7_count_0 : decode cX7_count 0 = .ok (.aload_n 0, 1) := by decide +kernel
theorem dX7_count_1 : decode cX7_count 1 = .ok (.getfield 22, 3) := by decide +kernel
theorem dX7_count_4 : decode cX7_count 4 = .ok (.ireturn, 1) := by decide +kernel
theorem dX7_at_0 : decode cX7_at 0 = .ok (.iload_n 1, 1) := by decide +kernel
theorem dX7_at_1 : decode cX7_at 1 = .ok (.ifCond .lt 20, 3) := by decide +kernel
theorem dX7_at_4 : decode cX7_at 4 = .ok (.iload_n 1, 1) := by decide +kernel
theorem dX7_at_5 : decode cX7_at 5 = .ok (.aload_n 0, 1) := by decide +kernel
theorem dX7_at_6 : decode cX7_at 6 = .ok (.getfield 22, 3) := by decide +kernel
theorem dX7_at_9 : decode cX7_at 9 = .ok (.if_icmp .ge 12, 3) := by decide +kernel
theorem dX7_at_12 : decode cX7_at 12 = .ok (.aload_n 0, 1) := by decide +kernel
theorem dX7_at_13 : decode cX7_at 13 = .ok (.getfield 11, 3) := by decide +kernel
theorem dX7_at_16 : decode cX7_at 16 = .ok (.iload_n 1, 1) := by decide +kernel
theorem dX7_at_17 : decode cX7_at 17 = .ok (.aaload, 1) := by decide +kernel
theorem dX7_at_18 : decode cX7_at 18 = .ok (.goto 7, 3) := by decide +kernel
theorem dX7_at_21 : decode cX7_at 21 = .ok (.aload_n 0, 1) := by decide +kernel
theorem dX7_at_22 : decode cX7_at 22 = .ok (.getfield 18, 3) := by decide +kernel
theorem dX7_at_25 : decode cX7_at 25 = .ok (.areturn, 1) := by decide +kernel
theorem dX7_append_0 : decode cX7_append 0 = .ok (.aload_n 0, 1) := by decide +kernel
theorem dX7_append_1 : decode cX7_append 1 = .ok (.getfield 22, 3) := by decide +kernel
theorem dX7_append_4 : decode cX7_append 4 = .ok (.bipush 10, 2) := by decide +kernel
theorem dX7_append_6 : decode cX7_append 6 = .ok (.if_icmp .lt 8, 3) := by decide +kernel
theorem dX7_append_9 : decode cX7_append 9 = .ok (.aload_n 0, 1) := by decide +kernel
theorem dX7_append_10 : decode cX7_append 10 = .ok (.getfield 22, 3) := by decide +kernel
theorem dX7_append_13 : decode cX7_append 13 = .ok (.ireturn, 1) := by decide +kernel
theorem dX7_append_14 : decode cX7_append 14 = .ok (.aload_n 0, 1) := by decide +kernel
theorem dX7_append_15 : decode cX7_append 15 = .ok (.getfield 11, 3) := by decide +kernel
theorem dX7_append_18 : decode cX7_append 18 = .ok (.aload_n 0, 1) := by decide +kernel
theorem dX7_append_19 : decode cX7_append 19 = .ok (.getfield 22, 3) := by decide +kernel
theorem dX7_append_22 : decode cX7_append 22 = .ok (.aaload, 1) := by decide +kernel
theorem dX7_append_23 : decode cX7_append 23 = .ok (.iload_n 1, 1) := by decide +kernel
theorem dX7_append_24 : decode cX7_append 24 = .ok (.iload_n 2, 1) := by decide +kernel
theorem dX7_append_25 : decode cX7_append 25 = .ok (.invokevirtual 26, 3) := by decide +kernel
theorem dX7_append_28 : decode cX7_append 28 = .ok (.aload_n 0, 1) := by decide +kernel
theorem dX7_append_29 : decode cX7_append 29 = .ok (.dup, 1) := by decide +kernel
theorem dX7_append_30 : decode cX7_append 30 = .ok (.getfield 22, 3) := by decide +kernel
theorem dX7_append_33 : decode cX7_append 33 = .ok (.iconst 1, 1) := by decide +kernel
theorem dX7_append_34 : decode cX7_append 34 = .ok (.iadd, 1) := by decide +kernel
theorem dX7_append_35 : decode cX7_append 35 = .ok (.putfield 22, 3) := by decide +kernel
theorem dX7_append_38 : decode cX7_append 38 = .ok (.aload_n 0, 1) := by decide +kernel
theorem dX7_append_39 : decode cX7_append 39 = .ok (.getfield 22, 3) := by decide +kernel
theorem dX7_append_42 : decode cX7_append 42 = .ok (.iconst 1, 1) := by decide +kernel
theorem dX7_append_43 : decode cX7_append 43 = .ok (.isub, 1) := by decide +kernel
theorem dX7_append_44 : decode cX7_append 44 = .ok (.ireturn, 1) := by decide +kernel
theorem dX7_translate_0 : decode cX7_translate 0 = .ok (.aload_n 3, 1) := by decide +kernel
theorem dX7_translate_1 : decode cX7_translate 1 = .ok (.invokevirtual 30, 3) := by decide +kernel
theorem dX7_translate_4 : decode cX7_translate 4 = .ok (.iload_n 2, 1) := by decide +kernel
theorem dX7_translate_5 : decode cX7_translate 5 = .ok (.aload_n 3, 1) := by decide +kernel
theorem dX7_translate_6 : decode cX7_translate 6 = .ok (.invokestatic 35, 3) := by decide +kernel
theorem dX7_translate_9 : decode cX7_translate 9 = .ok (.iconst 2, 1) := by decide +kernel
theorem dX7_translate_10 : decode cX7_translate 10 = .ok (.aload_n 0, 1) := by decide +kernel
theorem dX7_translate_11 : decode cX7_translate 11 = .ok (.aload_n 1, 1) := by decide +kernel
theorem dX7_translate_12 : decode cX7_translate 12 = .ok (.aload_n 3, 1) := by decide +kernel
theorem dX7_translate_13 : decode cX7_translate 13 = .ok (.invokevirtual 39, 3) := by decide +kernel
theorem dX7_translate_16 : decode cX7_translate 16 = .ok (.iadd, 1) := by decide +kernel
theorem dX7_translate_17 : decode cX7_translate 17 = .ok (.istore 4, 2) := by decide +kernel
theorem dX7_translate_19 : decode cX7_translate 19 = .ok (.iload 4, 2) := by decide +kernel
theorem dX7_translate_21 : decode cX7_translate 21 = .ok (.iload_n 2, 1) := by decide +kernel
theorem dX7_translate_22 : decode cX7_translate 22 = .ok (.aload_n 3, 1) := by decide +kernel
theorem dX7_translate_23 : decode cX7_translate 23 = .ok (.invokestatic 43, 3) := by decide +kernel
theorem dX7_translate_26 : decode cX7_translate 26 = .ok (.iload 4, 2) := by decide +kernel
theorem dX7_translate_28 : decode cX7_translate 28 = .ok (.bipush 20, 2) := by decide +kernel
theorem dX7_translate_30 : decode cX7_translate 30 = .ok (.if_icmp .gt 14, 3) := by decide +kernel
theorem dX7_translate_33 : decode cX7_translate 33 = .ok (.aload_n 3, 1) := by decide +kernel
theorem dX7_translate_34 : decode cX7_translate 34 = .ok (.invokevirtual 47, 3) := by decide +kernel
theorem dX7_translate_37 : decode cX7_translate 37 = .ok (.ifCond .ne 7, 3) := by decide +kernel
theorem dX7_translate_40 : decode cX7_translate 40 = .ok (.iconst 1, 1) := by decide +kernel
theorem dX7_translate_41 : decode cX7_translate 41 = .ok (.goto 4, 3) := by decide +kernel
theorem dX7_translate_44 : decode cX7_translate 44 = .ok (.iconst 0, 1) := by decide +kernel
theorem dX7_translate_45 : decode cX7_translate 45 = .ok (.ireturn, 1) := by decide +kernel
theorem dX7_putHeader_0 : decode cX7_putHeader 0 = .ok (.aload_n 1, 1) := by decide +kernel
theorem dX7_putHeader_1 : decode cX7_putHeader 1 = .ok (.bipush 72, 2) := by decide +kernel
theorem dX7_putHeader_3 : decode cX7_putHeader 3 = .ok (.invokevirtual 51, 3) := by decide +kernel
theorem dX7_putHeader_6 : decode cX7_putHeader 6 = .ok (.aload_n 1, 1) := by decide +kernel
theorem dX7_putHeader_7 : decode cX7_putHeader 7 = .ok (.bipush 43, 2) := by decide +kernel
theorem dX7_putHeader_9 : decode cX7_putHeader 9 = .ok (.invokevirtual 51, 3) := by decide +kernel
theorem dX7_putHeader_12 : decode cX7_putHeader 12 = .ok (.aload_n 1, 1) := by decide +kernel
theorem dX7_putHeader_13 : decode cX7_putHeader 13 = .ok (.iload_n 0, 1) := by decide +kernel
theorem dX7_putHeader_14 : decode cX7_putHeader 14 = .ok (.invokevirtual 55, 3) := by decide +kernel
theorem dX7_putHeader_17 : decode cX7_putHeader 17 = .ok (.aload_n 1, 1) := by decide +kernel
theorem dX7_putHeader_18 : decode cX7_putHeader 18 = .ok (.bipush 39, 2) := by decide +kernel
theorem dX7_putHeader_20 : decode cX7_putHeader 20 = .ok (.invokevirtual 51, 3) := by decide +kernel
theorem dX7_putHeader_23 : decode cX7_putHeader 23 = .ok (.return_, 1) := by decide +kernel
theorem dX7_putBody_0 : decode cX7_putBody 0 = .ok (.iconst 0, 1) := by decide +kernel
theorem dX7_putBody_1 : decode cX7_putBody 1 = .ok (.istore_n 3, 1) := by decide +kernel
theorem dX7_putBody_2 : decode cX7_putBody 2 = .ok (.iconst 0, 1) := by decide +kernel
theorem dX7_putBody_3 : decode cX7_putBody 3 = .ok (.istore 4, 2) := by decide +kernel
theorem dX7_putBody_5 : decode cX7_putBody 5 = .ok (.iload 4, 2) := by decide +kernel
theorem dX7_putBody_7 : decode cX7_putBody 7 = .ok (.aload_n 1, 1) := by decide +kernel
theorem dX7_putBody_8 : decode cX7_putBody 8 = .ok (.invokevirtual 59, 3) := by decide +kernel
theorem dX7_putBody_11 : decode cX7_putBody 11 = .ok (.if_icmp .ge 66, 3) := by decide +kernel
theorem dX7_putBody_14 : decode cX7_putBody 14 = .ok (.aload_n 1, 1) := by decide +kernel
theorem dX7_putBody_15 : decode cX7_putBody 15 = .ok (.iload 4, 2) := by decide +kernel
theorem dX7_putBody_17 : decode cX7_putBody 17 = .ok (.invokevirtual 65, 3) := by decide +kernel
theorem dX7_putBody_20 : decode cX7_putBody 20 = .ok (.astore 5, 2) := by decide +kernel
theorem dX7_putBody_22 : decode cX7_putBody 22 = .ok (.iconst 0, 1) := by decide +kernel
theorem dX7_putBody_23 : decode cX7_putBody 23 = .ok (.istore 6, 2) := by decide +kernel
theorem dX7_putBody_25 : decode cX7_putBody 25 = .ok (.iload 6, 2) := by decide +kernel
theorem dX7_putBody_27 : decode cX7_putBody 27 = .ok (.aload_n 0, 1) := by decide +kernel
theorem dX7_putBody_28 : decode cX7_putBody 28 = .ok (.getfield 22, 3) := by decide +kernel
theorem dX7_putBody_31 : decode cX7_putBody 31 = .ok (.if_icmp .ge 40, 3) := by decide +kernel
theorem dX7_putBody_34 : decode cX7_putBody 34 = .ok (.aload_n 0, 1) := by decide +kernel
theorem dX7_putBody_35 : decode cX7_putBody 35 = .ok (.getfield 11, 3) := by decide +kernel
theorem dX7_putBody_38 : decode cX7_putBody 38 = .ok (.iload 6, 2) := by decide +kernel
theorem dX7_putBody_40 : decode cX7_putBody 40 = .ok (.aaload, 1) := by decide +kernel
theorem dX7_putBody_41 : decode cX7_putBody 41 = .ok (.aload 5, 2) := by decide +kernel
theorem dX7_putBody_43 : decode cX7_putBody 43 = .ok (.invokevirtual 69, 3) := by decide +kernel
theorem dX7_putBody_46 : decode cX7_putBody 46 = .ok (.ifCond .eq 19, 3) := by decide +kernel
theorem dX7_putBody_49 : decode cX7_putBody 49 = .ok (.aload_n 0, 1) := by decide +kernel
theorem dX7_putBody_50 : decode cX7_putBody 50 = .ok (.getfield 11, 3) := by decide +kernel
theorem dX7_putBody_53 : decode cX7_putBody 53 = .ok (.iload 6, 2) := by decide +kernel
theorem dX7_putBody_55 : decode cX7_putBody 55 = .ok (.aaload, 1) := by decide +kernel
theorem dX7_putBody_56 : decode cX7_putBody 56 = .ok (.aload 5, 2) := by decide +kernel
theorem dX7_putBody_58 : decode cX7_putBody 58 = .ok (.aload_n 2, 1) := by decide +kernel
theorem dX7_putBody_59 : decode cX7_putBody 59 = .ok (.invokevirtual 73, 3) := by decide +kernel
theorem dX7_putBody_62 : decode cX7_putBody 62 = .ok (.iinc 3 1, 3) := by decide +kernel
theorem dX7_putBody_65 : decode cX7_putBody 65 = .ok (.iinc 6 1, 3) := by decide +kernel
theorem dX7_putBody_68 : decode cX7_putBody 68 = .ok (.goto (-43), 3) := by decide +kernel
theorem dX7_putBody_71 : decode cX7_putBody 71 = .ok (.iinc 4 1, 3) := by decide +kernel
theorem dX7_putBody_74 : decode cX7_putBody 74 = .ok (.goto (-69), 3) := by decide +kernel
theorem dX7_putBody_77 : decode cX7_putBody 77 = .ok (.iload_n 3, 1) := by decide +kernel
theorem dX7_putBody_78 : decode cX7_putBody 78 = .ok (.ireturn, 1) := by decide +kernel
theorem dX7_putTrailer_0 : decode cX7_putTrailer 0 = .ok (.aload_n 2, 1) := by decide +kernel
theorem dX7_putTrailer_1 : decode cX7_putTrailer 1 = .ok (.bipush 84, 2) := by decide +kernel
theorem dX7_putTrailer_3 : decode cX7_putTrailer 3 = .ok (.invokevirtual 51, 3) := by decide +kernel
theorem dX7_putTrailer_6 : decode cX7_putTrailer 6 = .ok (.aload_n 2, 1) := by decide +kernel
theorem dX7_putTrailer_7 : decode cX7_putTrailer 7 = .ok (.bipush 43, 2) := by decide +kernel
theorem dX7_putTrailer_9 : decode cX7_putTrailer 9 = .ok (.invokevirtual 51, 3) := by decide +kernel
theorem dX7_putTrailer_12 : decode cX7_putTrailer 12 = .ok (.aload_n 2, 1) := by decide +kernel
theorem dX7_putTrailer_13 : decode cX7_putTrailer 13 = .ok (.iload_n 0, 1) := by decide +kernel
theorem dX7_putTrailer_14 : decode cX7_putTrailer 14 = .ok (.invokevirtual 55, 3) := by decide +kernel
theorem dX7_putTrailer_17 : decode cX7_putTrailer 17 = .ok (.aload_n 2, 1) := by decide +kernel
theorem dX7_putTrailer_18 : decode cX7_putTrailer 18 = .ok (.bipush 43, 2) := by decide +kernel
theorem dX7_putTrailer_20 : decode cX7_putTrailer 20 = .ok (.invokevirtual 51, 3) := by decide +kernel
theorem dX7_putTrailer_23 : decode cX7_putTrailer 23 = .ok (.aload_n 2, 1) := by decide +kernel
theorem dX7_putTrailer_24 : decode cX7_putTrailer 24 = .ok (.iload_n 1, 1) := by decide +kernel
theorem dX7_putTrailer_25 : decode cX7_putTrailer 25 = .ok (.invokevirtual 55, 3) := by decide +kernel
theorem dX7_putTrailer_28 : decode cX7_putTrailer 28 = .ok (.aload_n 2, 1) := by decide +kernel
theorem dX7_putTrailer_29 : decode cX7_putTrailer 29 = .ok (.bipush 39, 2) := by decide +kernel
theorem dX7_putTrailer_31 : decode cX7_putTrailer 31 = .ok (.invokevirtual 51, 3) := by decide +kernel
theorem dX7_putTrailer_34 : decode cX7_putTrailer 34 = .ok (.return_, 1) := by decide +kernel
theorem dX8_init_0 : decode cX8_init 0 = .ok (.aload_n 0, 1) := by decide +kernel
theorem dX8_init_1 : decode cX8_init 1 = .ok (.invokespecial 3, 3) := by decide +kernel
theorem dX8_init_4 : decode cX8_init 4 = .ok (.aload_n 0, 1) := by decide +kernel
theorem dX8_init_5 : decode cX8_init 5 = .ok (.bipush 10, 2) := by decide +kernel
theorem dX8_init_7 : decode cX8_init 7 = .ok (.anewarray 9, 3) := by decide +kernel
theorem dX8_init_10 : decode cX8_init 10 = .ok (.putfield 11, 3) := by decide +kernel
theorem dX8_init_13 : decode cX8_init 13 = .ok (.aload_n 0, 1) := by decide +kernel
theorem dX8_init_14 : decode cX8_init 14 = .ok (.bipush 11, 2) := by decide +kernel
theorem dX8_init_16 : decode cX8_init 16 = .ok (.anewarray 17, 3) := by decide +kernel
theorem dX8_init_19 : decode cX8_init 19 = .ok (.putfield 19, 3) := by decide +kernel
theorem dX8_init_22 : decode cX8_init 22 = .ok (.aload_n 0, 1) := by decide +kernel
theorem dX8_init_23 : decode cX8_init 23 = .ok (.new 9, 3) := by decide +kernel
theorem dX8_init_26 : decode cX8_init 26 = .ok (.dup, 1) := by decide +kernel
theorem dX8_init_27 : decode cX8_init 27 = .ok (.invokespecial 23, 3) := by decide +kernel
theorem dX8_init_30 : decode cX8_init 30 = .ok (.putfield 24, 3) := by decide +kernel
theorem dX8_init_33 : decode cX8_init 33 = .ok (.aload_n 0, 1) := by decide +kernel
theorem dX8_init_34 : decode cX8_init 34 = .ok (.new 17, 3) := by decide +kernel
theorem dX8_init_37 : decode cX8_init 37 = .ok (.dup, 1) := by decide +kernel
theorem dX8_init_38 : decode cX8_init 38 = .ok (.invokespecial 28, 3) := by decide +kernel
theorem dX8_init_41 : decode cX8_init 41 = .ok (.putfield 29, 3) := by decide +kernel
theorem dX8_init_44 : decode cX8_init 44 = .ok (.iconst 0, 1) := by decide +kernel
theorem dX8_init_45 : decode cX8_init 45 = .ok (.istore_n 1, 1) := by decide +kernel
theorem dX8_init_46 : decode cX8_init 46 = .ok (.iload_n 1, 1) := by decide +kernel
theorem dX8_init_47 : decode cX8_init 47 = .ok (.bipush 10, 2) := by decide +kernel
theorem dX8_init_49 : decode cX8_init 49 = .ok (.if_icmp .ge 22, 3) := by decide +kernel
theorem dX8_init_52 : decode cX8_init 52 = .ok (.aload_n 0, 1) := by decide +kernel
theorem dX8_init_53 : decode cX8_init 53 = .ok (.getfield 11, 3) := by decide +kernel
theorem dX8_init_56 : decode cX8_init 56 = .ok (.iload_n 1, 1) := by decide +kernel
theorem dX8_init_57 : decode cX8_init 57 = .ok (.new 9, 3) := by decide +kernel
theorem dX8_init_60 : decode cX8_init 60 = .ok (.dup, 1) := by decide +kernel
theorem dX8_init_61 : decode cX8_init 61 = .ok (.invokespecial 23, 3) := by decide +kernel
theorem dX8_init_64 : decode cX8_init 64 = .ok (.aastore, 1) := by decide +kernel
theorem dX8_init_65 : decode cX8_init 65 = .ok (.iinc 1 1, 3) := by decide +kernel
theorem dX8_init_68 : decode cX8_init 68 = .ok (.goto (-22), 3) := by decide +kernel
theorem dX8_init_71 : decode cX8_init 71 = .ok (.iconst 0, 1) := by decide +kernel
theorem dX8_init_72 : decode cX8_init 72 = .ok (.istore_n 1, 1) := by decide +kernel
theorem dX8_init_73 : decode cX8_init 73 = .ok (.iload_n 1, 1) := by decide +kernel
theorem dX8_init_74 : decode cX8_init 74 = .ok (.bipush 11, 2) := by decide +kernel
theorem dX8_init_76 : decode cX8_init 76 = .ok (.if_icmp .ge 22, 3) := by decide +kernel
theorem dX8_init_79 : decode cX8_init 79 = .ok (.aload_n 0, 1) := by decide +kernel
theorem dX8_init_80 : decode cX8_init 80 = .ok (.getfield 19, 3) := by decide +kernel
theorem dX8_init_83 : decode cX8_init 83 = .ok (.iload_n 1, 1) := by decide +kernel
theorem dX8_init_84 : decode cX8_init 84 = .ok (.new 17, 3) := by decide +kernel
theorem dX8_init_87 : decode cX8_init 87 = .ok (.dup, 1) := by decide +kernel
theorem dX8_init_88 : decode cX8_init 88 = .ok (.invokespecial 28, 3) := by decide +kernel
theorem dX8_init_91 : decode cX8_init 91 = .ok (.aastore, 1) := by decide +kernel
theorem dX8_init_92 : decode cX8_init 92 = .ok (.iinc 1 1, 3) := by decide +kernel
theorem dX8_init_95 : decode cX8_init 95 = .ok (.goto (-22), 3) := by decide +kernel
theorem dX8_init_98 : decode cX8_init 98 = .ok (.return_, 1) := by decide +kernel
theorem dX8_itemCount_0 : decode cX8_itemCount 0 = .ok (.aload_n 0, 1) := by decide +kernel
theorem dX8_itemCount_1 : decode cX8_itemCount 1 = .ok (.getfield 33, 3) := by decide +kernel
theorem dX8_itemCount_4 : decode cX8_itemCount 4 = .ok (.ireturn, 1) := by decide +kernel
theorem dX8_entryCount_0 : decode cX8_entryCount 0 = .ok (.aload_n 0, 1) := by decide +kernel
theorem dX8_entryCount_1 : decode cX8_entryCount 1 = .ok (.getfield 37, 3) := by decide +kernel
theorem dX8_entryCount_4 : decode cX8_entryCount 4 = .ok (.ireturn, 1) := by decide +kernel
theorem dX8_itemAt_0 : decode cX8_itemAt 0 = .ok (.iload_n 1, 1) := by decide +kernel
theorem dX8_itemAt_1 : decode cX8_itemAt 1 = .ok (.ifCond .lt 20, 3) := by decide +kernel
theorem dX8_itemAt_4 : decode cX8_itemAt 4 = .ok (.iload_n 1, 1) := by decide +kernel
theorem dX8_itemAt_5 : decode cX8_itemAt 5 = .ok (.aload_n 0, 1) := by decide +kernel
theorem dX8_itemAt_6 : decode cX8_itemAt 6 = .ok (.getfield 33, 3) := by decide +kernel
theorem dX8_itemAt_9 : decode cX8_itemAt 9 = .ok (.if_icmp .ge 12, 3) := by decide +kernel
theorem dX8_itemAt_12 : decode cX8_itemAt 12 = .ok (.aload_n 0, 1) := by decide +kernel
theorem dX8_itemAt_13 : decode cX8_itemAt 13 = .ok (.getfield 11, 3) := by decide +kernel
theorem dX8_itemAt_16 : decode cX8_itemAt 16 = .ok (.iload_n 1, 1) := by decide +kernel
theorem dX8_itemAt_17 : decode cX8_itemAt 17 = .ok (.aaload, 1) := by decide +kernel
theorem dX8_itemAt_18 : decode cX8_itemAt 18 = .ok (.goto 7, 3) := by decide +kernel
theorem dX8_itemAt_21 : decode cX8_itemAt 21 = .ok (.aload_n 0, 1) := by decide +kernel
theorem dX8_itemAt_22 : decode cX8_itemAt 22 = .ok (.getfield 24, 3) := by decide +kernel
theorem dX8_itemAt_25 : decode cX8_itemAt 25 = .ok (.areturn, 1) := by decide +kernel
theorem dX8_entryAt_0 : decode cX8_entryAt 0 = .ok (.iload_n 1, 1) := by decide +kernel
theorem dX8_entryAt_1 : decode cX8_entryAt 1 = .ok (.ifCond .lt 20, 3) := by decide +kernel
theorem dX8_entryAt_4 : decode cX8_entryAt 4 = .ok (.iload_n 1, 1) := by decide +kernel
theorem dX8_entryAt_5 : decode cX8_entryAt 5 = .ok (.aload_n 0, 1) := by decide +kernel
theorem dX8_entryAt_6 : decode cX8_entryAt 6 = .ok (.getfield 37, 3) := by decide +kernel
theorem dX8_entryAt_9 : decode cX8_entryAt 9 = .ok (.if_icmp .ge 12, 3) := by decide +kernel
theorem dX8_entryAt_12 : decode cX8_entryAt 12 = .ok (.aload_n 0, 1) := by decide +kernel
theorem dX8_entryAt_13 : decode cX8_entryAt 13 = .ok (.getfield 19, 3) := by decide +kernel
theorem dX8_entryAt_16 : decode cX8_entryAt 16 = .ok (.iload_n 1, 1) := by decide +kernel
theorem dX8_entryAt_17 : decode cX8_entryAt 17 = .ok (.aaload, 1) := by decide +kernel
theorem dX8_entryAt_18 : decode cX8_entryAt 18 = .ok (.goto 7, 3) := by decide +kernel
theorem dX8_entryAt_21 : decode cX8_entryAt 21 = .ok (.aload_n 0, 1) := by decide +kernel
theorem dX8_entryAt_22 : decode cX8_entryAt 22 = .ok (.getfield 29, 3) := by decide +kernel
theorem dX8_entryAt_25 : decode cX8_entryAt 25 = .ok (.areturn, 1) := by decide +kernel
theorem dX8_isLoopOpen_0 : decode cX8_isLoopOpen 0 = .ok (.aload_n 0, 1) := by decide +kernel
theorem dX8_isLoopOpen_1 : decode cX8_isLoopOpen 1 = .ok (.getfield 40, 3) := by decide +kernel
theorem dX8_isLoopOpen_4 : decode cX8_isLoopOpen 4 = .ok (.ireturn, 1) := by decide +kernel
theorem dX8_openLoopSize_0 : decode cX8_openLoopSize 0 = .ok (.aload_n 0, 1) := by decide +kernel
theorem dX8_openLoopSize_1 : decode cX8_openLoopSize 1 = .ok (.aload_n 0, 1) := by decide +kernel
theorem dX8_openLoopSize_2 : decode cX8_openLoopSize 2 = .ok (.getfield 37, 3) := by decide +kernel
theorem dX8_openLoopSize_5 : decode cX8_openLoopSize 5 = .ok (.iconst 1, 1) := by decide +kernel
theorem dX8_openLoopSize_6 : decode cX8_openLoopSize 6 = .ok (.isub, 1) := by decide +kernel
theorem dX8_openLoopSize_7 : decode cX8_openLoopSize 7 = .ok (.invokevirtual 44, 3) := by decide +kernel
theorem dX8_openLoopSize_10 : decode cX8_openLoopSize 10 = .ok (.astore_n 1, 1) := by decide +kernel
theorem dX8_openLoopSize_11 : decode cX8_openLoopSize 11 = .ok (.aload_n 0, 1) := by decide +kernel
theorem dX8_openLoopSize_12 : decode cX8_openLoopSize 12 = .ok (.getfield 40, 3) := by decide +kernel
theorem dX8_openLoopSize_15 : decode cX8_openLoopSize 15 = .ok (.ifCond .eq 15, 3) := by decide +kernel
theorem dX8_openLoopSize_18 : decode cX8_openLoopSize 18 = .ok (.aload_n 1, 1) := by decide +kernel
theorem dX8_openLoopSize_19 : decode cX8_openLoopSize 19 = .ok (.getfield 48, 3) := by decide +kernel
theorem dX8_openLoopSize_22 : decode cX8_openLoopSize 22 = .ok (.aload_n 1, 1) := by decide +kernel
theorem dX8_openLoopSize_23 : decode cX8_openLoopSize 23 = .ok (.getfield 51, 3) := by decide +kernel
theorem dX8_openLoopSize_26 : decode cX8_openLoopSize 26 = .ok (.isub, 1) := by decide +kernel
theorem dX8_openLoopSize_27 : decode cX8_openLoopSize 27 = .ok (.goto 4, 3) := by decide +kernel
theorem dX8_openLoopSize_30 : decode cX8_openLoopSize 30 = .ok (.iconst 0, 1) := by decide +kernel
theorem dX8_openLoopSize_31 : decode cX8_openLoopSize 31 = .ok (.ireturn, 1) := by decide +kernel
theorem dX8_appendItem_0 : decode cX8_appendItem 0 = .ok (.aload_n 0, 1) := by decide +kernel
theorem dX8_appendItem_1 : decode cX8_appendItem 1 = .ok (.getfield 33, 3) := by decide +kernel
theorem dX8_appendItem_4 : decode cX8_appendItem 4 = .ok (.bipush 10, 2) := by decide +kernel
theorem dX8_appendItem_6 : decode cX8_appendItem 6 = .ok (.if_icmp .lt 8, 3) := by decide +kernel
theorem dX8_appendItem_9 : decode cX8_appendItem 9 = .ok (.aload_n 0, 1) := by decide +kernel
theorem dX8_appendItem_10 : decode cX8_appendItem 10 = .ok (.getfield 33, 3) := by decide +kernel
theorem dX8_appendItem_13 : decode cX8_appendItem 13 = .ok (.ireturn, 1) := by decide +kernel
theorem dX8_appendItem_14 : decode cX8_appendItem 14 = .ok (.aload_n 0, 1) := by decide +kernel
theorem dX8_appendItem_15 : decode cX8_appendItem 15 = .ok (.getfield 40, 3) := by decide +kernel
theorem dX8_appendItem_18 : decode cX8_appendItem 18 = .ok (.ifCond .ne 14, 3) := by decide +kernel
theorem dX8_appendItem_21 : decode cX8_appendItem 21 = .ok (.aload_n 0, 1) := by decide +kernel
theorem dX8_appendItem_22 : decode cX8_appendItem 22 = .ok (.iconst 0, 1) := by decide +kernel
theorem dX8_appendItem_23 : decode cX8_appendItem 23 = .ok (.iload_n 2, 1) := by decide +kernel
theorem dX8_appendItem_24 : decode cX8_appendItem 24 = .ok (.iconst 1, 1) := by decide +kernel
theorem dX8_appendItem_25 : decode cX8_appendItem 25 = .ok (.invokestatic 54, 3) := by decide +kernel
theorem dX8_appendItem_28 : decode cX8_appendItem 28 = .ok (.iconst 1, 1) := by decide +kernel
theorem dX8_appendItem_29 : decode cX8_appendItem 29 = .ok (.invokevirtual 60, 3) := by decide +kernel
theorem dX8_appendItem_32 : decode cX8_appendItem 32 = .ok (.aload_n 0, 1) := by decide +kernel
theorem dX8_appendItem_33 : decode cX8_appendItem 33 = .ok (.aload_n 0, 1) := by decide +kernel
theorem dX8_appendItem_34 : decode cX8_appendItem 34 = .ok (.getfield 37, 3) := by decide +kernel
theorem dX8_appendItem_37 : decode cX8_appendItem 37 = .ok (.iconst 1, 1) := by decide +kernel
theorem dX8_appendItem_38 : decode cX8_appendItem 38 = .ok (.isub, 1) := by decide +kernel
theorem dX8_appendItem_39 : decode cX8_appendItem 39 = .ok (.invokevirtual 44, 3) := by decide +kernel
theorem dX8_appendItem_42 : decode cX8_appendItem 42 = .ok (.invokevirtual 64, 3) := by decide +kernel
theorem dX8_appendItem_45 : decode cX8_appendItem 45 = .ok (.aload_n 0, 1) := by decide +kernel
theorem dX8_appendItem_46 : decode cX8_appendItem 46 = .ok (.getfield 11, 3) := by decide +kernel
theorem dX8_appendItem_49 : decode cX8_appendItem 49 = .ok (.aload_n 0, 1) := by decide +kernel
theorem dX8_appendItem_50 : decode cX8_appendItem 50 = .ok (.getfield 33, 3) := by decide +kernel
theorem dX8_appendItem_53 : decode cX8_appendItem 53 = .ok (.aaload, 1) := by decide +kernel
theorem dX8_appendItem_54 : decode cX8_appendItem 54 = .ok (.iload_n 1, 1) := by decide +kernel
theorem dX8_appendItem_55 : decode cX8_appendItem 55 = .ok (.iload_n 2, 1) := by decide +kernel
theorem dX8_appendItem_56 : decode cX8_appendItem 56 = .ok (.iload_n 3, 1) := by decide +kernel
theorem dX8_appendItem_57 : decode cX8_appendItem 57 = .ok (.invokevirtual 67, 3) := by decide +kernel
theorem dX8_appendItem_60 : decode cX8_appendItem 60 = .ok (.aload_n 0, 1) := by decide +kernel
theorem dX8_appendItem_61 : decode cX8_appendItem 61 = .ok (.dup, 1) := by decide +kernel
theorem dX8_appendItem_62 : decode cX8_appendItem 62 = .ok (.getfield 33, 3) := by decide +kernel
theorem dX8_appendItem_65 : decode cX8_appendItem 65 = .ok (.iconst 1, 1) := by decide +kernel
theorem dX8_appendItem_66 : decode cX8_appendItem 66 = .ok (.iadd, 1) := by decide +kernel
theorem dX8_appendItem_67 : decode cX8_appendItem 67 = .ok (.putfield 33, 3) := by decide +kernel
theorem dX8_appendItem_70 : decode cX8_appendItem 70 = .ok (.aload_n 0, 1) := by decide +kernel
theorem dX8_appendItem_71 : decode cX8_appendItem 71 = .ok (.getfield 33, 3) := by decide +kernel
theorem dX8_appendItem_74 : decode cX8_appendItem 74 = .ok (.iconst 1, 1) := by decide +kernel
theorem dX8_appendItem_75 : decode cX8_appendItem 75 = .ok (.isub, 1) := by decide +kernel
theorem dX8_appendItem_76 : decode cX8_appendItem 76 = .ok (.ireturn, 1) := by decide +kernel
theorem dX8_beginLoop_0 : decode cX8_beginLoop 0 = .ok (.aload_n 0, 1) := by decide +kernel
theorem dX8_beginLoop_1 : decode cX8_beginLoop 1 = .ok (.iconst 1, 1) := by decide +kernel
theorem dX8_beginLoop_2 : decode cX8_beginLoop 2 = .ok (.iload_n 1, 1) := by decide +kernel
theorem dX8_beginLoop_3 : decode cX8_beginLoop 3 = .ok (.iload_n 2, 1) := by decide +kernel
theorem dX8_beginLoop_4 : decode cX8_beginLoop 4 = .ok (.invokevirtual 60, 3) := by decide +kernel
theorem dX8_beginLoop_7 : decode cX8_beginLoop 7 = .ok (.aload_n 0, 1) := by decide +kernel
theorem dX8_beginLoop_8 : decode cX8_beginLoop 8 = .ok (.iconst 1, 1) := by decide +kernel
theorem dX8_beginLoop_9 : decode cX8_beginLoop 9 = .ok (.putfield 40, 3) := by decide +kernel
theorem dX8_beginLoop_12 : decode cX8_beginLoop 12 = .ok (.return_, 1) := by decide +kernel
theorem dX8_endLoop_0 : decode cX8_endLoop 0 = .ok (.aload_n 0, 1) := by decide +kernel
theorem dX8_endLoop_1 : decode cX8_endLoop 1 = .ok (.invokevirtual 71, 3) := by decide +kernel
theorem dX8_endLoop_4 : decode cX8_endLoop 4 = .ok (.istore_n 1, 1) := by decide +kernel
theorem dX8_endLoop_5 : decode cX8_endLoop 5 = .ok (.aload_n 0, 1) := by decide +kernel
theorem dX8_endLoop_6 : decode cX8_endLoop 6 = .ok (.iconst 0, 1) := by decide +kernel
theorem dX8_endLoop_7 : decode cX8_endLoop 7 = .ok (.putfield 40, 3) := by decide +kernel
theorem dX8_endLoop_10 : decode cX8_endLoop 10 = .ok (.iload_n 1, 1) := by decide +kernel
theorem dX8_endLoop_11 : decode cX8_endLoop 11 = .ok (.ireturn, 1) := by decide +kernel
theorem dX8_appendEntry_0 : decode cX8_appendEntry 0 = .ok (.aload_n 0, 1) := by decide +kernel
theorem dX8_appendEntry_1 : decode cX8_appendEntry 1 = .ok (.getfield 37, 3) := by decide +kernel
theorem dX8_appendEntry_4 : decode cX8_appendEntry 4 = .ok (.bipush 11, 2) := by decide +kernel
theorem dX8_appendEntry_6 : decode cX8_appendEntry 6 = .ok (.if_icmp .ge 32, 3) := by decide +kernel
theorem dX8_appendEntry_9 : decode cX8_appendEntry 9 = .ok (.aload_n 0, 1) := by decide +kernel
theorem dX8_appendEntry_10 : decode cX8_appendEntry 10 = .ok (.getfield 19, 3) := by decide +kernel
theorem dX8_appendEntry_13 : decode cX8_appendEntry 13 = .ok (.aload_n 0, 1) := by decide +kernel
theorem dX8_appendEntry_14 : decode cX8_appendEntry 14 = .ok (.getfield 37, 3) := by decide +kernel
theorem dX8_appendEntry_17 : decode cX8_appendEntry 17 = .ok (.aaload, 1) := by decide +kernel
theorem dX8_appendEntry_18 : decode cX8_appendEntry 18 = .ok (.iload_n 1, 1) := by decide +kernel
theorem dX8_appendEntry_19 : decode cX8_appendEntry 19 = .ok (.aload_n 0, 1) := by decide +kernel
theorem dX8_appendEntry_20 : decode cX8_appendEntry 20 = .ok (.getfield 33, 3) := by decide +kernel
theorem dX8_appendEntry_23 : decode cX8_appendEntry 23 = .ok (.iload_n 2, 1) := by decide +kernel
theorem dX8_appendEntry_24 : decode cX8_appendEntry 24 = .ok (.iload_n 3, 1) := by decide +kernel
theorem dX8_appendEntry_25 : decode cX8_appendEntry 25 = .ok (.invokevirtual 75, 3) := by decide +kernel
theorem dX8_appendEntry_28 : decode cX8_appendEntry 28 = .ok (.aload_n 0, 1) := by decide +kernel
theorem dX8_appendEntry_29 : decode cX8_appendEntry 29 = .ok (.dup, 1) := by decide +kernel
theorem dX8_appendEntry_30 : decode cX8_appendEntry 30 = .ok (.getfield 37, 3) := by decide +kernel
theorem dX8_appendEntry_33 : decode cX8_appendEntry 33 = .ok (.iconst 1, 1) := by decide +kernel
theorem dX8_appendEntry_34 : decode cX8_appendEntry 34 = .ok (.iadd, 1) := by decide +kernel
theorem dX8_appendEntry_35 : decode cX8_appendEntry 35 = .ok (.putfield 37, 3) := by decide +kernel
theorem dX8_appendEntry_38 : decode cX8_appendEntry 38 = .ok (.return_, 1) := by decide +kernel
theorem dX9_init_0 : decode cX9_init 0 = .ok (.aload_n 0, 1) := by decide +kernel
theorem dX9_init_1 : decode cX9_init 1 = .ok (.invokespecial 3, 3) := by decide +kernel
theorem dX9_init_4 : decode cX9_init 4 = .ok (.aload_n 0, 1) := by decide +kernel
theorem dX9_init_5 : decode cX9_init 5 = .ok (.bipush 40, 2) := by decide +kernel
theorem dX9_init_7 : decode cX9_init 7 = .ok (.newarray .char, 2) := by decide +kernel
theorem dX9_init_9 : decode cX9_init 9 = .ok (.putfield 9, 3) := by decide +kernel
theorem dX9_init_12 : decode cX9_init 12 = .ok (.aload_n 0, 1) := by decide +kernel
theorem dX9_init_13 : decode cX9_init 13 = .ok (.iconst 5, 1) := by decide +kernel
theorem dX9_init_14 : decode cX9_init 14 = .ok (.newarray .int, 2) := by decide +kernel
theorem dX9_init_16 : decode cX9_init 16 = .ok (.putfield 15, 3) := by decide +kernel
theorem dX9_init_19 : decode cX9_init 19 = .ok (.aload_n 0, 1) := by decide +kernel
theorem dX9_init_20 : decode cX9_init 20 = .ok (.bipush 32, 2) := by decide +kernel
theorem dX9_init_22 : decode cX9_init 22 = .ok (.putfield 19, 3) := by decide +kernel
theorem dX9_init_25 : decode cX9_init 25 = .ok (.return_, 1) := by decide +kernel
theorem dX9_begin_0 : decode cX9_begin 0 = .ok (.aload_n 0, 1) := by decide +kernel
theorem dX9_begin_1 : decode cX9_begin 1 = .ok (.iload_n 1, 1) := by decide +kernel
theorem dX9_begin_2 : decode cX9_begin 2 = .ok (.putfield 23, 3) := by decide +kernel
theorem dX9_begin_5 : decode cX9_begin 5 = .ok (.aload_n 0, 1) := by decide +kernel
theorem dX9_begin_6 : decode cX9_begin 6 = .ok (.iload_n 2, 1) := by decide +kernel
theorem dX9_begin_7 : decode cX9_begin 7 = .ok (.putfield 19, 3) := by decide +kernel
theorem dX9_begin_10 : decode cX9_begin 10 = .ok (.aload_n 0, 1) := by decide +kernel
theorem dX9_begin_11 : decode cX9_begin 11 = .ok (.iconst 0, 1) := by decide +kernel
theorem dX9_begin_12 : decode cX9_begin 12 = .ok (.putfield 27, 3) := by decide +kernel
theorem dX9_begin_15 : decode cX9_begin 15 = .ok (.return_, 1) := by decide +kernel
theorem dX9_beginElement_0 : decode cX9_beginElement 0 = .ok (.aload_n 0, 1) := by decide +kernel
theorem dX9_beginElement_1 : decode cX9_beginElement 1 = .ok (.getfield 27, 3) := by decide +kernel
theorem dX9_beginElement_4 : decode cX9_beginElement 4 = .ok (.iconst 5, 1) := by decide +kernel
theorem dX9_beginElement_5 : decode cX9_beginElement 5 = .ok (.if_icmp .ge 23, 3) := by decide +kernel
theorem dX9_beginElement_8 : decode cX9_beginElement 8 = .ok (.aload_n 0, 1) := by decide +kernel
theorem dX9_beginElement_9 : decode cX9_beginElement 9 = .ok (.getfield 15, 3) := by decide +kernel
theorem dX9_beginElement_12 : decode cX9_beginElement 12 = .ok (.aload_n 0, 1) := by decide +kernel
theorem dX9_beginElement_13 : decode cX9_beginElement 13 = .ok (.getfield 27, 3) := by decide +kernel
theorem dX9_beginElement_16 : decode cX9_beginElement 16 = .ok (.iconst 0, 1) := by decide +kernel
theorem dX9_beginElement_17 : decode cX9_beginElement 17 = .ok (.iastore, 1) := by decide +kernel
theorem dX9_beginElement_18 : decode cX9_beginElement 18 = .ok (.aload_n 0, 1) := by decide +kernel
theorem dX9_beginElement_19 : decode cX9_beginElement 19 = .ok (.dup, 1) := by decide +kernel
theorem dX9_beginElement_20 : decode cX9_beginElement 20 = .ok (.getfield 27, 3) := by decide +kernel
theorem dX9_beginElement_23 : decode cX9_beginElement 23 = .ok (.iconst 1, 1) := by decide +kernel
theorem dX9_beginElement_24 : decode cX9_beginElement 24 = .ok (.iadd, 1) := by decide +kernel
theorem dX9_beginElement_25 : decode cX9_beginElement 25 = .ok (.putfield 27, 3) := by decide +kernel
theorem dX9_beginElement_28 : decode cX9_beginElement 28 = .ok (.return_, 1) := by decide +kernel
theorem dX9_append_0 : decode cX9_append 0 = .ok (.aload_n 0, 1) := by decide +kernel
theorem dX9_append_1 : decode cX9_append 1 = .ok (.getfield 27, 3) := by decide +kernel
theorem dX9_append_4 : decode cX9_append 4 = .ok (.iconst 1, 1) := by decide +kernel
theorem dX9_append_5 : decode cX9_append 5 = .ok (.isub, 1) := by decide +kernel
theorem dX9_append_6 : decode cX9_append 6 = .ok (.istore_n 2, 1) := by decide +kernel
theorem dX9_append_7 : decode cX9_append 7 = .ok (.iload_n 2, 1) := by decide +kernel
theorem dX9_append_8 : decode cX9_append 8 = .ok (.ifCond .ge 4, 3) := by decide +kernel
theorem dX9_append_11 : decode cX9_append 11 = .ok (.return_, 1) := by decide +kernel
theorem dX9_append_12 : decode cX9_append 12 = .ok (.aload_n 0, 1) := by decide +kernel
theorem dX9_append_13 : decode cX9_append 13 = .ok (.getfield 15, 3) := by decide +kernel
theorem dX9_append_16 : decode cX9_append 16 = .ok (.iload_n 2, 1) := by decide +kernel
theorem dX9_append_17 : decode cX9_append 17 = .ok (.iaload, 1) := by decide +kernel
theorem dX9_append_18 : decode cX9_append 18 = .ok (.bipush 8, 2) := by decide +kernel
theorem dX9_append_20 : decode cX9_append 20 = .ok (.if_icmp .ge 20, 3) := by decide +kernel
theorem dX9_append_23 : decode cX9_append 23 = .ok (.aload_n 0, 1) := by decide +kernel
theorem dX9_append_24 : decode cX9_append 24 = .ok (.getfield 9, 3) := by decide +kernel
theorem dX9_append_27 : decode cX9_append 27 = .ok (.iload_n 2, 1) := by decide +kernel
theorem dX9_append_28 : decode cX9_append 28 = .ok (.bipush 8, 2) := by decide +kernel
theorem dX9_append_30 : decode cX9_append 30 = .ok (.imul, 1) := by decide +kernel
theorem dX9_append_31 : decode cX9_append 31 = .ok (.aload_n 0, 1) := by decide +kernel
theorem dX9_append_32 : decode cX9_append 32 = .ok (.getfield 15, 3) := by decide +kernel
theorem dX9_append_35 : decode cX9_append 35 = .ok (.iload_n 2, 1) := by decide +kernel
theorem dX9_append_36 : decode cX9_append 36 = .ok (.iaload, 1) := by decide +kernel
theorem dX9_append_37 : decode cX9_append 37 = .ok (.iadd, 1) := by decide +kernel
theorem dX9_append_38 : decode cX9_append 38 = .ok (.iload_n 1, 1) := by decide +kernel
theorem dX9_append_39 : decode cX9_append 39 = .ok (.castore, 1) := by decide +kernel
theorem dX9_append_40 : decode cX9_append 40 = .ok (.aload_n 0, 1) := by decide +kernel
theorem dX9_append_41 : decode cX9_append 41 = .ok (.getfield 15, 3) := by decide +kernel
theorem dX9_append_44 : decode cX9_append 44 = .ok (.iload_n 2, 1) := by decide +kernel
theorem dX9_append_45 : decode cX9_append 45 = .ok (.dup2, 1) := by decide +kernel
theorem dX9_append_46 : decode cX9_append 46 = .ok (.iaload, 1) := by decide +kernel
theorem dX9_append_47 : decode cX9_append 47 = .ok (.iconst 1, 1) := by decide +kernel
theorem dX9_append_48 : decode cX9_append 48 = .ok (.iadd, 1) := by decide +kernel
theorem dX9_append_49 : decode cX9_append 49 = .ok (.iastore, 1) := by decide +kernel
theorem dX9_append_50 : decode cX9_append 50 = .ok (.return_, 1) := by decide +kernel
theorem dX9_assign_0 : decode cX9_assign 0 = .ok (.aload_n 0, 1) := by decide +kernel
theorem dX9_assign_1 : decode cX9_assign 1 = .ok (.iload_n 1, 1) := by decide +kernel
theorem dX9_assign_2 : decode cX9_assign 2 = .ok (.putfield 30, 3) := by decide +kernel
theorem dX9_assign_5 : decode cX9_assign 5 = .ok (.aload_n 0, 1) := by decide +kernel
theorem dX9_assign_6 : decode cX9_assign 6 = .ok (.iload_n 2, 1) := by decide +kernel
theorem dX9_assign_7 : decode cX9_assign 7 = .ok (.putfield 33, 3) := by decide +kernel
theorem dX9_assign_10 : decode cX9_assign 10 = .ok (.return_, 1) := by decide +kernel
theorem dX9_start_0 : decode cX9_start 0 = .ok (.aload_n 0, 1) := by decide +kernel
theorem dX9_start_1 : decode cX9_start 1 = .ok (.getfield 23, 3) := by decide +kernel
theorem dX9_start_4 : decode cX9_start 4 = .ok (.ireturn, 1) := by decide +kernel
theorem dX9_mark_0 : decode cX9_mark 0 = .ok (.aload_n 0, 1) := by decide +kernel
theorem dX9_mark_1 : decode cX9_mark 1 = .ok (.getfield 19, 3) := by decide +kernel
theorem dX9_mark_4 : decode cX9_mark 4 = .ok (.ireturn, 1) := by decide +kernel
theorem dX9_elementCount_0 : decode cX9_elementCount 0 = .ok (.aload_n 0, 1) := by decide +kernel
theorem dX9_elementCount_1 : decode cX9_elementCount 1 = .ok (.getfield 27, 3) := by decide +kernel
theorem dX9_elementCount_4 : decode cX9_elementCount 4 = .ok (.ireturn, 1) := by decide +kernel
theorem dX9_itemNumber_0 : decode cX9_itemNumber 0 = .ok (.aload_n 0, 1) := by decide +kernel
theorem dX9_itemNumber_1 : decode cX9_itemNumber 1 = .ok (.getfield 30, 3) := by decide +kernel
theorem dX9_itemNumber_4 : decode cX9_itemNumber 4 = .ok (.ireturn, 1) := by decide +kernel
theorem dX9_passNumber_0 : decode cX9_passNumber 0 = .ok (.aload_n 0, 1) := by decide +kernel
theorem dX9_passNumber_1 : decode cX9_passNumber 1 = .ok (.getfield 33, 3) := by decide +kernel
theorem dX9_passNumber_4 : decode cX9_passNumber 4 = .ok (.ireturn, 1) := by decide +kernel
theorem dX9_countIn_0 : decode cX9_countIn 0 = .ok (.iload_n 1, 1) := by decide +kernel
theorem dX9_countIn_1 : decode cX9_countIn 1 = .ok (.ifCond .lt 20, 3) := by decide +kernel
theorem dX9_countIn_4 : decode cX9_countIn 4 = .ok (.iload_n 1, 1) := by decide +kernel
theorem dX9_countIn_5 : decode cX9_countIn 5 = .ok (.aload_n 0, 1) := by decide +kernel
theorem dX9_countIn_6 : decode cX9_countIn 6 = .ok (.getfield 27, 3) := by decide +kernel
theorem dX9_countIn_9 : decode cX9_countIn 9 = .ok (.if_icmp .ge 12, 3) := by decide +kernel
theorem dX9_countIn_12 : decode cX9_countIn 12 = .ok (.aload_n 0, 1) := by decide +kernel
theorem dX9_countIn_13 : decode cX9_countIn 13 = .ok (.getfield 15, 3) := by decide +kernel
theorem dX9_countIn_16 : decode cX9_countIn 16 = .ok (.iload_n 1, 1) := by decide +kernel
theorem dX9_countIn_17 : decode cX9_countIn 17 = .ok (.iaload, 1) := by decide +kernel
theorem dX9_countIn_18 : decode cX9_countIn 18 = .ok (.goto 4, 3) := by decide +kernel
theorem dX9_countIn_21 : decode cX9_countIn 21 = .ok (.iconst 0, 1) := by decide +kernel
theorem dX9_countIn_22 : decode cX9_countIn 22 = .ok (.ireturn, 1) := by decide +kernel
theorem dX9_letterIn_0 : decode cX9_letterIn 0 = .ok (.iload_n 2, 1) := by decide +kernel
theorem dX9_letterIn_1 : decode cX9_letterIn 1 = .ok (.ifCond .lt 22, 3) := by decide +kernel
theorem dX9_letterIn_4 : decode cX9_letterIn 4 = .ok (.iload_n 2, 1) := by decide +kernel
theorem dX9_letterIn_5 : decode cX9_letterIn 5 = .ok (.aload_n 0, 1) := by decide +kernel
theorem dX9_letterIn_6 : decode cX9_letterIn 6 = .ok (.iload_n 1, 1) := by decide +kernel
theorem dX9_letterIn_7 : decode cX9_letterIn 7 = .ok (.invokevirtual 36, 3) := by decide +kernel
theorem dX9_letterIn_10 : decode cX9_letterIn 10 = .ok (.if_icmp .ge 13, 3) := by decide +kernel
theorem dX9_letterIn_13 : decode cX9_letterIn 13 = .ok (.iload_n 2, 1) := by decide +kernel
theorem dX9_letterIn_14 : decode cX9_letterIn 14 = .ok (.bipush 8, 2) := by decide +kernel
theorem dX9_letterIn_16 : decode cX9_letterIn 16 = .ok (.if_icmp .ge 7, 3) := by decide +kernel
theorem dX9_letterIn_19 : decode cX9_letterIn 19 = .ok (.iconst 1, 1) := by decide +kernel
theorem dX9_letterIn_20 : decode cX9_letterIn 20 = .ok (.goto 4, 3) := by decide +kernel
theorem dX9_letterIn_23 : decode cX9_letterIn 23 = .ok (.iconst 0, 1) := by decide +kernel
theorem dX9_letterIn_24 : decode cX9_letterIn 24 = .ok (.istore_n 3, 1) := by decide +kernel
theorem dX9_letterIn_25 : decode cX9_letterIn 25 = .ok (.iload_n 3, 1) := by decide +kernel
theorem dX9_letterIn_26 : decode cX9_letterIn 26 = .ok (.ifCond .eq 17, 3) := by decide +kernel
theorem dX9_letterIn_29 : decode cX9_letterIn 29 = .ok (.aload_n 0, 1) := by decide +kernel
theorem dX9_letterIn_30 : decode cX9_letterIn 30 = .ok (.getfield 9, 3) := by decide +kernel
theorem dX9_letterIn_33 : decode cX9_letterIn 33 = .ok (.iload_n 1, 1) := by decide +kernel
theorem dX9_letterIn_34 : decode cX9_letterIn 34 = .ok (.bipush 8, 2) := by decide +kernel
theorem dX9_letterIn_36 : decode cX9_letterIn 36 = .ok (.imul, 1) := by decide +kernel
theorem dX9_letterIn_37 : decode cX9_letterIn 37 = .ok (.iload_n 2, 1) := by decide +kernel
theorem dX9_letterIn_38 : decode cX9_letterIn 38 = .ok (.iadd, 1) := by decide +kernel
theorem dX9_letterIn_39 : decode cX9_letterIn 39 = .ok (.caload, 1) := by decide +kernel
theorem dX9_letterIn_40 : decode cX9_letterIn 40 = .ok (.goto 5, 3) := by decide +kernel
theorem dX9_letterIn_43 : decode cX9_letterIn 43 = .ok (.bipush 32, 2) := by decide +kernel
theorem dX9_letterIn_45 : decode cX9_letterIn 45 = .ok (.ireturn, 1) := by decide +kernel
theorem dX9_numberIn_0 : decode cX9_numberIn 0 = .ok (.aload_n 0, 1) := by decide +kernel
theorem dX9_numberIn_1 : decode cX9_numberIn 1 = .ok (.iload_n 1, 1) := by decide +kernel
theorem dX9_numberIn_2 : decode cX9_numberIn 2 = .ok (.invokevirtual 36, 3) := by decide +kernel
theorem dX9_numberIn_5 : decode cX9_numberIn 5 = .ok (.istore_n 2, 1) := by decide +kernel
theorem dX9_numberIn_6 : decode cX9_numberIn 6 = .ok (.iload_n 2, 1) := by decide +kernel
theorem dX9_numberIn_7 : decode cX9_numberIn 7 = .ok (.iconst 1, 1) := by decide +kernel
theorem dX9_numberIn_8 : decode cX9_numberIn 8 = .ok (.if_icmp .lt 8, 3) := by decide +kernel
theorem dX9_numberIn_11 : decode cX9_numberIn 11 = .ok (.iload_n 2, 1) := by decide +kernel
theorem dX9_numberIn_12 : decode cX9_numberIn 12 = .ok (.iconst 4, 1) := by decide +kernel
theorem dX9_numberIn_13 : decode cX9_numberIn 13 = .ok (.if_icmp .le 5, 3) := by decide +kernel
theorem dX9_numberIn_16 : decode cX9_numberIn 16 = .ok (.iconst (-1), 1) := by decide +kernel
theorem dX9_numberIn_17 : decode cX9_numberIn 17 = .ok (.ireturn, 1) := by decide +kernel
theorem dX9_numberIn_18 : decode cX9_numberIn 18 = .ok (.iconst 0, 1) := by decide +kernel
theorem dX9_numberIn_19 : decode cX9_numberIn 19 = .ok (.istore_n 3, 1) := by decide +kernel
theorem dX9_numberIn_20 : decode cX9_numberIn 20 = .ok (.iconst 0, 1) := by decide +kernel
theorem dX9_numberIn_21 : decode cX9_numberIn 21 = .ok (.istore 4, 2) := by decide +kernel
theorem dX9_numberIn_23 : decode cX9_numberIn 23 = .ok (.iload 4, 2) := by decide +kernel
theorem dX9_numberIn_25 : decode cX9_numberIn 25 = .ok (.iload_n 2, 1) := by decide +kernel
theorem dX9_numberIn_26 : decode cX9_numberIn 26 = .ok (.if_icmp .ge 45, 3) := by decide +kernel
theorem dX9_numberIn_29 : decode cX9_numberIn 29 = .ok (.aload_n 0, 1) := by decide +kernel
theorem dX9_numberIn_30 : decode cX9_numberIn 30 = .ok (.iload_n 1, 1) := by decide +kernel
theorem dX9_numberIn_31 : decode cX9_numberIn 31 = .ok (.iload 4, 2) := by decide +kernel
theorem dX9_numberIn_33 : decode cX9_numberIn 33 = .ok (.invokevirtual 40, 3) := by decide +kernel
theorem dX9_numberIn_36 : decode cX9_numberIn 36 = .ok (.istore 5, 2) := by decide +kernel
theorem dX9_numberIn_38 : decode cX9_numberIn 38 = .ok (.iload 5, 2) := by decide +kernel
theorem dX9_numberIn_40 : decode cX9_numberIn 40 = .ok (.bipush 48, 2) := by decide +kernel
theorem dX9_numberIn_42 : decode cX9_numberIn 42 = .ok (.if_icmp .lt 10, 3) := by decide +kernel
theorem dX9_numberIn_45 : decode cX9_numberIn 45 = .ok (.iload 5, 2) := by decide +kernel
theorem dX9_numberIn_47 : decode cX9_numberIn 47 = .ok (.bipush 57, 2) := by decide +kernel
theorem dX9_numberIn_49 : decode cX9_numberIn 49 = .ok (.if_icmp .le 5, 3) := by decide +kernel
theorem dX9_numberIn_52 : decode cX9_numberIn 52 = .ok (.iconst (-1), 1) := by decide +kernel
theorem dX9_numberIn_53 : decode cX9_numberIn 53 = .ok (.ireturn, 1) := by decide +kernel
theorem dX9_numberIn_54 : decode cX9_numberIn 54 = .ok (.iload_n 3, 1) := by decide +kernel
theorem dX9_numberIn_55 : decode cX9_numberIn 55 = .ok (.bipush 10, 2) := by decide +kernel
theorem dX9_numberIn_57 : decode cX9_numberIn 57 = .ok (.imul, 1) := by decide +kernel
theorem dX9_numberIn_58 : decode cX9_numberIn 58 = .ok (.iload 5, 2) := by decide +kernel
theorem dX9_numberIn_60 : decode cX9_numberIn 60 = .ok (.bipush 48, 2) := by decide +kernel
theorem dX9_numberIn_62 : decode cX9_numberIn 62 = .ok (.isub, 1) := by decide +kernel
theorem dX9_numberIn_63 : decode cX9_numberIn 63 = .ok (.iadd, 1) := by decide +kernel
theorem dX9_numberIn_64 : decode cX9_numberIn 64 = .ok (.istore_n 3, 1) := by decide +kernel
theorem dX9_numberIn_65 : decode cX9_numberIn 65 = .ok (.iinc 4 1, 3) := by decide +kernel
theorem dX9_numberIn_68 : decode cX9_numberIn 68 = .ok (.goto (-45), 3) := by decide +kernel
theorem dX9_numberIn_71 : decode cX9_numberIn 71 = .ok (.iload_n 3, 1) := by decide +kernel
theorem dX9_numberIn_72 : decode cX9_numberIn 72 = .ok (.ireturn, 1) := by decide +kernel
theorem dX9_isEnvelope_0 : decode cX9_isEnvelope 0 = .ok (.aload_n 0, 1) := by decide +kernel
theorem dX9_isEnvelope_1 : decode cX9_isEnvelope 1 = .ok (.getfield 19, 3) := by decide +kernel
theorem dX9_isEnvelope_4 : decode cX9_isEnvelope 4 = .ok (.iload_n 1, 1) := by decide +kernel
theorem dX9_isEnvelope_5 : decode cX9_isEnvelope 5 = .ok (.if_icmp .ne 11, 3) := by decide +kernel
theorem dX9_isEnvelope_8 : decode cX9_isEnvelope 8 = .ok (.aload_n 0, 1) := by decide +kernel
theorem dX9_isEnvelope_9 : decode cX9_isEnvelope 9 = .ok (.getfield 27, 3) := by decide +kernel
theorem dX9_isEnvelope_12 : decode cX9_isEnvelope 12 = .ok (.iload_n 2, 1) := by decide +kernel
theorem dX9_isEnvelope_13 : decode cX9_isEnvelope 13 = .ok (.if_icmp .eq 5, 3) := by decide +kernel
theorem dX9_isEnvelope_16 : decode cX9_isEnvelope 16 = .ok (.iconst 0, 1) := by decide +kernel
theorem dX9_isEnvelope_17 : decode cX9_isEnvelope 17 = .ok (.ireturn, 1) := by decide +kernel
theorem dX9_isEnvelope_18 : decode cX9_isEnvelope 18 = .ok (.iconst 0, 1) := by decide +kernel
theorem dX9_isEnvelope_19 : decode cX9_isEnvelope 19 = .ok (.istore_n 3, 1) := by decide +kernel
theorem dX9_isEnvelope_20 : decode cX9_isEnvelope 20 = .ok (.iload_n 3, 1) := by decide +kernel
theorem dX9_isEnvelope_21 : decode cX9_isEnvelope 21 = .ok (.iload_n 2, 1) := by decide +kernel
theorem dX9_isEnvelope_22 : decode cX9_isEnvelope 22 = .ok (.if_icmp .ge 19, 3) := by decide +kernel
theorem dX9_isEnvelope_25 : decode cX9_isEnvelope 25 = .ok (.aload_n 0, 1) := by decide +kernel
theorem dX9_isEnvelope_26 : decode cX9_isEnvelope 26 = .ok (.iload_n 3, 1) := by decide +kernel
theorem dX9_isEnvelope_27 : decode cX9_isEnvelope 27 = .ok (.invokevirtual 44, 3) := by decide +kernel
theorem dX9_isEnvelope_30 : decode cX9_isEnvelope 30 = .ok (.ifCond .ge 5, 3) := by decide +kernel
theorem dX9_isEnvelope_33 : decode cX9_isEnvelope 33 = .ok (.iconst 0, 1) := by decide +kernel
theorem dX9_isEnvelope_34 : decode cX9_isEnvelope 34 = .ok (.ireturn, 1) := by decide +kernel
theorem dX9_isEnvelope_35 : decode cX9_isEnvelope 35 = .ok (.iinc 3 1, 3) := by decide +kernel
theorem dX9_isEnvelope_38 : decode cX9_isEnvelope 38 = .ok (.goto (-18), 3) := by decide +kernel
theorem dX9_isEnvelope_41 : decode cX9_isEnvelope 41 = .ok (.iconst 1, 1) := by decide +kernel
theorem dX9_isEnvelope_42 : decode cX9_isEnvelope 42 = .ok (.ireturn, 1) := by decide +kernel
theorem dX10_init_0 : decode cX10_init 0 = .ok (.aload_n 0, 1) := by decide +kernel
theorem dX10_init_1 : decode cX10_init 1 = .ok (.invokespecial 3, 3) := by decide +kernel
theorem dX10_init_4 : decode cX10_init 4 = .ok (.aload_n 0, 1) := by decide +kernel
theorem dX10_init_5 : decode cX10_init 5 = .ok (.sipush 300, 3) := by decide +kernel
theorem dX10_init_8 : decode cX10_init 8 = .ok (.newarray .char, 2) := by decide +kernel
theorem dX10_init_10 : decode cX10_init 10 = .ok (.putfield 9, 3) := by decide +kernel
theorem dX10_init_13 : decode cX10_init 13 = .ok (.return_, 1) := by decide +kernel
theorem dX10_wipe_0 : decode cX10_wipe 0 = .ok (.aload_n 0, 1) := by decide +kernel
theorem dX10_wipe_1 : decode cX10_wipe 1 = .ok (.iconst 0, 1) := by decide +kernel
theorem dX10_wipe_2 : decode cX10_wipe 2 = .ok (.putfield 15, 3) := by decide +kernel
theorem dX10_wipe_5 : decode cX10_wipe 5 = .ok (.aload_n 0, 1) := by decide +kernel
theorem dX10_wipe_6 : decode cX10_wipe 6 = .ok (.iconst 0, 1) := by decide +kernel
theorem dX10_wipe_7 : decode cX10_wipe 7 = .ok (.putfield 19, 3) := by decide +kernel
theorem dX10_wipe_10 : decode cX10_wipe 10 = .ok (.return_, 1) := by decide +kernel
theorem dX10_count_0 : decode cX10_count 0 = .ok (.aload_n 0, 1) := by decide +kernel
theorem dX10_count_1 : decode cX10_count 1 = .ok (.getfield 15, 3) := by decide +kernel
theorem dX10_count_4 : decode cX10_count 4 = .ok (.ireturn, 1) := by decide +kernel
theorem dX10_isOverfull_0 : decode cX10_isOverfull 0 = .ok (.aload_n 0, 1) := by decide +kernel
theorem dX10_isOverfull_1 : decode cX10_isOverfull 1 = .ok (.getfield 19, 3) := by decide +kernel
theorem dX10_isOverfull_4 : decode cX10_isOverfull 4 = .ok (.ireturn, 1) := by decide +kernel
theorem dX10_at_0 : decode cX10_at 0 = .ok (.iload_n 1, 1) := by decide +kernel
theorem dX10_at_1 : decode cX10_at 1 = .ok (.ifCond .lt 20, 3) := by decide +kernel
theorem dX10_at_4 : decode cX10_at 4 = .ok (.iload_n 1, 1) := by decide +kernel
theorem dX10_at_5 : decode cX10_at 5 = .ok (.aload_n 0, 1) := by decide +kernel
theorem dX10_at_6 : decode cX10_at 6 = .ok (.getfield 15, 3) := by decide +kernel
theorem dX10_at_9 : decode cX10_at 9 = .ok (.if_icmp .ge 12, 3) := by decide +kernel
theorem dX10_at_12 : decode cX10_at 12 = .ok (.aload_n 0, 1) := by decide +kernel
theorem dX10_at_13 : decode cX10_at 13 = .ok (.getfield 9, 3) := by decide +kernel
theorem dX10_at_16 : decode cX10_at 16 = .ok (.iload_n 1, 1) := by decide +kernel
theorem dX10_at_17 : decode cX10_at 17 = .ok (.caload, 1) := by decide +kernel
theorem dX10_at_18 : decode cX10_at 18 = .ok (.goto 5, 3) := by decide +kernel
theorem dX10_at_21 : decode cX10_at 21 = .ok (.bipush 32, 2) := by decide +kernel
theorem dX10_at_23 : decode cX10_at 23 = .ok (.ireturn, 1) := by decide +kernel
theorem dX10_put_0 : decode cX10_put 0 = .ok (.aload_n 0, 1) := by decide +kernel
theorem dX10_put_1 : decode cX10_put 1 = .ok (.getfield 15, 3) := by decide +kernel
theorem dX10_put_4 : decode cX10_put 4 = .ok (.aload_n 0, 1) := by decide +kernel
theorem dX10_put_5 : decode cX10_put 5 = .ok (.getfield 9, 3) := by decide +kernel
theorem dX10_put_8 : decode cX10_put 8 = .ok (.arraylength, 1) := by decide +kernel
theorem dX10_put_9 : decode cX10_put 9 = .ok (.if_icmp .lt 9, 3) := by decide +kernel
theorem dX10_put_12 : decode cX10_put 12 = .ok (.aload_n 0, 1) := by decide +kernel
theorem dX10_put_13 : decode cX10_put 13 = .ok (.iconst 1, 1) := by decide +kernel
theorem dX10_put_14 : decode cX10_put 14 = .ok (.putfield 19, 3) := by decide +kernel
theorem dX10_put_17 : decode cX10_put 17 = .ok (.return_, 1) := by decide +kernel
theorem dX10_put_18 : decode cX10_put 18 = .ok (.aload_n 0, 1) := by decide +kernel
theorem dX10_put_19 : decode cX10_put 19 = .ok (.getfield 9, 3) := by decide +kernel
theorem dX10_put_22 : decode cX10_put 22 = .ok (.aload_n 0, 1) := by decide +kernel
theorem dX10_put_23 : decode cX10_put 23 = .ok (.getfield 15, 3) := by decide +kernel
theorem dX10_put_26 : decode cX10_put 26 = .ok (.iload_n 1, 1) := by decide +kernel
theorem dX10_put_27 : decode cX10_put 27 = .ok (.castore, 1) := by decide +kernel
theorem dX10_put_28 : decode cX10_put 28 = .ok (.aload_n 0, 1) := by decide +kernel
theorem dX10_put_29 : decode cX10_put 29 = .ok (.dup, 1) := by decide +kernel
theorem dX10_put_30 : decode cX10_put 30 = .ok (.getfield 15, 3) := by decide +kernel
theorem dX10_put_33 : decode cX10_put 33 = .ok (.iconst 1, 1) := by decide +kernel
theorem dX10_put_34 : decode cX10_put 34 = .ok (.iadd, 1) := by decide +kernel
theorem dX10_put_35 : decode cX10_put 35 = .ok (.putfield 15, 3) := by decide +kernel
theorem dX10_put_38 : decode cX10_put 38 = .ok (.return_, 1) := by decide +kernel
theorem dX10_putReleased_0 : decode cX10_putReleased 0 = .ok (.iload_n 1, 1) := by decide +kernel
theorem dX10_putReleased_1 : decode cX10_putReleased 1 = .ok (.bipush 43, 2) := by decide +kernel
theorem dX10_putReleased_3 : decode cX10_putReleased 3 = .ok (.if_icmp .eq 15, 3) := by decide +kernel
theorem dX10_putReleased_6 : decode cX10_putReleased 6 = .ok (.iload_n 1, 1) := by decide +kernel
theorem dX10_putReleased_7 : decode cX10_putReleased 7 = .ok (.bipush 39, 2) := by decide +kernel
theorem dX10_putReleased_9 : decode cX10_putReleased 9 = .ok (.if_icmp .eq 9, 3) := by decide +kernel
theorem dX10_putReleased_12 : decode cX10_putReleased 12 = .ok (.iload_n 1, 1) := by decide +kernel
theorem dX10_putReleased_13 : decode cX10_putReleased 13 = .ok (.bipush 63, 2) := by decide +kernel
theorem dX10_putReleased_15 : decode cX10_putReleased 15 = .ok (.if_icmp .ne 9, 3) := by decide +kernel
theorem dX10_putReleased_18 : decode cX10_putReleased 18 = .ok (.aload_n 0, 1) := by decide +kernel
theorem dX10_putReleased_19 : decode cX10_putReleased 19 = .ok (.bipush 63, 2) := by decide +kernel
theorem dX10_putReleased_21 : decode cX10_putReleased 21 = .ok (.invokevirtual 27, 3) := by decide +kernel
theorem dX10_putReleased_24 : decode cX10_putReleased 24 = .ok (.aload_n 0, 1) := by decide +kernel
theorem dX10_putReleased_25 : decode cX10_putReleased 25 = .ok (.iload_n 1, 1) := by decide +kernel
theorem dX10_putReleased_26 : decode cX10_putReleased 26 = .ok (.invokevirtual 27, 3) := by decide +kernel
theorem dX10_putReleased_29 : decode cX10_putReleased 29 = .ok (.return_, 1) := by decide +kernel
theorem dX10_putNumber_0 : decode cX10_putNumber 0 = .ok (.sipush 1000, 3) := by decide +kernel
theorem dX10_putNumber_3 : decode cX10_putNumber 3 = .ok (.istore_n 2, 1) := by decide +kernel
theorem dX10_putNumber_4 : decode cX10_putNumber 4 = .ok (.iload_n 2, 1) := by decide +kernel
theorem dX10_putNumber_5 : decode cX10_putNumber 5 = .ok (.ifCond .le 35, 3) := by decide +kernel
theorem dX10_putNumber_8 : decode cX10_putNumber 8 = .ok (.iload_n 1, 1) := by decide +kernel
theorem dX10_putNumber_9 : decode cX10_putNumber 9 = .ok (.iload_n 2, 1) := by decide +kernel
theorem dX10_putNumber_10 : decode cX10_putNumber 10 = .ok (.if_icmp .ge 8, 3) := by decide +kernel
theorem dX10_putNumber_13 : decode cX10_putNumber 13 = .ok (.iload_n 2, 1) := by decide +kernel
theorem dX10_putNumber_14 : decode cX10_putNumber 14 = .ok (.iconst 1, 1) := by decide +kernel
theorem dX10_putNumber_15 : decode cX10_putNumber 15 = .ok (.if_icmp .ne 17, 3) := by decide +kernel
theorem dX10_putNumber_18 : decode cX10_putNumber 18 = .ok (.aload_n 0, 1) := by decide +kernel
theorem dX10_putNumber_19 : decode cX10_putNumber 19 = .ok (.bipush 48, 2) := by decide +kernel
theorem dX10_putNumber_21 : decode cX10_putNumber 21 = .ok (.iload_n 1, 1) := by decide +kernel
theorem dX10_putNumber_22 : decode cX10_putNumber 22 = .ok (.iload_n 2, 1) := by decide +kernel
theorem dX10_putNumber_23 : decode cX10_putNumber 23 = .ok (.idiv, 1) := by decide +kernel
theorem dX10_putNumber_24 : decode cX10_putNumber 24 = .ok (.bipush 10, 2) := by decide +kernel
theorem dX10_putNumber_26 : decode cX10_putNumber 26 = .ok (.irem, 1) := by decide +kernel
theorem dX10_putNumber_27 : decode cX10_putNumber 27 = .ok (.iadd, 1) := by decide +kernel
theorem dX10_putNumber_28 : decode cX10_putNumber 28 = .ok (.i2c, 1) := by decide +kernel
theorem dX10_putNumber_29 : decode cX10_putNumber 29 = .ok (.invokevirtual 27, 3) := by decide +kernel
theorem dX10_putNumber_32 : decode cX10_putNumber 32 = .ok (.iload_n 2, 1) := by decide +kernel
theorem dX10_putNumber_33 : decode cX10_putNumber 33 = .ok (.bipush 10, 2) := by decide +kernel
theorem dX10_putNumber_35 : decode cX10_putNumber 35 = .ok (.idiv, 1) := by decide +kernel
theorem dX10_putNumber_36 : decode cX10_putNumber 36 = .ok (.istore_n 2, 1) := by decide +kernel
theorem dX10_putNumber_37 : decode cX10_putNumber 37 = .ok (.goto (-33), 3) := by decide +kernel
theorem dX10_putNumber_40 : decode cX10_putNumber 40 = .ok (.return_, 1) := by decide +kernel
