theorem dX0_init_0 : decode cX0_init 0 = .ok (.aload_n 0, 1) := by decide +kernel
theorem dX0_init_1 : decode cX0_init 1 = .ok (.invokespecial 3, 3) := by decide +kernel
theorem dX0_init_4 : decode cX0_init 4 = .ok (.aload_n 0, 1) := by decide +kernel
theorem dX0_init_5 : decode cX0_init 5 = .ok (.bipush 24, 2) := by decide +kernel
theorem dX0_init_7 : decode cX0_init 7 = .ok (.newarray .int, 2) := by decide +kernel
theorem dX0_init_9 : decode cX0_init 9 = .ok (.putfield 9, 3) := by decide +kernel
theorem dX0_init_12 : decode cX0_init 12 = .ok (.aload_n 0, 1) := by decide +kernel
theorem dX0_init_13 : decode cX0_init 13 = .ok (.bipush 24, 2) := by decide +kernel
theorem dX0_init_15 : decode cX0_init 15 = .ok (.newarray .int, 2) := by decide +kernel
theorem dX0_init_17 : decode cX0_init 17 = .ok (.putfield 15, 3) := by decide +kernel
theorem dX0_init_20 : decode cX0_init 20 = .ok (.aload_n 0, 1) := by decide +kernel
theorem dX0_init_21 : decode cX0_init 21 = .ok (.bipush 24, 2) := by decide +kernel
theorem dX0_init_23 : decode cX0_init 23 = .ok (.newarray .int, 2) := by decide +kernel
theorem dX0_init_25 : decode cX0_init 25 = .ok (.putfield 18, 3) := by decide +kernel
theorem dX0_init_28 : decode cX0_init 28 = .ok (.aload_n 0, 1) := by decide +kernel
theorem dX0_init_29 : decode cX0_init 29 = .ok (.bipush 24, 2) := by decide +kernel
theorem dX0_init_31 : decode cX0_init 31 = .ok (.newarray .int, 2) := by decide +kernel
theorem dX0_init_33 : decode cX0_init 33 = .ok (.putfield 21, 3) := by decide +kernel
theorem dX0_init_36 : decode cX0_init 36 = .ok (.aload_n 0, 1) := by decide +kernel
theorem dX0_init_37 : decode cX0_init 37 = .ok (.sipush 768, 3) := by decide +kernel
theorem dX0_init_40 : decode cX0_init 40 = .ok (.newarray .int, 2) := by decide +kernel
theorem dX0_init_42 : decode cX0_init 42 = .ok (.putfield 24, 3) := by decide +kernel
theorem dX0_init_45 : decode cX0_init 45 = .ok (.return_, 1) := by decide +kernel
theorem dX0_clear_0 : decode cX0_clear 0 = .ok (.aload_n 0, 1) := by decide +kernel
theorem dX0_clear_1 : decode cX0_clear 1 = .ok (.iconst 0, 1) := by decide +kernel
theorem dX0_clear_2 : decode cX0_clear 2 = .ok (.putfield 27, 3) := by decide +kernel
theorem dX0_clear_5 : decode cX0_clear 5 = .ok (.aload_n 0, 1) := by decide +kernel
theorem dX0_clear_6 : decode cX0_clear 6 = .ok (.getfield 18, 3) := by decide +kernel
theorem dX0_clear_9 : decode cX0_clear 9 = .ok (.iconst 0, 1) := by decide +kernel
theorem dX0_clear_10 : decode cX0_clear 10 = .ok (.invokestatic 31, 3) := by decide +kernel
theorem dX0_clear_13 : decode cX0_clear 13 = .ok (.aload_n 0, 1) := by decide +kernel
theorem dX0_clear_14 : decode cX0_clear 14 = .ok (.getfield 24, 3) := by decide +kernel
theorem dX0_clear_17 : decode cX0_clear 17 = .ok (.iconst 0, 1) := by decide +kernel
theorem dX0_clear_18 : decode cX0_clear 18 = .ok (.invokestatic 31, 3) := by decide +kernel
theorem dX0_clear_21 : decode cX0_clear 21 = .ok (.return_, 1) := by decide +kernel
theorem dX0_has_0 : decode cX0_has 0 = .ok (.iload_n 1, 1) := by decide +kernel
theorem dX0_has_1 : decode cX0_has 1 = .ok (.invokestatic 37, 3) := by decide +kernel
theorem dX0_has_4 : decode cX0_has 4 = .ok (.ifCond .eq 18, 3) := by decide +kernel
theorem dX0_has_7 : decode cX0_has 7 = .ok (.aload_n 0, 1) := by decide +kernel
theorem dX0_has_8 : decode cX0_has 8 = .ok (.getfield 27, 3) := by decide +kernel
theorem dX0_has_11 : decode cX0_has 11 = .ok (.iload_n 1, 1) := by decide +kernel
theorem dX0_has_12 : decode cX0_has 12 = .ok (.invokestatic 41, 3) := by decide +kernel
theorem dX0_has_15 : decode cX0_has 15 = .ok (.ifCond .eq 7, 3) := by decide +kernel
theorem dX0_has_18 : decode cX0_has 18 = .ok (.iconst 1, 1) := by decide +kernel
theorem dX0_has_19 : decode cX0_has 19 = .ok (.goto 4, 3) := by decide +kernel
theorem dX0_has_22 : decode cX0_has 22 = .ok (.iconst 0, 1) := by decide +kernel
theorem dX0_has_23 : decode cX0_has 23 = .ok (.ireturn, 1) := by decide +kernel
theorem dX0_leastFree_0 : decode cX0_leastFree 0 = .ok (.iconst 0, 1) := by decide +kernel
theorem dX0_leastFree_1 : decode cX0_leastFree 1 = .ok (.istore_n 1, 1) := by decide +kernel
theorem dX0_leastFree_2 : decode cX0_leastFree 2 = .ok (.iload_n 1, 1) := by decide +kernel
theorem dX0_leastFree_3 : decode cX0_leastFree 3 = .ok (.bipush 24, 2) := by decide +kernel
theorem dX0_leastFree_5 : decode cX0_leastFree 5 = .ok (.if_icmp .ge 22, 3) := by decide +kernel
theorem dX0_leastFree_8 : decode cX0_leastFree 8 = .ok (.aload_n 0, 1) := by decide +kernel
theorem dX0_leastFree_9 : decode cX0_leastFree 9 = .ok (.getfield 27, 3) := by decide +kernel
theorem dX0_leastFree_12 : decode cX0_leastFree 12 = .ok (.iload_n 1, 1) := by decide +kernel
theorem dX0_leastFree_13 : decode cX0_leastFree 13 = .ok (.invokestatic 41, 3) := by decide +kernel
theorem dX0_leastFree_16 : decode cX0_leastFree 16 = .ok (.ifCond .ne 5, 3) := by decide +kernel
theorem dX0_leastFree_19 : decode cX0_leastFree 19 = .ok (.iload_n 1, 1) := by decide +kernel
theorem dX0_leastFree_20 : decode cX0_leastFree 20 = .ok (.ireturn, 1) := by decide +kernel
theorem dX0_leastFree_21 : decode cX0_leastFree 21 = .ok (.iinc 1 1, 3) := by decide +kernel
theorem dX0_leastFree_24 : decode cX0_leastFree 24 = .ok (.goto (-22), 3) := by decide +kernel
theorem dX0_leastFree_27 : decode cX0_leastFree 27 = .ok (.iconst (-1), 1) := by decide +kernel
theorem dX0_leastFree_28 : decode cX0_leastFree 28 = .ok (.ireturn, 1) := by decide +kernel
theorem dX0_enter_0 : decode cX0_enter 0 = .ok (.iload_n 1, 1) := by decide +kernel
theorem dX0_enter_1 : decode cX0_enter 1 = .ok (.invokestatic 37, 3) := by decide +kernel
theorem dX0_enter_4 : decode cX0_enter 4 = .ok (.ifCond .eq 37, 3) := by decide +kernel
theorem dX0_enter_7 : decode cX0_enter 7 = .ok (.aload_n 0, 1) := by decide +kernel
theorem dX0_enter_8 : decode cX0_enter 8 = .ok (.dup, 1) := by decide +kernel
theorem dX0_enter_9 : decode cX0_enter 9 = .ok (.getfield 27, 3) := by decide +kernel
theorem dX0_enter_12 : decode cX0_enter 12 = .ok (.iconst 1, 1) := by decide +kernel
theorem dX0_enter_13 : decode cX0_enter 13 = .ok (.iload_n 1, 1) := by decide +kernel
theorem dX0_enter_14 : decode cX0_enter 14 = .ok (.ishl, 1) := by decide +kernel
theorem dX0_enter_15 : decode cX0_enter 15 = .ok (.ior, 1) := by decide +kernel
theorem dX0_enter_16 : decode cX0_enter 16 = .ok (.putfield 27, 3) := by decide +kernel
theorem dX0_enter_19 : decode cX0_enter 19 = .ok (.aload_n 0, 1) := by decide +kernel
theorem dX0_enter_20 : decode cX0_enter 20 = .ok (.getfield 21, 3) := by decide +kernel
theorem dX0_enter_23 : decode cX0_enter 23 = .ok (.iload_n 1, 1) := by decide +kernel
theorem dX0_enter_24 : decode cX0_enter 24 = .ok (.iload 5, 2) := by decide +kernel
theorem dX0_enter_26 : decode cX0_enter 26 = .ok (.iastore, 1) := by decide +kernel
theorem dX0_enter_27 : decode cX0_enter 27 = .ok (.aload_n 0, 1) := by decide +kernel
theorem dX0_enter_28 : decode cX0_enter 28 = .ok (.iload_n 1, 1) := by decide +kernel
theorem dX0_enter_29 : decode cX0_enter 29 = .ok (.iload_n 2, 1) := by decide +kernel
theorem dX0_enter_30 : decode cX0_enter 30 = .ok (.iload_n 3, 1) := by decide +kernel
theorem dX0_enter_31 : decode cX0_enter 31 = .ok (.invokevirtual 45, 3) := by decide +kernel
theorem dX0_enter_34 : decode cX0_enter 34 = .ok (.aload_n 0, 1) := by decide +kernel
theorem dX0_enter_35 : decode cX0_enter 35 = .ok (.iload_n 1, 1) := by decide +kernel
theorem dX0_enter_36 : decode cX0_enter 36 = .ok (.iload 4, 2) := by decide +kernel
theorem dX0_enter_38 : decode cX0_enter 38 = .ok (.invokevirtual 49, 3) := by decide +kernel
theorem dX0_enter_41 : decode cX0_enter 41 = .ok (.return_, 1) := by decide +kernel
theorem dX0_shift_0 : decode cX0_shift 0 = .ok (.iload_n 1, 1) := by decide +kernel
theorem dX0_shift_1 : decode cX0_shift 1 = .ok (.invokestatic 37, 3) := by decide +kernel
theorem dX0_shift_4 : decode cX0_shift 4 = .ok (.ifCond .eq 17, 3) := by decide +kernel
theorem dX0_shift_7 : decode cX0_shift 7 = .ok (.aload_n 0, 1) := by decide +kernel
theorem dX0_shift_8 : decode cX0_shift 8 = .ok (.getfield 9, 3) := by decide +kernel
theorem dX0_shift_11 : decode cX0_shift 11 = .ok (.iload_n 1, 1) := by decide +kernel
theorem dX0_shift_12 : decode cX0_shift 12 = .ok (.iload_n 2, 1) := by decide +kernel
theorem dX0_shift_13 : decode cX0_shift 13 = .ok (.iastore, 1) := by decide +kernel
theorem dX0_shift_14 : decode cX0_shift 14 = .ok (.aload_n 0, 1) := by decide +kernel
theorem dX0_shift_15 : decode cX0_shift 15 = .ok (.getfield 15, 3) := by decide +kernel
theorem dX0_shift_18 : decode cX0_shift 18 = .ok (.iload_n 1, 1) := by decide +kernel
theorem dX0_shift_19 : decode cX0_shift 19 = .ok (.iload_n 3, 1) := by decide +kernel
theorem dX0_shift_20 : decode cX0_shift 20 = .ok (.iastore, 1) := by decide +kernel
theorem dX0_shift_21 : decode cX0_shift 21 = .ok (.return_, 1) := by decide +kernel
theorem dX0_drop_0 : decode cX0_drop 0 = .ok (.iload_n 1, 1) := by decide +kernel
theorem dX0_drop_1 : decode cX0_drop 1 = .ok (.invokestatic 37, 3) := by decide +kernel
theorem dX0_drop_4 : decode cX0_drop 4 = .ok (.ifCond .eq 23, 3) := by decide +kernel
theorem dX0_drop_7 : decode cX0_drop 7 = .ok (.aload_n 0, 1) := by decide +kernel
theorem dX0_drop_8 : decode cX0_drop 8 = .ok (.iload_n 1, 1) := by decide +kernel
theorem dX0_drop_9 : decode cX0_drop 9 = .ok (.iconst 0, 1) := by decide +kernel
theorem dX0_drop_10 : decode cX0_drop 10 = .ok (.invokevirtual 49, 3) := by decide +kernel
theorem dX0_drop_13 : decode cX0_drop 13 = .ok (.aload_n 0, 1) := by decide +kernel
theorem dX0_drop_14 : decode cX0_drop 14 = .ok (.dup, 1) := by decide +kernel
theorem dX0_drop_15 : decode cX0_drop 15 = .ok (.getfield 27, 3) := by decide +kernel
theorem dX0_drop_18 : decode cX0_drop 18 = .ok (.iconst 1, 1) := by decide +kernel
theorem dX0_drop_19 : decode cX0_drop 19 = .ok (.iload_n 1, 1) := by decide +kernel
theorem dX0_drop_20 : decode cX0_drop 20 = .ok (.ishl, 1) := by decide +kernel
theorem dX0_drop_21 : decode cX0_drop 21 = .ok (.iconst (-1), 1) := by decide +kernel
theorem dX0_drop_22 : decode cX0_drop 22 = .ok (.ixor, 1) := by decide +kernel
theorem dX0_drop_23 : decode cX0_drop 23 = .ok (.iand, 1) := by decide +kernel
theorem dX0_drop_24 : decode cX0_drop 24 = .ok (.putfield 27, 3) := by decide +kernel
theorem dX0_drop_27 : decode cX0_drop 27 = .ok (.return_, 1) := by decide +kernel
theorem dX0_weigh_0 : decode cX0_weigh 0 = .ok (.iload_n 1, 1) := by decide +kernel
theorem dX0_weigh_1 : decode cX0_weigh 1 = .ok (.invokestatic 37, 3) := by decide +kernel
theorem dX0_weigh_4 : decode cX0_weigh 4 = .ok (.ifCond .ne 4, 3) := by decide +kernel
theorem dX0_weigh_7 : decode cX0_weigh 7 = .ok (.return_, 1) := by decide +kernel
theorem dX0_weigh_8 : decode cX0_weigh 8 = .ok (.iload_n 2, 1) := by decide +kernel
theorem dX0_weigh_9 : decode cX0_weigh 9 = .ok (.aload_n 0, 1) := by decide +kernel
theorem dX0_weigh_10 : decode cX0_weigh 10 = .ok (.getfield 18, 3) := by decide +kernel
theorem dX0_weigh_13 : decode cX0_weigh 13 = .ok (.iload_n 1, 1) := by decide +kernel
theorem dX0_weigh_14 : decode cX0_weigh 14 = .ok (.iaload, 1) := by decide +kernel
theorem dX0_weigh_15 : decode cX0_weigh 15 = .ok (.isub, 1) := by decide +kernel
theorem dX0_weigh_16 : decode cX0_weigh 16 = .ok (.istore_n 3, 1) := by decide +kernel
theorem dX0_weigh_17 : decode cX0_weigh 17 = .ok (.iload_n 1, 1) := by decide +kernel
theorem dX0_weigh_18 : decode cX0_weigh 18 = .ok (.iconst 3, 1) := by decide +kernel
theorem dX0_weigh_19 : decode cX0_weigh 19 = .ok (.iushr, 1) := by decide +kernel
theorem dX0_weigh_20 : decode cX0_weigh 20 = .ok (.sipush 256, 3) := by decide +kernel
theorem dX0_weigh_23 : decode cX0_weigh 23 = .ok (.imul, 1) := by decide +kernel
theorem dX0_weigh_24 : decode cX0_weigh 24 = .ok (.istore 4, 2) := by decide +kernel
theorem dX0_weigh_26 : decode cX0_weigh 26 = .ok (.aload_n 0, 1) := by decide +kernel
theorem dX0_weigh_27 : decode cX0_weigh 27 = .ok (.getfield 18, 3) := by decide +kernel
theorem dX0_weigh_30 : decode cX0_weigh 30 = .ok (.iload_n 1, 1) := by decide +kernel
theorem dX0_weigh_31 : decode cX0_weigh 31 = .ok (.iload_n 2, 1) := by decide +kernel
theorem dX0_weigh_32 : decode cX0_weigh 32 = .ok (.iastore, 1) := by decide +kernel
theorem dX0_weigh_33 : decode cX0_weigh 33 = .ok (.iconst 0, 1) := by decide +kernel
theorem dX0_weigh_34 : decode cX0_weigh 34 = .ok (.istore 5, 2) := by decide +kernel
theorem dX0_weigh_36 : decode cX0_weigh 36 = .ok (.iload 5, 2) := by decide +kernel
theorem dX0_weigh_38 : decode cX0_weigh 38 = .ok (.sipush 256, 3) := by decide +kernel
theorem dX0_weigh_41 : decode cX0_weigh 41 = .ok (.if_icmp .ge 48, 3) := by decide +kernel
theorem dX0_weigh_44 : decode cX0_weigh 44 = .ok (.iload 5, 2) := by decide +kernel
theorem dX0_weigh_46 : decode cX0_weigh 46 = .ok (.iload_n 1, 1) := by decide +kernel
theorem dX0_weigh_47 : decode cX0_weigh 47 = .ok (.bipush 7, 2) := by decide +kernel
theorem dX0_weigh_49 : decode cX0_weigh 49 = .ok (.iand, 1) := by decide +kernel
theorem dX0_weigh_50 : decode cX0_weigh 50 = .ok (.invokestatic 41, 3) := by decide +kernel
theorem dX0_weigh_53 : decode cX0_weigh 53 = .ok (.ifCond .eq 30, 3) := by decide +kernel
theorem dX0_weigh_56 : decode cX0_weigh 56 = .ok (.iload 4, 2) := by decide +kernel
theorem dX0_weigh_58 : decode cX0_weigh 58 = .ok (.iload 5, 2) := by decide +kernel
theorem dX0_weigh_60 : decode cX0_weigh 60 = .ok (.iadd, 1) := by decide +kernel
theorem dX0_weigh_61 : decode cX0_weigh 61 = .ok (.aload_n 0, 1) := by decide +kernel
theorem dX0_weigh_62 : decode cX0_weigh 62 = .ok (.getfield 24, 3) := by decide +kernel
theorem dX0_weigh_65 : decode cX0_weigh 65 = .ok (.arraylength, 1) := by decide +kernel
theorem dX0_weigh_66 : decode cX0_weigh 66 = .ok (.if_icmp .ge 17, 3) := by decide +kernel
theorem dX0_weigh_69 : decode cX0_weigh 69 = .ok (.aload_n 0, 1) := by decide +kernel
theorem dX0_weigh_70 : decode cX0_weigh 70 = .ok (.getfield 24, 3) := by decide +kernel
theorem dX0_weigh_73 : decode cX0_weigh 73 = .ok (.iload 4, 2) := by decide +kernel
theorem dX0_weigh_75 : decode cX0_weigh 75 = .ok (.iload 5, 2) := by decide +kernel
theorem dX0_weigh_77 : decode cX0_weigh 77 = .ok (.iadd, 1) := by decide +kernel
theorem dX0_weigh_78 : decode cX0_weigh 78 = .ok (.dup2, 1) := by decide +kernel
theorem dX0_weigh_79 : decode cX0_weigh 79 = .ok (.iaload, 1) := by decide +kernel
theorem dX0_weigh_80 : decode cX0_weigh 80 = .ok (.iload_n 3, 1) := by decide +kernel
theorem dX0_weigh_81 : decode cX0_weigh 81 = .ok (.iadd, 1) := by decide +kernel
theorem dX0_weigh_82 : decode cX0_weigh 82 = .ok (.iastore, 1) := by decide +kernel
theorem dX0_weigh_83 : decode cX0_weigh 83 = .ok (.iinc 5 1, 3) := by decide +kernel
theorem dX0_weigh_86 : decode cX0_weigh 86 = .ok (.goto (-50), 3) := by decide +kernel
theorem dX0_weigh_89 : decode cX0_weigh 89 = .ok (.return_, 1) := by decide +kernel
theorem dX0_sums_0 : decode cX0_sums 0 = .ok (.iload_n 1, 1) := by decide +kernel
theorem dX0_sums_1 : decode cX0_sums 1 = .ok (.sipush 255, 3) := by decide +kernel
theorem dX0_sums_4 : decode cX0_sums 4 = .ok (.iand, 1) := by decide +kernel
theorem dX0_sums_5 : decode cX0_sums 5 = .ok (.istore_n 2, 1) := by decide +kernel
theorem dX0_sums_6 : decode cX0_sums 6 = .ok (.sipush 256, 3) := by decide +kernel
theorem dX0_sums_9 : decode cX0_sums 9 = .ok (.iload_n 1, 1) := by decide +kernel
theorem dX0_sums_10 : decode cX0_sums 10 = .ok (.bipush 8, 2) := by decide +kernel
theorem dX0_sums_12 : decode cX0_sums 12 = .ok (.iushr, 1) := by decide +kernel
theorem dX0_sums_13 : decode cX0_sums 13 = .ok (.sipush 255, 3) := by decide +kernel
theorem dX0_sums_16 : decode cX0_sums 16 = .ok (.iand, 1) := by decide +kernel
theorem dX0_sums_17 : decode cX0_sums 17 = .ok (.iadd, 1) := by decide +kernel
theorem dX0_sums_18 : decode cX0_sums 18 = .ok (.istore_n 3, 1) := by decide +kernel
theorem dX0_sums_19 : decode cX0_sums 19 = .ok (.sipush 512, 3) := by decide +kernel
theorem dX0_sums_22 : decode cX0_sums 22 = .ok (.iload_n 1, 1) := by decide +kernel
theorem dX0_sums_23 : decode cX0_sums 23 = .ok (.bipush 16, 2) := by decide +kernel
theorem dX0_sums_25 : decode cX0_sums 25 = .ok (.iushr, 1) := by decide +kernel
theorem dX0_sums_26 : decode cX0_sums 26 = .ok (.sipush 255, 3) := by decide +kernel
theorem dX0_sums_29 : decode cX0_sums 29 = .ok (.iand, 1) := by decide +kernel
theorem dX0_sums_30 : decode cX0_sums 30 = .ok (.iadd, 1) := by decide +kernel
theorem dX0_sums_31 : decode cX0_sums 31 = .ok (.istore 4, 2) := by decide +kernel
theorem dX0_sums_33 : decode cX0_sums 33 = .ok (.iload 4, 2) := by decide +kernel
theorem dX0_sums_35 : decode cX0_sums 35 = .ok (.aload_n 0, 1) := by decide +kernel
theorem dX0_sums_36 : decode cX0_sums 36 = .ok (.getfield 24, 3) := by decide +kernel
theorem dX0_sums_39 : decode cX0_sums 39 = .ok (.arraylength, 1) := by decide +kernel
theorem dX0_sums_40 : decode cX0_sums 40 = .ok (.if_icmp .lt 5, 3) := by decide +kernel
theorem dX0_sums_43 : decode cX0_sums 43 = .ok (.iconst 0, 1) := by decide +kernel
theorem dX0_sums_44 : decode cX0_sums 44 = .ok (.ireturn, 1) := by decide +kernel
theorem dX0_sums_45 : decode cX0_sums 45 = .ok (.aload_n 0, 1) := by decide +kernel
theorem dX0_sums_46 : decode cX0_sums 46 = .ok (.getfield 24, 3) := by decide +kernel
theorem dX0_sums_49 : decode cX0_sums 49 = .ok (.iload_n 2, 1) := by decide +kernel
theorem dX0_sums_50 : decode cX0_sums 50 = .ok (.iaload, 1) := by decide +kernel
theorem dX0_sums_51 : decode cX0_sums 51 = .ok (.aload_n 0, 1) := by decide +kernel
theorem dX0_sums_52 : decode cX0_sums 52 = .ok (.getfield 24, 3) := by decide +kernel
theorem dX0_sums_55 : decode cX0_sums 55 = .ok (.iload_n 3, 1) := by decide +kernel
theorem dX0_sums_56 : decode cX0_sums 56 = .ok (.iaload, 1) := by decide +kernel
theorem dX0_sums_57 : decode cX0_sums 57 = .ok (.iadd, 1) := by decide +kernel
theorem dX0_sums_58 : decode cX0_sums 58 = .ok (.aload_n 0, 1) := by decide +kernel
theorem dX0_sums_59 : decode cX0_sums 59 = .ok (.getfield 24, 3) := by decide +kernel
theorem dX0_sums_62 : decode cX0_sums 62 = .ok (.iload 4, 2) := by decide +kernel
theorem dX0_sums_64 : decode cX0_sums 64 = .ok (.iaload, 1) := by decide +kernel
theorem dX0_sums_65 : decode cX0_sums 65 = .ok (.iadd, 1) := by decide +kernel
theorem dX0_sums_66 : decode cX0_sums 66 = .ok (.ireturn, 1) := by decide +kernel
theorem dX0_xOf_0 : decode cX0_xOf 0 = .ok (.iload_n 1, 1) := by decide +kernel
theorem dX0_xOf_1 : decode cX0_xOf 1 = .ok (.invokestatic 37, 3) := by decide +kernel
theorem dX0_xOf_4 : decode cX0_xOf 4 = .ok (.ifCond .eq 12, 3) := by decide +kernel
theorem dX0_xOf_7 : decode cX0_xOf 7 = .ok (.aload_n 0, 1) := by decide +kernel
theorem dX0_xOf_8 : decode cX0_xOf 8 = .ok (.getfield 9, 3) := by decide +kernel
theorem dX0_xOf_11 : decode cX0_xOf 11 = .ok (.iload_n 1, 1) := by decide +kernel
theorem dX0_xOf_12 : decode cX0_xOf 12 = .ok (.iaload, 1) := by decide +kernel
theorem dX0_xOf_13 : decode cX0_xOf 13 = .ok (.goto 4, 3) := by decide +kernel
theorem dX0_xOf_16 : decode cX0_xOf 16 = .ok (.iconst 0, 1) := by decide +kernel
theorem dX0_xOf_17 : decode cX0_xOf 17 = .ok (.ireturn, 1) := by decide +kernel
theorem dX0_yOf_0 : decode cX0_yOf 0 = .ok (.iload_n 1, 1) := by decide +kernel
theorem dX0_yOf_1 : decode cX0_yOf 1 = .ok (.invokestatic 37, 3) := by decide +kernel
theorem dX0_yOf_4 : decode cX0_yOf 4 = .ok (.ifCond .eq 12, 3) := by decide +kernel
theorem dX0_yOf_7 : decode cX0_yOf 7 = .ok (.aload_n 0, 1) := by decide +kernel
theorem dX0_yOf_8 : decode cX0_yOf 8 = .ok (.getfield 15, 3) := by decide +kernel
theorem dX0_yOf_11 : decode cX0_yOf 11 = .ok (.iload_n 1, 1) := by decide +kernel
theorem dX0_yOf_12 : decode cX0_yOf 12 = .ok (.iaload, 1) := by decide +kernel
theorem dX0_yOf_13 : decode cX0_yOf 13 = .ok (.goto 4, 3) := by decide +kernel
theorem dX0_yOf_16 : decode cX0_yOf 16 = .ok (.iconst 0, 1) := by decide +kernel
theorem dX0_yOf_17 : decode cX0_yOf 17 = .ok (.ireturn, 1) := by decide +kernel
theorem dX0_sumOf_0 : decode cX0_sumOf 0 = .ok (.iload_n 1, 1) := by decide +kernel
theorem dX0_sumOf_1 : decode cX0_sumOf 1 = .ok (.invokestatic 37, 3) := by decide +kernel
theorem dX0_sumOf_4 : decode cX0_sumOf 4 = .ok (.ifCond .eq 12, 3) := by decide +kernel
theorem dX0_sumOf_7 : decode cX0_sumOf 7 = .ok (.aload_n 0, 1) := by decide +kernel
theorem dX0_sumOf_8 : decode cX0_sumOf 8 = .ok (.getfield 18, 3) := by decide +kernel
theorem dX0_sumOf_11 : decode cX0_sumOf 11 = .ok (.iload_n 1, 1) := by decide +kernel
theorem dX0_sumOf_12 : decode cX0_sumOf 12 = .ok (.iaload, 1) := by decide +kernel
theorem dX0_sumOf_13 : decode cX0_sumOf 13 = .ok (.goto 4, 3) := by decide +kernel
theorem dX0_sumOf_16 : decode cX0_sumOf 16 = .ok (.iconst 0, 1) := by decide +kernel
theorem dX0_sumOf_17 : decode cX0_sumOf 17 = .ok (.ireturn, 1) := by decide +kernel
theorem dX0_perilOf_0 : decode cX0_perilOf 0 = .ok (.iload_n 1, 1) := by decide +kernel
theorem dX0_perilOf_1 : decode cX0_perilOf 1 = .ok (.invokestatic 37, 3) := by decide +kernel
theorem dX0_perilOf_4 : decode cX0_perilOf 4 = .ok (.ifCond .eq 12, 3) := by decide +kernel
theorem dX0_perilOf_7 : decode cX0_perilOf 7 = .ok (.aload_n 0, 1) := by decide +kernel
theorem dX0_perilOf_8 : decode cX0_perilOf 8 = .ok (.getfield 21, 3) := by decide +kernel
theorem dX0_perilOf_11 : decode cX0_perilOf 11 = .ok (.iload_n 1, 1) := by decide +kernel
theorem dX0_perilOf_12 : decode cX0_perilOf 12 = .ok (.iaload, 1) := by decide +kernel
theorem dX0_perilOf_13 : decode cX0_perilOf 13 = .ok (.goto 4, 3) := by decide +kernel
theorem dX0_perilOf_16 : decode cX0_perilOf 16 = .ok (.iconst 0, 1) := by decide +kernel
theorem dX0_perilOf_17 : decode cX0_perilOf 17 = .ok (.ireturn, 1) := by decide +kernel
theorem dX0_between_0 : decode cX0_between 0 = .ok (.aload_n 0, 1) := by decide +kernel
theorem dX0_between_1 : decode cX0_between 1 = .ok (.iload_n 1, 1) := by decide +kernel
theorem dX0_between_2 : decode cX0_between 2 = .ok (.aload_n 0, 1) := by decide +kernel
theorem dX0_between_3 : decode cX0_between 3 = .ok (.iload_n 2, 1) := by decide +kernel
theorem dX0_between_4 : decode cX0_between 4 = .ok (.invokevirtual 53, 3) := by decide +kernel
theorem dX0_between_7 : decode cX0_between 7 = .ok (.aload_n 0, 1) := by decide +kernel
theorem dX0_between_8 : decode cX0_between 8 = .ok (.iload_n 2, 1) := by decide +kernel
theorem dX0_between_9 : decode cX0_between 9 = .ok (.invokevirtual 57, 3) := by decide +kernel
theorem dX0_between_12 : decode cX0_between 12 = .ok (.invokevirtual 60, 3) := by decide +kernel
theorem dX0_between_15 : decode cX0_between 15 = .ok (.ireturn, 1) := by decide +kernel
theorem dX0_apart_0 : decode cX0_apart 0 = .ok (.aload_n 0, 1) := by decide +kernel
theorem dX0_apart_1 : decode cX0_apart 1 = .ok (.iload_n 1, 1) := by decide +kernel
theorem dX0_apart_2 : decode cX0_apart 2 = .ok (.invokevirtual 53, 3) := by decide +kernel
theorem dX0_apart_5 : decode cX0_apart 5 = .ok (.iload_n 2, 1) := by decide +kernel
theorem dX0_apart_6 : decode cX0_apart 6 = .ok (.isub, 1) := by decide +kernel
theorem dX0_apart_7 : decode cX0_apart 7 = .ok (.istore 4, 2) := by decide +kernel
theorem dX0_apart_9 : decode cX0_apart 9 = .ok (.aload_n 0, 1) := by decide +kernel
theorem dX0_apart_10 : decode cX0_apart 10 = .ok (.iload_n 1, 1) := by decide +kernel
theorem dX0_apart_11 : decode cX0_apart 11 = .ok (.invokevirtual 57, 3) := by decide +kernel
theorem dX0_apart_14 : decode cX0_apart 14 = .ok (.iload_n 3, 1) := by decide +kernel
theorem dX0_apart_15 : decode cX0_apart 15 = .ok (.isub, 1) := by decide +kernel
theorem dX0_apart_16 : decode cX0_apart 16 = .ok (.istore 5, 2) := by decide +kernel
theorem dX0_apart_18 : decode cX0_apart 18 = .ok (.iload 4, 2) := by decide +kernel
theorem dX0_apart_20 : decode cX0_apart 20 = .ok (.iload 4, 2) := by decide +kernel
theorem dX0_apart_22 : decode cX0_apart 22 = .ok (.imul, 1) := by decide +kernel
theorem dX0_apart_23 : decode cX0_apart 23 = .ok (.iload 5, 2) := by decide +kernel
theorem dX0_apart_25 : decode cX0_apart 25 = .ok (.iload 5, 2) := by decide +kernel
theorem dX0_apart_27 : decode cX0_apart 27 = .ok (.imul, 1) := by decide +kernel
theorem dX0_apart_28 : decode cX0_apart 28 = .ok (.iadd, 1) := by decide +kernel
theorem dX0_apart_29 : decode cX0_apart 29 = .ok (.ireturn, 1) := by decide +kernel
theorem dX0_ofPerils_0 : decode cX0_ofPerils 0 = .ok (.iconst 0, 1) := by decide +kernel
theorem dX0_ofPerils_1 : decode cX0_ofPerils 1 = .ok (.istore_n 2, 1) := by decide +kernel
theorem dX0_ofPerils_2 : decode cX0_ofPerils 2 = .ok (.iconst 0, 1) := by decide +kernel
theorem dX0_ofPerils_3 : decode cX0_ofPerils 3 = .ok (.istore_n 3, 1) := by decide +kernel
theorem dX0_ofPerils_4 : decode cX0_ofPerils 4 = .ok (.iload_n 3, 1) := by decide +kernel
theorem dX0_ofPerils_5 : decode cX0_ofPerils 5 = .ok (.bipush 24, 2) := by decide +kernel
theorem dX0_ofPerils_7 : decode cX0_ofPerils 7 = .ok (.if_icmp .ge 39, 3) := by decide +kernel
theorem dX0_ofPerils_10 : decode cX0_ofPerils 10 = .ok (.aload_n 0, 1) := by decide +kernel
theorem dX0_ofPerils_11 : decode cX0_ofPerils 11 = .ok (.getfield 27, 3) := by decide +kernel
theorem dX0_ofPerils_14 : decode cX0_ofPerils 14 = .ok (.iload_n 3, 1) := by decide +kernel
theorem dX0_ofPerils_15 : decode cX0_ofPerils 15 = .ok (.invokestatic 41, 3) := by decide +kernel
theorem dX0_ofPerils_18 : decode cX0_ofPerils 18 = .ok (.ifCond .eq 22, 3) := by decide +kernel
theorem dX0_ofPerils_21 : decode cX0_ofPerils 21 = .ok (.iload_n 1, 1) := by decide +kernel
theorem dX0_ofPerils_22 : decode cX0_ofPerils 22 = .ok (.aload_n 0, 1) := by decide +kernel
theorem dX0_ofPerils_23 : decode cX0_ofPerils 23 = .ok (.getfield 21, 3) := by decide +kernel
theorem dX0_ofPerils_26 : decode cX0_ofPerils 26 = .ok (.iload_n 3, 1) := by decide +kernel
theorem dX0_ofPerils_27 : decode cX0_ofPerils 27 = .ok (.iaload, 1) := by decide +kernel
theorem dX0_ofPerils_28 : decode cX0_ofPerils 28 = .ok (.invokestatic 41, 3) := by decide +kernel
theorem dX0_ofPerils_31 : decode cX0_ofPerils 31 = .ok (.ifCond .eq 9, 3) := by decide +kernel
theorem dX0_ofPerils_34 : decode cX0_ofPerils 34 = .ok (.iload_n 2, 1) := by decide +kernel
theorem dX0_ofPerils_35 : decode cX0_ofPerils 35 = .ok (.iconst 1, 1) := by decide +kernel
theorem dX0_ofPerils_36 : decode cX0_ofPerils 36 = .ok (.iload_n 3, 1) := by decide +kernel
theorem dX0_ofPerils_37 : decode cX0_ofPerils 37 = .ok (.ishl, 1) := by decide +kernel
theorem dX0_ofPerils_38 : decode cX0_ofPerils 38 = .ok (.ior, 1) := by decide +kernel
theorem dX0_ofPerils_39 : decode cX0_ofPerils 39 = .ok (.istore_n 2, 1) := by decide +kernel
theorem dX0_ofPerils_40 : decode cX0_ofPerils 40 = .ok (.iinc 3 1, 3) := by decide +kernel
theorem dX0_ofPerils_43 : decode cX0_ofPerils 43 = .ok (.goto (-39), 3) := by decide +kernel
theorem dX0_ofPerils_46 : decode cX0_ofPerils 46 = .ok (.iload_n 2, 1) := by decide +kernel
theorem dX0_ofPerils_47 : decode cX0_ofPerils 47 = .ok (.ireturn, 1) := by decide +kernel
theorem dX0_within_0 : decode cX0_within 0 = .ok (.iconst 0, 1) := by decide +kernel
theorem dX0_within_1 : decode cX0_within 1 = .ok (.istore 4, 2) := by decide +kernel
theorem dX0_within_3 : decode cX0_within 3 = .ok (.iconst 0, 1) := by decide +kernel
theorem dX0_within_4 : decode cX0_within 4 = .ok (.istore 5, 2) := by decide +kernel
theorem dX0_within_6 : decode cX0_within 6 = .ok (.iload 5, 2) := by decide +kernel
theorem dX0_within_8 : decode cX0_within 8 = .ok (.bipush 24, 2) := by decide +kernel
theorem dX0_within_10 : decode cX0_within 10 = .ok (.if_icmp .ge 69, 3) := by decide +kernel
theorem dX0_within_13 : decode cX0_within 13 = .ok (.aload_n 0, 1) := by decide +kernel
theorem dX0_within_14 : decode cX0_within 14 = .ok (.getfield 9, 3) := by decide +kernel
theorem dX0_within_17 : decode cX0_within 17 = .ok (.iload 5, 2) := by decide +kernel
theorem dX0_within_19 : decode cX0_within 19 = .ok (.iaload, 1) := by decide +kernel
theorem dX0_within_20 : decode cX0_within 20 = .ok (.iload_n 1, 1) := by decide +kernel
theorem dX0_within_21 : decode cX0_within 21 = .ok (.isub, 1) := by decide +kernel
theorem dX0_within_22 : decode cX0_within 22 = .ok (.istore 6, 2) := by decide +kernel
theorem dX0_within_24 : decode cX0_within 24 = .ok (.aload_n 0, 1) := by decide +kernel
theorem dX0_within_25 : decode cX0_within 25 = .ok (.getfield 15, 3) := by decide +kernel
theorem dX0_within_28 : decode cX0_within 28 = .ok (.iload 5, 2) := by decide +kernel
theorem dX0_within_30 : decode cX0_within 30 = .ok (.iaload, 1) := by decide +kernel
theorem dX0_within_31 : decode cX0_within 31 = .ok (.iload_n 2, 1) := by decide +kernel
theorem dX0_within_32 : decode cX0_within 32 = .ok (.isub, 1) := by decide +kernel
theorem dX0_within_33 : decode cX0_within 33 = .ok (.istore 7, 2) := by decide +kernel
theorem dX0_within_35 : decode cX0_within 35 = .ok (.aload_n 0, 1) := by decide +kernel
theorem dX0_within_36 : decode cX0_within 36 = .ok (.getfield 27, 3) := by decide +kernel
theorem dX0_within_39 : decode cX0_within 39 = .ok (.iload 5, 2) := by decide +kernel
theorem dX0_within_41 : decode cX0_within 41 = .ok (.invokestatic 41, 3) := by decide +kernel
theorem dX0_within_44 : decode cX0_within 44 = .ok (.ifCond .eq 29, 3) := by decide +kernel
theorem dX0_within_47 : decode cX0_within 47 = .ok (.iload 6, 2) := by decide +kernel
theorem dX0_within_49 : decode cX0_within 49 = .ok (.iload 6, 2) := by decide +kernel
theorem dX0_within_51 : decode cX0_within 51 = .ok (.imul, 1) := by decide +kernel
theorem dX0_within_52 : decode cX0_within 52 = .ok (.iload 7, 2) := by decide +kernel
theorem dX0_within_54 : decode cX0_within 54 = .ok (.iload 7, 2) := by decide +kernel
theorem dX0_within_56 : decode cX0_within 56 = .ok (.imul, 1) := by decide +kernel
theorem dX0_within_57 : decode cX0_within 57 = .ok (.iadd, 1) := by decide +kernel
theorem dX0_within_58 : decode cX0_within 58 = .ok (.iload_n 3, 1) := by decide +kernel
theorem dX0_within_59 : decode cX0_within 59 = .ok (.iload_n 3, 1) := by decide +kernel
theorem dX0_within_60 : decode cX0_within 60 = .ok (.imul, 1) := by decide +kernel
theorem dX0_within_61 : decode cX0_within 61 = .ok (.if_icmp .gt 12, 3) := by decide +kernel
theorem dX0_within_64 : decode cX0_within 64 = .ok (.iload 4, 2) := by decide +kernel
theorem dX0_within_66 : decode cX0_within 66 = .ok (.iconst 1, 1) := by decide +kernel
theorem dX0_within_67 : decode cX0_within 67 = .ok (.iload 5, 2) := by decide +kernel
theorem dX0_within_69 : decode cX0_within 69 = .ok (.ishl, 1) := by decide +kernel
theorem dX0_within_70 : decode cX0_within 70 = .ok (.ior, 1) := by decide +kernel
theorem dX0_within_71 : decode cX0_within 71 = .ok (.istore 4, 2) := by decide +kernel
theorem dX0_within_73 : decode cX0_within 73 = .ok (.iinc 5 1, 3) := by decide +kernel
theorem dX0_within_76 : decode cX0_within 76 = .ok (.goto (-70), 3) := by decide +kernel
theorem dX0_within_79 : decode cX0_within 79 = .ok (.iload 4, 2) := by decide +kernel
theorem dX0_within_81 : decode cX0_within 81 = .ok (.ireturn, 1) := by decide +kernel
theorem dX0_inSquare_0 : decode cX0_inSquare 0 = .ok (.iconst 0, 1) := by decide +kernel
theorem dX0_inSquare_1 : decode cX0_inSquare 1 = .ok (.istore 4, 2) := by decide +kernel
theorem dX0_inSquare_3 : decode cX0_inSquare 3 = .ok (.iconst 0, 1) := by decide +kernel
theorem dX0_inSquare_4 : decode cX0_inSquare 4 = .ok (.istore 5, 2) := by decide +kernel
theorem dX0_inSquare_6 : decode cX0_inSquare 6 = .ok (.iload 5, 2) := by decide +kernel
theorem dX0_inSquare_8 : decode cX0_inSquare 8 = .ok (.bipush 24, 2) := by decide +kernel
theorem dX0_inSquare_10 : decode cX0_inSquare 10 = .ok (.if_icmp .ge 74, 3) := by decide +kernel
theorem dX0_inSquare_13 : decode cX0_inSquare 13 = .ok (.aload_n 0, 1) := by decide +kernel
theorem dX0_inSquare_14 : decode cX0_inSquare 14 = .ok (.getfield 9, 3) := by decide +kernel
theorem dX0_inSquare_17 : decode cX0_inSquare 17 = .ok (.iload 5, 2) := by decide +kernel
theorem dX0_inSquare_19 : decode cX0_inSquare 19 = .ok (.iaload, 1) := by decide +kernel
theorem dX0_inSquare_20 : decode cX0_inSquare 20 = .ok (.iload_n 1, 1) := by decide +kernel
theorem dX0_inSquare_21 : decode cX0_inSquare 21 = .ok (.isub, 1) := by decide +kernel
theorem dX0_inSquare_22 : decode cX0_inSquare 22 = .ok (.istore 6, 2) := by decide +kernel
theorem dX0_inSquare_24 : decode cX0_inSquare 24 = .ok (.aload_n 0, 1) := by decide +kernel
theorem dX0_inSquare_25 : decode cX0_inSquare 25 = .ok (.getfield 15, 3) := by decide +kernel
theorem dX0_inSquare_28 : decode cX0_inSquare 28 = .ok (.iload 5, 2) := by decide +kernel
theorem dX0_inSquare_30 : decode cX0_inSquare 30 = .ok (.iaload, 1) := by decide +kernel
theorem dX0_inSquare_31 : decode cX0_inSquare 31 = .ok (.iload_n 2, 1) := by decide +kernel
theorem dX0_inSquare_32 : decode cX0_inSquare 32 = .ok (.isub, 1) := by decide +kernel
theorem dX0_inSquare_33 : decode cX0_inSquare 33 = .ok (.istore 7, 2) := by decide +kernel
theorem dX0_inSquare_35 : decode cX0_inSquare 35 = .ok (.aload_n 0, 1) := by decide +kernel
theorem dX0_inSquare_36 : decode cX0_inSquare 36 = .ok (.getfield 27, 3) := by decide +kernel
theorem dX0_inSquare_39 : decode cX0_inSquare 39 = .ok (.iload 5, 2) := by decide +kernel
theorem dX0_inSquare_41 : decode cX0_inSquare 41 = .ok (.invokestatic 41, 3) := by decide +kernel
theorem dX0_inSquare_44 : decode cX0_inSquare 44 = .ok (.ifCond .eq 34, 3) := by decide +kernel
theorem dX0_inSquare_47 : decode cX0_inSquare 47 = .ok (.iload 6, 2) := by decide +kernel
theorem dX0_inSquare_49 : decode cX0_inSquare 49 = .ok (.ifCond .lt 29, 3) := by decide +kernel
theorem dX0_inSquare_52 : decode cX0_inSquare 52 = .ok (.iload 6, 2) := by decide +kernel
theorem dX0_inSquare_54 : decode cX0_inSquare 54 = .ok (.iload_n 3, 1) := by decide +kernel
theorem dX0_inSquare_55 : decode cX0_inSquare 55 = .ok (.if_icmp .gt 23, 3) := by decide +kernel
theorem dX0_inSquare_58 : decode cX0_inSquare 58 = .ok (.iload 7, 2) := by decide +kernel
theorem dX0_inSquare_60 : decode cX0_inSquare 60 = .ok (.ifCond .lt 18, 3) := by decide +kernel
theorem dX0_inSquare_63 : decode cX0_inSquare 63 = .ok (.iload 7, 2) := by decide +kernel
theorem dX0_inSquare_65 : decode cX0_inSquare 65 = .ok (.iload_n 3, 1) := by decide +kernel
theorem dX0_inSquare_66 : decode cX0_inSquare 66 = .ok (.if_icmp .gt 12, 3) := by decide +kernel
theorem dX0_inSquare_69 : decode cX0_inSquare 69 = .ok (.iload 4, 2) := by decide +kernel
theorem dX0_inSquare_71 : decode cX0_inSquare 71 = .ok (.iconst 1, 1) := by decide +kernel
theorem dX0_inSquare_72 : decode cX0_inSquare 72 = .ok (.iload 5, 2) := by decide +kernel
theorem dX0_inSquare_74 : decode cX0_inSquare 74 = .ok (.ishl, 1) := by decide +kernel
theorem dX0_inSquare_75 : decode cX0_inSquare 75 = .ok (.ior, 1) := by decide +kernel
theorem dX0_inSquare_76 : decode cX0_inSquare 76 = .ok (.istore 4, 2) := by decide +kernel
theorem dX0_inSquare_78 : decode cX0_inSquare 78 = .ok (.iinc 5 1, 3) := by decide +kernel
theorem dX0_inSquare_81 : decode cX0_inSquare 81 = .ok (.goto (-75), 3) := by decide +kernel
theorem dX0_inSquare_84 : decode cX0_inSquare 84 = .ok (.iload 4, 2) := by decide +kernel
theorem dX0_inSquare_86 : decode cX0_inSquare 86 = .ok (.ireturn, 1) := by decide +kernel
theorem dX0_unlikePlaces_0 : decode cX0_unlikePlaces 0 = .ok (.iconst 0, 1) := by decide +kernel
theorem dX0_unlikePlaces_1 : decode cX0_unlikePlaces 1 = .ok (.istore_n 1, 1) := by decide +kernel
theorem dX0_unlikePlaces_2 : decode cX0_unlikePlaces 2 = .ok (.iconst 0, 1) := by decide +kernel
theorem dX0_unlikePlaces_3 : decode cX0_unlikePlaces 3 = .ok (.istore_n 2, 1) := by decide +kernel
theorem dX0_unlikePlaces_4 : decode cX0_unlikePlaces 4 = .ok (.iload_n 2, 1) := by decide +kernel
theorem dX0_unlikePlaces_5 : decode cX0_unlikePlaces 5 = .ok (.bipush 24, 2) := by decide +kernel
theorem dX0_unlikePlaces_7 : decode cX0_unlikePlaces 7 = .ok (.if_icmp .ge 49, 3) := by decide +kernel
theorem dX0_unlikePlaces_10 : decode cX0_unlikePlaces 10 = .ok (.aload_n 0, 1) := by decide +kernel
theorem dX0_unlikePlaces_11 : decode cX0_unlikePlaces 11 = .ok (.getfield 27, 3) := by decide +kernel
theorem dX0_unlikePlaces_14 : decode cX0_unlikePlaces 14 = .ok (.iload_n 2, 1) := by decide +kernel
theorem dX0_unlikePlaces_15 : decode cX0_unlikePlaces 15 = .ok (.invokestatic 41, 3) := by decide +kernel
theorem dX0_unlikePlaces_18 : decode cX0_unlikePlaces 18 = .ok (.ifCond .eq 32, 3) := by decide +kernel
theorem dX0_unlikePlaces_21 : decode cX0_unlikePlaces 21 = .ok (.aload_n 0, 1) := by decide +kernel
theorem dX0_unlikePlaces_22 : decode cX0_unlikePlaces 22 = .ok (.aload_n 0, 1) := by decide +kernel
theorem dX0_unlikePlaces_23 : decode cX0_unlikePlaces 23 = .ok (.getfield 9, 3) := by decide +kernel
theorem dX0_unlikePlaces_26 : decode cX0_unlikePlaces 26 = .ok (.iload_n 2, 1) := by decide +kernel
theorem dX0_unlikePlaces_27 : decode cX0_unlikePlaces 27 = .ok (.iaload, 1) := by decide +kernel
theorem dX0_unlikePlaces_28 : decode cX0_unlikePlaces 28 = .ok (.aload_n 0, 1) := by decide +kernel
theorem dX0_unlikePlaces_29 : decode cX0_unlikePlaces 29 = .ok (.getfield 15, 3) := by decide +kernel
theorem dX0_unlikePlaces_32 : decode cX0_unlikePlaces 32 = .ok (.iload_n 2, 1) := by decide +kernel
theorem dX0_unlikePlaces_33 : decode cX0_unlikePlaces 33 = .ok (.iaload, 1) := by decide +kernel
theorem dX0_unlikePlaces_34 : decode cX0_unlikePlaces 34 = .ok (.iconst 0, 1) := by decide +kernel
theorem dX0_unlikePlaces_35 : decode cX0_unlikePlaces 35 = .ok (.invokevirtual 64, 3) := by decide +kernel
theorem dX0_unlikePlaces_38 : decode cX0_unlikePlaces 38 = .ok (.iconst 1, 1) := by decide +kernel
theorem dX0_unlikePlaces_39 : decode cX0_unlikePlaces 39 = .ok (.iload_n 2, 1) := by decide +kernel
theorem dX0_unlikePlaces_40 : decode cX0_unlikePlaces 40 = .ok (.ishl, 1) := by decide +kernel
theorem dX0_unlikePlaces_41 : decode cX0_unlikePlaces 41 = .ok (.iconst 1, 1) := by decide +kernel
theorem dX0_unlikePlaces_42 : decode cX0_unlikePlaces 42 = .ok (.isub, 1) := by decide +kernel
theorem dX0_unlikePlaces_43 : decode cX0_unlikePlaces 43 = .ok (.iand, 1) := by decide +kernel
theorem dX0_unlikePlaces_44 : decode cX0_unlikePlaces 44 = .ok (.ifCond .ne 6, 3) := by decide +kernel
theorem dX0_unlikePlaces_47 : decode cX0_unlikePlaces 47 = .ok (.iinc 1 1, 3) := by decide +kernel
theorem dX0_unlikePlaces_50 : decode cX0_unlikePlaces 50 = .ok (.iinc 2 1, 3) := by decide +kernel
theorem dX0_unlikePlaces_53 : decode cX0_unlikePlaces 53 = .ok (.goto (-49), 3) := by decide +kernel
theorem dX0_unlikePlaces_56 : decode cX0_unlikePlaces 56 = .ok (.iload_n 1, 1) := by decide +kernel
theorem dX0_unlikePlaces_57 : decode cX0_unlikePlaces 57 = .ok (.ireturn, 1) := by decide +kernel
theorem dX1_init_0 : decode cX1_init 0 = .ok (.aload_n 0, 1) := by decide +kernel
theorem dX1_init_1 : decode cX1_init 1 = .ok (.invokespecial 3, 3) := by decide +kernel
theorem dX1_init_4 : decode cX1_init 4 = .ok (.aload_n 0, 1) := by decide +kernel
theorem dX1_init_5 : decode cX1_init 5 = .ok (.aload_n 1, 1) := by decide +kernel
theorem dX1_init_6 : decode cX1_init 6 = .ok (.putfield 9, 3) := by decide +kernel
theorem dX1_init_9 : decode cX1_init 9 = .ok (.return_, 1) := by decide +kernel
theorem dX1_close_0 : decode cX1_close 0 = .ok (.aload_n 0, 1) := by decide +kernel
theorem dX1_close_1 : decode cX1_close 1 = .ok (.iconst (-1), 1) := by decide +kernel
theorem dX1_close_2 : decode cX1_close 2 = .ok (.putfield 15, 3) := by decide +kernel
theorem dX1_close_5 : decode cX1_close 5 = .ok (.aload_n 0, 1) := by decide +kernel
theorem dX1_close_6 : decode cX1_close 6 = .ok (.bipush (-2), 2) := by decide +kernel
theorem dX1_close_8 : decode cX1_close 8 = .ok (.putfield 19, 3) := by decide +kernel
theorem dX1_close_11 : decode cX1_close 11 = .ok (.aload_n 0, 1) := by decide +kernel
theorem dX1_close_12 : decode cX1_close 12 = .ok (.bipush (-2), 2) := by decide +kernel
theorem dX1_close_14 : decode cX1_close 14 = .ok (.putfield 22, 3) := by decide +kernel
theorem dX1_close_17 : decode cX1_close 17 = .ok (.aload_n 0, 1) := by decide +kernel
theorem dX1_close_18 : decode cX1_close 18 = .ok (.iload_n 1, 1) := by decide +kernel
theorem dX1_close_19 : decode cX1_close 19 = .ok (.invokevirtual 25, 3) := by decide +kernel
theorem dX1_close_22 : decode cX1_close 22 = .ok (.ifCond .ne 16, 3) := by decide +kernel
theorem dX1_close_25 : decode cX1_close 25 = .ok (.aload_n 0, 1) := by decide +kernel
theorem dX1_close_26 : decode cX1_close 26 = .ok (.iload_n 1, 1) := by decide +kernel
theorem dX1_close_27 : decode cX1_close 27 = .ok (.invokevirtual 29, 3) := by decide +kernel
theorem dX1_close_30 : decode cX1_close 30 = .ok (.ifCond .ne 8, 3) := by decide +kernel
theorem dX1_close_33 : decode cX1_close 33 = .ok (.aload_n 0, 1) := by decide +kernel
theorem dX1_close_34 : decode cX1_close 34 = .ok (.iload_n 1, 1) := by decide +kernel
theorem dX1_close_35 : decode cX1_close 35 = .ok (.invokevirtual 32, 3) := by decide +kernel
theorem dX1_close_38 : decode cX1_close 38 = .ok (.return_, 1) := by decide +kernel
theorem dX1_isPoint_0 : decode cX1_isPoint 0 = .ok (.iconst 0, 1) := by decide +kernel
theorem dX1_isPoint_1 : decode cX1_isPoint 1 = .ok (.istore_n 2, 1) := by decide +kernel
theorem dX1_isPoint_2 : decode cX1_isPoint 2 = .ok (.iload_n 2, 1) := by decide +kernel
theorem dX1_isPoint_3 : decode cX1_isPoint 3 = .ok (.bipush 24, 2) := by decide +kernel
theorem dX1_isPoint_5 : decode cX1_isPoint 5 = .ok (.if_icmp .ge 69, 3) := by decide +kernel
theorem dX1_isPoint_8 : decode cX1_isPoint 8 = .ok (.iload_n 1, 1) := by decide +kernel
theorem dX1_isPoint_9 : decode cX1_isPoint 9 = .ok (.iload_n 2, 1) := by decide +kernel
theorem dX1_isPoint_10 : decode cX1_isPoint 10 = .ok (.invokestatic 36, 3) := by decide +kernel
theorem dX1_isPoint_13 : decode cX1_isPoint 13 = .ok (.ifCond .eq 55, 3) := by decide +kernel
theorem dX1_isPoint_16 : decode cX1_isPoint 16 = .ok (.iload_n 1, 1) := by decide +kernel
theorem dX1_isPoint_17 : decode cX1_isPoint 17 = .ok (.aload_n 0, 1) := by decide +kernel
theorem dX1_isPoint_18 : decode cX1_isPoint 18 = .ok (.getfield 9, 3) := by decide +kernel
theorem dX1_isPoint_21 : decode cX1_isPoint 21 = .ok (.aload_n 0, 1) := by decide +kernel
theorem dX1_isPoint_22 : decode cX1_isPoint 22 = .ok (.getfield 9, 3) := by decide +kernel
theorem dX1_isPoint_25 : decode cX1_isPoint 25 = .ok (.iload_n 2, 1) := by decide +kernel
theorem dX1_isPoint_26 : decode cX1_isPoint 26 = .ok (.invokevirtual 40, 3) := by decide +kernel
theorem dX1_isPoint_29 : decode cX1_isPoint 29 = .ok (.aload_n 0, 1) := by decide +kernel
theorem dX1_isPoint_30 : decode cX1_isPoint 30 = .ok (.getfield 9, 3) := by decide +kernel
theorem dX1_isPoint_33 : decode cX1_isPoint 33 = .ok (.iload_n 2, 1) := by decide +kernel
theorem dX1_isPoint_34 : decode cX1_isPoint 34 = .ok (.invokevirtual 46, 3) := by decide +kernel
theorem dX1_isPoint_37 : decode cX1_isPoint 37 = .ok (.iconst 0, 1) := by decide +kernel
theorem dX1_isPoint_38 : decode cX1_isPoint 38 = .ok (.invokevirtual 49, 3) := by decide +kernel
theorem dX1_isPoint_41 : decode cX1_isPoint 41 = .ok (.iconst (-1), 1) := by decide +kernel
theorem dX1_isPoint_42 : decode cX1_isPoint 42 = .ok (.ixor, 1) := by decide +kernel
theorem dX1_isPoint_43 : decode cX1_isPoint 43 = .ok (.iand, 1) := by decide +kernel
theorem dX1_isPoint_44 : decode cX1_isPoint 44 = .ok (.ifCond .eq 5, 3) := by decide +kernel
theorem dX1_isPoint_47 : decode cX1_isPoint 47 = .ok (.iconst 0, 1) := by decide +kernel
theorem dX1_isPoint_48 : decode cX1_isPoint 48 = .ok (.ireturn, 1) := by decide +kernel
theorem dX1_isPoint_49 : decode cX1_isPoint 49 = .ok (.aload_n 0, 1) := by decide +kernel
theorem dX1_isPoint_50 : decode cX1_isPoint 50 = .ok (.aload_n 0, 1) := by decide +kernel
theorem dX1_isPoint_51 : decode cX1_isPoint 51 = .ok (.getfield 15, 3) := by decide +kernel
theorem dX1_isPoint_54 : decode cX1_isPoint 54 = .ok (.ifCond .ge 7, 3) := by decide +kernel
theorem dX1_isPoint_57 : decode cX1_isPoint 57 = .ok (.iload_n 2, 1) := by decide +kernel
theorem dX1_isPoint_58 : decode cX1_isPoint 58 = .ok (.goto 7, 3) := by decide +kernel
theorem dX1_isPoint_61 : decode cX1_isPoint 61 = .ok (.aload_n 0, 1) := by decide +kernel
theorem dX1_isPoint_62 : decode cX1_isPoint 62 = .ok (.getfield 15, 3) := by decide +kernel
theorem dX1_isPoint_65 : decode cX1_isPoint 65 = .ok (.putfield 15, 3) := by decide +kernel
theorem dX1_isPoint_68 : decode cX1_isPoint 68 = .ok (.iinc 2 1, 3) := by decide +kernel
theorem dX1_isPoint_71 : decode cX1_isPoint 71 = .ok (.goto (-69), 3) := by decide +kernel
theorem dX1_isPoint_74 : decode cX1_isPoint 74 = .ok (.aload_n 0, 1) := by decide +kernel
theorem dX1_isPoint_75 : decode cX1_isPoint 75 = .ok (.lconst 0, 1) := by decide +kernel
theorem dX1_isPoint_76 : decode cX1_isPoint 76 = .ok (.putfield 53, 3) := by decide +kernel
theorem dX1_isPoint_79 : decode cX1_isPoint 79 = .ok (.aload_n 0, 1) := by decide +kernel
theorem dX1_isPoint_80 : decode cX1_isPoint 80 = .ok (.lconst 1, 1) := by decide +kernel
theorem dX1_isPoint_81 : decode cX1_isPoint 81 = .ok (.putfield 57, 3) := by decide +kernel
theorem dX1_isPoint_84 : decode cX1_isPoint 84 = .ok (.iconst 1, 1) := by decide +kernel
theorem dX1_isPoint_85 : decode cX1_isPoint 85 = .ok (.ireturn, 1) := by decide +kernel
theorem dX1_hasDiameter_0 : decode cX1_hasDiameter 0 = .ok (.iconst 0, 1) := by decide +kernel
theorem dX1_hasDiameter_1 : decode cX1_hasDiameter 1 = .ok (.istore_n 2, 1) := by decide +kernel
theorem dX1_hasDiameter_2 : decode cX1_hasDiameter 2 = .ok (.iload_n 2, 1) := by decide +kernel
theorem dX1_hasDiameter_3 : decode cX1_hasDiameter 3 = .ok (.bipush 24, 2) := by decide +kernel
theorem dX1_hasDiameter_5 : decode cX1_hasDiameter 5 = .ok (.if_icmp .ge 80, 3) := by decide +kernel
theorem dX1_hasDiameter_8 : decode cX1_hasDiameter 8 = .ok (.iload_n 2, 1) := by decide +kernel
theorem dX1_hasDiameter_9 : decode cX1_hasDiameter 9 = .ok (.iconst 1, 1) := by decide +kernel
theorem dX1_hasDiameter_10 : decode cX1_hasDiameter 10 = .ok (.iadd, 1) := by decide +kernel
theorem dX1_hasDiameter_11 : decode cX1_hasDiameter 11 = .ok (.istore_n 3, 1) := by decide +kernel
theorem dX1_hasDiameter_12 : decode cX1_hasDiameter 12 = .ok (.iload_n 3, 1) := by decide +kernel
theorem dX1_hasDiameter_13 : decode cX1_hasDiameter 13 = .ok (.bipush 24, 2) := by decide +kernel
theorem dX1_hasDiameter_15 : decode cX1_hasDiameter 15 = .ok (.if_icmp .ge 64, 3) := by decide +kernel
theorem dX1_hasDiameter_18 : decode cX1_hasDiameter 18 = .ok (.iload_n 1, 1) := by decide +kernel
theorem dX1_hasDiameter_19 : decode cX1_hasDiameter 19 = .ok (.iload_n 2, 1) := by decide +kernel
theorem dX1_hasDiameter_20 : decode cX1_hasDiameter 20 = .ok (.invokestatic 36, 3) := by decide +kernel
theorem dX1_hasDiameter_23 : decode cX1_hasDiameter 23 = .ok (.ifCond .eq 50, 3) := by decide +kernel
theorem dX1_hasDiameter_26 : decode cX1_hasDiameter 26 = .ok (.iload_n 1, 1) := by decide +kernel
theorem dX1_hasDiameter_27 : decode cX1_hasDiameter 27 = .ok (.iload_n 3, 1) := by decide +kernel
theorem dX1_hasDiameter_28 : decode cX1_hasDiameter 28 = .ok (.invokestatic 36, 3) := by decide +kernel
theorem dX1_hasDiameter_31 : decode cX1_hasDiameter 31 = .ok (.ifCond .eq 42, 3) := by decide +kernel
theorem dX1_hasDiameter_34 : decode cX1_hasDiameter 34 = .ok (.aload_n 0, 1) := by decide +kernel
theorem dX1_hasDiameter_35 : decode cX1_hasDiameter 35 = .ok (.iload_n 2, 1) := by decide +kernel
theorem dX1_hasDiameter_36 : decode cX1_hasDiameter 36 = .ok (.iload_n 3, 1) := by decide +kernel
theorem dX1_hasDiameter_37 : decode cX1_hasDiameter 37 = .ok (.iload_n 1, 1) := by decide +kernel
theorem dX1_hasDiameter_38 : decode cX1_hasDiameter 38 = .ok (.invokevirtual 60, 3) := by decide +kernel
theorem dX1_hasDiameter_41 : decode cX1_hasDiameter 41 = .ok (.ifCond .eq 32, 3) := by decide +kernel
theorem dX1_hasDiameter_44 : decode cX1_hasDiameter 44 = .ok (.aload_n 0, 1) := by decide +kernel
theorem dX1_hasDiameter_45 : decode cX1_hasDiameter 45 = .ok (.iload_n 2, 1) := by decide +kernel
theorem dX1_hasDiameter_46 : decode cX1_hasDiameter 46 = .ok (.putfield 15, 3) := by decide +kernel
theorem dX1_hasDiameter_49 : decode cX1_hasDiameter 49 = .ok (.aload_n 0, 1) := by decide +kernel
theorem dX1_hasDiameter_50 : decode cX1_hasDiameter 50 = .ok (.iload_n 3, 1) := by decide +kernel
theorem dX1_hasDiameter_51 : decode cX1_hasDiameter 51 = .ok (.putfield 19, 3) := by decide +kernel
theorem dX1_hasDiameter_54 : decode cX1_hasDiameter 54 = .ok (.aload_n 0, 1) := by decide +kernel
theorem dX1_hasDiameter_55 : decode cX1_hasDiameter 55 = .ok (.aload_n 0, 1) := by decide +kernel
theorem dX1_hasDiameter_56 : decode cX1_hasDiameter 56 = .ok (.getfield 9, 3) := by decide +kernel
theorem dX1_hasDiameter_59 : decode cX1_hasDiameter 59 = .ok (.iload_n 2, 1) := by decide +kernel
theorem dX1_hasDiameter_60 : decode cX1_hasDiameter 60 = .ok (.iload_n 3, 1) := by decide +kernel
theorem dX1_hasDiameter_61 : decode cX1_hasDiameter 61 = .ok (.invokevirtual 64, 3) := by decide +kernel
theorem dX1_hasDiameter_64 : decode cX1_hasDiameter 64 = .ok (.i2l, 1) := by decide +kernel
theorem dX1_hasDiameter_65 : decode cX1_hasDiameter 65 = .ok (.ldc2_w 68, 3) := by decide +kernel
theorem dX1_hasDiameter_68 : decode cX1_hasDiameter 68 = .ok (.invokevirtual 70, 3) := by decide +kernel
theorem dX1_hasDiameter_71 : decode cX1_hasDiameter 71 = .ok (.iconst 1, 1) := by decide +kernel
theorem dX1_hasDiameter_72 : decode cX1_hasDiameter 72 = .ok (.ireturn, 1) := by decide +kernel
theorem dX1_hasDiameter_73 : decode cX1_hasDiameter 73 = .ok (.iinc 3 1, 3) := by decide +kernel
theorem dX1_hasDiameter_76 : decode cX1_hasDiameter 76 = .ok (.goto (-64), 3) := by decide +kernel
theorem dX1_hasDiameter_79 : decode cX1_hasDiameter 79 = .ok (.iinc 2 1, 3) := by decide +kernel
theorem dX1_hasDiameter_82 : decode cX1_hasDiameter 82 = .ok (.goto (-80), 3) := by decide +kernel
theorem dX1_hasDiameter_85 : decode cX1_hasDiameter 85 = .ok (.iconst 0, 1) := by decide +kernel
theorem dX1_hasDiameter_86 : decode cX1_hasDiameter 86 = .ok (.ireturn, 1) := by decide +kernel
theorem dX1_isDiameter_0 : decode cX1_isDiameter 0 = .ok (.iconst 0, 1) := by decide +kernel
theorem dX1_isDiameter_1 : decode cX1_isDiameter 1 = .ok (.istore 4, 2) := by decide +kernel
theorem dX1_isDiameter_3 : decode cX1_isDiameter 3 = .ok (.iload 4, 2) := by decide +kernel
theorem dX1_isDiameter_5 : decode cX1_isDiameter 5 = .ok (.bipush 24, 2) := by decide +kernel
theorem dX1_isDiameter_7 : decode cX1_isDiameter 7 = .ok (.if_icmp .ge 31, 3) := by decide +kernel
theorem dX1_isDiameter_10 : decode cX1_isDiameter 10 = .ok (.iload_n 3, 1) := by decide +kernel
theorem dX1_isDiameter_11 : decode cX1_isDiameter 11 = .ok (.iload 4, 2) := by decide +kernel
theorem dX1_isDiameter_13 : decode cX1_isDiameter 13 = .ok (.invokestatic 36, 3) := by decide +kernel
theorem dX1_isDiameter_16 : decode cX1_isDiameter 16 = .ok (.ifCond .eq 16, 3) := by decide +kernel
theorem dX1_isDiameter_19 : decode cX1_isDiameter 19 = .ok (.aload_n 0, 1) := by decide +kernel
theorem dX1_isDiameter_20 : decode cX1_isDiameter 20 = .ok (.iload 4, 2) := by decide +kernel
theorem dX1_isDiameter_22 : decode cX1_isDiameter 22 = .ok (.iload_n 1, 1) := by decide +kernel
theorem dX1_isDiameter_23 : decode cX1_isDiameter 23 = .ok (.iload_n 2, 1) := by decide +kernel
theorem dX1_isDiameter_24 : decode cX1_isDiameter 24 = .ok (.invokevirtual 74, 3) := by decide +kernel
theorem dX1_isDiameter_27 : decode cX1_isDiameter 27 = .ok (.ifCond .le 5, 3) := by decide +kernel
theorem dX1_isDiameter_30 : decode cX1_isDiameter 30 = .ok (.iconst 0, 1) := by decide +kernel
theorem dX1_isDiameter_31 : decode cX1_isDiameter 31 = .ok (.ireturn, 1) := by decide +kernel
theorem dX1_isDiameter_32 : decode cX1_isDiameter 32 = .ok (.iinc 4 1, 3) := by decide +kernel
theorem dX1_isDiameter_35 : decode cX1_isDiameter 35 = .ok (.goto (-32), 3) := by decide +kernel
theorem dX1_isDiameter_38 : decode cX1_isDiameter 38 = .ok (.iconst 1, 1) := by decide +kernel
theorem dX1_isDiameter_39 : decode cX1_isDiameter 39 = .ok (.ireturn, 1) := by decide +kernel
theorem dX1_findTriangle_0 : decode cX1_findTriangle 0 = .ok (.iconst 0, 1) := by decide +kernel
theorem dX1_findTriangle_1 : decode cX1_findTriangle 1 = .ok (.istore_n 2, 1) := by decide +kernel
theorem dX1_findTriangle_2 : decode cX1_findTriangle 2 = .ok (.iload_n 2, 1) := by decide +kernel
theorem dX1_findTriangle_3 : decode cX1_findTriangle 3 = .ok (.bipush 24, 2) := by decide +kernel
theorem dX1_findTriangle_5 : decode cX1_findTriangle 5 = .ok (.if_icmp .ge 181, 3) := by decide +kernel
theorem dX1_findTriangle_8 : decode cX1_findTriangle 8 = .ok (.iload_n 2, 1) := by decide +kernel
theorem dX1_findTriangle_9 : decode cX1_findTriangle 9 = .ok (.iconst 1, 1) := by decide +kernel
theorem dX1_findTriangle_10 : decode cX1_findTriangle 10 = .ok (.iadd, 1) := by decide +kernel
theorem dX1_findTriangle_11 : decode cX1_findTriangle 11 = .ok (.istore_n 3, 1) := by decide +kernel
theorem dX1_findTriangle_12 : decode cX1_findTriangle 12 = .ok (.iload_n 3, 1) := by decide +kernel
theorem dX1_findTriangle_13 : decode cX1_findTriangle 13 = .ok (.bipush 24, 2) := by decide +kernel
theorem dX1_findTriangle_15 : decode cX1_findTriangle 15 = .ok (.if_icmp .ge 165, 3) := by decide +kernel
theorem dX1_findTriangle_18 : decode cX1_findTriangle 18 = .ok (.iload_n 3, 1) := by decide +kernel
theorem dX1_findTriangle_19 : decode cX1_findTriangle 19 = .ok (.iconst 1, 1) := by decide +kernel
theorem dX1_findTriangle_20 : decode cX1_findTriangle 20 = .ok (.iadd, 1) := by decide +kernel
theorem dX1_findTriangle_21 : decode cX1_findTriangle 21 = .ok (.istore 4, 2) := by decide +kernel
theorem dX1_findTriangle_23 : decode cX1_findTriangle 23 = .ok (.iload 4, 2) := by decide +kernel
theorem dX1_findTriangle_25 : decode cX1_findTriangle 25 = .ok (.bipush 24, 2) := by decide +kernel
theorem dX1_findTriangle_27 : decode cX1_findTriangle 27 = .ok (.if_icmp .ge 147, 3) := by decide +kernel
theorem dX1_findTriangle_30 : decode cX1_findTriangle 30 = .ok (.iload_n 1, 1) := by decide +kernel
theorem dX1_findTriangle_31 : decode cX1_findTriangle 31 = .ok (.iload_n 2, 1) := by decide +kernel
theorem dX1_findTriangle_32 : decode cX1_findTriangle 32 = .ok (.invokestatic 36, 3) := by decide +kernel
theorem dX1_findTriangle_35 : decode cX1_findTriangle 35 = .ok (.ifCond .eq 24, 3) := by decide +kernel
theorem dX1_findTriangle_38 : decode cX1_findTriangle 38 = .ok (.iload_n 1, 1) := by decide +kernel
theorem dX1_findTriangle_39 : decode cX1_findTriangle 39 = .ok (.iload_n 3, 1) := by decide +kernel
theorem dX1_findTriangle_40 : decode cX1_findTriangle 40 = .ok (.invokestatic 36, 3) := by decide +kernel
theorem dX1_findTriangle_43 : decode cX1_findTriangle 43 = .ok (.ifCond .eq 16, 3) := by decide +kernel
theorem dX1_findTriangle_46 : decode cX1_findTriangle 46 = .ok (.iload_n 1, 1) := by decide +kernel
theorem dX1_findTriangle_47 : decode cX1_findTriangle 47 = .ok (.iload 4, 2) := by decide +kernel
theorem dX1_findTriangle_49 : decode cX1_findTriangle 49 = .ok (.invokestatic 36, 3) := by decide +kernel
theorem dX1_findTriangle_52 : decode cX1_findTriangle 52 = .ok (.ifCond .eq 7, 3) := by decide +kernel
theorem dX1_findTriangle_55 : decode cX1_findTriangle 55 = .ok (.iconst 1, 1) := by decide +kernel
theorem dX1_findTriangle_56 : decode cX1_findTriangle 56 = .ok (.goto 4, 3) := by decide +kernel
theorem dX1_findTriangle_59 : decode cX1_findTriangle 59 = .ok (.iconst 0, 1) := by decide +kernel
theorem dX1_findTriangle_60 : decode cX1_findTriangle 60 = .ok (.istore 5, 2) := by decide +kernel
theorem dX1_findTriangle_62 : decode cX1_findTriangle 62 = .ok (.iload 5, 2) := by decide +kernel
theorem dX1_findTriangle_64 : decode cX1_findTriangle 64 = .ok (.ifCond .eq 104, 3) := by decide +kernel
theorem dX1_findTriangle_67 : decode cX1_findTriangle 67 = .ok (.aload_n 0, 1) := by decide +kernel
theorem dX1_findTriangle_68 : decode cX1_findTriangle 68 = .ok (.iload_n 2, 1) := by decide +kernel
theorem dX1_findTriangle_69 : decode cX1_findTriangle 69 = .ok (.iload_n 3, 1) := by decide +kernel
theorem dX1_findTriangle_70 : decode cX1_findTriangle 70 = .ok (.iload 4, 2) := by decide +kernel
theorem dX1_findTriangle_72 : decode cX1_findTriangle 72 = .ok (.invokevirtual 77, 3) := by decide +kernel
theorem dX1_findTriangle_75 : decode cX1_findTriangle 75 = .ok (.ifCond .eq 93, 3) := by decide +kernel
theorem dX1_findTriangle_78 : decode cX1_findTriangle 78 = .ok (.aload_n 0, 1) := by decide +kernel
theorem dX1_findTriangle_79 : decode cX1_findTriangle 79 = .ok (.iload_n 2, 1) := by decide +kernel
theorem dX1_findTriangle_80 : decode cX1_findTriangle 80 = .ok (.iload_n 3, 1) := by decide +kernel
theorem dX1_findTriangle_81 : decode cX1_findTriangle 81 = .ok (.iload 4, 2) := by decide +kernel
theorem dX1_findTriangle_83 : decode cX1_findTriangle 83 = .ok (.iload_n 1, 1) := by decide +kernel
theorem dX1_findTriangle_84 : decode cX1_findTriangle 84 = .ok (.invokevirtual 80, 3) := by decide +kernel
theorem dX1_findTriangle_87 : decode cX1_findTriangle 87 = .ok (.ifCond .eq 81, 3) := by decide +kernel
theorem dX1_findTriangle_90 : decode cX1_findTriangle 90 = .ok (.aload_n 0, 1) := by decide +kernel
theorem dX1_findTriangle_91 : decode cX1_findTriangle 91 = .ok (.iload_n 2, 1) := by decide +kernel
theorem dX1_findTriangle_92 : decode cX1_findTriangle 92 = .ok (.putfield 15, 3) := by decide +kernel
theorem dX1_findTriangle_95 : decode cX1_findTriangle 95 = .ok (.aload_n 0, 1) := by decide +kernel
theorem dX1_findTriangle_96 : decode cX1_findTriangle 96 = .ok (.iload_n 3, 1) := by decide +kernel
theorem dX1_findTriangle_97 : decode cX1_findTriangle 97 = .ok (.putfield 19, 3) := by decide +kernel
theorem dX1_findTriangle_100 : decode cX1_findTriangle 100 = .ok (.aload_n 0, 1) := by decide +kernel
theorem dX1_findTriangle_101 : decode cX1_findTriangle 101 = .ok (.iload 4, 2) := by decide +kernel
theorem dX1_findTriangle_103 : decode cX1_findTriangle 103 = .ok (.putfield 22, 3) := by decide +kernel
theorem dX1_findTriangle_106 : decode cX1_findTriangle 106 = .ok (.aload_n 0, 1) := by decide +kernel
theorem dX1_findTriangle_107 : decode cX1_findTriangle 107 = .ok (.iload_n 2, 1) := by decide +kernel
theorem dX1_findTriangle_108 : decode cX1_findTriangle 108 = .ok (.iload_n 3, 1) := by decide +kernel
theorem dX1_findTriangle_109 : decode cX1_findTriangle 109 = .ok (.iload 4, 2) := by decide +kernel
theorem dX1_findTriangle_111 : decode cX1_findTriangle 111 = .ok (.invokevirtual 84, 3) := by decide +kernel
theorem dX1_findTriangle_114 : decode cX1_findTriangle 114 = .ok (.lstore 6, 2) := by decide +kernel
theorem dX1_findTriangle_116 : decode cX1_findTriangle 116 = .ok (.aload_n 0, 1) := by decide +kernel
theorem dX1_findTriangle_117 : decode cX1_findTriangle 117 = .ok (.getfield 9, 3) := by decide +kernel
theorem dX1_findTriangle_120 : decode cX1_findTriangle 120 = .ok (.iload_n 2, 1) := by decide +kernel
theorem dX1_findTriangle_121 : decode cX1_findTriangle 121 = .ok (.iload_n 3, 1) := by decide +kernel
theorem dX1_findTriangle_122 : decode cX1_findTriangle 122 = .ok (.invokevirtual 64, 3) := by decide +kernel
theorem dX1_findTriangle_125 : decode cX1_findTriangle 125 = .ok (.i2l, 1) := by decide +kernel
theorem dX1_findTriangle_126 : decode cX1_findTriangle 126 = .ok (.aload_n 0, 1) := by decide +kernel
theorem dX1_findTriangle_127 : decode cX1_findTriangle 127 = .ok (.getfield 9, 3) := by decide +kernel
theorem dX1_findTriangle_130 : decode cX1_findTriangle 130 = .ok (.iload_n 3, 1) := by decide +kernel
theorem dX1_findTriangle_131 : decode cX1_findTriangle 131 = .ok (.iload 4, 2) := by decide +kernel
theorem dX1_findTriangle_133 : decode cX1_findTriangle 133 = .ok (.invokevirtual 64, 3) := by decide +kernel
theorem dX1_findTriangle_136 : decode cX1_findTriangle 136 = .ok (.i2l, 1) := by decide +kernel
theorem dX1_findTriangle_137 : decode cX1_findTriangle 137 = .ok (.lmul, 1) := by decide +kernel
theorem dX1_findTriangle_138 : decode cX1_findTriangle 138 = .ok (.aload_n 0, 1) := by decide +kernel
theorem dX1_findTriangle_139 : decode cX1_findTriangle 139 = .ok (.getfield 9, 3) := by decide +kernel
theorem dX1_findTriangle_142 : decode cX1_findTriangle 142 = .ok (.iload 4, 2) := by decide +kernel
theorem dX1_findTriangle_144 : decode cX1_findTriangle 144 = .ok (.iload_n 2, 1) := by decide +kernel
theorem dX1_findTriangle_145 : decode cX1_findTriangle 145 = .ok (.invokevirtual 64, 3) := by decide +kernel
theorem dX1_findTriangle_148 : decode cX1_findTriangle 148 = .ok (.i2l, 1) := by decide +kernel
theorem dX1_findTriangle_149 : decode cX1_findTriangle 149 = .ok (.lmul, 1) := by decide +kernel
theorem dX1_findTriangle_150 : decode cX1_findTriangle 150 = .ok (.lstore 8, 2) := by decide +kernel
theorem dX1_findTriangle_152 : decode cX1_findTriangle 152 = .ok (.aload_n 0, 1) := by decide +kernel
theorem dX1_findTriangle_153 : decode cX1_findTriangle 153 = .ok (.lload 8, 2) := by decide +kernel
theorem dX1_findTriangle_155 : decode cX1_findTriangle 155 = .ok (.ldc2_w 68, 3) := by decide +kernel
theorem dX1_findTriangle_158 : decode cX1_findTriangle 158 = .ok (.lload 6, 2) := by decide +kernel
theorem dX1_findTriangle_160 : decode cX1_findTriangle 160 = .ok (.lmul, 1) := by decide +kernel
theorem dX1_findTriangle_161 : decode cX1_findTriangle 161 = .ok (.lload 6, 2) := by decide +kernel
theorem dX1_findTriangle_163 : decode cX1_findTriangle 163 = .ok (.lmul, 1) := by decide +kernel
theorem dX1_findTriangle_164 : decode cX1_findTriangle 164 = .ok (.invokevirtual 70, 3) := by decide +kernel
theorem dX1_findTriangle_167 : decode cX1_findTriangle 167 = .ok (.return_, 1) := by decide +kernel
theorem dX1_findTriangle_168 : decode cX1_findTriangle 168 = .ok (.iinc 4 1, 3) := by decide +kernel
theorem dX1_findTriangle_171 : decode cX1_findTriangle 171 = .ok (.goto (-148), 3) := by decide +kernel
theorem dX1_findTriangle_174 : decode cX1_findTriangle 174 = .ok (.iinc 3 1, 3) := by decide +kernel
theorem dX1_findTriangle_177 : decode cX1_findTriangle 177 = .ok (.goto (-165), 3) := by decide +kernel
theorem dX1_findTriangle_180 : decode cX1_findTriangle 180 = .ok (.iinc 2 1, 3) := by decide +kernel
theorem dX1_findTriangle_183 : decode cX1_findTriangle 183 = .ok (.goto (-181), 3) := by decide +kernel
theorem dX1_findTriangle_186 : decode cX1_findTriangle 186 = .ok (.return_, 1) := by decide +kernel
theorem dX1_isSharp_0 : decode cX1_isSharp 0 = .ok (.aload_n 0, 1) := by decide +kernel
theorem dX1_isSharp_1 : decode cX1_isSharp 1 = .ok (.iload_n 1, 1) := by decide +kernel
theorem dX1_isSharp_2 : decode cX1_isSharp 2 = .ok (.iload_n 2, 1) := by decide +kernel
theorem dX1_isSharp_3 : decode cX1_isSharp 3 = .ok (.iload_n 3, 1) := by decide +kernel
theorem dX1_isSharp_4 : decode cX1_isSharp 4 = .ok (.invokevirtual 84, 3) := by decide +kernel
theorem dX1_isSharp_7 : decode cX1_isSharp 7 = .ok (.lconst 0, 1) := by decide +kernel
theorem dX1_isSharp_8 : decode cX1_isSharp 8 = .ok (.lcmp, 1) := by decide +kernel
theorem dX1_isSharp_9 : decode cX1_isSharp 9 = .ok (.ifCond .eq 37, 3) := by decide +kernel
theorem dX1_isSharp_12 : decode cX1_isSharp 12 = .ok (.aload_n 0, 1) := by decide +kernel
theorem dX1_isSharp_13 : decode cX1_isSharp 13 = .ok (.iload_n 1, 1) := by decide +kernel
theorem dX1_isSharp_14 : decode cX1_isSharp 14 = .ok (.iload_n 2, 1) := by decide +kernel
theorem dX1_isSharp_15 : decode cX1_isSharp 15 = .ok (.iload_n 3, 1) := by decide +kernel
theorem dX1_isSharp_16 : decode cX1_isSharp 16 = .ok (.invokevirtual 74, 3) := by decide +kernel
theorem dX1_isSharp_19 : decode cX1_isSharp 19 = .ok (.ifCond .le 27, 3) := by decide +kernel
theorem dX1_isSharp_22 : decode cX1_isSharp 22 = .ok (.aload_n 0, 1) := by decide +kernel
theorem dX1_isSharp_23 : decode cX1_isSharp 23 = .ok (.iload_n 2, 1) := by decide +kernel
theorem dX1_isSharp_24 : decode cX1_isSharp 24 = .ok (.iload_n 3, 1) := by decide +kernel
theorem dX1_isSharp_25 : decode cX1_isSharp 25 = .ok (.iload_n 1, 1) := by decide +kernel
theorem dX1_isSharp_26 : decode cX1_isSharp 26 = .ok (.invokevirtual 74, 3) := by decide +kernel
theorem dX1_isSharp_29 : decode cX1_isSharp 29 = .ok (.ifCond .le 17, 3) := by decide +kernel
theorem dX1_isSharp_32 : decode cX1_isSharp 32 = .ok (.aload_n 0, 1) := by decide +kernel
theorem dX1_isSharp_33 : decode cX1_isSharp 33 = .ok (.iload_n 3, 1) := by decide +kernel
theorem dX1_isSharp_34 : decode cX1_isSharp 34 = .ok (.iload_n 1, 1) := by decide +kernel
theorem dX1_isSharp_35 : decode cX1_isSharp 35 = .ok (.iload_n 2, 1) := by decide +kernel
theorem dX1_isSharp_36 : decode cX1_isSharp 36 = .ok (.invokevirtual 74, 3) := by decide +kernel
theorem dX1_isSharp_39 : decode cX1_isSharp 39 = .ok (.ifCond .le 7, 3) := by decide +kernel
theorem dX1_isSharp_42 : decode cX1_isSharp 42 = .ok (.iconst 1, 1) := by decide +kernel
theorem dX1_isSharp_43 : decode cX1_isSharp 43 = .ok (.goto 4, 3) := by decide +kernel
theorem dX1_isSharp_46 : decode cX1_isSharp 46 = .ok (.iconst 0, 1) := by decide +kernel
theorem dX1_isSharp_47 : decode cX1_isSharp 47 = .ok (.ireturn, 1) := by decide +kernel
theorem dX1_isAround_0 : decode cX1_isAround 0 = .ok (.aload_n 0, 1) := by decide +kernel
theorem dX1_isAround_1 : decode cX1_isAround 1 = .ok (.iload_n 1, 1) := by decide +kernel
theorem dX1_isAround_2 : decode cX1_isAround 2 = .ok (.iload_n 2, 1) := by decide +kernel
theorem dX1_isAround_3 : decode cX1_isAround 3 = .ok (.iload_n 3, 1) := by decide +kernel
theorem dX1_isAround_4 : decode cX1_isAround 4 = .ok (.invokevirtual 84, 3) := by decide +kernel
theorem dX1_isAround_7 : decode cX1_isAround 7 = .ok (.lstore 5, 2) := by decide +kernel
theorem dX1_isAround_9 : decode cX1_isAround 9 = .ok (.iconst 0, 1) := by decide +kernel
theorem dX1_isAround_10 : decode cX1_isAround 10 = .ok (.istore 7, 2) := by decide +kernel
theorem dX1_isAround_12 : decode cX1_isAround 12 = .ok (.iload 7, 2) := by decide +kernel
theorem dX1_isAround_14 : decode cX1_isAround 14 = .ok (.bipush 24, 2) := by decide +kernel
theorem dX1_isAround_16 : decode cX1_isAround 16 = .ok (.if_icmp .ge 109, 3) := by decide +kernel
theorem dX1_isAround_19 : decode cX1_isAround 19 = .ok (.iload 4, 2) := by decide +kernel
theorem dX1_isAround_21 : decode cX1_isAround 21 = .ok (.iload 7, 2) := by decide +kernel
theorem dX1_isAround_23 : decode cX1_isAround 23 = .ok (.invokestatic 36, 3) := by decide +kernel
theorem dX1_isAround_26 : decode cX1_isAround 26 = .ok (.ifCond .eq 93, 3) := by decide +kernel
theorem dX1_isAround_29 : decode cX1_isAround 29 = .ok (.aload_n 0, 1) := by decide +kernel
theorem dX1_isAround_30 : decode cX1_isAround 30 = .ok (.getfield 9, 3) := by decide +kernel
theorem dX1_isAround_33 : decode cX1_isAround 33 = .ok (.iload_n 1, 1) := by decide +kernel
theorem dX1_isAround_34 : decode cX1_isAround 34 = .ok (.iload 7, 2) := by decide +kernel
theorem dX1_isAround_36 : decode cX1_isAround 36 = .ok (.invokevirtual 64, 3) := by decide +kernel
theorem dX1_isAround_39 : decode cX1_isAround 39 = .ok (.i2l, 1) := by decide +kernel
theorem dX1_isAround_40 : decode cX1_isAround 40 = .ok (.aload_n 0, 1) := by decide +kernel
theorem dX1_isAround_41 : decode cX1_isAround 41 = .ok (.iload 7, 2) := by decide +kernel
theorem dX1_isAround_43 : decode cX1_isAround 43 = .ok (.iload_n 2, 1) := by decide +kernel
theorem dX1_isAround_44 : decode cX1_isAround 44 = .ok (.iload_n 3, 1) := by decide +kernel
theorem dX1_isAround_45 : decode cX1_isAround 45 = .ok (.invokevirtual 84, 3) := by decide +kernel
theorem dX1_isAround_48 : decode cX1_isAround 48 = .ok (.lmul, 1) := by decide +kernel
theorem dX1_isAround_49 : decode cX1_isAround 49 = .ok (.aload_n 0, 1) := by decide +kernel
theorem dX1_isAround_50 : decode cX1_isAround 50 = .ok (.getfield 9, 3) := by decide +kernel
theorem dX1_isAround_53 : decode cX1_isAround 53 = .ok (.iload_n 2, 1) := by decide +kernel
theorem dX1_isAround_54 : decode cX1_isAround 54 = .ok (.iload 7, 2) := by decide +kernel
theorem dX1_isAround_56 : decode cX1_isAround 56 = .ok (.invokevirtual 64, 3) := by decide +kernel
theorem dX1_isAround_59 : decode cX1_isAround 59 = .ok (.i2l, 1) := by decide +kernel
theorem dX1_isAround_60 : decode cX1_isAround 60 = .ok (.aload_n 0, 1) := by decide +kernel
theorem dX1_isAround_61 : decode cX1_isAround 61 = .ok (.iload 7, 2) := by decide +kernel
theorem dX1_isAround_63 : decode cX1_isAround 63 = .ok (.iload_n 3, 1) := by decide +kernel
theorem dX1_isAround_64 : decode cX1_isAround 64 = .ok (.iload_n 1, 1) := by decide +kernel
theorem dX1_isAround_65 : decode cX1_isAround 65 = .ok (.invokevirtual 84, 3) := by decide +kernel
theorem dX1_isAround_68 : decode cX1_isAround 68 = .ok (.lmul, 1) := by decide +kernel
theorem dX1_isAround_69 : decode cX1_isAround 69 = .ok (.ladd, 1) := by decide +kernel
theorem dX1_isAround_70 : decode cX1_isAround 70 = .ok (.aload_n 0, 1) := by decide +kernel
theorem dX1_isAround_71 : decode cX1_isAround 71 = .ok (.getfield 9, 3) := by decide +kernel
theorem dX1_isAround_74 : decode cX1_isAround 74 = .ok (.iload_n 3, 1) := by decide +kernel
theorem dX1_isAround_75 : decode cX1_isAround 75 = .ok (.iload 7, 2) := by decide +kernel
theorem dX1_isAround_77 : decode cX1_isAround 77 = .ok (.invokevirtual 64, 3) := by decide +kernel
theorem dX1_isAround_80 : decode cX1_isAround 80 = .ok (.i2l, 1) := by decide +kernel
theorem dX1_isAround_81 : decode cX1_isAround 81 = .ok (.aload_n 0, 1) := by decide +kernel
theorem dX1_isAround_82 : decode cX1_isAround 82 = .ok (.iload 7, 2) := by decide +kernel
theorem dX1_isAround_84 : decode cX1_isAround 84 = .ok (.iload_n 1, 1) := by decide +kernel
theorem dX1_isAround_85 : decode cX1_isAround 85 = .ok (.iload_n 2, 1) := by decide +kernel
theorem dX1_isAround_86 : decode cX1_isAround 86 = .ok (.invokevirtual 84, 3) := by decide +kernel
theorem dX1_isAround_89 : decode cX1_isAround 89 = .ok (.lmul, 1) := by decide +kernel
theorem dX1_isAround_90 : decode cX1_isAround 90 = .ok (.ladd, 1) := by decide +kernel
theorem dX1_isAround_91 : decode cX1_isAround 91 = .ok (.lstore 8, 2) := by decide +kernel
theorem dX1_isAround_93 : decode cX1_isAround 93 = .ok (.lload 5, 2) := by decide +kernel
theorem dX1_isAround_95 : decode cX1_isAround 95 = .ok (.lconst 0, 1) := by decide +kernel
theorem dX1_isAround_96 : decode cX1_isAround 96 = .ok (.lcmp, 1) := by decide +kernel
theorem dX1_isAround_97 : decode cX1_isAround 97 = .ok (.ifCond .le 13, 3) := by decide +kernel
theorem dX1_isAround_100 : decode cX1_isAround 100 = .ok (.lload 8, 2) := by decide +kernel
theorem dX1_isAround_102 : decode cX1_isAround 102 = .ok (.lconst 0, 1) := by decide +kernel
theorem dX1_isAround_103 : decode cX1_isAround 103 = .ok (.lcmp, 1) := by decide +kernel
theorem dX1_isAround_104 : decode cX1_isAround 104 = .ok (.ifCond .ge 15, 3) := by decide +kernel
theorem dX1_isAround_107 : decode cX1_isAround 107 = .ok (.goto 10, 3) := by decide +kernel
theorem dX1_isAround_110 : decode cX1_isAround 110 = .ok (.lload 8, 2) := by decide +kernel
theorem dX1_isAround_112 : decode cX1_isAround 112 = .ok (.lconst 0, 1) := by decide +kernel
theorem dX1_isAround_113 : decode cX1_isAround 113 = .ok (.lcmp, 1) := by decide +kernel
theorem dX1_isAround_114 : decode cX1_isAround 114 = .ok (.ifCond .le 5, 3) := by decide +kernel
theorem dX1_isAround_117 : decode cX1_isAround 117 = .ok (.iconst 0, 1) := by decide +kernel
theorem dX1_isAround_118 : decode cX1_isAround 118 = .ok (.ireturn, 1) := by decide +kernel
theorem dX1_isAround_119 : decode cX1_isAround 119 = .ok (.iinc 7 1, 3) := by decide +kernel
theorem dX1_isAround_122 : decode cX1_isAround 122 = .ok (.goto (-110), 3) := by decide +kernel
theorem dX1_isAround_125 : decode cX1_isAround 125 = .ok (.iconst 1, 1) := by decide +kernel
theorem dX1_isAround_126 : decode cX1_isAround 126 = .ok (.ireturn, 1) := by decide +kernel
theorem dX1_corner_0 : decode cX1_corner 0 = .ok (.aload_n 0, 1) := by decide +kernel
theorem dX1_corner_1 : decode cX1_corner 1 = .ok (.getfield 9, 3) := by decide +kernel
theorem dX1_corner_4 : decode cX1_corner 4 = .ok (.iload_n 2, 1) := by decide +kernel
theorem dX1_corner_5 : decode cX1_corner 5 = .ok (.invokevirtual 40, 3) := by decide +kernel
theorem dX1_corner_8 : decode cX1_corner 8 = .ok (.aload_n 0, 1) := by decide +kernel
theorem dX1_corner_9 : decode cX1_corner 9 = .ok (.getfield 9, 3) := by decide +kernel
theorem dX1_corner_12 : decode cX1_corner 12 = .ok (.iload_n 1, 1) := by decide +kernel
theorem dX1_corner_13 : decode cX1_corner 13 = .ok (.invokevirtual 40, 3) := by decide +kernel
theorem dX1_corner_16 : decode cX1_corner 16 = .ok (.isub, 1) := by decide +kernel
theorem dX1_corner_17 : decode cX1_corner 17 = .ok (.aload_n 0, 1) := by decide +kernel
theorem dX1_corner_18 : decode cX1_corner 18 = .ok (.getfield 9, 3) := by decide +kernel
theorem dX1_corner_21 : decode cX1_corner 21 = .ok (.iload_n 3, 1) := by decide +kernel
theorem dX1_corner_22 : decode cX1_corner 22 = .ok (.invokevirtual 40, 3) := by decide +kernel
theorem dX1_corner_25 : decode cX1_corner 25 = .ok (.aload_n 0, 1) := by decide +kernel
theorem dX1_corner_26 : decode cX1_corner 26 = .ok (.getfield 9, 3) := by decide +kernel
theorem dX1_corner_29 : decode cX1_corner 29 = .ok (.iload_n 1, 1) := by decide +kernel
theorem dX1_corner_30 : decode cX1_corner 30 = .ok (.invokevirtual 40, 3) := by decide +kernel
theorem dX1_corner_33 : decode cX1_corner 33 = .ok (.isub, 1) := by decide +kernel
theorem dX1_corner_34 : decode cX1_corner 34 = .ok (.imul, 1) := by decide +kernel
theorem dX1_corner_35 : decode cX1_corner 35 = .ok (.aload_n 0, 1) := by decide +kernel
theorem dX1_corner_36 : decode cX1_corner 36 = .ok (.getfield 9, 3) := by decide +kernel
theorem dX1_corner_39 : decode cX1_corner 39 = .ok (.iload_n 2, 1) := by decide +kernel
theorem dX1_corner_40 : decode cX1_corner 40 = .ok (.invokevirtual 46, 3) := by decide +kernel
theorem dX1_corner_43 : decode cX1_corner 43 = .ok (.aload_n 0, 1) := by decide +kernel
theorem dX1_corner_44 : decode cX1_corner 44 = .ok (.getfield 9, 3) := by decide +kernel
theorem dX1_corner_47 : decode cX1_corner 47 = .ok (.iload_n 1, 1) := by decide +kernel
theorem dX1_corner_48 : decode cX1_corner 48 = .ok (.invokevirtual 46, 3) := by decide +kernel
theorem dX1_corner_51 : decode cX1_corner 51 = .ok (.isub, 1) := by decide +kernel
theorem dX1_corner_52 : decode cX1_corner 52 = .ok (.aload_n 0, 1) := by decide +kernel
theorem dX1_corner_53 : decode cX1_corner 53 = .ok (.getfield 9, 3) := by decide +kernel
theorem dX1_corner_56 : decode cX1_corner 56 = .ok (.iload_n 3, 1) := by decide +kernel
theorem dX1_corner_57 : decode cX1_corner 57 = .ok (.invokevirtual 46, 3) := by decide +kernel
theorem dX1_corner_60 : decode cX1_corner 60 = .ok (.aload_n 0, 1) := by decide +kernel
theorem dX1_corner_61 : decode cX1_corner 61 = .ok (.getfield 9, 3) := by decide +kernel
theorem dX1_corner_64 : decode cX1_corner 64 = .ok (.iload_n 1, 1) := by decide +kernel
theorem dX1_corner_65 : decode cX1_corner 65 = .ok (.invokevirtual 46, 3) := by decide +kernel
theorem dX1_corner_68 : decode cX1_corner 68 = .ok (.isub, 1) := by decide +kernel
theorem dX1_corner_69 : decode cX1_corner 69 = .ok (.imul, 1) := by decide +kernel
theorem dX1_corner_70 : decode cX1_corner 70 = .ok (.iadd, 1) := by decide +kernel
theorem dX1_corner_71 : decode cX1_corner 71 = .ok (.ireturn, 1) := by decide +kernel
theorem dX1_turn_0 : decode cX1_turn 0 = .ok (.aload_n 0, 1) := by decide +kernel
theorem dX1_turn_1 : decode cX1_turn 1 = .ok (.getfield 9, 3) := by decide +kernel
theorem dX1_turn_4 : decode cX1_turn 4 = .ok (.iload_n 2, 1) := by decide +kernel
theorem dX1_turn_5 : decode cX1_turn 5 = .ok (.invokevirtual 40, 3) := by decide +kernel
theorem dX1_turn_8 : decode cX1_turn 8 = .ok (.aload_n 0, 1) := by decide +kernel
theorem dX1_turn_9 : decode cX1_turn 9 = .ok (.getfield 9, 3) := by decide +kernel
theorem dX1_turn_12 : decode cX1_turn 12 = .ok (.iload_n 1, 1) := by decide +kernel
theorem dX1_turn_13 : decode cX1_turn 13 = .ok (.invokevirtual 40, 3) := by decide +kernel
theorem dX1_turn_16 : decode cX1_turn 16 = .ok (.isub, 1) := by decide +kernel
theorem dX1_turn_17 : decode cX1_turn 17 = .ok (.i2l, 1) := by decide +kernel
theorem dX1_turn_18 : decode cX1_turn 18 = .ok (.aload_n 0, 1) := by decide +kernel
theorem dX1_turn_19 : decode cX1_turn 19 = .ok (.getfield 9, 3) := by decide +kernel
theorem dX1_turn_22 : decode cX1_turn 22 = .ok (.iload_n 3, 1) := by decide +kernel
theorem dX1_turn_23 : decode cX1_turn 23 = .ok (.invokevirtual 46, 3) := by decide +kernel
theorem dX1_turn_26 : decode cX1_turn 26 = .ok (.aload_n 0, 1) := by decide +kernel
theorem dX1_turn_27 : decode cX1_turn 27 = .ok (.getfield 9, 3) := by decide +kernel
theorem dX1_turn_30 : decode cX1_turn 30 = .ok (.iload_n 1, 1) := by decide +kernel
theorem dX1_turn_31 : decode cX1_turn 31 = .ok (.invokevirtual 46, 3) := by decide +kernel
theorem dX1_turn_34 : decode cX1_turn 34 = .ok (.isub, 1) := by decide +kernel
theorem dX1_turn_35 : decode cX1_turn 35 = .ok (.i2l, 1) := by decide +kernel
theorem dX1_turn_36 : decode cX1_turn 36 = .ok (.lmul, 1) := by decide +kernel
theorem dX1_turn_37 : decode cX1_turn 37 = .ok (.aload_n 0, 1) := by decide +kernel
theorem dX1_turn_38 : decode cX1_turn 38 = .ok (.getfield 9, 3) := by decide +kernel
theorem dX1_turn_41 : decode cX1_turn 41 = .ok (.iload_n 2, 1) := by decide +kernel
theorem dX1_turn_42 : decode cX1_turn 42 = .ok (.invokevirtual 46, 3) := by decide +kernel
theorem dX1_turn_45 : decode cX1_turn 45 = .ok (.aload_n 0, 1) := by decide +kernel
theorem dX1_turn_46 : decode cX1_turn 46 = .ok (.getfield 9, 3) := by decide +kernel
theorem dX1_turn_49 : decode cX1_turn 49 = .ok (.iload_n 1, 1) := by decide +kernel
theorem dX1_turn_50 : decode cX1_turn 50 = .ok (.invokevirtual 46, 3) := by decide +kernel
theorem dX1_turn_53 : decode cX1_turn 53 = .ok (.isub, 1) := by decide +kernel
theorem dX1_turn_54 : decode cX1_turn 54 = .ok (.i2l, 1) := by decide +kernel
theorem dX1_turn_55 : decode cX1_turn 55 = .ok (.aload_n 0, 1) := by decide +kernel
theorem dX1_turn_56 : decode cX1_turn 56 = .ok (.getfield 9, 3) := by decide +kernel
theorem dX1_turn_59 : decode cX1_turn 59 = .ok (.iload_n 3, 1) := by decide +kernel
theorem dX1_turn_60 : decode cX1_turn 60 = .ok (.invokevirtual 40, 3) := by decide +kernel
theorem dX1_turn_63 : decode cX1_turn 63 = .ok (.aload_n 0, 1) := by decide +kernel
theorem dX1_turn_64 : decode cX1_turn 64 = .ok (.getfield 9, 3) := by decide +kernel
theorem dX1_turn_67 : decode cX1_turn 67 = .ok (.iload_n 1, 1) := by decide +kernel
theorem dX1_turn_68 : decode cX1_turn 68 = .ok (.invokevirtual 40, 3) := by decide +kernel
theorem dX1_turn_71 : decode cX1_turn 71 = .ok (.isub, 1) := by decide +kernel
theorem dX1_turn_72 : decode cX1_turn 72 = .ok (.i2l, 1) := by decide +kernel
theorem dX1_turn_73 : decode cX1_turn 73 = .ok (.lmul, 1) := by decide +kernel
theorem dX1_turn_74 : decode cX1_turn 74 = .ok (.lsub, 1) := by decide +kernel
theorem dX1_turn_75 : decode cX1_turn 75 = .ok (.lreturn, 1) := by decide +kernel
theorem dX1_reduce_0 : decode cX1_reduce 0 = .ok (.lload_n 1, 1) := by decide +kernel
theorem dX1_reduce_1 : decode cX1_reduce 1 = .ok (.lstore 5, 2) := by decide +kernel
theorem dX1_reduce_3 : decode cX1_reduce 3 = .ok (.lload_n 3, 1) := by decide +kernel
theorem dX1_reduce_4 : decode cX1_reduce 4 = .ok (.lstore 7, 2) := by decide +kernel
theorem dX1_reduce_6 : decode cX1_reduce 6 = .ok (.iconst 0, 1) := by decide +kernel
theorem dX1_reduce_7 : decode cX1_reduce 7 = .ok (.istore 9, 2) := by decide +kernel
theorem dX1_reduce_9 : decode cX1_reduce 9 = .ok (.iload 9, 2) := by decide +kernel
theorem dX1_reduce_11 : decode cX1_reduce 11 = .ok (.sipush 1000, 3) := by decide +kernel
theorem dX1_reduce_14 : decode cX1_reduce 14 = .ok (.if_icmp .ge 31, 3) := by decide +kernel
theorem dX1_reduce_17 : decode cX1_reduce 17 = .ok (.lload 7, 2) := by decide +kernel
theorem dX1_reduce_19 : decode cX1_reduce 19 = .ok (.lconst 0, 1) := by decide +kernel
theorem dX1_reduce_20 : decode cX1_reduce 20 = .ok (.lcmp, 1) := by decide +kernel
theorem dX1_reduce_21 : decode cX1_reduce 21 = .ok (.ifCond .eq 24, 3) := by decide +kernel
theorem dX1_reduce_24 : decode cX1_reduce 24 = .ok (.lload 5, 2) := by decide +kernel
theorem dX1_reduce_26 : decode cX1_reduce 26 = .ok (.lload 7, 2) := by decide +kernel
theorem dX1_reduce_28 : decode cX1_reduce 28 = .ok (.lrem, 1) := by decide +kernel
theorem dX1_reduce_29 : decode cX1_reduce 29 = .ok (.lstore 10, 2) := by decide +kernel
theorem dX1_reduce_31 : decode cX1_reduce 31 = .ok (.lload 7, 2) := by decide +kernel
theorem dX1_reduce_33 : decode cX1_reduce 33 = .ok (.lstore 5, 2) := by decide +kernel
theorem dX1_reduce_35 : decode cX1_reduce 35 = .ok (.lload 10, 2) := by decide +kernel
theorem dX1_reduce_37 : decode cX1_reduce 37 = .ok (.lstore 7, 2) := by decide +kernel
theorem dX1_reduce_39 : decode cX1_reduce 39 = .ok (.iinc 9 1, 3) := by decide +kernel
theorem dX1_reduce_42 : decode cX1_reduce 42 = .ok (.goto (-33), 3) := by decide +kernel
theorem dX1_reduce_45 : decode cX1_reduce 45 = .ok (.aload_n 0, 1) := by decide +kernel
theorem dX1_reduce_46 : decode cX1_reduce 46 = .ok (.lload 5, 2) := by decide +kernel
theorem dX1_reduce_48 : decode cX1_reduce 48 = .ok (.lconst 0, 1) := by decide +kernel
theorem dX1_reduce_49 : decode cX1_reduce 49 = .ok (.lcmp, 1) := by decide +kernel
theorem dX1_reduce_50 : decode cX1_reduce 50 = .ok (.ifCond .ne 7, 3) := by decide +kernel
theorem dX1_reduce_53 : decode cX1_reduce 53 = .ok (.lload_n 1, 1) := by decide +kernel
theorem dX1_reduce_54 : decode cX1_reduce 54 = .ok (.goto 7, 3) := by decide +kernel
theorem dX1_reduce_57 : decode cX1_reduce 57 = .ok (.lload_n 1, 1) := by decide +kernel
theorem dX1_reduce_58 : decode cX1_reduce 58 = .ok (.lload 5, 2) := by decide +kernel
theorem dX1_reduce_60 : decode cX1_reduce 60 = .ok (.ldiv, 1) := by decide +kernel
theorem dX1_reduce_61 : decode cX1_reduce 61 = .ok (.putfield 53, 3) := by decide +kernel
theorem dX1_reduce_64 : decode cX1_reduce 64 = .ok (.aload_n 0, 1) := by decide +kernel
theorem dX1_reduce_65 : decode cX1_reduce 65 = .ok (.lload 5, 2) := by decide +kernel
theorem dX1_reduce_67 : decode cX1_reduce 67 = .ok (.lconst 0, 1) := by decide +kernel
theorem dX1_reduce_68 : decode cX1_reduce 68 = .ok (.lcmp, 1) := by decide +kernel
theorem dX1_reduce_69 : decode cX1_reduce 69 = .ok (.ifCond .ne 7, 3) := by decide +kernel
theorem dX1_reduce_72 : decode cX1_reduce 72 = .ok (.lload_n 3, 1) := by decide +kernel
theorem dX1_reduce_73 : decode cX1_reduce 73 = .ok (.goto 7, 3) := by decide +kernel
theorem dX1_reduce_76 : decode cX1_reduce 76 = .ok (.lload_n 3, 1) := by decide +kernel
theorem dX1_reduce_77 : decode cX1_reduce 77 = .ok (.lload 5, 2) := by decide +kernel
theorem dX1_reduce_79 : decode cX1_reduce 79 = .ok (.ldiv, 1) := by decide +kernel
theorem dX1_reduce_80 : decode cX1_reduce 80 = .ok (.putfield 57, 3) := by decide +kernel
theorem dX1_reduce_83 : decode cX1_reduce 83 = .ok (.return_, 1) := by decide +kernel
theorem dX2_init_0 : decode cX2_init 0 = .ok (.aload_n 0, 1) := by decide +kernel
theorem dX2_init_1 : decode cX2_init 1 = .ok (.invokespecial 3, 3) := by decide +kernel
theorem dX2_init_4 : decode cX2_init 4 = .ok (.aload_n 0, 1) := by decide +kernel
theorem dX2_init_5 : decode cX2_init 5 = .ok (.sipush 576, 3) := by decide +kernel
theorem dX2_init_8 : decode cX2_init 8 = .ok (.newarray .int, 2) := by decide +kernel
theorem dX2_init_10 : decode cX2_init 10 = .ok (.putfield 11, 3) := by decide +kernel
theorem dX2_init_13 : decode cX2_init 13 = .ok (.aload_n 0, 1) := by decide +kernel
theorem dX2_init_14 : decode cX2_init 14 = .ok (.aload_n 1, 1) := by decide +kernel
theorem dX2_init_15 : decode cX2_init 15 = .ok (.putfield 15, 3) := by decide +kernel
theorem dX2_init_18 : decode cX2_init 18 = .ok (.return_, 1) := by decide +kernel
theorem dX2_fill_0 : decode cX2_fill 0 = .ok (.aload_n 0, 1) := by decide +kernel
theorem dX2_fill_1 : decode cX2_fill 1 = .ok (.iload_n 1, 1) := by decide +kernel
theorem dX2_fill_2 : decode cX2_fill 2 = .ok (.putfield 19, 3) := by decide +kernel
theorem dX2_fill_5 : decode cX2_fill 5 = .ok (.aload_n 0, 1) := by decide +kernel
theorem dX2_fill_6 : decode cX2_fill 6 = .ok (.iconst 0, 1) := by decide +kernel
theorem dX2_fill_7 : decode cX2_fill 7 = .ok (.putfield 23, 3) := by decide +kernel
theorem dX2_fill_10 : decode cX2_fill 10 = .ok (.aload_n 0, 1) := by decide +kernel
theorem dX2_fill_11 : decode cX2_fill 11 = .ok (.getfield 11, 3) := by decide +kernel
theorem dX2_fill_14 : decode cX2_fill 14 = .ok (.iconst 0, 1) := by decide +kernel
theorem dX2_fill_15 : decode cX2_fill 15 = .ok (.invokestatic 26, 3) := by decide +kernel
theorem dX2_fill_18 : decode cX2_fill 18 = .ok (.iconst 0, 1) := by decide +kernel
theorem dX2_fill_19 : decode cX2_fill 19 = .ok (.istore_n 3, 1) := by decide +kernel
theorem dX2_fill_20 : decode cX2_fill 20 = .ok (.iload_n 3, 1) := by decide +kernel
theorem dX2_fill_21 : decode cX2_fill 21 = .ok (.bipush 24, 2) := by decide +kernel
theorem dX2_fill_23 : decode cX2_fill 23 = .ok (.if_icmp .ge 22, 3) := by decide +kernel
theorem dX2_fill_26 : decode cX2_fill 26 = .ok (.iload_n 2, 1) := by decide +kernel
theorem dX2_fill_27 : decode cX2_fill 27 = .ok (.iload_n 3, 1) := by decide +kernel
theorem dX2_fill_28 : decode cX2_fill 28 = .ok (.invokestatic 32, 3) := by decide +kernel
theorem dX2_fill_31 : decode cX2_fill 31 = .ok (.ifCond .eq 8, 3) := by decide +kernel
theorem dX2_fill_34 : decode cX2_fill 34 = .ok (.aload_n 0, 1) := by decide +kernel
theorem dX2_fill_35 : decode cX2_fill 35 = .ok (.iload_n 3, 1) := by decide +kernel
theorem dX2_fill_36 : decode cX2_fill 36 = .ok (.invokevirtual 36, 3) := by decide +kernel
theorem dX2_fill_39 : decode cX2_fill 39 = .ok (.iinc 3 1, 3) := by decide +kernel
theorem dX2_fill_42 : decode cX2_fill 42 = .ok (.goto (-22), 3) := by decide +kernel
theorem dX2_fill_45 : decode cX2_fill 45 = .ok (.return_, 1) := by decide +kernel
theorem dX2_add_0 : decode cX2_add 0 = .ok (.iload_n 1, 1) := by decide +kernel
theorem dX2_add_1 : decode cX2_add 1 = .ok (.invokestatic 40, 3) := by decide +kernel
theorem dX2_add_4 : decode cX2_add 4 = .ok (.ifCond .ne 4, 3) := by decide +kernel
theorem dX2_add_7 : decode cX2_add 7 = .ok (.return_, 1) := by decide +kernel
theorem dX2_add_8 : decode cX2_add 8 = .ok (.aload_n 0, 1) := by decide +kernel
theorem dX2_add_9 : decode cX2_add 9 = .ok (.dup, 1) := by decide +kernel
theorem dX2_add_10 : decode cX2_add 10 = .ok (.getfield 23, 3) := by decide +kernel
theorem dX2_add_13 : decode cX2_add 13 = .ok (.iconst 1, 1) := by decide +kernel
theorem dX2_add_14 : decode cX2_add 14 = .ok (.iload_n 1, 1) := by decide +kernel
theorem dX2_add_15 : decode cX2_add 15 = .ok (.ishl, 1) := by decide +kernel
theorem dX2_add_16 : decode cX2_add 16 = .ok (.ior, 1) := by decide +kernel
theorem dX2_add_17 : decode cX2_add 17 = .ok (.putfield 23, 3) := by decide +kernel
theorem dX2_add_20 : decode cX2_add 20 = .ok (.aload_n 0, 1) := by decide +kernel
theorem dX2_add_21 : decode cX2_add 21 = .ok (.getfield 23, 3) := by decide +kernel
theorem dX2_add_24 : decode cX2_add 24 = .ok (.aload_n 0, 1) := by decide +kernel
theorem dX2_add_25 : decode cX2_add 25 = .ok (.getfield 15, 3) := by decide +kernel
theorem dX2_add_28 : decode cX2_add 28 = .ok (.aload_n 0, 1) := by decide +kernel
theorem dX2_add_29 : decode cX2_add 29 = .ok (.getfield 15, 3) := by decide +kernel
theorem dX2_add_32 : decode cX2_add 32 = .ok (.getfield 44, 3) := by decide +kernel
theorem dX2_add_35 : decode cX2_add 35 = .ok (.iload_n 1, 1) := by decide +kernel
theorem dX2_add_36 : decode cX2_add 36 = .ok (.iaload, 1) := by decide +kernel
theorem dX2_add_37 : decode cX2_add 37 = .ok (.aload_n 0, 1) := by decide +kernel
theorem dX2_add_38 : decode cX2_add 38 = .ok (.getfield 15, 3) := by decide +kernel
theorem dX2_add_41 : decode cX2_add 41 = .ok (.getfield 49, 3) := by decide +kernel
theorem dX2_add_44 : decode cX2_add 44 = .ok (.iload_n 1, 1) := by decide +kernel
theorem dX2_add_45 : decode cX2_add 45 = .ok (.iaload, 1) := by decide +kernel
theorem dX2_add_46 : decode cX2_add 46 = .ok (.iconst 2, 1) := by decide +kernel
theorem dX2_add_47 : decode cX2_add 47 = .ok (.aload_n 0, 1) := by decide +kernel
theorem dX2_add_48 : decode cX2_add 48 = .ok (.getfield 19, 3) := by decide +kernel
theorem dX2_add_51 : decode cX2_add 51 = .ok (.imul, 1) := by decide +kernel
theorem dX2_add_52 : decode cX2_add 52 = .ok (.invokevirtual 52, 3) := by decide +kernel
theorem dX2_add_55 : decode cX2_add 55 = .ok (.iand, 1) := by decide +kernel
theorem dX2_add_56 : decode cX2_add 56 = .ok (.istore_n 2, 1) := by decide +kernel
theorem dX2_add_57 : decode cX2_add 57 = .ok (.aload_n 0, 1) := by decide +kernel
theorem dX2_add_58 : decode cX2_add 58 = .ok (.getfield 23, 3) := by decide +kernel
theorem dX2_add_61 : decode cX2_add 61 = .ok (.aload_n 0, 1) := by decide +kernel
theorem dX2_add_62 : decode cX2_add 62 = .ok (.getfield 15, 3) := by decide +kernel
theorem dX2_add_65 : decode cX2_add 65 = .ok (.aload_n 0, 1) := by decide +kernel
theorem dX2_add_66 : decode cX2_add 66 = .ok (.getfield 15, 3) := by decide +kernel
theorem dX2_add_69 : decode cX2_add 69 = .ok (.getfield 44, 3) := by decide +kernel
theorem dX2_add_72 : decode cX2_add 72 = .ok (.iload_n 1, 1) := by decide +kernel
theorem dX2_add_73 : decode cX2_add 73 = .ok (.iaload, 1) := by decide +kernel
theorem dX2_add_74 : decode cX2_add 74 = .ok (.aload_n 0, 1) := by decide +kernel
theorem dX2_add_75 : decode cX2_add 75 = .ok (.getfield 15, 3) := by decide +kernel
theorem dX2_add_78 : decode cX2_add 78 = .ok (.getfield 49, 3) := by decide +kernel
theorem dX2_add_81 : decode cX2_add 81 = .ok (.iload_n 1, 1) := by decide +kernel
theorem dX2_add_82 : decode cX2_add 82 = .ok (.iaload, 1) := by decide +kernel
theorem dX2_add_83 : decode cX2_add 83 = .ok (.aload_n 0, 1) := by decide +kernel
theorem dX2_add_84 : decode cX2_add 84 = .ok (.getfield 19, 3) := by decide +kernel
theorem dX2_add_87 : decode cX2_add 87 = .ok (.invokevirtual 52, 3) := by decide +kernel
theorem dX2_add_90 : decode cX2_add 90 = .ok (.iand, 1) := by decide +kernel
theorem dX2_add_91 : decode cX2_add 91 = .ok (.istore_n 3, 1) := by decide +kernel
theorem dX2_add_92 : decode cX2_add 92 = .ok (.aload_n 0, 1) := by decide +kernel
theorem dX2_add_93 : decode cX2_add 93 = .ok (.iload_n 1, 1) := by decide +kernel
theorem dX2_add_94 : decode cX2_add 94 = .ok (.iload_n 2, 1) := by decide +kernel
theorem dX2_add_95 : decode cX2_add 95 = .ok (.invokevirtual 56, 3) := by decide +kernel
theorem dX2_add_98 : decode cX2_add 98 = .ok (.iconst 0, 1) := by decide +kernel
theorem dX2_add_99 : decode cX2_add 99 = .ok (.istore 4, 2) := by decide +kernel
theorem dX2_add_101 : decode cX2_add 101 = .ok (.iload 4, 2) := by decide +kernel
theorem dX2_add_103 : decode cX2_add 103 = .ok (.bipush 24, 2) := by decide +kernel
theorem dX2_add_105 : decode cX2_add 105 = .ok (.if_icmp .ge 127, 3) := by decide +kernel
theorem dX2_add_108 : decode cX2_add 108 = .ok (.iload_n 2, 1) := by decide +kernel
theorem dX2_add_109 : decode cX2_add 109 = .ok (.iload 4, 2) := by decide +kernel
theorem dX2_add_111 : decode cX2_add 111 = .ok (.invokestatic 32, 3) := by decide +kernel
theorem dX2_add_114 : decode cX2_add 114 = .ok (.ifCond .eq 66, 3) := by decide +kernel
theorem dX2_add_117 : decode cX2_add 117 = .ok (.aload_n 0, 1) := by decide +kernel
theorem dX2_add_118 : decode cX2_add 118 = .ok (.aload_n 0, 1) := by decide +kernel
theorem dX2_add_119 : decode cX2_add 119 = .ok (.getfield 15, 3) := by decide +kernel
theorem dX2_add_122 : decode cX2_add 122 = .ok (.getfield 44, 3) := by decide +kernel
theorem dX2_add_125 : decode cX2_add 125 = .ok (.iload_n 1, 1) := by decide +kernel
theorem dX2_add_126 : decode cX2_add 126 = .ok (.iaload, 1) := by decide +kernel
theorem dX2_add_127 : decode cX2_add 127 = .ok (.aload_n 0, 1) := by decide +kernel
theorem dX2_add_128 : decode cX2_add 128 = .ok (.getfield 15, 3) := by decide +kernel
theorem dX2_add_131 : decode cX2_add 131 = .ok (.getfield 49, 3) := by decide +kernel
theorem dX2_add_134 : decode cX2_add 134 = .ok (.iload_n 1, 1) := by decide +kernel
theorem dX2_add_135 : decode cX2_add 135 = .ok (.iaload, 1) := by decide +kernel
theorem dX2_add_136 : decode cX2_add 136 = .ok (.iload 4, 2) := by decide +kernel
theorem dX2_add_138 : decode cX2_add 138 = .ok (.iload_n 2, 1) := by decide +kernel
theorem dX2_add_139 : decode cX2_add 139 = .ok (.invokevirtual 60, 3) := by decide +kernel
theorem dX2_add_142 : decode cX2_add 142 = .ok (.aload_n 0, 1) := by decide +kernel
theorem dX2_add_143 : decode cX2_add 143 = .ok (.getfield 11, 3) := by decide +kernel
theorem dX2_add_146 : decode cX2_add 146 = .ok (.iload_n 1, 1) := by decide +kernel
theorem dX2_add_147 : decode cX2_add 147 = .ok (.bipush 24, 2) := by decide +kernel
theorem dX2_add_149 : decode cX2_add 149 = .ok (.imul, 1) := by decide +kernel
theorem dX2_add_150 : decode cX2_add 150 = .ok (.iload 4, 2) := by decide +kernel
theorem dX2_add_152 : decode cX2_add 152 = .ok (.iadd, 1) := by decide +kernel
theorem dX2_add_153 : decode cX2_add 153 = .ok (.dup2, 1) := by decide +kernel
theorem dX2_add_154 : decode cX2_add 154 = .ok (.iaload, 1) := by decide +kernel
theorem dX2_add_155 : decode cX2_add 155 = .ok (.aload_n 0, 1) := by decide +kernel
theorem dX2_add_156 : decode cX2_add 156 = .ok (.getfield 64, 3) := by decide +kernel
theorem dX2_add_159 : decode cX2_add 159 = .ok (.ior, 1) := by decide +kernel
theorem dX2_add_160 : decode cX2_add 160 = .ok (.iastore, 1) := by decide +kernel
theorem dX2_add_161 : decode cX2_add 161 = .ok (.aload_n 0, 1) := by decide +kernel
theorem dX2_add_162 : decode cX2_add 162 = .ok (.getfield 11, 3) := by decide +kernel
theorem dX2_add_165 : decode cX2_add 165 = .ok (.iload 4, 2) := by decide +kernel
theorem dX2_add_167 : decode cX2_add 167 = .ok (.bipush 24, 2) := by decide +kernel
theorem dX2_add_169 : decode cX2_add 169 = .ok (.imul, 1) := by decide +kernel
theorem dX2_add_170 : decode cX2_add 170 = .ok (.iload_n 1, 1) := by decide +kernel
theorem dX2_add_171 : decode cX2_add 171 = .ok (.iadd, 1) := by decide +kernel
theorem dX2_add_172 : decode cX2_add 172 = .ok (.dup2, 1) := by decide +kernel
theorem dX2_add_173 : decode cX2_add 173 = .ok (.iaload, 1) := by decide +kernel
theorem dX2_add_174 : decode cX2_add 174 = .ok (.aload_n 0, 1) := by decide +kernel
theorem dX2_add_175 : decode cX2_add 175 = .ok (.getfield 67, 3) := by decide +kernel
theorem dX2_add_178 : decode cX2_add 178 = .ok (.ior, 1) := by decide +kernel
theorem dX2_add_179 : decode cX2_add 179 = .ok (.iastore, 1) := by decide +kernel
theorem dX2_add_180 : decode cX2_add 180 = .ok (.iload_n 3, 1) := by decide +kernel
theorem dX2_add_181 : decode cX2_add 181 = .ok (.iload 4, 2) := by decide +kernel
theorem dX2_add_183 : decode cX2_add 183 = .ok (.invokestatic 32, 3) := by decide +kernel
theorem dX2_add_186 : decode cX2_add 186 = .ok (.ifCond .eq 40, 3) := by decide +kernel
theorem dX2_add_189 : decode cX2_add 189 = .ok (.aload_n 0, 1) := by decide +kernel
theorem dX2_add_190 : decode cX2_add 190 = .ok (.getfield 11, 3) := by decide +kernel
theorem dX2_add_193 : decode cX2_add 193 = .ok (.iload_n 1, 1) := by decide +kernel
theorem dX2_add_194 : decode cX2_add 194 = .ok (.bipush 24, 2) := by decide +kernel
theorem dX2_add_196 : decode cX2_add 196 = .ok (.imul, 1) := by decide +kernel
theorem dX2_add_197 : decode cX2_add 197 = .ok (.iload_n 1, 1) := by decide +kernel
theorem dX2_add_198 : decode cX2_add 198 = .ok (.iadd, 1) := by decide +kernel
theorem dX2_add_199 : decode cX2_add 199 = .ok (.dup2, 1) := by decide +kernel
theorem dX2_add_200 : decode cX2_add 200 = .ok (.iaload, 1) := by decide +kernel
theorem dX2_add_201 : decode cX2_add 201 = .ok (.iconst 1, 1) := by decide +kernel
theorem dX2_add_202 : decode cX2_add 202 = .ok (.iload 4, 2) := by decide +kernel
theorem dX2_add_204 : decode cX2_add 204 = .ok (.ishl, 1) := by decide +kernel
theorem dX2_add_205 : decode cX2_add 205 = .ok (.ior, 1) := by decide +kernel
theorem dX2_add_206 : decode cX2_add 206 = .ok (.iastore, 1) := by decide +kernel
theorem dX2_add_207 : decode cX2_add 207 = .ok (.aload_n 0, 1) := by decide +kernel
theorem dX2_add_208 : decode cX2_add 208 = .ok (.getfield 11, 3) := by decide +kernel
theorem dX2_add_211 : decode cX2_add 211 = .ok (.iload 4, 2) := by decide +kernel
theorem dX2_add_213 : decode cX2_add 213 = .ok (.bipush 24, 2) := by decide +kernel
theorem dX2_add_215 : decode cX2_add 215 = .ok (.imul, 1) := by decide +kernel
theorem dX2_add_216 : decode cX2_add 216 = .ok (.iload 4, 2) := by decide +kernel
theorem dX2_add_218 : decode cX2_add 218 = .ok (.iadd, 1) := by decide +kernel
theorem dX2_add_219 : decode cX2_add 219 = .ok (.dup2, 1) := by decide +kernel
theorem dX2_add_220 : decode cX2_add 220 = .ok (.iaload, 1) := by decide +kernel
theorem dX2_add_221 : decode cX2_add 221 = .ok (.iconst 1, 1) := by decide +kernel
theorem dX2_add_222 : decode cX2_add 222 = .ok (.iload_n 1, 1) := by decide +kernel
theorem dX2_add_223 : decode cX2_add 223 = .ok (.ishl, 1) := by decide +kernel
theorem dX2_add_224 : decode cX2_add 224 = .ok (.ior, 1) := by decide +kernel
theorem dX2_add_225 : decode cX2_add 225 = .ok (.iastore, 1) := by decide +kernel
theorem dX2_add_226 : decode cX2_add 226 = .ok (.iinc 4 1, 3) := by decide +kernel
theorem dX2_add_229 : decode cX2_add 229 = .ok (.goto (-128), 3) := by decide +kernel
theorem dX2_add_232 : decode cX2_add 232 = .ok (.return_, 1) := by decide +kernel
theorem dX2_remove_0 : decode cX2_remove 0 = .ok (.iload_n 1, 1) := by decide +kernel
theorem dX2_remove_1 : decode cX2_remove 1 = .ok (.invokestatic 40, 3) := by decide +kernel
theorem dX2_remove_4 : decode cX2_remove 4 = .ok (.ifCond .ne 4, 3) := by decide +kernel
theorem dX2_remove_7 : decode cX2_remove 7 = .ok (.return_, 1) := by decide +kernel
theorem dX2_remove_8 : decode cX2_remove 8 = .ok (.aload_n 0, 1) := by decide +kernel
theorem dX2_remove_9 : decode cX2_remove 9 = .ok (.dup, 1) := by decide +kernel
theorem dX2_remove_10 : decode cX2_remove 10 = .ok (.getfield 23, 3) := by decide +kernel
theorem dX2_remove_13 : decode cX2_remove 13 = .ok (.iconst 1, 1) := by decide +kernel
theorem dX2_remove_14 : decode cX2_remove 14 = .ok (.iload_n 1, 1) := by decide +kernel
theorem dX2_remove_15 : decode cX2_remove 15 = .ok (.ishl, 1) := by decide +kernel
theorem dX2_remove_16 : decode cX2_remove 16 = .ok (.iconst (-1), 1) := by decide +kernel
theorem dX2_remove_17 : decode cX2_remove 17 = .ok (.ixor, 1) := by decide +kernel
theorem dX2_remove_18 : decode cX2_remove 18 = .ok (.iand, 1) := by decide +kernel
theorem dX2_remove_19 : decode cX2_remove 19 = .ok (.putfield 23, 3) := by decide +kernel
theorem dX2_remove_22 : decode cX2_remove 22 = .ok (.iconst 0, 1) := by decide +kernel
theorem dX2_remove_23 : decode cX2_remove 23 = .ok (.istore_n 2, 1) := by decide +kernel
theorem dX2_remove_24 : decode cX2_remove 24 = .ok (.iload_n 2, 1) := by decide +kernel
theorem dX2_remove_25 : decode cX2_remove 25 = .ok (.sipush 576, 3) := by decide +kernel
theorem dX2_remove_28 : decode cX2_remove 28 = .ok (.if_icmp .ge 22, 3) := by decide +kernel
theorem dX2_remove_31 : decode cX2_remove 31 = .ok (.aload_n 0, 1) := by decide +kernel
theorem dX2_remove_32 : decode cX2_remove 32 = .ok (.getfield 11, 3) := by decide +kernel
theorem dX2_remove_35 : decode cX2_remove 35 = .ok (.iload_n 2, 1) := by decide +kernel
theorem dX2_remove_36 : decode cX2_remove 36 = .ok (.dup2, 1) := by decide +kernel
theorem dX2_remove_37 : decode cX2_remove 37 = .ok (.iaload, 1) := by decide +kernel
theorem dX2_remove_38 : decode cX2_remove 38 = .ok (.aload_n 0, 1) := by decide +kernel
theorem dX2_remove_39 : decode cX2_remove 39 = .ok (.getfield 23, 3) := by decide +kernel
theorem dX2_remove_42 : decode cX2_remove 42 = .ok (.iand, 1) := by decide +kernel
theorem dX2_remove_43 : decode cX2_remove 43 = .ok (.iastore, 1) := by decide +kernel
theorem dX2_remove_44 : decode cX2_remove 44 = .ok (.iinc 2 1, 3) := by decide +kernel
theorem dX2_remove_47 : decode cX2_remove 47 = .ok (.goto (-23), 3) := by decide +kernel
theorem dX2_remove_50 : decode cX2_remove 50 = .ok (.iconst 0, 1) := by decide +kernel
theorem dX2_remove_51 : decode cX2_remove 51 = .ok (.istore_n 2, 1) := by decide +kernel
theorem dX2_remove_52 : decode cX2_remove 52 = .ok (.iload_n 2, 1) := by decide +kernel
theorem dX2_remove_53 : decode cX2_remove 53 = .ok (.bipush 24, 2) := by decide +kernel
theorem dX2_remove_55 : decode cX2_remove 55 = .ok (.if_icmp .ge 33, 3) := by decide +kernel
theorem dX2_remove_58 : decode cX2_remove 58 = .ok (.aload_n 0, 1) := by decide +kernel
theorem dX2_remove_59 : decode cX2_remove 59 = .ok (.getfield 11, 3) := by decide +kernel
theorem dX2_remove_62 : decode cX2_remove 62 = .ok (.iload_n 1, 1) := by decide +kernel
theorem dX2_remove_63 : decode cX2_remove 63 = .ok (.bipush 24, 2) := by decide +kernel
theorem dX2_remove_65 : decode cX2_remove 65 = .ok (.imul, 1) := by decide +kernel
theorem dX2_remove_66 : decode cX2_remove 66 = .ok (.iload_n 2, 1) := by decide +kernel
theorem dX2_remove_67 : decode cX2_remove 67 = .ok (.iadd, 1) := by decide +kernel
theorem dX2_remove_68 : decode cX2_remove 68 = .ok (.iconst 0, 1) := by decide +kernel
theorem dX2_remove_69 : decode cX2_remove 69 = .ok (.iastore, 1) := by decide +kernel
theorem dX2_remove_70 : decode cX2_remove 70 = .ok (.aload_n 0, 1) := by decide +kernel
theorem dX2_remove_71 : decode cX2_remove 71 = .ok (.getfield 11, 3) := by decide +kernel
theorem dX2_remove_74 : decode cX2_remove 74 = .ok (.iload_n 2, 1) := by decide +kernel
theorem dX2_remove_75 : decode cX2_remove 75 = .ok (.bipush 24, 2) := by decide +kernel
theorem dX2_remove_77 : decode cX2_remove 77 = .ok (.imul, 1) := by decide +kernel
theorem dX2_remove_78 : decode cX2_remove 78 = .ok (.iload_n 1, 1) := by decide +kernel
theorem dX2_remove_79 : decode cX2_remove 79 = .ok (.iadd, 1) := by decide +kernel
theorem dX2_remove_80 : decode cX2_remove 80 = .ok (.iconst 0, 1) := by decide +kernel
theorem dX2_remove_81 : decode cX2_remove 81 = .ok (.iastore, 1) := by decide +kernel
theorem dX2_remove_82 : decode cX2_remove 82 = .ok (.iinc 2 1, 3) := by decide +kernel
theorem dX2_remove_85 : decode cX2_remove 85 = .ok (.goto (-33), 3) := by decide +kernel
theorem dX2_remove_88 : decode cX2_remove 88 = .ok (.return_, 1) := by decide +kernel
theorem dX2_extend_0 : decode cX2_extend 0 = .ok (.iload_n 1, 1) := by decide +kernel
theorem dX2_extend_1 : decode cX2_extend 1 = .ok (.invokestatic 40, 3) := by decide +kernel
theorem dX2_extend_4 : decode cX2_extend 4 = .ok (.ifCond .ne 4, 3) := by decide +kernel
theorem dX2_extend_7 : decode cX2_extend 7 = .ok (.return_, 1) := by decide +kernel
theorem dX2_extend_8 : decode cX2_extend 8 = .ok (.iconst 0, 1) := by decide +kernel
theorem dX2_extend_9 : decode cX2_extend 9 = .ok (.istore_n 3, 1) := by decide +kernel
theorem dX2_extend_10 : decode cX2_extend 10 = .ok (.iload_n 3, 1) := by decide +kernel
theorem dX2_extend_11 : decode cX2_extend 11 = .ok (.bipush 24, 2) := by decide +kernel
theorem dX2_extend_13 : decode cX2_extend 13 = .ok (.if_icmp .ge 140, 3) := by decide +kernel
theorem dX2_extend_16 : decode cX2_extend 16 = .ok (.iload_n 3, 1) := by decide +kernel
theorem dX2_extend_17 : decode cX2_extend 17 = .ok (.iconst 1, 1) := by decide +kernel
theorem dX2_extend_18 : decode cX2_extend 18 = .ok (.iadd, 1) := by decide +kernel
theorem dX2_extend_19 : decode cX2_extend 19 = .ok (.istore 4, 2) := by decide +kernel
theorem dX2_extend_21 : decode cX2_extend 21 = .ok (.iload 4, 2) := by decide +kernel
theorem dX2_extend_23 : decode cX2_extend 23 = .ok (.bipush 24, 2) := by decide +kernel
theorem dX2_extend_25 : decode cX2_extend 25 = .ok (.if_icmp .ge 122, 3) := by decide +kernel
theorem dX2_extend_28 : decode cX2_extend 28 = .ok (.iload_n 2, 1) := by decide +kernel
theorem dX2_extend_29 : decode cX2_extend 29 = .ok (.iload_n 3, 1) := by decide +kernel
theorem dX2_extend_30 : decode cX2_extend 30 = .ok (.invokestatic 32, 3) := by decide +kernel
theorem dX2_extend_33 : decode cX2_extend 33 = .ok (.ifCond .eq 108, 3) := by decide +kernel
theorem dX2_extend_36 : decode cX2_extend 36 = .ok (.iload_n 2, 1) := by decide +kernel
theorem dX2_extend_37 : decode cX2_extend 37 = .ok (.iload 4, 2) := by decide +kernel
theorem dX2_extend_39 : decode cX2_extend 39 = .ok (.invokestatic 32, 3) := by decide +kernel
theorem dX2_extend_42 : decode cX2_extend 42 = .ok (.ifCond .eq 99, 3) := by decide +kernel
theorem dX2_extend_45 : decode cX2_extend 45 = .ok (.iload_n 3, 1) := by decide +kernel
theorem dX2_extend_46 : decode cX2_extend 46 = .ok (.iload_n 1, 1) := by decide +kernel
theorem dX2_extend_47 : decode cX2_extend 47 = .ok (.if_icmp .eq 94, 3) := by decide +kernel
theorem dX2_extend_50 : decode cX2_extend 50 = .ok (.iload 4, 2) := by decide +kernel
theorem dX2_extend_52 : decode cX2_extend 52 = .ok (.iload_n 1, 1) := by decide +kernel
theorem dX2_extend_53 : decode cX2_extend 53 = .ok (.if_icmp .eq 88, 3) := by decide +kernel
theorem dX2_extend_56 : decode cX2_extend 56 = .ok (.aload_n 0, 1) := by decide +kernel
theorem dX2_extend_57 : decode cX2_extend 57 = .ok (.iload_n 3, 1) := by decide +kernel
theorem dX2_extend_58 : decode cX2_extend 58 = .ok (.iload 4, 2) := by decide +kernel
theorem dX2_extend_60 : decode cX2_extend 60 = .ok (.aload_n 0, 1) := by decide +kernel
theorem dX2_extend_61 : decode cX2_extend 61 = .ok (.getfield 15, 3) := by decide +kernel
theorem dX2_extend_64 : decode cX2_extend 64 = .ok (.getfield 44, 3) := by decide +kernel
theorem dX2_extend_67 : decode cX2_extend 67 = .ok (.iload_n 1, 1) := by decide +kernel
theorem dX2_extend_68 : decode cX2_extend 68 = .ok (.iaload, 1) := by decide +kernel
theorem dX2_extend_69 : decode cX2_extend 69 = .ok (.aload_n 0, 1) := by decide +kernel
theorem dX2_extend_70 : decode cX2_extend 70 = .ok (.getfield 15, 3) := by decide +kernel
theorem dX2_extend_73 : decode cX2_extend 73 = .ok (.getfield 49, 3) := by decide +kernel
theorem dX2_extend_76 : decode cX2_extend 76 = .ok (.iload_n 1, 1) := by decide +kernel
theorem dX2_extend_77 : decode cX2_extend 77 = .ok (.iaload, 1) := by decide +kernel
theorem dX2_extend_78 : decode cX2_extend 78 = .ok (.invokevirtual 70, 3) := by decide +kernel
theorem dX2_extend_81 : decode cX2_extend 81 = .ok (.istore 5, 2) := by decide +kernel
theorem dX2_extend_83 : decode cX2_extend 83 = .ok (.aload_n 0, 1) := by decide +kernel
theorem dX2_extend_84 : decode cX2_extend 84 = .ok (.getfield 11, 3) := by decide +kernel
theorem dX2_extend_87 : decode cX2_extend 87 = .ok (.iload_n 3, 1) := by decide +kernel
theorem dX2_extend_88 : decode cX2_extend 88 = .ok (.bipush 24, 2) := by decide +kernel
theorem dX2_extend_90 : decode cX2_extend 90 = .ok (.imul, 1) := by decide +kernel
theorem dX2_extend_91 : decode cX2_extend 91 = .ok (.iload 4, 2) := by decide +kernel
theorem dX2_extend_93 : decode cX2_extend 93 = .ok (.iadd, 1) := by decide +kernel
theorem dX2_extend_94 : decode cX2_extend 94 = .ok (.dup2, 1) := by decide +kernel
theorem dX2_extend_95 : decode cX2_extend 95 = .ok (.iaload, 1) := by decide +kernel
theorem dX2_extend_96 : decode cX2_extend 96 = .ok (.iload 5, 2) := by decide +kernel
theorem dX2_extend_98 : decode cX2_extend 98 = .ok (.iconst 1, 1) := by decide +kernel
theorem dX2_extend_99 : decode cX2_extend 99 = .ok (.iand, 1) := by decide +kernel
theorem dX2_extend_100 : decode cX2_extend 100 = .ok (.ifCond .eq 9, 3) := by decide +kernel
theorem dX2_extend_103 : decode cX2_extend 103 = .ok (.iconst 1, 1) := by decide +kernel
theorem dX2_extend_104 : decode cX2_extend 104 = .ok (.iload_n 1, 1) := by decide +kernel
theorem dX2_extend_105 : decode cX2_extend 105 = .ok (.ishl, 1) := by decide +kernel
theorem dX2_extend_106 : decode cX2_extend 106 = .ok (.goto 4, 3) := by decide +kernel
theorem dX2_extend_109 : decode cX2_extend 109 = .ok (.iconst 0, 1) := by decide +kernel
theorem dX2_extend_110 : decode cX2_extend 110 = .ok (.ior, 1) := by decide +kernel
theorem dX2_extend_111 : decode cX2_extend 111 = .ok (.iastore, 1) := by decide +kernel
theorem dX2_extend_112 : decode cX2_extend 112 = .ok (.aload_n 0, 1) := by decide +kernel
theorem dX2_extend_113 : decode cX2_extend 113 = .ok (.getfield 11, 3) := by decide +kernel
theorem dX2_extend_116 : decode cX2_extend 116 = .ok (.iload 4, 2) := by decide +kernel
theorem dX2_extend_118 : decode cX2_extend 118 = .ok (.bipush 24, 2) := by decide +kernel
theorem dX2_extend_120 : decode cX2_extend 120 = .ok (.imul, 1) := by decide +kernel
theorem dX2_extend_121 : decode cX2_extend 121 = .ok (.iload_n 3, 1) := by decide +kernel
theorem dX2_extend_122 : decode cX2_extend 122 = .ok (.iadd, 1) := by decide +kernel
theorem dX2_extend_123 : decode cX2_extend 123 = .ok (.dup2, 1) := by decide +kernel
theorem dX2_extend_124 : decode cX2_extend 124 = .ok (.iaload, 1) := by decide +kernel
theorem dX2_extend_125 : decode cX2_extend 125 = .ok (.iload 5, 2) := by decide +kernel
theorem dX2_extend_127 : decode cX2_extend 127 = .ok (.iconst 2, 1) := by decide +kernel
theorem dX2_extend_128 : decode cX2_extend 128 = .ok (.iand, 1) := by decide +kernel
theorem dX2_extend_129 : decode cX2_extend 129 = .ok (.ifCond .eq 9, 3) := by decide +kernel
theorem dX2_extend_132 : decode cX2_extend 132 = .ok (.iconst 1, 1) := by decide +kernel
theorem dX2_extend_133 : decode cX2_extend 133 = .ok (.iload_n 1, 1) := by decide +kernel
theorem dX2_extend_134 : decode cX2_extend 134 = .ok (.ishl, 1) := by decide +kernel
theorem dX2_extend_135 : decode cX2_extend 135 = .ok (.goto 4, 3) := by decide +kernel
theorem dX2_extend_138 : decode cX2_extend 138 = .ok (.iconst 0, 1) := by decide +kernel
theorem dX2_extend_139 : decode cX2_extend 139 = .ok (.ior, 1) := by decide +kernel
theorem dX2_extend_140 : decode cX2_extend 140 = .ok (.iastore, 1) := by decide +kernel
theorem dX2_extend_141 : decode cX2_extend 141 = .ok (.iinc 4 1, 3) := by decide +kernel
theorem dX2_extend_144 : decode cX2_extend 144 = .ok (.goto (-123), 3) := by decide +kernel
theorem dX2_extend_147 : decode cX2_extend 147 = .ok (.iinc 3 1, 3) := by decide +kernel
theorem dX2_extend_150 : decode cX2_extend 150 = .ok (.goto (-140), 3) := by decide +kernel
theorem dX2_extend_153 : decode cX2_extend 153 = .ok (.return_, 1) := by decide +kernel
theorem dX2_holdBoth_0 : decode cX2_holdBoth 0 = .ok (.aload_n 0, 1) := by decide +kernel
theorem dX2_holdBoth_1 : decode cX2_holdBoth 1 = .ok (.iconst 0, 1) := by decide +kernel
theorem dX2_holdBoth_2 : decode cX2_holdBoth 2 = .ok (.putfield 64, 3) := by decide +kernel
theorem dX2_holdBoth_5 : decode cX2_holdBoth 5 = .ok (.aload_n 0, 1) := by decide +kernel
theorem dX2_holdBoth_6 : decode cX2_holdBoth 6 = .ok (.iconst 0, 1) := by decide +kernel
theorem dX2_holdBoth_7 : decode cX2_holdBoth 7 = .ok (.putfield 67, 3) := by decide +kernel
theorem dX2_holdBoth_10 : decode cX2_holdBoth 10 = .ok (.iload_n 3, 1) := by decide +kernel
theorem dX2_holdBoth_11 : decode cX2_holdBoth 11 = .ok (.invokestatic 40, 3) := by decide +kernel
theorem dX2_holdBoth_14 : decode cX2_holdBoth 14 = .ok (.ifCond .ne 4, 3) := by decide +kernel
theorem dX2_holdBoth_17 : decode cX2_holdBoth 17 = .ok (.return_, 1) := by decide +kernel
theorem dX2_holdBoth_18 : decode cX2_holdBoth 18 = .ok (.aload_n 0, 1) := by decide +kernel
theorem dX2_holdBoth_19 : decode cX2_holdBoth 19 = .ok (.getfield 15, 3) := by decide +kernel
theorem dX2_holdBoth_22 : decode cX2_holdBoth 22 = .ok (.getfield 44, 3) := by decide +kernel
theorem dX2_holdBoth_25 : decode cX2_holdBoth 25 = .ok (.iload_n 3, 1) := by decide +kernel
theorem dX2_holdBoth_26 : decode cX2_holdBoth 26 = .ok (.iaload, 1) := by decide +kernel
theorem dX2_holdBoth_27 : decode cX2_holdBoth 27 = .ok (.iload_n 1, 1) := by decide +kernel
theorem dX2_holdBoth_28 : decode cX2_holdBoth 28 = .ok (.isub, 1) := by decide +kernel
theorem dX2_holdBoth_29 : decode cX2_holdBoth 29 = .ok (.istore 5, 2) := by decide +kernel
theorem dX2_holdBoth_31 : decode cX2_holdBoth 31 = .ok (.aload_n 0, 1) := by decide +kernel
theorem dX2_holdBoth_32 : decode cX2_holdBoth 32 = .ok (.getfield 15, 3) := by decide +kernel
theorem dX2_holdBoth_35 : decode cX2_holdBoth 35 = .ok (.getfield 49, 3) := by decide +kernel
theorem dX2_holdBoth_38 : decode cX2_holdBoth 38 = .ok (.iload_n 3, 1) := by decide +kernel
theorem dX2_holdBoth_39 : decode cX2_holdBoth 39 = .ok (.iaload, 1) := by decide +kernel
theorem dX2_holdBoth_40 : decode cX2_holdBoth 40 = .ok (.iload_n 2, 1) := by decide +kernel
theorem dX2_holdBoth_41 : decode cX2_holdBoth 41 = .ok (.isub, 1) := by decide +kernel
theorem dX2_holdBoth_42 : decode cX2_holdBoth 42 = .ok (.istore 6, 2) := by decide +kernel
theorem dX2_holdBoth_44 : decode cX2_holdBoth 44 = .ok (.iload 5, 2) := by decide +kernel
theorem dX2_holdBoth_46 : decode cX2_holdBoth 46 = .ok (.iload 5, 2) := by decide +kernel
theorem dX2_holdBoth_48 : decode cX2_holdBoth 48 = .ok (.imul, 1) := by decide +kernel
theorem dX2_holdBoth_49 : decode cX2_holdBoth 49 = .ok (.iload 6, 2) := by decide +kernel
theorem dX2_holdBoth_51 : decode cX2_holdBoth 51 = .ok (.iload 6, 2) := by decide +kernel
theorem dX2_holdBoth_53 : decode cX2_holdBoth 53 = .ok (.imul, 1) := by decide +kernel
theorem dX2_holdBoth_54 : decode cX2_holdBoth 54 = .ok (.iadd, 1) := by decide +kernel
theorem dX2_holdBoth_55 : decode cX2_holdBoth 55 = .ok (.istore 7, 2) := by decide +kernel
theorem dX2_holdBoth_57 : decode cX2_holdBoth 57 = .ok (.iconst 4, 1) := by decide +kernel
theorem dX2_holdBoth_58 : decode cX2_holdBoth 58 = .ok (.aload_n 0, 1) := by decide +kernel
theorem dX2_holdBoth_59 : decode cX2_holdBoth 59 = .ok (.getfield 19, 3) := by decide +kernel
theorem dX2_holdBoth_62 : decode cX2_holdBoth 62 = .ok (.imul, 1) := by decide +kernel
theorem dX2_holdBoth_63 : decode cX2_holdBoth 63 = .ok (.aload_n 0, 1) := by decide +kernel
theorem dX2_holdBoth_64 : decode cX2_holdBoth 64 = .ok (.getfield 19, 3) := by decide +kernel
theorem dX2_holdBoth_67 : decode cX2_holdBoth 67 = .ok (.imul, 1) := by decide +kernel
theorem dX2_holdBoth_68 : decode cX2_holdBoth 68 = .ok (.iload 7, 2) := by decide +kernel
theorem dX2_holdBoth_70 : decode cX2_holdBoth 70 = .ok (.isub, 1) := by decide +kernel
theorem dX2_holdBoth_71 : decode cX2_holdBoth 71 = .ok (.istore 8, 2) := by decide +kernel
theorem dX2_holdBoth_73 : decode cX2_holdBoth 73 = .ok (.iconst 0, 1) := by decide +kernel
theorem dX2_holdBoth_74 : decode cX2_holdBoth 74 = .ok (.istore 9, 2) := by decide +kernel
theorem dX2_holdBoth_76 : decode cX2_holdBoth 76 = .ok (.iload 9, 2) := by decide +kernel
theorem dX2_holdBoth_78 : decode cX2_holdBoth 78 = .ok (.bipush 24, 2) := by decide +kernel
theorem dX2_holdBoth_80 : decode cX2_holdBoth 80 = .ok (.if_icmp .ge 114, 3) := by decide +kernel
theorem dX2_holdBoth_83 : decode cX2_holdBoth 83 = .ok (.iload 7, 2) := by decide +kernel
theorem dX2_holdBoth_85 : decode cX2_holdBoth 85 = .ok (.ifCond .le 109, 3) := by decide +kernel
theorem dX2_holdBoth_88 : decode cX2_holdBoth 88 = .ok (.iload 8, 2) := by decide +kernel
theorem dX2_holdBoth_90 : decode cX2_holdBoth 90 = .ok (.ifCond .lt 104, 3) := by decide +kernel
theorem dX2_holdBoth_93 : decode cX2_holdBoth 93 = .ok (.iload 4, 2) := by decide +kernel
theorem dX2_holdBoth_95 : decode cX2_holdBoth 95 = .ok (.iload 9, 2) := by decide +kernel
theorem dX2_holdBoth_97 : decode cX2_holdBoth 97 = .ok (.invokestatic 32, 3) := by decide +kernel
theorem dX2_holdBoth_100 : decode cX2_holdBoth 100 = .ok (.ifCond .eq 88, 3) := by decide +kernel
theorem dX2_holdBoth_103 : decode cX2_holdBoth 103 = .ok (.iload 5, 2) := by decide +kernel
theorem dX2_holdBoth_105 : decode cX2_holdBoth 105 = .ok (.iload 6, 2) := by decide +kernel
theorem dX2_holdBoth_107 : decode cX2_holdBoth 107 = .ok (.aload_n 0, 1) := by decide +kernel
theorem dX2_holdBoth_108 : decode cX2_holdBoth 108 = .ok (.getfield 15, 3) := by decide +kernel
theorem dX2_holdBoth_111 : decode cX2_holdBoth 111 = .ok (.getfield 44, 3) := by decide +kernel
theorem dX2_holdBoth_114 : decode cX2_holdBoth 114 = .ok (.iload 9, 2) := by decide +kernel
theorem dX2_holdBoth_116 : decode cX2_holdBoth 116 = .ok (.iaload, 1) := by decide +kernel
theorem dX2_holdBoth_117 : decode cX2_holdBoth 117 = .ok (.iload_n 1, 1) := by decide +kernel
theorem dX2_holdBoth_118 : decode cX2_holdBoth 118 = .ok (.isub, 1) := by decide +kernel
theorem dX2_holdBoth_119 : decode cX2_holdBoth 119 = .ok (.aload_n 0, 1) := by decide +kernel
theorem dX2_holdBoth_120 : decode cX2_holdBoth 120 = .ok (.getfield 15, 3) := by decide +kernel
theorem dX2_holdBoth_123 : decode cX2_holdBoth 123 = .ok (.getfield 49, 3) := by decide +kernel
theorem dX2_holdBoth_126 : decode cX2_holdBoth 126 = .ok (.iload 9, 2) := by decide +kernel
theorem dX2_holdBoth_128 : decode cX2_holdBoth 128 = .ok (.iaload, 1) := by decide +kernel
theorem dX2_holdBoth_129 : decode cX2_holdBoth 129 = .ok (.iload_n 2, 1) := by decide +kernel
theorem dX2_holdBoth_130 : decode cX2_holdBoth 130 = .ok (.isub, 1) := by decide +kernel
theorem dX2_holdBoth_131 : decode cX2_holdBoth 131 = .ok (.iload 7, 2) := by decide +kernel
theorem dX2_holdBoth_133 : decode cX2_holdBoth 133 = .ok (.iload 8, 2) := by decide +kernel
theorem dX2_holdBoth_135 : decode cX2_holdBoth 135 = .ok (.invokestatic 74, 3) := by decide +kernel
theorem dX2_holdBoth_138 : decode cX2_holdBoth 138 = .ok (.istore 10, 2) := by decide +kernel
theorem dX2_holdBoth_140 : decode cX2_holdBoth 140 = .ok (.aload_n 0, 1) := by decide +kernel
theorem dX2_holdBoth_141 : decode cX2_holdBoth 141 = .ok (.dup, 1) := by decide +kernel
theorem dX2_holdBoth_142 : decode cX2_holdBoth 142 = .ok (.getfield 64, 3) := by decide +kernel
theorem dX2_holdBoth_145 : decode cX2_holdBoth 145 = .ok (.iload 10, 2) := by decide +kernel
theorem dX2_holdBoth_147 : decode cX2_holdBoth 147 = .ok (.iconst 1, 1) := by decide +kernel
theorem dX2_holdBoth_148 : decode cX2_holdBoth 148 = .ok (.iand, 1) := by decide +kernel
theorem dX2_holdBoth_149 : decode cX2_holdBoth 149 = .ok (.ifCond .eq 10, 3) := by decide +kernel
theorem dX2_holdBoth_152 : decode cX2_holdBoth 152 = .ok (.iconst 1, 1) := by decide +kernel
theorem dX2_holdBoth_153 : decode cX2_holdBoth 153 = .ok (.iload 9, 2) := by decide +kernel
theorem dX2_holdBoth_155 : decode cX2_holdBoth 155 = .ok (.ishl, 1) := by decide +kernel
theorem dX2_holdBoth_156 : decode cX2_holdBoth 156 = .ok (.goto 4, 3) := by decide +kernel
theorem dX2_holdBoth_159 : decode cX2_holdBoth 159 = .ok (.iconst 0, 1) := by decide +kernel
theorem dX2_holdBoth_160 : decode cX2_holdBoth 160 = .ok (.ior, 1) := by decide +kernel
theorem dX2_holdBoth_161 : decode cX2_holdBoth 161 = .ok (.putfield 64, 3) := by decide +kernel
theorem dX2_holdBoth_164 : decode cX2_holdBoth 164 = .ok (.aload_n 0, 1) := by decide +kernel
theorem dX2_holdBoth_165 : decode cX2_holdBoth 165 = .ok (.dup, 1) := by decide +kernel
theorem dX2_holdBoth_166 : decode cX2_holdBoth 166 = .ok (.getfield 67, 3) := by decide +kernel
theorem dX2_holdBoth_169 : decode cX2_holdBoth 169 = .ok (.iload 10, 2) := by decide +kernel
theorem dX2_holdBoth_171 : decode cX2_holdBoth 171 = .ok (.iconst 2, 1) := by decide +kernel
theorem dX2_holdBoth_172 : decode cX2_holdBoth 172 = .ok (.iand, 1) := by decide +kernel
theorem dX2_holdBoth_173 : decode cX2_holdBoth 173 = .ok (.ifCond .eq 10, 3) := by decide +kernel
theorem dX2_holdBoth_176 : decode cX2_holdBoth 176 = .ok (.iconst 1, 1) := by decide +kernel
theorem dX2_holdBoth_177 : decode cX2_holdBoth 177 = .ok (.iload 9, 2) := by decide +kernel
theorem dX2_holdBoth_179 : decode cX2_holdBoth 179 = .ok (.ishl, 1) := by decide +kernel
theorem dX2_holdBoth_180 : decode cX2_holdBoth 180 = .ok (.goto 4, 3) := by decide +kernel
theorem dX2_holdBoth_183 : decode cX2_holdBoth 183 = .ok (.iconst 0, 1) := by decide +kernel
theorem dX2_holdBoth_184 : decode cX2_holdBoth 184 = .ok (.ior, 1) := by decide +kernel
theorem dX2_holdBoth_185 : decode cX2_holdBoth 185 = .ok (.putfield 67, 3) := by decide +kernel
theorem dX2_holdBoth_188 : decode cX2_holdBoth 188 = .ok (.iinc 9 1, 3) := by decide +kernel
theorem dX2_holdBoth_191 : decode cX2_holdBoth 191 = .ok (.goto (-115), 3) := by decide +kernel
theorem dX2_holdBoth_194 : decode cX2_holdBoth 194 = .ok (.return_, 1) := by decide +kernel
theorem dX2_sidesAt_0 : decode cX2_sidesAt 0 = .ok (.iload_n 1, 1) := by decide +kernel
theorem dX2_sidesAt_1 : decode cX2_sidesAt 1 = .ok (.invokestatic 40, 3) := by decide +kernel
theorem dX2_sidesAt_4 : decode cX2_sidesAt 4 = .ok (.ifCond .eq 10, 3) := by decide +kernel
theorem dX2_sidesAt_7 : decode cX2_sidesAt 7 = .ok (.iload_n 2, 1) := by decide +kernel
theorem dX2_sidesAt_8 : decode cX2_sidesAt 8 = .ok (.invokestatic 40, 3) := by decide +kernel
theorem dX2_sidesAt_11 : decode cX2_sidesAt 11 = .ok (.ifCond .ne 5, 3) := by decide +kernel
theorem dX2_sidesAt_14 : decode cX2_sidesAt 14 = .ok (.iconst 0, 1) := by decide +kernel
theorem dX2_sidesAt_15 : decode cX2_sidesAt 15 = .ok (.ireturn, 1) := by decide +kernel
theorem dX2_sidesAt_16 : decode cX2_sidesAt 16 = .ok (.aload_n 0, 1) := by decide +kernel
theorem dX2_sidesAt_17 : decode cX2_sidesAt 17 = .ok (.getfield 15, 3) := by decide +kernel
theorem dX2_sidesAt_20 : decode cX2_sidesAt 20 = .ok (.getfield 44, 3) := by decide +kernel
theorem dX2_sidesAt_23 : decode cX2_sidesAt 23 = .ok (.iload_n 2, 1) := by decide +kernel
theorem dX2_sidesAt_24 : decode cX2_sidesAt 24 = .ok (.iaload, 1) := by decide +kernel
theorem dX2_sidesAt_25 : decode cX2_sidesAt 25 = .ok (.aload_n 0, 1) := by decide +kernel
theorem dX2_sidesAt_26 : decode cX2_sidesAt 26 = .ok (.getfield 15, 3) := by decide +kernel
theorem dX2_sidesAt_29 : decode cX2_sidesAt 29 = .ok (.getfield 44, 3) := by decide +kernel
theorem dX2_sidesAt_32 : decode cX2_sidesAt 32 = .ok (.iload_n 1, 1) := by decide +kernel
theorem dX2_sidesAt_33 : decode cX2_sidesAt 33 = .ok (.iaload, 1) := by decide +kernel
theorem dX2_sidesAt_34 : decode cX2_sidesAt 34 = .ok (.isub, 1) := by decide +kernel
theorem dX2_sidesAt_35 : decode cX2_sidesAt 35 = .ok (.istore 5, 2) := by decide +kernel
theorem dX2_sidesAt_37 : decode cX2_sidesAt 37 = .ok (.aload_n 0, 1) := by decide +kernel
theorem dX2_sidesAt_38 : decode cX2_sidesAt 38 = .ok (.getfield 15, 3) := by decide +kernel
theorem dX2_sidesAt_41 : decode cX2_sidesAt 41 = .ok (.getfield 49, 3) := by decide +kernel
theorem dX2_sidesAt_44 : decode cX2_sidesAt 44 = .ok (.iload_n 2, 1) := by decide +kernel
theorem dX2_sidesAt_45 : decode cX2_sidesAt 45 = .ok (.iaload, 1) := by decide +kernel
theorem dX2_sidesAt_46 : decode cX2_sidesAt 46 = .ok (.aload_n 0, 1) := by decide +kernel
theorem dX2_sidesAt_47 : decode cX2_sidesAt 47 = .ok (.getfield 15, 3) := by decide +kernel
theorem dX2_sidesAt_50 : decode cX2_sidesAt 50 = .ok (.getfield 49, 3) := by decide +kernel
theorem dX2_sidesAt_53 : decode cX2_sidesAt 53 = .ok (.iload_n 1, 1) := by decide +kernel
theorem dX2_sidesAt_54 : decode cX2_sidesAt 54 = .ok (.iaload, 1) := by decide +kernel
theorem dX2_sidesAt_55 : decode cX2_sidesAt 55 = .ok (.isub, 1) := by decide +kernel
theorem dX2_sidesAt_56 : decode cX2_sidesAt 56 = .ok (.istore 6, 2) := by decide +kernel
theorem dX2_sidesAt_58 : decode cX2_sidesAt 58 = .ok (.iload 5, 2) := by decide +kernel
theorem dX2_sidesAt_60 : decode cX2_sidesAt 60 = .ok (.iload 5, 2) := by decide +kernel
theorem dX2_sidesAt_62 : decode cX2_sidesAt 62 = .ok (.imul, 1) := by decide +kernel
theorem dX2_sidesAt_63 : decode cX2_sidesAt 63 = .ok (.iload 6, 2) := by decide +kernel
theorem dX2_sidesAt_65 : decode cX2_sidesAt 65 = .ok (.iload 6, 2) := by decide +kernel
theorem dX2_sidesAt_67 : decode cX2_sidesAt 67 = .ok (.imul, 1) := by decide +kernel
theorem dX2_sidesAt_68 : decode cX2_sidesAt 68 = .ok (.iadd, 1) := by decide +kernel
theorem dX2_sidesAt_69 : decode cX2_sidesAt 69 = .ok (.istore 7, 2) := by decide +kernel
theorem dX2_sidesAt_71 : decode cX2_sidesAt 71 = .ok (.iconst 4, 1) := by decide +kernel
theorem dX2_sidesAt_72 : decode cX2_sidesAt 72 = .ok (.aload_n 0, 1) := by decide +kernel
theorem dX2_sidesAt_73 : decode cX2_sidesAt 73 = .ok (.getfield 19, 3) := by decide +kernel
theorem dX2_sidesAt_76 : decode cX2_sidesAt 76 = .ok (.imul, 1) := by decide +kernel
theorem dX2_sidesAt_77 : decode cX2_sidesAt 77 = .ok (.aload_n 0, 1) := by decide +kernel
theorem dX2_sidesAt_78 : decode cX2_sidesAt 78 = .ok (.getfield 19, 3) := by decide +kernel
theorem dX2_sidesAt_81 : decode cX2_sidesAt 81 = .ok (.imul, 1) := by decide +kernel
theorem dX2_sidesAt_82 : decode cX2_sidesAt 82 = .ok (.iload 7, 2) := by decide +kernel
theorem dX2_sidesAt_84 : decode cX2_sidesAt 84 = .ok (.isub, 1) := by decide +kernel
theorem dX2_sidesAt_85 : decode cX2_sidesAt 85 = .ok (.istore 8, 2) := by decide +kernel
theorem dX2_sidesAt_87 : decode cX2_sidesAt 87 = .ok (.iload 7, 2) := by decide +kernel
theorem dX2_sidesAt_89 : decode cX2_sidesAt 89 = .ok (.ifCond .eq 8, 3) := by decide +kernel
theorem dX2_sidesAt_92 : decode cX2_sidesAt 92 = .ok (.iload 8, 2) := by decide +kernel
theorem dX2_sidesAt_94 : decode cX2_sidesAt 94 = .ok (.ifCond .ge 5, 3) := by decide +kernel
theorem dX2_sidesAt_97 : decode cX2_sidesAt 97 = .ok (.iconst 0, 1) := by decide +kernel
theorem dX2_sidesAt_98 : decode cX2_sidesAt 98 = .ok (.ireturn, 1) := by decide +kernel
theorem dX2_sidesAt_99 : decode cX2_sidesAt 99 = .ok (.iload 5, 2) := by decide +kernel
theorem dX2_sidesAt_101 : decode cX2_sidesAt 101 = .ok (.iload 6, 2) := by decide +kernel
theorem dX2_sidesAt_103 : decode cX2_sidesAt 103 = .ok (.iload_n 3, 1) := by decide +kernel
theorem dX2_sidesAt_104 : decode cX2_sidesAt 104 = .ok (.aload_n 0, 1) := by decide +kernel
theorem dX2_sidesAt_105 : decode cX2_sidesAt 105 = .ok (.getfield 15, 3) := by decide +kernel
theorem dX2_sidesAt_108 : decode cX2_sidesAt 108 = .ok (.getfield 44, 3) := by decide +kernel
theorem dX2_sidesAt_111 : decode cX2_sidesAt 111 = .ok (.iload_n 1, 1) := by decide +kernel
theorem dX2_sidesAt_112 : decode cX2_sidesAt 112 = .ok (.iaload, 1) := by decide +kernel
theorem dX2_sidesAt_113 : decode cX2_sidesAt 113 = .ok (.isub, 1) := by decide +kernel
theorem dX2_sidesAt_114 : decode cX2_sidesAt 114 = .ok (.iload 4, 2) := by decide +kernel
theorem dX2_sidesAt_116 : decode cX2_sidesAt 116 = .ok (.aload_n 0, 1) := by decide +kernel
theorem dX2_sidesAt_117 : decode cX2_sidesAt 117 = .ok (.getfield 15, 3) := by decide +kernel
theorem dX2_sidesAt_120 : decode cX2_sidesAt 120 = .ok (.getfield 49, 3) := by decide +kernel
theorem dX2_sidesAt_123 : decode cX2_sidesAt 123 = .ok (.iload_n 1, 1) := by decide +kernel
theorem dX2_sidesAt_124 : decode cX2_sidesAt 124 = .ok (.iaload, 1) := by decide +kernel
theorem dX2_sidesAt_125 : decode cX2_sidesAt 125 = .ok (.isub, 1) := by decide +kernel
theorem dX2_sidesAt_126 : decode cX2_sidesAt 126 = .ok (.iload 7, 2) := by decide +kernel
theorem dX2_sidesAt_128 : decode cX2_sidesAt 128 = .ok (.iload 8, 2) := by decide +kernel
theorem dX2_sidesAt_130 : decode cX2_sidesAt 130 = .ok (.invokestatic 74, 3) := by decide +kernel
theorem dX2_sidesAt_133 : decode cX2_sidesAt 133 = .ok (.ireturn, 1) := by decide +kernel
theorem dX2_at_0 : decode cX2_at 0 = .ok (.iload_n 1, 1) := by decide +kernel
theorem dX2_at_1 : decode cX2_at 1 = .ok (.ifCond .lt 19, 3) := by decide +kernel
theorem dX2_at_4 : decode cX2_at 4 = .ok (.iload_n 1, 1) := by decide +kernel
theorem dX2_at_5 : decode cX2_at 5 = .ok (.sipush 576, 3) := by decide +kernel
theorem dX2_at_8 : decode cX2_at 8 = .ok (.if_icmp .ge 12, 3) := by decide +kernel
theorem dX2_at_11 : decode cX2_at 11 = .ok (.aload_n 0, 1) := by decide +kernel
theorem dX2_at_12 : decode cX2_at 12 = .ok (.getfield 11, 3) := by decide +kernel
theorem dX2_at_15 : decode cX2_at 15 = .ok (.iload_n 1, 1) := by decide +kernel
theorem dX2_at_16 : decode cX2_at 16 = .ok (.iaload, 1) := by decide +kernel
theorem dX2_at_17 : decode cX2_at 17 = .ok (.goto 4, 3) := by decide +kernel
theorem dX2_at_20 : decode cX2_at 20 = .ok (.iconst 0, 1) := by decide +kernel
theorem dX2_at_21 : decode cX2_at 21 = .ok (.ireturn, 1) := by decide +kernel
theorem dX2_heaviestAmong_0 : decode cX2_heaviestAmong 0 = .ok (.iconst 0, 1) := by decide +kernel
theorem dX2_heaviestAmong_1 : decode cX2_heaviestAmong 1 = .ok (.istore_n 2, 1) := by decide +kernel
theorem dX2_heaviestAmong_2 : decode cX2_heaviestAmong 2 = .ok (.iconst 0, 1) := by decide +kernel
theorem dX2_heaviestAmong_3 : decode cX2_heaviestAmong 3 = .ok (.istore_n 3, 1) := by decide +kernel
theorem dX2_heaviestAmong_4 : decode cX2_heaviestAmong 4 = .ok (.iconst 0, 1) := by decide +kernel
theorem dX2_heaviestAmong_5 : decode cX2_heaviestAmong 5 = .ok (.istore 4, 2) := by decide +kernel
theorem dX2_heaviestAmong_7 : decode cX2_heaviestAmong 7 = .ok (.iload 4, 2) := by decide +kernel
theorem dX2_heaviestAmong_9 : decode cX2_heaviestAmong 9 = .ok (.sipush 576, 3) := by decide +kernel
theorem dX2_heaviestAmong_12 : decode cX2_heaviestAmong 12 = .ok (.if_icmp .ge 60, 3) := by decide +kernel
theorem dX2_heaviestAmong_15 : decode cX2_heaviestAmong 15 = .ok (.aload_n 0, 1) := by decide +kernel
theorem dX2_heaviestAmong_16 : decode cX2_heaviestAmong 16 = .ok (.getfield 11, 3) := by decide +kernel
theorem dX2_heaviestAmong_19 : decode cX2_heaviestAmong 19 = .ok (.iload 4, 2) := by decide +kernel
theorem dX2_heaviestAmong_21 : decode cX2_heaviestAmong 21 = .ok (.iaload, 1) := by decide +kernel
theorem dX2_heaviestAmong_22 : decode cX2_heaviestAmong 22 = .ok (.iload_n 1, 1) := by decide +kernel
theorem dX2_heaviestAmong_23 : decode cX2_heaviestAmong 23 = .ok (.iand, 1) := by decide +kernel
theorem dX2_heaviestAmong_24 : decode cX2_heaviestAmong 24 = .ok (.istore 5, 2) := by decide +kernel
theorem dX2_heaviestAmong_26 : decode cX2_heaviestAmong 26 = .ok (.iload 5, 2) := by decide +kernel
theorem dX2_heaviestAmong_28 : decode cX2_heaviestAmong 28 = .ok (.ifCond .eq 38, 3) := by decide +kernel
theorem dX2_heaviestAmong_31 : decode cX2_heaviestAmong 31 = .ok (.aload_n 0, 1) := by decide +kernel
theorem dX2_heaviestAmong_32 : decode cX2_heaviestAmong 32 = .ok (.getfield 15, 3) := by decide +kernel
theorem dX2_heaviestAmong_35 : decode cX2_heaviestAmong 35 = .ok (.iload 5, 2) := by decide +kernel
theorem dX2_heaviestAmong_37 : decode cX2_heaviestAmong 37 = .ok (.invokevirtual 78, 3) := by decide +kernel
theorem dX2_heaviestAmong_40 : decode cX2_heaviestAmong 40 = .ok (.istore 6, 2) := by decide +kernel
theorem dX2_heaviestAmong_42 : decode cX2_heaviestAmong 42 = .ok (.iload 6, 2) := by decide +kernel
theorem dX2_heaviestAmong_44 : decode cX2_heaviestAmong 44 = .ok (.iload_n 3, 1) := by decide +kernel
theorem dX2_heaviestAmong_45 : decode cX2_heaviestAmong 45 = .ok (.if_icmp .gt 15, 3) := by decide +kernel
theorem dX2_heaviestAmong_48 : decode cX2_heaviestAmong 48 = .ok (.iload 6, 2) := by decide +kernel
theorem dX2_heaviestAmong_50 : decode cX2_heaviestAmong 50 = .ok (.iload_n 3, 1) := by decide +kernel
theorem dX2_heaviestAmong_51 : decode cX2_heaviestAmong 51 = .ok (.if_icmp .ne 15, 3) := by decide +kernel
theorem dX2_heaviestAmong_54 : decode cX2_heaviestAmong 54 = .ok (.iload 5, 2) := by decide +kernel
theorem dX2_heaviestAmong_56 : decode cX2_heaviestAmong 56 = .ok (.iload_n 2, 1) := by decide +kernel
theorem dX2_heaviestAmong_57 : decode cX2_heaviestAmong 57 = .ok (.if_icmp .ge 9, 3) := by decide +kernel
theorem dX2_heaviestAmong_60 : decode cX2_heaviestAmong 60 = .ok (.iload 5, 2) := by decide +kernel
theorem dX2_heaviestAmong_62 : decode cX2_heaviestAmong 62 = .ok (.istore_n 2, 1) := by decide +kernel
theorem dX2_heaviestAmong_63 : decode cX2_heaviestAmong 63 = .ok (.iload 6, 2) := by decide +kernel
theorem dX2_heaviestAmong_65 : decode cX2_heaviestAmong 65 = .ok (.istore_n 3, 1) := by decide +kernel
theorem dX2_heaviestAmong_66 : decode cX2_heaviestAmong 66 = .ok (.iinc 4 1, 3) := by decide +kernel
theorem dX2_heaviestAmong_69 : decode cX2_heaviestAmong 69 = .ok (.goto (-62), 3) := by decide +kernel
theorem dX2_heaviestAmong_72 : decode cX2_heaviestAmong 72 = .ok (.iload_n 2, 1) := by decide +kernel
theorem dX2_heaviestAmong_73 : decode cX2_heaviestAmong 73 = .ok (.ireturn, 1) := by decide +kernel
theorem dX2_hasMore_0 : decode cX2_hasMore 0 = .ok (.iconst 0, 1) := by decide +kernel
theorem dX2_hasMore_1 : decode cX2_hasMore 1 = .ok (.istore_n 3, 1) := by decide +kernel
theorem dX2_hasMore_2 : decode cX2_hasMore 2 = .ok (.iload_n 3, 1) := by decide +kernel
theorem dX2_hasMore_3 : decode cX2_hasMore 3 = .ok (.sipush 576, 3) := by decide +kernel
theorem dX2_hasMore_6 : decode cX2_hasMore 6 = .ok (.if_icmp .ge 30, 3) := by decide +kernel
theorem dX2_hasMore_9 : decode cX2_hasMore 9 = .ok (.aload_n 0, 1) := by decide +kernel
theorem dX2_hasMore_10 : decode cX2_hasMore 10 = .ok (.getfield 15, 3) := by decide +kernel
theorem dX2_hasMore_13 : decode cX2_hasMore 13 = .ok (.aload_n 0, 1) := by decide +kernel
theorem dX2_hasMore_14 : decode cX2_hasMore 14 = .ok (.getfield 11, 3) := by decide +kernel
theorem dX2_hasMore_17 : decode cX2_hasMore 17 = .ok (.iload_n 3, 1) := by decide +kernel
theorem dX2_hasMore_18 : decode cX2_hasMore 18 = .ok (.iaload, 1) := by decide +kernel
theorem dX2_hasMore_19 : decode cX2_hasMore 19 = .ok (.iload_n 1, 1) := by decide +kernel
theorem dX2_hasMore_20 : decode cX2_hasMore 20 = .ok (.iand, 1) := by decide +kernel
theorem dX2_hasMore_21 : decode cX2_hasMore 21 = .ok (.invokevirtual 78, 3) := by decide +kernel
theorem dX2_hasMore_24 : decode cX2_hasMore 24 = .ok (.iload_n 2, 1) := by decide +kernel
theorem dX2_hasMore_25 : decode cX2_hasMore 25 = .ok (.if_icmp .le 5, 3) := by decide +kernel
theorem dX2_hasMore_28 : decode cX2_hasMore 28 = .ok (.iconst 1, 1) := by decide +kernel
theorem dX2_hasMore_29 : decode cX2_hasMore 29 = .ok (.ireturn, 1) := by decide +kernel
theorem dX2_hasMore_30 : decode cX2_hasMore 30 = .ok (.iinc 3 1, 3) := by decide +kernel
theorem dX2_hasMore_33 : decode cX2_hasMore 33 = .ok (.goto (-31), 3) := by decide +kernel
theorem dX2_hasMore_36 : decode cX2_hasMore 36 = .ok (.iconst 0, 1) := by decide +kernel
theorem dX2_hasMore_37 : decode cX2_hasMore 37 = .ok (.ireturn, 1) := by decide +kernel
theorem dX2_bounding_0 : decode cX2_bounding 0 = .ok (.iconst 0, 1) := by decide +kernel
theorem dX2_bounding_1 : decode cX2_bounding 1 = .ok (.istore_n 2, 1) := by decide +kernel
theorem dX2_bounding_2 : decode cX2_bounding 2 = .ok (.iload_n 2, 1) := by decide +kernel
theorem dX2_bounding_3 : decode cX2_bounding 3 = .ok (.bipush 24, 2) := by decide +kernel
theorem dX2_bounding_5 : decode cX2_bounding 5 = .ok (.if_icmp .ge 39, 3) := by decide +kernel
theorem dX2_bounding_8 : decode cX2_bounding 8 = .ok (.iload_n 1, 1) := by decide +kernel
theorem dX2_bounding_9 : decode cX2_bounding 9 = .ok (.iload_n 2, 1) := by decide +kernel
theorem dX2_bounding_10 : decode cX2_bounding 10 = .ok (.invokestatic 32, 3) := by decide +kernel
theorem dX2_bounding_13 : decode cX2_bounding 13 = .ok (.ifCond .eq 25, 3) := by decide +kernel
theorem dX2_bounding_16 : decode cX2_bounding 16 = .ok (.aload_n 0, 1) := by decide +kernel
theorem dX2_bounding_17 : decode cX2_bounding 17 = .ok (.getfield 11, 3) := by decide +kernel
theorem dX2_bounding_20 : decode cX2_bounding 20 = .ok (.iload_n 2, 1) := by decide +kernel
theorem dX2_bounding_21 : decode cX2_bounding 21 = .ok (.bipush 24, 2) := by decide +kernel
theorem dX2_bounding_23 : decode cX2_bounding 23 = .ok (.imul, 1) := by decide +kernel
theorem dX2_bounding_24 : decode cX2_bounding 24 = .ok (.iload_n 2, 1) := by decide +kernel
theorem dX2_bounding_25 : decode cX2_bounding 25 = .ok (.iadd, 1) := by decide +kernel
theorem dX2_bounding_26 : decode cX2_bounding 26 = .ok (.iaload, 1) := by decide +kernel
theorem dX2_bounding_27 : decode cX2_bounding 27 = .ok (.iload_n 1, 1) := by decide +kernel
theorem dX2_bounding_28 : decode cX2_bounding 28 = .ok (.if_icmp .ne 10, 3) := by decide +kernel
theorem dX2_bounding_31 : decode cX2_bounding 31 = .ok (.iload_n 2, 1) := by decide +kernel
theorem dX2_bounding_32 : decode cX2_bounding 32 = .ok (.bipush 24, 2) := by decide +kernel
theorem dX2_bounding_34 : decode cX2_bounding 34 = .ok (.imul, 1) := by decide +kernel
theorem dX2_bounding_35 : decode cX2_bounding 35 = .ok (.iload_n 2, 1) := by decide +kernel
theorem dX2_bounding_36 : decode cX2_bounding 36 = .ok (.iadd, 1) := by decide +kernel
theorem dX2_bounding_37 : decode cX2_bounding 37 = .ok (.ireturn, 1) := by decide +kernel
theorem dX2_bounding_38 : decode cX2_bounding 38 = .ok (.iinc 2 1, 3) := by decide +kernel
theorem dX2_bounding_41 : decode cX2_bounding 41 = .ok (.goto (-39), 3) := by decide +kernel
theorem dX2_bounding_44 : decode cX2_bounding 44 = .ok (.iconst 0, 1) := by decide +kernel
theorem dX2_bounding_45 : decode cX2_bounding 45 = .ok (.istore_n 2, 1) := by decide +kernel
theorem dX2_bounding_46 : decode cX2_bounding 46 = .ok (.iload_n 2, 1) := by decide +kernel
theorem dX2_bounding_47 : decode cX2_bounding 47 = .ok (.bipush 24, 2) := by decide +kernel
theorem dX2_bounding_49 : decode cX2_bounding 49 = .ok (.if_icmp .ge 85, 3) := by decide +kernel
theorem dX2_bounding_52 : decode cX2_bounding 52 = .ok (.iload_n 2, 1) := by decide +kernel
theorem dX2_bounding_53 : decode cX2_bounding 53 = .ok (.iconst 1, 1) := by decide +kernel
theorem dX2_bounding_54 : decode cX2_bounding 54 = .ok (.iadd, 1) := by decide +kernel
theorem dX2_bounding_55 : decode cX2_bounding 55 = .ok (.istore_n 3, 1) := by decide +kernel
theorem dX2_bounding_56 : decode cX2_bounding 56 = .ok (.iload_n 3, 1) := by decide +kernel
theorem dX2_bounding_57 : decode cX2_bounding 57 = .ok (.bipush 24, 2) := by decide +kernel
theorem dX2_bounding_59 : decode cX2_bounding 59 = .ok (.if_icmp .ge 69, 3) := by decide +kernel
theorem dX2_bounding_62 : decode cX2_bounding 62 = .ok (.iload_n 1, 1) := by decide +kernel
theorem dX2_bounding_63 : decode cX2_bounding 63 = .ok (.iload_n 2, 1) := by decide +kernel
theorem dX2_bounding_64 : decode cX2_bounding 64 = .ok (.invokestatic 32, 3) := by decide +kernel
theorem dX2_bounding_67 : decode cX2_bounding 67 = .ok (.ifCond .eq 55, 3) := by decide +kernel
theorem dX2_bounding_70 : decode cX2_bounding 70 = .ok (.iload_n 1, 1) := by decide +kernel
theorem dX2_bounding_71 : decode cX2_bounding 71 = .ok (.iload_n 3, 1) := by decide +kernel
theorem dX2_bounding_72 : decode cX2_bounding 72 = .ok (.invokestatic 32, 3) := by decide +kernel
theorem dX2_bounding_75 : decode cX2_bounding 75 = .ok (.ifCond .eq 47, 3) := by decide +kernel
theorem dX2_bounding_78 : decode cX2_bounding 78 = .ok (.aload_n 0, 1) := by decide +kernel
theorem dX2_bounding_79 : decode cX2_bounding 79 = .ok (.getfield 11, 3) := by decide +kernel
theorem dX2_bounding_82 : decode cX2_bounding 82 = .ok (.iload_n 2, 1) := by decide +kernel
theorem dX2_bounding_83 : decode cX2_bounding 83 = .ok (.bipush 24, 2) := by decide +kernel
theorem dX2_bounding_85 : decode cX2_bounding 85 = .ok (.imul, 1) := by decide +kernel
theorem dX2_bounding_86 : decode cX2_bounding 86 = .ok (.iload_n 3, 1) := by decide +kernel
theorem dX2_bounding_87 : decode cX2_bounding 87 = .ok (.iadd, 1) := by decide +kernel
theorem dX2_bounding_88 : decode cX2_bounding 88 = .ok (.iaload, 1) := by decide +kernel
theorem dX2_bounding_89 : decode cX2_bounding 89 = .ok (.iload_n 1, 1) := by decide +kernel
theorem dX2_bounding_90 : decode cX2_bounding 90 = .ok (.if_icmp .ne 10, 3) := by decide +kernel
theorem dX2_bounding_93 : decode cX2_bounding 93 = .ok (.iload_n 2, 1) := by decide +kernel
theorem dX2_bounding_94 : decode cX2_bounding 94 = .ok (.bipush 24, 2) := by decide +kernel
theorem dX2_bounding_96 : decode cX2_bounding 96 = .ok (.imul, 1) := by decide +kernel
theorem dX2_bounding_97 : decode cX2_bounding 97 = .ok (.iload_n 3, 1) := by decide +kernel
theorem dX2_bounding_98 : decode cX2_bounding 98 = .ok (.iadd, 1) := by decide +kernel
theorem dX2_bounding_99 : decode cX2_bounding 99 = .ok (.ireturn, 1) := by decide +kernel
theorem dX2_bounding_100 : decode cX2_bounding 100 = .ok (.aload_n 0, 1) := by decide +kernel
theorem dX2_bounding_101 : decode cX2_bounding 101 = .ok (.getfield 11, 3) := by decide +kernel
theorem dX2_bounding_104 : decode cX2_bounding 104 = .ok (.iload_n 3, 1) := by decide +kernel
theorem dX2_bounding_105 : decode cX2_bounding 105 = .ok (.bipush 24, 2) := by decide +kernel
theorem dX2_bounding_107 : decode cX2_bounding 107 = .ok (.imul, 1) := by decide +kernel
theorem dX2_bounding_108 : decode cX2_bounding 108 = .ok (.iload_n 2, 1) := by decide +kernel
theorem dX2_bounding_109 : decode cX2_bounding 109 = .ok (.iadd, 1) := by decide +kernel
theorem dX2_bounding_110 : decode cX2_bounding 110 = .ok (.iaload, 1) := by decide +kernel
theorem dX2_bounding_111 : decode cX2_bounding 111 = .ok (.iload_n 1, 1) := by decide +kernel
theorem dX2_bounding_112 : decode cX2_bounding 112 = .ok (.if_icmp .ne 10, 3) := by decide +kernel
theorem dX2_bounding_115 : decode cX2_bounding 115 = .ok (.iload_n 3, 1) := by decide +kernel
theorem dX2_bounding_116 : decode cX2_bounding 116 = .ok (.bipush 24, 2) := by decide +kernel
theorem dX2_bounding_118 : decode cX2_bounding 118 = .ok (.imul, 1) := by decide +kernel
theorem dX2_bounding_119 : decode cX2_bounding 119 = .ok (.iload_n 2, 1) := by decide +kernel
theorem dX2_bounding_120 : decode cX2_bounding 120 = .ok (.iadd, 1) := by decide +kernel
theorem dX2_bounding_121 : decode cX2_bounding 121 = .ok (.ireturn, 1) := by decide +kernel
theorem dX2_bounding_122 : decode cX2_bounding 122 = .ok (.iinc 3 1, 3) := by decide +kernel
theorem dX2_bounding_125 : decode cX2_bounding 125 = .ok (.goto (-69), 3) := by decide +kernel
theorem dX2_bounding_128 : decode cX2_bounding 128 = .ok (.iinc 2 1, 3) := by decide +kernel
theorem dX2_bounding_131 : decode cX2_bounding 131 = .ok (.goto (-85), 3) := by decide +kernel
theorem dX2_bounding_134 : decode cX2_bounding 134 = .ok (.iconst 0, 1) := by decide +kernel
theorem dX2_bounding_135 : decode cX2_bounding 135 = .ok (.ireturn, 1) := by decide +kernel
theorem dX2_joined_0 : decode cX2_joined 0 = .ok (.iload_n 3, 1) := by decide +kernel
theorem dX2_joined_1 : decode cX2_joined 1 = .ok (.aload_n 0, 1) := by decide +kernel
theorem dX2_joined_2 : decode cX2_joined 2 = .ok (.getfield 23, 3) := by decide +kernel
theorem dX2_joined_5 : decode cX2_joined 5 = .ok (.iand, 1) := by decide +kernel
theorem dX2_joined_6 : decode cX2_joined 6 = .ok (.aload_n 0, 1) := by decide +kernel
theorem dX2_joined_7 : decode cX2_joined 7 = .ok (.getfield 15, 3) := by decide +kernel
theorem dX2_joined_10 : decode cX2_joined 10 = .ok (.iload_n 1, 1) := by decide +kernel
theorem dX2_joined_11 : decode cX2_joined 11 = .ok (.iload_n 2, 1) := by decide +kernel
theorem dX2_joined_12 : decode cX2_joined 12 = .ok (.iconst 2, 1) := by decide +kernel
theorem dX2_joined_13 : decode cX2_joined 13 = .ok (.aload_n 0, 1) := by decide +kernel
theorem dX2_joined_14 : decode cX2_joined 14 = .ok (.getfield 19, 3) := by decide +kernel
theorem dX2_joined_17 : decode cX2_joined 17 = .ok (.imul, 1) := by decide +kernel
theorem dX2_joined_18 : decode cX2_joined 18 = .ok (.invokevirtual 52, 3) := by decide +kernel
theorem dX2_joined_21 : decode cX2_joined 21 = .ok (.iand, 1) := by decide +kernel
theorem dX2_joined_22 : decode cX2_joined 22 = .ok (.istore 5, 2) := by decide +kernel
theorem dX2_joined_24 : decode cX2_joined 24 = .ok (.iload 4, 2) := by decide +kernel
theorem dX2_joined_26 : decode cX2_joined 26 = .ok (.aload_n 0, 1) := by decide +kernel
theorem dX2_joined_27 : decode cX2_joined 27 = .ok (.getfield 15, 3) := by decide +kernel
theorem dX2_joined_30 : decode cX2_joined 30 = .ok (.iload 5, 2) := by decide +kernel
theorem dX2_joined_32 : decode cX2_joined 32 = .ok (.aload_n 0, 1) := by decide +kernel
theorem dX2_joined_33 : decode cX2_joined 33 = .ok (.getfield 15, 3) := by decide +kernel
theorem dX2_joined_36 : decode cX2_joined 36 = .ok (.iload_n 1, 1) := by decide +kernel
theorem dX2_joined_37 : decode cX2_joined 37 = .ok (.iload_n 2, 1) := by decide +kernel
theorem dX2_joined_38 : decode cX2_joined 38 = .ok (.aload_n 0, 1) := by decide +kernel
theorem dX2_joined_39 : decode cX2_joined 39 = .ok (.getfield 19, 3) := by decide +kernel
theorem dX2_joined_42 : decode cX2_joined 42 = .ok (.invokevirtual 52, 3) := by decide +kernel
theorem dX2_joined_45 : decode cX2_joined 45 = .ok (.iand, 1) := by decide +kernel
theorem dX2_joined_46 : decode cX2_joined 46 = .ok (.invokevirtual 78, 3) := by decide +kernel
theorem dX2_joined_49 : decode cX2_joined 49 = .ok (.invokestatic 82, 3) := by decide +kernel
theorem dX2_joined_52 : decode cX2_joined 52 = .ok (.istore 6, 2) := by decide +kernel
theorem dX2_joined_54 : decode cX2_joined 54 = .ok (.aload_n 0, 1) := by decide +kernel
theorem dX2_joined_55 : decode cX2_joined 55 = .ok (.getfield 15, 3) := by decide +kernel
theorem dX2_joined_58 : decode cX2_joined 58 = .ok (.iload 5, 2) := by decide +kernel
theorem dX2_joined_60 : decode cX2_joined 60 = .ok (.invokevirtual 78, 3) := by decide +kernel
theorem dX2_joined_63 : decode cX2_joined 63 = .ok (.iload 6, 2) := by decide +kernel
theorem dX2_joined_65 : decode cX2_joined 65 = .ok (.if_icmp .gt 6, 3) := by decide +kernel
theorem dX2_joined_68 : decode cX2_joined 68 = .ok (.iload 6, 2) := by decide +kernel
theorem dX2_joined_70 : decode cX2_joined 70 = .ok (.ireturn, 1) := by decide +kernel
theorem dX2_joined_71 : decode cX2_joined 71 = .ok (.iconst 0, 1) := by decide +kernel
theorem dX2_joined_72 : decode cX2_joined 72 = .ok (.istore 7, 2) := by decide +kernel
theorem dX2_joined_74 : decode cX2_joined 74 = .ok (.iload 7, 2) := by decide +kernel
theorem dX2_joined_76 : decode cX2_joined 76 = .ok (.bipush 24, 2) := by decide +kernel
theorem dX2_joined_78 : decode cX2_joined 78 = .ok (.if_icmp .ge 61, 3) := by decide +kernel
theorem dX2_joined_81 : decode cX2_joined 81 = .ok (.iload 5, 2) := by decide +kernel
theorem dX2_joined_83 : decode cX2_joined 83 = .ok (.iload 7, 2) := by decide +kernel
theorem dX2_joined_85 : decode cX2_joined 85 = .ok (.invokestatic 32, 3) := by decide +kernel
theorem dX2_joined_88 : decode cX2_joined 88 = .ok (.ifCond .eq 45, 3) := by decide +kernel
theorem dX2_joined_91 : decode cX2_joined 91 = .ok (.aload_n 0, 1) := by decide +kernel
theorem dX2_joined_92 : decode cX2_joined 92 = .ok (.iload_n 1, 1) := by decide +kernel
theorem dX2_joined_93 : decode cX2_joined 93 = .ok (.iload_n 2, 1) := by decide +kernel
theorem dX2_joined_94 : decode cX2_joined 94 = .ok (.iload 7, 2) := by decide +kernel
theorem dX2_joined_96 : decode cX2_joined 96 = .ok (.iload 5, 2) := by decide +kernel
theorem dX2_joined_98 : decode cX2_joined 98 = .ok (.invokevirtual 60, 3) := by decide +kernel
theorem dX2_joined_101 : decode cX2_joined 101 = .ok (.iload 6, 2) := by decide +kernel
theorem dX2_joined_103 : decode cX2_joined 103 = .ok (.aload_n 0, 1) := by decide +kernel
theorem dX2_joined_104 : decode cX2_joined 104 = .ok (.getfield 15, 3) := by decide +kernel
theorem dX2_joined_107 : decode cX2_joined 107 = .ok (.aload_n 0, 1) := by decide +kernel
theorem dX2_joined_108 : decode cX2_joined 108 = .ok (.getfield 64, 3) := by decide +kernel
theorem dX2_joined_111 : decode cX2_joined 111 = .ok (.invokevirtual 78, 3) := by decide +kernel
theorem dX2_joined_114 : decode cX2_joined 114 = .ok (.aload_n 0, 1) := by decide +kernel
theorem dX2_joined_115 : decode cX2_joined 115 = .ok (.getfield 15, 3) := by decide +kernel
theorem dX2_joined_118 : decode cX2_joined 118 = .ok (.aload_n 0, 1) := by decide +kernel
theorem dX2_joined_119 : decode cX2_joined 119 = .ok (.getfield 67, 3) := by decide +kernel
theorem dX2_joined_122 : decode cX2_joined 122 = .ok (.invokevirtual 78, 3) := by decide +kernel
theorem dX2_joined_125 : decode cX2_joined 125 = .ok (.invokestatic 82, 3) := by decide +kernel
theorem dX2_joined_128 : decode cX2_joined 128 = .ok (.invokestatic 82, 3) := by decide +kernel
theorem dX2_joined_131 : decode cX2_joined 131 = .ok (.istore 6, 2) := by decide +kernel
theorem dX2_joined_133 : decode cX2_joined 133 = .ok (.iinc 7 1, 3) := by decide +kernel
theorem dX2_joined_136 : decode cX2_joined 136 = .ok (.goto (-62), 3) := by decide +kernel
theorem dX2_joined_139 : decode cX2_joined 139 = .ok (.iconst 0, 1) := by decide +kernel
theorem dX2_joined_140 : decode cX2_joined 140 = .ok (.istore 7, 2) := by decide +kernel
theorem dX2_joined_142 : decode cX2_joined 142 = .ok (.iload 7, 2) := by decide +kernel
theorem dX2_joined_144 : decode cX2_joined 144 = .ok (.bipush 24, 2) := by decide +kernel
theorem dX2_joined_146 : decode cX2_joined 146 = .ok (.if_icmp .ge 69, 3) := by decide +kernel
theorem dX2_joined_149 : decode cX2_joined 149 = .ok (.iload 7, 2) := by decide +kernel
theorem dX2_joined_151 : decode cX2_joined 151 = .ok (.iconst 1, 1) := by decide +kernel
theorem dX2_joined_152 : decode cX2_joined 152 = .ok (.iadd, 1) := by decide +kernel
theorem dX2_joined_153 : decode cX2_joined 153 = .ok (.istore 8, 2) := by decide +kernel
theorem dX2_joined_155 : decode cX2_joined 155 = .ok (.iload 8, 2) := by decide +kernel
theorem dX2_joined_157 : decode cX2_joined 157 = .ok (.bipush 24, 2) := by decide +kernel
theorem dX2_joined_159 : decode cX2_joined 159 = .ok (.if_icmp .ge 50, 3) := by decide +kernel
theorem dX2_joined_162 : decode cX2_joined 162 = .ok (.iload 5, 2) := by decide +kernel
theorem dX2_joined_164 : decode cX2_joined 164 = .ok (.iload 7, 2) := by decide +kernel
theorem dX2_joined_166 : decode cX2_joined 166 = .ok (.invokestatic 32, 3) := by decide +kernel
theorem dX2_joined_169 : decode cX2_joined 169 = .ok (.ifCond .eq 34, 3) := by decide +kernel
theorem dX2_joined_172 : decode cX2_joined 172 = .ok (.iload 5, 2) := by decide +kernel
theorem dX2_joined_174 : decode cX2_joined 174 = .ok (.iload 8, 2) := by decide +kernel
theorem dX2_joined_176 : decode cX2_joined 176 = .ok (.invokestatic 32, 3) := by decide +kernel
theorem dX2_joined_179 : decode cX2_joined 179 = .ok (.ifCond .eq 24, 3) := by decide +kernel
theorem dX2_joined_182 : decode cX2_joined 182 = .ok (.iload 6, 2) := by decide +kernel
theorem dX2_joined_184 : decode cX2_joined 184 = .ok (.aload_n 0, 1) := by decide +kernel
theorem dX2_joined_185 : decode cX2_joined 185 = .ok (.iload 7, 2) := by decide +kernel
theorem dX2_joined_187 : decode cX2_joined 187 = .ok (.iload 8, 2) := by decide +kernel
theorem dX2_joined_189 : decode cX2_joined 189 = .ok (.iload_n 1, 1) := by decide +kernel
theorem dX2_joined_190 : decode cX2_joined 190 = .ok (.iload_n 2, 1) := by decide +kernel
theorem dX2_joined_191 : decode cX2_joined 191 = .ok (.iload 5, 2) := by decide +kernel
theorem dX2_joined_193 : decode cX2_joined 193 = .ok (.iload 6, 2) := by decide +kernel
theorem dX2_joined_195 : decode cX2_joined 195 = .ok (.invokevirtual 88, 3) := by decide +kernel
theorem dX2_joined_198 : decode cX2_joined 198 = .ok (.invokestatic 82, 3) := by decide +kernel
theorem dX2_joined_201 : decode cX2_joined 201 = .ok (.istore 6, 2) := by decide +kernel
theorem dX2_joined_203 : decode cX2_joined 203 = .ok (.iinc 8 1, 3) := by decide +kernel
theorem dX2_joined_206 : decode cX2_joined 206 = .ok (.goto (-51), 3) := by decide +kernel
theorem dX2_joined_209 : decode cX2_joined 209 = .ok (.iinc 7 1, 3) := by decide +kernel
theorem dX2_joined_212 : decode cX2_joined 212 = .ok (.goto (-70), 3) := by decide +kernel
theorem dX2_joined_215 : decode cX2_joined 215 = .ok (.iload 6, 2) := by decide +kernel
theorem dX2_joined_217 : decode cX2_joined 217 = .ok (.ireturn, 1) := by decide +kernel
theorem dX2_onOthers_0 : decode cX2_onOthers 0 = .ok (.iload_n 1, 1) := by decide +kernel
theorem dX2_onOthers_1 : decode cX2_onOthers 1 = .ok (.invokestatic 40, 3) := by decide +kernel
theorem dX2_onOthers_4 : decode cX2_onOthers 4 = .ok (.ifCond .eq 10, 3) := by decide +kernel
theorem dX2_onOthers_7 : decode cX2_onOthers 7 = .ok (.iload_n 2, 1) := by decide +kernel
theorem dX2_onOthers_8 : decode cX2_onOthers 8 = .ok (.invokestatic 40, 3) := by decide +kernel
theorem dX2_onOthers_11 : decode cX2_onOthers 11 = .ok (.ifCond .ne 6, 3) := by decide +kernel
theorem dX2_onOthers_14 : decode cX2_onOthers 14 = .ok (.iload 6, 2) := by decide +kernel
theorem dX2_onOthers_16 : decode cX2_onOthers 16 = .ok (.ireturn, 1) := by decide +kernel
theorem dX2_onOthers_17 : decode cX2_onOthers 17 = .ok (.aload_n 0, 1) := by decide +kernel
theorem dX2_onOthers_18 : decode cX2_onOthers 18 = .ok (.getfield 15, 3) := by decide +kernel
theorem dX2_onOthers_21 : decode cX2_onOthers 21 = .ok (.aload_n 0, 1) := by decide +kernel
theorem dX2_onOthers_22 : decode cX2_onOthers 22 = .ok (.getfield 11, 3) := by decide +kernel
theorem dX2_onOthers_25 : decode cX2_onOthers 25 = .ok (.iload_n 1, 1) := by decide +kernel
theorem dX2_onOthers_26 : decode cX2_onOthers 26 = .ok (.bipush 24, 2) := by decide +kernel
theorem dX2_onOthers_28 : decode cX2_onOthers 28 = .ok (.imul, 1) := by decide +kernel
theorem dX2_onOthers_29 : decode cX2_onOthers 29 = .ok (.iload_n 2, 1) := by decide +kernel
theorem dX2_onOthers_30 : decode cX2_onOthers 30 = .ok (.iadd, 1) := by decide +kernel
theorem dX2_onOthers_31 : decode cX2_onOthers 31 = .ok (.iaload, 1) := by decide +kernel
theorem dX2_onOthers_32 : decode cX2_onOthers 32 = .ok (.iload 5, 2) := by decide +kernel
theorem dX2_onOthers_34 : decode cX2_onOthers 34 = .ok (.iand, 1) := by decide +kernel
theorem dX2_onOthers_35 : decode cX2_onOthers 35 = .ok (.invokevirtual 78, 3) := by decide +kernel
theorem dX2_onOthers_38 : decode cX2_onOthers 38 = .ok (.istore 7, 2) := by decide +kernel
theorem dX2_onOthers_40 : decode cX2_onOthers 40 = .ok (.aload_n 0, 1) := by decide +kernel
theorem dX2_onOthers_41 : decode cX2_onOthers 41 = .ok (.getfield 15, 3) := by decide +kernel
theorem dX2_onOthers_44 : decode cX2_onOthers 44 = .ok (.aload_n 0, 1) := by decide +kernel
theorem dX2_onOthers_45 : decode cX2_onOthers 45 = .ok (.getfield 11, 3) := by decide +kernel
theorem dX2_onOthers_48 : decode cX2_onOthers 48 = .ok (.iload_n 2, 1) := by decide +kernel
theorem dX2_onOthers_49 : decode cX2_onOthers 49 = .ok (.bipush 24, 2) := by decide +kernel
theorem dX2_onOthers_51 : decode cX2_onOthers 51 = .ok (.imul, 1) := by decide +kernel
theorem dX2_onOthers_52 : decode cX2_onOthers 52 = .ok (.iload_n 1, 1) := by decide +kernel
theorem dX2_onOthers_53 : decode cX2_onOthers 53 = .ok (.iadd, 1) := by decide +kernel
theorem dX2_onOthers_54 : decode cX2_onOthers 54 = .ok (.iaload, 1) := by decide +kernel
theorem dX2_onOthers_55 : decode cX2_onOthers 55 = .ok (.iload 5, 2) := by decide +kernel
theorem dX2_onOthers_57 : decode cX2_onOthers 57 = .ok (.iand, 1) := by decide +kernel
theorem dX2_onOthers_58 : decode cX2_onOthers 58 = .ok (.invokevirtual 78, 3) := by decide +kernel
theorem dX2_onOthers_61 : decode cX2_onOthers 61 = .ok (.istore 8, 2) := by decide +kernel
theorem dX2_onOthers_63 : decode cX2_onOthers 63 = .ok (.iload 7, 2) := by decide +kernel
theorem dX2_onOthers_65 : decode cX2_onOthers 65 = .ok (.iload 6, 2) := by decide +kernel
theorem dX2_onOthers_67 : decode cX2_onOthers 67 = .ok (.if_icmp .gt 13, 3) := by decide +kernel
theorem dX2_onOthers_70 : decode cX2_onOthers 70 = .ok (.iload 8, 2) := by decide +kernel
theorem dX2_onOthers_72 : decode cX2_onOthers 72 = .ok (.iload 6, 2) := by decide +kernel
theorem dX2_onOthers_74 : decode cX2_onOthers 74 = .ok (.if_icmp .gt 6, 3) := by decide +kernel
theorem dX2_onOthers_77 : decode cX2_onOthers 77 = .ok (.iload 6, 2) := by decide +kernel
theorem dX2_onOthers_79 : decode cX2_onOthers 79 = .ok (.ireturn, 1) := by decide +kernel
theorem dX2_onOthers_80 : decode cX2_onOthers 80 = .ok (.aload_n 0, 1) := by decide +kernel
theorem dX2_onOthers_81 : decode cX2_onOthers 81 = .ok (.iload_n 1, 1) := by decide +kernel
theorem dX2_onOthers_82 : decode cX2_onOthers 82 = .ok (.iload_n 2, 1) := by decide +kernel
theorem dX2_onOthers_83 : decode cX2_onOthers 83 = .ok (.iload_n 3, 1) := by decide +kernel
theorem dX2_onOthers_84 : decode cX2_onOthers 84 = .ok (.iload 4, 2) := by decide +kernel
theorem dX2_onOthers_86 : decode cX2_onOthers 86 = .ok (.invokevirtual 70, 3) := by decide +kernel
theorem dX2_onOthers_89 : decode cX2_onOthers 89 = .ok (.istore 9, 2) := by decide +kernel
theorem dX2_onOthers_91 : decode cX2_onOthers 91 = .ok (.iload 9, 2) := by decide +kernel
theorem dX2_onOthers_93 : decode cX2_onOthers 93 = .ok (.iconst 1, 1) := by decide +kernel
theorem dX2_onOthers_94 : decode cX2_onOthers 94 = .ok (.iand, 1) := by decide +kernel
theorem dX2_onOthers_95 : decode cX2_onOthers 95 = .ok (.ifCond .eq 8, 3) := by decide +kernel
theorem dX2_onOthers_98 : decode cX2_onOthers 98 = .ok (.iload 7, 2) := by decide +kernel
theorem dX2_onOthers_100 : decode cX2_onOthers 100 = .ok (.goto 5, 3) := by decide +kernel
theorem dX2_onOthers_103 : decode cX2_onOthers 103 = .ok (.iload 6, 2) := by decide +kernel
theorem dX2_onOthers_105 : decode cX2_onOthers 105 = .ok (.iload 9, 2) := by decide +kernel
theorem dX2_onOthers_107 : decode cX2_onOthers 107 = .ok (.iconst 2, 1) := by decide +kernel
theorem dX2_onOthers_108 : decode cX2_onOthers 108 = .ok (.iand, 1) := by decide +kernel
theorem dX2_onOthers_109 : decode cX2_onOthers 109 = .ok (.ifCond .eq 8, 3) := by decide +kernel
theorem dX2_onOthers_112 : decode cX2_onOthers 112 = .ok (.iload 8, 2) := by decide +kernel
theorem dX2_onOthers_114 : decode cX2_onOthers 114 = .ok (.goto 5, 3) := by decide +kernel
theorem dX2_onOthers_117 : decode cX2_onOthers 117 = .ok (.iload 6, 2) := by decide +kernel
theorem dX2_onOthers_119 : decode cX2_onOthers 119 = .ok (.invokestatic 82, 3) := by decide +kernel
theorem dX2_onOthers_122 : decode cX2_onOthers 122 = .ok (.ireturn, 1) := by decide +kernel
theorem dX3_init_0 : decode cX3_init 0 = .ok (.aload_n 0, 1) := by decide +kernel
theorem dX3_init_1 : decode cX3_init 1 = .ok (.invokespecial 3, 3) := by decide +kernel
theorem dX3_init_4 : decode cX3_init 4 = .ok (.aload_n 0, 1) := by decide +kernel
theorem dX3_init_5 : decode cX3_init 5 = .ok (.sipush 576, 3) := by decide +kernel
theorem dX3_init_8 : decode cX3_init 8 = .ok (.newarray .int, 2) := by decide +kernel
theorem dX3_init_10 : decode cX3_init 10 = .ok (.putfield 9, 3) := by decide +kernel
theorem dX3_init_13 : decode cX3_init 13 = .ok (.return_, 1) := by decide +kernel
theorem dX3_gather_0 : decode cX3_gather 0 = .ok (.aload_n 0, 1) := by decide +kernel
theorem dX3_gather_1 : decode cX3_gather 1 = .ok (.iconst 0, 1) := by decide +kernel
theorem dX3_gather_2 : decode cX3_gather 2 = .ok (.putfield 15, 3) := by decide +kernel
theorem dX3_gather_5 : decode cX3_gather 5 = .ok (.iconst 0, 1) := by decide +kernel
theorem dX3_gather_6 : decode cX3_gather 6 = .ok (.istore_n 2, 1) := by decide +kernel
theorem dX3_gather_7 : decode cX3_gather 7 = .ok (.iload_n 2, 1) := by decide +kernel
theorem dX3_gather_8 : decode cX3_gather 8 = .ok (.aload_n 0, 1) := by decide +kernel
theorem dX3_gather_9 : decode cX3_gather 9 = .ok (.getfield 9, 3) := by decide +kernel
theorem dX3_gather_12 : decode cX3_gather 12 = .ok (.arraylength, 1) := by decide +kernel
theorem dX3_gather_13 : decode cX3_gather 13 = .ok (.if_icmp .ge 26, 3) := by decide +kernel
theorem dX3_gather_16 : decode cX3_gather 16 = .ok (.aload_n 1, 1) := by decide +kernel
theorem dX3_gather_17 : decode cX3_gather 17 = .ok (.iload_n 2, 1) := by decide +kernel
theorem dX3_gather_18 : decode cX3_gather 18 = .ok (.invokevirtual 19, 3) := by decide +kernel
theorem dX3_gather_21 : decode cX3_gather 21 = .ok (.ifCond .eq 12, 3) := by decide +kernel
theorem dX3_gather_24 : decode cX3_gather 24 = .ok (.aload_n 0, 1) := by decide +kernel
theorem dX3_gather_25 : decode cX3_gather 25 = .ok (.aload_n 1, 1) := by decide +kernel
theorem dX3_gather_26 : decode cX3_gather 26 = .ok (.iload_n 2, 1) := by decide +kernel
theorem dX3_gather_27 : decode cX3_gather 27 = .ok (.invokevirtual 19, 3) := by decide +kernel
theorem dX3_gather_30 : decode cX3_gather 30 = .ok (.invokevirtual 25, 3) := by decide +kernel
theorem dX3_gather_33 : decode cX3_gather 33 = .ok (.iinc 2 1, 3) := by decide +kernel
theorem dX3_gather_36 : decode cX3_gather 36 = .ok (.goto (-29), 3) := by decide +kernel
theorem dX3_gather_39 : decode cX3_gather 39 = .ok (.return_, 1) := by decide +kernel
theorem dX3_keep_0 : decode cX3_keep 0 = .ok (.iconst 0, 1) := by decide +kernel
theorem dX3_keep_1 : decode cX3_keep 1 = .ok (.istore_n 2, 1) := by decide +kernel
theorem dX3_keep_2 : decode cX3_keep 2 = .ok (.iconst 0, 1) := by decide +kernel
theorem dX3_keep_3 : decode cX3_keep 3 = .ok (.istore_n 3, 1) := by decide +kernel
theorem dX3_keep_4 : decode cX3_keep 4 = .ok (.iload_n 3, 1) := by decide +kernel
theorem dX3_keep_5 : decode cX3_keep 5 = .ok (.aload_n 0, 1) := by decide +kernel
theorem dX3_keep_6 : decode cX3_keep 6 = .ok (.getfield 15, 3) := by decide +kernel
theorem dX3_keep_9 : decode cX3_keep 9 = .ok (.if_icmp .ge 69, 3) := by decide +kernel
theorem dX3_keep_12 : decode cX3_keep 12 = .ok (.iload_n 3, 1) := by decide +kernel
theorem dX3_keep_13 : decode cX3_keep 13 = .ok (.aload_n 0, 1) := by decide +kernel
theorem dX3_keep_14 : decode cX3_keep 14 = .ok (.getfield 9, 3) := by decide +kernel
theorem dX3_keep_17 : decode cX3_keep 17 = .ok (.arraylength, 1) := by decide +kernel
theorem dX3_keep_18 : decode cX3_keep 18 = .ok (.if_icmp .ge 60, 3) := by decide +kernel
theorem dX3_keep_21 : decode cX3_keep 21 = .ok (.iload_n 1, 1) := by decide +kernel
theorem dX3_keep_22 : decode cX3_keep 22 = .ok (.aload_n 0, 1) := by decide +kernel
theorem dX3_keep_23 : decode cX3_keep 23 = .ok (.getfield 9, 3) := by decide +kernel
theorem dX3_keep_26 : decode cX3_keep 26 = .ok (.iload_n 3, 1) := by decide +kernel
theorem dX3_keep_27 : decode cX3_keep 27 = .ok (.iaload, 1) := by decide +kernel
theorem dX3_keep_28 : decode cX3_keep 28 = .ok (.iconst (-1), 1) := by decide +kernel
theorem dX3_keep_29 : decode cX3_keep 29 = .ok (.ixor, 1) := by decide +kernel
theorem dX3_keep_30 : decode cX3_keep 30 = .ok (.iand, 1) := by decide +kernel
theorem dX3_keep_31 : decode cX3_keep 31 = .ok (.ifCond .ne 4, 3) := by decide +kernel
theorem dX3_keep_34 : decode cX3_keep 34 = .ok (.return_, 1) := by decide +kernel
theorem dX3_keep_35 : decode cX3_keep 35 = .ok (.aload_n 0, 1) := by decide +kernel
theorem dX3_keep_36 : decode cX3_keep 36 = .ok (.getfield 9, 3) := by decide +kernel
theorem dX3_keep_39 : decode cX3_keep 39 = .ok (.iload_n 3, 1) := by decide +kernel
theorem dX3_keep_40 : decode cX3_keep 40 = .ok (.iaload, 1) := by decide +kernel
theorem dX3_keep_41 : decode cX3_keep 41 = .ok (.iload_n 1, 1) := by decide +kernel
theorem dX3_keep_42 : decode cX3_keep 42 = .ok (.iconst (-1), 1) := by decide +kernel
theorem dX3_keep_43 : decode cX3_keep 43 = .ok (.ixor, 1) := by decide +kernel
theorem dX3_keep_44 : decode cX3_keep 44 = .ok (.iand, 1) := by decide +kernel
theorem dX3_keep_45 : decode cX3_keep 45 = .ok (.ifCond .eq 27, 3) := by decide +kernel
theorem dX3_keep_48 : decode cX3_keep 48 = .ok (.iload_n 2, 1) := by decide +kernel
theorem dX3_keep_49 : decode cX3_keep 49 = .ok (.aload_n 0, 1) := by decide +kernel
theorem dX3_keep_50 : decode cX3_keep 50 = .ok (.getfield 9, 3) := by decide +kernel
theorem dX3_keep_53 : decode cX3_keep 53 = .ok (.arraylength, 1) := by decide +kernel
theorem dX3_keep_54 : decode cX3_keep 54 = .ok (.if_icmp .ge 18, 3) := by decide +kernel
theorem dX3_keep_57 : decode cX3_keep 57 = .ok (.aload_n 0, 1) := by decide +kernel
theorem dX3_keep_58 : decode cX3_keep 58 = .ok (.getfield 9, 3) := by decide +kernel
theorem dX3_keep_61 : decode cX3_keep 61 = .ok (.iload_n 2, 1) := by decide +kernel
theorem dX3_keep_62 : decode cX3_keep 62 = .ok (.aload_n 0, 1) := by decide +kernel
theorem dX3_keep_63 : decode cX3_keep 63 = .ok (.getfield 9, 3) := by decide +kernel
theorem dX3_keep_66 : decode cX3_keep 66 = .ok (.iload_n 3, 1) := by decide +kernel
theorem dX3_keep_67 : decode cX3_keep 67 = .ok (.iaload, 1) := by decide +kernel
theorem dX3_keep_68 : decode cX3_keep 68 = .ok (.iastore, 1) := by decide +kernel
theorem dX3_keep_69 : decode cX3_keep 69 = .ok (.iinc 2 1, 3) := by decide +kernel
theorem dX3_keep_72 : decode cX3_keep 72 = .ok (.iinc 3 1, 3) := by decide +kernel
theorem dX3_keep_75 : decode cX3_keep 75 = .ok (.goto (-71), 3) := by decide +kernel
theorem dX3_keep_78 : decode cX3_keep 78 = .ok (.iload_n 2, 1) := by decide +kernel
theorem dX3_keep_79 : decode cX3_keep 79 = .ok (.aload_n 0, 1) := by decide +kernel
theorem dX3_keep_80 : decode cX3_keep 80 = .ok (.getfield 9, 3) := by decide +kernel
theorem dX3_keep_83 : decode cX3_keep 83 = .ok (.arraylength, 1) := by decide +kernel
theorem dX3_keep_84 : decode cX3_keep 84 = .ok (.if_icmp .ge 13, 3) := by decide +kernel
theorem dX3_keep_87 : decode cX3_keep 87 = .ok (.aload_n 0, 1) := by decide +kernel
theorem dX3_keep_88 : decode cX3_keep 88 = .ok (.getfield 9, 3) := by decide +kernel
theorem dX3_keep_91 : decode cX3_keep 91 = .ok (.iload_n 2, 1) := by decide +kernel
theorem dX3_keep_92 : decode cX3_keep 92 = .ok (.iload_n 1, 1) := by decide +kernel
theorem dX3_keep_93 : decode cX3_keep 93 = .ok (.iastore, 1) := by decide +kernel
theorem dX3_keep_94 : decode cX3_keep 94 = .ok (.iinc 2 1, 3) := by decide +kernel
theorem dX3_keep_97 : decode cX3_keep 97 = .ok (.aload_n 0, 1) := by decide +kernel
theorem dX3_keep_98 : decode cX3_keep 98 = .ok (.iload_n 2, 1) := by decide +kernel
theorem dX3_keep_99 : decode cX3_keep 99 = .ok (.putfield 15, 3) := by decide +kernel
theorem dX3_keep_102 : decode cX3_keep 102 = .ok (.return_, 1) := by decide +kernel
theorem dX3_heaviestTwo_0 : decode cX3_heaviestTwo 0 = .ok (.iconst 0, 1) := by decide +kernel
theorem dX3_heaviestTwo_1 : decode cX3_heaviestTwo 1 = .ok (.istore_n 2, 1) := by decide +kernel
theorem dX3_heaviestTwo_2 : decode cX3_heaviestTwo 2 = .ok (.iconst 0, 1) := by decide +kernel
theorem dX3_heaviestTwo_3 : decode cX3_heaviestTwo 3 = .ok (.istore_n 3, 1) := by decide +kernel
theorem dX3_heaviestTwo_4 : decode cX3_heaviestTwo 4 = .ok (.iconst 0, 1) := by decide +kernel
theorem dX3_heaviestTwo_5 : decode cX3_heaviestTwo 5 = .ok (.istore 4, 2) := by decide +kernel
theorem dX3_heaviestTwo_7 : decode cX3_heaviestTwo 7 = .ok (.iload 4, 2) := by decide +kernel
theorem dX3_heaviestTwo_9 : decode cX3_heaviestTwo 9 = .ok (.aload_n 0, 1) := by decide +kernel
theorem dX3_heaviestTwo_10 : decode cX3_heaviestTwo 10 = .ok (.getfield 15, 3) := by decide +kernel
theorem dX3_heaviestTwo_13 : decode cX3_heaviestTwo 13 = .ok (.if_icmp .ge 97, 3) := by decide +kernel
theorem dX3_heaviestTwo_16 : decode cX3_heaviestTwo 16 = .ok (.iload 4, 2) := by decide +kernel
theorem dX3_heaviestTwo_18 : decode cX3_heaviestTwo 18 = .ok (.aload_n 0, 1) := by decide +kernel
theorem dX3_heaviestTwo_19 : decode cX3_heaviestTwo 19 = .ok (.getfield 9, 3) := by decide +kernel
theorem dX3_heaviestTwo_22 : decode cX3_heaviestTwo 22 = .ok (.arraylength, 1) := by decide +kernel
theorem dX3_heaviestTwo_23 : decode cX3_heaviestTwo 23 = .ok (.if_icmp .ge 87, 3) := by decide +kernel
theorem dX3_heaviestTwo_26 : decode cX3_heaviestTwo 26 = .ok (.iload 4, 2) := by decide +kernel
theorem dX3_heaviestTwo_28 : decode cX3_heaviestTwo 28 = .ok (.istore 5, 2) := by decide +kernel
theorem dX3_heaviestTwo_30 : decode cX3_heaviestTwo 30 = .ok (.iload 5, 2) := by decide +kernel
theorem dX3_heaviestTwo_32 : decode cX3_heaviestTwo 32 = .ok (.aload_n 0, 1) := by decide +kernel
theorem dX3_heaviestTwo_33 : decode cX3_heaviestTwo 33 = .ok (.getfield 15, 3) := by decide +kernel
theorem dX3_heaviestTwo_36 : decode cX3_heaviestTwo 36 = .ok (.if_icmp .ge 68, 3) := by decide +kernel
theorem dX3_heaviestTwo_39 : decode cX3_heaviestTwo 39 = .ok (.iload 5, 2) := by decide +kernel
theorem dX3_heaviestTwo_41 : decode cX3_heaviestTwo 41 = .ok (.aload_n 0, 1) := by decide +kernel
theorem dX3_heaviestTwo_42 : decode cX3_heaviestTwo 42 = .ok (.getfield 9, 3) := by decide +kernel
theorem dX3_heaviestTwo_45 : decode cX3_heaviestTwo 45 = .ok (.arraylength, 1) := by decide +kernel
theorem dX3_heaviestTwo_46 : decode cX3_heaviestTwo 46 = .ok (.if_icmp .ge 58, 3) := by decide +kernel
theorem dX3_heaviestTwo_49 : decode cX3_heaviestTwo 49 = .ok (.aload_n 0, 1) := by decide +kernel
theorem dX3_heaviestTwo_50 : decode cX3_heaviestTwo 50 = .ok (.getfield 9, 3) := by decide +kernel
theorem dX3_heaviestTwo_53 : decode cX3_heaviestTwo 53 = .ok (.iload 4, 2) := by decide +kernel
theorem dX3_heaviestTwo_55 : decode cX3_heaviestTwo 55 = .ok (.iaload, 1) := by decide +kernel
theorem dX3_heaviestTwo_56 : decode cX3_heaviestTwo 56 = .ok (.aload_n 0, 1) := by decide +kernel
theorem dX3_heaviestTwo_57 : decode cX3_heaviestTwo 57 = .ok (.getfield 9, 3) := by decide +kernel
theorem dX3_heaviestTwo_60 : decode cX3_heaviestTwo 60 = .ok (.iload 5, 2) := by decide +kernel
theorem dX3_heaviestTwo_62 : decode cX3_heaviestTwo 62 = .ok (.iaload, 1) := by decide +kernel
theorem dX3_heaviestTwo_63 : decode cX3_heaviestTwo 63 = .ok (.ior, 1) := by decide +kernel
theorem dX3_heaviestTwo_64 : decode cX3_heaviestTwo 64 = .ok (.istore 6, 2) := by decide +kernel
theorem dX3_heaviestTwo_66 : decode cX3_heaviestTwo 66 = .ok (.aload_n 1, 1) := by decide +kernel
theorem dX3_heaviestTwo_67 : decode cX3_heaviestTwo 67 = .ok (.iload 6, 2) := by decide +kernel
theorem dX3_heaviestTwo_69 : decode cX3_heaviestTwo 69 = .ok (.invokevirtual 29, 3) := by decide +kernel
theorem dX3_heaviestTwo_72 : decode cX3_heaviestTwo 72 = .ok (.istore 7, 2) := by decide +kernel
theorem dX3_heaviestTwo_74 : decode cX3_heaviestTwo 74 = .ok (.iload 7, 2) := by decide +kernel
theorem dX3_heaviestTwo_76 : decode cX3_heaviestTwo 76 = .ok (.iload_n 3, 1) := by decide +kernel
theorem dX3_heaviestTwo_77 : decode cX3_heaviestTwo 77 = .ok (.if_icmp .gt 15, 3) := by decide +kernel
theorem dX3_heaviestTwo_80 : decode cX3_heaviestTwo 80 = .ok (.iload 7, 2) := by decide +kernel
theorem dX3_heaviestTwo_82 : decode cX3_heaviestTwo 82 = .ok (.iload_n 3, 1) := by decide +kernel
theorem dX3_heaviestTwo_83 : decode cX3_heaviestTwo 83 = .ok (.if_icmp .ne 15, 3) := by decide +kernel
theorem dX3_heaviestTwo_86 : decode cX3_heaviestTwo 86 = .ok (.iload 6, 2) := by decide +kernel
theorem dX3_heaviestTwo_88 : decode cX3_heaviestTwo 88 = .ok (.iload_n 2, 1) := by decide +kernel
theorem dX3_heaviestTwo_89 : decode cX3_heaviestTwo 89 = .ok (.if_icmp .ge 9, 3) := by decide +kernel
theorem dX3_heaviestTwo_92 : decode cX3_heaviestTwo 92 = .ok (.iload 6, 2) := by decide +kernel
theorem dX3_heaviestTwo_94 : decode cX3_heaviestTwo 94 = .ok (.istore_n 2, 1) := by decide +kernel
theorem dX3_heaviestTwo_95 : decode cX3_heaviestTwo 95 = .ok (.iload 7, 2) := by decide +kernel
theorem dX3_heaviestTwo_97 : decode cX3_heaviestTwo 97 = .ok (.istore_n 3, 1) := by decide +kernel
theorem dX3_heaviestTwo_98 : decode cX3_heaviestTwo 98 = .ok (.iinc 5 1, 3) := by decide +kernel
theorem dX3_heaviestTwo_101 : decode cX3_heaviestTwo 101 = .ok (.goto (-71), 3) := by decide +kernel
theorem dX3_heaviestTwo_104 : decode cX3_heaviestTwo 104 = .ok (.iinc 4 1, 3) := by decide +kernel
theorem dX3_heaviestTwo_107 : decode cX3_heaviestTwo 107 = .ok (.goto (-100), 3) := by decide +kernel
theorem dX3_heaviestTwo_110 : decode cX3_heaviestTwo 110 = .ok (.iload_n 2, 1) := by decide +kernel
theorem dX3_heaviestTwo_111 : decode cX3_heaviestTwo 111 = .ok (.ireturn, 1) := by decide +kernel
theorem dX3_fewestOver_0 : decode cX3_fewestOver 0 = .ok (.aload_n 0, 1) := by decide +kernel
theorem dX3_fewestOver_1 : decode cX3_fewestOver 1 = .ok (.iload_n 1, 1) := by decide +kernel
theorem dX3_fewestOver_2 : decode cX3_fewestOver 2 = .ok (.invokevirtual 34, 3) := by decide +kernel
theorem dX3_fewestOver_5 : decode cX3_fewestOver 5 = .ok (.ifCond .eq 5, 3) := by decide +kernel
theorem dX3_fewestOver_8 : decode cX3_fewestOver 8 = .ok (.iconst 1, 1) := by decide +kernel
theorem dX3_fewestOver_9 : decode cX3_fewestOver 9 = .ok (.ireturn, 1) := by decide +kernel
theorem dX3_fewestOver_10 : decode cX3_fewestOver 10 = .ok (.iconst 0, 1) := by decide +kernel
theorem dX3_fewestOver_11 : decode cX3_fewestOver 11 = .ok (.istore_n 2, 1) := by decide +kernel
theorem dX3_fewestOver_12 : decode cX3_fewestOver 12 = .ok (.iload_n 2, 1) := by decide +kernel
theorem dX3_fewestOver_13 : decode cX3_fewestOver 13 = .ok (.aload_n 0, 1) := by decide +kernel
theorem dX3_fewestOver_14 : decode cX3_fewestOver 14 = .ok (.getfield 15, 3) := by decide +kernel
theorem dX3_fewestOver_17 : decode cX3_fewestOver 17 = .ok (.if_icmp .ge 53, 3) := by decide +kernel
theorem dX3_fewestOver_20 : decode cX3_fewestOver 20 = .ok (.iload_n 2, 1) := by decide +kernel
theorem dX3_fewestOver_21 : decode cX3_fewestOver 21 = .ok (.aload_n 0, 1) := by decide +kernel
theorem dX3_fewestOver_22 : decode cX3_fewestOver 22 = .ok (.getfield 9, 3) := by decide +kernel
theorem dX3_fewestOver_25 : decode cX3_fewestOver 25 = .ok (.arraylength, 1) := by decide +kernel
theorem dX3_fewestOver_26 : decode cX3_fewestOver 26 = .ok (.if_icmp .ge 44, 3) := by decide +kernel
theorem dX3_fewestOver_29 : decode cX3_fewestOver 29 = .ok (.aload_n 0, 1) := by decide +kernel
theorem dX3_fewestOver_30 : decode cX3_fewestOver 30 = .ok (.getfield 9, 3) := by decide +kernel
theorem dX3_fewestOver_33 : decode cX3_fewestOver 33 = .ok (.iload_n 2, 1) := by decide +kernel
theorem dX3_fewestOver_34 : decode cX3_fewestOver 34 = .ok (.iaload, 1) := by decide +kernel
theorem dX3_fewestOver_35 : decode cX3_fewestOver 35 = .ok (.iload_n 1, 1) := by decide +kernel
theorem dX3_fewestOver_36 : decode cX3_fewestOver 36 = .ok (.invokestatic 38, 3) := by decide +kernel
theorem dX3_fewestOver_39 : decode cX3_fewestOver 39 = .ok (.invokestatic 41, 3) := by decide +kernel
theorem dX3_fewestOver_42 : decode cX3_fewestOver 42 = .ok (.ifCond .eq 22, 3) := by decide +kernel
theorem dX3_fewestOver_45 : decode cX3_fewestOver 45 = .ok (.aload_n 0, 1) := by decide +kernel
theorem dX3_fewestOver_46 : decode cX3_fewestOver 46 = .ok (.iload_n 1, 1) := by decide +kernel
theorem dX3_fewestOver_47 : decode cX3_fewestOver 47 = .ok (.aload_n 0, 1) := by decide +kernel
theorem dX3_fewestOver_48 : decode cX3_fewestOver 48 = .ok (.getfield 9, 3) := by decide +kernel
theorem dX3_fewestOver_51 : decode cX3_fewestOver 51 = .ok (.iload_n 2, 1) := by decide +kernel
theorem dX3_fewestOver_52 : decode cX3_fewestOver 52 = .ok (.iaload, 1) := by decide +kernel
theorem dX3_fewestOver_53 : decode cX3_fewestOver 53 = .ok (.iconst (-1), 1) := by decide +kernel
theorem dX3_fewestOver_54 : decode cX3_fewestOver 54 = .ok (.ixor, 1) := by decide +kernel
theorem dX3_fewestOver_55 : decode cX3_fewestOver 55 = .ok (.iand, 1) := by decide +kernel
theorem dX3_fewestOver_56 : decode cX3_fewestOver 56 = .ok (.invokevirtual 34, 3) := by decide +kernel
theorem dX3_fewestOver_59 : decode cX3_fewestOver 59 = .ok (.ifCond .eq 5, 3) := by decide +kernel
theorem dX3_fewestOver_62 : decode cX3_fewestOver 62 = .ok (.iconst 2, 1) := by decide +kernel
theorem dX3_fewestOver_63 : decode cX3_fewestOver 63 = .ok (.ireturn, 1) := by decide +kernel
theorem dX3_fewestOver_64 : decode cX3_fewestOver 64 = .ok (.iinc 2 1, 3) := by decide +kernel
theorem dX3_fewestOver_67 : decode cX3_fewestOver 67 = .ok (.goto (-55), 3) := by decide +kernel
theorem dX3_fewestOver_70 : decode cX3_fewestOver 70 = .ok (.iconst 0, 1) := by decide +kernel
theorem dX3_fewestOver_71 : decode cX3_fewestOver 71 = .ok (.istore_n 2, 1) := by decide +kernel
theorem dX3_fewestOver_72 : decode cX3_fewestOver 72 = .ok (.iload_n 2, 1) := by decide +kernel
theorem dX3_fewestOver_73 : decode cX3_fewestOver 73 = .ok (.aload_n 0, 1) := by decide +kernel
theorem dX3_fewestOver_74 : decode cX3_fewestOver 74 = .ok (.getfield 15, 3) := by decide +kernel
theorem dX3_fewestOver_77 : decode cX3_fewestOver 77 = .ok (.if_icmp .ge 53, 3) := by decide +kernel
theorem dX3_fewestOver_80 : decode cX3_fewestOver 80 = .ok (.iload_n 2, 1) := by decide +kernel
theorem dX3_fewestOver_81 : decode cX3_fewestOver 81 = .ok (.aload_n 0, 1) := by decide +kernel
theorem dX3_fewestOver_82 : decode cX3_fewestOver 82 = .ok (.getfield 9, 3) := by decide +kernel
theorem dX3_fewestOver_85 : decode cX3_fewestOver 85 = .ok (.arraylength, 1) := by decide +kernel
theorem dX3_fewestOver_86 : decode cX3_fewestOver 86 = .ok (.if_icmp .ge 44, 3) := by decide +kernel
theorem dX3_fewestOver_89 : decode cX3_fewestOver 89 = .ok (.aload_n 0, 1) := by decide +kernel
theorem dX3_fewestOver_90 : decode cX3_fewestOver 90 = .ok (.getfield 9, 3) := by decide +kernel
theorem dX3_fewestOver_93 : decode cX3_fewestOver 93 = .ok (.iload_n 2, 1) := by decide +kernel
theorem dX3_fewestOver_94 : decode cX3_fewestOver 94 = .ok (.iaload, 1) := by decide +kernel
theorem dX3_fewestOver_95 : decode cX3_fewestOver 95 = .ok (.iload_n 1, 1) := by decide +kernel
theorem dX3_fewestOver_96 : decode cX3_fewestOver 96 = .ok (.invokestatic 38, 3) := by decide +kernel
theorem dX3_fewestOver_99 : decode cX3_fewestOver 99 = .ok (.invokestatic 41, 3) := by decide +kernel
theorem dX3_fewestOver_102 : decode cX3_fewestOver 102 = .ok (.ifCond .eq 22, 3) := by decide +kernel
theorem dX3_fewestOver_105 : decode cX3_fewestOver 105 = .ok (.aload_n 0, 1) := by decide +kernel
theorem dX3_fewestOver_106 : decode cX3_fewestOver 106 = .ok (.iload_n 1, 1) := by decide +kernel
theorem dX3_fewestOver_107 : decode cX3_fewestOver 107 = .ok (.aload_n 0, 1) := by decide +kernel
theorem dX3_fewestOver_108 : decode cX3_fewestOver 108 = .ok (.getfield 9, 3) := by decide +kernel
theorem dX3_fewestOver_111 : decode cX3_fewestOver 111 = .ok (.iload_n 2, 1) := by decide +kernel
theorem dX3_fewestOver_112 : decode cX3_fewestOver 112 = .ok (.iaload, 1) := by decide +kernel
theorem dX3_fewestOver_113 : decode cX3_fewestOver 113 = .ok (.iconst (-1), 1) := by decide +kernel
theorem dX3_fewestOver_114 : decode cX3_fewestOver 114 = .ok (.ixor, 1) := by decide +kernel
theorem dX3_fewestOver_115 : decode cX3_fewestOver 115 = .ok (.iand, 1) := by decide +kernel
theorem dX3_fewestOver_116 : decode cX3_fewestOver 116 = .ok (.invokevirtual 45, 3) := by decide +kernel
theorem dX3_fewestOver_119 : decode cX3_fewestOver 119 = .ok (.ifCond .eq 5, 3) := by decide +kernel
theorem dX3_fewestOver_122 : decode cX3_fewestOver 122 = .ok (.iconst 3, 1) := by decide +kernel
theorem dX3_fewestOver_123 : decode cX3_fewestOver 123 = .ok (.ireturn, 1) := by decide +kernel
theorem dX3_fewestOver_124 : decode cX3_fewestOver 124 = .ok (.iinc 2 1, 3) := by decide +kernel
theorem dX3_fewestOver_127 : decode cX3_fewestOver 127 = .ok (.goto (-55), 3) := by decide +kernel
theorem dX3_fewestOver_130 : decode cX3_fewestOver 130 = .ok (.bipush (-2), 2) := by decide +kernel
theorem dX3_fewestOver_132 : decode cX3_fewestOver 132 = .ok (.ireturn, 1) := by decide +kernel
theorem dX3_areTwoOver_0 : decode cX3_areTwoOver 0 = .ok (.iconst 0, 1) := by decide +kernel
theorem dX3_areTwoOver_1 : decode cX3_areTwoOver 1 = .ok (.istore_n 2, 1) := by decide +kernel
theorem dX3_areTwoOver_2 : decode cX3_areTwoOver 2 = .ok (.iload_n 2, 1) := by decide +kernel
theorem dX3_areTwoOver_3 : decode cX3_areTwoOver 3 = .ok (.aload_n 0, 1) := by decide +kernel
theorem dX3_areTwoOver_4 : decode cX3_areTwoOver 4 = .ok (.getfield 15, 3) := by decide +kernel
theorem dX3_areTwoOver_7 : decode cX3_areTwoOver 7 = .ok (.if_icmp .ge 53, 3) := by decide +kernel
theorem dX3_areTwoOver_10 : decode cX3_areTwoOver 10 = .ok (.iload_n 2, 1) := by decide +kernel
theorem dX3_areTwoOver_11 : decode cX3_areTwoOver 11 = .ok (.aload_n 0, 1) := by decide +kernel
theorem dX3_areTwoOver_12 : decode cX3_areTwoOver 12 = .ok (.getfield 9, 3) := by decide +kernel
theorem dX3_areTwoOver_15 : decode cX3_areTwoOver 15 = .ok (.arraylength, 1) := by decide +kernel
theorem dX3_areTwoOver_16 : decode cX3_areTwoOver 16 = .ok (.if_icmp .ge 44, 3) := by decide +kernel
theorem dX3_areTwoOver_19 : decode cX3_areTwoOver 19 = .ok (.aload_n 0, 1) := by decide +kernel
theorem dX3_areTwoOver_20 : decode cX3_areTwoOver 20 = .ok (.getfield 9, 3) := by decide +kernel
theorem dX3_areTwoOver_23 : decode cX3_areTwoOver 23 = .ok (.iload_n 2, 1) := by decide +kernel
theorem dX3_areTwoOver_24 : decode cX3_areTwoOver 24 = .ok (.iaload, 1) := by decide +kernel
theorem dX3_areTwoOver_25 : decode cX3_areTwoOver 25 = .ok (.iload_n 1, 1) := by decide +kernel
theorem dX3_areTwoOver_26 : decode cX3_areTwoOver 26 = .ok (.invokestatic 38, 3) := by decide +kernel
theorem dX3_areTwoOver_29 : decode cX3_areTwoOver 29 = .ok (.invokestatic 41, 3) := by decide +kernel
theorem dX3_areTwoOver_32 : decode cX3_areTwoOver 32 = .ok (.ifCond .eq 22, 3) := by decide +kernel
theorem dX3_areTwoOver_35 : decode cX3_areTwoOver 35 = .ok (.aload_n 0, 1) := by decide +kernel
theorem dX3_areTwoOver_36 : decode cX3_areTwoOver 36 = .ok (.iload_n 1, 1) := by decide +kernel
theorem dX3_areTwoOver_37 : decode cX3_areTwoOver 37 = .ok (.aload_n 0, 1) := by decide +kernel
theorem dX3_areTwoOver_38 : decode cX3_areTwoOver 38 = .ok (.getfield 9, 3) := by decide +kernel
theorem dX3_areTwoOver_41 : decode cX3_areTwoOver 41 = .ok (.iload_n 2, 1) := by decide +kernel
theorem dX3_areTwoOver_42 : decode cX3_areTwoOver 42 = .ok (.iaload, 1) := by decide +kernel
theorem dX3_areTwoOver_43 : decode cX3_areTwoOver 43 = .ok (.iconst (-1), 1) := by decide +kernel
theorem dX3_areTwoOver_44 : decode cX3_areTwoOver 44 = .ok (.ixor, 1) := by decide +kernel
theorem dX3_areTwoOver_45 : decode cX3_areTwoOver 45 = .ok (.iand, 1) := by decide +kernel
theorem dX3_areTwoOver_46 : decode cX3_areTwoOver 46 = .ok (.invokevirtual 34, 3) := by decide +kernel
theorem dX3_areTwoOver_49 : decode cX3_areTwoOver 49 = .ok (.ifCond .eq 5, 3) := by decide +kernel
theorem dX3_areTwoOver_52 : decode cX3_areTwoOver 52 = .ok (.iconst 1, 1) := by decide +kernel
theorem dX3_areTwoOver_53 : decode cX3_areTwoOver 53 = .ok (.ireturn, 1) := by decide +kernel
theorem dX3_areTwoOver_54 : decode cX3_areTwoOver 54 = .ok (.iinc 2 1, 3) := by decide +kernel
theorem dX3_areTwoOver_57 : decode cX3_areTwoOver 57 = .ok (.goto (-55), 3) := by decide +kernel
theorem dX3_areTwoOver_60 : decode cX3_areTwoOver 60 = .ok (.iconst 0, 1) := by decide +kernel
theorem dX3_areTwoOver_61 : decode cX3_areTwoOver 61 = .ok (.ireturn, 1) := by decide +kernel
theorem dX3_isOneOver_0 : decode cX3_isOneOver 0 = .ok (.iconst 0, 1) := by decide +kernel
theorem dX3_isOneOver_1 : decode cX3_isOneOver 1 = .ok (.istore_n 2, 1) := by decide +kernel
theorem dX3_isOneOver_2 : decode cX3_isOneOver 2 = .ok (.iload_n 2, 1) := by decide +kernel
theorem dX3_isOneOver_3 : decode cX3_isOneOver 3 = .ok (.aload_n 0, 1) := by decide +kernel
theorem dX3_isOneOver_4 : decode cX3_isOneOver 4 = .ok (.getfield 15, 3) := by decide +kernel
theorem dX3_isOneOver_7 : decode cX3_isOneOver 7 = .ok (.if_icmp .ge 33, 3) := by decide +kernel
theorem dX3_isOneOver_10 : decode cX3_isOneOver 10 = .ok (.iload_n 2, 1) := by decide +kernel
theorem dX3_isOneOver_11 : decode cX3_isOneOver 11 = .ok (.aload_n 0, 1) := by decide +kernel
theorem dX3_isOneOver_12 : decode cX3_isOneOver 12 = .ok (.getfield 9, 3) := by decide +kernel
theorem dX3_isOneOver_15 : decode cX3_isOneOver 15 = .ok (.arraylength, 1) := by decide +kernel
theorem dX3_isOneOver_16 : decode cX3_isOneOver 16 = .ok (.if_icmp .ge 24, 3) := by decide +kernel
theorem dX3_isOneOver_19 : decode cX3_isOneOver 19 = .ok (.iload_n 1, 1) := by decide +kernel
theorem dX3_isOneOver_20 : decode cX3_isOneOver 20 = .ok (.aload_n 0, 1) := by decide +kernel
theorem dX3_isOneOver_21 : decode cX3_isOneOver 21 = .ok (.getfield 9, 3) := by decide +kernel
theorem dX3_isOneOver_24 : decode cX3_isOneOver 24 = .ok (.iload_n 2, 1) := by decide +kernel
theorem dX3_isOneOver_25 : decode cX3_isOneOver 25 = .ok (.iaload, 1) := by decide +kernel
theorem dX3_isOneOver_26 : decode cX3_isOneOver 26 = .ok (.iconst (-1), 1) := by decide +kernel
theorem dX3_isOneOver_27 : decode cX3_isOneOver 27 = .ok (.ixor, 1) := by decide +kernel
theorem dX3_isOneOver_28 : decode cX3_isOneOver 28 = .ok (.iand, 1) := by decide +kernel
theorem dX3_isOneOver_29 : decode cX3_isOneOver 29 = .ok (.ifCond .ne 5, 3) := by decide +kernel
theorem dX3_isOneOver_32 : decode cX3_isOneOver 32 = .ok (.iconst 1, 1) := by decide +kernel
theorem dX3_isOneOver_33 : decode cX3_isOneOver 33 = .ok (.ireturn, 1) := by decide +kernel
theorem dX3_isOneOver_34 : decode cX3_isOneOver 34 = .ok (.iinc 2 1, 3) := by decide +kernel
theorem dX3_isOneOver_37 : decode cX3_isOneOver 37 = .ok (.goto (-35), 3) := by decide +kernel
theorem dX3_isOneOver_40 : decode cX3_isOneOver 40 = .ok (.iconst 0, 1) := by decide +kernel
theorem dX3_isOneOver_41 : decode cX3_isOneOver 41 = .ok (.ireturn, 1) := by decide +kernel
theorem dX3_leastOf_0 : decode cX3_leastOf 0 = .ok (.iload_n 0, 1) := by decide +kernel
theorem dX3_leastOf_1 : decode cX3_leastOf 1 = .ok (.iload_n 0, 1) := by decide +kernel
theorem dX3_leastOf_2 : decode cX3_leastOf 2 = .ok (.ineg, 1) := by decide +kernel
theorem dX3_leastOf_3 : decode cX3_leastOf 3 = .ok (.iand, 1) := by decide +kernel
theorem dX3_leastOf_4 : decode cX3_leastOf 4 = .ok (.iconst 1, 1) := by decide +kernel
theorem dX3_leastOf_5 : decode cX3_leastOf 5 = .ok (.isub, 1) := by decide +kernel
theorem dX3_leastOf_6 : decode cX3_leastOf 6 = .ok (.invokestatic 48, 3) := by decide +kernel
theorem dX3_leastOf_9 : decode cX3_leastOf 9 = .ok (.ireturn, 1) := by decide +kernel
theorem dX4_init_0 : decode cX4_init 0 = .ok (.aload_n 0, 1) := by decide +kernel
theorem dX4_init_1 : decode cX4_init 1 = .ok (.invokespecial 3, 3) := by decide +kernel
theorem dX4_init_4 : decode cX4_init 4 = .ok (.aload_n 0, 1) := by decide +kernel
theorem dX4_init_5 : decode cX4_init 5 = .ok (.bipush 96, 2) := by decide +kernel
theorem dX4_init_7 : decode cX4_init 7 = .ok (.newarray .int, 2) := by decide +kernel
theorem dX4_init_9 : decode cX4_init 9 = .ok (.putfield 11, 3) := by decide +kernel
theorem dX4_init_12 : decode cX4_init 12 = .ok (.aload_n 0, 1) := by decide +kernel
theorem dX4_init_13 : decode cX4_init 13 = .ok (.bipush 18, 2) := by decide +kernel
theorem dX4_init_15 : decode cX4_init 15 = .ok (.newarray .int, 2) := by decide +kernel
theorem dX4_init_17 : decode cX4_init 17 = .ok (.putfield 15, 3) := by decide +kernel
theorem dX4_init_20 : decode cX4_init 20 = .ok (.aload_n 0, 1) := by decide +kernel
theorem dX4_init_21 : decode cX4_init 21 = .ok (.iconst (-1), 1) := by decide +kernel
theorem dX4_init_22 : decode cX4_init 22 = .ok (.putfield 18, 3) := by decide +kernel
theorem dX4_init_25 : decode cX4_init 25 = .ok (.aload_n 0, 1) := by decide +kernel
theorem dX4_init_26 : decode cX4_init 26 = .ok (.aload_n 1, 1) := by decide +kernel
theorem dX4_init_27 : decode cX4_init 27 = .ok (.putfield 22, 3) := by decide +kernel
theorem dX4_init_30 : decode cX4_init 30 = .ok (.return_, 1) := by decide +kernel
theorem dX4_read_0 : decode cX4_read 0 = .ok (.aload_n 0, 1) := by decide +kernel
theorem dX4_read_1 : decode cX4_read 1 = .ok (.iload_n 1, 1) := by decide +kernel
theorem dX4_read_2 : decode cX4_read 2 = .ok (.putfield 26, 3) := by decide +kernel
theorem dX4_read_5 : decode cX4_read 5 = .ok (.aload_n 0, 1) := by decide +kernel
theorem dX4_read_6 : decode cX4_read 6 = .ok (.iconst 0, 1) := by decide +kernel
theorem dX4_read_7 : decode cX4_read 7 = .ok (.putfield 29, 3) := by decide +kernel
theorem dX4_read_10 : decode cX4_read 10 = .ok (.aload_n 0, 1) := by decide +kernel
theorem dX4_read_11 : decode cX4_read 11 = .ok (.iconst 0, 1) := by decide +kernel
theorem dX4_read_12 : decode cX4_read 12 = .ok (.putfield 32, 3) := by decide +kernel
theorem dX4_read_15 : decode cX4_read 15 = .ok (.aload_n 0, 1) := by decide +kernel
theorem dX4_read_16 : decode cX4_read 16 = .ok (.iconst 0, 1) := by decide +kernel
theorem dX4_read_17 : decode cX4_read 17 = .ok (.putfield 35, 3) := by decide +kernel
theorem dX4_read_20 : decode cX4_read 20 = .ok (.aload_n 0, 1) := by decide +kernel
theorem dX4_read_21 : decode cX4_read 21 = .ok (.iconst 0, 1) := by decide +kernel
theorem dX4_read_22 : decode cX4_read 22 = .ok (.putfield 38, 3) := by decide +kernel
theorem dX4_read_25 : decode cX4_read 25 = .ok (.aload_n 0, 1) := by decide +kernel
theorem dX4_read_26 : decode cX4_read 26 = .ok (.iconst (-1), 1) := by decide +kernel
theorem dX4_read_27 : decode cX4_read 27 = .ok (.putfield 18, 3) := by decide +kernel
theorem dX4_read_30 : decode cX4_read 30 = .ok (.aload_n 0, 1) := by decide +kernel
theorem dX4_read_31 : decode cX4_read 31 = .ok (.invokevirtual 41, 3) := by decide +kernel
theorem dX4_read_34 : decode cX4_read 34 = .ok (.iconst 0, 1) := by decide +kernel
theorem dX4_read_35 : decode cX4_read 35 = .ok (.istore_n 2, 1) := by decide +kernel
theorem dX4_read_36 : decode cX4_read 36 = .ok (.iload_n 2, 1) := by decide +kernel
theorem dX4_read_37 : decode cX4_read 37 = .ok (.sipush 900, 3) := by decide +kernel
theorem dX4_read_40 : decode cX4_read 40 = .ok (.if_icmp .ge 35, 3) := by decide +kernel
theorem dX4_read_43 : decode cX4_read 43 = .ok (.aload_n 0, 1) := by decide +kernel
theorem dX4_read_44 : decode cX4_read 44 = .ok (.getfield 29, 3) := by decide +kernel
theorem dX4_read_47 : decode cX4_read 47 = .ok (.aload_n 0, 1) := by decide +kernel
theorem dX4_read_48 : decode cX4_read 48 = .ok (.getfield 26, 3) := by decide +kernel
theorem dX4_read_51 : decode cX4_read 51 = .ok (.if_icmp .ge 24, 3) := by decide +kernel
theorem dX4_read_54 : decode cX4_read 54 = .ok (.aload_n 0, 1) := by decide +kernel
theorem dX4_read_55 : decode cX4_read 55 = .ok (.getfield 38, 3) := by decide +kernel
theorem dX4_read_58 : decode cX4_read 58 = .ok (.ifCond .ne 17, 3) := by decide +kernel
theorem dX4_read_61 : decode cX4_read 61 = .ok (.aload_n 0, 1) := by decide +kernel
theorem dX4_read_62 : decode cX4_read 62 = .ok (.invokevirtual 46, 3) := by decide +kernel
theorem dX4_read_65 : decode cX4_read 65 = .ok (.aload_n 0, 1) := by decide +kernel
theorem dX4_read_66 : decode cX4_read 66 = .ok (.invokevirtual 41, 3) := by decide +kernel
theorem dX4_read_69 : decode cX4_read 69 = .ok (.iinc 2 1, 3) := by decide +kernel
theorem dX4_read_72 : decode cX4_read 72 = .ok (.goto (-36), 3) := by decide +kernel
theorem dX4_read_75 : decode cX4_read 75 = .ok (.return_, 1) := by decide +kernel
theorem dX4_ofPolicy_0 : decode cX4_ofPolicy 0 = .ok (.iload_n 1, 1) := by decide +kernel
theorem dX4_ofPolicy_1 : decode cX4_ofPolicy 1 = .ok (.iconst 4, 1) := by decide +kernel
theorem dX4_ofPolicy_2 : decode cX4_ofPolicy 2 = .ok (.imul, 1) := by decide +kernel
theorem dX4_ofPolicy_3 : decode cX4_ofPolicy 3 = .ok (.iload_n 2, 1) := by decide +kernel
theorem dX4_ofPolicy_4 : decode cX4_ofPolicy 4 = .ok (.iadd, 1) := by decide +kernel
theorem dX4_ofPolicy_5 : decode cX4_ofPolicy 5 = .ok (.istore_n 3, 1) := by decide +kernel
theorem dX4_ofPolicy_6 : decode cX4_ofPolicy 6 = .ok (.iload_n 3, 1) := by decide +kernel
theorem dX4_ofPolicy_7 : decode cX4_ofPolicy 7 = .ok (.ifCond .lt 21, 3) := by decide +kernel
theorem dX4_ofPolicy_10 : decode cX4_ofPolicy 10 = .ok (.iload_n 3, 1) := by decide +kernel
theorem dX4_ofPolicy_11 : decode cX4_ofPolicy 11 = .ok (.aload_n 0, 1) := by decide +kernel
theorem dX4_ofPolicy_12 : decode cX4_ofPolicy 12 = .ok (.getfield 11, 3) := by decide +kernel
theorem dX4_ofPolicy_15 : decode cX4_ofPolicy 15 = .ok (.arraylength, 1) := by decide +kernel
theorem dX4_ofPolicy_16 : decode cX4_ofPolicy 16 = .ok (.if_icmp .ge 12, 3) := by decide +kernel
theorem dX4_ofPolicy_19 : decode cX4_ofPolicy 19 = .ok (.aload_n 0, 1) := by decide +kernel
theorem dX4_ofPolicy_20 : decode cX4_ofPolicy 20 = .ok (.getfield 11, 3) := by decide +kernel
theorem dX4_ofPolicy_23 : decode cX4_ofPolicy 23 = .ok (.iload_n 3, 1) := by decide +kernel
theorem dX4_ofPolicy_24 : decode cX4_ofPolicy 24 = .ok (.iaload, 1) := by decide +kernel
theorem dX4_ofPolicy_25 : decode cX4_ofPolicy 25 = .ok (.goto 4, 3) := by decide +kernel
theorem dX4_ofPolicy_28 : decode cX4_ofPolicy 28 = .ok (.iconst 0, 1) := by decide +kernel
theorem dX4_ofPolicy_29 : decode cX4_ofPolicy 29 = .ok (.ireturn, 1) := by decide +kernel
theorem dX4_ofTreaty_0 : decode cX4_ofTreaty 0 = .ok (.iload_n 1, 1) := by decide +kernel
theorem dX4_ofTreaty_1 : decode cX4_ofTreaty 1 = .ok (.iconst 3, 1) := by decide +kernel
theorem dX4_ofTreaty_2 : decode cX4_ofTreaty 2 = .ok (.imul, 1) := by decide +kernel
theorem dX4_ofTreaty_3 : decode cX4_ofTreaty 3 = .ok (.iload_n 2, 1) := by decide +kernel
theorem dX4_ofTreaty_4 : decode cX4_ofTreaty 4 = .ok (.iadd, 1) := by decide +kernel
theorem dX4_ofTreaty_5 : decode cX4_ofTreaty 5 = .ok (.istore_n 3, 1) := by decide +kernel
theorem dX4_ofTreaty_6 : decode cX4_ofTreaty 6 = .ok (.iload_n 3, 1) := by decide +kernel
theorem dX4_ofTreaty_7 : decode cX4_ofTreaty 7 = .ok (.ifCond .lt 21, 3) := by decide +kernel
theorem dX4_ofTreaty_10 : decode cX4_ofTreaty 10 = .ok (.iload_n 3, 1) := by decide +kernel
theorem dX4_ofTreaty_11 : decode cX4_ofTreaty 11 = .ok (.aload_n 0, 1) := by decide +kernel
theorem dX4_ofTreaty_12 : decode cX4_ofTreaty 12 = .ok (.getfield 15, 3) := by decide +kernel
theorem dX4_ofTreaty_15 : decode cX4_ofTreaty 15 = .ok (.arraylength, 1) := by decide +kernel
theorem dX4_ofTreaty_16 : decode cX4_ofTreaty 16 = .ok (.if_icmp .ge 12, 3) := by decide +kernel
theorem dX4_ofTreaty_19 : decode cX4_ofTreaty 19 = .ok (.aload_n 0, 1) := by decide +kernel
theorem dX4_ofTreaty_20 : decode cX4_ofTreaty 20 = .ok (.getfield 15, 3) := by decide +kernel
theorem dX4_ofTreaty_23 : decode cX4_ofTreaty 23 = .ok (.iload_n 3, 1) := by decide +kernel
theorem dX4_ofTreaty_24 : decode cX4_ofTreaty 24 = .ok (.iaload, 1) := by decide +kernel
theorem dX4_ofTreaty_25 : decode cX4_ofTreaty 25 = .ok (.goto 4, 3) := by decide +kernel
theorem dX4_ofTreaty_28 : decode cX4_ofTreaty 28 = .ok (.iconst 0, 1) := by decide +kernel
theorem dX4_ofTreaty_29 : decode cX4_ofTreaty 29 = .ok (.ireturn, 1) := by decide +kernel
theorem dX4_readLine_0 : decode cX4_readLine 0 = .ok (.aload_n 0, 1) := by decide +kernel
theorem dX4_readLine_1 : decode cX4_readLine 1 = .ok (.getfield 29, 3) := by decide +kernel
theorem dX4_readLine_4 : decode cX4_readLine 4 = .ok (.istore_n 1, 1) := by decide +kernel
theorem dX4_readLine_5 : decode cX4_readLine 5 = .ok (.aload_n 0, 1) := by decide +kernel
theorem dX4_readLine_6 : decode cX4_readLine 6 = .ok (.invokevirtual 49, 3) := by decide +kernel
theorem dX4_readLine_9 : decode cX4_readLine 9 = .ok (.aload_n 0, 1) := by decide +kernel
theorem dX4_readLine_10 : decode cX4_readLine 10 = .ok (.iload_n 1, 1) := by decide +kernel
theorem dX4_readLine_11 : decode cX4_readLine 11 = .ok (.ldc 52, 2) := by decide +kernel
theorem dX4_readLine_13 : decode cX4_readLine 13 = .ok (.invokevirtual 54, 3) := by decide +kernel
theorem dX4_readLine_16 : decode cX4_readLine 16 = .ok (.ifCond .eq 35, 3) := by decide +kernel
theorem dX4_readLine_19 : decode cX4_readLine 19 = .ok (.aload_n 0, 1) := by decide +kernel
theorem dX4_readLine_20 : decode cX4_readLine 20 = .ok (.iload_n 1, 1) := by decide +kernel
theorem dX4_readLine_21 : decode cX4_readLine 21 = .ok (.aload_n 0, 1) := by decide +kernel
theorem dX4_readLine_22 : decode cX4_readLine 22 = .ok (.getfield 32, 3) := by decide +kernel
theorem dX4_readLine_25 : decode cX4_readLine 25 = .ok (.aload_n 0, 1) := by decide +kernel
theorem dX4_readLine_26 : decode cX4_readLine 26 = .ok (.getfield 11, 3) := by decide +kernel
theorem dX4_readLine_29 : decode cX4_readLine 29 = .ok (.getstatic 58, 3) := by decide +kernel
theorem dX4_readLine_32 : decode cX4_readLine 32 = .ok (.getstatic 61, 3) := by decide +kernel
theorem dX4_readLine_35 : decode cX4_readLine 35 = .ok (.invokevirtual 64, 3) := by decide +kernel
theorem dX4_readLine_38 : decode cX4_readLine 38 = .ok (.aload_n 0, 1) := by decide +kernel
theorem dX4_readLine_39 : decode cX4_readLine 39 = .ok (.dup, 1) := by decide +kernel
theorem dX4_readLine_40 : decode cX4_readLine 40 = .ok (.getfield 32, 3) := by decide +kernel
theorem dX4_readLine_43 : decode cX4_readLine 43 = .ok (.iconst 1, 1) := by decide +kernel
theorem dX4_readLine_44 : decode cX4_readLine 44 = .ok (.iadd, 1) := by decide +kernel
theorem dX4_readLine_45 : decode cX4_readLine 45 = .ok (.putfield 32, 3) := by decide +kernel
theorem dX4_readLine_48 : decode cX4_readLine 48 = .ok (.goto 51, 3) := by decide +kernel
theorem dX4_readLine_51 : decode cX4_readLine 51 = .ok (.aload_n 0, 1) := by decide +kernel
theorem dX4_readLine_52 : decode cX4_readLine 52 = .ok (.iload_n 1, 1) := by decide +kernel
theorem dX4_readLine_53 : decode cX4_readLine 53 = .ok (.ldc 68, 2) := by decide +kernel
theorem dX4_readLine_55 : decode cX4_readLine 55 = .ok (.invokevirtual 54, 3) := by decide +kernel
theorem dX4_readLine_58 : decode cX4_readLine 58 = .ok (.ifCond .eq 35, 3) := by decide +kernel
theorem dX4_readLine_61 : decode cX4_readLine 61 = .ok (.aload_n 0, 1) := by decide +kernel
theorem dX4_readLine_62 : decode cX4_readLine 62 = .ok (.iload_n 1, 1) := by decide +kernel
theorem dX4_readLine_63 : decode cX4_readLine 63 = .ok (.aload_n 0, 1) := by decide +kernel
theorem dX4_readLine_64 : decode cX4_readLine 64 = .ok (.getfield 35, 3) := by decide +kernel
theorem dX4_readLine_67 : decode cX4_readLine 67 = .ok (.aload_n 0, 1) := by decide +kernel
theorem dX4_readLine_68 : decode cX4_readLine 68 = .ok (.getfield 15, 3) := by decide +kernel
theorem dX4_readLine_71 : decode cX4_readLine 71 = .ok (.getstatic 70, 3) := by decide +kernel
theorem dX4_readLine_74 : decode cX4_readLine 74 = .ok (.getstatic 73, 3) := by decide +kernel
theorem dX4_readLine_77 : decode cX4_readLine 77 = .ok (.invokevirtual 64, 3) := by decide +kernel
theorem dX4_readLine_80 : decode cX4_readLine 80 = .ok (.aload_n 0, 1) := by decide +kernel
theorem dX4_readLine_81 : decode cX4_readLine 81 = .ok (.dup, 1) := by decide +kernel
theorem dX4_readLine_82 : decode cX4_readLine 82 = .ok (.getfield 35, 3) := by decide +kernel
theorem dX4_readLine_85 : decode cX4_readLine 85 = .ok (.iconst 1, 1) := by decide +kernel
theorem dX4_readLine_86 : decode cX4_readLine 86 = .ok (.iadd, 1) := by decide +kernel
theorem dX4_readLine_87 : decode cX4_readLine 87 = .ok (.putfield 35, 3) := by decide +kernel
theorem dX4_readLine_90 : decode cX4_readLine 90 = .ok (.goto 9, 3) := by decide +kernel
theorem dX4_readLine_93 : decode cX4_readLine 93 = .ok (.aload_n 0, 1) := by decide +kernel
theorem dX4_readLine_94 : decode cX4_readLine 94 = .ok (.iconst 1, 1) := by decide +kernel
theorem dX4_readLine_95 : decode cX4_readLine 95 = .ok (.iload_n 1, 1) := by decide +kernel
theorem dX4_readLine_96 : decode cX4_readLine 96 = .ok (.invokevirtual 76, 3) := by decide +kernel
theorem dX4_readLine_99 : decode cX4_readLine 99 = .ok (.aload_n 0, 1) := by decide +kernel
theorem dX4_readLine_100 : decode cX4_readLine 100 = .ok (.invokevirtual 80, 3) := by decide +kernel
theorem dX4_readLine_103 : decode cX4_readLine 103 = .ok (.return_, 1) := by decide +kernel
theorem dX4_readNumbers_0 : decode cX4_readNumbers 0 = .ok (.iload_n 2, 1) := by decide +kernel
theorem dX4_readNumbers_1 : decode cX4_readNumbers 1 = .ok (.aload 4, 2) := by decide +kernel
theorem dX4_readNumbers_3 : decode cX4_readNumbers 3 = .ok (.arraylength, 1) := by decide +kernel
theorem dX4_readNumbers_4 : decode cX4_readNumbers 4 = .ok (.imul, 1) := by decide +kernel
theorem dX4_readNumbers_5 : decode cX4_readNumbers 5 = .ok (.istore 6, 2) := by decide +kernel
theorem dX4_readNumbers_7 : decode cX4_readNumbers 7 = .ok (.iload 6, 2) := by decide +kernel
theorem dX4_readNumbers_9 : decode cX4_readNumbers 9 = .ok (.aload_n 3, 1) := by decide +kernel
theorem dX4_readNumbers_10 : decode cX4_readNumbers 10 = .ok (.arraylength, 1) := by decide +kernel
theorem dX4_readNumbers_11 : decode cX4_readNumbers 11 = .ok (.if_icmp .lt 9, 3) := by decide +kernel
theorem dX4_readNumbers_14 : decode cX4_readNumbers 14 = .ok (.aload_n 0, 1) := by decide +kernel
theorem dX4_readNumbers_15 : decode cX4_readNumbers 15 = .ok (.iconst 2, 1) := by decide +kernel
theorem dX4_readNumbers_16 : decode cX4_readNumbers 16 = .ok (.iload_n 1, 1) := by decide +kernel
theorem dX4_readNumbers_17 : decode cX4_readNumbers 17 = .ok (.invokevirtual 76, 3) := by decide +kernel
theorem dX4_readNumbers_20 : decode cX4_readNumbers 20 = .ok (.iconst 0, 1) := by decide +kernel
theorem dX4_readNumbers_21 : decode cX4_readNumbers 21 = .ok (.istore 7, 2) := by decide +kernel
theorem dX4_readNumbers_23 : decode cX4_readNumbers 23 = .ok (.iload 7, 2) := by decide +kernel
theorem dX4_readNumbers_25 : decode cX4_readNumbers 25 = .ok (.aload 4, 2) := by decide +kernel
theorem dX4_readNumbers_27 : decode cX4_readNumbers 27 = .ok (.arraylength, 1) := by decide +kernel
theorem dX4_readNumbers_28 : decode cX4_readNumbers 28 = .ok (.if_icmp .ge 67, 3) := by decide +kernel
theorem dX4_readNumbers_31 : decode cX4_readNumbers 31 = .ok (.iload 7, 2) := by decide +kernel
theorem dX4_readNumbers_33 : decode cX4_readNumbers 33 = .ok (.aload 5, 2) := by decide +kernel
theorem dX4_readNumbers_35 : decode cX4_readNumbers 35 = .ok (.arraylength, 1) := by decide +kernel
theorem dX4_readNumbers_36 : decode cX4_readNumbers 36 = .ok (.if_icmp .ge 59, 3) := by decide +kernel
theorem dX4_readNumbers_39 : decode cX4_readNumbers 39 = .ok (.aload_n 0, 1) := by decide +kernel
theorem dX4_readNumbers_40 : decode cX4_readNumbers 40 = .ok (.getfield 38, 3) := by decide +kernel
theorem dX4_readNumbers_43 : decode cX4_readNumbers 43 = .ok (.ifCond .ne 52, 3) := by decide +kernel
theorem dX4_readNumbers_46 : decode cX4_readNumbers 46 = .ok (.aload_n 0, 1) := by decide +kernel
theorem dX4_readNumbers_47 : decode cX4_readNumbers 47 = .ok (.aload 4, 2) := by decide +kernel
theorem dX4_readNumbers_49 : decode cX4_readNumbers 49 = .ok (.iload 7, 2) := by decide +kernel
theorem dX4_readNumbers_51 : decode cX4_readNumbers 51 = .ok (.iaload, 1) := by decide +kernel
theorem dX4_readNumbers_52 : decode cX4_readNumbers 52 = .ok (.aload 5, 2) := by decide +kernel
theorem dX4_readNumbers_54 : decode cX4_readNumbers 54 = .ok (.iload 7, 2) := by decide +kernel
theorem dX4_readNumbers_56 : decode cX4_readNumbers 56 = .ok (.iaload, 1) := by decide +kernel
theorem dX4_readNumbers_57 : decode cX4_readNumbers 57 = .ok (.invokevirtual 83, 3) := by decide +kernel
theorem dX4_readNumbers_60 : decode cX4_readNumbers 60 = .ok (.istore 8, 2) := by decide +kernel
theorem dX4_readNumbers_62 : decode cX4_readNumbers 62 = .ok (.iload 6, 2) := by decide +kernel
theorem dX4_readNumbers_64 : decode cX4_readNumbers 64 = .ok (.iload 7, 2) := by decide +kernel
theorem dX4_readNumbers_66 : decode cX4_readNumbers 66 = .ok (.iadd, 1) := by decide +kernel
theorem dX4_readNumbers_67 : decode cX4_readNumbers 67 = .ok (.ifCond .lt 22, 3) := by decide +kernel
theorem dX4_readNumbers_70 : decode cX4_readNumbers 70 = .ok (.iload 6, 2) := by decide +kernel
theorem dX4_readNumbers_72 : decode cX4_readNumbers 72 = .ok (.iload 7, 2) := by decide +kernel
theorem dX4_readNumbers_74 : decode cX4_readNumbers 74 = .ok (.iadd, 1) := by decide +kernel
theorem dX4_readNumbers_75 : decode cX4_readNumbers 75 = .ok (.aload_n 3, 1) := by decide +kernel
theorem dX4_readNumbers_76 : decode cX4_readNumbers 76 = .ok (.arraylength, 1) := by decide +kernel
theorem dX4_readNumbers_77 : decode cX4_readNumbers 77 = .ok (.if_icmp .ge 12, 3) := by decide +kernel
theorem dX4_readNumbers_80 : decode cX4_readNumbers 80 = .ok (.aload_n 3, 1) := by decide +kernel
theorem dX4_readNumbers_81 : decode cX4_readNumbers 81 = .ok (.iload 6, 2) := by decide +kernel
theorem dX4_readNumbers_83 : decode cX4_readNumbers 83 = .ok (.iload 7, 2) := by decide +kernel
theorem dX4_readNumbers_85 : decode cX4_readNumbers 85 = .ok (.iadd, 1) := by decide +kernel
theorem dX4_readNumbers_86 : decode cX4_readNumbers 86 = .ok (.iload 8, 2) := by decide +kernel
theorem dX4_readNumbers_88 : decode cX4_readNumbers 88 = .ok (.iastore, 1) := by decide +kernel
theorem dX4_readNumbers_89 : decode cX4_readNumbers 89 = .ok (.iinc 7 1, 3) := by decide +kernel
theorem dX4_readNumbers_92 : decode cX4_readNumbers 92 = .ok (.goto (-69), 3) := by decide +kernel
theorem dX4_readNumbers_95 : decode cX4_readNumbers 95 = .ok (.return_, 1) := by decide +kernel
theorem dX4_readNumber_0 : decode cX4_readNumber 0 = .ok (.aload_n 0, 1) := by decide +kernel
theorem dX4_readNumber_1 : decode cX4_readNumber 1 = .ok (.invokevirtual 41, 3) := by decide +kernel
theorem dX4_readNumber_4 : decode cX4_readNumber 4 = .ok (.aload_n 0, 1) := by decide +kernel
theorem dX4_readNumber_5 : decode cX4_readNumber 5 = .ok (.getfield 29, 3) := by decide +kernel
theorem dX4_readNumber_8 : decode cX4_readNumber 8 = .ok (.istore_n 3, 1) := by decide +kernel
theorem dX4_readNumber_9 : decode cX4_readNumber 9 = .ok (.iconst 0, 1) := by decide +kernel
theorem dX4_readNumber_10 : decode cX4_readNumber 10 = .ok (.istore 4, 2) := by decide +kernel
theorem dX4_readNumber_12 : decode cX4_readNumber 12 = .ok (.aload_n 0, 1) := by decide +kernel
theorem dX4_readNumber_13 : decode cX4_readNumber 13 = .ok (.getfield 29, 3) := by decide +kernel
theorem dX4_readNumber_16 : decode cX4_readNumber 16 = .ok (.aload_n 0, 1) := by decide +kernel
theorem dX4_readNumber_17 : decode cX4_readNumber 17 = .ok (.getfield 26, 3) := by decide +kernel
theorem dX4_readNumber_20 : decode cX4_readNumber 20 = .ok (.if_icmp .ge 60, 3) := by decide +kernel
theorem dX4_readNumber_23 : decode cX4_readNumber 23 = .ok (.aload_n 0, 1) := by decide +kernel
theorem dX4_readNumber_24 : decode cX4_readNumber 24 = .ok (.getfield 22, 3) := by decide +kernel
theorem dX4_readNumber_27 : decode cX4_readNumber 27 = .ok (.aload_n 0, 1) := by decide +kernel
theorem dX4_readNumber_28 : decode cX4_readNumber 28 = .ok (.getfield 29, 3) := by decide +kernel
theorem dX4_readNumber_31 : decode cX4_readNumber 31 = .ok (.invokevirtual 87, 3) := by decide +kernel
theorem dX4_readNumber_34 : decode cX4_readNumber 34 = .ok (.invokestatic 90, 3) := by decide +kernel
theorem dX4_readNumber_37 : decode cX4_readNumber 37 = .ok (.ifCond .eq 43, 3) := by decide +kernel
theorem dX4_readNumber_40 : decode cX4_readNumber 40 = .ok (.ldc 94, 2) := by decide +kernel
theorem dX4_readNumber_42 : decode cX4_readNumber 42 = .ok (.iload 4, 2) := by decide +kernel
theorem dX4_readNumber_44 : decode cX4_readNumber 44 = .ok (.bipush 10, 2) := by decide +kernel
theorem dX4_readNumber_46 : decode cX4_readNumber 46 = .ok (.imul, 1) := by decide +kernel
theorem dX4_readNumber_47 : decode cX4_readNumber 47 = .ok (.aload_n 0, 1) := by decide +kernel
theorem dX4_readNumber_48 : decode cX4_readNumber 48 = .ok (.getfield 22, 3) := by decide +kernel
theorem dX4_readNumber_51 : decode cX4_readNumber 51 = .ok (.aload_n 0, 1) := by decide +kernel
theorem dX4_readNumber_52 : decode cX4_readNumber 52 = .ok (.getfield 29, 3) := by decide +kernel
theorem dX4_readNumber_55 : decode cX4_readNumber 55 = .ok (.invokevirtual 87, 3) := by decide +kernel
theorem dX4_readNumber_58 : decode cX4_readNumber 58 = .ok (.bipush 48, 2) := by decide +kernel
theorem dX4_readNumber_60 : decode cX4_readNumber 60 = .ok (.isub, 1) := by decide +kernel
theorem dX4_readNumber_61 : decode cX4_readNumber 61 = .ok (.iadd, 1) := by decide +kernel
theorem dX4_readNumber_62 : decode cX4_readNumber 62 = .ok (.invokestatic 95, 3) := by decide +kernel
theorem dX4_readNumber_65 : decode cX4_readNumber 65 = .ok (.istore 4, 2) := by decide +kernel
theorem dX4_readNumber_67 : decode cX4_readNumber 67 = .ok (.aload_n 0, 1) := by decide +kernel
theorem dX4_readNumber_68 : decode cX4_readNumber 68 = .ok (.dup, 1) := by decide +kernel
theorem dX4_readNumber_69 : decode cX4_readNumber 69 = .ok (.getfield 29, 3) := by decide +kernel
theorem dX4_readNumber_72 : decode cX4_readNumber 72 = .ok (.iconst 1, 1) := by decide +kernel
theorem dX4_readNumber_73 : decode cX4_readNumber 73 = .ok (.iadd, 1) := by decide +kernel
theorem dX4_readNumber_74 : decode cX4_readNumber 74 = .ok (.putfield 29, 3) := by decide +kernel
theorem dX4_readNumber_77 : decode cX4_readNumber 77 = .ok (.goto (-65), 3) := by decide +kernel
theorem dX4_readNumber_80 : decode cX4_readNumber 80 = .ok (.aload_n 0, 1) := by decide +kernel
theorem dX4_readNumber_81 : decode cX4_readNumber 81 = .ok (.getfield 29, 3) := by decide +kernel
theorem dX4_readNumber_84 : decode cX4_readNumber 84 = .ok (.iload_n 3, 1) := by decide +kernel
theorem dX4_readNumber_85 : decode cX4_readNumber 85 = .ok (.if_icmp .ne 12, 3) := by decide +kernel
theorem dX4_readNumber_88 : decode cX4_readNumber 88 = .ok (.aload_n 0, 1) := by decide +kernel
theorem dX4_readNumber_89 : decode cX4_readNumber 89 = .ok (.iconst 1, 1) := by decide +kernel
theorem dX4_readNumber_90 : decode cX4_readNumber 90 = .ok (.iload_n 3, 1) := by decide +kernel
theorem dX4_readNumber_91 : decode cX4_readNumber 91 = .ok (.invokevirtual 76, 3) := by decide +kernel
theorem dX4_readNumber_94 : decode cX4_readNumber 94 = .ok (.goto 21, 3) := by decide +kernel
theorem dX4_readNumber_97 : decode cX4_readNumber 97 = .ok (.iload 4, 2) := by decide +kernel
theorem dX4_readNumber_99 : decode cX4_readNumber 99 = .ok (.iload_n 1, 1) := by decide +kernel
theorem dX4_readNumber_100 : decode cX4_readNumber 100 = .ok (.if_icmp .lt 9, 3) := by decide +kernel
theorem dX4_readNumber_103 : decode cX4_readNumber 103 = .ok (.iload 4, 2) := by decide +kernel
theorem dX4_readNumber_105 : decode cX4_readNumber 105 = .ok (.iload_n 2, 1) := by decide +kernel
theorem dX4_readNumber_106 : decode cX4_readNumber 106 = .ok (.if_icmp .le 9, 3) := by decide +kernel
theorem dX4_readNumber_109 : decode cX4_readNumber 109 = .ok (.aload_n 0, 1) := by decide +kernel
theorem dX4_readNumber_110 : decode cX4_readNumber 110 = .ok (.iconst 2, 1) := by decide +kernel
theorem dX4_readNumber_111 : decode cX4_readNumber 111 = .ok (.iload_n 3, 1) := by decide +kernel
theorem dX4_readNumber_112 : decode cX4_readNumber 112 = .ok (.invokevirtual 76, 3) := by decide +kernel
theorem dX4_readNumber_115 : decode cX4_readNumber 115 = .ok (.iload 4, 2) := by decide +kernel
theorem dX4_readNumber_117 : decode cX4_readNumber 117 = .ok (.ireturn, 1) := by decide +kernel
theorem dX4_readEnd_0 : decode cX4_readEnd 0 = .ok (.aload_n 0, 1) := by decide +kernel
theorem dX4_readEnd_1 : decode cX4_readEnd 1 = .ok (.invokevirtual 41, 3) := by decide +kernel
theorem dX4_readEnd_4 : decode cX4_readEnd 4 = .ok (.aload_n 0, 1) := by decide +kernel
theorem dX4_readEnd_5 : decode cX4_readEnd 5 = .ok (.getfield 29, 3) := by decide +kernel
theorem dX4_readEnd_8 : decode cX4_readEnd 8 = .ok (.aload_n 0, 1) := by decide +kernel
theorem dX4_readEnd_9 : decode cX4_readEnd 9 = .ok (.getfield 26, 3) := by decide +kernel
theorem dX4_readEnd_12 : decode cX4_readEnd 12 = .ok (.if_icmp .ge 32, 3) := by decide +kernel
theorem dX4_readEnd_15 : decode cX4_readEnd 15 = .ok (.aload_n 0, 1) := by decide +kernel
theorem dX4_readEnd_16 : decode cX4_readEnd 16 = .ok (.getfield 22, 3) := by decide +kernel
theorem dX4_readEnd_19 : decode cX4_readEnd 19 = .ok (.aload_n 0, 1) := by decide +kernel
theorem dX4_readEnd_20 : decode cX4_readEnd 20 = .ok (.getfield 29, 3) := by decide +kernel
theorem dX4_readEnd_23 : decode cX4_readEnd 23 = .ok (.invokevirtual 87, 3) := by decide +kernel
theorem dX4_readEnd_26 : decode cX4_readEnd 26 = .ok (.bipush 59, 2) := by decide +kernel
theorem dX4_readEnd_28 : decode cX4_readEnd 28 = .ok (.if_icmp .ne 16, 3) := by decide +kernel
theorem dX4_readEnd_31 : decode cX4_readEnd 31 = .ok (.aload_n 0, 1) := by decide +kernel
theorem dX4_readEnd_32 : decode cX4_readEnd 32 = .ok (.dup, 1) := by decide +kernel
theorem dX4_readEnd_33 : decode cX4_readEnd 33 = .ok (.getfield 29, 3) := by decide +kernel
theorem dX4_readEnd_36 : decode cX4_readEnd 36 = .ok (.iconst 1, 1) := by decide +kernel
theorem dX4_readEnd_37 : decode cX4_readEnd 37 = .ok (.iadd, 1) := by decide +kernel
theorem dX4_readEnd_38 : decode cX4_readEnd 38 = .ok (.putfield 29, 3) := by decide +kernel
theorem dX4_readEnd_41 : decode cX4_readEnd 41 = .ok (.goto 12, 3) := by decide +kernel
theorem dX4_readEnd_44 : decode cX4_readEnd 44 = .ok (.aload_n 0, 1) := by decide +kernel
theorem dX4_readEnd_45 : decode cX4_readEnd 45 = .ok (.iconst 1, 1) := by decide +kernel
theorem dX4_readEnd_46 : decode cX4_readEnd 46 = .ok (.aload_n 0, 1) := by decide +kernel
theorem dX4_readEnd_47 : decode cX4_readEnd 47 = .ok (.getfield 29, 3) := by decide +kernel
theorem dX4_readEnd_50 : decode cX4_readEnd 50 = .ok (.invokevirtual 76, 3) := by decide +kernel
theorem dX4_readEnd_53 : decode cX4_readEnd 53 = .ok (.return_, 1) := by decide +kernel
theorem dX4_complain_0 : decode cX4_complain 0 = .ok (.aload_n 0, 1) := by decide +kernel
theorem dX4_complain_1 : decode cX4_complain 1 = .ok (.getfield 38, 3) := by decide +kernel
theorem dX4_complain_4 : decode cX4_complain 4 = .ok (.ifCond .ne 13, 3) := by decide +kernel
theorem dX4_complain_7 : decode cX4_complain 7 = .ok (.aload_n 0, 1) := by decide +kernel
theorem dX4_complain_8 : decode cX4_complain 8 = .ok (.iload_n 1, 1) := by decide +kernel
theorem dX4_complain_9 : decode cX4_complain 9 = .ok (.putfield 38, 3) := by decide +kernel
theorem dX4_complain_12 : decode cX4_complain 12 = .ok (.aload_n 0, 1) := by decide +kernel
theorem dX4_complain_13 : decode cX4_complain 13 = .ok (.iload_n 2, 1) := by decide +kernel
theorem dX4_complain_14 : decode cX4_complain 14 = .ok (.putfield 18, 3) := by decide +kernel
theorem dX4_complain_17 : decode cX4_complain 17 = .ok (.return_, 1) := by decide +kernel
theorem dX4_skipBlanks_0 : decode cX4_skipBlanks 0 = .ok (.aload_n 0, 1) := by decide +kernel
theorem dX4_skipBlanks_1 : decode cX4_skipBlanks 1 = .ok (.getfield 29, 3) := by decide +kernel
theorem dX4_skipBlanks_4 : decode cX4_skipBlanks 4 = .ok (.aload_n 0, 1) := by decide +kernel
theorem dX4_skipBlanks_5 : decode cX4_skipBlanks 5 = .ok (.getfield 26, 3) := by decide +kernel
theorem dX4_skipBlanks_8 : decode cX4_skipBlanks 8 = .ok (.if_icmp .ge 48, 3) := by decide +kernel
theorem dX4_skipBlanks_11 : decode cX4_skipBlanks 11 = .ok (.aload_n 0, 1) := by decide +kernel
theorem dX4_skipBlanks_12 : decode cX4_skipBlanks 12 = .ok (.getfield 22, 3) := by decide +kernel
theorem dX4_skipBlanks_15 : decode cX4_skipBlanks 15 = .ok (.aload_n 0, 1) := by decide +kernel
theorem dX4_skipBlanks_16 : decode cX4_skipBlanks 16 = .ok (.getfield 29, 3) := by decide +kernel
theorem dX4_skipBlanks_19 : decode cX4_skipBlanks 19 = .ok (.invokevirtual 87, 3) := by decide +kernel
theorem dX4_skipBlanks_22 : decode cX4_skipBlanks 22 = .ok (.bipush 10, 2) := by decide +kernel
theorem dX4_skipBlanks_24 : decode cX4_skipBlanks 24 = .ok (.if_icmp .eq 19, 3) := by decide +kernel
theorem dX4_skipBlanks_27 : decode cX4_skipBlanks 27 = .ok (.aload_n 0, 1) := by decide +kernel
theorem dX4_skipBlanks_28 : decode cX4_skipBlanks 28 = .ok (.getfield 22, 3) := by decide +kernel
theorem dX4_skipBlanks_31 : decode cX4_skipBlanks 31 = .ok (.aload_n 0, 1) := by decide +kernel
theorem dX4_skipBlanks_32 : decode cX4_skipBlanks 32 = .ok (.getfield 29, 3) := by decide +kernel
theorem dX4_skipBlanks_35 : decode cX4_skipBlanks 35 = .ok (.invokevirtual 87, 3) := by decide +kernel
theorem dX4_skipBlanks_38 : decode cX4_skipBlanks 38 = .ok (.bipush 32, 2) := by decide +kernel
theorem dX4_skipBlanks_40 : decode cX4_skipBlanks 40 = .ok (.if_icmp .ne 16, 3) := by decide +kernel
theorem dX4_skipBlanks_43 : decode cX4_skipBlanks 43 = .ok (.aload_n 0, 1) := by decide +kernel
theorem dX4_skipBlanks_44 : decode cX4_skipBlanks 44 = .ok (.dup, 1) := by decide +kernel
theorem dX4_skipBlanks_45 : decode cX4_skipBlanks 45 = .ok (.getfield 29, 3) := by decide +kernel
theorem dX4_skipBlanks_48 : decode cX4_skipBlanks 48 = .ok (.iconst 1, 1) := by decide +kernel
theorem dX4_skipBlanks_49 : decode cX4_skipBlanks 49 = .ok (.iadd, 1) := by decide +kernel
theorem dX4_skipBlanks_50 : decode cX4_skipBlanks 50 = .ok (.putfield 29, 3) := by decide +kernel
theorem dX4_skipBlanks_53 : decode cX4_skipBlanks 53 = .ok (.goto (-53), 3) := by decide +kernel
theorem dX4_skipBlanks_56 : decode cX4_skipBlanks 56 = .ok (.return_, 1) := by decide +kernel
theorem dX4_passWord_0 : decode cX4_passWord 0 = .ok (.aload_n 0, 1) := by decide +kernel
theorem dX4_passWord_1 : decode cX4_passWord 1 = .ok (.getfield 29, 3) := by decide +kernel
theorem dX4_passWord_4 : decode cX4_passWord 4 = .ok (.aload_n 0, 1) := by decide +kernel
theorem dX4_passWord_5 : decode cX4_passWord 5 = .ok (.getfield 26, 3) := by decide +kernel
theorem dX4_passWord_8 : decode cX4_passWord 8 = .ok (.if_icmp .ge 48, 3) := by decide +kernel
theorem dX4_passWord_11 : decode cX4_passWord 11 = .ok (.aload_n 0, 1) := by decide +kernel
theorem dX4_passWord_12 : decode cX4_passWord 12 = .ok (.getfield 22, 3) := by decide +kernel
theorem dX4_passWord_15 : decode cX4_passWord 15 = .ok (.aload_n 0, 1) := by decide +kernel
theorem dX4_passWord_16 : decode cX4_passWord 16 = .ok (.getfield 29, 3) := by decide +kernel
theorem dX4_passWord_19 : decode cX4_passWord 19 = .ok (.invokevirtual 87, 3) := by decide +kernel
theorem dX4_passWord_22 : decode cX4_passWord 22 = .ok (.bipush 97, 2) := by decide +kernel
theorem dX4_passWord_24 : decode cX4_passWord 24 = .ok (.if_icmp .lt 32, 3) := by decide +kernel
theorem dX4_passWord_27 : decode cX4_passWord 27 = .ok (.aload_n 0, 1) := by decide +kernel
theorem dX4_passWord_28 : decode cX4_passWord 28 = .ok (.getfield 22, 3) := by decide +kernel
theorem dX4_passWord_31 : decode cX4_passWord 31 = .ok (.aload_n 0, 1) := by decide +kernel
theorem dX4_passWord_32 : decode cX4_passWord 32 = .ok (.getfield 29, 3) := by decide +kernel
theorem dX4_passWord_35 : decode cX4_passWord 35 = .ok (.invokevirtual 87, 3) := by decide +kernel
theorem dX4_passWord_38 : decode cX4_passWord 38 = .ok (.bipush 122, 2) := by decide +kernel
theorem dX4_passWord_40 : decode cX4_passWord 40 = .ok (.if_icmp .gt 16, 3) := by decide +kernel
theorem dX4_passWord_43 : decode cX4_passWord 43 = .ok (.aload_n 0, 1) := by decide +kernel
theorem dX4_passWord_44 : decode cX4_passWord 44 = .ok (.dup, 1) := by decide +kernel
theorem dX4_passWord_45 : decode cX4_passWord 45 = .ok (.getfield 29, 3) := by decide +kernel
theorem dX4_passWord_48 : decode cX4_passWord 48 = .ok (.iconst 1, 1) := by decide +kernel
theorem dX4_passWord_49 : decode cX4_passWord 49 = .ok (.iadd, 1) := by decide +kernel
theorem dX4_passWord_50 : decode cX4_passWord 50 = .ok (.putfield 29, 3) := by decide +kernel
theorem dX4_passWord_53 : decode cX4_passWord 53 = .ok (.goto (-53), 3) := by decide +kernel
theorem dX4_passWord_56 : decode cX4_passWord 56 = .ok (.return_, 1) := by decide +kernel
theorem dX4_spells_0 : decode cX4_spells 0 = .ok (.aload_n 0, 1) := by decide +kernel
theorem dX4_spells_1 : decode cX4_spells 1 = .ok (.getfield 29, 3) := by decide +kernel
theorem dX4_spells_4 : decode cX4_spells 4 = .ok (.iload_n 1, 1) := by decide +kernel
theorem dX4_spells_5 : decode cX4_spells 5 = .ok (.isub, 1) := by decide +kernel
theorem dX4_spells_6 : decode cX4_spells 6 = .ok (.aload_n 2, 1) := by decide +kernel
theorem dX4_spells_7 : decode cX4_spells 7 = .ok (.invokevirtual 100, 3) := by decide +kernel
theorem dX4_spells_10 : decode cX4_spells 10 = .ok (.if_icmp .eq 5, 3) := by decide +kernel
theorem dX4_spells_13 : decode cX4_spells 13 = .ok (.iconst 0, 1) := by decide +kernel
theorem dX4_spells_14 : decode cX4_spells 14 = .ok (.ireturn, 1) := by decide +kernel
theorem dX4_spells_15 : decode cX4_spells 15 = .ok (.iconst 0, 1) := by decide +kernel
theorem dX4_spells_16 : decode cX4_spells 16 = .ok (.istore_n 3, 1) := by decide +kernel
theorem dX4_spells_17 : decode cX4_spells 17 = .ok (.iload_n 3, 1) := by decide +kernel
theorem dX4_spells_18 : decode cX4_spells 18 = .ok (.aload_n 2, 1) := by decide +kernel
theorem dX4_spells_19 : decode cX4_spells 19 = .ok (.invokevirtual 100, 3) := by decide +kernel
theorem dX4_spells_22 : decode cX4_spells 22 = .ok (.if_icmp .ge 29, 3) := by decide +kernel
theorem dX4_spells_25 : decode cX4_spells 25 = .ok (.aload_n 0, 1) := by decide +kernel
theorem dX4_spells_26 : decode cX4_spells 26 = .ok (.getfield 22, 3) := by decide +kernel
theorem dX4_spells_29 : decode cX4_spells 29 = .ok (.iload_n 1, 1) := by decide +kernel
theorem dX4_spells_30 : decode cX4_spells 30 = .ok (.iload_n 3, 1) := by decide +kernel
theorem dX4_spells_31 : decode cX4_spells 31 = .ok (.iadd, 1) := by decide +kernel
theorem dX4_spells_32 : decode cX4_spells 32 = .ok (.invokevirtual 87, 3) := by decide +kernel
theorem dX4_spells_35 : decode cX4_spells 35 = .ok (.aload_n 2, 1) := by decide +kernel
theorem dX4_spells_36 : decode cX4_spells 36 = .ok (.iload_n 3, 1) := by decide +kernel
theorem dX4_spells_37 : decode cX4_spells 37 = .ok (.invokevirtual 105, 3) := by decide +kernel
theorem dX4_spells_40 : decode cX4_spells 40 = .ok (.if_icmp .eq 5, 3) := by decide +kernel
theorem dX4_spells_43 : decode cX4_spells 43 = .ok (.iconst 0, 1) := by decide +kernel
theorem dX4_spells_44 : decode cX4_spells 44 = .ok (.ireturn, 1) := by decide +kernel
theorem dX4_spells_45 : decode cX4_spells 45 = .ok (.iinc 3 1, 3) := by decide +kernel
theorem dX4_spells_48 : decode cX4_spells 48 = .ok (.goto (-31), 3) := by decide +kernel
theorem dX4_spells_51 : decode cX4_spells 51 = .ok (.iconst 1, 1) := by decide +kernel
theorem dX4_spells_52 : decode cX4_spells 52 = .ok (.ireturn, 1) := by decide +kernel
theorem dX4_isDigit_0 : decode cX4_isDigit 0 = .ok (.iload_n 0, 1) := by decide +kernel
theorem dX4_isDigit_1 : decode cX4_isDigit 1 = .ok (.bipush 48, 2) := by decide +kernel
theorem dX4_isDigit_3 : decode cX4_isDigit 3 = .ok (.if_icmp .lt 13, 3) := by decide +kernel
theorem dX4_isDigit_6 : decode cX4_isDigit 6 = .ok (.iload_n 0, 1) := by decide +kernel
theorem dX4_isDigit_7 : decode cX4_isDigit 7 = .ok (.bipush 57, 2) := by decide +kernel
theorem dX4_isDigit_9 : decode cX4_isDigit 9 = .ok (.if_icmp .gt 7, 3) := by decide +kernel
theorem dX4_isDigit_12 : decode cX4_isDigit 12 = .ok (.iconst 1, 1) := by decide +kernel
theorem dX4_isDigit_13 : decode cX4_isDigit 13 = .ok (.goto 4, 3) := by decide +kernel
theorem dX4_isDigit_16 : decode cX4_isDigit 16 = .ok (.iconst 0, 1) := by decide +kernel
theorem dX4_isDigit_17 : decode cX4_isDigit 17 = .ok (.ireturn, 1) := by decide +kernel
theorem dX5_init_0 : decode cX5_init 0 = .ok (.aload_n 0, 1) := by decide +kernel
theorem dX5_init_1 : decode cX5_init 1 = .ok (.invokespecial 3, 3) := by decide +kernel
theorem dX5_init_4 : decode cX5_init 4 = .ok (.aload_n 0, 1) := by decide +kernel
theorem dX5_init_5 : decode cX5_init 5 = .ok (.bipush 90, 2) := by decide +kernel
theorem dX5_init_7 : decode cX5_init 7 = .ok (.newarray .int, 2) := by decide +kernel
theorem dX5_init_9 : decode cX5_init 9 = .ok (.putfield 11, 3) := by decide +kernel
theorem dX5_init_12 : decode cX5_init 12 = .ok (.aload_n 0, 1) := by decide +kernel
theorem dX5_init_13 : decode cX5_init 13 = .ok (.iload_n 1, 1) := by decide +kernel
theorem dX5_init_14 : decode cX5_init 14 = .ok (.putfield 15, 3) := by decide +kernel
theorem dX5_init_17 : decode cX5_init 17 = .ok (.return_, 1) := by decide +kernel
theorem dX5_note_0 : decode cX5_note 0 = .ok (.aload_n 0, 1) := by decide +kernel
theorem dX5_note_1 : decode cX5_note 1 = .ok (.getfield 19, 3) := by decide +kernel
theorem dX5_note_4 : decode cX5_note 4 = .ok (.bipush 30, 2) := by decide +kernel
theorem dX5_note_6 : decode cX5_note 6 = .ok (.irem, 1) := by decide +kernel
theorem dX5_note_7 : decode cX5_note 7 = .ok (.iconst 3, 1) := by decide +kernel
theorem dX5_note_8 : decode cX5_note 8 = .ok (.imul, 1) := by decide +kernel
theorem dX5_note_9 : decode cX5_note 9 = .ok (.istore 4, 2) := by decide +kernel
theorem dX5_note_11 : decode cX5_note 11 = .ok (.iload 4, 2) := by decide +kernel
theorem dX5_note_13 : decode cX5_note 13 = .ok (.ifCond .lt 53, 3) := by decide +kernel
theorem dX5_note_16 : decode cX5_note 16 = .ok (.iload 4, 2) := by decide +kernel
theorem dX5_note_18 : decode cX5_note 18 = .ok (.iconst 2, 1) := by decide +kernel
theorem dX5_note_19 : decode cX5_note 19 = .ok (.iadd, 1) := by decide +kernel
theorem dX5_note_20 : decode cX5_note 20 = .ok (.aload_n 0, 1) := by decide +kernel
theorem dX5_note_21 : decode cX5_note 21 = .ok (.getfield 11, 3) := by decide +kernel
theorem dX5_note_24 : decode cX5_note 24 = .ok (.arraylength, 1) := by decide +kernel
theorem dX5_note_25 : decode cX5_note 25 = .ok (.if_icmp .ge 41, 3) := by decide +kernel
theorem dX5_note_28 : decode cX5_note 28 = .ok (.aload_n 0, 1) := by decide +kernel
theorem dX5_note_29 : decode cX5_note 29 = .ok (.getfield 11, 3) := by decide +kernel
theorem dX5_note_32 : decode cX5_note 32 = .ok (.iload 4, 2) := by decide +kernel
theorem dX5_note_34 : decode cX5_note 34 = .ok (.iload_n 1, 1) := by decide +kernel
theorem dX5_note_35 : decode cX5_note 35 = .ok (.iastore, 1) := by decide +kernel
theorem dX5_note_36 : decode cX5_note 36 = .ok (.aload_n 0, 1) := by decide +kernel
theorem dX5_note_37 : decode cX5_note 37 = .ok (.getfield 11, 3) := by decide +kernel
theorem dX5_note_40 : decode cX5_note 40 = .ok (.iload 4, 2) := by decide +kernel
theorem dX5_note_42 : decode cX5_note 42 = .ok (.iconst 1, 1) := by decide +kernel
theorem dX5_note_43 : decode cX5_note 43 = .ok (.iadd, 1) := by decide +kernel
theorem dX5_note_44 : decode cX5_note 44 = .ok (.iload_n 2, 1) := by decide +kernel
theorem dX5_note_45 : decode cX5_note 45 = .ok (.iastore, 1) := by decide +kernel
theorem dX5_note_46 : decode cX5_note 46 = .ok (.aload_n 0, 1) := by decide +kernel
theorem dX5_note_47 : decode cX5_note 47 = .ok (.getfield 11, 3) := by decide +kernel
theorem dX5_note_50 : decode cX5_note 50 = .ok (.iload 4, 2) := by decide +kernel
theorem dX5_note_52 : decode cX5_note 52 = .ok (.iconst 2, 1) := by decide +kernel
theorem dX5_note_53 : decode cX5_note 53 = .ok (.iadd, 1) := by decide +kernel
theorem dX5_note_54 : decode cX5_note 54 = .ok (.iload_n 3, 1) := by decide +kernel
theorem dX5_note_55 : decode cX5_note 55 = .ok (.iastore, 1) := by decide +kernel
theorem dX5_note_56 : decode cX5_note 56 = .ok (.aload_n 0, 1) := by decide +kernel
theorem dX5_note_57 : decode cX5_note 57 = .ok (.dup, 1) := by decide +kernel
theorem dX5_note_58 : decode cX5_note 58 = .ok (.getfield 19, 3) := by decide +kernel
theorem dX5_note_61 : decode cX5_note 61 = .ok (.iconst 1, 1) := by decide +kernel
theorem dX5_note_62 : decode cX5_note 62 = .ok (.iadd, 1) := by decide +kernel
theorem dX5_note_63 : decode cX5_note 63 = .ok (.putfield 19, 3) := by decide +kernel
theorem dX5_note_66 : decode cX5_note 66 = .ok (.return_, 1) := by decide +kernel
theorem dX5_latest_0 : decode cX5_latest 0 = .ok (.iload_n 1, 1) := by decide +kernel
theorem dX5_latest_1 : decode cX5_latest 1 = .ok (.ifCond .lt 17, 3) := by decide +kernel
theorem dX5_latest_4 : decode cX5_latest 4 = .ok (.iload_n 1, 1) := by decide +kernel
theorem dX5_latest_5 : decode cX5_latest 5 = .ok (.bipush 30, 2) := by decide +kernel
theorem dX5_latest_7 : decode cX5_latest 7 = .ok (.if_icmp .ge 11, 3) := by decide +kernel
theorem dX5_latest_10 : decode cX5_latest 10 = .ok (.iload_n 1, 1) := by decide +kernel
theorem dX5_latest_11 : decode cX5_latest 11 = .ok (.aload_n 0, 1) := by decide +kernel
theorem dX5_latest_12 : decode cX5_latest 12 = .ok (.getfield 19, 3) := by decide +kernel
theorem dX5_latest_15 : decode cX5_latest 15 = .ok (.if_icmp .lt 8, 3) := by decide +kernel
theorem dX5_latest_18 : decode cX5_latest 18 = .ok (.aload_n 0, 1) := by decide +kernel
theorem dX5_latest_19 : decode cX5_latest 19 = .ok (.getfield 15, 3) := by decide +kernel
theorem dX5_latest_22 : decode cX5_latest 22 = .ok (.ireturn, 1) := by decide +kernel
theorem dX5_latest_23 : decode cX5_latest 23 = .ok (.aload_n 0, 1) := by decide +kernel
theorem dX5_latest_24 : decode cX5_latest 24 = .ok (.getfield 19, 3) := by decide +kernel
theorem dX5_latest_27 : decode cX5_latest 27 = .ok (.iconst 1, 1) := by decide +kernel
theorem dX5_latest_28 : decode cX5_latest 28 = .ok (.isub, 1) := by decide +kernel
theorem dX5_latest_29 : decode cX5_latest 29 = .ok (.iload_n 1, 1) := by decide +kernel
theorem dX5_latest_30 : decode cX5_latest 30 = .ok (.isub, 1) := by decide +kernel
theorem dX5_latest_31 : decode cX5_latest 31 = .ok (.bipush 30, 2) := by decide +kernel
theorem dX5_latest_33 : decode cX5_latest 33 = .ok (.irem, 1) := by decide +kernel
theorem dX5_latest_34 : decode cX5_latest 34 = .ok (.iconst 3, 1) := by decide +kernel
theorem dX5_latest_35 : decode cX5_latest 35 = .ok (.imul, 1) := by decide +kernel
theorem dX5_latest_36 : decode cX5_latest 36 = .ok (.iload_n 2, 1) := by decide +kernel
theorem dX5_latest_37 : decode cX5_latest 37 = .ok (.iadd, 1) := by decide +kernel
theorem dX5_latest_38 : decode cX5_latest 38 = .ok (.istore_n 3, 1) := by decide +kernel
theorem dX5_latest_39 : decode cX5_latest 39 = .ok (.iload_n 3, 1) := by decide +kernel
theorem dX5_latest_40 : decode cX5_latest 40 = .ok (.ifCond .lt 21, 3) := by decide +kernel
theorem dX5_latest_43 : decode cX5_latest 43 = .ok (.iload_n 3, 1) := by decide +kernel
theorem dX5_latest_44 : decode cX5_latest 44 = .ok (.aload_n 0, 1) := by decide +kernel
theorem dX5_latest_45 : decode cX5_latest 45 = .ok (.getfield 11, 3) := by decide +kernel
theorem dX5_latest_48 : decode cX5_latest 48 = .ok (.arraylength, 1) := by decide +kernel
theorem dX5_latest_49 : decode cX5_latest 49 = .ok (.if_icmp .ge 12, 3) := by decide +kernel
theorem dX5_latest_52 : decode cX5_latest 52 = .ok (.aload_n 0, 1) := by decide +kernel
theorem dX5_latest_53 : decode cX5_latest 53 = .ok (.getfield 11, 3) := by decide +kernel
theorem dX5_latest_56 : decode cX5_latest 56 = .ok (.iload_n 3, 1) := by decide +kernel
theorem dX5_latest_57 : decode cX5_latest 57 = .ok (.iaload, 1) := by decide +kernel
theorem dX5_latest_58 : decode cX5_latest 58 = .ok (.goto 7, 3) := by decide +kernel
theorem dX5_latest_61 : decode cX5_latest 61 = .ok (.aload_n 0, 1) := by decide +kernel
theorem dX5_latest_62 : decode cX5_latest 62 = .ok (.getfield 15, 3) := by decide +kernel
theorem dX5_latest_65 : decode cX5_latest 65 = .ok (.ireturn, 1) := by decide +kernel
theorem dX6_init_0 : decode cX6_init 0 = .ok (.aload_n 0, 1) := by decide +kernel
theorem dX6_init_1 : decode cX6_init 1 = .ok (.invokespecial 3, 3) := by decide +kernel
theorem dX6_init_4 : decode cX6_init 4 = .ok (.aload_n 0, 1) := by decide +kernel
theorem dX6_init_5 : decode cX6_init 5 = .ok (.sipush 900, 3) := by decide +kernel
theorem dX6_init_8 : decode cX6_init 8 = .ok (.newarray .int, 2) := by decide +kernel
theorem dX6_init_10 : decode cX6_init 10 = .ok (.putfield 11, 3) := by decide +kernel
theorem dX6_init_13 : decode cX6_init 13 = .ok (.return_, 1) := by decide +kernel
theorem dX6_push_0 : decode cX6_push 0 = .ok (.bipush 24, 2) := by decide +kernel
theorem dX6_push_2 : decode cX6_push 2 = .ok (.istore_n 2, 1) := by decide +kernel
theorem dX6_push_3 : decode cX6_push 3 = .ok (.iload_n 2, 1) := by decide +kernel
theorem dX6_push_4 : decode cX6_push 4 = .ok (.ifCond .lt 54, 3) := by decide +kernel
theorem dX6_push_7 : decode cX6_push 7 = .ok (.aload_n 0, 1) := by decide +kernel
theorem dX6_push_8 : decode cX6_push 8 = .ok (.getfield 15, 3) := by decide +kernel
theorem dX6_push_11 : decode cX6_push 11 = .ok (.ifCond .lt 41, 3) := by decide +kernel
theorem dX6_push_14 : decode cX6_push 14 = .ok (.aload_n 0, 1) := by decide +kernel
theorem dX6_push_15 : decode cX6_push 15 = .ok (.getfield 15, 3) := by decide +kernel
theorem dX6_push_18 : decode cX6_push 18 = .ok (.aload_n 0, 1) := by decide +kernel
theorem dX6_push_19 : decode cX6_push 19 = .ok (.getfield 11, 3) := by decide +kernel
theorem dX6_push_22 : decode cX6_push 22 = .ok (.arraylength, 1) := by decide +kernel
theorem dX6_push_23 : decode cX6_push 23 = .ok (.if_icmp .ge 29, 3) := by decide +kernel
theorem dX6_push_26 : decode cX6_push 26 = .ok (.aload_n 0, 1) := by decide +kernel
theorem dX6_push_27 : decode cX6_push 27 = .ok (.getfield 11, 3) := by decide +kernel
theorem dX6_push_30 : decode cX6_push 30 = .ok (.aload_n 0, 1) := by decide +kernel
theorem dX6_push_31 : decode cX6_push 31 = .ok (.getfield 15, 3) := by decide +kernel
theorem dX6_push_34 : decode cX6_push 34 = .ok (.iload_n 1, 1) := by decide +kernel
theorem dX6_push_35 : decode cX6_push 35 = .ok (.iload_n 2, 1) := by decide +kernel
theorem dX6_push_36 : decode cX6_push 36 = .ok (.iushr, 1) := by decide +kernel
theorem dX6_push_37 : decode cX6_push 37 = .ok (.sipush 255, 3) := by decide +kernel
theorem dX6_push_40 : decode cX6_push 40 = .ok (.iand, 1) := by decide +kernel
theorem dX6_push_41 : decode cX6_push 41 = .ok (.iastore, 1) := by decide +kernel
theorem dX6_push_42 : decode cX6_push 42 = .ok (.aload_n 0, 1) := by decide +kernel
theorem dX6_push_43 : decode cX6_push 43 = .ok (.dup, 1) := by decide +kernel
theorem dX6_push_44 : decode cX6_push 44 = .ok (.getfield 15, 3) := by decide +kernel
theorem dX6_push_47 : decode cX6_push 47 = .ok (.iconst 1, 1) := by decide +kernel
theorem dX6_push_48 : decode cX6_push 48 = .ok (.iadd, 1) := by decide +kernel
theorem dX6_push_49 : decode cX6_push 49 = .ok (.putfield 15, 3) := by decide +kernel
theorem dX6_push_52 : decode cX6_push 52 = .ok (.iinc 2 (-8), 3) := by decide +kernel
theorem dX6_push_55 : decode cX6_push 55 = .ok (.goto (-52), 3) := by decide +kernel
theorem dX6_push_58 : decode cX6_push 58 = .ok (.return_, 1) := by decide +kernel
theorem dX6_at_0 : decode cX6_at 0 = .ok (.iload_n 1, 1) := by decide +kernel
theorem dX6_at_1 : decode cX6_at 1 = .ok (.ifCond .lt 21, 3) := by decide +kernel
theorem dX6_at_4 : decode cX6_at 4 = .ok (.iload_n 1, 1) := by decide +kernel
theorem dX6_at_5 : decode cX6_at 5 = .ok (.aload_n 0, 1) := by decide +kernel
theorem dX6_at_6 : decode cX6_at 6 = .ok (.getfield 11, 3) := by decide +kernel
theorem dX6_at_9 : decode cX6_at 9 = .ok (.arraylength, 1) := by decide +kernel
theorem dX6_at_10 : decode cX6_at 10 = .ok (.if_icmp .ge 12, 3) := by decide +kernel
theorem dX6_at_13 : decode cX6_at 13 = .ok (.aload_n 0, 1) := by decide +kernel
theorem dX6_at_14 : decode cX6_at 14 = .ok (.getfield 11, 3) := by decide +kernel
theorem dX6_at_17 : decode cX6_at 17 = .ok (.iload_n 1, 1) := by decide +kernel
theorem dX6_at_18 : decode cX6_at 18 = .ok (.iaload, 1) := by decide +kernel
theorem dX6_at_19 : decode cX6_at 19 = .ok (.goto 4, 3) := by decide +kernel
theorem dX6_at_22 : decode cX6_at 22 = .ok (.iconst (-1), 1) := by decide +kernel
theorem dX6_at_23 : decode cX6_at 23 = .ok (.ireturn, 1) := by decide +kernel
theorem dX7_init_0 : decode cX7_init 0 = .ok (.aload_n 0, 1) := by decide +kernel
theorem dX7_init_1 : decode cX7_init 1 = .ok (.invokespecial 1, 3) := by decide +kernel
theorem dX7_init_4 : decode cX7_init 4 = .ok (.return_, 1) := by decide +kernel
theorem dX7_hitAt_0 : decode cX7_hitAt 0 = .ok (.aload_n 1, 1) := by decide +kernel
theorem dX7_hitAt_1 : decode cX7_hitAt 1 = .ok (.aload_n 0, 1) := by decide +kernel
theorem dX7_hitAt_2 : decode cX7_hitAt 2 = .ok (.getfield 7, 3) := by decide +kernel
theorem dX7_hitAt_5 : decode cX7_hitAt 5 = .ok (.aload_n 0, 1) := by decide +kernel
theorem dX7_hitAt_6 : decode cX7_hitAt 6 = .ok (.getfield 13, 3) := by decide +kernel
theorem dX7_hitAt_9 : decode cX7_hitAt 9 = .ok (.iload_n 2, 1) := by decide +kernel
theorem dX7_hitAt_10 : decode cX7_hitAt 10 = .ok (.aload_n 0, 1) := by decide +kernel
theorem dX7_hitAt_11 : decode cX7_hitAt 11 = .ok (.getfield 16, 3) := by decide +kernel
theorem dX7_hitAt_14 : decode cX7_hitAt 14 = .ok (.invokestatic 19, 3) := by decide +kernel
theorem dX7_hitAt_17 : decode cX7_hitAt 17 = .ok (.aload_n 0, 1) := by decide +kernel
theorem dX7_hitAt_18 : decode cX7_hitAt 18 = .ok (.getfield 25, 3) := by decide +kernel
theorem dX7_hitAt_21 : decode cX7_hitAt 21 = .ok (.aload_n 0, 1) := by decide +kernel
theorem dX7_hitAt_22 : decode cX7_hitAt 22 = .ok (.getfield 28, 3) := by decide +kernel
theorem dX7_hitAt_25 : decode cX7_hitAt 25 = .ok (.iload_n 2, 1) := by decide +kernel
theorem dX7_hitAt_26 : decode cX7_hitAt 26 = .ok (.aload_n 0, 1) := by decide +kernel
theorem dX7_hitAt_27 : decode cX7_hitAt 27 = .ok (.getfield 16, 3) := by decide +kernel
theorem dX7_hitAt_30 : decode cX7_hitAt 30 = .ok (.invokestatic 19, 3) := by decide +kernel
theorem dX7_hitAt_33 : decode cX7_hitAt 33 = .ok (.aload_n 0, 1) := by decide +kernel
theorem dX7_hitAt_34 : decode cX7_hitAt 34 = .ok (.getfield 31, 3) := by decide +kernel
theorem dX7_hitAt_37 : decode cX7_hitAt 37 = .ok (.invokevirtual 34, 3) := by decide +kernel
theorem dX7_hitAt_40 : decode cX7_hitAt 40 = .ok (.ireturn, 1) := by decide +kernel
theorem dX7_hits_0 : decode cX7_hits 0 = .ok (.iconst 0, 1) := by decide +kernel
theorem dX7_hits_1 : decode cX7_hits 1 = .ok (.istore_n 2, 1) := by decide +kernel
theorem dX7_hits_2 : decode cX7_hits 2 = .ok (.iconst 0, 1) := by decide +kernel
theorem dX7_hits_3 : decode cX7_hits 3 = .ok (.istore_n 3, 1) := by decide +kernel
theorem dX7_hits_4 : decode cX7_hits 4 = .ok (.iload_n 3, 1) := by decide +kernel
theorem dX7_hits_5 : decode cX7_hits 5 = .ok (.aload_n 0, 1) := by decide +kernel
theorem dX7_hits_6 : decode cX7_hits 6 = .ok (.getfield 16, 3) := by decide +kernel
theorem dX7_hits_9 : decode cX7_hits 9 = .ok (.if_icmp .gt 18, 3) := by decide +kernel
theorem dX7_hits_12 : decode cX7_hits 12 = .ok (.iload_n 2, 1) := by decide +kernel
theorem dX7_hits_13 : decode cX7_hits 13 = .ok (.aload_n 0, 1) := by decide +kernel
theorem dX7_hits_14 : decode cX7_hits 14 = .ok (.aload_n 1, 1) := by decide +kernel
theorem dX7_hits_15 : decode cX7_hits 15 = .ok (.iload_n 3, 1) := by decide +kernel
theorem dX7_hits_16 : decode cX7_hits 16 = .ok (.invokevirtual 40, 3) := by decide +kernel
theorem dX7_hits_19 : decode cX7_hits 19 = .ok (.ior, 1) := by decide +kernel
theorem dX7_hits_20 : decode cX7_hits 20 = .ok (.istore_n 2, 1) := by decide +kernel
theorem dX7_hits_21 : decode cX7_hits 21 = .ok (.iinc 3 1, 3) := by decide +kernel
theorem dX7_hits_24 : decode cX7_hits 24 = .ok (.goto (-20), 3) := by decide +kernel
theorem dX7_hits_27 : decode cX7_hits 27 = .ok (.iload_n 2, 1) := by decide +kernel
theorem dX7_hits_28 : decode cX7_hits 28 = .ok (.ireturn, 1) := by decide +kernel
theorem dX7_fiercest_0 : decode cX7_fiercest 0 = .ok (.iconst 0, 1) := by decide +kernel
theorem dX7_fiercest_1 : decode cX7_fiercest 1 = .ok (.istore_n 2, 1) := by decide +kernel
theorem dX7_fiercest_2 : decode cX7_fiercest 2 = .ok (.iconst 0, 1) := by decide +kernel
theorem dX7_fiercest_3 : decode cX7_fiercest 3 = .ok (.istore_n 3, 1) := by decide +kernel
theorem dX7_fiercest_4 : decode cX7_fiercest 4 = .ok (.iconst 0, 1) := by decide +kernel
theorem dX7_fiercest_5 : decode cX7_fiercest 5 = .ok (.istore 4, 2) := by decide +kernel
theorem dX7_fiercest_7 : decode cX7_fiercest 7 = .ok (.iload 4, 2) := by decide +kernel
theorem dX7_fiercest_9 : decode cX7_fiercest 9 = .ok (.aload_n 0, 1) := by decide +kernel
theorem dX7_fiercest_10 : decode cX7_fiercest 10 = .ok (.getfield 16, 3) := by decide +kernel
theorem dX7_fiercest_13 : decode cX7_fiercest 13 = .ok (.if_icmp .gt 34, 3) := by decide +kernel
theorem dX7_fiercest_16 : decode cX7_fiercest 16 = .ok (.aload_n 1, 1) := by decide +kernel
theorem dX7_fiercest_17 : decode cX7_fiercest 17 = .ok (.aload_n 0, 1) := by decide +kernel
theorem dX7_fiercest_18 : decode cX7_fiercest 18 = .ok (.aload_n 1, 1) := by decide +kernel
theorem dX7_fiercest_19 : decode cX7_fiercest 19 = .ok (.iload 4, 2) := by decide +kernel
theorem dX7_fiercest_21 : decode cX7_fiercest 21 = .ok (.invokevirtual 40, 3) := by decide +kernel
theorem dX7_fiercest_24 : decode cX7_fiercest 24 = .ok (.invokevirtual 44, 3) := by decide +kernel
theorem dX7_fiercest_27 : decode cX7_fiercest 27 = .ok (.istore 5, 2) := by decide +kernel
theorem dX7_fiercest_29 : decode cX7_fiercest 29 = .ok (.iload 5, 2) := by decide +kernel
theorem dX7_fiercest_31 : decode cX7_fiercest 31 = .ok (.iload_n 3, 1) := by decide +kernel
theorem dX7_fiercest_32 : decode cX7_fiercest 32 = .ok (.if_icmp .le 9, 3) := by decide +kernel
theorem dX7_fiercest_35 : decode cX7_fiercest 35 = .ok (.iload 4, 2) := by decide +kernel
theorem dX7_fiercest_37 : decode cX7_fiercest 37 = .ok (.istore_n 2, 1) := by decide +kernel
theorem dX7_fiercest_38 : decode cX7_fiercest 38 = .ok (.iload 5, 2) := by decide +kernel
theorem dX7_fiercest_40 : decode cX7_fiercest 40 = .ok (.istore_n 3, 1) := by decide +kernel
theorem dX7_fiercest_41 : decode cX7_fiercest 41 = .ok (.iinc 4 1, 3) := by decide +kernel
theorem dX7_fiercest_44 : decode cX7_fiercest 44 = .ok (.goto (-37), 3) := by decide +kernel
theorem dX7_fiercest_47 : decode cX7_fiercest 47 = .ok (.iload_n 2, 1) := by decide +kernel
theorem dX7_fiercest_48 : decode cX7_fiercest 48 = .ok (.ireturn, 1) := by decide +kernel
theorem dX8_init_0 : decode cX8_init 0 = .ok (.aload_n 0, 1) := by decide +kernel
theorem dX8_init_1 : decode cX8_init 1 = .ok (.invokespecial 3, 3) := by decide +kernel
theorem dX8_init_4 : decode cX8_init 4 = .ok (.aload_n 0, 1) := by decide +kernel
theorem dX8_init_5 : decode cX8_init 5 = .ok (.aload_n 1, 1) := by decide +kernel
theorem dX8_init_6 : decode cX8_init 6 = .ok (.putfield 9, 3) := by decide +kernel
theorem dX8_init_9 : decode cX8_init 9 = .ok (.aload_n 0, 1) := by decide +kernel
theorem dX8_init_10 : decode cX8_init 10 = .ok (.new 15, 3) := by decide +kernel
theorem dX8_init_13 : decode cX8_init 13 = .ok (.dup, 1) := by decide +kernel
theorem dX8_init_14 : decode cX8_init 14 = .ok (.aload_n 1, 1) := by decide +kernel
theorem dX8_init_15 : decode cX8_init 15 = .ok (.invokespecial 17, 3) := by decide +kernel
theorem dX8_init_18 : decode cX8_init 18 = .ok (.putfield 20, 3) := by decide +kernel
theorem dX8_init_21 : decode cX8_init 21 = .ok (.return_, 1) := by decide +kernel
theorem dX8_agree_0 : decode cX8_agree 0 = .ok (.aload_n 0, 1) := by decide +kernel
theorem dX8_agree_1 : decode cX8_agree 1 = .ok (.iload_n 1, 1) := by decide +kernel
theorem dX8_agree_2 : decode cX8_agree 2 = .ok (.putfield 24, 3) := by decide +kernel
theorem dX8_agree_5 : decode cX8_agree 5 = .ok (.aload_n 0, 1) := by decide +kernel
theorem dX8_agree_6 : decode cX8_agree 6 = .ok (.iload_n 2, 1) := by decide +kernel
theorem dX8_agree_7 : decode cX8_agree 7 = .ok (.putfield 28, 3) := by decide +kernel
theorem dX8_agree_10 : decode cX8_agree 10 = .ok (.aload_n 0, 1) := by decide +kernel
theorem dX8_agree_11 : decode cX8_agree 11 = .ok (.iload_n 3, 1) := by decide +kernel
theorem dX8_agree_12 : decode cX8_agree 12 = .ok (.putfield 31, 3) := by decide +kernel
theorem dX8_agree_15 : decode cX8_agree 15 = .ok (.aload_n 0, 1) := by decide +kernel
theorem dX8_agree_16 : decode cX8_agree 16 = .ok (.bipush (-2), 2) := by decide +kernel
theorem dX8_agree_18 : decode cX8_agree 18 = .ok (.putfield 34, 3) := by decide +kernel
theorem dX8_agree_21 : decode cX8_agree 21 = .ok (.aload_n 0, 1) := by decide +kernel
theorem dX8_agree_22 : decode cX8_agree 22 = .ok (.iconst 0, 1) := by decide +kernel
theorem dX8_agree_23 : decode cX8_agree 23 = .ok (.putfield 37, 3) := by decide +kernel
theorem dX8_agree_26 : decode cX8_agree 26 = .ok (.return_, 1) := by decide +kernel
theorem dX8_takes_0 : decode cX8_takes 0 = .ok (.aload_n 0, 1) := by decide +kernel
theorem dX8_takes_1 : decode cX8_takes 1 = .ok (.getfield 24, 3) := by decide +kernel
theorem dX8_takes_4 : decode cX8_takes 4 = .ok (.iload_n 1, 1) := by decide +kernel
theorem dX8_takes_5 : decode cX8_takes 5 = .ok (.invokestatic 40, 3) := by decide +kernel
theorem dX8_takes_8 : decode cX8_takes 8 = .ok (.ireturn, 1) := by decide +kernel
theorem dX8_isPassed_0 : decode cX8_isPassed 0 = .ok (.aload_n 0, 1) := by decide +kernel
theorem dX8_isPassed_1 : decode cX8_isPassed 1 = .ok (.getfield 44, 3) := by decide +kernel
theorem dX8_isPassed_4 : decode cX8_isPassed 4 = .ok (.aload_n 0, 1) := by decide +kernel
theorem dX8_isPassed_5 : decode cX8_isPassed 5 = .ok (.getfield 31, 3) := by decide +kernel
theorem dX8_isPassed_8 : decode cX8_isPassed 8 = .ok (.if_icmp .le 7, 3) := by decide +kernel
theorem dX8_isPassed_11 : decode cX8_isPassed 11 = .ok (.iconst 1, 1) := by decide +kernel
theorem dX8_isPassed_12 : decode cX8_isPassed 12 = .ok (.goto 4, 3) := by decide +kernel
theorem dX8_isPassed_15 : decode cX8_isPassed 15 = .ok (.iconst 0, 1) := by decide +kernel
theorem dX8_isPassed_16 : decode cX8_isPassed 16 = .ok (.ireturn, 1) := by decide +kernel
theorem dX8_findWorst_0 : decode cX8_findWorst 0 = .ok (.aload_n 0, 1) := by decide +kernel
theorem dX8_findWorst_1 : decode cX8_findWorst 1 = .ok (.aload_n 0, 1) := by decide +kernel
theorem dX8_findWorst_2 : decode cX8_findWorst 2 = .ok (.getfield 20, 3) := by decide +kernel
theorem dX8_findWorst_5 : decode cX8_findWorst 5 = .ok (.ldc 47, 2) := by decide +kernel
theorem dX8_findWorst_7 : decode cX8_findWorst 7 = .ok (.invokevirtual 48, 3) := by decide +kernel
theorem dX8_findWorst_10 : decode cX8_findWorst 10 = .ok (.putfield 52, 3) := by decide +kernel
theorem dX8_findWorst_13 : decode cX8_findWorst 13 = .ok (.aload_n 0, 1) := by decide +kernel
theorem dX8_findWorst_14 : decode cX8_findWorst 14 = .ok (.aload_n 0, 1) := by decide +kernel
theorem dX8_findWorst_15 : decode cX8_findWorst 15 = .ok (.getfield 9, 3) := by decide +kernel
theorem dX8_findWorst_18 : decode cX8_findWorst 18 = .ok (.aload_n 0, 1) := by decide +kernel
theorem dX8_findWorst_19 : decode cX8_findWorst 19 = .ok (.getfield 52, 3) := by decide +kernel
theorem dX8_findWorst_22 : decode cX8_findWorst 22 = .ok (.invokevirtual 55, 3) := by decide +kernel
theorem dX8_findWorst_25 : decode cX8_findWorst 25 = .ok (.putfield 44, 3) := by decide +kernel
theorem dX8_findWorst_28 : decode cX8_findWorst 28 = .ok (.return_, 1) := by decide +kernel
theorem dX8_worstWithout_0 : decode cX8_worstWithout 0 = .ok (.aload_n 0, 1) := by decide +kernel
theorem dX8_worstWithout_1 : decode cX8_worstWithout 1 = .ok (.getfield 9, 3) := by decide +kernel
theorem dX8_worstWithout_4 : decode cX8_worstWithout 4 = .ok (.aload_n 0, 1) := by decide +kernel
theorem dX8_worstWithout_5 : decode cX8_worstWithout 5 = .ok (.getfield 20, 3) := by decide +kernel
theorem dX8_worstWithout_8 : decode cX8_worstWithout 8 = .ok (.ldc 47, 2) := by decide +kernel
theorem dX8_worstWithout_10 : decode cX8_worstWithout 10 = .ok (.iload_n 1, 1) := by decide +kernel
theorem dX8_worstWithout_11 : decode cX8_worstWithout 11 = .ok (.iconst (-1), 1) := by decide +kernel
theorem dX8_worstWithout_12 : decode cX8_worstWithout 12 = .ok (.ixor, 1) := by decide +kernel
theorem dX8_worstWithout_13 : decode cX8_worstWithout 13 = .ok (.iand, 1) := by decide +kernel
theorem dX8_worstWithout_14 : decode cX8_worstWithout 14 = .ok (.invokevirtual 48, 3) := by decide +kernel
theorem dX8_worstWithout_17 : decode cX8_worstWithout 17 = .ok (.invokevirtual 55, 3) := by decide +kernel
theorem dX8_worstWithout_20 : decode cX8_worstWithout 20 = .ok (.ireturn, 1) := by decide +kernel
theorem dX8_staysPassed_0 : decode cX8_staysPassed 0 = .ok (.aload_n 0, 1) := by decide +kernel
theorem dX8_staysPassed_1 : decode cX8_staysPassed 1 = .ok (.getfield 20, 3) := by decide +kernel
theorem dX8_staysPassed_4 : decode cX8_staysPassed 4 = .ok (.ldc 47, 2) := by decide +kernel
theorem dX8_staysPassed_6 : decode cX8_staysPassed 6 = .ok (.iload_n 1, 1) := by decide +kernel
theorem dX8_staysPassed_7 : decode cX8_staysPassed 7 = .ok (.iconst (-1), 1) := by decide +kernel
theorem dX8_staysPassed_8 : decode cX8_staysPassed 8 = .ok (.ixor, 1) := by decide +kernel
theorem dX8_staysPassed_9 : decode cX8_staysPassed 9 = .ok (.iand, 1) := by decide +kernel
theorem dX8_staysPassed_10 : decode cX8_staysPassed 10 = .ok (.aload_n 0, 1) := by decide +kernel
theorem dX8_staysPassed_11 : decode cX8_staysPassed 11 = .ok (.getfield 31, 3) := by decide +kernel
theorem dX8_staysPassed_14 : decode cX8_staysPassed 14 = .ok (.invokevirtual 60, 3) := by decide +kernel
theorem dX8_staysPassed_17 : decode cX8_staysPassed 17 = .ok (.ireturn, 1) := by decide +kernel
theorem dX8_isFreedWith_0 : decode cX8_isFreedWith 0 = .ok (.iconst 0, 1) := by decide +kernel
theorem dX8_isFreedWith_1 : decode cX8_isFreedWith 1 = .ok (.istore_n 2, 1) := by decide +kernel
theorem dX8_isFreedWith_2 : decode cX8_isFreedWith 2 = .ok (.iload_n 2, 1) := by decide +kernel
theorem dX8_isFreedWith_3 : decode cX8_isFreedWith 3 = .ok (.bipush 24, 2) := by decide +kernel
theorem dX8_isFreedWith_5 : decode cX8_isFreedWith 5 = .ok (.if_icmp .ge 39, 3) := by decide +kernel
theorem dX8_isFreedWith_8 : decode cX8_isFreedWith 8 = .ok (.aload_n 0, 1) := by decide +kernel
theorem dX8_isFreedWith_9 : decode cX8_isFreedWith 9 = .ok (.getfield 20, 3) := by decide +kernel
theorem dX8_isFreedWith_12 : decode cX8_isFreedWith 12 = .ok (.getfield 63, 3) := by decide +kernel
theorem dX8_isFreedWith_15 : decode cX8_isFreedWith 15 = .ok (.iload_n 2, 1) := by decide +kernel
theorem dX8_isFreedWith_16 : decode cX8_isFreedWith 16 = .ok (.invokestatic 40, 3) := by decide +kernel
theorem dX8_isFreedWith_19 : decode cX8_isFreedWith 19 = .ok (.ifCond .eq 19, 3) := by decide +kernel
theorem dX8_isFreedWith_22 : decode cX8_isFreedWith 22 = .ok (.aload_n 0, 1) := by decide +kernel
theorem dX8_isFreedWith_23 : decode cX8_isFreedWith 23 = .ok (.iconst 1, 1) := by decide +kernel
theorem dX8_isFreedWith_24 : decode cX8_isFreedWith 24 = .ok (.iload_n 1, 1) := by decide +kernel
theorem dX8_isFreedWith_25 : decode cX8_isFreedWith 25 = .ok (.ishl, 1) := by decide +kernel
theorem dX8_isFreedWith_26 : decode cX8_isFreedWith 26 = .ok (.iconst 1, 1) := by decide +kernel
theorem dX8_isFreedWith_27 : decode cX8_isFreedWith 27 = .ok (.iload_n 2, 1) := by decide +kernel
theorem dX8_isFreedWith_28 : decode cX8_isFreedWith 28 = .ok (.ishl, 1) := by decide +kernel
theorem dX8_isFreedWith_29 : decode cX8_isFreedWith 29 = .ok (.ior, 1) := by decide +kernel
theorem dX8_isFreedWith_30 : decode cX8_isFreedWith 30 = .ok (.invokevirtual 66, 3) := by decide +kernel
theorem dX8_isFreedWith_33 : decode cX8_isFreedWith 33 = .ok (.ifCond .ne 5, 3) := by decide +kernel
theorem dX8_isFreedWith_36 : decode cX8_isFreedWith 36 = .ok (.iconst 1, 1) := by decide +kernel
theorem dX8_isFreedWith_37 : decode cX8_isFreedWith 37 = .ok (.ireturn, 1) := by decide +kernel
theorem dX8_isFreedWith_38 : decode cX8_isFreedWith 38 = .ok (.iinc 2 1, 3) := by decide +kernel
theorem dX8_isFreedWith_41 : decode cX8_isFreedWith 41 = .ok (.goto (-39), 3) := by decide +kernel
theorem dX8_isFreedWith_44 : decode cX8_isFreedWith 44 = .ok (.iconst 0, 1) := by decide +kernel
theorem dX8_isFreedWith_45 : decode cX8_isFreedWith 45 = .ok (.ireturn, 1) := by decide +kernel
