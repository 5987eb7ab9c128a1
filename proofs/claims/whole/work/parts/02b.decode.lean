theorem dX9_init_0 : decode cX9_init 0 = .ok (.aload_n 0, 1) := by decide +kernel
theorem dX9_init_1 : decode cX9_init 1 = .ok (.invokespecial 3, 3) := by decide +kernel
theorem dX9_init_4 : decode cX9_init 4 = .ok (.aload_n 0, 1) := by decide +kernel
theorem dX9_init_5 : decode cX9_init 5 = .ok (.new 9, 3) := by decide +kernel
theorem dX9_init_8 : decode cX9_init 8 = .ok (.dup, 1) := by decide +kernel
theorem dX9_init_9 : decode cX9_init 9 = .ok (.invokespecial 11, 3) := by decide +kernel
theorem dX9_init_12 : decode cX9_init 12 = .ok (.putfield 12, 3) := by decide +kernel
theorem dX9_init_15 : decode cX9_init 15 = .ok (.aload_n 0, 1) := by decide +kernel
theorem dX9_init_16 : decode cX9_init 16 = .ok (.new 16, 3) := by decide +kernel
theorem dX9_init_19 : decode cX9_init 19 = .ok (.dup, 1) := by decide +kernel
theorem dX9_init_20 : decode cX9_init 20 = .ok (.aload_n 0, 1) := by decide +kernel
theorem dX9_init_21 : decode cX9_init 21 = .ok (.getfield 12, 3) := by decide +kernel
theorem dX9_init_24 : decode cX9_init 24 = .ok (.invokespecial 18, 3) := by decide +kernel
theorem dX9_init_27 : decode cX9_init 27 = .ok (.putfield 21, 3) := by decide +kernel
theorem dX9_init_30 : decode cX9_init 30 = .ok (.aload_n 0, 1) := by decide +kernel
theorem dX9_init_31 : decode cX9_init 31 = .ok (.new 25, 3) := by decide +kernel
theorem dX9_init_34 : decode cX9_init 34 = .ok (.dup, 1) := by decide +kernel
theorem dX9_init_35 : decode cX9_init 35 = .ok (.invokespecial 27, 3) := by decide +kernel
theorem dX9_init_38 : decode cX9_init 38 = .ok (.putfield 28, 3) := by decide +kernel
theorem dX9_init_41 : decode cX9_init 41 = .ok (.aload_n 0, 1) := by decide +kernel
theorem dX9_init_42 : decode cX9_init 42 = .ok (.bipush 6, 2) := by decide +kernel
theorem dX9_init_44 : decode cX9_init 44 = .ok (.anewarray 32, 3) := by decide +kernel
theorem dX9_init_47 : decode cX9_init 47 = .ok (.putfield 34, 3) := by decide +kernel
theorem dX9_init_50 : decode cX9_init 50 = .ok (.iconst 0, 1) := by decide +kernel
theorem dX9_init_51 : decode cX9_init 51 = .ok (.istore_n 1, 1) := by decide +kernel
theorem dX9_init_52 : decode cX9_init 52 = .ok (.iload_n 1, 1) := by decide +kernel
theorem dX9_init_53 : decode cX9_init 53 = .ok (.bipush 6, 2) := by decide +kernel
theorem dX9_init_55 : decode cX9_init 55 = .ok (.if_icmp .ge 26, 3) := by decide +kernel
theorem dX9_init_58 : decode cX9_init 58 = .ok (.aload_n 0, 1) := by decide +kernel
theorem dX9_init_59 : decode cX9_init 59 = .ok (.getfield 34, 3) := by decide +kernel
theorem dX9_init_62 : decode cX9_init 62 = .ok (.iload_n 1, 1) := by decide +kernel
theorem dX9_init_63 : decode cX9_init 63 = .ok (.new 32, 3) := by decide +kernel
theorem dX9_init_66 : decode cX9_init 66 = .ok (.dup, 1) := by decide +kernel
theorem dX9_init_67 : decode cX9_init 67 = .ok (.aload_n 0, 1) := by decide +kernel
theorem dX9_init_68 : decode cX9_init 68 = .ok (.getfield 28, 3) := by decide +kernel
theorem dX9_init_71 : decode cX9_init 71 = .ok (.invokespecial 38, 3) := by decide +kernel
theorem dX9_init_74 : decode cX9_init 74 = .ok (.aastore, 1) := by decide +kernel
theorem dX9_init_75 : decode cX9_init 75 = .ok (.iinc 1 1, 3) := by decide +kernel
theorem dX9_init_78 : decode cX9_init 78 = .ok (.goto (-26), 3) := by decide +kernel
theorem dX9_init_81 : decode cX9_init 81 = .ok (.aload_n 0, 1) := by decide +kernel
theorem dX9_init_82 : decode cX9_init 82 = .ok (.new 41, 3) := by decide +kernel
theorem dX9_init_85 : decode cX9_init 85 = .ok (.dup, 1) := by decide +kernel
theorem dX9_init_86 : decode cX9_init 86 = .ok (.ldc 43, 2) := by decide +kernel
theorem dX9_init_88 : decode cX9_init 88 = .ok (.invokespecial 44, 3) := by decide +kernel
theorem dX9_init_91 : decode cX9_init 91 = .ok (.putfield 47, 3) := by decide +kernel
theorem dX9_init_94 : decode cX9_init 94 = .ok (.aload_n 0, 1) := by decide +kernel
theorem dX9_init_95 : decode cX9_init 95 = .ok (.new 41, 3) := by decide +kernel
theorem dX9_init_98 : decode cX9_init 98 = .ok (.dup, 1) := by decide +kernel
theorem dX9_init_99 : decode cX9_init 99 = .ok (.bipush (-2), 2) := by decide +kernel
theorem dX9_init_101 : decode cX9_init 101 = .ok (.invokespecial 44, 3) := by decide +kernel
theorem dX9_init_104 : decode cX9_init 104 = .ok (.putfield 51, 3) := by decide +kernel
theorem dX9_init_107 : decode cX9_init 107 = .ok (.aload_n 0, 1) := by decide +kernel
theorem dX9_init_108 : decode cX9_init 108 = .ok (.new 54, 3) := by decide +kernel
theorem dX9_init_111 : decode cX9_init 111 = .ok (.dup, 1) := by decide +kernel
theorem dX9_init_112 : decode cX9_init 112 = .ok (.invokespecial 56, 3) := by decide +kernel
theorem dX9_init_115 : decode cX9_init 115 = .ok (.putfield 57, 3) := by decide +kernel
theorem dX9_init_118 : decode cX9_init 118 = .ok (.aload_n 0, 1) := by decide +kernel
theorem dX9_init_119 : decode cX9_init 119 = .ok (.new 61, 3) := by decide +kernel
theorem dX9_init_122 : decode cX9_init 122 = .ok (.dup, 1) := by decide +kernel
theorem dX9_init_123 : decode cX9_init 123 = .ok (.aload_n 0, 1) := by decide +kernel
theorem dX9_init_124 : decode cX9_init 124 = .ok (.getfield 28, 3) := by decide +kernel
theorem dX9_init_127 : decode cX9_init 127 = .ok (.invokespecial 63, 3) := by decide +kernel
theorem dX9_init_130 : decode cX9_init 130 = .ok (.putfield 64, 3) := by decide +kernel
theorem dX9_init_133 : decode cX9_init 133 = .ok (.aload_n 0, 1) := by decide +kernel
theorem dX9_init_134 : decode cX9_init 134 = .ok (.new 68, 3) := by decide +kernel
theorem dX9_init_137 : decode cX9_init 137 = .ok (.dup, 1) := by decide +kernel
theorem dX9_init_138 : decode cX9_init 138 = .ok (.invokespecial 70, 3) := by decide +kernel
theorem dX9_init_141 : decode cX9_init 141 = .ok (.putfield 71, 3) := by decide +kernel
theorem dX9_init_144 : decode cX9_init 144 = .ok (.aload_n 0, 1) := by decide +kernel
theorem dX9_init_145 : decode cX9_init 145 = .ok (.new 75, 3) := by decide +kernel
theorem dX9_init_148 : decode cX9_init 148 = .ok (.dup, 1) := by decide +kernel
theorem dX9_init_149 : decode cX9_init 149 = .ok (.aload_n 0, 1) := by decide +kernel
theorem dX9_init_150 : decode cX9_init 150 = .ok (.getfield 28, 3) := by decide +kernel
theorem dX9_init_153 : decode cX9_init 153 = .ok (.invokespecial 77, 3) := by decide +kernel
theorem dX9_init_156 : decode cX9_init 156 = .ok (.putfield 78, 3) := by decide +kernel
theorem dX9_init_159 : decode cX9_init 159 = .ok (.return_, 1) := by decide +kernel
theorem dX9_feed_0 : decode cX9_feed 0 = .ok (.aload_n 0, 1) := by decide +kernel
theorem dX9_feed_1 : decode cX9_feed 1 = .ok (.getfield 12, 3) := by decide +kernel
theorem dX9_feed_4 : decode cX9_feed 4 = .ok (.getfield 82, 3) := by decide +kernel
theorem dX9_feed_7 : decode cX9_feed 7 = .ok (.bipush 20, 2) := by decide +kernel
theorem dX9_feed_9 : decode cX9_feed 9 = .ok (.iadd, 1) := by decide +kernel
theorem dX9_feed_10 : decode cX9_feed 10 = .ok (.sipush 900, 3) := by decide +kernel
theorem dX9_feed_13 : decode cX9_feed 13 = .ok (.if_icmp .le 5, 3) := by decide +kernel
theorem dX9_feed_16 : decode cX9_feed 16 = .ok (.iconst (-1), 1) := by decide +kernel
theorem dX9_feed_17 : decode cX9_feed 17 = .ok (.ireturn, 1) := by decide +kernel
theorem dX9_feed_18 : decode cX9_feed 18 = .ok (.aload_n 0, 1) := by decide +kernel
theorem dX9_feed_19 : decode cX9_feed 19 = .ok (.getfield 12, 3) := by decide +kernel
theorem dX9_feed_22 : decode cX9_feed 22 = .ok (.iload_n 1, 1) := by decide +kernel
theorem dX9_feed_23 : decode cX9_feed 23 = .ok (.invokevirtual 86, 3) := by decide +kernel
theorem dX9_feed_26 : decode cX9_feed 26 = .ok (.aload_n 0, 1) := by decide +kernel
theorem dX9_feed_27 : decode cX9_feed 27 = .ok (.getfield 12, 3) := by decide +kernel
theorem dX9_feed_30 : decode cX9_feed 30 = .ok (.iload_n 2, 1) := by decide +kernel
theorem dX9_feed_31 : decode cX9_feed 31 = .ok (.invokevirtual 86, 3) := by decide +kernel
theorem dX9_feed_34 : decode cX9_feed 34 = .ok (.aload_n 0, 1) := by decide +kernel
theorem dX9_feed_35 : decode cX9_feed 35 = .ok (.getfield 12, 3) := by decide +kernel
theorem dX9_feed_38 : decode cX9_feed 38 = .ok (.iload_n 3, 1) := by decide +kernel
theorem dX9_feed_39 : decode cX9_feed 39 = .ok (.invokevirtual 86, 3) := by decide +kernel
theorem dX9_feed_42 : decode cX9_feed 42 = .ok (.aload_n 0, 1) := by decide +kernel
theorem dX9_feed_43 : decode cX9_feed 43 = .ok (.getfield 12, 3) := by decide +kernel
theorem dX9_feed_46 : decode cX9_feed 46 = .ok (.iload 4, 2) := by decide +kernel
theorem dX9_feed_48 : decode cX9_feed 48 = .ok (.invokevirtual 86, 3) := by decide +kernel
theorem dX9_feed_51 : decode cX9_feed 51 = .ok (.aload_n 0, 1) := by decide +kernel
theorem dX9_feed_52 : decode cX9_feed 52 = .ok (.getfield 12, 3) := by decide +kernel
theorem dX9_feed_55 : decode cX9_feed 55 = .ok (.iload 5, 2) := by decide +kernel
theorem dX9_feed_57 : decode cX9_feed 57 = .ok (.invokevirtual 86, 3) := by decide +kernel
theorem dX9_feed_60 : decode cX9_feed 60 = .ok (.aload_n 0, 1) := by decide +kernel
theorem dX9_feed_61 : decode cX9_feed 61 = .ok (.getfield 12, 3) := by decide +kernel
theorem dX9_feed_64 : decode cX9_feed 64 = .ok (.getfield 82, 3) := by decide +kernel
theorem dX9_feed_67 : decode cX9_feed 67 = .ok (.ireturn, 1) := by decide +kernel
theorem dX9_text_0 : decode cX9_text 0 = .ok (.iload_n 1, 1) := by decide +kernel
theorem dX9_text_1 : decode cX9_text 1 = .ok (.ifCond .lt 14, 3) := by decide +kernel
theorem dX9_text_4 : decode cX9_text 4 = .ok (.iload_n 1, 1) := by decide +kernel
theorem dX9_text_5 : decode cX9_text 5 = .ok (.aload_n 0, 1) := by decide +kernel
theorem dX9_text_6 : decode cX9_text 6 = .ok (.getfield 12, 3) := by decide +kernel
theorem dX9_text_9 : decode cX9_text 9 = .ok (.getfield 82, 3) := by decide +kernel
theorem dX9_text_12 : decode cX9_text 12 = .ok (.if_icmp .le 6, 3) := by decide +kernel
theorem dX9_text_15 : decode cX9_text 15 = .ok (.bipush (-2), 2) := by decide +kernel
theorem dX9_text_17 : decode cX9_text 17 = .ok (.ireturn, 1) := by decide +kernel
theorem dX9_text_18 : decode cX9_text 18 = .ok (.aload_n 0, 1) := by decide +kernel
theorem dX9_text_19 : decode cX9_text 19 = .ok (.getfield 21, 3) := by decide +kernel
theorem dX9_text_22 : decode cX9_text 22 = .ok (.iload_n 1, 1) := by decide +kernel
theorem dX9_text_23 : decode cX9_text 23 = .ok (.invokevirtual 89, 3) := by decide +kernel
theorem dX9_text_26 : decode cX9_text 26 = .ok (.aload_n 0, 1) := by decide +kernel
theorem dX9_text_27 : decode cX9_text 27 = .ok (.getfield 12, 3) := by decide +kernel
theorem dX9_text_30 : decode cX9_text 30 = .ok (.iconst 0, 1) := by decide +kernel
theorem dX9_text_31 : decode cX9_text 31 = .ok (.putfield 82, 3) := by decide +kernel
theorem dX9_text_34 : decode cX9_text 34 = .ok (.aload_n 0, 1) := by decide +kernel
theorem dX9_text_35 : decode cX9_text 35 = .ok (.getfield 21, 3) := by decide +kernel
theorem dX9_text_38 : decode cX9_text 38 = .ok (.getfield 92, 3) := by decide +kernel
theorem dX9_text_41 : decode cX9_text 41 = .ok (.ifCond .eq 5, 3) := by decide +kernel
theorem dX9_text_44 : decode cX9_text 44 = .ok (.iconst (-1), 1) := by decide +kernel
theorem dX9_text_45 : decode cX9_text 45 = .ok (.ireturn, 1) := by decide +kernel
theorem dX9_text_46 : decode cX9_text 46 = .ok (.aload_n 0, 1) := by decide +kernel
theorem dX9_text_47 : decode cX9_text 47 = .ok (.invokevirtual 95, 3) := by decide +kernel
theorem dX9_text_50 : decode cX9_text 50 = .ok (.aload_n 0, 1) := by decide +kernel
theorem dX9_text_51 : decode cX9_text 51 = .ok (.getfield 21, 3) := by decide +kernel
theorem dX9_text_54 : decode cX9_text 54 = .ok (.getfield 98, 3) := by decide +kernel
theorem dX9_text_57 : decode cX9_text 57 = .ok (.aload_n 0, 1) := by decide +kernel
theorem dX9_text_58 : decode cX9_text 58 = .ok (.getfield 21, 3) := by decide +kernel
theorem dX9_text_61 : decode cX9_text 61 = .ok (.getfield 101, 3) := by decide +kernel
theorem dX9_text_64 : decode cX9_text 64 = .ok (.iadd, 1) := by decide +kernel
theorem dX9_text_65 : decode cX9_text 65 = .ok (.ireturn, 1) := by decide +kernel
theorem dX9_fault_0 : decode cX9_fault 0 = .ok (.iload_n 1, 1) := by decide +kernel
theorem dX9_fault_1 : decode cX9_fault 1 = .ok (.ifCond .ne 11, 3) := by decide +kernel
theorem dX9_fault_4 : decode cX9_fault 4 = .ok (.aload_n 0, 1) := by decide +kernel
theorem dX9_fault_5 : decode cX9_fault 5 = .ok (.getfield 21, 3) := by decide +kernel
theorem dX9_fault_8 : decode cX9_fault 8 = .ok (.getfield 92, 3) := by decide +kernel
theorem dX9_fault_11 : decode cX9_fault 11 = .ok (.ireturn, 1) := by decide +kernel
theorem dX9_fault_12 : decode cX9_fault 12 = .ok (.iload_n 1, 1) := by decide +kernel
theorem dX9_fault_13 : decode cX9_fault 13 = .ok (.iconst 1, 1) := by decide +kernel
theorem dX9_fault_14 : decode cX9_fault 14 = .ok (.if_icmp .ne 13, 3) := by decide +kernel
theorem dX9_fault_17 : decode cX9_fault 17 = .ok (.aload_n 0, 1) := by decide +kernel
theorem dX9_fault_18 : decode cX9_fault 18 = .ok (.getfield 21, 3) := by decide +kernel
theorem dX9_fault_21 : decode cX9_fault 21 = .ok (.getfield 103, 3) := by decide +kernel
theorem dX9_fault_24 : decode cX9_fault 24 = .ok (.goto 4, 3) := by decide +kernel
theorem dX9_fault_27 : decode cX9_fault 27 = .ok (.iconst (-1), 1) := by decide +kernel
theorem dX9_fault_28 : decode cX9_fault 28 = .ok (.ireturn, 1) := by decide +kernel
theorem dX9_beginAnew_0 : decode cX9_beginAnew 0 = .ok (.aload_n 0, 1) := by decide +kernel
theorem dX9_beginAnew_1 : decode cX9_beginAnew 1 = .ok (.getfield 28, 3) := by decide +kernel
theorem dX9_beginAnew_4 : decode cX9_beginAnew 4 = .ok (.invokevirtual 106, 3) := by decide +kernel
theorem dX9_beginAnew_7 : decode cX9_beginAnew 7 = .ok (.aload_n 0, 1) := by decide +kernel
theorem dX9_beginAnew_8 : decode cX9_beginAnew 8 = .ok (.getfield 47, 3) := by decide +kernel
theorem dX9_beginAnew_11 : decode cX9_beginAnew 11 = .ok (.iconst 0, 1) := by decide +kernel
theorem dX9_beginAnew_12 : decode cX9_beginAnew 12 = .ok (.putfield 109, 3) := by decide +kernel
theorem dX9_beginAnew_15 : decode cX9_beginAnew 15 = .ok (.aload_n 0, 1) := by decide +kernel
theorem dX9_beginAnew_16 : decode cX9_beginAnew 16 = .ok (.getfield 51, 3) := by decide +kernel
theorem dX9_beginAnew_19 : decode cX9_beginAnew 19 = .ok (.iconst 0, 1) := by decide +kernel
theorem dX9_beginAnew_20 : decode cX9_beginAnew 20 = .ok (.putfield 109, 3) := by decide +kernel
theorem dX9_beginAnew_23 : decode cX9_beginAnew 23 = .ok (.aload_n 0, 1) := by decide +kernel
theorem dX9_beginAnew_24 : decode cX9_beginAnew 24 = .ok (.getfield 57, 3) := by decide +kernel
theorem dX9_beginAnew_27 : decode cX9_beginAnew 27 = .ok (.iconst 0, 1) := by decide +kernel
theorem dX9_beginAnew_28 : decode cX9_beginAnew 28 = .ok (.putfield 112, 3) := by decide +kernel
theorem dX9_beginAnew_31 : decode cX9_beginAnew 31 = .ok (.aload_n 0, 1) := by decide +kernel
theorem dX9_beginAnew_32 : decode cX9_beginAnew 32 = .ok (.iconst 0, 1) := by decide +kernel
theorem dX9_beginAnew_33 : decode cX9_beginAnew 33 = .ok (.putfield 116, 3) := by decide +kernel
theorem dX9_beginAnew_36 : decode cX9_beginAnew 36 = .ok (.iconst 0, 1) := by decide +kernel
theorem dX9_beginAnew_37 : decode cX9_beginAnew 37 = .ok (.istore_n 1, 1) := by decide +kernel
theorem dX9_beginAnew_38 : decode cX9_beginAnew 38 = .ok (.iload_n 1, 1) := by decide +kernel
theorem dX9_beginAnew_39 : decode cX9_beginAnew 39 = .ok (.aload_n 0, 1) := by decide +kernel
theorem dX9_beginAnew_40 : decode cX9_beginAnew 40 = .ok (.getfield 21, 3) := by decide +kernel
theorem dX9_beginAnew_43 : decode cX9_beginAnew 43 = .ok (.getfield 98, 3) := by decide +kernel
theorem dX9_beginAnew_46 : decode cX9_beginAnew 46 = .ok (.if_icmp .ge 53, 3) := by decide +kernel
theorem dX9_beginAnew_49 : decode cX9_beginAnew 49 = .ok (.aload_n 0, 1) := by decide +kernel
theorem dX9_beginAnew_50 : decode cX9_beginAnew 50 = .ok (.getfield 28, 3) := by decide +kernel
theorem dX9_beginAnew_53 : decode cX9_beginAnew 53 = .ok (.iload_n 1, 1) := by decide +kernel
theorem dX9_beginAnew_54 : decode cX9_beginAnew 54 = .ok (.aload_n 0, 1) := by decide +kernel
theorem dX9_beginAnew_55 : decode cX9_beginAnew 55 = .ok (.getfield 21, 3) := by decide +kernel
theorem dX9_beginAnew_58 : decode cX9_beginAnew 58 = .ok (.iload_n 1, 1) := by decide +kernel
theorem dX9_beginAnew_59 : decode cX9_beginAnew 59 = .ok (.iconst 0, 1) := by decide +kernel
theorem dX9_beginAnew_60 : decode cX9_beginAnew 60 = .ok (.invokevirtual 119, 3) := by decide +kernel
theorem dX9_beginAnew_63 : decode cX9_beginAnew 63 = .ok (.aload_n 0, 1) := by decide +kernel
theorem dX9_beginAnew_64 : decode cX9_beginAnew 64 = .ok (.getfield 21, 3) := by decide +kernel
theorem dX9_beginAnew_67 : decode cX9_beginAnew 67 = .ok (.iload_n 1, 1) := by decide +kernel
theorem dX9_beginAnew_68 : decode cX9_beginAnew 68 = .ok (.iconst 1, 1) := by decide +kernel
theorem dX9_beginAnew_69 : decode cX9_beginAnew 69 = .ok (.invokevirtual 119, 3) := by decide +kernel
theorem dX9_beginAnew_72 : decode cX9_beginAnew 72 = .ok (.aload_n 0, 1) := by decide +kernel
theorem dX9_beginAnew_73 : decode cX9_beginAnew 73 = .ok (.getfield 21, 3) := by decide +kernel
theorem dX9_beginAnew_76 : decode cX9_beginAnew 76 = .ok (.iload_n 1, 1) := by decide +kernel
theorem dX9_beginAnew_77 : decode cX9_beginAnew 77 = .ok (.iconst 2, 1) := by decide +kernel
theorem dX9_beginAnew_78 : decode cX9_beginAnew 78 = .ok (.invokevirtual 119, 3) := by decide +kernel
theorem dX9_beginAnew_81 : decode cX9_beginAnew 81 = .ok (.aload_n 0, 1) := by decide +kernel
theorem dX9_beginAnew_82 : decode cX9_beginAnew 82 = .ok (.getfield 21, 3) := by decide +kernel
theorem dX9_beginAnew_85 : decode cX9_beginAnew 85 = .ok (.iload_n 1, 1) := by decide +kernel
theorem dX9_beginAnew_86 : decode cX9_beginAnew 86 = .ok (.iconst 3, 1) := by decide +kernel
theorem dX9_beginAnew_87 : decode cX9_beginAnew 87 = .ok (.invokevirtual 119, 3) := by decide +kernel
theorem dX9_beginAnew_90 : decode cX9_beginAnew 90 = .ok (.invokevirtual 123, 3) := by decide +kernel
theorem dX9_beginAnew_93 : decode cX9_beginAnew 93 = .ok (.iinc 1 1, 3) := by decide +kernel
theorem dX9_beginAnew_96 : decode cX9_beginAnew 96 = .ok (.goto (-58), 3) := by decide +kernel
theorem dX9_beginAnew_99 : decode cX9_beginAnew 99 = .ok (.iconst 0, 1) := by decide +kernel
theorem dX9_beginAnew_100 : decode cX9_beginAnew 100 = .ok (.istore_n 1, 1) := by decide +kernel
theorem dX9_beginAnew_101 : decode cX9_beginAnew 101 = .ok (.iload_n 1, 1) := by decide +kernel
theorem dX9_beginAnew_102 : decode cX9_beginAnew 102 = .ok (.aload_n 0, 1) := by decide +kernel
theorem dX9_beginAnew_103 : decode cX9_beginAnew 103 = .ok (.getfield 21, 3) := by decide +kernel
theorem dX9_beginAnew_106 : decode cX9_beginAnew 106 = .ok (.getfield 101, 3) := by decide +kernel
theorem dX9_beginAnew_109 : decode cX9_beginAnew 109 = .ok (.if_icmp .ge 41, 3) := by decide +kernel
theorem dX9_beginAnew_112 : decode cX9_beginAnew 112 = .ok (.aload_n 0, 1) := by decide +kernel
theorem dX9_beginAnew_113 : decode cX9_beginAnew 113 = .ok (.aload_n 0, 1) := by decide +kernel
theorem dX9_beginAnew_114 : decode cX9_beginAnew 114 = .ok (.getfield 21, 3) := by decide +kernel
theorem dX9_beginAnew_117 : decode cX9_beginAnew 117 = .ok (.iload_n 1, 1) := by decide +kernel
theorem dX9_beginAnew_118 : decode cX9_beginAnew 118 = .ok (.iconst 0, 1) := by decide +kernel
theorem dX9_beginAnew_119 : decode cX9_beginAnew 119 = .ok (.invokevirtual 127, 3) := by decide +kernel
theorem dX9_beginAnew_122 : decode cX9_beginAnew 122 = .ok (.aload_n 0, 1) := by decide +kernel
theorem dX9_beginAnew_123 : decode cX9_beginAnew 123 = .ok (.getfield 21, 3) := by decide +kernel
theorem dX9_beginAnew_126 : decode cX9_beginAnew 126 = .ok (.iload_n 1, 1) := by decide +kernel
theorem dX9_beginAnew_127 : decode cX9_beginAnew 127 = .ok (.iconst 1, 1) := by decide +kernel
theorem dX9_beginAnew_128 : decode cX9_beginAnew 128 = .ok (.invokevirtual 127, 3) := by decide +kernel
theorem dX9_beginAnew_131 : decode cX9_beginAnew 131 = .ok (.aload_n 0, 1) := by decide +kernel
theorem dX9_beginAnew_132 : decode cX9_beginAnew 132 = .ok (.getfield 21, 3) := by decide +kernel
theorem dX9_beginAnew_135 : decode cX9_beginAnew 135 = .ok (.iload_n 1, 1) := by decide +kernel
theorem dX9_beginAnew_136 : decode cX9_beginAnew 136 = .ok (.iconst 2, 1) := by decide +kernel
theorem dX9_beginAnew_137 : decode cX9_beginAnew 137 = .ok (.invokevirtual 127, 3) := by decide +kernel
theorem dX9_beginAnew_140 : decode cX9_beginAnew 140 = .ok (.invokevirtual 130, 3) := by decide +kernel
theorem dX9_beginAnew_143 : decode cX9_beginAnew 143 = .ok (.pop, 1) := by decide +kernel
theorem dX9_beginAnew_144 : decode cX9_beginAnew 144 = .ok (.iinc 1 1, 3) := by decide +kernel
theorem dX9_beginAnew_147 : decode cX9_beginAnew 147 = .ok (.goto (-46), 3) := by decide +kernel
theorem dX9_beginAnew_150 : decode cX9_beginAnew 150 = .ok (.return_, 1) := by decide +kernel
theorem dX9_write_0 : decode cX9_write 0 = .ok (.iload_n 1, 1) := by decide +kernel
theorem dX9_write_1 : decode cX9_write 1 = .ok (.iload_n 2, 1) := by decide +kernel
theorem dX9_write_2 : decode cX9_write 2 = .ok (.invokestatic 134, 3) := by decide +kernel
theorem dX9_write_5 : decode cX9_write 5 = .ok (.ifCond .eq 18, 3) := by decide +kernel
theorem dX9_write_8 : decode cX9_write 8 = .ok (.iload_n 3, 1) := by decide +kernel
theorem dX9_write_9 : decode cX9_write 9 = .ok (.invokestatic 138, 3) := by decide +kernel
theorem dX9_write_12 : decode cX9_write 12 = .ok (.ifCond .eq 11, 3) := by decide +kernel
theorem dX9_write_15 : decode cX9_write 15 = .ok (.iload 4, 2) := by decide +kernel
theorem dX9_write_17 : decode cX9_write 17 = .ok (.invokestatic 142, 3) := by decide +kernel
theorem dX9_write_20 : decode cX9_write 20 = .ok (.ifCond .ne 5, 3) := by decide +kernel
theorem dX9_write_23 : decode cX9_write 23 = .ok (.iconst (-1), 1) := by decide +kernel
theorem dX9_write_24 : decode cX9_write 24 = .ok (.ireturn, 1) := by decide +kernel
theorem dX9_write_25 : decode cX9_write 25 = .ok (.aload_n 0, 1) := by decide +kernel
theorem dX9_write_26 : decode cX9_write 26 = .ok (.getfield 28, 3) := by decide +kernel
theorem dX9_write_29 : decode cX9_write 29 = .ok (.invokevirtual 145, 3) := by decide +kernel
theorem dX9_write_32 : decode cX9_write 32 = .ok (.istore 5, 2) := by decide +kernel
theorem dX9_write_34 : decode cX9_write 34 = .ok (.iload 5, 2) := by decide +kernel
theorem dX9_write_36 : decode cX9_write 36 = .ok (.ifCond .ge 6, 3) := by decide +kernel
theorem dX9_write_39 : decode cX9_write 39 = .ok (.bipush (-2), 2) := by decide +kernel
theorem dX9_write_41 : decode cX9_write 41 = .ok (.ireturn, 1) := by decide +kernel
theorem dX9_write_42 : decode cX9_write 42 = .ok (.aload_n 0, 1) := by decide +kernel
theorem dX9_write_43 : decode cX9_write 43 = .ok (.getfield 28, 3) := by decide +kernel
theorem dX9_write_46 : decode cX9_write 46 = .ok (.iload 5, 2) := by decide +kernel
theorem dX9_write_48 : decode cX9_write 48 = .ok (.iload_n 1, 1) := by decide +kernel
theorem dX9_write_49 : decode cX9_write 49 = .ok (.iload_n 2, 1) := by decide +kernel
theorem dX9_write_50 : decode cX9_write 50 = .ok (.iload_n 3, 1) := by decide +kernel
theorem dX9_write_51 : decode cX9_write 51 = .ok (.iload 4, 2) := by decide +kernel
theorem dX9_write_53 : decode cX9_write 53 = .ok (.invokevirtual 123, 3) := by decide +kernel
theorem dX9_write_56 : decode cX9_write 56 = .ok (.aload_n 0, 1) := by decide +kernel
theorem dX9_write_57 : decode cX9_write 57 = .ok (.iload 5, 2) := by decide +kernel
theorem dX9_write_59 : decode cX9_write 59 = .ok (.iload 4, 2) := by decide +kernel
theorem dX9_write_61 : decode cX9_write 61 = .ok (.invokevirtual 149, 3) := by decide +kernel
theorem dX9_write_64 : decode cX9_write 64 = .ok (.aload_n 0, 1) := by decide +kernel
theorem dX9_write_65 : decode cX9_write 65 = .ok (.iconst 0, 1) := by decide +kernel
theorem dX9_write_66 : decode cX9_write 66 = .ok (.iload 5, 2) := by decide +kernel
theorem dX9_write_68 : decode cX9_write 68 = .ok (.iload_n 3, 1) := by decide +kernel
theorem dX9_write_69 : decode cX9_write 69 = .ok (.iload 4, 2) := by decide +kernel
theorem dX9_write_71 : decode cX9_write 71 = .ok (.invokevirtual 153, 3) := by decide +kernel
theorem dX9_write_74 : decode cX9_write 74 = .ok (.iload 5, 2) := by decide +kernel
theorem dX9_write_76 : decode cX9_write 76 = .ok (.ireturn, 1) := by decide +kernel
theorem dX9_move_0 : decode cX9_move 0 = .ok (.aload_n 0, 1) := by decide +kernel
theorem dX9_move_1 : decode cX9_move 1 = .ok (.getfield 28, 3) := by decide +kernel
theorem dX9_move_4 : decode cX9_move 4 = .ok (.iload_n 1, 1) := by decide +kernel
theorem dX9_move_5 : decode cX9_move 5 = .ok (.invokevirtual 157, 3) := by decide +kernel
theorem dX9_move_8 : decode cX9_move 8 = .ok (.ifCond .eq 11, 3) := by decide +kernel
theorem dX9_move_11 : decode cX9_move 11 = .ok (.iload_n 2, 1) := by decide +kernel
theorem dX9_move_12 : decode cX9_move 12 = .ok (.iload_n 3, 1) := by decide +kernel
theorem dX9_move_13 : decode cX9_move 13 = .ok (.invokestatic 134, 3) := by decide +kernel
theorem dX9_move_16 : decode cX9_move 16 = .ok (.ifCond .ne 5, 3) := by decide +kernel
theorem dX9_move_19 : decode cX9_move 19 = .ok (.iconst (-1), 1) := by decide +kernel
theorem dX9_move_20 : decode cX9_move 20 = .ok (.ireturn, 1) := by decide +kernel
theorem dX9_move_21 : decode cX9_move 21 = .ok (.aload_n 0, 1) := by decide +kernel
theorem dX9_move_22 : decode cX9_move 22 = .ok (.getfield 28, 3) := by decide +kernel
theorem dX9_move_25 : decode cX9_move 25 = .ok (.iload_n 1, 1) := by decide +kernel
theorem dX9_move_26 : decode cX9_move 26 = .ok (.invokevirtual 160, 3) := by decide +kernel
theorem dX9_move_29 : decode cX9_move 29 = .ok (.istore 4, 2) := by decide +kernel
theorem dX9_move_31 : decode cX9_move 31 = .ok (.aload_n 0, 1) := by decide +kernel
theorem dX9_move_32 : decode cX9_move 32 = .ok (.getfield 28, 3) := by decide +kernel
theorem dX9_move_35 : decode cX9_move 35 = .ok (.iload_n 1, 1) := by decide +kernel
theorem dX9_move_36 : decode cX9_move 36 = .ok (.iload_n 2, 1) := by decide +kernel
theorem dX9_move_37 : decode cX9_move 37 = .ok (.iload_n 3, 1) := by decide +kernel
theorem dX9_move_38 : decode cX9_move 38 = .ok (.invokevirtual 164, 3) := by decide +kernel
theorem dX9_move_41 : decode cX9_move 41 = .ok (.istore 5, 2) := by decide +kernel
theorem dX9_move_43 : decode cX9_move 43 = .ok (.aload_n 0, 1) := by decide +kernel
theorem dX9_move_44 : decode cX9_move 44 = .ok (.iload_n 1, 1) := by decide +kernel
theorem dX9_move_45 : decode cX9_move 45 = .ok (.iload 4, 2) := by decide +kernel
theorem dX9_move_47 : decode cX9_move 47 = .ok (.invokevirtual 167, 3) := by decide +kernel
theorem dX9_move_50 : decode cX9_move 50 = .ok (.aload_n 0, 1) := by decide +kernel
theorem dX9_move_51 : decode cX9_move 51 = .ok (.getfield 28, 3) := by decide +kernel
theorem dX9_move_54 : decode cX9_move 54 = .ok (.iload_n 1, 1) := by decide +kernel
theorem dX9_move_55 : decode cX9_move 55 = .ok (.iload_n 2, 1) := by decide +kernel
theorem dX9_move_56 : decode cX9_move 56 = .ok (.iload_n 3, 1) := by decide +kernel
theorem dX9_move_57 : decode cX9_move 57 = .ok (.invokevirtual 170, 3) := by decide +kernel
theorem dX9_move_60 : decode cX9_move 60 = .ok (.aload_n 0, 1) := by decide +kernel
theorem dX9_move_61 : decode cX9_move 61 = .ok (.iload_n 1, 1) := by decide +kernel
theorem dX9_move_62 : decode cX9_move 62 = .ok (.iload 4, 2) := by decide +kernel
theorem dX9_move_64 : decode cX9_move 64 = .ok (.invokevirtual 149, 3) := by decide +kernel
theorem dX9_move_67 : decode cX9_move 67 = .ok (.aload_n 0, 1) := by decide +kernel
theorem dX9_move_68 : decode cX9_move 68 = .ok (.iconst 1, 1) := by decide +kernel
theorem dX9_move_69 : decode cX9_move 69 = .ok (.iload_n 1, 1) := by decide +kernel
theorem dX9_move_70 : decode cX9_move 70 = .ok (.iconst 0, 1) := by decide +kernel
theorem dX9_move_71 : decode cX9_move 71 = .ok (.iload 4, 2) := by decide +kernel
theorem dX9_move_73 : decode cX9_move 73 = .ok (.invokevirtual 153, 3) := by decide +kernel
theorem dX9_move_76 : decode cX9_move 76 = .ok (.iload 5, 2) := by decide +kernel
theorem dX9_move_78 : decode cX9_move 78 = .ok (.ireturn, 1) := by decide +kernel
theorem dX9_change_0 : decode cX9_change 0 = .ok (.aload_n 0, 1) := by decide +kernel
theorem dX9_change_1 : decode cX9_change 1 = .ok (.getfield 28, 3) := by decide +kernel
theorem dX9_change_4 : decode cX9_change 4 = .ok (.iload_n 1, 1) := by decide +kernel
theorem dX9_change_5 : decode cX9_change 5 = .ok (.invokevirtual 157, 3) := by decide +kernel
theorem dX9_change_8 : decode cX9_change 8 = .ok (.ifCond .eq 10, 3) := by decide +kernel
theorem dX9_change_11 : decode cX9_change 11 = .ok (.iload_n 2, 1) := by decide +kernel
theorem dX9_change_12 : decode cX9_change 12 = .ok (.invokestatic 138, 3) := by decide +kernel
theorem dX9_change_15 : decode cX9_change 15 = .ok (.ifCond .ne 5, 3) := by decide +kernel
theorem dX9_change_18 : decode cX9_change 18 = .ok (.iconst (-1), 1) := by decide +kernel
theorem dX9_change_19 : decode cX9_change 19 = .ok (.ireturn, 1) := by decide +kernel
theorem dX9_change_20 : decode cX9_change 20 = .ok (.aload_n 0, 1) := by decide +kernel
theorem dX9_change_21 : decode cX9_change 21 = .ok (.getfield 28, 3) := by decide +kernel
theorem dX9_change_24 : decode cX9_change 24 = .ok (.iload_n 1, 1) := by decide +kernel
theorem dX9_change_25 : decode cX9_change 25 = .ok (.invokevirtual 174, 3) := by decide +kernel
theorem dX9_change_28 : decode cX9_change 28 = .ok (.istore_n 3, 1) := by decide +kernel
theorem dX9_change_29 : decode cX9_change 29 = .ok (.aload_n 0, 1) := by decide +kernel
theorem dX9_change_30 : decode cX9_change 30 = .ok (.getfield 28, 3) := by decide +kernel
theorem dX9_change_33 : decode cX9_change 33 = .ok (.iload_n 1, 1) := by decide +kernel
theorem dX9_change_34 : decode cX9_change 34 = .ok (.iload_n 2, 1) := by decide +kernel
theorem dX9_change_35 : decode cX9_change 35 = .ok (.invokevirtual 177, 3) := by decide +kernel
theorem dX9_change_38 : decode cX9_change 38 = .ok (.aload_n 0, 1) := by decide +kernel
theorem dX9_change_39 : decode cX9_change 39 = .ok (.iconst 2, 1) := by decide +kernel
theorem dX9_change_40 : decode cX9_change 40 = .ok (.iload_n 1, 1) := by decide +kernel
theorem dX9_change_41 : decode cX9_change 41 = .ok (.iload_n 2, 1) := by decide +kernel
theorem dX9_change_42 : decode cX9_change 42 = .ok (.iload_n 3, 1) := by decide +kernel
theorem dX9_change_43 : decode cX9_change 43 = .ok (.isub, 1) := by decide +kernel
theorem dX9_change_44 : decode cX9_change 44 = .ok (.aload_n 0, 1) := by decide +kernel
theorem dX9_change_45 : decode cX9_change 45 = .ok (.getfield 28, 3) := by decide +kernel
theorem dX9_change_48 : decode cX9_change 48 = .ok (.iload_n 1, 1) := by decide +kernel
theorem dX9_change_49 : decode cX9_change 49 = .ok (.invokevirtual 160, 3) := by decide +kernel
theorem dX9_change_52 : decode cX9_change 52 = .ok (.invokevirtual 153, 3) := by decide +kernel
theorem dX9_change_55 : decode cX9_change 55 = .ok (.iload_n 3, 1) := by decide +kernel
theorem dX9_change_56 : decode cX9_change 56 = .ok (.ireturn, 1) := by decide +kernel
theorem dX9_lapse_0 : decode cX9_lapse 0 = .ok (.aload_n 0, 1) := by decide +kernel
theorem dX9_lapse_1 : decode cX9_lapse 1 = .ok (.getfield 28, 3) := by decide +kernel
theorem dX9_lapse_4 : decode cX9_lapse 4 = .ok (.iload_n 1, 1) := by decide +kernel
theorem dX9_lapse_5 : decode cX9_lapse 5 = .ok (.invokevirtual 157, 3) := by decide +kernel
theorem dX9_lapse_8 : decode cX9_lapse 8 = .ok (.ifCond .ne 5, 3) := by decide +kernel
theorem dX9_lapse_11 : decode cX9_lapse 11 = .ok (.iconst (-1), 1) := by decide +kernel
theorem dX9_lapse_12 : decode cX9_lapse 12 = .ok (.ireturn, 1) := by decide +kernel
theorem dX9_lapse_13 : decode cX9_lapse 13 = .ok (.aload_n 0, 1) := by decide +kernel
theorem dX9_lapse_14 : decode cX9_lapse 14 = .ok (.getfield 28, 3) := by decide +kernel
theorem dX9_lapse_17 : decode cX9_lapse 17 = .ok (.iload_n 1, 1) := by decide +kernel
theorem dX9_lapse_18 : decode cX9_lapse 18 = .ok (.invokevirtual 174, 3) := by decide +kernel
theorem dX9_lapse_21 : decode cX9_lapse 21 = .ok (.istore_n 2, 1) := by decide +kernel
theorem dX9_lapse_22 : decode cX9_lapse 22 = .ok (.aload_n 0, 1) := by decide +kernel
theorem dX9_lapse_23 : decode cX9_lapse 23 = .ok (.getfield 28, 3) := by decide +kernel
theorem dX9_lapse_26 : decode cX9_lapse 26 = .ok (.iload_n 1, 1) := by decide +kernel
theorem dX9_lapse_27 : decode cX9_lapse 27 = .ok (.invokevirtual 160, 3) := by decide +kernel
theorem dX9_lapse_30 : decode cX9_lapse 30 = .ok (.istore_n 3, 1) := by decide +kernel
theorem dX9_lapse_31 : decode cX9_lapse 31 = .ok (.aload_n 0, 1) := by decide +kernel
theorem dX9_lapse_32 : decode cX9_lapse 32 = .ok (.iload_n 1, 1) := by decide +kernel
theorem dX9_lapse_33 : decode cX9_lapse 33 = .ok (.iload_n 3, 1) := by decide +kernel
theorem dX9_lapse_34 : decode cX9_lapse 34 = .ok (.invokevirtual 167, 3) := by decide +kernel
theorem dX9_lapse_37 : decode cX9_lapse 37 = .ok (.aload_n 0, 1) := by decide +kernel
theorem dX9_lapse_38 : decode cX9_lapse 38 = .ok (.getfield 28, 3) := by decide +kernel
theorem dX9_lapse_41 : decode cX9_lapse 41 = .ok (.iload_n 1, 1) := by decide +kernel
theorem dX9_lapse_42 : decode cX9_lapse 42 = .ok (.invokevirtual 180, 3) := by decide +kernel
theorem dX9_lapse_45 : decode cX9_lapse 45 = .ok (.aload_n 0, 1) := by decide +kernel
theorem dX9_lapse_46 : decode cX9_lapse 46 = .ok (.iconst 3, 1) := by decide +kernel
theorem dX9_lapse_47 : decode cX9_lapse 47 = .ok (.iload_n 1, 1) := by decide +kernel
theorem dX9_lapse_48 : decode cX9_lapse 48 = .ok (.iload_n 2, 1) := by decide +kernel
theorem dX9_lapse_49 : decode cX9_lapse 49 = .ok (.ineg, 1) := by decide +kernel
theorem dX9_lapse_50 : decode cX9_lapse 50 = .ok (.iload_n 3, 1) := by decide +kernel
theorem dX9_lapse_51 : decode cX9_lapse 51 = .ok (.invokevirtual 153, 3) := by decide +kernel
theorem dX9_lapse_54 : decode cX9_lapse 54 = .ok (.iload_n 2, 1) := by decide +kernel
theorem dX9_lapse_55 : decode cX9_lapse 55 = .ok (.ireturn, 1) := by decide +kernel
theorem dX9_policy_0 : decode cX9_policy 0 = .ok (.aload_n 0, 1) := by decide +kernel
theorem dX9_policy_1 : decode cX9_policy 1 = .ok (.getfield 28, 3) := by decide +kernel
theorem dX9_policy_4 : decode cX9_policy 4 = .ok (.iload_n 1, 1) := by decide +kernel
theorem dX9_policy_5 : decode cX9_policy 5 = .ok (.invokevirtual 157, 3) := by decide +kernel
theorem dX9_policy_8 : decode cX9_policy 8 = .ok (.ifCond .ne 11, 3) := by decide +kernel
theorem dX9_policy_11 : decode cX9_policy 11 = .ok (.new 183, 3) := by decide +kernel
theorem dX9_policy_14 : decode cX9_policy 14 = .ok (.dup, 1) := by decide +kernel
theorem dX9_policy_15 : decode cX9_policy 15 = .ok (.invokespecial 185, 3) := by decide +kernel
theorem dX9_policy_18 : decode cX9_policy 18 = .ok (.athrow, 1) := by decide +kernel
theorem dX9_policy_19 : decode cX9_policy 19 = .ok (.iload_n 2, 1) := by decide +kernel
theorem dX9_policy_20 : decode cX9_policy 20 = .ok (.tableswitch 102 0 4 #[36, 45, 54, 63, 72], 36) := by decide +kernel
theorem dX9_policy_56 : decode cX9_policy 56 = .ok (.aload_n 0, 1) := by decide +kernel
theorem dX9_policy_57 : decode cX9_policy 57 = .ok (.getfield 28, 3) := by decide +kernel
theorem dX9_policy_60 : decode cX9_policy 60 = .ok (.iload_n 1, 1) := by decide +kernel
theorem dX9_policy_61 : decode cX9_policy 61 = .ok (.invokevirtual 186, 3) := by decide +kernel
theorem dX9_policy_64 : decode cX9_policy 64 = .ok (.ireturn, 1) := by decide +kernel
theorem dX9_policy_65 : decode cX9_policy 65 = .ok (.aload_n 0, 1) := by decide +kernel
theorem dX9_policy_66 : decode cX9_policy 66 = .ok (.getfield 28, 3) := by decide +kernel
theorem dX9_policy_69 : decode cX9_policy 69 = .ok (.iload_n 1, 1) := by decide +kernel
theorem dX9_policy_70 : decode cX9_policy 70 = .ok (.invokevirtual 189, 3) := by decide +kernel
theorem dX9_policy_73 : decode cX9_policy 73 = .ok (.ireturn, 1) := by decide +kernel
theorem dX9_policy_74 : decode cX9_policy 74 = .ok (.aload_n 0, 1) := by decide +kernel
theorem dX9_policy_75 : decode cX9_policy 75 = .ok (.getfield 28, 3) := by decide +kernel
theorem dX9_policy_78 : decode cX9_policy 78 = .ok (.iload_n 1, 1) := by decide +kernel
theorem dX9_policy_79 : decode cX9_policy 79 = .ok (.invokevirtual 174, 3) := by decide +kernel
theorem dX9_policy_82 : decode cX9_policy 82 = .ok (.ireturn, 1) := by decide +kernel
theorem dX9_policy_83 : decode cX9_policy 83 = .ok (.aload_n 0, 1) := by decide +kernel
theorem dX9_policy_84 : decode cX9_policy 84 = .ok (.getfield 28, 3) := by decide +kernel
theorem dX9_policy_87 : decode cX9_policy 87 = .ok (.iload_n 1, 1) := by decide +kernel
theorem dX9_policy_88 : decode cX9_policy 88 = .ok (.invokevirtual 160, 3) := by decide +kernel
theorem dX9_policy_91 : decode cX9_policy 91 = .ok (.ireturn, 1) := by decide +kernel
theorem dX9_policy_92 : decode cX9_policy 92 = .ok (.aload_n 0, 1) := by decide +kernel
theorem dX9_policy_93 : decode cX9_policy 93 = .ok (.getfield 28, 3) := by decide +kernel
theorem dX9_policy_96 : decode cX9_policy 96 = .ok (.aload_n 0, 1) := by decide +kernel
theorem dX9_policy_97 : decode cX9_policy 97 = .ok (.getfield 28, 3) := by decide +kernel
theorem dX9_policy_100 : decode cX9_policy 100 = .ok (.iload_n 1, 1) := by decide +kernel
theorem dX9_policy_101 : decode cX9_policy 101 = .ok (.invokevirtual 186, 3) := by decide +kernel
theorem dX9_policy_104 : decode cX9_policy 104 = .ok (.aload_n 0, 1) := by decide +kernel
theorem dX9_policy_105 : decode cX9_policy 105 = .ok (.getfield 28, 3) := by decide +kernel
theorem dX9_policy_108 : decode cX9_policy 108 = .ok (.iload_n 1, 1) := by decide +kernel
theorem dX9_policy_109 : decode cX9_policy 109 = .ok (.invokevirtual 189, 3) := by decide +kernel
theorem dX9_policy_112 : decode cX9_policy 112 = .ok (.iconst 0, 1) := by decide +kernel
theorem dX9_policy_113 : decode cX9_policy 113 = .ok (.invokevirtual 192, 3) := by decide +kernel
theorem dX9_policy_116 : decode cX9_policy 116 = .ok (.invokestatic 195, 3) := by decide +kernel
theorem dX9_policy_119 : decode cX9_policy 119 = .ok (.iconst 1, 1) := by decide +kernel
theorem dX9_policy_120 : decode cX9_policy 120 = .ok (.isub, 1) := by decide +kernel
theorem dX9_policy_121 : decode cX9_policy 121 = .ok (.ireturn, 1) := by decide +kernel
theorem dX9_policy_122 : decode cX9_policy 122 = .ok (.new 200, 3) := by decide +kernel
theorem dX9_policy_125 : decode cX9_policy 125 = .ok (.dup, 1) := by decide +kernel
theorem dX9_policy_126 : decode cX9_policy 126 = .ok (.invokespecial 202, 3) := by decide +kernel
theorem dX9_policy_129 : decode cX9_policy 129 = .ok (.athrow, 1) := by decide +kernel
theorem dX9_tell_0 : decode cX9_tell 0 = .ok (.aload_n 0, 1) := by decide +kernel
theorem dX9_tell_1 : decode cX9_tell 1 = .ok (.getfield 47, 3) := by decide +kernel
theorem dX9_tell_4 : decode cX9_tell 4 = .ok (.iload_n 1, 1) := by decide +kernel
theorem dX9_tell_5 : decode cX9_tell 5 = .ok (.iload_n 2, 1) := by decide +kernel
theorem dX9_tell_6 : decode cX9_tell 6 = .ok (.iload_n 3, 1) := by decide +kernel
theorem dX9_tell_7 : decode cX9_tell 7 = .ok (.invokevirtual 203, 3) := by decide +kernel
theorem dX9_tell_10 : decode cX9_tell 10 = .ok (.iconst 0, 1) := by decide +kernel
theorem dX9_tell_11 : decode cX9_tell 11 = .ok (.istore 5, 2) := by decide +kernel
theorem dX9_tell_13 : decode cX9_tell 13 = .ok (.iload 5, 2) := by decide +kernel
theorem dX9_tell_15 : decode cX9_tell 15 = .ok (.aload_n 0, 1) := by decide +kernel
theorem dX9_tell_16 : decode cX9_tell 16 = .ok (.getfield 116, 3) := by decide +kernel
theorem dX9_tell_19 : decode cX9_tell 19 = .ok (.if_icmp .ge 43, 3) := by decide +kernel
theorem dX9_tell_22 : decode cX9_tell 22 = .ok (.aload_n 0, 1) := by decide +kernel
theorem dX9_tell_23 : decode cX9_tell 23 = .ok (.iload 5, 2) := by decide +kernel
theorem dX9_tell_25 : decode cX9_tell 25 = .ok (.invokevirtual 206, 3) := by decide +kernel
theorem dX9_tell_28 : decode cX9_tell 28 = .ok (.astore 6, 2) := by decide +kernel
theorem dX9_tell_30 : decode cX9_tell 30 = .ok (.aload 6, 2) := by decide +kernel
theorem dX9_tell_32 : decode cX9_tell 32 = .ok (.ifnull 24, 3) := by decide +kernel
theorem dX9_tell_35 : decode cX9_tell 35 = .ok (.aload 6, 2) := by decide +kernel
theorem dX9_tell_37 : decode cX9_tell 37 = .ok (.iload 4, 2) := by decide +kernel
theorem dX9_tell_39 : decode cX9_tell 39 = .ok (.invokevirtual 210, 3) := by decide +kernel
theorem dX9_tell_42 : decode cX9_tell 42 = .ok (.ifCond .eq 14, 3) := by decide +kernel
theorem dX9_tell_45 : decode cX9_tell 45 = .ok (.aload 6, 2) := by decide +kernel
theorem dX9_tell_47 : decode cX9_tell 47 = .ok (.invokevirtual 213, 3) := by decide +kernel
theorem dX9_tell_50 : decode cX9_tell 50 = .ok (.aload_n 0, 1) := by decide +kernel
theorem dX9_tell_51 : decode cX9_tell 51 = .ok (.iload 5, 2) := by decide +kernel
theorem dX9_tell_53 : decode cX9_tell 53 = .ok (.invokevirtual 216, 3) := by decide +kernel
theorem dX9_tell_56 : decode cX9_tell 56 = .ok (.iinc 5 1, 3) := by decide +kernel
theorem dX9_tell_59 : decode cX9_tell 59 = .ok (.goto (-46), 3) := by decide +kernel
theorem dX9_tell_62 : decode cX9_tell 62 = .ok (.return_, 1) := by decide +kernel
theorem dX9_joinTreaties_0 : decode cX9_joinTreaties 0 = .ok (.iconst 0, 1) := by decide +kernel
theorem dX9_joinTreaties_1 : decode cX9_joinTreaties 1 = .ok (.istore_n 3, 1) := by decide +kernel
theorem dX9_joinTreaties_2 : decode cX9_joinTreaties 2 = .ok (.iload_n 3, 1) := by decide +kernel
theorem dX9_joinTreaties_3 : decode cX9_joinTreaties 3 = .ok (.aload_n 0, 1) := by decide +kernel
theorem dX9_joinTreaties_4 : decode cX9_joinTreaties 4 = .ok (.getfield 116, 3) := by decide +kernel
theorem dX9_joinTreaties_7 : decode cX9_joinTreaties 7 = .ok (.if_icmp .ge 39, 3) := by decide +kernel
theorem dX9_joinTreaties_10 : decode cX9_joinTreaties 10 = .ok (.aload_n 0, 1) := by decide +kernel
theorem dX9_joinTreaties_11 : decode cX9_joinTreaties 11 = .ok (.iload_n 3, 1) := by decide +kernel
theorem dX9_joinTreaties_12 : decode cX9_joinTreaties 12 = .ok (.invokevirtual 206, 3) := by decide +kernel
theorem dX9_joinTreaties_15 : decode cX9_joinTreaties 15 = .ok (.astore 4, 2) := by decide +kernel
theorem dX9_joinTreaties_17 : decode cX9_joinTreaties 17 = .ok (.aload 4, 2) := by decide +kernel
theorem dX9_joinTreaties_19 : decode cX9_joinTreaties 19 = .ok (.ifnull 21, 3) := by decide +kernel
theorem dX9_joinTreaties_22 : decode cX9_joinTreaties 22 = .ok (.aload 4, 2) := by decide +kernel
theorem dX9_joinTreaties_24 : decode cX9_joinTreaties 24 = .ok (.iload_n 2, 1) := by decide +kernel
theorem dX9_joinTreaties_25 : decode cX9_joinTreaties 25 = .ok (.invokevirtual 210, 3) := by decide +kernel
theorem dX9_joinTreaties_28 : decode cX9_joinTreaties 28 = .ok (.ifCond .eq 12, 3) := by decide +kernel
theorem dX9_joinTreaties_31 : decode cX9_joinTreaties 31 = .ok (.aload 4, 2) := by decide +kernel
theorem dX9_joinTreaties_33 : decode cX9_joinTreaties 33 = .ok (.getfield 219, 3) := by decide +kernel
theorem dX9_joinTreaties_36 : decode cX9_joinTreaties 36 = .ok (.iload_n 1, 1) := by decide +kernel
theorem dX9_joinTreaties_37 : decode cX9_joinTreaties 37 = .ok (.invokevirtual 220, 3) := by decide +kernel
theorem dX9_joinTreaties_40 : decode cX9_joinTreaties 40 = .ok (.iinc 3 1, 3) := by decide +kernel
theorem dX9_joinTreaties_43 : decode cX9_joinTreaties 43 = .ok (.goto (-41), 3) := by decide +kernel
theorem dX9_joinTreaties_46 : decode cX9_joinTreaties 46 = .ok (.return_, 1) := by decide +kernel
theorem dX9_leaveTreaties_0 : decode cX9_leaveTreaties 0 = .ok (.iconst 0, 1) := by decide +kernel
theorem dX9_leaveTreaties_1 : decode cX9_leaveTreaties 1 = .ok (.istore_n 3, 1) := by decide +kernel
theorem dX9_leaveTreaties_2 : decode cX9_leaveTreaties 2 = .ok (.iload_n 3, 1) := by decide +kernel
theorem dX9_leaveTreaties_3 : decode cX9_leaveTreaties 3 = .ok (.aload_n 0, 1) := by decide +kernel
theorem dX9_leaveTreaties_4 : decode cX9_leaveTreaties 4 = .ok (.getfield 116, 3) := by decide +kernel
theorem dX9_leaveTreaties_7 : decode cX9_leaveTreaties 7 = .ok (.if_icmp .ge 39, 3) := by decide +kernel
theorem dX9_leaveTreaties_10 : decode cX9_leaveTreaties 10 = .ok (.aload_n 0, 1) := by decide +kernel
theorem dX9_leaveTreaties_11 : decode cX9_leaveTreaties 11 = .ok (.iload_n 3, 1) := by decide +kernel
theorem dX9_leaveTreaties_12 : decode cX9_leaveTreaties 12 = .ok (.invokevirtual 206, 3) := by decide +kernel
theorem dX9_leaveTreaties_15 : decode cX9_leaveTreaties 15 = .ok (.astore 4, 2) := by decide +kernel
theorem dX9_leaveTreaties_17 : decode cX9_leaveTreaties 17 = .ok (.aload 4, 2) := by decide +kernel
theorem dX9_leaveTreaties_19 : decode cX9_leaveTreaties 19 = .ok (.ifnull 21, 3) := by decide +kernel
theorem dX9_leaveTreaties_22 : decode cX9_leaveTreaties 22 = .ok (.aload 4, 2) := by decide +kernel
theorem dX9_leaveTreaties_24 : decode cX9_leaveTreaties 24 = .ok (.iload_n 2, 1) := by decide +kernel
theorem dX9_leaveTreaties_25 : decode cX9_leaveTreaties 25 = .ok (.invokevirtual 210, 3) := by decide +kernel
theorem dX9_leaveTreaties_28 : decode cX9_leaveTreaties 28 = .ok (.ifCond .eq 12, 3) := by decide +kernel
theorem dX9_leaveTreaties_31 : decode cX9_leaveTreaties 31 = .ok (.aload 4, 2) := by decide +kernel
theorem dX9_leaveTreaties_33 : decode cX9_leaveTreaties 33 = .ok (.getfield 219, 3) := by decide +kernel
theorem dX9_leaveTreaties_36 : decode cX9_leaveTreaties 36 = .ok (.iload_n 1, 1) := by decide +kernel
theorem dX9_leaveTreaties_37 : decode cX9_leaveTreaties 37 = .ok (.invokevirtual 223, 3) := by decide +kernel
theorem dX9_leaveTreaties_40 : decode cX9_leaveTreaties 40 = .ok (.iinc 3 1, 3) := by decide +kernel
theorem dX9_leaveTreaties_43 : decode cX9_leaveTreaties 43 = .ok (.goto (-41), 3) := by decide +kernel
theorem dX9_leaveTreaties_46 : decode cX9_leaveTreaties 46 = .ok (.return_, 1) := by decide +kernel
theorem dX9_treaty_0 : decode cX9_treaty 0 = .ok (.iload_n 1, 1) := by decide +kernel
theorem dX9_treaty_1 : decode cX9_treaty 1 = .ok (.invokestatic 226, 3) := by decide +kernel
theorem dX9_treaty_4 : decode cX9_treaty 4 = .ok (.ifCond .eq 21, 3) := by decide +kernel
theorem dX9_treaty_7 : decode cX9_treaty 7 = .ok (.iload_n 2, 1) := by decide +kernel
theorem dX9_treaty_8 : decode cX9_treaty 8 = .ok (.invokestatic 229, 3) := by decide +kernel
theorem dX9_treaty_11 : decode cX9_treaty 11 = .ok (.ifCond .eq 14, 3) := by decide +kernel
theorem dX9_treaty_14 : decode cX9_treaty 14 = .ok (.iload_n 3, 1) := by decide +kernel
theorem dX9_treaty_15 : decode cX9_treaty 15 = .ok (.iconst 1, 1) := by decide +kernel
theorem dX9_treaty_16 : decode cX9_treaty 16 = .ok (.if_icmp .lt 9, 3) := by decide +kernel
theorem dX9_treaty_19 : decode cX9_treaty 19 = .ok (.iload_n 3, 1) := by decide +kernel
theorem dX9_treaty_20 : decode cX9_treaty 20 = .ok (.ldc 232, 2) := by decide +kernel
theorem dX9_treaty_22 : decode cX9_treaty 22 = .ok (.if_icmp .le 5, 3) := by decide +kernel
theorem dX9_treaty_25 : decode cX9_treaty 25 = .ok (.iconst (-1), 1) := by decide +kernel
theorem dX9_treaty_26 : decode cX9_treaty 26 = .ok (.ireturn, 1) := by decide +kernel
theorem dX9_treaty_27 : decode cX9_treaty 27 = .ok (.aload_n 0, 1) := by decide +kernel
theorem dX9_treaty_28 : decode cX9_treaty 28 = .ok (.iload_n 1, 1) := by decide +kernel
theorem dX9_treaty_29 : decode cX9_treaty 29 = .ok (.iload_n 2, 1) := by decide +kernel
theorem dX9_treaty_30 : decode cX9_treaty 30 = .ok (.iload_n 3, 1) := by decide +kernel
theorem dX9_treaty_31 : decode cX9_treaty 31 = .ok (.invokevirtual 130, 3) := by decide +kernel
theorem dX9_treaty_34 : decode cX9_treaty 34 = .ok (.ireturn, 1) := by decide +kernel
theorem dX9_limit_0 : decode cX9_limit 0 = .ok (.aload_n 0, 1) := by decide +kernel
theorem dX9_limit_1 : decode cX9_limit 1 = .ok (.iload_n 1, 1) := by decide +kernel
theorem dX9_limit_2 : decode cX9_limit 2 = .ok (.invokevirtual 206, 3) := by decide +kernel
theorem dX9_limit_5 : decode cX9_limit 5 = .ok (.astore_n 3, 1) := by decide +kernel
theorem dX9_limit_6 : decode cX9_limit 6 = .ok (.aload_n 3, 1) := by decide +kernel
theorem dX9_limit_7 : decode cX9_limit 7 = .ok (.ifnull 14, 3) := by decide +kernel
theorem dX9_limit_10 : decode cX9_limit 10 = .ok (.iload_n 2, 1) := by decide +kernel
theorem dX9_limit_11 : decode cX9_limit 11 = .ok (.iconst 1, 1) := by decide +kernel
theorem dX9_limit_12 : decode cX9_limit 12 = .ok (.if_icmp .lt 9, 3) := by decide +kernel
theorem dX9_limit_15 : decode cX9_limit 15 = .ok (.iload_n 2, 1) := by decide +kernel
theorem dX9_limit_16 : decode cX9_limit 16 = .ok (.ldc 232, 2) := by decide +kernel
theorem dX9_limit_18 : decode cX9_limit 18 = .ok (.if_icmp .le 5, 3) := by decide +kernel
theorem dX9_limit_21 : decode cX9_limit 21 = .ok (.iconst (-1), 1) := by decide +kernel
theorem dX9_limit_22 : decode cX9_limit 22 = .ok (.ireturn, 1) := by decide +kernel
theorem dX9_limit_23 : decode cX9_limit 23 = .ok (.aload_n 3, 1) := by decide +kernel
theorem dX9_limit_24 : decode cX9_limit 24 = .ok (.getfield 233, 3) := by decide +kernel
theorem dX9_limit_27 : decode cX9_limit 27 = .ok (.istore 4, 2) := by decide +kernel
theorem dX9_limit_29 : decode cX9_limit 29 = .ok (.aload_n 3, 1) := by decide +kernel
theorem dX9_limit_30 : decode cX9_limit 30 = .ok (.iload_n 2, 1) := by decide +kernel
theorem dX9_limit_31 : decode cX9_limit 31 = .ok (.putfield 233, 3) := by decide +kernel
theorem dX9_limit_34 : decode cX9_limit 34 = .ok (.aload_n 0, 1) := by decide +kernel
theorem dX9_limit_35 : decode cX9_limit 35 = .ok (.iload_n 1, 1) := by decide +kernel
theorem dX9_limit_36 : decode cX9_limit 36 = .ok (.invokevirtual 216, 3) := by decide +kernel
theorem dX9_limit_39 : decode cX9_limit 39 = .ok (.iload 4, 2) := by decide +kernel
theorem dX9_limit_41 : decode cX9_limit 41 = .ok (.ireturn, 1) := by decide +kernel
theorem dX9_its_0 : decode cX9_its 0 = .ok (.aload_n 0, 1) := by decide +kernel
theorem dX9_its_1 : decode cX9_its 1 = .ok (.iload_n 1, 1) := by decide +kernel
theorem dX9_its_2 : decode cX9_its 2 = .ok (.invokevirtual 206, 3) := by decide +kernel
theorem dX9_its_5 : decode cX9_its 5 = .ok (.astore_n 3, 1) := by decide +kernel
theorem dX9_its_6 : decode cX9_its 6 = .ok (.aload_n 3, 1) := by decide +kernel
theorem dX9_its_7 : decode cX9_its 7 = .ok (.ifnonnull 5, 3) := by decide +kernel
theorem dX9_its_10 : decode cX9_its 10 = .ok (.iconst (-1), 1) := by decide +kernel
theorem dX9_its_11 : decode cX9_its 11 = .ok (.ireturn, 1) := by decide +kernel
theorem dX9_its_12 : decode cX9_its 12 = .ok (.iload_n 2, 1) := by decide +kernel
theorem dX9_its_13 : decode cX9_its 13 = .ok (.tableswitch 111 0 7 #[47, 52, 57, 62, 73, 88, 101, 106], 47) := by decide +kernel
theorem dX9_its_60 : decode cX9_its 60 = .ok (.aload_n 3, 1) := by decide +kernel
theorem dX9_its_61 : decode cX9_its 61 = .ok (.getfield 236, 3) := by decide +kernel
theorem dX9_its_64 : decode cX9_its 64 = .ok (.ireturn, 1) := by decide +kernel
theorem dX9_its_65 : decode cX9_its 65 = .ok (.aload_n 3, 1) := by decide +kernel
theorem dX9_its_66 : decode cX9_its 66 = .ok (.getfield 239, 3) := by decide +kernel
theorem dX9_its_69 : decode cX9_its 69 = .ok (.ireturn, 1) := by decide +kernel
theorem dX9_its_70 : decode cX9_its 70 = .ok (.aload_n 3, 1) := by decide +kernel
theorem dX9_its_71 : decode cX9_its 71 = .ok (.getfield 233, 3) := by decide +kernel
theorem dX9_its_74 : decode cX9_its 74 = .ok (.ireturn, 1) := by decide +kernel
theorem dX9_its_75 : decode cX9_its 75 = .ok (.aload_n 3, 1) := by decide +kernel
theorem dX9_its_76 : decode cX9_its 76 = .ok (.getfield 219, 3) := by decide +kernel
theorem dX9_its_79 : decode cX9_its 79 = .ok (.getfield 242, 3) := by decide +kernel
theorem dX9_its_82 : decode cX9_its 82 = .ok (.invokestatic 195, 3) := by decide +kernel
theorem dX9_its_85 : decode cX9_its 85 = .ok (.ireturn, 1) := by decide +kernel
theorem dX9_its_86 : decode cX9_its 86 = .ok (.aload_n 0, 1) := by decide +kernel
theorem dX9_its_87 : decode cX9_its 87 = .ok (.getfield 28, 3) := by decide +kernel
theorem dX9_its_90 : decode cX9_its 90 = .ok (.aload_n 3, 1) := by decide +kernel
theorem dX9_its_91 : decode cX9_its 91 = .ok (.getfield 219, 3) := by decide +kernel
theorem dX9_its_94 : decode cX9_its 94 = .ok (.getfield 242, 3) := by decide +kernel
theorem dX9_its_97 : decode cX9_its 97 = .ok (.invokevirtual 245, 3) := by decide +kernel
theorem dX9_its_100 : decode cX9_its 100 = .ok (.ireturn, 1) := by decide +kernel
theorem dX9_its_101 : decode cX9_its 101 = .ok (.aload_n 3, 1) := by decide +kernel
theorem dX9_its_102 : decode cX9_its 102 = .ok (.invokevirtual 248, 3) := by decide +kernel
theorem dX9_its_105 : decode cX9_its 105 = .ok (.ifCond .eq 7, 3) := by decide +kernel
theorem dX9_its_108 : decode cX9_its 108 = .ok (.iconst 1, 1) := by decide +kernel
theorem dX9_its_109 : decode cX9_its 109 = .ok (.goto 4, 3) := by decide +kernel
theorem dX9_its_112 : decode cX9_its 112 = .ok (.iconst 0, 1) := by decide +kernel
theorem dX9_its_113 : decode cX9_its 113 = .ok (.ireturn, 1) := by decide +kernel
theorem dX9_its_114 : decode cX9_its 114 = .ok (.aload_n 3, 1) := by decide +kernel
theorem dX9_its_115 : decode cX9_its 115 = .ok (.getfield 252, 3) := by decide +kernel
theorem dX9_its_118 : decode cX9_its 118 = .ok (.ireturn, 1) := by decide +kernel
theorem dX9_its_119 : decode cX9_its 119 = .ok (.aload_n 3, 1) := by decide +kernel
theorem dX9_its_120 : decode cX9_its 120 = .ok (.getfield 255, 3) := by decide +kernel
theorem dX9_its_123 : decode cX9_its 123 = .ok (.ireturn, 1) := by decide +kernel
theorem dX9_its_124 : decode cX9_its 124 = .ok (.iconst (-1), 1) := by decide +kernel
theorem dX9_its_125 : decode cX9_its 125 = .ok (.ireturn, 1) := by decide +kernel
theorem dX9_treatyAt_0 : decode cX9_treatyAt 0 = .ok (.iload_n 1, 1) := by decide +kernel
theorem dX9_treatyAt_1 : decode cX9_treatyAt 1 = .ok (.ifCond .lt 29, 3) := by decide +kernel
theorem dX9_treatyAt_4 : decode cX9_treatyAt 4 = .ok (.iload_n 1, 1) := by decide +kernel
theorem dX9_treatyAt_5 : decode cX9_treatyAt 5 = .ok (.aload_n 0, 1) := by decide +kernel
theorem dX9_treatyAt_6 : decode cX9_treatyAt 6 = .ok (.getfield 116, 3) := by decide +kernel
theorem dX9_treatyAt_9 : decode cX9_treatyAt 9 = .ok (.if_icmp .ge 21, 3) := by decide +kernel
theorem dX9_treatyAt_12 : decode cX9_treatyAt 12 = .ok (.iload_n 1, 1) := by decide +kernel
theorem dX9_treatyAt_13 : decode cX9_treatyAt 13 = .ok (.aload_n 0, 1) := by decide +kernel
theorem dX9_treatyAt_14 : decode cX9_treatyAt 14 = .ok (.getfield 34, 3) := by decide +kernel
theorem dX9_treatyAt_17 : decode cX9_treatyAt 17 = .ok (.arraylength, 1) := by decide +kernel
theorem dX9_treatyAt_18 : decode cX9_treatyAt 18 = .ok (.if_icmp .ge 12, 3) := by decide +kernel
theorem dX9_treatyAt_21 : decode cX9_treatyAt 21 = .ok (.aload_n 0, 1) := by decide +kernel
theorem dX9_treatyAt_22 : decode cX9_treatyAt 22 = .ok (.getfield 34, 3) := by decide +kernel
theorem dX9_treatyAt_25 : decode cX9_treatyAt 25 = .ok (.iload_n 1, 1) := by decide +kernel
theorem dX9_treatyAt_26 : decode cX9_treatyAt 26 = .ok (.aaload, 1) := by decide +kernel
theorem dX9_treatyAt_27 : decode cX9_treatyAt 27 = .ok (.goto 4, 3) := by decide +kernel
theorem dX9_treatyAt_30 : decode cX9_treatyAt 30 = .ok (.aconst_null, 1) := by decide +kernel
theorem dX9_treatyAt_31 : decode cX9_treatyAt 31 = .ok (.areturn, 1) := by decide +kernel
theorem dX9_openTreaty_0 : decode cX9_openTreaty 0 = .ok (.aload_n 0, 1) := by decide +kernel
theorem dX9_openTreaty_1 : decode cX9_openTreaty 1 = .ok (.getfield 116, 3) := by decide +kernel
theorem dX9_openTreaty_4 : decode cX9_openTreaty 4 = .ok (.istore 4, 2) := by decide +kernel
theorem dX9_openTreaty_6 : decode cX9_openTreaty 6 = .ok (.iload 4, 2) := by decide +kernel
theorem dX9_openTreaty_8 : decode cX9_openTreaty 8 = .ok (.ifCond .lt 13, 3) := by decide +kernel
theorem dX9_openTreaty_11 : decode cX9_openTreaty 11 = .ok (.iload 4, 2) := by decide +kernel
theorem dX9_openTreaty_13 : decode cX9_openTreaty 13 = .ok (.aload_n 0, 1) := by decide +kernel
theorem dX9_openTreaty_14 : decode cX9_openTreaty 14 = .ok (.getfield 34, 3) := by decide +kernel
theorem dX9_openTreaty_17 : decode cX9_openTreaty 17 = .ok (.arraylength, 1) := by decide +kernel
theorem dX9_openTreaty_18 : decode cX9_openTreaty 18 = .ok (.if_icmp .lt 6, 3) := by decide +kernel
theorem dX9_openTreaty_21 : decode cX9_openTreaty 21 = .ok (.bipush (-2), 2) := by decide +kernel
theorem dX9_openTreaty_23 : decode cX9_openTreaty 23 = .ok (.ireturn, 1) := by decide +kernel
theorem dX9_openTreaty_24 : decode cX9_openTreaty 24 = .ok (.aload_n 0, 1) := by decide +kernel
theorem dX9_openTreaty_25 : decode cX9_openTreaty 25 = .ok (.getfield 34, 3) := by decide +kernel
theorem dX9_openTreaty_28 : decode cX9_openTreaty 28 = .ok (.iload 4, 2) := by decide +kernel
theorem dX9_openTreaty_30 : decode cX9_openTreaty 30 = .ok (.aaload, 1) := by decide +kernel
theorem dX9_openTreaty_31 : decode cX9_openTreaty 31 = .ok (.astore 5, 2) := by decide +kernel
theorem dX9_openTreaty_33 : decode cX9_openTreaty 33 = .ok (.aload 5, 2) := by decide +kernel
theorem dX9_openTreaty_35 : decode cX9_openTreaty 35 = .ok (.ifnonnull 6, 3) := by decide +kernel
theorem dX9_openTreaty_38 : decode cX9_openTreaty 38 = .ok (.bipush (-2), 2) := by decide +kernel
theorem dX9_openTreaty_40 : decode cX9_openTreaty 40 = .ok (.ireturn, 1) := by decide +kernel
theorem dX9_openTreaty_41 : decode cX9_openTreaty 41 = .ok (.aload_n 0, 1) := by decide +kernel
theorem dX9_openTreaty_42 : decode cX9_openTreaty 42 = .ok (.dup, 1) := by decide +kernel
theorem dX9_openTreaty_43 : decode cX9_openTreaty 43 = .ok (.getfield 116, 3) := by decide +kernel
theorem dX9_openTreaty_46 : decode cX9_openTreaty 46 = .ok (.iconst 1, 1) := by decide +kernel
theorem dX9_openTreaty_47 : decode cX9_openTreaty 47 = .ok (.iadd, 1) := by decide +kernel
theorem dX9_openTreaty_48 : decode cX9_openTreaty 48 = .ok (.putfield 116, 3) := by decide +kernel
theorem dX9_openTreaty_51 : decode cX9_openTreaty 51 = .ok (.aload 5, 2) := by decide +kernel
theorem dX9_openTreaty_53 : decode cX9_openTreaty 53 = .ok (.iload_n 1, 1) := by decide +kernel
theorem dX9_openTreaty_54 : decode cX9_openTreaty 54 = .ok (.iload_n 2, 1) := by decide +kernel
theorem dX9_openTreaty_55 : decode cX9_openTreaty 55 = .ok (.iload_n 3, 1) := by decide +kernel
theorem dX9_openTreaty_56 : decode cX9_openTreaty 56 = .ok (.invokevirtual 258, 3) := by decide +kernel
theorem dX9_openTreaty_59 : decode cX9_openTreaty 59 = .ok (.aload 5, 2) := by decide +kernel
theorem dX9_openTreaty_61 : decode cX9_openTreaty 61 = .ok (.getfield 219, 3) := by decide +kernel
theorem dX9_openTreaty_64 : decode cX9_openTreaty 64 = .ok (.iload_n 2, 1) := by decide +kernel
theorem dX9_openTreaty_65 : decode cX9_openTreaty 65 = .ok (.aload_n 0, 1) := by decide +kernel
theorem dX9_openTreaty_66 : decode cX9_openTreaty 66 = .ok (.getfield 28, 3) := by decide +kernel
theorem dX9_openTreaty_69 : decode cX9_openTreaty 69 = .ok (.iload_n 1, 1) := by decide +kernel
theorem dX9_openTreaty_70 : decode cX9_openTreaty 70 = .ok (.invokevirtual 261, 3) := by decide +kernel
theorem dX9_openTreaty_73 : decode cX9_openTreaty 73 = .ok (.invokevirtual 264, 3) := by decide +kernel
theorem dX9_openTreaty_76 : decode cX9_openTreaty 76 = .ok (.aload 5, 2) := by decide +kernel
theorem dX9_openTreaty_78 : decode cX9_openTreaty 78 = .ok (.invokevirtual 213, 3) := by decide +kernel
theorem dX9_openTreaty_81 : decode cX9_openTreaty 81 = .ok (.aload_n 0, 1) := by decide +kernel
theorem dX9_openTreaty_82 : decode cX9_openTreaty 82 = .ok (.iload 4, 2) := by decide +kernel
theorem dX9_openTreaty_84 : decode cX9_openTreaty 84 = .ok (.invokevirtual 216, 3) := by decide +kernel
theorem dX9_openTreaty_87 : decode cX9_openTreaty 87 = .ok (.iload 4, 2) := by decide +kernel
theorem dX9_openTreaty_89 : decode cX9_openTreaty 89 = .ok (.ireturn, 1) := by decide +kernel
theorem dX9_lookAt_0 : decode cX9_lookAt 0 = .ok (.aload_n 0, 1) := by decide +kernel
theorem dX9_lookAt_1 : decode cX9_lookAt 1 = .ok (.iload_n 1, 1) := by decide +kernel
theorem dX9_lookAt_2 : decode cX9_lookAt 2 = .ok (.invokevirtual 206, 3) := by decide +kernel
theorem dX9_lookAt_5 : decode cX9_lookAt 5 = .ok (.astore_n 2, 1) := by decide +kernel
theorem dX9_lookAt_6 : decode cX9_lookAt 6 = .ok (.aload_n 2, 1) := by decide +kernel
theorem dX9_lookAt_7 : decode cX9_lookAt 7 = .ok (.ifnonnull 4, 3) := by decide +kernel
theorem dX9_lookAt_10 : decode cX9_lookAt 10 = .ok (.return_, 1) := by decide +kernel
theorem dX9_lookAt_11 : decode cX9_lookAt 11 = .ok (.aload_n 2, 1) := by decide +kernel
theorem dX9_lookAt_12 : decode cX9_lookAt 12 = .ok (.invokevirtual 248, 3) := by decide +kernel
theorem dX9_lookAt_15 : decode cX9_lookAt 15 = .ok (.ifCond .ne 12, 3) := by decide +kernel
theorem dX9_lookAt_18 : decode cX9_lookAt 18 = .ok (.aload_n 2, 1) := by decide +kernel
theorem dX9_lookAt_19 : decode cX9_lookAt 19 = .ok (.bipush (-2), 2) := by decide +kernel
theorem dX9_lookAt_21 : decode cX9_lookAt 21 = .ok (.putfield 252, 3) := by decide +kernel
theorem dX9_lookAt_24 : decode cX9_lookAt 24 = .ok (.goto 52, 3) := by decide +kernel
theorem dX9_lookAt_27 : decode cX9_lookAt 27 = .ok (.aload_n 2, 1) := by decide +kernel
theorem dX9_lookAt_28 : decode cX9_lookAt 28 = .ok (.getfield 252, 3) := by decide +kernel
theorem dX9_lookAt_31 : decode cX9_lookAt 31 = .ok (.bipush (-2), 2) := by decide +kernel
theorem dX9_lookAt_33 : decode cX9_lookAt 33 = .ok (.if_icmp .ne 43, 3) := by decide +kernel
theorem dX9_lookAt_36 : decode cX9_lookAt 36 = .ok (.aload_n 2, 1) := by decide +kernel
theorem dX9_lookAt_37 : decode cX9_lookAt 37 = .ok (.aload_n 0, 1) := by decide +kernel
theorem dX9_lookAt_38 : decode cX9_lookAt 38 = .ok (.getfield 47, 3) := by decide +kernel
theorem dX9_lookAt_41 : decode cX9_lookAt 41 = .ok (.getfield 109, 3) := by decide +kernel
theorem dX9_lookAt_44 : decode cX9_lookAt 44 = .ok (.putfield 252, 3) := by decide +kernel
theorem dX9_lookAt_47 : decode cX9_lookAt 47 = .ok (.aload_n 2, 1) := by decide +kernel
theorem dX9_lookAt_48 : decode cX9_lookAt 48 = .ok (.dup, 1) := by decide +kernel
theorem dX9_lookAt_49 : decode cX9_lookAt 49 = .ok (.getfield 255, 3) := by decide +kernel
theorem dX9_lookAt_52 : decode cX9_lookAt 52 = .ok (.iconst 1, 1) := by decide +kernel
theorem dX9_lookAt_53 : decode cX9_lookAt 53 = .ok (.iadd, 1) := by decide +kernel
theorem dX9_lookAt_54 : decode cX9_lookAt 54 = .ok (.putfield 255, 3) := by decide +kernel
theorem dX9_lookAt_57 : decode cX9_lookAt 57 = .ok (.aload_n 0, 1) := by decide +kernel
theorem dX9_lookAt_58 : decode cX9_lookAt 58 = .ok (.getfield 51, 3) := by decide +kernel
theorem dX9_lookAt_61 : decode cX9_lookAt 61 = .ok (.iload_n 1, 1) := by decide +kernel
theorem dX9_lookAt_62 : decode cX9_lookAt 62 = .ok (.aload_n 0, 1) := by decide +kernel
theorem dX9_lookAt_63 : decode cX9_lookAt 63 = .ok (.getfield 47, 3) := by decide +kernel
theorem dX9_lookAt_66 : decode cX9_lookAt 66 = .ok (.getfield 109, 3) := by decide +kernel
theorem dX9_lookAt_69 : decode cX9_lookAt 69 = .ok (.aload_n 2, 1) := by decide +kernel
theorem dX9_lookAt_70 : decode cX9_lookAt 70 = .ok (.getfield 267, 3) := by decide +kernel
theorem dX9_lookAt_73 : decode cX9_lookAt 73 = .ok (.invokevirtual 203, 3) := by decide +kernel
theorem dX9_lookAt_76 : decode cX9_lookAt 76 = .ok (.return_, 1) := by decide +kernel
theorem dX9_worst_0 : decode cX9_worst 0 = .ok (.aload_n 0, 1) := by decide +kernel
theorem dX9_worst_1 : decode cX9_worst 1 = .ok (.iload_n 1, 1) := by decide +kernel
theorem dX9_worst_2 : decode cX9_worst 2 = .ok (.invokevirtual 206, 3) := by decide +kernel
theorem dX9_worst_5 : decode cX9_worst 5 = .ok (.astore_n 3, 1) := by decide +kernel
theorem dX9_worst_6 : decode cX9_worst 6 = .ok (.aload_n 3, 1) := by decide +kernel
theorem dX9_worst_7 : decode cX9_worst 7 = .ok (.ifnonnull 6, 3) := by decide +kernel
theorem dX9_worst_10 : decode cX9_worst 10 = .ok (.ldc 43, 2) := by decide +kernel
theorem dX9_worst_12 : decode cX9_worst 12 = .ok (.ireturn, 1) := by decide +kernel
theorem dX9_worst_13 : decode cX9_worst 13 = .ok (.iload_n 2, 1) := by decide +kernel
theorem dX9_worst_14 : decode cX9_worst 14 = .ok (.tableswitch 49 0 2 #[26, 31, 39], 26) := by decide +kernel
theorem dX9_worst_40 : decode cX9_worst 40 = .ok (.aload_n 3, 1) := by decide +kernel
theorem dX9_worst_41 : decode cX9_worst 41 = .ok (.getfield 267, 3) := by decide +kernel
theorem dX9_worst_44 : decode cX9_worst 44 = .ok (.ireturn, 1) := by decide +kernel
theorem dX9_worst_45 : decode cX9_worst 45 = .ok (.aload_n 3, 1) := by decide +kernel
theorem dX9_worst_46 : decode cX9_worst 46 = .ok (.getfield 270, 3) := by decide +kernel
theorem dX9_worst_49 : decode cX9_worst 49 = .ok (.invokestatic 195, 3) := by decide +kernel
theorem dX9_worst_52 : decode cX9_worst 52 = .ok (.ireturn, 1) := by decide +kernel
theorem dX9_worst_53 : decode cX9_worst 53 = .ok (.aload_n 3, 1) := by decide +kernel
theorem dX9_worst_54 : decode cX9_worst 54 = .ok (.getfield 233, 3) := by decide +kernel
theorem dX9_worst_57 : decode cX9_worst 57 = .ok (.aload_n 3, 1) := by decide +kernel
theorem dX9_worst_58 : decode cX9_worst 58 = .ok (.getfield 267, 3) := by decide +kernel
theorem dX9_worst_61 : decode cX9_worst 61 = .ok (.isub, 1) := by decide +kernel
theorem dX9_worst_62 : decode cX9_worst 62 = .ok (.ireturn, 1) := by decide +kernel
theorem dX9_worst_63 : decode cX9_worst 63 = .ok (.ldc 43, 2) := by decide +kernel
theorem dX9_worst_65 : decode cX9_worst 65 = .ok (.ireturn, 1) := by decide +kernel
theorem dX9_inWorst_0 : decode cX9_inWorst 0 = .ok (.aload_n 0, 1) := by decide +kernel
theorem dX9_inWorst_1 : decode cX9_inWorst 1 = .ok (.iload_n 1, 1) := by decide +kernel
theorem dX9_inWorst_2 : decode cX9_inWorst 2 = .ok (.invokevirtual 206, 3) := by decide +kernel
theorem dX9_inWorst_5 : decode cX9_inWorst 5 = .ok (.astore_n 3, 1) := by decide +kernel
theorem dX9_inWorst_6 : decode cX9_inWorst 6 = .ok (.aload_n 3, 1) := by decide +kernel
theorem dX9_inWorst_7 : decode cX9_inWorst 7 = .ok (.ifnull 7, 3) := by decide +kernel
theorem dX9_inWorst_10 : decode cX9_inWorst 10 = .ok (.iload_n 2, 1) := by decide +kernel
theorem dX9_inWorst_11 : decode cX9_inWorst 11 = .ok (.ifCond .ge 5, 3) := by decide +kernel
theorem dX9_inWorst_14 : decode cX9_inWorst 14 = .ok (.iconst (-1), 1) := by decide +kernel
theorem dX9_inWorst_15 : decode cX9_inWorst 15 = .ok (.ireturn, 1) := by decide +kernel
theorem dX9_inWorst_16 : decode cX9_inWorst 16 = .ok (.iconst 0, 1) := by decide +kernel
theorem dX9_inWorst_17 : decode cX9_inWorst 17 = .ok (.istore 4, 2) := by decide +kernel
theorem dX9_inWorst_19 : decode cX9_inWorst 19 = .ok (.iconst 0, 1) := by decide +kernel
theorem dX9_inWorst_20 : decode cX9_inWorst 20 = .ok (.istore 5, 2) := by decide +kernel
theorem dX9_inWorst_22 : decode cX9_inWorst 22 = .ok (.iload 5, 2) := by decide +kernel
theorem dX9_inWorst_24 : decode cX9_inWorst 24 = .ok (.bipush 24, 2) := by decide +kernel
theorem dX9_inWorst_26 : decode cX9_inWorst 26 = .ok (.if_icmp .ge 33, 3) := by decide +kernel
theorem dX9_inWorst_29 : decode cX9_inWorst 29 = .ok (.aload_n 3, 1) := by decide +kernel
theorem dX9_inWorst_30 : decode cX9_inWorst 30 = .ok (.getfield 270, 3) := by decide +kernel
theorem dX9_inWorst_33 : decode cX9_inWorst 33 = .ok (.iload 5, 2) := by decide +kernel
theorem dX9_inWorst_35 : decode cX9_inWorst 35 = .ok (.invokestatic 273, 3) := by decide +kernel
theorem dX9_inWorst_38 : decode cX9_inWorst 38 = .ok (.ifCond .eq 15, 3) := by decide +kernel
theorem dX9_inWorst_41 : decode cX9_inWorst 41 = .ok (.iload 4, 2) := by decide +kernel
theorem dX9_inWorst_43 : decode cX9_inWorst 43 = .ok (.iload_n 2, 1) := by decide +kernel
theorem dX9_inWorst_44 : decode cX9_inWorst 44 = .ok (.if_icmp .ne 6, 3) := by decide +kernel
theorem dX9_inWorst_47 : decode cX9_inWorst 47 = .ok (.iload 5, 2) := by decide +kernel
theorem dX9_inWorst_49 : decode cX9_inWorst 49 = .ok (.ireturn, 1) := by decide +kernel
theorem dX9_inWorst_50 : decode cX9_inWorst 50 = .ok (.iinc 4 1, 3) := by decide +kernel
theorem dX9_inWorst_53 : decode cX9_inWorst 53 = .ok (.iinc 5 1, 3) := by decide +kernel
theorem dX9_inWorst_56 : decode cX9_inWorst 56 = .ok (.goto (-34), 3) := by decide +kernel
theorem dX9_inWorst_59 : decode cX9_inWorst 59 = .ok (.bipush (-2), 2) := by decide +kernel
theorem dX9_inWorst_61 : decode cX9_inWorst 61 = .ok (.ireturn, 1) := by decide +kernel
theorem dX9_bound_0 : decode cX9_bound 0 = .ok (.aload_n 0, 1) := by decide +kernel
theorem dX9_bound_1 : decode cX9_bound 1 = .ok (.iload_n 1, 1) := by decide +kernel
theorem dX9_bound_2 : decode cX9_bound 2 = .ok (.invokevirtual 206, 3) := by decide +kernel
theorem dX9_bound_5 : decode cX9_bound 5 = .ok (.astore_n 3, 1) := by decide +kernel
theorem dX9_bound_6 : decode cX9_bound 6 = .ok (.aload_n 3, 1) := by decide +kernel
theorem dX9_bound_7 : decode cX9_bound 7 = .ok (.ifnull 12, 3) := by decide +kernel
theorem dX9_bound_10 : decode cX9_bound 10 = .ok (.iload_n 2, 1) := by decide +kernel
theorem dX9_bound_11 : decode cX9_bound 11 = .ok (.ifCond .lt 8, 3) := by decide +kernel
theorem dX9_bound_14 : decode cX9_bound 14 = .ok (.iload_n 2, 1) := by decide +kernel
theorem dX9_bound_15 : decode cX9_bound 15 = .ok (.iconst 2, 1) := by decide +kernel
theorem dX9_bound_16 : decode cX9_bound 16 = .ok (.if_icmp .le 5, 3) := by decide +kernel
theorem dX9_bound_19 : decode cX9_bound 19 = .ok (.iconst (-1), 1) := by decide +kernel
theorem dX9_bound_20 : decode cX9_bound 20 = .ok (.ireturn, 1) := by decide +kernel
theorem dX9_bound_21 : decode cX9_bound 21 = .ok (.aload_n 3, 1) := by decide +kernel
theorem dX9_bound_22 : decode cX9_bound 22 = .ok (.getfield 270, 3) := by decide +kernel
theorem dX9_bound_25 : decode cX9_bound 25 = .ok (.ifCond .ne 6, 3) := by decide +kernel
theorem dX9_bound_28 : decode cX9_bound 28 = .ok (.bipush (-2), 2) := by decide +kernel
theorem dX9_bound_30 : decode cX9_bound 30 = .ok (.ireturn, 1) := by decide +kernel
theorem dX9_bound_31 : decode cX9_bound 31 = .ok (.aload_n 3, 1) := by decide +kernel
theorem dX9_bound_32 : decode cX9_bound 32 = .ok (.getfield 219, 3) := by decide +kernel
theorem dX9_bound_35 : decode cX9_bound 35 = .ok (.aload_n 3, 1) := by decide +kernel
theorem dX9_bound_36 : decode cX9_bound 36 = .ok (.getfield 270, 3) := by decide +kernel
theorem dX9_bound_39 : decode cX9_bound 39 = .ok (.invokevirtual 276, 3) := by decide +kernel
theorem dX9_bound_42 : decode cX9_bound 42 = .ok (.istore 4, 2) := by decide +kernel
theorem dX9_bound_44 : decode cX9_bound 44 = .ok (.iload 4, 2) := by decide +kernel
theorem dX9_bound_46 : decode cX9_bound 46 = .ok (.bipush 24, 2) := by decide +kernel
theorem dX9_bound_48 : decode cX9_bound 48 = .ok (.idiv, 1) := by decide +kernel
theorem dX9_bound_49 : decode cX9_bound 49 = .ok (.istore 5, 2) := by decide +kernel
theorem dX9_bound_51 : decode cX9_bound 51 = .ok (.iload 4, 2) := by decide +kernel
theorem dX9_bound_53 : decode cX9_bound 53 = .ok (.bipush 24, 2) := by decide +kernel
theorem dX9_bound_55 : decode cX9_bound 55 = .ok (.irem, 1) := by decide +kernel
theorem dX9_bound_56 : decode cX9_bound 56 = .ok (.istore 6, 2) := by decide +kernel
theorem dX9_bound_58 : decode cX9_bound 58 = .ok (.iload_n 2, 1) := by decide +kernel
theorem dX9_bound_59 : decode cX9_bound 59 = .ok (.ifCond .ne 11, 3) := by decide +kernel
theorem dX9_bound_62 : decode cX9_bound 62 = .ok (.iload 5, 2) := by decide +kernel
theorem dX9_bound_64 : decode cX9_bound 64 = .ok (.iload 6, 2) := by decide +kernel
theorem dX9_bound_66 : decode cX9_bound 66 = .ok (.invokestatic 279, 3) := by decide +kernel
theorem dX9_bound_69 : decode cX9_bound 69 = .ok (.ireturn, 1) := by decide +kernel
theorem dX9_bound_70 : decode cX9_bound 70 = .ok (.iload_n 2, 1) := by decide +kernel
theorem dX9_bound_71 : decode cX9_bound 71 = .ok (.iconst 1, 1) := by decide +kernel
theorem dX9_bound_72 : decode cX9_bound 72 = .ok (.if_icmp .ne 23, 3) := by decide +kernel
theorem dX9_bound_75 : decode cX9_bound 75 = .ok (.iload 5, 2) := by decide +kernel
theorem dX9_bound_77 : decode cX9_bound 77 = .ok (.iload 6, 2) := by decide +kernel
theorem dX9_bound_79 : decode cX9_bound 79 = .ok (.if_icmp .ne 8, 3) := by decide +kernel
theorem dX9_bound_82 : decode cX9_bound 82 = .ok (.bipush (-2), 2) := by decide +kernel
theorem dX9_bound_84 : decode cX9_bound 84 = .ok (.goto 10, 3) := by decide +kernel
theorem dX9_bound_87 : decode cX9_bound 87 = .ok (.iload 5, 2) := by decide +kernel
theorem dX9_bound_89 : decode cX9_bound 89 = .ok (.iload 6, 2) := by decide +kernel
theorem dX9_bound_91 : decode cX9_bound 91 = .ok (.invokestatic 284, 3) := by decide +kernel
theorem dX9_bound_94 : decode cX9_bound 94 = .ok (.ireturn, 1) := by decide +kernel
theorem dX9_bound_95 : decode cX9_bound 95 = .ok (.iload 5, 2) := by decide +kernel
theorem dX9_bound_97 : decode cX9_bound 97 = .ok (.iload 6, 2) := by decide +kernel
theorem dX9_bound_99 : decode cX9_bound 99 = .ok (.if_icmp .le 7, 3) := by decide +kernel
theorem dX9_bound_102 : decode cX9_bound 102 = .ok (.iconst 1, 1) := by decide +kernel
theorem dX9_bound_103 : decode cX9_bound 103 = .ok (.goto 4, 3) := by decide +kernel
theorem dX9_bound_106 : decode cX9_bound 106 = .ok (.iconst 0, 1) := by decide +kernel
theorem dX9_bound_107 : decode cX9_bound 107 = .ok (.ireturn, 1) := by decide +kernel
theorem dX9_spread_0 : decode cX9_spread 0 = .ok (.aload_n 0, 1) := by decide +kernel
theorem dX9_spread_1 : decode cX9_spread 1 = .ok (.iload_n 1, 1) := by decide +kernel
theorem dX9_spread_2 : decode cX9_spread 2 = .ok (.invokevirtual 206, 3) := by decide +kernel
theorem dX9_spread_5 : decode cX9_spread 5 = .ok (.astore_n 2, 1) := by decide +kernel
theorem dX9_spread_6 : decode cX9_spread 6 = .ok (.aload_n 2, 1) := by decide +kernel
theorem dX9_spread_7 : decode cX9_spread 7 = .ok (.ifnonnull 5, 3) := by decide +kernel
theorem dX9_spread_10 : decode cX9_spread 10 = .ok (.iconst (-1), 1) := by decide +kernel
theorem dX9_spread_11 : decode cX9_spread 11 = .ok (.ireturn, 1) := by decide +kernel
theorem dX9_spread_12 : decode cX9_spread 12 = .ok (.aload_n 2, 1) := by decide +kernel
theorem dX9_spread_13 : decode cX9_spread 13 = .ok (.getfield 270, 3) := by decide +kernel
theorem dX9_spread_16 : decode cX9_spread 16 = .ok (.ifCond .ne 6, 3) := by decide +kernel
theorem dX9_spread_19 : decode cX9_spread 19 = .ok (.bipush (-2), 2) := by decide +kernel
theorem dX9_spread_21 : decode cX9_spread 21 = .ok (.ireturn, 1) := by decide +kernel
theorem dX9_spread_22 : decode cX9_spread 22 = .ok (.iconst 0, 1) := by decide +kernel
theorem dX9_spread_23 : decode cX9_spread 23 = .ok (.istore_n 3, 1) := by decide +kernel
theorem dX9_spread_24 : decode cX9_spread 24 = .ok (.iconst 0, 1) := by decide +kernel
theorem dX9_spread_25 : decode cX9_spread 25 = .ok (.istore 4, 2) := by decide +kernel
theorem dX9_spread_27 : decode cX9_spread 27 = .ok (.iload 4, 2) := by decide +kernel
theorem dX9_spread_29 : decode cX9_spread 29 = .ok (.bipush 24, 2) := by decide +kernel
theorem dX9_spread_31 : decode cX9_spread 31 = .ok (.if_icmp .ge 68, 3) := by decide +kernel
theorem dX9_spread_34 : decode cX9_spread 34 = .ok (.iload 4, 2) := by decide +kernel
theorem dX9_spread_36 : decode cX9_spread 36 = .ok (.iconst 1, 1) := by decide +kernel
theorem dX9_spread_37 : decode cX9_spread 37 = .ok (.iadd, 1) := by decide +kernel
theorem dX9_spread_38 : decode cX9_spread 38 = .ok (.istore 5, 2) := by decide +kernel
theorem dX9_spread_40 : decode cX9_spread 40 = .ok (.iload 5, 2) := by decide +kernel
theorem dX9_spread_42 : decode cX9_spread 42 = .ok (.bipush 24, 2) := by decide +kernel
theorem dX9_spread_44 : decode cX9_spread 44 = .ok (.if_icmp .ge 49, 3) := by decide +kernel
theorem dX9_spread_47 : decode cX9_spread 47 = .ok (.aload_n 2, 1) := by decide +kernel
theorem dX9_spread_48 : decode cX9_spread 48 = .ok (.getfield 270, 3) := by decide +kernel
theorem dX9_spread_51 : decode cX9_spread 51 = .ok (.iload 4, 2) := by decide +kernel
theorem dX9_spread_53 : decode cX9_spread 53 = .ok (.invokestatic 273, 3) := by decide +kernel
theorem dX9_spread_56 : decode cX9_spread 56 = .ok (.ifCond .eq 31, 3) := by decide +kernel
theorem dX9_spread_59 : decode cX9_spread 59 = .ok (.aload_n 2, 1) := by decide +kernel
theorem dX9_spread_60 : decode cX9_spread 60 = .ok (.getfield 270, 3) := by decide +kernel
theorem dX9_spread_63 : decode cX9_spread 63 = .ok (.iload 5, 2) := by decide +kernel
theorem dX9_spread_65 : decode cX9_spread 65 = .ok (.invokestatic 273, 3) := by decide +kernel
theorem dX9_spread_68 : decode cX9_spread 68 = .ok (.ifCond .eq 19, 3) := by decide +kernel
theorem dX9_spread_71 : decode cX9_spread 71 = .ok (.iload_n 3, 1) := by decide +kernel
theorem dX9_spread_72 : decode cX9_spread 72 = .ok (.aload_n 0, 1) := by decide +kernel
theorem dX9_spread_73 : decode cX9_spread 73 = .ok (.getfield 28, 3) := by decide +kernel
theorem dX9_spread_76 : decode cX9_spread 76 = .ok (.iload 4, 2) := by decide +kernel
theorem dX9_spread_78 : decode cX9_spread 78 = .ok (.iload 5, 2) := by decide +kernel
theorem dX9_spread_80 : decode cX9_spread 80 = .ok (.invokevirtual 287, 3) := by decide +kernel
theorem dX9_spread_83 : decode cX9_spread 83 = .ok (.invokestatic 284, 3) := by decide +kernel
theorem dX9_spread_86 : decode cX9_spread 86 = .ok (.istore_n 3, 1) := by decide +kernel
theorem dX9_spread_87 : decode cX9_spread 87 = .ok (.iinc 5 1, 3) := by decide +kernel
theorem dX9_spread_90 : decode cX9_spread 90 = .ok (.goto (-50), 3) := by decide +kernel
theorem dX9_spread_93 : decode cX9_spread 93 = .ok (.iinc 4 1, 3) := by decide +kernel
theorem dX9_spread_96 : decode cX9_spread 96 = .ok (.goto (-69), 3) := by decide +kernel
theorem dX9_spread_99 : decode cX9_spread 99 = .ok (.iload_n 3, 1) := by decide +kernel
theorem dX9_spread_100 : decode cX9_spread 100 = .ok (.ireturn, 1) := by decide +kernel
theorem dX9_ring_0 : decode cX9_ring 0 = .ok (.aload_n 0, 1) := by decide +kernel
theorem dX9_ring_1 : decode cX9_ring 1 = .ok (.iload_n 1, 1) := by decide +kernel
theorem dX9_ring_2 : decode cX9_ring 2 = .ok (.invokevirtual 206, 3) := by decide +kernel
theorem dX9_ring_5 : decode cX9_ring 5 = .ok (.astore_n 3, 1) := by decide +kernel
theorem dX9_ring_6 : decode cX9_ring 6 = .ok (.aload_n 3, 1) := by decide +kernel
theorem dX9_ring_7 : decode cX9_ring 7 = .ok (.ifnull 12, 3) := by decide +kernel
theorem dX9_ring_10 : decode cX9_ring 10 = .ok (.iload_n 2, 1) := by decide +kernel
theorem dX9_ring_11 : decode cX9_ring 11 = .ok (.ifCond .lt 8, 3) := by decide +kernel
theorem dX9_ring_14 : decode cX9_ring 14 = .ok (.iload_n 2, 1) := by decide +kernel
theorem dX9_ring_15 : decode cX9_ring 15 = .ok (.iconst 4, 1) := by decide +kernel
theorem dX9_ring_16 : decode cX9_ring 16 = .ok (.if_icmp .le 7, 3) := by decide +kernel
theorem dX9_ring_19 : decode cX9_ring 19 = .ok (.ldc2_w 290, 3) := by decide +kernel
theorem dX9_ring_22 : decode cX9_ring 22 = .ok (.lreturn, 1) := by decide +kernel
theorem dX9_ring_23 : decode cX9_ring 23 = .ok (.aload_n 3, 1) := by decide +kernel
theorem dX9_ring_24 : decode cX9_ring 24 = .ok (.getfield 270, 3) := by decide +kernel
theorem dX9_ring_27 : decode cX9_ring 27 = .ok (.ifCond .ne 7, 3) := by decide +kernel
theorem dX9_ring_30 : decode cX9_ring 30 = .ok (.ldc2_w 292, 3) := by decide +kernel
theorem dX9_ring_33 : decode cX9_ring 33 = .ok (.lreturn, 1) := by decide +kernel
theorem dX9_ring_34 : decode cX9_ring 34 = .ok (.aload_n 0, 1) := by decide +kernel
theorem dX9_ring_35 : decode cX9_ring 35 = .ok (.getfield 78, 3) := by decide +kernel
theorem dX9_ring_38 : decode cX9_ring 38 = .ok (.aload_n 3, 1) := by decide +kernel
theorem dX9_ring_39 : decode cX9_ring 39 = .ok (.getfield 270, 3) := by decide +kernel
theorem dX9_ring_42 : decode cX9_ring 42 = .ok (.invokevirtual 294, 3) := by decide +kernel
theorem dX9_ring_45 : decode cX9_ring 45 = .ok (.iload_n 2, 1) := by decide +kernel
theorem dX9_ring_46 : decode cX9_ring 46 = .ok (.tableswitch 64 0 3 #[30, 38, 46, 55], 30) := by decide +kernel
theorem dX9_ring_76 : decode cX9_ring 76 = .ok (.aload_n 0, 1) := by decide +kernel
theorem dX9_ring_77 : decode cX9_ring 77 = .ok (.getfield 78, 3) := by decide +kernel
theorem dX9_ring_80 : decode cX9_ring 80 = .ok (.getfield 297, 3) := by decide +kernel
theorem dX9_ring_83 : decode cX9_ring 83 = .ok (.lreturn, 1) := by decide +kernel
theorem dX9_ring_84 : decode cX9_ring 84 = .ok (.aload_n 0, 1) := by decide +kernel
theorem dX9_ring_85 : decode cX9_ring 85 = .ok (.getfield 78, 3) := by decide +kernel
theorem dX9_ring_88 : decode cX9_ring 88 = .ok (.getfield 301, 3) := by decide +kernel
theorem dX9_ring_91 : decode cX9_ring 91 = .ok (.lreturn, 1) := by decide +kernel
theorem dX9_ring_92 : decode cX9_ring 92 = .ok (.aload_n 0, 1) := by decide +kernel
theorem dX9_ring_93 : decode cX9_ring 93 = .ok (.getfield 78, 3) := by decide +kernel
theorem dX9_ring_96 : decode cX9_ring 96 = .ok (.getfield 304, 3) := by decide +kernel
theorem dX9_ring_99 : decode cX9_ring 99 = .ok (.i2l, 1) := by decide +kernel
theorem dX9_ring_100 : decode cX9_ring 100 = .ok (.lreturn, 1) := by decide +kernel
theorem dX9_ring_101 : decode cX9_ring 101 = .ok (.aload_n 0, 1) := by decide +kernel
theorem dX9_ring_102 : decode cX9_ring 102 = .ok (.getfield 78, 3) := by decide +kernel
theorem dX9_ring_105 : decode cX9_ring 105 = .ok (.getfield 307, 3) := by decide +kernel
theorem dX9_ring_108 : decode cX9_ring 108 = .ok (.i2l, 1) := by decide +kernel
theorem dX9_ring_109 : decode cX9_ring 109 = .ok (.lreturn, 1) := by decide +kernel
theorem dX9_ring_110 : decode cX9_ring 110 = .ok (.aload_n 0, 1) := by decide +kernel
theorem dX9_ring_111 : decode cX9_ring 111 = .ok (.getfield 78, 3) := by decide +kernel
theorem dX9_ring_114 : decode cX9_ring 114 = .ok (.getfield 310, 3) := by decide +kernel
theorem dX9_ring_117 : decode cX9_ring 117 = .ok (.i2l, 1) := by decide +kernel
theorem dX9_ring_118 : decode cX9_ring 118 = .ok (.lreturn, 1) := by decide +kernel
theorem dX9_part_0 : decode cX9_part 0 = .ok (.aload_n 0, 1) := by decide +kernel
theorem dX9_part_1 : decode cX9_part 1 = .ok (.iload_n 1, 1) := by decide +kernel
theorem dX9_part_2 : decode cX9_part 2 = .ok (.invokevirtual 206, 3) := by decide +kernel
theorem dX9_part_5 : decode cX9_part 5 = .ok (.astore_n 3, 1) := by decide +kernel
theorem dX9_part_6 : decode cX9_part 6 = .ok (.aload_n 3, 1) := by decide +kernel
theorem dX9_part_7 : decode cX9_part 7 = .ok (.ifnull 14, 3) := by decide +kernel
theorem dX9_part_10 : decode cX9_part 10 = .ok (.aload_n 0, 1) := by decide +kernel
theorem dX9_part_11 : decode cX9_part 11 = .ok (.getfield 28, 3) := by decide +kernel
theorem dX9_part_14 : decode cX9_part 14 = .ok (.iload_n 2, 1) := by decide +kernel
theorem dX9_part_15 : decode cX9_part 15 = .ok (.invokevirtual 157, 3) := by decide +kernel
theorem dX9_part_18 : decode cX9_part 18 = .ok (.ifCond .ne 5, 3) := by decide +kernel
theorem dX9_part_21 : decode cX9_part 21 = .ok (.iconst (-1), 1) := by decide +kernel
theorem dX9_part_22 : decode cX9_part 22 = .ok (.ireturn, 1) := by decide +kernel
theorem dX9_part_23 : decode cX9_part 23 = .ok (.aload_n 3, 1) := by decide +kernel
theorem dX9_part_24 : decode cX9_part 24 = .ok (.getfield 267, 3) := by decide +kernel
theorem dX9_part_27 : decode cX9_part 27 = .ok (.aload_n 3, 1) := by decide +kernel
theorem dX9_part_28 : decode cX9_part 28 = .ok (.iconst 1, 1) := by decide +kernel
theorem dX9_part_29 : decode cX9_part 29 = .ok (.iload_n 2, 1) := by decide +kernel
theorem dX9_part_30 : decode cX9_part 30 = .ok (.ishl, 1) := by decide +kernel
theorem dX9_part_31 : decode cX9_part 31 = .ok (.invokevirtual 313, 3) := by decide +kernel
theorem dX9_part_34 : decode cX9_part 34 = .ok (.isub, 1) := by decide +kernel
theorem dX9_part_35 : decode cX9_part 35 = .ok (.ireturn, 1) := by decide +kernel
theorem dX9_second_0 : decode cX9_second 0 = .ok (.aload_n 0, 1) := by decide +kernel
theorem dX9_second_1 : decode cX9_second 1 = .ok (.iload_n 1, 1) := by decide +kernel
theorem dX9_second_2 : decode cX9_second 2 = .ok (.invokevirtual 206, 3) := by decide +kernel
theorem dX9_second_5 : decode cX9_second 5 = .ok (.astore_n 2, 1) := by decide +kernel
theorem dX9_second_6 : decode cX9_second 6 = .ok (.aload_n 2, 1) := by decide +kernel
theorem dX9_second_7 : decode cX9_second 7 = .ok (.ifnonnull 7, 3) := by decide +kernel
theorem dX9_second_10 : decode cX9_second 10 = .ok (.iconst (-1), 1) := by decide +kernel
theorem dX9_second_11 : decode cX9_second 11 = .ok (.goto 11, 3) := by decide +kernel
theorem dX9_second_14 : decode cX9_second 14 = .ok (.aload_n 2, 1) := by decide +kernel
theorem dX9_second_15 : decode cX9_second 15 = .ok (.aload_n 2, 1) := by decide +kernel
theorem dX9_second_16 : decode cX9_second 16 = .ok (.getfield 270, 3) := by decide +kernel
theorem dX9_second_19 : decode cX9_second 19 = .ok (.invokevirtual 313, 3) := by decide +kernel
theorem dX9_second_22 : decode cX9_second 22 = .ok (.ireturn, 1) := by decide +kernel
theorem dX9_tightest_0 : decode cX9_tightest 0 = .ok (.bipush (-2), 2) := by decide +kernel
theorem dX9_tightest_2 : decode cX9_tightest 2 = .ok (.istore_n 1, 1) := by decide +kernel
theorem dX9_tightest_3 : decode cX9_tightest 3 = .ok (.lconst 0, 1) := by decide +kernel
theorem dX9_tightest_4 : decode cX9_tightest 4 = .ok (.lstore_n 2, 1) := by decide +kernel
theorem dX9_tightest_5 : decode cX9_tightest 5 = .ok (.lconst 1, 1) := by decide +kernel
theorem dX9_tightest_6 : decode cX9_tightest 6 = .ok (.lstore 4, 2) := by decide +kernel
theorem dX9_tightest_8 : decode cX9_tightest 8 = .ok (.iconst 0, 1) := by decide +kernel
theorem dX9_tightest_9 : decode cX9_tightest 9 = .ok (.istore 6, 2) := by decide +kernel
theorem dX9_tightest_11 : decode cX9_tightest 11 = .ok (.iload 6, 2) := by decide +kernel
theorem dX9_tightest_13 : decode cX9_tightest 13 = .ok (.aload_n 0, 1) := by decide +kernel
theorem dX9_tightest_14 : decode cX9_tightest 14 = .ok (.getfield 116, 3) := by decide +kernel
theorem dX9_tightest_17 : decode cX9_tightest 17 = .ok (.if_icmp .ge 65, 3) := by decide +kernel
theorem dX9_tightest_20 : decode cX9_tightest 20 = .ok (.aload_n 0, 1) := by decide +kernel
theorem dX9_tightest_21 : decode cX9_tightest 21 = .ok (.iload 6, 2) := by decide +kernel
theorem dX9_tightest_23 : decode cX9_tightest 23 = .ok (.invokevirtual 206, 3) := by decide +kernel
theorem dX9_tightest_26 : decode cX9_tightest 26 = .ok (.astore 7, 2) := by decide +kernel
theorem dX9_tightest_28 : decode cX9_tightest 28 = .ok (.aload 7, 2) := by decide +kernel
theorem dX9_tightest_30 : decode cX9_tightest 30 = .ok (.ifnull 46, 3) := by decide +kernel
theorem dX9_tightest_33 : decode cX9_tightest 33 = .ok (.iload_n 1, 1) := by decide +kernel
theorem dX9_tightest_34 : decode cX9_tightest 34 = .ok (.ifCond .lt 24, 3) := by decide +kernel
theorem dX9_tightest_37 : decode cX9_tightest 37 = .ok (.aload 7, 2) := by decide +kernel
theorem dX9_tightest_39 : decode cX9_tightest 39 = .ok (.getfield 267, 3) := by decide +kernel
theorem dX9_tightest_42 : decode cX9_tightest 42 = .ok (.i2l, 1) := by decide +kernel
theorem dX9_tightest_43 : decode cX9_tightest 43 = .ok (.lload 4, 2) := by decide +kernel
theorem dX9_tightest_45 : decode cX9_tightest 45 = .ok (.lmul, 1) := by decide +kernel
theorem dX9_tightest_46 : decode cX9_tightest 46 = .ok (.lload_n 2, 1) := by decide +kernel
theorem dX9_tightest_47 : decode cX9_tightest 47 = .ok (.aload 7, 2) := by decide +kernel
theorem dX9_tightest_49 : decode cX9_tightest 49 = .ok (.getfield 233, 3) := by decide +kernel
theorem dX9_tightest_52 : decode cX9_tightest 52 = .ok (.i2l, 1) := by decide +kernel
theorem dX9_tightest_53 : decode cX9_tightest 53 = .ok (.lmul, 1) := by decide +kernel
theorem dX9_tightest_54 : decode cX9_tightest 54 = .ok (.lcmp, 1) := by decide +kernel
theorem dX9_tightest_55 : decode cX9_tightest 55 = .ok (.ifCond .le 21, 3) := by decide +kernel
theorem dX9_tightest_58 : decode cX9_tightest 58 = .ok (.iload 6, 2) := by decide +kernel
theorem dX9_tightest_60 : decode cX9_tightest 60 = .ok (.istore_n 1, 1) := by decide +kernel
theorem dX9_tightest_61 : decode cX9_tightest 61 = .ok (.aload 7, 2) := by decide +kernel
theorem dX9_tightest_63 : decode cX9_tightest 63 = .ok (.getfield 267, 3) := by decide +kernel
theorem dX9_tightest_66 : decode cX9_tightest 66 = .ok (.i2l, 1) := by decide +kernel
theorem dX9_tightest_67 : decode cX9_tightest 67 = .ok (.lstore_n 2, 1) := by decide +kernel
theorem dX9_tightest_68 : decode cX9_tightest 68 = .ok (.aload 7, 2) := by decide +kernel
theorem dX9_tightest_70 : decode cX9_tightest 70 = .ok (.getfield 233, 3) := by decide +kernel
theorem dX9_tightest_73 : decode cX9_tightest 73 = .ok (.i2l, 1) := by decide +kernel
theorem dX9_tightest_74 : decode cX9_tightest 74 = .ok (.lstore 4, 2) := by decide +kernel
theorem dX9_tightest_76 : decode cX9_tightest 76 = .ok (.iinc 6 1, 3) := by decide +kernel
theorem dX9_tightest_79 : decode cX9_tightest 79 = .ok (.goto (-68), 3) := by decide +kernel
theorem dX9_tightest_82 : decode cX9_tightest 82 = .ok (.iload_n 1, 1) := by decide +kernel
theorem dX9_tightest_83 : decode cX9_tightest 83 = .ok (.ireturn, 1) := by decide +kernel
theorem dX9_relief_0 : decode cX9_relief 0 = .ok (.aload_n 0, 1) := by decide +kernel
theorem dX9_relief_1 : decode cX9_relief 1 = .ok (.iload_n 1, 1) := by decide +kernel
theorem dX9_relief_2 : decode cX9_relief 2 = .ok (.invokevirtual 206, 3) := by decide +kernel
theorem dX9_relief_5 : decode cX9_relief 5 = .ok (.astore_n 3, 1) := by decide +kernel
theorem dX9_relief_6 : decode cX9_relief 6 = .ok (.aload_n 3, 1) := by decide +kernel
theorem dX9_relief_7 : decode cX9_relief 7 = .ok (.ifnull 12, 3) := by decide +kernel
theorem dX9_relief_10 : decode cX9_relief 10 = .ok (.iload_n 2, 1) := by decide +kernel
theorem dX9_relief_11 : decode cX9_relief 11 = .ok (.ifCond .lt 8, 3) := by decide +kernel
theorem dX9_relief_14 : decode cX9_relief 14 = .ok (.iload_n 2, 1) := by decide +kernel
theorem dX9_relief_15 : decode cX9_relief 15 = .ok (.iconst 1, 1) := by decide +kernel
theorem dX9_relief_16 : decode cX9_relief 16 = .ok (.if_icmp .le 5, 3) := by decide +kernel
theorem dX9_relief_19 : decode cX9_relief 19 = .ok (.iconst (-1), 1) := by decide +kernel
theorem dX9_relief_20 : decode cX9_relief 20 = .ok (.ireturn, 1) := by decide +kernel
theorem dX9_relief_21 : decode cX9_relief 21 = .ok (.bipush (-2), 2) := by decide +kernel
theorem dX9_relief_23 : decode cX9_relief 23 = .ok (.istore 4, 2) := by decide +kernel
theorem dX9_relief_25 : decode cX9_relief 25 = .ok (.bipush (-2), 2) := by decide +kernel
theorem dX9_relief_27 : decode cX9_relief 27 = .ok (.istore 5, 2) := by decide +kernel
theorem dX9_relief_29 : decode cX9_relief 29 = .ok (.iconst 0, 1) := by decide +kernel
theorem dX9_relief_30 : decode cX9_relief 30 = .ok (.istore 6, 2) := by decide +kernel
theorem dX9_relief_32 : decode cX9_relief 32 = .ok (.iload 6, 2) := by decide +kernel
theorem dX9_relief_34 : decode cX9_relief 34 = .ok (.bipush 24, 2) := by decide +kernel
theorem dX9_relief_36 : decode cX9_relief 36 = .ok (.if_icmp .ge 51, 3) := by decide +kernel
theorem dX9_relief_39 : decode cX9_relief 39 = .ok (.aload_n 3, 1) := by decide +kernel
theorem dX9_relief_40 : decode cX9_relief 40 = .ok (.getfield 270, 3) := by decide +kernel
theorem dX9_relief_43 : decode cX9_relief 43 = .ok (.iload 6, 2) := by decide +kernel
theorem dX9_relief_45 : decode cX9_relief 45 = .ok (.invokestatic 273, 3) := by decide +kernel
theorem dX9_relief_48 : decode cX9_relief 48 = .ok (.ifCond .eq 33, 3) := by decide +kernel
theorem dX9_relief_51 : decode cX9_relief 51 = .ok (.aload_n 3, 1) := by decide +kernel
theorem dX9_relief_52 : decode cX9_relief 52 = .ok (.iconst 1, 1) := by decide +kernel
theorem dX9_relief_53 : decode cX9_relief 53 = .ok (.iload 6, 2) := by decide +kernel
theorem dX9_relief_55 : decode cX9_relief 55 = .ok (.ishl, 1) := by decide +kernel
theorem dX9_relief_56 : decode cX9_relief 56 = .ok (.invokevirtual 313, 3) := by decide +kernel
theorem dX9_relief_59 : decode cX9_relief 59 = .ok (.istore 7, 2) := by decide +kernel
theorem dX9_relief_61 : decode cX9_relief 61 = .ok (.iload 4, 2) := by decide +kernel
theorem dX9_relief_63 : decode cX9_relief 63 = .ok (.ifCond .lt 10, 3) := by decide +kernel
theorem dX9_relief_66 : decode cX9_relief 66 = .ok (.iload 7, 2) := by decide +kernel
theorem dX9_relief_68 : decode cX9_relief 68 = .ok (.iload 5, 2) := by decide +kernel
theorem dX9_relief_70 : decode cX9_relief 70 = .ok (.if_icmp .ge 11, 3) := by decide +kernel
theorem dX9_relief_73 : decode cX9_relief 73 = .ok (.iload 6, 2) := by decide +kernel
theorem dX9_relief_75 : decode cX9_relief 75 = .ok (.istore 4, 2) := by decide +kernel
theorem dX9_relief_77 : decode cX9_relief 77 = .ok (.iload 7, 2) := by decide +kernel
theorem dX9_relief_79 : decode cX9_relief 79 = .ok (.istore 5, 2) := by decide +kernel
theorem dX9_relief_81 : decode cX9_relief 81 = .ok (.iinc 6 1, 3) := by decide +kernel
theorem dX9_relief_84 : decode cX9_relief 84 = .ok (.goto (-52), 3) := by decide +kernel
theorem dX9_relief_87 : decode cX9_relief 87 = .ok (.iload_n 2, 1) := by decide +kernel
theorem dX9_relief_88 : decode cX9_relief 88 = .ok (.ifCond .ne 8, 3) := by decide +kernel
theorem dX9_relief_91 : decode cX9_relief 91 = .ok (.iload 4, 2) := by decide +kernel
theorem dX9_relief_93 : decode cX9_relief 93 = .ok (.goto 5, 3) := by decide +kernel
theorem dX9_relief_96 : decode cX9_relief 96 = .ok (.iload 5, 2) := by decide +kernel
theorem dX9_relief_98 : decode cX9_relief 98 = .ok (.ireturn, 1) := by decide +kernel
theorem dX9_fewest_0 : decode cX9_fewest 0 = .ok (.aload_n 0, 1) := by decide +kernel
theorem dX9_fewest_1 : decode cX9_fewest 1 = .ok (.iload_n 1, 1) := by decide +kernel
theorem dX9_fewest_2 : decode cX9_fewest 2 = .ok (.invokevirtual 206, 3) := by decide +kernel
theorem dX9_fewest_5 : decode cX9_fewest 5 = .ok (.astore_n 2, 1) := by decide +kernel
theorem dX9_fewest_6 : decode cX9_fewest 6 = .ok (.aload_n 2, 1) := by decide +kernel
theorem dX9_fewest_7 : decode cX9_fewest 7 = .ok (.ifnonnull 5, 3) := by decide +kernel
theorem dX9_fewest_10 : decode cX9_fewest 10 = .ok (.iconst (-1), 1) := by decide +kernel
theorem dX9_fewest_11 : decode cX9_fewest 11 = .ok (.ireturn, 1) := by decide +kernel
theorem dX9_fewest_12 : decode cX9_fewest 12 = .ok (.aload_n 2, 1) := by decide +kernel
theorem dX9_fewest_13 : decode cX9_fewest 13 = .ok (.invokevirtual 248, 3) := by decide +kernel
theorem dX9_fewest_16 : decode cX9_fewest 16 = .ok (.ifCond .ne 5, 3) := by decide +kernel
theorem dX9_fewest_19 : decode cX9_fewest 19 = .ok (.iconst 0, 1) := by decide +kernel
theorem dX9_fewest_20 : decode cX9_fewest 20 = .ok (.ireturn, 1) := by decide +kernel
theorem dX9_fewest_21 : decode cX9_fewest 21 = .ok (.iconst 0, 1) := by decide +kernel
theorem dX9_fewest_22 : decode cX9_fewest 22 = .ok (.istore_n 3, 1) := by decide +kernel
theorem dX9_fewest_23 : decode cX9_fewest 23 = .ok (.iload_n 3, 1) := by decide +kernel
theorem dX9_fewest_24 : decode cX9_fewest 24 = .ok (.bipush 24, 2) := by decide +kernel
theorem dX9_fewest_26 : decode cX9_fewest 26 = .ok (.if_icmp .ge 32, 3) := by decide +kernel
theorem dX9_fewest_29 : decode cX9_fewest 29 = .ok (.aload_n 2, 1) := by decide +kernel
theorem dX9_fewest_30 : decode cX9_fewest 30 = .ok (.getfield 270, 3) := by decide +kernel
theorem dX9_fewest_33 : decode cX9_fewest 33 = .ok (.iload_n 3, 1) := by decide +kernel
theorem dX9_fewest_34 : decode cX9_fewest 34 = .ok (.invokestatic 273, 3) := by decide +kernel
theorem dX9_fewest_37 : decode cX9_fewest 37 = .ok (.ifCond .eq 15, 3) := by decide +kernel
theorem dX9_fewest_40 : decode cX9_fewest 40 = .ok (.aload_n 2, 1) := by decide +kernel
theorem dX9_fewest_41 : decode cX9_fewest 41 = .ok (.iconst 1, 1) := by decide +kernel
theorem dX9_fewest_42 : decode cX9_fewest 42 = .ok (.iload_n 3, 1) := by decide +kernel
theorem dX9_fewest_43 : decode cX9_fewest 43 = .ok (.ishl, 1) := by decide +kernel
theorem dX9_fewest_44 : decode cX9_fewest 44 = .ok (.invokevirtual 316, 3) := by decide +kernel
theorem dX9_fewest_47 : decode cX9_fewest 47 = .ok (.ifCond .ne 5, 3) := by decide +kernel
theorem dX9_fewest_50 : decode cX9_fewest 50 = .ok (.iconst 1, 1) := by decide +kernel
theorem dX9_fewest_51 : decode cX9_fewest 51 = .ok (.ireturn, 1) := by decide +kernel
theorem dX9_fewest_52 : decode cX9_fewest 52 = .ok (.iinc 3 1, 3) := by decide +kernel
theorem dX9_fewest_55 : decode cX9_fewest 55 = .ok (.goto (-32), 3) := by decide +kernel
theorem dX9_fewest_58 : decode cX9_fewest 58 = .ok (.iconst 0, 1) := by decide +kernel
theorem dX9_fewest_59 : decode cX9_fewest 59 = .ok (.istore_n 3, 1) := by decide +kernel
theorem dX9_fewest_60 : decode cX9_fewest 60 = .ok (.iload_n 3, 1) := by decide +kernel
theorem dX9_fewest_61 : decode cX9_fewest 61 = .ok (.bipush 24, 2) := by decide +kernel
theorem dX9_fewest_63 : decode cX9_fewest 63 = .ok (.if_icmp .ge 30, 3) := by decide +kernel
theorem dX9_fewest_66 : decode cX9_fewest 66 = .ok (.aload_n 2, 1) := by decide +kernel
theorem dX9_fewest_67 : decode cX9_fewest 67 = .ok (.getfield 270, 3) := by decide +kernel
theorem dX9_fewest_70 : decode cX9_fewest 70 = .ok (.iload_n 3, 1) := by decide +kernel
theorem dX9_fewest_71 : decode cX9_fewest 71 = .ok (.invokestatic 273, 3) := by decide +kernel
theorem dX9_fewest_74 : decode cX9_fewest 74 = .ok (.ifCond .eq 13, 3) := by decide +kernel
theorem dX9_fewest_77 : decode cX9_fewest 77 = .ok (.aload_n 2, 1) := by decide +kernel
theorem dX9_fewest_78 : decode cX9_fewest 78 = .ok (.iload_n 3, 1) := by decide +kernel
theorem dX9_fewest_79 : decode cX9_fewest 79 = .ok (.invokevirtual 319, 3) := by decide +kernel
theorem dX9_fewest_82 : decode cX9_fewest 82 = .ok (.ifCond .eq 5, 3) := by decide +kernel
theorem dX9_fewest_85 : decode cX9_fewest 85 = .ok (.iconst 2, 1) := by decide +kernel
theorem dX9_fewest_86 : decode cX9_fewest 86 = .ok (.ireturn, 1) := by decide +kernel
theorem dX9_fewest_87 : decode cX9_fewest 87 = .ok (.iinc 3 1, 3) := by decide +kernel
theorem dX9_fewest_90 : decode cX9_fewest 90 = .ok (.goto (-30), 3) := by decide +kernel
theorem dX9_fewest_93 : decode cX9_fewest 93 = .ok (.bipush (-2), 2) := by decide +kernel
theorem dX9_fewest_95 : decode cX9_fewest 95 = .ok (.ireturn, 1) := by decide +kernel
theorem dX9_ifWritten_0 : decode cX9_ifWritten 0 = .ok (.aload_n 0, 1) := by decide +kernel
theorem dX9_ifWritten_1 : decode cX9_ifWritten 1 = .ok (.iload_n 1, 1) := by decide +kernel
theorem dX9_ifWritten_2 : decode cX9_ifWritten 2 = .ok (.invokevirtual 206, 3) := by decide +kernel
theorem dX9_ifWritten_5 : decode cX9_ifWritten 5 = .ok (.astore 6, 2) := by decide +kernel
theorem dX9_ifWritten_7 : decode cX9_ifWritten 7 = .ok (.aload 6, 2) := by decide +kernel
theorem dX9_ifWritten_9 : decode cX9_ifWritten 9 = .ok (.ifnull 27, 3) := by decide +kernel
theorem dX9_ifWritten_12 : decode cX9_ifWritten 12 = .ok (.iload_n 2, 1) := by decide +kernel
theorem dX9_ifWritten_13 : decode cX9_ifWritten 13 = .ok (.iload_n 3, 1) := by decide +kernel
theorem dX9_ifWritten_14 : decode cX9_ifWritten 14 = .ok (.invokestatic 134, 3) := by decide +kernel
theorem dX9_ifWritten_17 : decode cX9_ifWritten 17 = .ok (.ifCond .eq 19, 3) := by decide +kernel
theorem dX9_ifWritten_20 : decode cX9_ifWritten 20 = .ok (.iload 4, 2) := by decide +kernel
theorem dX9_ifWritten_22 : decode cX9_ifWritten 22 = .ok (.invokestatic 138, 3) := by decide +kernel
theorem dX9_ifWritten_25 : decode cX9_ifWritten 25 = .ok (.ifCond .eq 11, 3) := by decide +kernel
theorem dX9_ifWritten_28 : decode cX9_ifWritten 28 = .ok (.iload 5, 2) := by decide +kernel
theorem dX9_ifWritten_30 : decode cX9_ifWritten 30 = .ok (.invokestatic 142, 3) := by decide +kernel
theorem dX9_ifWritten_33 : decode cX9_ifWritten 33 = .ok (.ifCond .ne 5, 3) := by decide +kernel
theorem dX9_ifWritten_36 : decode cX9_ifWritten 36 = .ok (.iconst (-1), 1) := by decide +kernel
theorem dX9_ifWritten_37 : decode cX9_ifWritten 37 = .ok (.ireturn, 1) := by decide +kernel
theorem dX9_ifWritten_38 : decode cX9_ifWritten 38 = .ok (.aload 6, 2) := by decide +kernel
theorem dX9_ifWritten_40 : decode cX9_ifWritten 40 = .ok (.iload 5, 2) := by decide +kernel
theorem dX9_ifWritten_42 : decode cX9_ifWritten 42 = .ok (.invokevirtual 210, 3) := by decide +kernel
theorem dX9_ifWritten_45 : decode cX9_ifWritten 45 = .ok (.ifCond .ne 9, 3) := by decide +kernel
theorem dX9_ifWritten_48 : decode cX9_ifWritten 48 = .ok (.aload 6, 2) := by decide +kernel
theorem dX9_ifWritten_50 : decode cX9_ifWritten 50 = .ok (.getfield 267, 3) := by decide +kernel
theorem dX9_ifWritten_53 : decode cX9_ifWritten 53 = .ok (.ireturn, 1) := by decide +kernel
theorem dX9_ifWritten_54 : decode cX9_ifWritten 54 = .ok (.aload 6, 2) := by decide +kernel
theorem dX9_ifWritten_56 : decode cX9_ifWritten 56 = .ok (.getfield 267, 3) := by decide +kernel
theorem dX9_ifWritten_59 : decode cX9_ifWritten 59 = .ok (.aload 6, 2) := by decide +kernel
theorem dX9_ifWritten_61 : decode cX9_ifWritten 61 = .ok (.getfield 219, 3) := by decide +kernel
theorem dX9_ifWritten_64 : decode cX9_ifWritten 64 = .ok (.iload_n 2, 1) := by decide +kernel
theorem dX9_ifWritten_65 : decode cX9_ifWritten 65 = .ok (.iload_n 3, 1) := by decide +kernel
theorem dX9_ifWritten_66 : decode cX9_ifWritten 66 = .ok (.ldc_w 322, 3) := by decide +kernel
theorem dX9_ifWritten_69 : decode cX9_ifWritten 69 = .ok (.iconst 0, 1) := by decide +kernel
theorem dX9_ifWritten_70 : decode cX9_ifWritten 70 = .ok (.invokevirtual 323, 3) := by decide +kernel
theorem dX9_ifWritten_73 : decode cX9_ifWritten 73 = .ok (.iload 4, 2) := by decide +kernel
theorem dX9_ifWritten_75 : decode cX9_ifWritten 75 = .ok (.iadd, 1) := by decide +kernel
theorem dX9_ifWritten_76 : decode cX9_ifWritten 76 = .ok (.invokestatic 284, 3) := by decide +kernel
theorem dX9_ifWritten_79 : decode cX9_ifWritten 79 = .ok (.ireturn, 1) := by decide +kernel
theorem dX9_about_0 : decode cX9_about 0 = .ok (.aload_n 0, 1) := by decide +kernel
theorem dX9_about_1 : decode cX9_about 1 = .ok (.iload_n 1, 1) := by decide +kernel
theorem dX9_about_2 : decode cX9_about 2 = .ok (.invokevirtual 206, 3) := by decide +kernel
theorem dX9_about_5 : decode cX9_about 5 = .ok (.astore 4, 2) := by decide +kernel
theorem dX9_about_7 : decode cX9_about 7 = .ok (.aload 4, 2) := by decide +kernel
theorem dX9_about_9 : decode cX9_about 9 = .ok (.ifnull 11, 3) := by decide +kernel
theorem dX9_about_12 : decode cX9_about 12 = .ok (.iload_n 2, 1) := by decide +kernel
theorem dX9_about_13 : decode cX9_about 13 = .ok (.iload_n 3, 1) := by decide +kernel
theorem dX9_about_14 : decode cX9_about 14 = .ok (.invokestatic 134, 3) := by decide +kernel
theorem dX9_about_17 : decode cX9_about 17 = .ok (.ifCond .ne 7, 3) := by decide +kernel
theorem dX9_about_20 : decode cX9_about 20 = .ok (.iconst (-1), 1) := by decide +kernel
theorem dX9_about_21 : decode cX9_about 21 = .ok (.goto 17, 3) := by decide +kernel
theorem dX9_about_24 : decode cX9_about 24 = .ok (.aload 4, 2) := by decide +kernel
theorem dX9_about_26 : decode cX9_about 26 = .ok (.getfield 219, 3) := by decide +kernel
theorem dX9_about_29 : decode cX9_about 29 = .ok (.iload_n 2, 1) := by decide +kernel
theorem dX9_about_30 : decode cX9_about 30 = .ok (.iload_n 3, 1) := by decide +kernel
theorem dX9_about_31 : decode cX9_about 31 = .ok (.ldc_w 322, 3) := by decide +kernel
theorem dX9_about_34 : decode cX9_about 34 = .ok (.iconst 0, 1) := by decide +kernel
theorem dX9_about_35 : decode cX9_about 35 = .ok (.invokevirtual 323, 3) := by decide +kernel
theorem dX9_about_38 : decode cX9_about 38 = .ok (.ireturn, 1) := by decide +kernel
theorem dX9_most_0 : decode cX9_most 0 = .ok (.iload_n 1, 1) := by decide +kernel
theorem dX9_most_1 : decode cX9_most 1 = .ok (.iload_n 2, 1) := by decide +kernel
theorem dX9_most_2 : decode cX9_most 2 = .ok (.invokestatic 134, 3) := by decide +kernel
theorem dX9_most_5 : decode cX9_most 5 = .ok (.ifCond .eq 10, 3) := by decide +kernel
theorem dX9_most_8 : decode cX9_most 8 = .ok (.iload_n 3, 1) := by decide +kernel
theorem dX9_most_9 : decode cX9_most 9 = .ok (.invokestatic 142, 3) := by decide +kernel
theorem dX9_most_12 : decode cX9_most 12 = .ok (.ifCond .ne 5, 3) := by decide +kernel
theorem dX9_most_15 : decode cX9_most 15 = .ok (.iconst (-1), 1) := by decide +kernel
theorem dX9_most_16 : decode cX9_most 16 = .ok (.ireturn, 1) := by decide +kernel
theorem dX9_most_17 : decode cX9_most 17 = .ok (.ldc_w 327, 3) := by decide +kernel
theorem dX9_most_20 : decode cX9_most 20 = .ok (.istore 4, 2) := by decide +kernel
theorem dX9_most_22 : decode cX9_most 22 = .ok (.iconst 0, 1) := by decide +kernel
theorem dX9_most_23 : decode cX9_most 23 = .ok (.istore 5, 2) := by decide +kernel
theorem dX9_most_25 : decode cX9_most 25 = .ok (.iload 5, 2) := by decide +kernel
theorem dX9_most_27 : decode cX9_most 27 = .ok (.aload_n 0, 1) := by decide +kernel
theorem dX9_most_28 : decode cX9_most 28 = .ok (.getfield 116, 3) := by decide +kernel
theorem dX9_most_31 : decode cX9_most 31 = .ok (.if_icmp .ge 68, 3) := by decide +kernel
theorem dX9_most_34 : decode cX9_most 34 = .ok (.aload_n 0, 1) := by decide +kernel
theorem dX9_most_35 : decode cX9_most 35 = .ok (.iload 5, 2) := by decide +kernel
theorem dX9_most_37 : decode cX9_most 37 = .ok (.invokevirtual 206, 3) := by decide +kernel
theorem dX9_most_40 : decode cX9_most 40 = .ok (.astore 6, 2) := by decide +kernel
theorem dX9_most_42 : decode cX9_most 42 = .ok (.aload 6, 2) := by decide +kernel
theorem dX9_most_44 : decode cX9_most 44 = .ok (.ifnull 49, 3) := by decide +kernel
theorem dX9_most_47 : decode cX9_most 47 = .ok (.aload 6, 2) := by decide +kernel
theorem dX9_most_49 : decode cX9_most 49 = .ok (.iload_n 3, 1) := by decide +kernel
theorem dX9_most_50 : decode cX9_most 50 = .ok (.invokevirtual 210, 3) := by decide +kernel
theorem dX9_most_53 : decode cX9_most 53 = .ok (.ifCond .eq 40, 3) := by decide +kernel
theorem dX9_most_56 : decode cX9_most 56 = .ok (.aload 6, 2) := by decide +kernel
theorem dX9_most_58 : decode cX9_most 58 = .ok (.invokevirtual 248, 3) := by decide +kernel
theorem dX9_most_61 : decode cX9_most 61 = .ok (.ifCond .eq 5, 3) := by decide +kernel
theorem dX9_most_64 : decode cX9_most 64 = .ok (.iconst 0, 1) := by decide +kernel
theorem dX9_most_65 : decode cX9_most 65 = .ok (.ireturn, 1) := by decide +kernel
theorem dX9_most_66 : decode cX9_most 66 = .ok (.iload 4, 2) := by decide +kernel
theorem dX9_most_68 : decode cX9_most 68 = .ok (.aload 6, 2) := by decide +kernel
theorem dX9_most_70 : decode cX9_most 70 = .ok (.getfield 233, 3) := by decide +kernel
theorem dX9_most_73 : decode cX9_most 73 = .ok (.aload 6, 2) := by decide +kernel
theorem dX9_most_75 : decode cX9_most 75 = .ok (.getfield 219, 3) := by decide +kernel
theorem dX9_most_78 : decode cX9_most 78 = .ok (.iload_n 1, 1) := by decide +kernel
theorem dX9_most_79 : decode cX9_most 79 = .ok (.iload_n 2, 1) := by decide +kernel
theorem dX9_most_80 : decode cX9_most 80 = .ok (.ldc_w 322, 3) := by decide +kernel
theorem dX9_most_83 : decode cX9_most 83 = .ok (.iconst 0, 1) := by decide +kernel
theorem dX9_most_84 : decode cX9_most 84 = .ok (.invokevirtual 323, 3) := by decide +kernel
theorem dX9_most_87 : decode cX9_most 87 = .ok (.isub, 1) := by decide +kernel
theorem dX9_most_88 : decode cX9_most 88 = .ok (.invokestatic 279, 3) := by decide +kernel
theorem dX9_most_91 : decode cX9_most 91 = .ok (.istore 4, 2) := by decide +kernel
theorem dX9_most_93 : decode cX9_most 93 = .ok (.iinc 5 1, 3) := by decide +kernel
theorem dX9_most_96 : decode cX9_most 96 = .ok (.goto (-71), 3) := by decide +kernel
theorem dX9_most_99 : decode cX9_most 99 = .ok (.iload 4, 2) := by decide +kernel
theorem dX9_most_101 : decode cX9_most 101 = .ok (.ireturn, 1) := by decide +kernel
theorem dX9_places_0 : decode cX9_places 0 = .ok (.iload_n 1, 1) := by decide +kernel
theorem dX9_places_1 : decode cX9_places 1 = .ok (.invokestatic 138, 3) := by decide +kernel
theorem dX9_places_4 : decode cX9_places 4 = .ok (.ifCond .eq 10, 3) := by decide +kernel
theorem dX9_places_7 : decode cX9_places 7 = .ok (.iload_n 2, 1) := by decide +kernel
theorem dX9_places_8 : decode cX9_places 8 = .ok (.invokestatic 142, 3) := by decide +kernel
theorem dX9_places_11 : decode cX9_places 11 = .ok (.ifCond .ne 5, 3) := by decide +kernel
theorem dX9_places_14 : decode cX9_places 14 = .ok (.iconst (-1), 1) := by decide +kernel
theorem dX9_places_15 : decode cX9_places 15 = .ok (.ireturn, 1) := by decide +kernel
theorem dX9_places_16 : decode cX9_places 16 = .ok (.iconst 0, 1) := by decide +kernel
theorem dX9_places_17 : decode cX9_places 17 = .ok (.istore_n 3, 1) := by decide +kernel
theorem dX9_places_18 : decode cX9_places 18 = .ok (.iconst 0, 1) := by decide +kernel
theorem dX9_places_19 : decode cX9_places 19 = .ok (.istore 4, 2) := by decide +kernel
theorem dX9_places_21 : decode cX9_places 21 = .ok (.iload 4, 2) := by decide +kernel
theorem dX9_places_23 : decode cX9_places 23 = .ok (.sipush 300, 3) := by decide +kernel
theorem dX9_places_26 : decode cX9_places 26 = .ok (.if_icmp .ge 42, 3) := by decide +kernel
theorem dX9_places_29 : decode cX9_places 29 = .ok (.iconst 0, 1) := by decide +kernel
theorem dX9_places_30 : decode cX9_places 30 = .ok (.istore 5, 2) := by decide +kernel
theorem dX9_places_32 : decode cX9_places 32 = .ok (.iload 5, 2) := by decide +kernel
theorem dX9_places_34 : decode cX9_places 34 = .ok (.sipush 300, 3) := by decide +kernel
theorem dX9_places_37 : decode cX9_places 37 = .ok (.if_icmp .ge 25, 3) := by decide +kernel
theorem dX9_places_40 : decode cX9_places 40 = .ok (.aload_n 0, 1) := by decide +kernel
theorem dX9_places_41 : decode cX9_places 41 = .ok (.iload 4, 2) := by decide +kernel
theorem dX9_places_43 : decode cX9_places 43 = .ok (.iload 5, 2) := by decide +kernel
theorem dX9_places_45 : decode cX9_places 45 = .ok (.iload_n 1, 1) := by decide +kernel
theorem dX9_places_46 : decode cX9_places 46 = .ok (.iload_n 2, 1) := by decide +kernel
theorem dX9_places_47 : decode cX9_places 47 = .ok (.invokevirtual 328, 3) := by decide +kernel
theorem dX9_places_50 : decode cX9_places 50 = .ok (.ifCond .eq 6, 3) := by decide +kernel
theorem dX9_places_53 : decode cX9_places 53 = .ok (.iinc 3 1, 3) := by decide +kernel
theorem dX9_places_56 : decode cX9_places 56 = .ok (.iinc 5 30, 3) := by decide +kernel
theorem dX9_places_59 : decode cX9_places 59 = .ok (.goto (-27), 3) := by decide +kernel
theorem dX9_places_62 : decode cX9_places 62 = .ok (.iinc 4 30, 3) := by decide +kernel
theorem dX9_places_65 : decode cX9_places 65 = .ok (.goto (-44), 3) := by decide +kernel
theorem dX9_places_68 : decode cX9_places 68 = .ok (.iload_n 3, 1) := by decide +kernel
theorem dX9_places_69 : decode cX9_places 69 = .ok (.ireturn, 1) := by decide +kernel
theorem dX9_leavesAll_0 : decode cX9_leavesAll 0 = .ok (.iconst 0, 1) := by decide +kernel
theorem dX9_leavesAll_1 : decode cX9_leavesAll 1 = .ok (.istore 5, 2) := by decide +kernel
theorem dX9_leavesAll_3 : decode cX9_leavesAll 3 = .ok (.iload 5, 2) := by decide +kernel
theorem dX9_leavesAll_5 : decode cX9_leavesAll 5 = .ok (.aload_n 0, 1) := by decide +kernel
theorem dX9_leavesAll_6 : decode cX9_leavesAll 6 = .ok (.getfield 116, 3) := by decide +kernel
theorem dX9_leavesAll_9 : decode cX9_leavesAll 9 = .ok (.if_icmp .ge 71, 3) := by decide +kernel
theorem dX9_leavesAll_12 : decode cX9_leavesAll 12 = .ok (.aload_n 0, 1) := by decide +kernel
theorem dX9_leavesAll_13 : decode cX9_leavesAll 13 = .ok (.iload 5, 2) := by decide +kernel
theorem dX9_leavesAll_15 : decode cX9_leavesAll 15 = .ok (.invokevirtual 206, 3) := by decide +kernel
theorem dX9_leavesAll_18 : decode cX9_leavesAll 18 = .ok (.astore 6, 2) := by decide +kernel
theorem dX9_leavesAll_20 : decode cX9_leavesAll 20 = .ok (.aload 6, 2) := by decide +kernel
theorem dX9_leavesAll_22 : decode cX9_leavesAll 22 = .ok (.ifnull 52, 3) := by decide +kernel
theorem dX9_leavesAll_25 : decode cX9_leavesAll 25 = .ok (.aload 6, 2) := by decide +kernel
theorem dX9_leavesAll_27 : decode cX9_leavesAll 27 = .ok (.iload 4, 2) := by decide +kernel
theorem dX9_leavesAll_29 : decode cX9_leavesAll 29 = .ok (.invokevirtual 210, 3) := by decide +kernel
theorem dX9_leavesAll_32 : decode cX9_leavesAll 32 = .ok (.ifCond .eq 42, 3) := by decide +kernel
theorem dX9_leavesAll_35 : decode cX9_leavesAll 35 = .ok (.aload 6, 2) := by decide +kernel
theorem dX9_leavesAll_37 : decode cX9_leavesAll 37 = .ok (.getfield 233, 3) := by decide +kernel
theorem dX9_leavesAll_40 : decode cX9_leavesAll 40 = .ok (.iload_n 3, 1) := by decide +kernel
theorem dX9_leavesAll_41 : decode cX9_leavesAll 41 = .ok (.isub, 1) := by decide +kernel
theorem dX9_leavesAll_42 : decode cX9_leavesAll 42 = .ok (.istore 7, 2) := by decide +kernel
theorem dX9_leavesAll_44 : decode cX9_leavesAll 44 = .ok (.aload 6, 2) := by decide +kernel
theorem dX9_leavesAll_46 : decode cX9_leavesAll 46 = .ok (.invokevirtual 248, 3) := by decide +kernel
theorem dX9_leavesAll_49 : decode cX9_leavesAll 49 = .ok (.ifCond .ne 23, 3) := by decide +kernel
theorem dX9_leavesAll_52 : decode cX9_leavesAll 52 = .ok (.aload 6, 2) := by decide +kernel
theorem dX9_leavesAll_54 : decode cX9_leavesAll 54 = .ok (.getfield 219, 3) := by decide +kernel
theorem dX9_leavesAll_57 : decode cX9_leavesAll 57 = .ok (.iload_n 1, 1) := by decide +kernel
theorem dX9_leavesAll_58 : decode cX9_leavesAll 58 = .ok (.iload_n 2, 1) := by decide +kernel
theorem dX9_leavesAll_59 : decode cX9_leavesAll 59 = .ok (.ldc_w 322, 3) := by decide +kernel
theorem dX9_leavesAll_62 : decode cX9_leavesAll 62 = .ok (.iload 7, 2) := by decide +kernel
theorem dX9_leavesAll_64 : decode cX9_leavesAll 64 = .ok (.invokevirtual 323, 3) := by decide +kernel
theorem dX9_leavesAll_67 : decode cX9_leavesAll 67 = .ok (.iload 7, 2) := by decide +kernel
theorem dX9_leavesAll_69 : decode cX9_leavesAll 69 = .ok (.if_icmp .le 5, 3) := by decide +kernel
theorem dX9_leavesAll_72 : decode cX9_leavesAll 72 = .ok (.iconst 0, 1) := by decide +kernel
theorem dX9_leavesAll_73 : decode cX9_leavesAll 73 = .ok (.ireturn, 1) := by decide +kernel
theorem dX9_leavesAll_74 : decode cX9_leavesAll 74 = .ok (.iinc 5 1, 3) := by decide +kernel
theorem dX9_leavesAll_77 : decode cX9_leavesAll 77 = .ok (.goto (-74), 3) := by decide +kernel
theorem dX9_leavesAll_80 : decode cX9_leavesAll 80 = .ok (.iconst 1, 1) := by decide +kernel
theorem dX9_leavesAll_81 : decode cX9_leavesAll 81 = .ok (.ireturn, 1) := by decide +kernel
theorem dX9_along_0 : decode cX9_along 0 = .ok (.aload_n 0, 1) := by decide +kernel
theorem dX9_along_1 : decode cX9_along 1 = .ok (.iload_n 1, 1) := by decide +kernel
theorem dX9_along_2 : decode cX9_along 2 = .ok (.invokevirtual 206, 3) := by decide +kernel
theorem dX9_along_5 : decode cX9_along 5 = .ok (.astore 7, 2) := by decide +kernel
theorem dX9_along_7 : decode cX9_along 7 = .ok (.aload 7, 2) := by decide +kernel
theorem dX9_along_9 : decode cX9_along 9 = .ok (.ifnull 47, 3) := by decide +kernel
theorem dX9_along_12 : decode cX9_along 12 = .ok (.aload_n 0, 1) := by decide +kernel
theorem dX9_along_13 : decode cX9_along 13 = .ok (.getfield 28, 3) := by decide +kernel
theorem dX9_along_16 : decode cX9_along 16 = .ok (.iload_n 2, 1) := by decide +kernel
theorem dX9_along_17 : decode cX9_along 17 = .ok (.invokevirtual 157, 3) := by decide +kernel
theorem dX9_along_20 : decode cX9_along 20 = .ok (.ifCond .eq 36, 3) := by decide +kernel
theorem dX9_along_23 : decode cX9_along 23 = .ok (.iload_n 3, 1) := by decide +kernel
theorem dX9_along_24 : decode cX9_along 24 = .ok (.iload 4, 2) := by decide +kernel
theorem dX9_along_26 : decode cX9_along 26 = .ok (.invokestatic 134, 3) := by decide +kernel
theorem dX9_along_29 : decode cX9_along 29 = .ok (.ifCond .eq 27, 3) := by decide +kernel
theorem dX9_along_32 : decode cX9_along 32 = .ok (.iload 5, 2) := by decide +kernel
theorem dX9_along_34 : decode cX9_along 34 = .ok (.iconst 1, 1) := by decide +kernel
theorem dX9_along_35 : decode cX9_along 35 = .ok (.if_icmp .lt 21, 3) := by decide +kernel
theorem dX9_along_38 : decode cX9_along 38 = .ok (.iload 5, 2) := by decide +kernel
theorem dX9_along_40 : decode cX9_along 40 = .ok (.bipush 20, 2) := by decide +kernel
theorem dX9_along_42 : decode cX9_along 42 = .ok (.if_icmp .gt 14, 3) := by decide +kernel
theorem dX9_along_45 : decode cX9_along 45 = .ok (.iload 6, 2) := by decide +kernel
theorem dX9_along_47 : decode cX9_along 47 = .ok (.ifCond .lt 9, 3) := by decide +kernel
theorem dX9_along_50 : decode cX9_along 50 = .ok (.iload 6, 2) := by decide +kernel
theorem dX9_along_52 : decode cX9_along 52 = .ok (.iconst 1, 1) := by decide +kernel
theorem dX9_along_53 : decode cX9_along 53 = .ok (.if_icmp .le 5, 3) := by decide +kernel
theorem dX9_along_56 : decode cX9_along 56 = .ok (.iconst (-1), 1) := by decide +kernel
theorem dX9_along_57 : decode cX9_along 57 = .ok (.ireturn, 1) := by decide +kernel
theorem dX9_along_58 : decode cX9_along 58 = .ok (.ldc_w 322, 3) := by decide +kernel
theorem dX9_along_61 : decode cX9_along 61 = .ok (.iconst 1, 1) := by decide +kernel
theorem dX9_along_62 : decode cX9_along 62 = .ok (.iload_n 2, 1) := by decide +kernel
theorem dX9_along_63 : decode cX9_along 63 = .ok (.ishl, 1) := by decide +kernel
theorem dX9_along_64 : decode cX9_along 64 = .ok (.iconst (-1), 1) := by decide +kernel
theorem dX9_along_65 : decode cX9_along 65 = .ok (.ixor, 1) := by decide +kernel
theorem dX9_along_66 : decode cX9_along 66 = .ok (.iand, 1) := by decide +kernel
theorem dX9_along_67 : decode cX9_along 67 = .ok (.istore 8, 2) := by decide +kernel
theorem dX9_along_69 : decode cX9_along 69 = .ok (.aload_n 0, 1) := by decide +kernel
theorem dX9_along_70 : decode cX9_along 70 = .ok (.getfield 28, 3) := by decide +kernel
theorem dX9_along_73 : decode cX9_along 73 = .ok (.iload_n 2, 1) := by decide +kernel
theorem dX9_along_74 : decode cX9_along 74 = .ok (.invokevirtual 174, 3) := by decide +kernel
theorem dX9_along_77 : decode cX9_along 77 = .ok (.istore 9, 2) := by decide +kernel
theorem dX9_along_79 : decode cX9_along 79 = .ok (.aload 7, 2) := by decide +kernel
theorem dX9_along_81 : decode cX9_along 81 = .ok (.getfield 267, 3) := by decide +kernel
theorem dX9_along_84 : decode cX9_along 84 = .ok (.istore 10, 2) := by decide +kernel
theorem dX9_along_86 : decode cX9_along 86 = .ok (.aload 7, 2) := by decide +kernel
theorem dX9_along_88 : decode cX9_along 88 = .ok (.invokevirtual 248, 3) := by decide +kernel
theorem dX9_along_91 : decode cX9_along 91 = .ok (.ifCond .eq 7, 3) := by decide +kernel
theorem dX9_along_94 : decode cX9_along 94 = .ok (.iconst 0, 1) := by decide +kernel
theorem dX9_along_95 : decode cX9_along 95 = .ok (.goto 5, 3) := by decide +kernel
theorem dX9_along_98 : decode cX9_along 98 = .ok (.bipush (-2), 2) := by decide +kernel
theorem dX9_along_100 : decode cX9_along 100 = .ok (.istore 11, 2) := by decide +kernel
theorem dX9_along_102 : decode cX9_along 102 = .ok (.iconst 1, 1) := by decide +kernel
theorem dX9_along_103 : decode cX9_along 103 = .ok (.istore 12, 2) := by decide +kernel
theorem dX9_along_105 : decode cX9_along 105 = .ok (.iload 12, 2) := by decide +kernel
theorem dX9_along_107 : decode cX9_along 107 = .ok (.iload 5, 2) := by decide +kernel
theorem dX9_along_109 : decode cX9_along 109 = .ok (.if_icmp .gt 110, 3) := by decide +kernel
theorem dX9_along_112 : decode cX9_along 112 = .ok (.aload 7, 2) := by decide +kernel
theorem dX9_along_114 : decode cX9_along 114 = .ok (.aload_n 0, 1) := by decide +kernel
theorem dX9_along_115 : decode cX9_along 115 = .ok (.getfield 28, 3) := by decide +kernel
theorem dX9_along_118 : decode cX9_along 118 = .ok (.iload_n 2, 1) := by decide +kernel
theorem dX9_along_119 : decode cX9_along 119 = .ok (.invokevirtual 160, 3) := by decide +kernel
theorem dX9_along_122 : decode cX9_along 122 = .ok (.invokevirtual 210, 3) := by decide +kernel
theorem dX9_along_125 : decode cX9_along 125 = .ok (.ifCond .eq 94, 3) := by decide +kernel
theorem dX9_along_128 : decode cX9_along 128 = .ok (.aload_n 0, 1) := by decide +kernel
theorem dX9_along_129 : decode cX9_along 129 = .ok (.getfield 28, 3) := by decide +kernel
theorem dX9_along_132 : decode cX9_along 132 = .ok (.iload_n 2, 1) := by decide +kernel
theorem dX9_along_133 : decode cX9_along 133 = .ok (.invokevirtual 186, 3) := by decide +kernel
theorem dX9_along_136 : decode cX9_along 136 = .ok (.iload_n 3, 1) := by decide +kernel
theorem dX9_along_137 : decode cX9_along 137 = .ok (.iload 12, 2) := by decide +kernel
theorem dX9_along_139 : decode cX9_along 139 = .ok (.iload 5, 2) := by decide +kernel
theorem dX9_along_141 : decode cX9_along 141 = .ok (.invokestatic 332, 3) := by decide +kernel
theorem dX9_along_144 : decode cX9_along 144 = .ok (.istore 13, 2) := by decide +kernel
theorem dX9_along_146 : decode cX9_along 146 = .ok (.aload_n 0, 1) := by decide +kernel
theorem dX9_along_147 : decode cX9_along 147 = .ok (.getfield 28, 3) := by decide +kernel
theorem dX9_along_150 : decode cX9_along 150 = .ok (.iload_n 2, 1) := by decide +kernel
theorem dX9_along_151 : decode cX9_along 151 = .ok (.invokevirtual 189, 3) := by decide +kernel
theorem dX9_along_154 : decode cX9_along 154 = .ok (.iload 4, 2) := by decide +kernel
theorem dX9_along_156 : decode cX9_along 156 = .ok (.iload 12, 2) := by decide +kernel
theorem dX9_along_158 : decode cX9_along 158 = .ok (.iload 5, 2) := by decide +kernel
theorem dX9_along_160 : decode cX9_along 160 = .ok (.invokestatic 332, 3) := by decide +kernel
theorem dX9_along_163 : decode cX9_along 163 = .ok (.istore 14, 2) := by decide +kernel
theorem dX9_along_165 : decode cX9_along 165 = .ok (.iload 10, 2) := by decide +kernel
theorem dX9_along_167 : decode cX9_along 167 = .ok (.aload 7, 2) := by decide +kernel
theorem dX9_along_169 : decode cX9_along 169 = .ok (.getfield 219, 3) := by decide +kernel
theorem dX9_along_172 : decode cX9_along 172 = .ok (.iload 13, 2) := by decide +kernel
theorem dX9_along_174 : decode cX9_along 174 = .ok (.iload 14, 2) := by decide +kernel
theorem dX9_along_176 : decode cX9_along 176 = .ok (.iload 8, 2) := by decide +kernel
theorem dX9_along_178 : decode cX9_along 178 = .ok (.iload 10, 2) := by decide +kernel
theorem dX9_along_180 : decode cX9_along 180 = .ok (.iload 9, 2) := by decide +kernel
theorem dX9_along_182 : decode cX9_along 182 = .ok (.isub, 1) := by decide +kernel
theorem dX9_along_183 : decode cX9_along 183 = .ok (.invokevirtual 323, 3) := by decide +kernel
theorem dX9_along_186 : decode cX9_along 186 = .ok (.iload 9, 2) := by decide +kernel
theorem dX9_along_188 : decode cX9_along 188 = .ok (.iadd, 1) := by decide +kernel
theorem dX9_along_189 : decode cX9_along 189 = .ok (.invokestatic 284, 3) := by decide +kernel
theorem dX9_along_192 : decode cX9_along 192 = .ok (.istore 10, 2) := by decide +kernel
theorem dX9_along_194 : decode cX9_along 194 = .ok (.iload 11, 2) := by decide +kernel
theorem dX9_along_196 : decode cX9_along 196 = .ok (.ifCond .ge 17, 3) := by decide +kernel
theorem dX9_along_199 : decode cX9_along 199 = .ok (.iload 10, 2) := by decide +kernel
theorem dX9_along_201 : decode cX9_along 201 = .ok (.aload 7, 2) := by decide +kernel
theorem dX9_along_203 : decode cX9_along 203 = .ok (.getfield 233, 3) := by decide +kernel
theorem dX9_along_206 : decode cX9_along 206 = .ok (.if_icmp .le 7, 3) := by decide +kernel
theorem dX9_along_209 : decode cX9_along 209 = .ok (.iload 12, 2) := by decide +kernel
theorem dX9_along_211 : decode cX9_along 211 = .ok (.istore 11, 2) := by decide +kernel
theorem dX9_along_213 : decode cX9_along 213 = .ok (.iinc 12 1, 3) := by decide +kernel
theorem dX9_along_216 : decode cX9_along 216 = .ok (.goto (-111), 3) := by decide +kernel
theorem dX9_along_219 : decode cX9_along 219 = .ok (.iload 6, 2) := by decide +kernel
theorem dX9_along_221 : decode cX9_along 221 = .ok (.ifCond .ne 8, 3) := by decide +kernel
theorem dX9_along_224 : decode cX9_along 224 = .ok (.iload 10, 2) := by decide +kernel
theorem dX9_along_226 : decode cX9_along 226 = .ok (.goto 5, 3) := by decide +kernel
theorem dX9_along_229 : decode cX9_along 229 = .ok (.iload 11, 2) := by decide +kernel
theorem dX9_along_231 : decode cX9_along 231 = .ok (.ireturn, 1) := by decide +kernel
theorem dX9_chains_0 : decode cX9_chains 0 = .ok (.iload_n 1, 1) := by decide +kernel
theorem dX9_chains_1 : decode cX9_chains 1 = .ok (.invokestatic 226, 3) := by decide +kernel
theorem dX9_chains_4 : decode cX9_chains 4 = .ok (.ifCond .eq 19, 3) := by decide +kernel
theorem dX9_chains_7 : decode cX9_chains 7 = .ok (.iload_n 2, 1) := by decide +kernel
theorem dX9_chains_8 : decode cX9_chains 8 = .ok (.invokestatic 335, 3) := by decide +kernel
theorem dX9_chains_11 : decode cX9_chains 11 = .ok (.ifCond .eq 12, 3) := by decide +kernel
theorem dX9_chains_14 : decode cX9_chains 14 = .ok (.iload_n 3, 1) := by decide +kernel
theorem dX9_chains_15 : decode cX9_chains 15 = .ok (.ifCond .lt 8, 3) := by decide +kernel
theorem dX9_chains_18 : decode cX9_chains 18 = .ok (.iload_n 3, 1) := by decide +kernel
theorem dX9_chains_19 : decode cX9_chains 19 = .ok (.iconst 3, 1) := by decide +kernel
theorem dX9_chains_20 : decode cX9_chains 20 = .ok (.if_icmp .le 5, 3) := by decide +kernel
theorem dX9_chains_23 : decode cX9_chains 23 = .ok (.iconst (-1), 1) := by decide +kernel
theorem dX9_chains_24 : decode cX9_chains 24 = .ok (.ireturn, 1) := by decide +kernel
theorem dX9_chains_25 : decode cX9_chains 25 = .ok (.aload_n 0, 1) := by decide +kernel
theorem dX9_chains_26 : decode cX9_chains 26 = .ok (.getfield 28, 3) := by decide +kernel
theorem dX9_chains_29 : decode cX9_chains 29 = .ok (.iload_n 1, 1) := by decide +kernel
theorem dX9_chains_30 : decode cX9_chains 30 = .ok (.invokevirtual 261, 3) := by decide +kernel
theorem dX9_chains_33 : decode cX9_chains 33 = .ok (.istore 4, 2) := by decide +kernel
theorem dX9_chains_35 : decode cX9_chains 35 = .ok (.iconst 0, 1) := by decide +kernel
theorem dX9_chains_36 : decode cX9_chains 36 = .ok (.istore 5, 2) := by decide +kernel
theorem dX9_chains_38 : decode cX9_chains 38 = .ok (.iconst 0, 1) := by decide +kernel
theorem dX9_chains_39 : decode cX9_chains 39 = .ok (.istore 6, 2) := by decide +kernel
theorem dX9_chains_41 : decode cX9_chains 41 = .ok (.iconst 0, 1) := by decide +kernel
theorem dX9_chains_42 : decode cX9_chains 42 = .ok (.istore 7, 2) := by decide +kernel
theorem dX9_chains_44 : decode cX9_chains 44 = .ok (.iconst 0, 1) := by decide +kernel
theorem dX9_chains_45 : decode cX9_chains 45 = .ok (.istore 8, 2) := by decide +kernel
theorem dX9_chains_47 : decode cX9_chains 47 = .ok (.iload 8, 2) := by decide +kernel
theorem dX9_chains_49 : decode cX9_chains 49 = .ok (.bipush 24, 2) := by decide +kernel
theorem dX9_chains_51 : decode cX9_chains 51 = .ok (.if_icmp .ge 79, 3) := by decide +kernel
theorem dX9_chains_54 : decode cX9_chains 54 = .ok (.iload 4, 2) := by decide +kernel
theorem dX9_chains_56 : decode cX9_chains 56 = .ok (.iload 8, 2) := by decide +kernel
theorem dX9_chains_58 : decode cX9_chains 58 = .ok (.invokestatic 273, 3) := by decide +kernel
theorem dX9_chains_61 : decode cX9_chains 61 = .ok (.ifCond .eq 63, 3) := by decide +kernel
theorem dX9_chains_64 : decode cX9_chains 64 = .ok (.aload_n 0, 1) := by decide +kernel
theorem dX9_chains_65 : decode cX9_chains 65 = .ok (.iload 8, 2) := by decide +kernel
theorem dX9_chains_67 : decode cX9_chains 67 = .ok (.iload 4, 2) := by decide +kernel
theorem dX9_chains_69 : decode cX9_chains 69 = .ok (.iload_n 2, 1) := by decide +kernel
theorem dX9_chains_70 : decode cX9_chains 70 = .ok (.invokevirtual 338, 3) := by decide +kernel
theorem dX9_chains_73 : decode cX9_chains 73 = .ok (.istore 9, 2) := by decide +kernel
theorem dX9_chains_75 : decode cX9_chains 75 = .ok (.iload 4, 2) := by decide +kernel
theorem dX9_chains_77 : decode cX9_chains 77 = .ok (.iload 9, 2) := by decide +kernel
theorem dX9_chains_79 : decode cX9_chains 79 = .ok (.iconst (-1), 1) := by decide +kernel
theorem dX9_chains_80 : decode cX9_chains 80 = .ok (.ixor, 1) := by decide +kernel
theorem dX9_chains_81 : decode cX9_chains 81 = .ok (.iand, 1) := by decide +kernel
theorem dX9_chains_82 : decode cX9_chains 82 = .ok (.istore 4, 2) := by decide +kernel
theorem dX9_chains_84 : decode cX9_chains 84 = .ok (.iinc 5 1, 3) := by decide +kernel
theorem dX9_chains_87 : decode cX9_chains 87 = .ok (.iload 6, 2) := by decide +kernel
theorem dX9_chains_89 : decode cX9_chains 89 = .ok (.iload 9, 2) := by decide +kernel
theorem dX9_chains_91 : decode cX9_chains 91 = .ok (.invokestatic 195, 3) := by decide +kernel
theorem dX9_chains_94 : decode cX9_chains 94 = .ok (.invokestatic 284, 3) := by decide +kernel
theorem dX9_chains_97 : decode cX9_chains 97 = .ok (.istore 6, 2) := by decide +kernel
theorem dX9_chains_99 : decode cX9_chains 99 = .ok (.aload_n 0, 1) := by decide +kernel
theorem dX9_chains_100 : decode cX9_chains 100 = .ok (.getfield 28, 3) := by decide +kernel
theorem dX9_chains_103 : decode cX9_chains 103 = .ok (.iload 9, 2) := by decide +kernel
theorem dX9_chains_105 : decode cX9_chains 105 = .ok (.invokevirtual 245, 3) := by decide +kernel
theorem dX9_chains_108 : decode cX9_chains 108 = .ok (.aload_n 0, 1) := by decide +kernel
theorem dX9_chains_109 : decode cX9_chains 109 = .ok (.getfield 28, 3) := by decide +kernel
theorem dX9_chains_112 : decode cX9_chains 112 = .ok (.iload 7, 2) := by decide +kernel
theorem dX9_chains_114 : decode cX9_chains 114 = .ok (.invokevirtual 245, 3) := by decide +kernel
theorem dX9_chains_117 : decode cX9_chains 117 = .ok (.if_icmp .le 7, 3) := by decide +kernel
theorem dX9_chains_120 : decode cX9_chains 120 = .ok (.iload 9, 2) := by decide +kernel
theorem dX9_chains_122 : decode cX9_chains 122 = .ok (.istore 7, 2) := by decide +kernel
theorem dX9_chains_124 : decode cX9_chains 124 = .ok (.iinc 8 1, 3) := by decide +kernel
theorem dX9_chains_127 : decode cX9_chains 127 = .ok (.goto (-80), 3) := by decide +kernel
theorem dX9_chains_130 : decode cX9_chains 130 = .ok (.iload_n 3, 1) := by decide +kernel
theorem dX9_chains_131 : decode cX9_chains 131 = .ok (.tableswitch 41 0 2 #[25, 28, 31], 25) := by decide +kernel
theorem dX9_chains_156 : decode cX9_chains 156 = .ok (.iload 5, 2) := by decide +kernel
theorem dX9_chains_158 : decode cX9_chains 158 = .ok (.ireturn, 1) := by decide +kernel
theorem dX9_chains_159 : decode cX9_chains 159 = .ok (.iload 6, 2) := by decide +kernel
theorem dX9_chains_161 : decode cX9_chains 161 = .ok (.ireturn, 1) := by decide +kernel
theorem dX9_chains_162 : decode cX9_chains 162 = .ok (.aload_n 0, 1) := by decide +kernel
theorem dX9_chains_163 : decode cX9_chains 163 = .ok (.getfield 28, 3) := by decide +kernel
theorem dX9_chains_166 : decode cX9_chains 166 = .ok (.iload 7, 2) := by decide +kernel
theorem dX9_chains_168 : decode cX9_chains 168 = .ok (.invokevirtual 245, 3) := by decide +kernel
theorem dX9_chains_171 : decode cX9_chains 171 = .ok (.ireturn, 1) := by decide +kernel
theorem dX9_chains_172 : decode cX9_chains 172 = .ok (.iload 7, 2) := by decide +kernel
theorem dX9_chains_174 : decode cX9_chains 174 = .ok (.ireturn, 1) := by decide +kernel
theorem dX9_chainFrom_0 : decode cX9_chainFrom 0 = .ok (.iconst 1, 1) := by decide +kernel
theorem dX9_chainFrom_1 : decode cX9_chainFrom 1 = .ok (.iload_n 1, 1) := by decide +kernel
theorem dX9_chainFrom_2 : decode cX9_chainFrom 2 = .ok (.ishl, 1) := by decide +kernel
theorem dX9_chainFrom_3 : decode cX9_chainFrom 3 = .ok (.istore 4, 2) := by decide +kernel
theorem dX9_chainFrom_5 : decode cX9_chainFrom 5 = .ok (.iconst 0, 1) := by decide +kernel
theorem dX9_chainFrom_6 : decode cX9_chainFrom 6 = .ok (.istore 5, 2) := by decide +kernel
theorem dX9_chainFrom_8 : decode cX9_chainFrom 8 = .ok (.iconst 0, 1) := by decide +kernel
theorem dX9_chainFrom_9 : decode cX9_chainFrom 9 = .ok (.istore 6, 2) := by decide +kernel
theorem dX9_chainFrom_11 : decode cX9_chainFrom 11 = .ok (.iload 6, 2) := by decide +kernel
theorem dX9_chainFrom_13 : decode cX9_chainFrom 13 = .ok (.bipush 24, 2) := by decide +kernel
theorem dX9_chainFrom_15 : decode cX9_chainFrom 15 = .ok (.if_icmp .ge 79, 3) := by decide +kernel
theorem dX9_chainFrom_18 : decode cX9_chainFrom 18 = .ok (.iload 4, 2) := by decide +kernel
theorem dX9_chainFrom_20 : decode cX9_chainFrom 20 = .ok (.iload 5, 2) := by decide +kernel
theorem dX9_chainFrom_22 : decode cX9_chainFrom 22 = .ok (.if_icmp .eq 72, 3) := by decide +kernel
theorem dX9_chainFrom_25 : decode cX9_chainFrom 25 = .ok (.iload 4, 2) := by decide +kernel
theorem dX9_chainFrom_27 : decode cX9_chainFrom 27 = .ok (.istore 5, 2) := by decide +kernel
theorem dX9_chainFrom_29 : decode cX9_chainFrom 29 = .ok (.iconst 0, 1) := by decide +kernel
theorem dX9_chainFrom_30 : decode cX9_chainFrom 30 = .ok (.istore 7, 2) := by decide +kernel
theorem dX9_chainFrom_32 : decode cX9_chainFrom 32 = .ok (.iload 7, 2) := by decide +kernel
theorem dX9_chainFrom_34 : decode cX9_chainFrom 34 = .ok (.bipush 24, 2) := by decide +kernel
theorem dX9_chainFrom_36 : decode cX9_chainFrom 36 = .ok (.if_icmp .ge 52, 3) := by decide +kernel
theorem dX9_chainFrom_39 : decode cX9_chainFrom 39 = .ok (.iload 4, 2) := by decide +kernel
theorem dX9_chainFrom_41 : decode cX9_chainFrom 41 = .ok (.iload 7, 2) := by decide +kernel
theorem dX9_chainFrom_43 : decode cX9_chainFrom 43 = .ok (.invokestatic 273, 3) := by decide +kernel
theorem dX9_chainFrom_46 : decode cX9_chainFrom 46 = .ok (.ifCond .eq 36, 3) := by decide +kernel
theorem dX9_chainFrom_49 : decode cX9_chainFrom 49 = .ok (.iload 4, 2) := by decide +kernel
theorem dX9_chainFrom_51 : decode cX9_chainFrom 51 = .ok (.iload_n 2, 1) := by decide +kernel
theorem dX9_chainFrom_52 : decode cX9_chainFrom 52 = .ok (.aload_n 0, 1) := by decide +kernel
theorem dX9_chainFrom_53 : decode cX9_chainFrom 53 = .ok (.getfield 28, 3) := by decide +kernel
theorem dX9_chainFrom_56 : decode cX9_chainFrom 56 = .ok (.aload_n 0, 1) := by decide +kernel
theorem dX9_chainFrom_57 : decode cX9_chainFrom 57 = .ok (.getfield 28, 3) := by decide +kernel
theorem dX9_chainFrom_60 : decode cX9_chainFrom 60 = .ok (.iload 7, 2) := by decide +kernel
theorem dX9_chainFrom_62 : decode cX9_chainFrom 62 = .ok (.invokevirtual 186, 3) := by decide +kernel
theorem dX9_chainFrom_65 : decode cX9_chainFrom 65 = .ok (.aload_n 0, 1) := by decide +kernel
theorem dX9_chainFrom_66 : decode cX9_chainFrom 66 = .ok (.getfield 28, 3) := by decide +kernel
theorem dX9_chainFrom_69 : decode cX9_chainFrom 69 = .ok (.iload 7, 2) := by decide +kernel
theorem dX9_chainFrom_71 : decode cX9_chainFrom 71 = .ok (.invokevirtual 189, 3) := by decide +kernel
theorem dX9_chainFrom_74 : decode cX9_chainFrom 74 = .ok (.iload_n 3, 1) := by decide +kernel
theorem dX9_chainFrom_75 : decode cX9_chainFrom 75 = .ok (.invokevirtual 192, 3) := by decide +kernel
theorem dX9_chainFrom_78 : decode cX9_chainFrom 78 = .ok (.iand, 1) := by decide +kernel
theorem dX9_chainFrom_79 : decode cX9_chainFrom 79 = .ok (.ior, 1) := by decide +kernel
theorem dX9_chainFrom_80 : decode cX9_chainFrom 80 = .ok (.istore 4, 2) := by decide +kernel
theorem dX9_chainFrom_82 : decode cX9_chainFrom 82 = .ok (.iinc 7 1, 3) := by decide +kernel
theorem dX9_chainFrom_85 : decode cX9_chainFrom 85 = .ok (.goto (-53), 3) := by decide +kernel
theorem dX9_chainFrom_88 : decode cX9_chainFrom 88 = .ok (.iinc 6 1, 3) := by decide +kernel
theorem dX9_chainFrom_91 : decode cX9_chainFrom 91 = .ok (.goto (-80), 3) := by decide +kernel
theorem dX9_chainFrom_94 : decode cX9_chainFrom 94 = .ok (.iload 4, 2) := by decide +kernel
theorem dX9_chainFrom_96 : decode cX9_chainFrom 96 = .ok (.ireturn, 1) := by decide +kernel
theorem dX9_heaviest_0 : decode cX9_heaviest 0 = .ok (.iload_n 1, 1) := by decide +kernel
theorem dX9_heaviest_1 : decode cX9_heaviest 1 = .ok (.invokestatic 226, 3) := by decide +kernel
theorem dX9_heaviest_4 : decode cX9_heaviest 4 = .ok (.ifCond .eq 10, 3) := by decide +kernel
theorem dX9_heaviest_7 : decode cX9_heaviest 7 = .ok (.iload_n 2, 1) := by decide +kernel
theorem dX9_heaviest_8 : decode cX9_heaviest 8 = .ok (.invokestatic 229, 3) := by decide +kernel
theorem dX9_heaviest_11 : decode cX9_heaviest 11 = .ok (.ifCond .ne 5, 3) := by decide +kernel
theorem dX9_heaviest_14 : decode cX9_heaviest 14 = .ok (.iconst (-1), 1) := by decide +kernel
theorem dX9_heaviest_15 : decode cX9_heaviest 15 = .ok (.ireturn, 1) := by decide +kernel
theorem dX9_heaviest_16 : decode cX9_heaviest 16 = .ok (.aload_n 0, 1) := by decide +kernel
theorem dX9_heaviest_17 : decode cX9_heaviest 17 = .ok (.getfield 28, 3) := by decide +kernel
theorem dX9_heaviest_20 : decode cX9_heaviest 20 = .ok (.aload_n 0, 1) := by decide +kernel
theorem dX9_heaviest_21 : decode cX9_heaviest 21 = .ok (.aload_n 0, 1) := by decide +kernel
theorem dX9_heaviest_22 : decode cX9_heaviest 22 = .ok (.getfield 28, 3) := by decide +kernel
theorem dX9_heaviest_25 : decode cX9_heaviest 25 = .ok (.iload_n 1, 1) := by decide +kernel
theorem dX9_heaviest_26 : decode cX9_heaviest 26 = .ok (.invokevirtual 261, 3) := by decide +kernel
theorem dX9_heaviest_29 : decode cX9_heaviest 29 = .ok (.iload_n 2, 1) := by decide +kernel
theorem dX9_heaviest_30 : decode cX9_heaviest 30 = .ok (.invokevirtual 341, 3) := by decide +kernel
theorem dX9_heaviest_33 : decode cX9_heaviest 33 = .ok (.invokevirtual 245, 3) := by decide +kernel
theorem dX9_heaviest_36 : decode cX9_heaviest 36 = .ok (.ireturn, 1) := by decide +kernel
theorem dX9_heaviestSet_0 : decode cX9_heaviestSet 0 = .ok (.iload_n 1, 1) := by decide +kernel
theorem dX9_heaviestSet_1 : decode cX9_heaviestSet 1 = .ok (.invokestatic 226, 3) := by decide +kernel
theorem dX9_heaviestSet_4 : decode cX9_heaviestSet 4 = .ok (.ifCond .eq 10, 3) := by decide +kernel
theorem dX9_heaviestSet_7 : decode cX9_heaviestSet 7 = .ok (.iload_n 2, 1) := by decide +kernel
theorem dX9_heaviestSet_8 : decode cX9_heaviestSet 8 = .ok (.invokestatic 229, 3) := by decide +kernel
theorem dX9_heaviestSet_11 : decode cX9_heaviestSet 11 = .ok (.ifCond .ne 5, 3) := by decide +kernel
theorem dX9_heaviestSet_14 : decode cX9_heaviestSet 14 = .ok (.iconst (-1), 1) := by decide +kernel
theorem dX9_heaviestSet_15 : decode cX9_heaviestSet 15 = .ok (.ireturn, 1) := by decide +kernel
theorem dX9_heaviestSet_16 : decode cX9_heaviestSet 16 = .ok (.aload_n 0, 1) := by decide +kernel
theorem dX9_heaviestSet_17 : decode cX9_heaviestSet 17 = .ok (.aload_n 0, 1) := by decide +kernel
theorem dX9_heaviestSet_18 : decode cX9_heaviestSet 18 = .ok (.getfield 28, 3) := by decide +kernel
theorem dX9_heaviestSet_21 : decode cX9_heaviestSet 21 = .ok (.iload_n 1, 1) := by decide +kernel
theorem dX9_heaviestSet_22 : decode cX9_heaviestSet 22 = .ok (.invokevirtual 261, 3) := by decide +kernel
theorem dX9_heaviestSet_25 : decode cX9_heaviestSet 25 = .ok (.iload_n 2, 1) := by decide +kernel
theorem dX9_heaviestSet_26 : decode cX9_heaviestSet 26 = .ok (.invokevirtual 341, 3) := by decide +kernel
theorem dX9_heaviestSet_29 : decode cX9_heaviestSet 29 = .ok (.ireturn, 1) := by decide +kernel
theorem dX9_heaviestOf_0 : decode cX9_heaviestOf 0 = .ok (.aload_n 0, 1) := by decide +kernel
theorem dX9_heaviestOf_1 : decode cX9_heaviestOf 1 = .ok (.getfield 64, 3) := by decide +kernel
theorem dX9_heaviestOf_4 : decode cX9_heaviestOf 4 = .ok (.iload_n 2, 1) := by decide +kernel
theorem dX9_heaviestOf_5 : decode cX9_heaviestOf 5 = .ok (.iload_n 1, 1) := by decide +kernel
theorem dX9_heaviestOf_6 : decode cX9_heaviestOf 6 = .ok (.invokevirtual 264, 3) := by decide +kernel
theorem dX9_heaviestOf_9 : decode cX9_heaviestOf 9 = .ok (.aload_n 0, 1) := by decide +kernel
theorem dX9_heaviestOf_10 : decode cX9_heaviestOf 10 = .ok (.getfield 64, 3) := by decide +kernel
theorem dX9_heaviestOf_13 : decode cX9_heaviestOf 13 = .ok (.ldc_w 322, 3) := by decide +kernel
theorem dX9_heaviestOf_16 : decode cX9_heaviestOf 16 = .ok (.invokevirtual 344, 3) := by decide +kernel
theorem dX9_heaviestOf_19 : decode cX9_heaviestOf 19 = .ok (.ireturn, 1) := by decide +kernel
theorem dX9_two_0 : decode cX9_two 0 = .ok (.iload_n 1, 1) := by decide +kernel
theorem dX9_two_1 : decode cX9_two 1 = .ok (.invokestatic 226, 3) := by decide +kernel
theorem dX9_two_4 : decode cX9_two 4 = .ok (.ifCond .eq 19, 3) := by decide +kernel
theorem dX9_two_7 : decode cX9_two 7 = .ok (.iload_n 2, 1) := by decide +kernel
theorem dX9_two_8 : decode cX9_two 8 = .ok (.invokestatic 229, 3) := by decide +kernel
theorem dX9_two_11 : decode cX9_two 11 = .ok (.ifCond .eq 12, 3) := by decide +kernel
theorem dX9_two_14 : decode cX9_two 14 = .ok (.iload_n 3, 1) := by decide +kernel
theorem dX9_two_15 : decode cX9_two 15 = .ok (.ifCond .lt 8, 3) := by decide +kernel
theorem dX9_two_18 : decode cX9_two 18 = .ok (.iload_n 3, 1) := by decide +kernel
theorem dX9_two_19 : decode cX9_two 19 = .ok (.iconst 1, 1) := by decide +kernel
theorem dX9_two_20 : decode cX9_two 20 = .ok (.if_icmp .le 5, 3) := by decide +kernel
theorem dX9_two_23 : decode cX9_two 23 = .ok (.iconst (-1), 1) := by decide +kernel
theorem dX9_two_24 : decode cX9_two 24 = .ok (.ireturn, 1) := by decide +kernel
theorem dX9_two_25 : decode cX9_two 25 = .ok (.aload_n 0, 1) := by decide +kernel
theorem dX9_two_26 : decode cX9_two 26 = .ok (.getfield 64, 3) := by decide +kernel
theorem dX9_two_29 : decode cX9_two 29 = .ok (.iload_n 2, 1) := by decide +kernel
theorem dX9_two_30 : decode cX9_two 30 = .ok (.aload_n 0, 1) := by decide +kernel
theorem dX9_two_31 : decode cX9_two 31 = .ok (.getfield 28, 3) := by decide +kernel
theorem dX9_two_34 : decode cX9_two 34 = .ok (.iload_n 1, 1) := by decide +kernel
theorem dX9_two_35 : decode cX9_two 35 = .ok (.invokevirtual 261, 3) := by decide +kernel
theorem dX9_two_38 : decode cX9_two 38 = .ok (.invokevirtual 264, 3) := by decide +kernel
theorem dX9_two_41 : decode cX9_two 41 = .ok (.aload_n 0, 1) := by decide +kernel
theorem dX9_two_42 : decode cX9_two 42 = .ok (.getfield 71, 3) := by decide +kernel
theorem dX9_two_45 : decode cX9_two 45 = .ok (.aload_n 0, 1) := by decide +kernel
theorem dX9_two_46 : decode cX9_two 46 = .ok (.getfield 64, 3) := by decide +kernel
theorem dX9_two_49 : decode cX9_two 49 = .ok (.invokevirtual 347, 3) := by decide +kernel
theorem dX9_two_52 : decode cX9_two 52 = .ok (.aload_n 0, 1) := by decide +kernel
theorem dX9_two_53 : decode cX9_two 53 = .ok (.getfield 71, 3) := by decide +kernel
theorem dX9_two_56 : decode cX9_two 56 = .ok (.aload_n 0, 1) := by decide +kernel
theorem dX9_two_57 : decode cX9_two 57 = .ok (.getfield 28, 3) := by decide +kernel
theorem dX9_two_60 : decode cX9_two 60 = .ok (.invokevirtual 351, 3) := by decide +kernel
theorem dX9_two_63 : decode cX9_two 63 = .ok (.istore 4, 2) := by decide +kernel
theorem dX9_two_65 : decode cX9_two 65 = .ok (.iload_n 3, 1) := by decide +kernel
theorem dX9_two_66 : decode cX9_two 66 = .ok (.ifCond .ne 15, 3) := by decide +kernel
theorem dX9_two_69 : decode cX9_two 69 = .ok (.aload_n 0, 1) := by decide +kernel
theorem dX9_two_70 : decode cX9_two 70 = .ok (.getfield 28, 3) := by decide +kernel
theorem dX9_two_73 : decode cX9_two 73 = .ok (.iload 4, 2) := by decide +kernel
theorem dX9_two_75 : decode cX9_two 75 = .ok (.invokevirtual 245, 3) := by decide +kernel
theorem dX9_two_78 : decode cX9_two 78 = .ok (.goto 5, 3) := by decide +kernel
theorem dX9_two_81 : decode cX9_two 81 = .ok (.iload 4, 2) := by decide +kernel
theorem dX9_two_83 : decode cX9_two 83 = .ok (.ireturn, 1) := by decide +kernel
theorem dX9_cover_0 : decode cX9_cover 0 = .ok (.iload_n 1, 1) := by decide +kernel
theorem dX9_cover_1 : decode cX9_cover 1 = .ok (.invokestatic 226, 3) := by decide +kernel
theorem dX9_cover_4 : decode cX9_cover 4 = .ok (.ifCond .eq 10, 3) := by decide +kernel
theorem dX9_cover_7 : decode cX9_cover 7 = .ok (.iload_n 2, 1) := by decide +kernel
theorem dX9_cover_8 : decode cX9_cover 8 = .ok (.invokestatic 229, 3) := by decide +kernel
theorem dX9_cover_11 : decode cX9_cover 11 = .ok (.ifCond .ne 5, 3) := by decide +kernel
theorem dX9_cover_14 : decode cX9_cover 14 = .ok (.iconst (-1), 1) := by decide +kernel
theorem dX9_cover_15 : decode cX9_cover 15 = .ok (.ireturn, 1) := by decide +kernel
theorem dX9_cover_16 : decode cX9_cover 16 = .ok (.aload_n 0, 1) := by decide +kernel
theorem dX9_cover_17 : decode cX9_cover 17 = .ok (.getfield 28, 3) := by decide +kernel
theorem dX9_cover_20 : decode cX9_cover 20 = .ok (.iload_n 1, 1) := by decide +kernel
theorem dX9_cover_21 : decode cX9_cover 21 = .ok (.invokevirtual 261, 3) := by decide +kernel
theorem dX9_cover_24 : decode cX9_cover 24 = .ok (.istore_n 3, 1) := by decide +kernel
theorem dX9_cover_25 : decode cX9_cover 25 = .ok (.iload_n 3, 1) := by decide +kernel
theorem dX9_cover_26 : decode cX9_cover 26 = .ok (.ifCond .ne 5, 3) := by decide +kernel
theorem dX9_cover_29 : decode cX9_cover 29 = .ok (.iconst 0, 1) := by decide +kernel
theorem dX9_cover_30 : decode cX9_cover 30 = .ok (.ireturn, 1) := by decide +kernel
theorem dX9_cover_31 : decode cX9_cover 31 = .ok (.aload_n 0, 1) := by decide +kernel
theorem dX9_cover_32 : decode cX9_cover 32 = .ok (.getfield 64, 3) := by decide +kernel
theorem dX9_cover_35 : decode cX9_cover 35 = .ok (.iload_n 2, 1) := by decide +kernel
theorem dX9_cover_36 : decode cX9_cover 36 = .ok (.iload_n 3, 1) := by decide +kernel
theorem dX9_cover_37 : decode cX9_cover 37 = .ok (.invokevirtual 264, 3) := by decide +kernel
theorem dX9_cover_40 : decode cX9_cover 40 = .ok (.aload_n 0, 1) := by decide +kernel
theorem dX9_cover_41 : decode cX9_cover 41 = .ok (.getfield 71, 3) := by decide +kernel
theorem dX9_cover_44 : decode cX9_cover 44 = .ok (.aload_n 0, 1) := by decide +kernel
theorem dX9_cover_45 : decode cX9_cover 45 = .ok (.getfield 64, 3) := by decide +kernel
theorem dX9_cover_48 : decode cX9_cover 48 = .ok (.invokevirtual 347, 3) := by decide +kernel
theorem dX9_cover_51 : decode cX9_cover 51 = .ok (.aload_n 0, 1) := by decide +kernel
theorem dX9_cover_52 : decode cX9_cover 52 = .ok (.getfield 71, 3) := by decide +kernel
theorem dX9_cover_55 : decode cX9_cover 55 = .ok (.iload_n 3, 1) := by decide +kernel
theorem dX9_cover_56 : decode cX9_cover 56 = .ok (.invokevirtual 355, 3) := by decide +kernel
theorem dX9_cover_59 : decode cX9_cover 59 = .ok (.ireturn, 1) := by decide +kernel
theorem dX9_square_0 : decode cX9_square 0 = .ok (.iload_n 1, 1) := by decide +kernel
theorem dX9_square_1 : decode cX9_square 1 = .ok (.invokestatic 226, 3) := by decide +kernel
theorem dX9_square_4 : decode cX9_square 4 = .ok (.ifCond .eq 23, 3) := by decide +kernel
theorem dX9_square_7 : decode cX9_square 7 = .ok (.iload_n 2, 1) := by decide +kernel
theorem dX9_square_8 : decode cX9_square 8 = .ok (.ifCond .lt 19, 3) := by decide +kernel
theorem dX9_square_11 : decode cX9_square 11 = .ok (.iload_n 2, 1) := by decide +kernel
theorem dX9_square_12 : decode cX9_square 12 = .ok (.sipush 300, 3) := by decide +kernel
theorem dX9_square_15 : decode cX9_square 15 = .ok (.if_icmp .ge 12, 3) := by decide +kernel
theorem dX9_square_18 : decode cX9_square 18 = .ok (.iload_n 3, 1) := by decide +kernel
theorem dX9_square_19 : decode cX9_square 19 = .ok (.ifCond .lt 8, 3) := by decide +kernel
theorem dX9_square_22 : decode cX9_square 22 = .ok (.iload_n 3, 1) := by decide +kernel
theorem dX9_square_23 : decode cX9_square 23 = .ok (.iconst 2, 1) := by decide +kernel
theorem dX9_square_24 : decode cX9_square 24 = .ok (.if_icmp .le 5, 3) := by decide +kernel
theorem dX9_square_27 : decode cX9_square 27 = .ok (.iconst (-1), 1) := by decide +kernel
theorem dX9_square_28 : decode cX9_square 28 = .ok (.ireturn, 1) := by decide +kernel
theorem dX9_square_29 : decode cX9_square 29 = .ok (.aload_n 0, 1) := by decide +kernel
theorem dX9_square_30 : decode cX9_square 30 = .ok (.getfield 28, 3) := by decide +kernel
theorem dX9_square_33 : decode cX9_square 33 = .ok (.iload_n 1, 1) := by decide +kernel
theorem dX9_square_34 : decode cX9_square 34 = .ok (.invokevirtual 261, 3) := by decide +kernel
theorem dX9_square_37 : decode cX9_square 37 = .ok (.istore 4, 2) := by decide +kernel
theorem dX9_square_39 : decode cX9_square 39 = .ok (.iconst 0, 1) := by decide +kernel
theorem dX9_square_40 : decode cX9_square 40 = .ok (.istore 5, 2) := by decide +kernel
theorem dX9_square_42 : decode cX9_square 42 = .ok (.bipush (-2), 2) := by decide +kernel
theorem dX9_square_44 : decode cX9_square 44 = .ok (.istore 6, 2) := by decide +kernel
theorem dX9_square_46 : decode cX9_square 46 = .ok (.bipush (-2), 2) := by decide +kernel
theorem dX9_square_48 : decode cX9_square 48 = .ok (.istore 7, 2) := by decide +kernel
theorem dX9_square_50 : decode cX9_square 50 = .ok (.iconst 0, 1) := by decide +kernel
theorem dX9_square_51 : decode cX9_square 51 = .ok (.istore 8, 2) := by decide +kernel
theorem dX9_square_53 : decode cX9_square 53 = .ok (.iload 8, 2) := by decide +kernel
theorem dX9_square_55 : decode cX9_square 55 = .ok (.bipush 24, 2) := by decide +kernel
theorem dX9_square_57 : decode cX9_square 57 = .ok (.if_icmp .ge 150, 3) := by decide +kernel
theorem dX9_square_60 : decode cX9_square 60 = .ok (.iconst 0, 1) := by decide +kernel
theorem dX9_square_61 : decode cX9_square 61 = .ok (.istore 9, 2) := by decide +kernel
theorem dX9_square_63 : decode cX9_square 63 = .ok (.iload 9, 2) := by decide +kernel
theorem dX9_square_65 : decode cX9_square 65 = .ok (.bipush 24, 2) := by decide +kernel
theorem dX9_square_67 : decode cX9_square 67 = .ok (.if_icmp .ge 134, 3) := by decide +kernel
theorem dX9_square_70 : decode cX9_square 70 = .ok (.iload 4, 2) := by decide +kernel
theorem dX9_square_72 : decode cX9_square 72 = .ok (.iload 8, 2) := by decide +kernel
theorem dX9_square_74 : decode cX9_square 74 = .ok (.invokestatic 273, 3) := by decide +kernel
theorem dX9_square_77 : decode cX9_square 77 = .ok (.ifCond .eq 118, 3) := by decide +kernel
theorem dX9_square_80 : decode cX9_square 80 = .ok (.iload 4, 2) := by decide +kernel
theorem dX9_square_82 : decode cX9_square 82 = .ok (.iload 9, 2) := by decide +kernel
theorem dX9_square_84 : decode cX9_square 84 = .ok (.invokestatic 273, 3) := by decide +kernel
theorem dX9_square_87 : decode cX9_square 87 = .ok (.ifCond .eq 108, 3) := by decide +kernel
theorem dX9_square_90 : decode cX9_square 90 = .ok (.aload_n 0, 1) := by decide +kernel
theorem dX9_square_91 : decode cX9_square 91 = .ok (.getfield 28, 3) := by decide +kernel
theorem dX9_square_94 : decode cX9_square 94 = .ok (.iload 8, 2) := by decide +kernel
theorem dX9_square_96 : decode cX9_square 96 = .ok (.invokevirtual 186, 3) := by decide +kernel
theorem dX9_square_99 : decode cX9_square 99 = .ok (.istore 10, 2) := by decide +kernel
theorem dX9_square_101 : decode cX9_square 101 = .ok (.aload_n 0, 1) := by decide +kernel
theorem dX9_square_102 : decode cX9_square 102 = .ok (.getfield 28, 3) := by decide +kernel
theorem dX9_square_105 : decode cX9_square 105 = .ok (.iload 9, 2) := by decide +kernel
theorem dX9_square_107 : decode cX9_square 107 = .ok (.invokevirtual 189, 3) := by decide +kernel
theorem dX9_square_110 : decode cX9_square 110 = .ok (.istore 11, 2) := by decide +kernel
theorem dX9_square_112 : decode cX9_square 112 = .ok (.aload_n 0, 1) := by decide +kernel
theorem dX9_square_113 : decode cX9_square 113 = .ok (.getfield 28, 3) := by decide +kernel
theorem dX9_square_116 : decode cX9_square 116 = .ok (.iload 4, 2) := by decide +kernel
theorem dX9_square_118 : decode cX9_square 118 = .ok (.aload_n 0, 1) := by decide +kernel
theorem dX9_square_119 : decode cX9_square 119 = .ok (.getfield 28, 3) := by decide +kernel
theorem dX9_square_122 : decode cX9_square 122 = .ok (.iload 10, 2) := by decide +kernel
theorem dX9_square_124 : decode cX9_square 124 = .ok (.iload 11, 2) := by decide +kernel
theorem dX9_square_126 : decode cX9_square 126 = .ok (.iload_n 2, 1) := by decide +kernel
theorem dX9_square_127 : decode cX9_square 127 = .ok (.invokevirtual 358, 3) := by decide +kernel
theorem dX9_square_130 : decode cX9_square 130 = .ok (.iand, 1) := by decide +kernel
theorem dX9_square_131 : decode cX9_square 131 = .ok (.invokevirtual 245, 3) := by decide +kernel
theorem dX9_square_134 : decode cX9_square 134 = .ok (.istore 12, 2) := by decide +kernel
theorem dX9_square_136 : decode cX9_square 136 = .ok (.iload 10, 2) := by decide +kernel
theorem dX9_square_138 : decode cX9_square 138 = .ok (.iload 6, 2) := by decide +kernel
theorem dX9_square_140 : decode cX9_square 140 = .ok (.if_icmp .lt 17, 3) := by decide +kernel
theorem dX9_square_143 : decode cX9_square 143 = .ok (.iload 10, 2) := by decide +kernel
theorem dX9_square_145 : decode cX9_square 145 = .ok (.iload 6, 2) := by decide +kernel
theorem dX9_square_147 : decode cX9_square 147 = .ok (.if_icmp .ne 14, 3) := by decide +kernel
theorem dX9_square_150 : decode cX9_square 150 = .ok (.iload 11, 2) := by decide +kernel
theorem dX9_square_152 : decode cX9_square 152 = .ok (.iload 7, 2) := by decide +kernel
theorem dX9_square_154 : decode cX9_square 154 = .ok (.if_icmp .ge 7, 3) := by decide +kernel
theorem dX9_square_157 : decode cX9_square 157 = .ok (.iconst 1, 1) := by decide +kernel
theorem dX9_square_158 : decode cX9_square 158 = .ok (.goto 4, 3) := by decide +kernel
theorem dX9_square_161 : decode cX9_square 161 = .ok (.iconst 0, 1) := by decide +kernel
theorem dX9_square_162 : decode cX9_square 162 = .ok (.istore 13, 2) := by decide +kernel
theorem dX9_square_164 : decode cX9_square 164 = .ok (.iload 12, 2) := by decide +kernel
theorem dX9_square_166 : decode cX9_square 166 = .ok (.iload 5, 2) := by decide +kernel
theorem dX9_square_168 : decode cX9_square 168 = .ok (.if_icmp .gt 15, 3) := by decide +kernel
theorem dX9_square_171 : decode cX9_square 171 = .ok (.iload 12, 2) := by decide +kernel
theorem dX9_square_173 : decode cX9_square 173 = .ok (.iload 5, 2) := by decide +kernel
theorem dX9_square_175 : decode cX9_square 175 = .ok (.if_icmp .ne 20, 3) := by decide +kernel
theorem dX9_square_178 : decode cX9_square 178 = .ok (.iload 13, 2) := by decide +kernel
theorem dX9_square_180 : decode cX9_square 180 = .ok (.ifCond .eq 15, 3) := by decide +kernel
theorem dX9_square_183 : decode cX9_square 183 = .ok (.iload 12, 2) := by decide +kernel
theorem dX9_square_185 : decode cX9_square 185 = .ok (.istore 5, 2) := by decide +kernel
theorem dX9_square_187 : decode cX9_square 187 = .ok (.iload 10, 2) := by decide +kernel
theorem dX9_square_189 : decode cX9_square 189 = .ok (.istore 6, 2) := by decide +kernel
theorem dX9_square_191 : decode cX9_square 191 = .ok (.iload 11, 2) := by decide +kernel
theorem dX9_square_193 : decode cX9_square 193 = .ok (.istore 7, 2) := by decide +kernel
theorem dX9_square_195 : decode cX9_square 195 = .ok (.iinc 9 1, 3) := by decide +kernel
theorem dX9_square_198 : decode cX9_square 198 = .ok (.goto (-135), 3) := by decide +kernel
theorem dX9_square_201 : decode cX9_square 201 = .ok (.iinc 8 1, 3) := by decide +kernel
theorem dX9_square_204 : decode cX9_square 204 = .ok (.goto (-151), 3) := by decide +kernel
theorem dX9_square_207 : decode cX9_square 207 = .ok (.iload_n 3, 1) := by decide +kernel
theorem dX9_square_208 : decode cX9_square 208 = .ok (.ifCond .ne 8, 3) := by decide +kernel
theorem dX9_square_211 : decode cX9_square 211 = .ok (.iload 5, 2) := by decide +kernel
theorem dX9_square_213 : decode cX9_square 213 = .ok (.goto 15, 3) := by decide +kernel
theorem dX9_square_216 : decode cX9_square 216 = .ok (.iload_n 3, 1) := by decide +kernel
theorem dX9_square_217 : decode cX9_square 217 = .ok (.iconst 1, 1) := by decide +kernel
theorem dX9_square_218 : decode cX9_square 218 = .ok (.if_icmp .ne 8, 3) := by decide +kernel
theorem dX9_square_221 : decode cX9_square 221 = .ok (.iload 6, 2) := by decide +kernel
theorem dX9_square_223 : decode cX9_square 223 = .ok (.goto 5, 3) := by decide +kernel
theorem dX9_square_226 : decode cX9_square 226 = .ok (.iload 7, 2) := by decide +kernel
theorem dX9_square_228 : decode cX9_square 228 = .ok (.ireturn, 1) := by decide +kernel
theorem dX9_radiusFor_0 : decode cX9_radiusFor 0 = .ok (.iload_n 1, 1) := by decide +kernel
theorem dX9_radiusFor_1 : decode cX9_radiusFor 1 = .ok (.invokestatic 226, 3) := by decide +kernel
theorem dX9_radiusFor_4 : decode cX9_radiusFor 4 = .ok (.ifCond .eq 8, 3) := by decide +kernel
theorem dX9_radiusFor_7 : decode cX9_radiusFor 7 = .ok (.iload_n 2, 1) := by decide +kernel
theorem dX9_radiusFor_8 : decode cX9_radiusFor 8 = .ok (.iconst 1, 1) := by decide +kernel
theorem dX9_radiusFor_9 : decode cX9_radiusFor 9 = .ok (.if_icmp .ge 5, 3) := by decide +kernel
theorem dX9_radiusFor_12 : decode cX9_radiusFor 12 = .ok (.iconst (-1), 1) := by decide +kernel
theorem dX9_radiusFor_13 : decode cX9_radiusFor 13 = .ok (.ireturn, 1) := by decide +kernel
theorem dX9_radiusFor_14 : decode cX9_radiusFor 14 = .ok (.aload_n 0, 1) := by decide +kernel
theorem dX9_radiusFor_15 : decode cX9_radiusFor 15 = .ok (.getfield 28, 3) := by decide +kernel
theorem dX9_radiusFor_18 : decode cX9_radiusFor 18 = .ok (.iload_n 1, 1) := by decide +kernel
theorem dX9_radiusFor_19 : decode cX9_radiusFor 19 = .ok (.invokevirtual 261, 3) := by decide +kernel
theorem dX9_radiusFor_22 : decode cX9_radiusFor 22 = .ok (.istore_n 3, 1) := by decide +kernel
theorem dX9_radiusFor_23 : decode cX9_radiusFor 23 = .ok (.aload_n 0, 1) := by decide +kernel
theorem dX9_radiusFor_24 : decode cX9_radiusFor 24 = .ok (.getfield 28, 3) := by decide +kernel
theorem dX9_radiusFor_27 : decode cX9_radiusFor 27 = .ok (.iload_n 3, 1) := by decide +kernel
theorem dX9_radiusFor_28 : decode cX9_radiusFor 28 = .ok (.invokevirtual 245, 3) := by decide +kernel
theorem dX9_radiusFor_31 : decode cX9_radiusFor 31 = .ok (.iload_n 2, 1) := by decide +kernel
theorem dX9_radiusFor_32 : decode cX9_radiusFor 32 = .ok (.if_icmp .lt 22, 3) := by decide +kernel
theorem dX9_radiusFor_35 : decode cX9_radiusFor 35 = .ok (.aload_n 0, 1) := by decide +kernel
theorem dX9_radiusFor_36 : decode cX9_radiusFor 36 = .ok (.getfield 28, 3) := by decide +kernel
theorem dX9_radiusFor_39 : decode cX9_radiusFor 39 = .ok (.aload_n 0, 1) := by decide +kernel
theorem dX9_radiusFor_40 : decode cX9_radiusFor 40 = .ok (.iload_n 3, 1) := by decide +kernel
theorem dX9_radiusFor_41 : decode cX9_radiusFor 41 = .ok (.sipush 300, 3) := by decide +kernel
theorem dX9_radiusFor_44 : decode cX9_radiusFor 44 = .ok (.invokevirtual 341, 3) := by decide +kernel
theorem dX9_radiusFor_47 : decode cX9_radiusFor 47 = .ok (.invokevirtual 245, 3) := by decide +kernel
theorem dX9_radiusFor_50 : decode cX9_radiusFor 50 = .ok (.iload_n 2, 1) := by decide +kernel
theorem dX9_radiusFor_51 : decode cX9_radiusFor 51 = .ok (.if_icmp .ge 6, 3) := by decide +kernel
theorem dX9_radiusFor_54 : decode cX9_radiusFor 54 = .ok (.bipush (-2), 2) := by decide +kernel
theorem dX9_radiusFor_56 : decode cX9_radiusFor 56 = .ok (.ireturn, 1) := by decide +kernel
theorem dX9_radiusFor_57 : decode cX9_radiusFor 57 = .ok (.iconst 1, 1) := by decide +kernel
theorem dX9_radiusFor_58 : decode cX9_radiusFor 58 = .ok (.istore 4, 2) := by decide +kernel
theorem dX9_radiusFor_60 : decode cX9_radiusFor 60 = .ok (.sipush 300, 3) := by decide +kernel
theorem dX9_radiusFor_63 : decode cX9_radiusFor 63 = .ok (.istore 5, 2) := by decide +kernel
theorem dX9_radiusFor_65 : decode cX9_radiusFor 65 = .ok (.iconst 0, 1) := by decide +kernel
theorem dX9_radiusFor_66 : decode cX9_radiusFor 66 = .ok (.istore 6, 2) := by decide +kernel
theorem dX9_radiusFor_68 : decode cX9_radiusFor 68 = .ok (.iload 6, 2) := by decide +kernel
theorem dX9_radiusFor_70 : decode cX9_radiusFor 70 = .ok (.sipush 300, 3) := by decide +kernel
theorem dX9_radiusFor_73 : decode cX9_radiusFor 73 = .ok (.if_icmp .ge 56, 3) := by decide +kernel
theorem dX9_radiusFor_76 : decode cX9_radiusFor 76 = .ok (.iload 4, 2) := by decide +kernel
theorem dX9_radiusFor_78 : decode cX9_radiusFor 78 = .ok (.iload 5, 2) := by decide +kernel
theorem dX9_radiusFor_80 : decode cX9_radiusFor 80 = .ok (.if_icmp .ge 49, 3) := by decide +kernel
theorem dX9_radiusFor_83 : decode cX9_radiusFor 83 = .ok (.iload 4, 2) := by decide +kernel
theorem dX9_radiusFor_85 : decode cX9_radiusFor 85 = .ok (.iload 5, 2) := by decide +kernel
theorem dX9_radiusFor_87 : decode cX9_radiusFor 87 = .ok (.iadd, 1) := by decide +kernel
theorem dX9_radiusFor_88 : decode cX9_radiusFor 88 = .ok (.iconst 2, 1) := by decide +kernel
theorem dX9_radiusFor_89 : decode cX9_radiusFor 89 = .ok (.idiv, 1) := by decide +kernel
theorem dX9_radiusFor_90 : decode cX9_radiusFor 90 = .ok (.istore 7, 2) := by decide +kernel
theorem dX9_radiusFor_92 : decode cX9_radiusFor 92 = .ok (.aload_n 0, 1) := by decide +kernel
theorem dX9_radiusFor_93 : decode cX9_radiusFor 93 = .ok (.getfield 28, 3) := by decide +kernel
theorem dX9_radiusFor_96 : decode cX9_radiusFor 96 = .ok (.aload_n 0, 1) := by decide +kernel
theorem dX9_radiusFor_97 : decode cX9_radiusFor 97 = .ok (.iload_n 3, 1) := by decide +kernel
theorem dX9_radiusFor_98 : decode cX9_radiusFor 98 = .ok (.iload 7, 2) := by decide +kernel
theorem dX9_radiusFor_100 : decode cX9_radiusFor 100 = .ok (.invokevirtual 341, 3) := by decide +kernel
theorem dX9_radiusFor_103 : decode cX9_radiusFor 103 = .ok (.invokevirtual 245, 3) := by decide +kernel
theorem dX9_radiusFor_106 : decode cX9_radiusFor 106 = .ok (.iload_n 2, 1) := by decide +kernel
theorem dX9_radiusFor_107 : decode cX9_radiusFor 107 = .ok (.if_icmp .lt 10, 3) := by decide +kernel
theorem dX9_radiusFor_110 : decode cX9_radiusFor 110 = .ok (.iload 7, 2) := by decide +kernel
theorem dX9_radiusFor_112 : decode cX9_radiusFor 112 = .ok (.istore 5, 2) := by decide +kernel
theorem dX9_radiusFor_114 : decode cX9_radiusFor 114 = .ok (.goto 9, 3) := by decide +kernel
theorem dX9_radiusFor_117 : decode cX9_radiusFor 117 = .ok (.iload 7, 2) := by decide +kernel
theorem dX9_radiusFor_119 : decode cX9_radiusFor 119 = .ok (.iconst 1, 1) := by decide +kernel
theorem dX9_radiusFor_120 : decode cX9_radiusFor 120 = .ok (.iadd, 1) := by decide +kernel
theorem dX9_radiusFor_121 : decode cX9_radiusFor 121 = .ok (.istore 4, 2) := by decide +kernel
theorem dX9_radiusFor_123 : decode cX9_radiusFor 123 = .ok (.iinc 6 1, 3) := by decide +kernel
theorem dX9_radiusFor_126 : decode cX9_radiusFor 126 = .ok (.goto (-58), 3) := by decide +kernel
theorem dX9_radiusFor_129 : decode cX9_radiusFor 129 = .ok (.iload 4, 2) := by decide +kernel
theorem dX9_radiusFor_131 : decode cX9_radiusFor 131 = .ok (.ireturn, 1) := by decide +kernel
theorem dX9_together_0 : decode cX9_together 0 = .ok (.aload_n 0, 1) := by decide +kernel
theorem dX9_together_1 : decode cX9_together 1 = .ok (.getfield 28, 3) := by decide +kernel
theorem dX9_together_4 : decode cX9_together 4 = .ok (.iload_n 1, 1) := by decide +kernel
theorem dX9_together_5 : decode cX9_together 5 = .ok (.invokevirtual 157, 3) := by decide +kernel
theorem dX9_together_8 : decode cX9_together 8 = .ok (.ifCond .eq 26, 3) := by decide +kernel
theorem dX9_together_11 : decode cX9_together 11 = .ok (.aload_n 0, 1) := by decide +kernel
theorem dX9_together_12 : decode cX9_together 12 = .ok (.getfield 28, 3) := by decide +kernel
theorem dX9_together_15 : decode cX9_together 15 = .ok (.iload_n 2, 1) := by decide +kernel
theorem dX9_together_16 : decode cX9_together 16 = .ok (.invokevirtual 157, 3) := by decide +kernel
theorem dX9_together_19 : decode cX9_together 19 = .ok (.ifCond .eq 15, 3) := by decide +kernel
theorem dX9_together_22 : decode cX9_together 22 = .ok (.iload_n 1, 1) := by decide +kernel
theorem dX9_together_23 : decode cX9_together 23 = .ok (.iload_n 2, 1) := by decide +kernel
theorem dX9_together_24 : decode cX9_together 24 = .ok (.if_icmp .eq 10, 3) := by decide +kernel
theorem dX9_together_27 : decode cX9_together 27 = .ok (.iload_n 3, 1) := by decide +kernel
theorem dX9_together_28 : decode cX9_together 28 = .ok (.invokestatic 229, 3) := by decide +kernel
theorem dX9_together_31 : decode cX9_together 31 = .ok (.ifCond .ne 5, 3) := by decide +kernel
theorem dX9_together_34 : decode cX9_together 34 = .ok (.iconst (-1), 1) := by decide +kernel
theorem dX9_together_35 : decode cX9_together 35 = .ok (.ireturn, 1) := by decide +kernel
theorem dX9_together_36 : decode cX9_together 36 = .ok (.aload_n 0, 1) := by decide +kernel
theorem dX9_together_37 : decode cX9_together 37 = .ok (.getfield 28, 3) := by decide +kernel
theorem dX9_together_40 : decode cX9_together 40 = .ok (.iload_n 1, 1) := by decide +kernel
theorem dX9_together_41 : decode cX9_together 41 = .ok (.iload_n 2, 1) := by decide +kernel
theorem dX9_together_42 : decode cX9_together 42 = .ok (.invokevirtual 287, 3) := by decide +kernel
theorem dX9_together_45 : decode cX9_together 45 = .ok (.iconst 4, 1) := by decide +kernel
theorem dX9_together_46 : decode cX9_together 46 = .ok (.iload_n 3, 1) := by decide +kernel
theorem dX9_together_47 : decode cX9_together 47 = .ok (.imul, 1) := by decide +kernel
theorem dX9_together_48 : decode cX9_together 48 = .ok (.iload_n 3, 1) := by decide +kernel
theorem dX9_together_49 : decode cX9_together 49 = .ok (.imul, 1) := by decide +kernel
theorem dX9_together_50 : decode cX9_together 50 = .ok (.if_icmp .gt 7, 3) := by decide +kernel
theorem dX9_together_53 : decode cX9_together 53 = .ok (.iconst 1, 1) := by decide +kernel
theorem dX9_together_54 : decode cX9_together 54 = .ok (.goto 4, 3) := by decide +kernel
theorem dX9_together_57 : decode cX9_together 57 = .ok (.iconst 0, 1) := by decide +kernel
theorem dX9_together_58 : decode cX9_together 58 = .ok (.ireturn, 1) := by decide +kernel
theorem dX9_nearest_0 : decode cX9_nearest 0 = .ok (.aload_n 0, 1) := by decide +kernel
theorem dX9_nearest_1 : decode cX9_nearest 1 = .ok (.getfield 28, 3) := by decide +kernel
theorem dX9_nearest_4 : decode cX9_nearest 4 = .ok (.iload_n 1, 1) := by decide +kernel
theorem dX9_nearest_5 : decode cX9_nearest 5 = .ok (.invokevirtual 157, 3) := by decide +kernel
theorem dX9_nearest_8 : decode cX9_nearest 8 = .ok (.ifCond .ne 5, 3) := by decide +kernel
theorem dX9_nearest_11 : decode cX9_nearest 11 = .ok (.iconst (-1), 1) := by decide +kernel
theorem dX9_nearest_12 : decode cX9_nearest 12 = .ok (.ireturn, 1) := by decide +kernel
theorem dX9_nearest_13 : decode cX9_nearest 13 = .ok (.bipush (-2), 2) := by decide +kernel
theorem dX9_nearest_15 : decode cX9_nearest 15 = .ok (.istore_n 2, 1) := by decide +kernel
theorem dX9_nearest_16 : decode cX9_nearest 16 = .ok (.iconst 0, 1) := by decide +kernel
theorem dX9_nearest_17 : decode cX9_nearest 17 = .ok (.istore_n 3, 1) := by decide +kernel
theorem dX9_nearest_18 : decode cX9_nearest 18 = .ok (.iconst 0, 1) := by decide +kernel
theorem dX9_nearest_19 : decode cX9_nearest 19 = .ok (.istore 4, 2) := by decide +kernel
theorem dX9_nearest_21 : decode cX9_nearest 21 = .ok (.iload 4, 2) := by decide +kernel
theorem dX9_nearest_23 : decode cX9_nearest 23 = .ok (.bipush 24, 2) := by decide +kernel
theorem dX9_nearest_25 : decode cX9_nearest 25 = .ok (.if_icmp .ge 55, 3) := by decide +kernel
theorem dX9_nearest_28 : decode cX9_nearest 28 = .ok (.iload 4, 2) := by decide +kernel
theorem dX9_nearest_30 : decode cX9_nearest 30 = .ok (.iload_n 1, 1) := by decide +kernel
theorem dX9_nearest_31 : decode cX9_nearest 31 = .ok (.if_icmp .eq 43, 3) := by decide +kernel
theorem dX9_nearest_34 : decode cX9_nearest 34 = .ok (.aload_n 0, 1) := by decide +kernel
theorem dX9_nearest_35 : decode cX9_nearest 35 = .ok (.getfield 28, 3) := by decide +kernel
theorem dX9_nearest_38 : decode cX9_nearest 38 = .ok (.iload 4, 2) := by decide +kernel
theorem dX9_nearest_40 : decode cX9_nearest 40 = .ok (.invokevirtual 157, 3) := by decide +kernel
theorem dX9_nearest_43 : decode cX9_nearest 43 = .ok (.ifCond .eq 31, 3) := by decide +kernel
theorem dX9_nearest_46 : decode cX9_nearest 46 = .ok (.aload_n 0, 1) := by decide +kernel
theorem dX9_nearest_47 : decode cX9_nearest 47 = .ok (.getfield 28, 3) := by decide +kernel
theorem dX9_nearest_50 : decode cX9_nearest 50 = .ok (.iload_n 1, 1) := by decide +kernel
theorem dX9_nearest_51 : decode cX9_nearest 51 = .ok (.iload 4, 2) := by decide +kernel
theorem dX9_nearest_53 : decode cX9_nearest 53 = .ok (.invokevirtual 287, 3) := by decide +kernel
theorem dX9_nearest_56 : decode cX9_nearest 56 = .ok (.istore 5, 2) := by decide +kernel
theorem dX9_nearest_58 : decode cX9_nearest 58 = .ok (.iload_n 2, 1) := by decide +kernel
theorem dX9_nearest_59 : decode cX9_nearest 59 = .ok (.ifCond .lt 9, 3) := by decide +kernel
theorem dX9_nearest_62 : decode cX9_nearest 62 = .ok (.iload 5, 2) := by decide +kernel
theorem dX9_nearest_64 : decode cX9_nearest 64 = .ok (.iload_n 3, 1) := by decide +kernel
theorem dX9_nearest_65 : decode cX9_nearest 65 = .ok (.if_icmp .ge 9, 3) := by decide +kernel
theorem dX9_nearest_68 : decode cX9_nearest 68 = .ok (.iload 4, 2) := by decide +kernel
theorem dX9_nearest_70 : decode cX9_nearest 70 = .ok (.istore_n 2, 1) := by decide +kernel
theorem dX9_nearest_71 : decode cX9_nearest 71 = .ok (.iload 5, 2) := by decide +kernel
theorem dX9_nearest_73 : decode cX9_nearest 73 = .ok (.istore_n 3, 1) := by decide +kernel
theorem dX9_nearest_74 : decode cX9_nearest 74 = .ok (.iinc 4 1, 3) := by decide +kernel
theorem dX9_nearest_77 : decode cX9_nearest 77 = .ok (.goto (-56), 3) := by decide +kernel
theorem dX9_nearest_80 : decode cX9_nearest 80 = .ok (.iload_n 2, 1) := by decide +kernel
theorem dX9_nearest_81 : decode cX9_nearest 81 = .ok (.ireturn, 1) := by decide +kernel
theorem dX9_couples_0 : decode cX9_couples 0 = .ok (.iload_n 1, 1) := by decide +kernel
theorem dX9_couples_1 : decode cX9_couples 1 = .ok (.invokestatic 335, 3) := by decide +kernel
theorem dX9_couples_4 : decode cX9_couples 4 = .ok (.ifCond .ne 5, 3) := by decide +kernel
theorem dX9_couples_7 : decode cX9_couples 7 = .ok (.iconst (-1), 1) := by decide +kernel
theorem dX9_couples_8 : decode cX9_couples 8 = .ok (.ireturn, 1) := by decide +kernel
theorem dX9_couples_9 : decode cX9_couples 9 = .ok (.iconst 0, 1) := by decide +kernel
theorem dX9_couples_10 : decode cX9_couples 10 = .ok (.istore_n 2, 1) := by decide +kernel
theorem dX9_couples_11 : decode cX9_couples 11 = .ok (.iconst 0, 1) := by decide +kernel
theorem dX9_couples_12 : decode cX9_couples 12 = .ok (.istore_n 3, 1) := by decide +kernel
theorem dX9_couples_13 : decode cX9_couples 13 = .ok (.iload_n 3, 1) := by decide +kernel
theorem dX9_couples_14 : decode cX9_couples 14 = .ok (.bipush 24, 2) := by decide +kernel
theorem dX9_couples_16 : decode cX9_couples 16 = .ok (.if_icmp .ge 52, 3) := by decide +kernel
theorem dX9_couples_19 : decode cX9_couples 19 = .ok (.aload_n 0, 1) := by decide +kernel
theorem dX9_couples_20 : decode cX9_couples 20 = .ok (.getfield 28, 3) := by decide +kernel
theorem dX9_couples_23 : decode cX9_couples 23 = .ok (.iload_n 3, 1) := by decide +kernel
theorem dX9_couples_24 : decode cX9_couples 24 = .ok (.invokevirtual 157, 3) := by decide +kernel
theorem dX9_couples_27 : decode cX9_couples 27 = .ok (.ifCond .eq 35, 3) := by decide +kernel
theorem dX9_couples_30 : decode cX9_couples 30 = .ok (.iload_n 2, 1) := by decide +kernel
theorem dX9_couples_31 : decode cX9_couples 31 = .ok (.aload_n 0, 1) := by decide +kernel
theorem dX9_couples_32 : decode cX9_couples 32 = .ok (.getfield 28, 3) := by decide +kernel
theorem dX9_couples_35 : decode cX9_couples 35 = .ok (.aload_n 0, 1) := by decide +kernel
theorem dX9_couples_36 : decode cX9_couples 36 = .ok (.getfield 28, 3) := by decide +kernel
theorem dX9_couples_39 : decode cX9_couples 39 = .ok (.iload_n 3, 1) := by decide +kernel
theorem dX9_couples_40 : decode cX9_couples 40 = .ok (.invokevirtual 186, 3) := by decide +kernel
theorem dX9_couples_43 : decode cX9_couples 43 = .ok (.aload_n 0, 1) := by decide +kernel
theorem dX9_couples_44 : decode cX9_couples 44 = .ok (.getfield 28, 3) := by decide +kernel
theorem dX9_couples_47 : decode cX9_couples 47 = .ok (.iload_n 3, 1) := by decide +kernel
theorem dX9_couples_48 : decode cX9_couples 48 = .ok (.invokevirtual 189, 3) := by decide +kernel
theorem dX9_couples_51 : decode cX9_couples 51 = .ok (.iload_n 1, 1) := by decide +kernel
theorem dX9_couples_52 : decode cX9_couples 52 = .ok (.invokevirtual 192, 3) := by decide +kernel
theorem dX9_couples_55 : decode cX9_couples 55 = .ok (.invokestatic 195, 3) := by decide +kernel
theorem dX9_couples_58 : decode cX9_couples 58 = .ok (.iconst 1, 1) := by decide +kernel
theorem dX9_couples_59 : decode cX9_couples 59 = .ok (.isub, 1) := by decide +kernel
theorem dX9_couples_60 : decode cX9_couples 60 = .ok (.iadd, 1) := by decide +kernel
theorem dX9_couples_61 : decode cX9_couples 61 = .ok (.istore_n 2, 1) := by decide +kernel
theorem dX9_couples_62 : decode cX9_couples 62 = .ok (.iinc 3 1, 3) := by decide +kernel
theorem dX9_couples_65 : decode cX9_couples 65 = .ok (.goto (-52), 3) := by decide +kernel
theorem dX9_couples_68 : decode cX9_couples 68 = .ok (.iload_n 2, 1) := by decide +kernel
theorem dX9_couples_69 : decode cX9_couples 69 = .ok (.iconst 2, 1) := by decide +kernel
theorem dX9_couples_70 : decode cX9_couples 70 = .ok (.idiv, 1) := by decide +kernel
theorem dX9_couples_71 : decode cX9_couples 71 = .ok (.ireturn, 1) := by decide +kernel
theorem dX9_storm_0 : decode cX9_storm 0 = .ok (.iload_n 1, 1) := by decide +kernel
theorem dX9_storm_1 : decode cX9_storm 1 = .ok (.invokestatic 335, 3) := by decide +kernel
theorem dX9_storm_4 : decode cX9_storm 4 = .ok (.ifCond .eq 34, 3) := by decide +kernel
theorem dX9_storm_7 : decode cX9_storm 7 = .ok (.iload_n 2, 1) := by decide +kernel
theorem dX9_storm_8 : decode cX9_storm 8 = .ok (.iload_n 3, 1) := by decide +kernel
theorem dX9_storm_9 : decode cX9_storm 9 = .ok (.invokestatic 134, 3) := by decide +kernel
theorem dX9_storm_12 : decode cX9_storm 12 = .ok (.ifCond .eq 26, 3) := by decide +kernel
theorem dX9_storm_15 : decode cX9_storm 15 = .ok (.iload 4, 2) := by decide +kernel
theorem dX9_storm_17 : decode cX9_storm 17 = .ok (.iload 5, 2) := by decide +kernel
theorem dX9_storm_19 : decode cX9_storm 19 = .ok (.invokestatic 134, 3) := by decide +kernel
theorem dX9_storm_22 : decode cX9_storm 22 = .ok (.ifCond .eq 16, 3) := by decide +kernel
theorem dX9_storm_25 : decode cX9_storm 25 = .ok (.iload 6, 2) := by decide +kernel
theorem dX9_storm_27 : decode cX9_storm 27 = .ok (.iconst 1, 1) := by decide +kernel
theorem dX9_storm_28 : decode cX9_storm 28 = .ok (.if_icmp .lt 10, 3) := by decide +kernel
theorem dX9_storm_31 : decode cX9_storm 31 = .ok (.iload 6, 2) := by decide +kernel
theorem dX9_storm_33 : decode cX9_storm 33 = .ok (.bipush 100, 2) := by decide +kernel
theorem dX9_storm_35 : decode cX9_storm 35 = .ok (.if_icmp .le 5, 3) := by decide +kernel
theorem dX9_storm_38 : decode cX9_storm 38 = .ok (.iconst (-1), 1) := by decide +kernel
theorem dX9_storm_39 : decode cX9_storm 39 = .ok (.ireturn, 1) := by decide +kernel
theorem dX9_storm_40 : decode cX9_storm 40 = .ok (.aload_n 0, 1) := by decide +kernel
theorem dX9_storm_41 : decode cX9_storm 41 = .ok (.getfield 57, 3) := by decide +kernel
theorem dX9_storm_44 : decode cX9_storm 44 = .ok (.iconst 1, 1) := by decide +kernel
theorem dX9_storm_45 : decode cX9_storm 45 = .ok (.putfield 112, 3) := by decide +kernel
theorem dX9_storm_48 : decode cX9_storm 48 = .ok (.aload_n 0, 1) := by decide +kernel
theorem dX9_storm_49 : decode cX9_storm 49 = .ok (.getfield 57, 3) := by decide +kernel
theorem dX9_storm_52 : decode cX9_storm 52 = .ok (.iload_n 1, 1) := by decide +kernel
theorem dX9_storm_53 : decode cX9_storm 53 = .ok (.putfield 361, 3) := by decide +kernel
theorem dX9_storm_56 : decode cX9_storm 56 = .ok (.aload_n 0, 1) := by decide +kernel
theorem dX9_storm_57 : decode cX9_storm 57 = .ok (.getfield 57, 3) := by decide +kernel
theorem dX9_storm_60 : decode cX9_storm 60 = .ok (.iload_n 2, 1) := by decide +kernel
theorem dX9_storm_61 : decode cX9_storm 61 = .ok (.putfield 362, 3) := by decide +kernel
theorem dX9_storm_64 : decode cX9_storm 64 = .ok (.aload_n 0, 1) := by decide +kernel
theorem dX9_storm_65 : decode cX9_storm 65 = .ok (.getfield 57, 3) := by decide +kernel
theorem dX9_storm_68 : decode cX9_storm 68 = .ok (.iload_n 3, 1) := by decide +kernel
theorem dX9_storm_69 : decode cX9_storm 69 = .ok (.putfield 365, 3) := by decide +kernel
theorem dX9_storm_72 : decode cX9_storm 72 = .ok (.aload_n 0, 1) := by decide +kernel
theorem dX9_storm_73 : decode cX9_storm 73 = .ok (.getfield 57, 3) := by decide +kernel
theorem dX9_storm_76 : decode cX9_storm 76 = .ok (.iload 4, 2) := by decide +kernel
theorem dX9_storm_78 : decode cX9_storm 78 = .ok (.putfield 368, 3) := by decide +kernel
theorem dX9_storm_81 : decode cX9_storm 81 = .ok (.aload_n 0, 1) := by decide +kernel
theorem dX9_storm_82 : decode cX9_storm 82 = .ok (.getfield 57, 3) := by decide +kernel
theorem dX9_storm_85 : decode cX9_storm 85 = .ok (.iload 5, 2) := by decide +kernel
theorem dX9_storm_87 : decode cX9_storm 87 = .ok (.putfield 371, 3) := by decide +kernel
theorem dX9_storm_90 : decode cX9_storm 90 = .ok (.aload_n 0, 1) := by decide +kernel
theorem dX9_storm_91 : decode cX9_storm 91 = .ok (.getfield 57, 3) := by decide +kernel
theorem dX9_storm_94 : decode cX9_storm 94 = .ok (.iload 6, 2) := by decide +kernel
theorem dX9_storm_96 : decode cX9_storm 96 = .ok (.putfield 374, 3) := by decide +kernel
theorem dX9_storm_99 : decode cX9_storm 99 = .ok (.aload_n 0, 1) := by decide +kernel
theorem dX9_storm_100 : decode cX9_storm 100 = .ok (.getfield 57, 3) := by decide +kernel
theorem dX9_storm_103 : decode cX9_storm 103 = .ok (.aload_n 0, 1) := by decide +kernel
theorem dX9_storm_104 : decode cX9_storm 104 = .ok (.getfield 28, 3) := by decide +kernel
theorem dX9_storm_107 : decode cX9_storm 107 = .ok (.invokevirtual 377, 3) := by decide +kernel
theorem dX9_storm_110 : decode cX9_storm 110 = .ok (.invokestatic 195, 3) := by decide +kernel
theorem dX9_storm_113 : decode cX9_storm 113 = .ok (.ireturn, 1) := by decide +kernel
theorem dX9_hit_0 : decode cX9_hit 0 = .ok (.iload_n 1, 1) := by decide +kernel
theorem dX9_hit_1 : decode cX9_hit 1 = .ok (.ifCond .lt 8, 3) := by decide +kernel
theorem dX9_hit_4 : decode cX9_hit 4 = .ok (.iload_n 1, 1) := by decide +kernel
theorem dX9_hit_5 : decode cX9_hit 5 = .ok (.iconst 3, 1) := by decide +kernel
theorem dX9_hit_6 : decode cX9_hit 6 = .ok (.if_icmp .le 5, 3) := by decide +kernel
theorem dX9_hit_9 : decode cX9_hit 9 = .ok (.iconst (-1), 1) := by decide +kernel
theorem dX9_hit_10 : decode cX9_hit 10 = .ok (.ireturn, 1) := by decide +kernel
theorem dX9_hit_11 : decode cX9_hit 11 = .ok (.aload_n 0, 1) := by decide +kernel
theorem dX9_hit_12 : decode cX9_hit 12 = .ok (.getfield 57, 3) := by decide +kernel
theorem dX9_hit_15 : decode cX9_hit 15 = .ok (.getfield 112, 3) := by decide +kernel
theorem dX9_hit_18 : decode cX9_hit 18 = .ok (.ifCond .ne 6, 3) := by decide +kernel
theorem dX9_hit_21 : decode cX9_hit 21 = .ok (.bipush (-2), 2) := by decide +kernel
theorem dX9_hit_23 : decode cX9_hit 23 = .ok (.ireturn, 1) := by decide +kernel
theorem dX9_hit_24 : decode cX9_hit 24 = .ok (.iload_n 1, 1) := by decide +kernel
theorem dX9_hit_25 : decode cX9_hit 25 = .ok (.tableswitch 70 0 2 #[27, 39, 58], 27) := by decide +kernel
theorem dX9_hit_52 : decode cX9_hit 52 = .ok (.aload_n 0, 1) := by decide +kernel
theorem dX9_hit_53 : decode cX9_hit 53 = .ok (.getfield 57, 3) := by decide +kernel
theorem dX9_hit_56 : decode cX9_hit 56 = .ok (.aload_n 0, 1) := by decide +kernel
theorem dX9_hit_57 : decode cX9_hit 57 = .ok (.getfield 28, 3) := by decide +kernel
theorem dX9_hit_60 : decode cX9_hit 60 = .ok (.invokevirtual 377, 3) := by decide +kernel
theorem dX9_hit_63 : decode cX9_hit 63 = .ok (.ireturn, 1) := by decide +kernel
theorem dX9_hit_64 : decode cX9_hit 64 = .ok (.aload_n 0, 1) := by decide +kernel
theorem dX9_hit_65 : decode cX9_hit 65 = .ok (.getfield 28, 3) := by decide +kernel
theorem dX9_hit_68 : decode cX9_hit 68 = .ok (.aload_n 0, 1) := by decide +kernel
theorem dX9_hit_69 : decode cX9_hit 69 = .ok (.getfield 57, 3) := by decide +kernel
theorem dX9_hit_72 : decode cX9_hit 72 = .ok (.aload_n 0, 1) := by decide +kernel
theorem dX9_hit_73 : decode cX9_hit 73 = .ok (.getfield 28, 3) := by decide +kernel
theorem dX9_hit_76 : decode cX9_hit 76 = .ok (.invokevirtual 377, 3) := by decide +kernel
theorem dX9_hit_79 : decode cX9_hit 79 = .ok (.invokevirtual 245, 3) := by decide +kernel
theorem dX9_hit_82 : decode cX9_hit 82 = .ok (.ireturn, 1) := by decide +kernel
theorem dX9_hit_83 : decode cX9_hit 83 = .ok (.aload_n 0, 1) := by decide +kernel
theorem dX9_hit_84 : decode cX9_hit 84 = .ok (.getfield 57, 3) := by decide +kernel
theorem dX9_hit_87 : decode cX9_hit 87 = .ok (.aload_n 0, 1) := by decide +kernel
theorem dX9_hit_88 : decode cX9_hit 88 = .ok (.getfield 28, 3) := by decide +kernel
theorem dX9_hit_91 : decode cX9_hit 91 = .ok (.invokevirtual 380, 3) := by decide +kernel
theorem dX9_hit_94 : decode cX9_hit 94 = .ok (.ireturn, 1) := by decide +kernel
theorem dX9_hit_95 : decode cX9_hit 95 = .ok (.aload_n 0, 1) := by decide +kernel
theorem dX9_hit_96 : decode cX9_hit 96 = .ok (.getfield 28, 3) := by decide +kernel
theorem dX9_hit_99 : decode cX9_hit 99 = .ok (.aload_n 0, 1) := by decide +kernel
theorem dX9_hit_100 : decode cX9_hit 100 = .ok (.getfield 57, 3) := by decide +kernel
theorem dX9_hit_103 : decode cX9_hit 103 = .ok (.aload_n 0, 1) := by decide +kernel
theorem dX9_hit_104 : decode cX9_hit 104 = .ok (.getfield 28, 3) := by decide +kernel
theorem dX9_hit_107 : decode cX9_hit 107 = .ok (.aload_n 0, 1) := by decide +kernel
theorem dX9_hit_108 : decode cX9_hit 108 = .ok (.getfield 57, 3) := by decide +kernel
theorem dX9_hit_111 : decode cX9_hit 111 = .ok (.aload_n 0, 1) := by decide +kernel
theorem dX9_hit_112 : decode cX9_hit 112 = .ok (.getfield 28, 3) := by decide +kernel
theorem dX9_hit_115 : decode cX9_hit 115 = .ok (.invokevirtual 380, 3) := by decide +kernel
theorem dX9_hit_118 : decode cX9_hit 118 = .ok (.invokevirtual 383, 3) := by decide +kernel
theorem dX9_hit_121 : decode cX9_hit 121 = .ok (.invokevirtual 245, 3) := by decide +kernel
theorem dX9_hit_124 : decode cX9_hit 124 = .ok (.ireturn, 1) := by decide +kernel
theorem dX9_pays_0 : decode cX9_pays 0 = .ok (.aload_n 0, 1) := by decide +kernel
theorem dX9_pays_1 : decode cX9_pays 1 = .ok (.iload_n 1, 1) := by decide +kernel
theorem dX9_pays_2 : decode cX9_pays 2 = .ok (.invokevirtual 206, 3) := by decide +kernel
theorem dX9_pays_5 : decode cX9_pays 5 = .ok (.astore_n 2, 1) := by decide +kernel
theorem dX9_pays_6 : decode cX9_pays 6 = .ok (.aload_n 2, 1) := by decide +kernel
theorem dX9_pays_7 : decode cX9_pays 7 = .ok (.ifnonnull 5, 3) := by decide +kernel
theorem dX9_pays_10 : decode cX9_pays 10 = .ok (.iconst (-1), 1) := by decide +kernel
theorem dX9_pays_11 : decode cX9_pays 11 = .ok (.ireturn, 1) := by decide +kernel
theorem dX9_pays_12 : decode cX9_pays 12 = .ok (.aload_n 0, 1) := by decide +kernel
theorem dX9_pays_13 : decode cX9_pays 13 = .ok (.getfield 57, 3) := by decide +kernel
theorem dX9_pays_16 : decode cX9_pays 16 = .ok (.getfield 112, 3) := by decide +kernel
theorem dX9_pays_19 : decode cX9_pays 19 = .ok (.ifCond .ne 6, 3) := by decide +kernel
theorem dX9_pays_22 : decode cX9_pays 22 = .ok (.bipush (-2), 2) := by decide +kernel
theorem dX9_pays_24 : decode cX9_pays 24 = .ok (.ireturn, 1) := by decide +kernel
theorem dX9_pays_25 : decode cX9_pays 25 = .ok (.iconst 0, 1) := by decide +kernel
theorem dX9_pays_26 : decode cX9_pays 26 = .ok (.aload_n 0, 1) := by decide +kernel
theorem dX9_pays_27 : decode cX9_pays 27 = .ok (.getfield 28, 3) := by decide +kernel
theorem dX9_pays_30 : decode cX9_pays 30 = .ok (.aload_n 2, 1) := by decide +kernel
theorem dX9_pays_31 : decode cX9_pays 31 = .ok (.getfield 219, 3) := by decide +kernel
theorem dX9_pays_34 : decode cX9_pays 34 = .ok (.getfield 242, 3) := by decide +kernel
theorem dX9_pays_37 : decode cX9_pays 37 = .ok (.aload_n 0, 1) := by decide +kernel
theorem dX9_pays_38 : decode cX9_pays 38 = .ok (.getfield 57, 3) := by decide +kernel
theorem dX9_pays_41 : decode cX9_pays 41 = .ok (.aload_n 0, 1) := by decide +kernel
theorem dX9_pays_42 : decode cX9_pays 42 = .ok (.getfield 28, 3) := by decide +kernel
theorem dX9_pays_45 : decode cX9_pays 45 = .ok (.invokevirtual 377, 3) := by decide +kernel
theorem dX9_pays_48 : decode cX9_pays 48 = .ok (.iand, 1) := by decide +kernel
theorem dX9_pays_49 : decode cX9_pays 49 = .ok (.invokevirtual 245, 3) := by decide +kernel
theorem dX9_pays_52 : decode cX9_pays 52 = .ok (.aload_n 2, 1) := by decide +kernel
theorem dX9_pays_53 : decode cX9_pays 53 = .ok (.getfield 233, 3) := by decide +kernel
theorem dX9_pays_56 : decode cX9_pays 56 = .ok (.isub, 1) := by decide +kernel
theorem dX9_pays_57 : decode cX9_pays 57 = .ok (.invokestatic 284, 3) := by decide +kernel
theorem dX9_pays_60 : decode cX9_pays 60 = .ok (.ireturn, 1) := by decide +kernel
theorem dX9_drawn_0 : decode cX9_drawn 0 = .ok (.aload_n 0, 1) := by decide +kernel
theorem dX9_drawn_1 : decode cX9_drawn 1 = .ok (.iload_n 1, 1) := by decide +kernel
theorem dX9_drawn_2 : decode cX9_drawn 2 = .ok (.invokevirtual 206, 3) := by decide +kernel
theorem dX9_drawn_5 : decode cX9_drawn 5 = .ok (.astore 5, 2) := by decide +kernel
theorem dX9_drawn_7 : decode cX9_drawn 7 = .ok (.aload 5, 2) := by decide +kernel
theorem dX9_drawn_9 : decode cX9_drawn 9 = .ok (.ifnull 29, 3) := by decide +kernel
theorem dX9_drawn_12 : decode cX9_drawn 12 = .ok (.iload_n 2, 1) := by decide +kernel
theorem dX9_drawn_13 : decode cX9_drawn 13 = .ok (.ifCond .lt 25, 3) := by decide +kernel
theorem dX9_drawn_16 : decode cX9_drawn 16 = .ok (.iload_n 3, 1) := by decide +kernel
theorem dX9_drawn_17 : decode cX9_drawn 17 = .ok (.iconst 1, 1) := by decide +kernel
theorem dX9_drawn_18 : decode cX9_drawn 18 = .ok (.if_icmp .lt 20, 3) := by decide +kernel
theorem dX9_drawn_21 : decode cX9_drawn 21 = .ok (.iload_n 3, 1) := by decide +kernel
theorem dX9_drawn_22 : decode cX9_drawn 22 = .ok (.bipush 100, 2) := by decide +kernel
theorem dX9_drawn_24 : decode cX9_drawn 24 = .ok (.if_icmp .gt 14, 3) := by decide +kernel
theorem dX9_drawn_27 : decode cX9_drawn 27 = .ok (.iload 4, 2) := by decide +kernel
theorem dX9_drawn_29 : decode cX9_drawn 29 = .ok (.ifCond .lt 9, 3) := by decide +kernel
theorem dX9_drawn_32 : decode cX9_drawn 32 = .ok (.iload 4, 2) := by decide +kernel
theorem dX9_drawn_34 : decode cX9_drawn 34 = .ok (.iconst 3, 1) := by decide +kernel
theorem dX9_drawn_35 : decode cX9_drawn 35 = .ok (.if_icmp .le 5, 3) := by decide +kernel
theorem dX9_drawn_38 : decode cX9_drawn 38 = .ok (.iconst (-1), 1) := by decide +kernel
theorem dX9_drawn_39 : decode cX9_drawn 39 = .ok (.ireturn, 1) := by decide +kernel
theorem dX9_drawn_40 : decode cX9_drawn 40 = .ok (.iconst 0, 1) := by decide +kernel
theorem dX9_drawn_41 : decode cX9_drawn 41 = .ok (.istore 6, 2) := by decide +kernel
theorem dX9_drawn_43 : decode cX9_drawn 43 = .ok (.iconst 0, 1) := by decide +kernel
theorem dX9_drawn_44 : decode cX9_drawn 44 = .ok (.istore 7, 2) := by decide +kernel
theorem dX9_drawn_46 : decode cX9_drawn 46 = .ok (.iconst 0, 1) := by decide +kernel
theorem dX9_drawn_47 : decode cX9_drawn 47 = .ok (.istore 8, 2) := by decide +kernel
theorem dX9_drawn_49 : decode cX9_drawn 49 = .ok (.iconst 0, 1) := by decide +kernel
theorem dX9_drawn_50 : decode cX9_drawn 50 = .ok (.istore 9, 2) := by decide +kernel
theorem dX9_drawn_52 : decode cX9_drawn 52 = .ok (.iload_n 2, 1) := by decide +kernel
theorem dX9_drawn_53 : decode cX9_drawn 53 = .ok (.istore 10, 2) := by decide +kernel
theorem dX9_drawn_55 : decode cX9_drawn 55 = .ok (.iconst 0, 1) := by decide +kernel
theorem dX9_drawn_56 : decode cX9_drawn 56 = .ok (.istore 11, 2) := by decide +kernel
theorem dX9_drawn_58 : decode cX9_drawn 58 = .ok (.iload 11, 2) := by decide +kernel
theorem dX9_drawn_60 : decode cX9_drawn 60 = .ok (.iload_n 3, 1) := by decide +kernel
theorem dX9_drawn_61 : decode cX9_drawn 61 = .ok (.if_icmp .ge 119, 3) := by decide +kernel
theorem dX9_drawn_64 : decode cX9_drawn 64 = .ok (.iload 10, 2) := by decide +kernel
theorem dX9_drawn_66 : decode cX9_drawn 66 = .ok (.invokestatic 387, 3) := by decide +kernel
theorem dX9_drawn_69 : decode cX9_drawn 69 = .ok (.istore 10, 2) := by decide +kernel
theorem dX9_drawn_71 : decode cX9_drawn 71 = .ok (.iload 10, 2) := by decide +kernel
theorem dX9_drawn_73 : decode cX9_drawn 73 = .ok (.ldc_w 390, 3) := by decide +kernel
theorem dX9_drawn_76 : decode cX9_drawn 76 = .ok (.idiv, 1) := by decide +kernel
theorem dX9_drawn_77 : decode cX9_drawn 77 = .ok (.sipush 300, 3) := by decide +kernel
theorem dX9_drawn_80 : decode cX9_drawn 80 = .ok (.irem, 1) := by decide +kernel
theorem dX9_drawn_81 : decode cX9_drawn 81 = .ok (.istore 12, 2) := by decide +kernel
theorem dX9_drawn_83 : decode cX9_drawn 83 = .ok (.iload 10, 2) := by decide +kernel
theorem dX9_drawn_85 : decode cX9_drawn 85 = .ok (.invokestatic 387, 3) := by decide +kernel
theorem dX9_drawn_88 : decode cX9_drawn 88 = .ok (.istore 10, 2) := by decide +kernel
theorem dX9_drawn_90 : decode cX9_drawn 90 = .ok (.aload_n 0, 1) := by decide +kernel
theorem dX9_drawn_91 : decode cX9_drawn 91 = .ok (.getfield 28, 3) := by decide +kernel
theorem dX9_drawn_94 : decode cX9_drawn 94 = .ok (.aload 5, 2) := by decide +kernel
theorem dX9_drawn_96 : decode cX9_drawn 96 = .ok (.getfield 219, 3) := by decide +kernel
theorem dX9_drawn_99 : decode cX9_drawn 99 = .ok (.getfield 242, 3) := by decide +kernel
theorem dX9_drawn_102 : decode cX9_drawn 102 = .ok (.aload_n 0, 1) := by decide +kernel
theorem dX9_drawn_103 : decode cX9_drawn 103 = .ok (.getfield 28, 3) := by decide +kernel
theorem dX9_drawn_106 : decode cX9_drawn 106 = .ok (.iload 12, 2) := by decide +kernel
theorem dX9_drawn_108 : decode cX9_drawn 108 = .ok (.iload 10, 2) := by decide +kernel
theorem dX9_drawn_110 : decode cX9_drawn 110 = .ok (.ldc_w 390, 3) := by decide +kernel
theorem dX9_drawn_113 : decode cX9_drawn 113 = .ok (.idiv, 1) := by decide +kernel
theorem dX9_drawn_114 : decode cX9_drawn 114 = .ok (.sipush 300, 3) := by decide +kernel
theorem dX9_drawn_117 : decode cX9_drawn 117 = .ok (.irem, 1) := by decide +kernel
theorem dX9_drawn_118 : decode cX9_drawn 118 = .ok (.aload 5, 2) := by decide +kernel
theorem dX9_drawn_120 : decode cX9_drawn 120 = .ok (.getfield 239, 3) := by decide +kernel
theorem dX9_drawn_123 : decode cX9_drawn 123 = .ok (.invokevirtual 192, 3) := by decide +kernel
theorem dX9_drawn_126 : decode cX9_drawn 126 = .ok (.iand, 1) := by decide +kernel
theorem dX9_drawn_127 : decode cX9_drawn 127 = .ok (.invokevirtual 245, 3) := by decide +kernel
theorem dX9_drawn_130 : decode cX9_drawn 130 = .ok (.istore 13, 2) := by decide +kernel
theorem dX9_drawn_132 : decode cX9_drawn 132 = .ok (.iload 13, 2) := by decide +kernel
theorem dX9_drawn_134 : decode cX9_drawn 134 = .ok (.iload 6, 2) := by decide +kernel
theorem dX9_drawn_136 : decode cX9_drawn 136 = .ok (.if_icmp .le 11, 3) := by decide +kernel
theorem dX9_drawn_139 : decode cX9_drawn 139 = .ok (.iload 13, 2) := by decide +kernel
theorem dX9_drawn_141 : decode cX9_drawn 141 = .ok (.istore 6, 2) := by decide +kernel
theorem dX9_drawn_143 : decode cX9_drawn 143 = .ok (.iload 11, 2) := by decide +kernel
theorem dX9_drawn_145 : decode cX9_drawn 145 = .ok (.istore 7, 2) := by decide +kernel
theorem dX9_drawn_147 : decode cX9_drawn 147 = .ok (.iload 8, 2) := by decide +kernel
theorem dX9_drawn_149 : decode cX9_drawn 149 = .ok (.iload 13, 2) := by decide +kernel
theorem dX9_drawn_151 : decode cX9_drawn 151 = .ok (.aload 5, 2) := by decide +kernel
theorem dX9_drawn_153 : decode cX9_drawn 153 = .ok (.getfield 233, 3) := by decide +kernel
theorem dX9_drawn_156 : decode cX9_drawn 156 = .ok (.if_icmp .le 7, 3) := by decide +kernel
theorem dX9_drawn_159 : decode cX9_drawn 159 = .ok (.iconst 1, 1) := by decide +kernel
theorem dX9_drawn_160 : decode cX9_drawn 160 = .ok (.goto 4, 3) := by decide +kernel
theorem dX9_drawn_163 : decode cX9_drawn 163 = .ok (.iconst 0, 1) := by decide +kernel
theorem dX9_drawn_164 : decode cX9_drawn 164 = .ok (.iadd, 1) := by decide +kernel
theorem dX9_drawn_165 : decode cX9_drawn 165 = .ok (.istore 8, 2) := by decide +kernel
theorem dX9_drawn_167 : decode cX9_drawn 167 = .ok (.iload 9, 2) := by decide +kernel
theorem dX9_drawn_169 : decode cX9_drawn 169 = .ok (.iload 13, 2) := by decide +kernel
theorem dX9_drawn_171 : decode cX9_drawn 171 = .ok (.iadd, 1) := by decide +kernel
theorem dX9_drawn_172 : decode cX9_drawn 172 = .ok (.istore 9, 2) := by decide +kernel
theorem dX9_drawn_174 : decode cX9_drawn 174 = .ok (.iinc 11 1, 3) := by decide +kernel
theorem dX9_drawn_177 : decode cX9_drawn 177 = .ok (.goto (-119), 3) := by decide +kernel
theorem dX9_drawn_180 : decode cX9_drawn 180 = .ok (.iload 4, 2) := by decide +kernel
theorem dX9_drawn_182 : decode cX9_drawn 182 = .ok (.tableswitch 35 0 2 #[26, 29, 32], 26) := by decide +kernel
theorem dX9_drawn_208 : decode cX9_drawn 208 = .ok (.iload 6, 2) := by decide +kernel
theorem dX9_drawn_210 : decode cX9_drawn 210 = .ok (.ireturn, 1) := by decide +kernel
theorem dX9_drawn_211 : decode cX9_drawn 211 = .ok (.iload 7, 2) := by decide +kernel
theorem dX9_drawn_213 : decode cX9_drawn 213 = .ok (.ireturn, 1) := by decide +kernel
theorem dX9_drawn_214 : decode cX9_drawn 214 = .ok (.iload 8, 2) := by decide +kernel
theorem dX9_drawn_216 : decode cX9_drawn 216 = .ok (.ireturn, 1) := by decide +kernel
theorem dX9_drawn_217 : decode cX9_drawn 217 = .ok (.iload 9, 2) := by decide +kernel
theorem dX9_drawn_219 : decode cX9_drawn 219 = .ok (.ireturn, 1) := by decide +kernel
theorem dX9_drawnAfter_0 : decode cX9_drawnAfter 0 = .ok (.iload_n 0, 1) := by decide +kernel
theorem dX9_drawnAfter_1 : decode cX9_drawnAfter 1 = .ok (.i2l, 1) := by decide +kernel
theorem dX9_drawnAfter_2 : decode cX9_drawnAfter 2 = .ok (.ldc2_w 391, 3) := by decide +kernel
theorem dX9_drawnAfter_5 : decode cX9_drawnAfter 5 = .ok (.lmul, 1) := by decide +kernel
theorem dX9_drawnAfter_6 : decode cX9_drawnAfter 6 = .ok (.ldc2_w 393, 3) := by decide +kernel
theorem dX9_drawnAfter_9 : decode cX9_drawnAfter 9 = .ok (.ladd, 1) := by decide +kernel
theorem dX9_drawnAfter_10 : decode cX9_drawnAfter 10 = .ok (.ldc2_w 395, 3) := by decide +kernel
theorem dX9_drawnAfter_13 : decode cX9_drawnAfter 13 = .ok (.land, 1) := by decide +kernel
theorem dX9_drawnAfter_14 : decode cX9_drawnAfter 14 = .ok (.l2i, 1) := by decide +kernel
theorem dX9_drawnAfter_15 : decode cX9_drawnAfter 15 = .ok (.ireturn, 1) := by decide +kernel
theorem dX9_alarm_0 : decode cX9_alarm 0 = .ok (.iload_n 1, 1) := by decide +kernel
theorem dX9_alarm_1 : decode cX9_alarm 1 = .ok (.ifCond .lt 12, 3) := by decide +kernel
theorem dX9_alarm_4 : decode cX9_alarm 4 = .ok (.iload_n 2, 1) := by decide +kernel
theorem dX9_alarm_5 : decode cX9_alarm 5 = .ok (.ifCond .lt 8, 3) := by decide +kernel
theorem dX9_alarm_8 : decode cX9_alarm 8 = .ok (.iload_n 2, 1) := by decide +kernel
theorem dX9_alarm_9 : decode cX9_alarm 9 = .ok (.iconst 2, 1) := by decide +kernel
theorem dX9_alarm_10 : decode cX9_alarm 10 = .ok (.if_icmp .le 7, 3) := by decide +kernel
theorem dX9_alarm_13 : decode cX9_alarm 13 = .ok (.iconst (-1), 1) := by decide +kernel
theorem dX9_alarm_14 : decode cX9_alarm 14 = .ok (.goto 12, 3) := by decide +kernel
theorem dX9_alarm_17 : decode cX9_alarm 17 = .ok (.aload_n 0, 1) := by decide +kernel
theorem dX9_alarm_18 : decode cX9_alarm 18 = .ok (.getfield 51, 3) := by decide +kernel
theorem dX9_alarm_21 : decode cX9_alarm 21 = .ok (.iload_n 1, 1) := by decide +kernel
theorem dX9_alarm_22 : decode cX9_alarm 22 = .ok (.iload_n 2, 1) := by decide +kernel
theorem dX9_alarm_23 : decode cX9_alarm 23 = .ok (.invokevirtual 397, 3) := by decide +kernel
theorem dX9_alarm_26 : decode cX9_alarm 26 = .ok (.ireturn, 1) := by decide +kernel
theorem dX9_act_0 : decode cX9_act 0 = .ok (.iload_n 1, 1) := by decide +kernel
theorem dX9_act_1 : decode cX9_act 1 = .ok (.ifCond .lt 12, 3) := by decide +kernel
theorem dX9_act_4 : decode cX9_act 4 = .ok (.iload_n 2, 1) := by decide +kernel
theorem dX9_act_5 : decode cX9_act 5 = .ok (.ifCond .lt 8, 3) := by decide +kernel
theorem dX9_act_8 : decode cX9_act 8 = .ok (.iload_n 2, 1) := by decide +kernel
theorem dX9_act_9 : decode cX9_act 9 = .ok (.iconst 2, 1) := by decide +kernel
theorem dX9_act_10 : decode cX9_act 10 = .ok (.if_icmp .le 8, 3) := by decide +kernel
theorem dX9_act_13 : decode cX9_act 13 = .ok (.ldc 43, 2) := by decide +kernel
theorem dX9_act_15 : decode cX9_act 15 = .ok (.goto 12, 3) := by decide +kernel
theorem dX9_act_18 : decode cX9_act 18 = .ok (.aload_n 0, 1) := by decide +kernel
theorem dX9_act_19 : decode cX9_act 19 = .ok (.getfield 47, 3) := by decide +kernel
theorem dX9_act_22 : decode cX9_act 22 = .ok (.iload_n 1, 1) := by decide +kernel
theorem dX9_act_23 : decode cX9_act 23 = .ok (.iload_n 2, 1) := by decide +kernel
theorem dX9_act_24 : decode cX9_act 24 = .ok (.invokevirtual 397, 3) := by decide +kernel
theorem dX9_act_27 : decode cX9_act 27 = .ok (.ireturn, 1) := by decide +kernel
theorem dX9_count_0 : decode cX9_count 0 = .ok (.iload_n 1, 1) := by decide +kernel
theorem dX9_count_1 : decode cX9_count 1 = .ok (.tableswitch 103 0 6 #[43, 54, 59, 74, 79, 87, 95], 43) := by decide +kernel
theorem dX9_count_44 : decode cX9_count 44 = .ok (.aload_n 0, 1) := by decide +kernel
theorem dX9_count_45 : decode cX9_count 45 = .ok (.getfield 28, 3) := by decide +kernel
theorem dX9_count_48 : decode cX9_count 48 = .ok (.getfield 400, 3) := by decide +kernel
theorem dX9_count_51 : decode cX9_count 51 = .ok (.invokestatic 195, 3) := by decide +kernel
theorem dX9_count_54 : decode cX9_count 54 = .ok (.ireturn, 1) := by decide +kernel
theorem dX9_count_55 : decode cX9_count 55 = .ok (.aload_n 0, 1) := by decide +kernel
theorem dX9_count_56 : decode cX9_count 56 = .ok (.getfield 116, 3) := by decide +kernel
theorem dX9_count_59 : decode cX9_count 59 = .ok (.ireturn, 1) := by decide +kernel
theorem dX9_count_60 : decode cX9_count 60 = .ok (.aload_n 0, 1) := by decide +kernel
theorem dX9_count_61 : decode cX9_count 61 = .ok (.getfield 28, 3) := by decide +kernel
theorem dX9_count_64 : decode cX9_count 64 = .ok (.aload_n 0, 1) := by decide +kernel
theorem dX9_count_65 : decode cX9_count 65 = .ok (.getfield 28, 3) := by decide +kernel
theorem dX9_count_68 : decode cX9_count 68 = .ok (.getfield 400, 3) := by decide +kernel
theorem dX9_count_71 : decode cX9_count 71 = .ok (.invokevirtual 245, 3) := by decide +kernel
theorem dX9_count_74 : decode cX9_count 74 = .ok (.ireturn, 1) := by decide +kernel
theorem dX9_count_75 : decode cX9_count 75 = .ok (.aload_n 0, 1) := by decide +kernel
theorem dX9_count_76 : decode cX9_count 76 = .ok (.invokevirtual 403, 3) := by decide +kernel
theorem dX9_count_79 : decode cX9_count 79 = .ok (.ireturn, 1) := by decide +kernel
theorem dX9_count_80 : decode cX9_count 80 = .ok (.aload_n 0, 1) := by decide +kernel
theorem dX9_count_81 : decode cX9_count 81 = .ok (.getfield 47, 3) := by decide +kernel
theorem dX9_count_84 : decode cX9_count 84 = .ok (.getfield 109, 3) := by decide +kernel
theorem dX9_count_87 : decode cX9_count 87 = .ok (.ireturn, 1) := by decide +kernel
theorem dX9_count_88 : decode cX9_count 88 = .ok (.aload_n 0, 1) := by decide +kernel
theorem dX9_count_89 : decode cX9_count 89 = .ok (.getfield 28, 3) := by decide +kernel
theorem dX9_count_92 : decode cX9_count 92 = .ok (.invokevirtual 406, 3) := by decide +kernel
theorem dX9_count_95 : decode cX9_count 95 = .ok (.ireturn, 1) := by decide +kernel
theorem dX9_count_96 : decode cX9_count 96 = .ok (.aload_n 0, 1) := by decide +kernel
theorem dX9_count_97 : decode cX9_count 97 = .ok (.getfield 12, 3) := by decide +kernel
theorem dX9_count_100 : decode cX9_count 100 = .ok (.getfield 82, 3) := by decide +kernel
theorem dX9_count_103 : decode cX9_count 103 = .ok (.ireturn, 1) := by decide +kernel
theorem dX9_count_104 : decode cX9_count 104 = .ok (.iconst (-1), 1) := by decide +kernel
theorem dX9_count_105 : decode cX9_count 105 = .ok (.ireturn, 1) := by decide +kernel
theorem dX9_passedTreaties_0 : decode cX9_passedTreaties 0 = .ok (.iconst 0, 1) := by decide +kernel
theorem dX9_passedTreaties_1 : decode cX9_passedTreaties 1 = .ok (.istore_n 1, 1) := by decide +kernel
theorem dX9_passedTreaties_2 : decode cX9_passedTreaties 2 = .ok (.iconst 0, 1) := by decide +kernel
theorem dX9_passedTreaties_3 : decode cX9_passedTreaties 3 = .ok (.istore_n 2, 1) := by decide +kernel
theorem dX9_passedTreaties_4 : decode cX9_passedTreaties 4 = .ok (.iload_n 2, 1) := by decide +kernel
theorem dX9_passedTreaties_5 : decode cX9_passedTreaties 5 = .ok (.aload_n 0, 1) := by decide +kernel
theorem dX9_passedTreaties_6 : decode cX9_passedTreaties 6 = .ok (.getfield 116, 3) := by decide +kernel
theorem dX9_passedTreaties_9 : decode cX9_passedTreaties 9 = .ok (.if_icmp .ge 29, 3) := by decide +kernel
theorem dX9_passedTreaties_12 : decode cX9_passedTreaties 12 = .ok (.aload_n 0, 1) := by decide +kernel
theorem dX9_passedTreaties_13 : decode cX9_passedTreaties 13 = .ok (.iload_n 2, 1) := by decide +kernel
theorem dX9_passedTreaties_14 : decode cX9_passedTreaties 14 = .ok (.invokevirtual 206, 3) := by decide +kernel
theorem dX9_passedTreaties_17 : decode cX9_passedTreaties 17 = .ok (.astore_n 3, 1) := by decide +kernel
theorem dX9_passedTreaties_18 : decode cX9_passedTreaties 18 = .ok (.aload_n 3, 1) := by decide +kernel
theorem dX9_passedTreaties_19 : decode cX9_passedTreaties 19 = .ok (.ifnull 13, 3) := by decide +kernel
theorem dX9_passedTreaties_22 : decode cX9_passedTreaties 22 = .ok (.aload_n 3, 1) := by decide +kernel
theorem dX9_passedTreaties_23 : decode cX9_passedTreaties 23 = .ok (.invokevirtual 248, 3) := by decide +kernel
theorem dX9_passedTreaties_26 : decode cX9_passedTreaties 26 = .ok (.ifCond .eq 6, 3) := by decide +kernel
theorem dX9_passedTreaties_29 : decode cX9_passedTreaties 29 = .ok (.iinc 1 1, 3) := by decide +kernel
theorem dX9_passedTreaties_32 : decode cX9_passedTreaties 32 = .ok (.iinc 2 1, 3) := by decide +kernel
theorem dX9_passedTreaties_35 : decode cX9_passedTreaties 35 = .ok (.goto (-31), 3) := by decide +kernel
theorem dX9_passedTreaties_38 : decode cX9_passedTreaties 38 = .ok (.iload_n 1, 1) := by decide +kernel
theorem dX9_passedTreaties_39 : decode cX9_passedTreaties 39 = .ok (.ireturn, 1) := by decide +kernel
theorem dX9_isPlace_0 : decode cX9_isPlace 0 = .ok (.iload_n 0, 1) := by decide +kernel
theorem dX9_isPlace_1 : decode cX9_isPlace 1 = .ok (.ifCond .lt 25, 3) := by decide +kernel
theorem dX9_isPlace_4 : decode cX9_isPlace 4 = .ok (.iload_n 0, 1) := by decide +kernel
theorem dX9_isPlace_5 : decode cX9_isPlace 5 = .ok (.sipush 300, 3) := by decide +kernel
theorem dX9_isPlace_8 : decode cX9_isPlace 8 = .ok (.if_icmp .ge 18, 3) := by decide +kernel
theorem dX9_isPlace_11 : decode cX9_isPlace 11 = .ok (.iload_n 1, 1) := by decide +kernel
theorem dX9_isPlace_12 : decode cX9_isPlace 12 = .ok (.ifCond .lt 14, 3) := by decide +kernel
theorem dX9_isPlace_15 : decode cX9_isPlace 15 = .ok (.iload_n 1, 1) := by decide +kernel
theorem dX9_isPlace_16 : decode cX9_isPlace 16 = .ok (.sipush 300, 3) := by decide +kernel
theorem dX9_isPlace_19 : decode cX9_isPlace 19 = .ok (.if_icmp .ge 7, 3) := by decide +kernel
theorem dX9_isPlace_22 : decode cX9_isPlace 22 = .ok (.iconst 1, 1) := by decide +kernel
theorem dX9_isPlace_23 : decode cX9_isPlace 23 = .ok (.goto 4, 3) := by decide +kernel
theorem dX9_isPlace_26 : decode cX9_isPlace 26 = .ok (.iconst 0, 1) := by decide +kernel
theorem dX9_isPlace_27 : decode cX9_isPlace 27 = .ok (.ireturn, 1) := by decide +kernel
theorem dX9_isSum_0 : decode cX9_isSum 0 = .ok (.iload_n 0, 1) := by decide +kernel
theorem dX9_isSum_1 : decode cX9_isSum 1 = .ok (.iconst 1, 1) := by decide +kernel
theorem dX9_isSum_2 : decode cX9_isSum 2 = .ok (.if_icmp .lt 14, 3) := by decide +kernel
theorem dX9_isSum_5 : decode cX9_isSum 5 = .ok (.iload_n 0, 1) := by decide +kernel
theorem dX9_isSum_6 : decode cX9_isSum 6 = .ok (.ldc_w 327, 3) := by decide +kernel
theorem dX9_isSum_9 : decode cX9_isSum 9 = .ok (.if_icmp .gt 7, 3) := by decide +kernel
theorem dX9_isSum_12 : decode cX9_isSum 12 = .ok (.iconst 1, 1) := by decide +kernel
theorem dX9_isSum_13 : decode cX9_isSum 13 = .ok (.goto 4, 3) := by decide +kernel
theorem dX9_isSum_16 : decode cX9_isSum 16 = .ok (.iconst 0, 1) := by decide +kernel
theorem dX9_isSum_17 : decode cX9_isSum 17 = .ok (.ireturn, 1) := by decide +kernel
theorem dX9_isPeril_0 : decode cX9_isPeril 0 = .ok (.iload_n 0, 1) := by decide +kernel
theorem dX9_isPeril_1 : decode cX9_isPeril 1 = .ok (.ifCond .lt 12, 3) := by decide +kernel
theorem dX9_isPeril_4 : decode cX9_isPeril 4 = .ok (.iload_n 0, 1) := by decide +kernel
theorem dX9_isPeril_5 : decode cX9_isPeril 5 = .ok (.iconst 4, 1) := by decide +kernel
theorem dX9_isPeril_6 : decode cX9_isPeril 6 = .ok (.if_icmp .ge 7, 3) := by decide +kernel
theorem dX9_isPeril_9 : decode cX9_isPeril 9 = .ok (.iconst 1, 1) := by decide +kernel
theorem dX9_isPeril_10 : decode cX9_isPeril 10 = .ok (.goto 4, 3) := by decide +kernel
theorem dX9_isPeril_13 : decode cX9_isPeril 13 = .ok (.iconst 0, 1) := by decide +kernel
theorem dX9_isPeril_14 : decode cX9_isPeril 14 = .ok (.ireturn, 1) := by decide +kernel
theorem dX9_arePerils_0 : decode cX9_arePerils 0 = .ok (.iload_n 0, 1) := by decide +kernel
theorem dX9_arePerils_1 : decode cX9_arePerils 1 = .ok (.iconst 1, 1) := by decide +kernel
theorem dX9_arePerils_2 : decode cX9_arePerils 2 = .ok (.if_icmp .lt 13, 3) := by decide +kernel
theorem dX9_arePerils_5 : decode cX9_arePerils 5 = .ok (.iload_n 0, 1) := by decide +kernel
theorem dX9_arePerils_6 : decode cX9_arePerils 6 = .ok (.bipush 15, 2) := by decide +kernel
theorem dX9_arePerils_8 : decode cX9_arePerils 8 = .ok (.if_icmp .gt 7, 3) := by decide +kernel
theorem dX9_arePerils_11 : decode cX9_arePerils 11 = .ok (.iconst 1, 1) := by decide +kernel
theorem dX9_arePerils_12 : decode cX9_arePerils 12 = .ok (.goto 4, 3) := by decide +kernel
theorem dX9_arePerils_15 : decode cX9_arePerils 15 = .ok (.iconst 0, 1) := by decide +kernel
theorem dX9_arePerils_16 : decode cX9_arePerils 16 = .ok (.ireturn, 1) := by decide +kernel
theorem dX9_isRadius_0 : decode cX9_isRadius 0 = .ok (.iload_n 0, 1) := by decide +kernel
theorem dX9_isRadius_1 : decode cX9_isRadius 1 = .ok (.iconst 1, 1) := by decide +kernel
theorem dX9_isRadius_2 : decode cX9_isRadius 2 = .ok (.if_icmp .lt 14, 3) := by decide +kernel
theorem dX9_isRadius_5 : decode cX9_isRadius 5 = .ok (.iload_n 0, 1) := by decide +kernel
theorem dX9_isRadius_6 : decode cX9_isRadius 6 = .ok (.sipush 300, 3) := by decide +kernel
theorem dX9_isRadius_9 : decode cX9_isRadius 9 = .ok (.if_icmp .gt 7, 3) := by decide +kernel
theorem dX9_isRadius_12 : decode cX9_isRadius 12 = .ok (.iconst 1, 1) := by decide +kernel
theorem dX9_isRadius_13 : decode cX9_isRadius 13 = .ok (.goto 4, 3) := by decide +kernel
theorem dX9_isRadius_16 : decode cX9_isRadius 16 = .ok (.iconst 0, 1) := by decide +kernel
theorem dX9_isRadius_17 : decode cX9_isRadius 17 = .ok (.ireturn, 1) := by decide +kernel
theorem dX9_isReach_0 : decode cX9_isReach 0 = .ok (.iload_n 0, 1) := by decide +kernel
theorem dX9_isReach_1 : decode cX9_isReach 1 = .ok (.ifCond .lt 14, 3) := by decide +kernel
theorem dX9_isReach_4 : decode cX9_isReach 4 = .ok (.iload_n 0, 1) := by decide +kernel
theorem dX9_isReach_5 : decode cX9_isReach 5 = .ok (.sipush 300, 3) := by decide +kernel
theorem dX9_isReach_8 : decode cX9_isReach 8 = .ok (.if_icmp .gt 7, 3) := by decide +kernel
theorem dX9_isReach_11 : decode cX9_isReach 11 = .ok (.iconst 1, 1) := by decide +kernel
theorem dX9_isReach_12 : decode cX9_isReach 12 = .ok (.goto 4, 3) := by decide +kernel
theorem dX9_isReach_15 : decode cX9_isReach 15 = .ok (.iconst 0, 1) := by decide +kernel
theorem dX9_isReach_16 : decode cX9_isReach 16 = .ok (.ireturn, 1) := by decide +kernel
theorem dX9_contains_0 : decode cX9_contains 0 = .ok (.iload_n 0, 1) := by decide +kernel
theorem dX9_contains_1 : decode cX9_contains 1 = .ok (.iload_n 1, 1) := by decide +kernel
theorem dX9_contains_2 : decode cX9_contains 2 = .ok (.iushr, 1) := by decide +kernel
theorem dX9_contains_3 : decode cX9_contains 3 = .ok (.iconst 1, 1) := by decide +kernel
theorem dX9_contains_4 : decode cX9_contains 4 = .ok (.iand, 1) := by decide +kernel
theorem dX9_contains_5 : decode cX9_contains 5 = .ok (.ifCond .eq 7, 3) := by decide +kernel
theorem dX9_contains_8 : decode cX9_contains 8 = .ok (.iconst 1, 1) := by decide +kernel
theorem dX9_contains_9 : decode cX9_contains 9 = .ok (.goto 4, 3) := by decide +kernel
theorem dX9_contains_12 : decode cX9_contains 12 = .ok (.iconst 0, 1) := by decide +kernel
theorem dX9_contains_13 : decode cX9_contains 13 = .ok (.ireturn, 1) := by decide +kernel
theorem dX9_isNumber_0 : decode cX9_isNumber 0 = .ok (.iload_n 0, 1) := by decide +kernel
theorem dX9_isNumber_1 : decode cX9_isNumber 1 = .ok (.ifCond .lt 13, 3) := by decide +kernel
theorem dX9_isNumber_4 : decode cX9_isNumber 4 = .ok (.iload_n 0, 1) := by decide +kernel
theorem dX9_isNumber_5 : decode cX9_isNumber 5 = .ok (.bipush 24, 2) := by decide +kernel
theorem dX9_isNumber_7 : decode cX9_isNumber 7 = .ok (.if_icmp .ge 7, 3) := by decide +kernel
theorem dX9_isNumber_10 : decode cX9_isNumber 10 = .ok (.iconst 1, 1) := by decide +kernel
theorem dX9_isNumber_11 : decode cX9_isNumber 11 = .ok (.goto 4, 3) := by decide +kernel
theorem dX9_isNumber_14 : decode cX9_isNumber 14 = .ok (.iconst 0, 1) := by decide +kernel
theorem dX9_isNumber_15 : decode cX9_isNumber 15 = .ok (.ireturn, 1) := by decide +kernel
theorem dX9_onWay_0 : decode cX9_onWay 0 = .ok (.iload_n 3, 1) := by decide +kernel
theorem dX9_onWay_1 : decode cX9_onWay 1 = .ok (.iconst 1, 1) := by decide +kernel
theorem dX9_onWay_2 : decode cX9_onWay 2 = .ok (.if_icmp .ge 7, 3) := by decide +kernel
theorem dX9_onWay_5 : decode cX9_onWay 5 = .ok (.iload_n 0, 1) := by decide +kernel
theorem dX9_onWay_6 : decode cX9_onWay 6 = .ok (.goto 14, 3) := by decide +kernel
theorem dX9_onWay_9 : decode cX9_onWay 9 = .ok (.iload_n 0, 1) := by decide +kernel
theorem dX9_onWay_10 : decode cX9_onWay 10 = .ok (.iload_n 2, 1) := by decide +kernel
theorem dX9_onWay_11 : decode cX9_onWay 11 = .ok (.iload_n 1, 1) := by decide +kernel
theorem dX9_onWay_12 : decode cX9_onWay 12 = .ok (.iload_n 0, 1) := by decide +kernel
theorem dX9_onWay_13 : decode cX9_onWay 13 = .ok (.isub, 1) := by decide +kernel
theorem dX9_onWay_14 : decode cX9_onWay 14 = .ok (.imul, 1) := by decide +kernel
theorem dX9_onWay_15 : decode cX9_onWay 15 = .ok (.iload_n 3, 1) := by decide +kernel
theorem dX9_onWay_16 : decode cX9_onWay 16 = .ok (.invokestatic 409, 3) := by decide +kernel
theorem dX9_onWay_19 : decode cX9_onWay 19 = .ok (.iadd, 1) := by decide +kernel
theorem dX9_onWay_20 : decode cX9_onWay 20 = .ok (.ireturn, 1) := by decide +kernel
theorem dX9_sides_0 : decode cX9_sides 0 = .ok (.iload_n 2, 1) := by decide +kernel
theorem dX9_sides_1 : decode cX9_sides 1 = .ok (.i2l, 1) := by decide +kernel
theorem dX9_sides_2 : decode cX9_sides 2 = .ok (.iload_n 2, 1) := by decide +kernel
theorem dX9_sides_3 : decode cX9_sides 3 = .ok (.iload_n 0, 1) := by decide +kernel
theorem dX9_sides_4 : decode cX9_sides 4 = .ok (.isub, 1) := by decide +kernel
theorem dX9_sides_5 : decode cX9_sides 5 = .ok (.i2l, 1) := by decide +kernel
theorem dX9_sides_6 : decode cX9_sides 6 = .ok (.lmul, 1) := by decide +kernel
theorem dX9_sides_7 : decode cX9_sides 7 = .ok (.iload_n 3, 1) := by decide +kernel
theorem dX9_sides_8 : decode cX9_sides 8 = .ok (.i2l, 1) := by decide +kernel
theorem dX9_sides_9 : decode cX9_sides 9 = .ok (.iload_n 3, 1) := by decide +kernel
theorem dX9_sides_10 : decode cX9_sides 10 = .ok (.iload_n 1, 1) := by decide +kernel
theorem dX9_sides_11 : decode cX9_sides 11 = .ok (.isub, 1) := by decide +kernel
theorem dX9_sides_12 : decode cX9_sides 12 = .ok (.i2l, 1) := by decide +kernel
theorem dX9_sides_13 : decode cX9_sides 13 = .ok (.lmul, 1) := by decide +kernel
theorem dX9_sides_14 : decode cX9_sides 14 = .ok (.ladd, 1) := by decide +kernel
theorem dX9_sides_15 : decode cX9_sides 15 = .ok (.lstore 6, 2) := by decide +kernel
theorem dX9_sides_17 : decode cX9_sides 17 = .ok (.iload_n 0, 1) := by decide +kernel
theorem dX9_sides_18 : decode cX9_sides 18 = .ok (.i2l, 1) := by decide +kernel
theorem dX9_sides_19 : decode cX9_sides 19 = .ok (.iload_n 3, 1) := by decide +kernel
theorem dX9_sides_20 : decode cX9_sides 20 = .ok (.i2l, 1) := by decide +kernel
theorem dX9_sides_21 : decode cX9_sides 21 = .ok (.lmul, 1) := by decide +kernel
theorem dX9_sides_22 : decode cX9_sides 22 = .ok (.iload_n 1, 1) := by decide +kernel
theorem dX9_sides_23 : decode cX9_sides 23 = .ok (.i2l, 1) := by decide +kernel
theorem dX9_sides_24 : decode cX9_sides 24 = .ok (.iload_n 2, 1) := by decide +kernel
theorem dX9_sides_25 : decode cX9_sides 25 = .ok (.i2l, 1) := by decide +kernel
theorem dX9_sides_26 : decode cX9_sides 26 = .ok (.lmul, 1) := by decide +kernel
theorem dX9_sides_27 : decode cX9_sides 27 = .ok (.lsub, 1) := by decide +kernel
theorem dX9_sides_28 : decode cX9_sides 28 = .ok (.lstore 8, 2) := by decide +kernel
theorem dX9_sides_30 : decode cX9_sides 30 = .ok (.lload 6, 2) := by decide +kernel
theorem dX9_sides_32 : decode cX9_sides 32 = .ok (.lload 6, 2) := by decide +kernel
theorem dX9_sides_34 : decode cX9_sides 34 = .ok (.lmul, 1) := by decide +kernel
theorem dX9_sides_35 : decode cX9_sides 35 = .ok (.iload 4, 2) := by decide +kernel
theorem dX9_sides_37 : decode cX9_sides 37 = .ok (.i2l, 1) := by decide +kernel
theorem dX9_sides_38 : decode cX9_sides 38 = .ok (.lmul, 1) := by decide +kernel
theorem dX9_sides_39 : decode cX9_sides 39 = .ok (.lstore 10, 2) := by decide +kernel
theorem dX9_sides_41 : decode cX9_sides 41 = .ok (.lload 8, 2) := by decide +kernel
theorem dX9_sides_43 : decode cX9_sides 43 = .ok (.lload 8, 2) := by decide +kernel
theorem dX9_sides_45 : decode cX9_sides 45 = .ok (.lmul, 1) := by decide +kernel
theorem dX9_sides_46 : decode cX9_sides 46 = .ok (.iload 5, 2) := by decide +kernel
theorem dX9_sides_48 : decode cX9_sides 48 = .ok (.i2l, 1) := by decide +kernel
theorem dX9_sides_49 : decode cX9_sides 49 = .ok (.lmul, 1) := by decide +kernel
theorem dX9_sides_50 : decode cX9_sides 50 = .ok (.lstore 12, 2) := by decide +kernel
theorem dX9_sides_52 : decode cX9_sides 52 = .ok (.lload 8, 2) := by decide +kernel
theorem dX9_sides_54 : decode cX9_sides 54 = .ok (.lconst 0, 1) := by decide +kernel
theorem dX9_sides_55 : decode cX9_sides 55 = .ok (.lcmp, 1) := by decide +kernel
theorem dX9_sides_56 : decode cX9_sides 56 = .ok (.ifCond .le 7, 3) := by decide +kernel
theorem dX9_sides_59 : decode cX9_sides 59 = .ok (.iconst 1, 1) := by decide +kernel
theorem dX9_sides_60 : decode cX9_sides 60 = .ok (.goto 4, 3) := by decide +kernel
theorem dX9_sides_63 : decode cX9_sides 63 = .ok (.iconst 2, 1) := by decide +kernel
theorem dX9_sides_64 : decode cX9_sides 64 = .ok (.istore 14, 2) := by decide +kernel
theorem dX9_sides_66 : decode cX9_sides 66 = .ok (.lload 6, 2) := by decide +kernel
theorem dX9_sides_68 : decode cX9_sides 68 = .ok (.lconst 0, 1) := by decide +kernel
theorem dX9_sides_69 : decode cX9_sides 69 = .ok (.lcmp, 1) := by decide +kernel
theorem dX9_sides_70 : decode cX9_sides 70 = .ok (.ifCond .gt 18, 3) := by decide +kernel
theorem dX9_sides_73 : decode cX9_sides 73 = .ok (.lload 10, 2) := by decide +kernel
theorem dX9_sides_75 : decode cX9_sides 75 = .ok (.lload 12, 2) := by decide +kernel
theorem dX9_sides_77 : decode cX9_sides 77 = .ok (.lcmp, 1) := by decide +kernel
theorem dX9_sides_78 : decode cX9_sides 78 = .ok (.ifCond .lt 7, 3) := by decide +kernel
theorem dX9_sides_81 : decode cX9_sides 81 = .ok (.iconst 3, 1) := by decide +kernel
theorem dX9_sides_82 : decode cX9_sides 82 = .ok (.goto 5, 3) := by decide +kernel
theorem dX9_sides_85 : decode cX9_sides 85 = .ok (.iload 14, 2) := by decide +kernel
theorem dX9_sides_87 : decode cX9_sides 87 = .ok (.ireturn, 1) := by decide +kernel
theorem dX9_sides_88 : decode cX9_sides 88 = .ok (.lload 10, 2) := by decide +kernel
theorem dX9_sides_90 : decode cX9_sides 90 = .ok (.lload 12, 2) := by decide +kernel
theorem dX9_sides_92 : decode cX9_sides 92 = .ok (.lcmp, 1) := by decide +kernel
theorem dX9_sides_93 : decode cX9_sides 93 = .ok (.ifCond .gt 8, 3) := by decide +kernel
theorem dX9_sides_96 : decode cX9_sides 96 = .ok (.iload 14, 2) := by decide +kernel
theorem dX9_sides_98 : decode cX9_sides 98 = .ok (.goto 4, 3) := by decide +kernel
theorem dX9_sides_101 : decode cX9_sides 101 = .ok (.iconst 0, 1) := by decide +kernel
theorem dX9_sides_102 : decode cX9_sides 102 = .ok (.ireturn, 1) := by decide +kernel
