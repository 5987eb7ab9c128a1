theorem dX10_init_0 : decode cX10_init 0 = .ok (.aload_n 0, 1) := by decide +kernel
theorem dX10_init_1 : decode cX10_init 1 = .ok (.invokespecial 1, 3) := by decide +kernel
theorem dX10_init_4 : decode cX10_init 4 = .ok (.aload_n 0, 1) := by decide +kernel
theorem dX10_init_5 : decode cX10_init 5 = .ok (.sipush 900, 3) := by decide +kernel
theorem dX10_init_8 : decode cX10_init 8 = .ok (.newarray .int, 2) := by decide +kernel
theorem dX10_init_10 : decode cX10_init 10 = .ok (.putfield 7, 3) := by decide +kernel
theorem dX10_init_13 : decode cX10_init 13 = .ok (.aload_n 0, 1) := by decide +kernel
theorem dX10_init_14 : decode cX10_init 14 = .ok (.bipush 96, 2) := by decide +kernel
theorem dX10_init_16 : decode cX10_init 16 = .ok (.newarray .int, 2) := by decide +kernel
theorem dX10_init_18 : decode cX10_init 18 = .ok (.putfield 13, 3) := by decide +kernel
theorem dX10_init_21 : decode cX10_init 21 = .ok (.aload_n 0, 1) := by decide +kernel
theorem dX10_init_22 : decode cX10_init 22 = .ok (.bipush 18, 2) := by decide +kernel
theorem dX10_init_24 : decode cX10_init 24 = .ok (.newarray .int, 2) := by decide +kernel
theorem dX10_init_26 : decode cX10_init 26 = .ok (.putfield 16, 3) := by decide +kernel
theorem dX10_init_29 : decode cX10_init 29 = .ok (.aload_n 0, 1) := by decide +kernel
theorem dX10_init_30 : decode cX10_init 30 = .ok (.iconst (-1), 1) := by decide +kernel
theorem dX10_init_31 : decode cX10_init 31 = .ok (.putfield 19, 3) := by decide +kernel
theorem dX10_init_34 : decode cX10_init 34 = .ok (.aload_n 0, 1) := by decide +kernel
theorem dX10_init_35 : decode cX10_init 35 = .ok (.bipush 25, 2) := by decide +kernel
theorem dX10_init_37 : decode cX10_init 37 = .ok (.newarray .int, 2) := by decide +kernel
theorem dX10_init_39 : decode cX10_init 39 = .ok (.putfield 23, 3) := by decide +kernel
theorem dX10_init_42 : decode cX10_init 42 = .ok (.aload_n 0, 1) := by decide +kernel
theorem dX10_init_43 : decode cX10_init 43 = .ok (.bipush 25, 2) := by decide +kernel
theorem dX10_init_45 : decode cX10_init 45 = .ok (.newarray .int, 2) := by decide +kernel
theorem dX10_init_47 : decode cX10_init 47 = .ok (.putfield 26, 3) := by decide +kernel
theorem dX10_init_50 : decode cX10_init 50 = .ok (.aload_n 0, 1) := by decide +kernel
theorem dX10_init_51 : decode cX10_init 51 = .ok (.bipush 25, 2) := by decide +kernel
theorem dX10_init_53 : decode cX10_init 53 = .ok (.newarray .int, 2) := by decide +kernel
theorem dX10_init_55 : decode cX10_init 55 = .ok (.putfield 29, 3) := by decide +kernel
theorem dX10_init_58 : decode cX10_init 58 = .ok (.aload_n 0, 1) := by decide +kernel
theorem dX10_init_59 : decode cX10_init 59 = .ok (.bipush 25, 2) := by decide +kernel
theorem dX10_init_61 : decode cX10_init 61 = .ok (.newarray .int, 2) := by decide +kernel
theorem dX10_init_63 : decode cX10_init 63 = .ok (.putfield 32, 3) := by decide +kernel
theorem dX10_init_66 : decode cX10_init 66 = .ok (.aload_n 0, 1) := by decide +kernel
theorem dX10_init_67 : decode cX10_init 67 = .ok (.bipush 25, 2) := by decide +kernel
theorem dX10_init_69 : decode cX10_init 69 = .ok (.newarray .boolean, 2) := by decide +kernel
theorem dX10_init_71 : decode cX10_init 71 = .ok (.putfield 35, 3) := by decide +kernel
theorem dX10_init_74 : decode cX10_init 74 = .ok (.aload_n 0, 1) := by decide +kernel
theorem dX10_init_75 : decode cX10_init 75 = .ok (.bipush 6, 2) := by decide +kernel
theorem dX10_init_77 : decode cX10_init 77 = .ok (.newarray .int, 2) := by decide +kernel
theorem dX10_init_79 : decode cX10_init 79 = .ok (.putfield 39, 3) := by decide +kernel
theorem dX10_init_82 : decode cX10_init 82 = .ok (.aload_n 0, 1) := by decide +kernel
theorem dX10_init_83 : decode cX10_init 83 = .ok (.bipush 6, 2) := by decide +kernel
theorem dX10_init_85 : decode cX10_init 85 = .ok (.newarray .int, 2) := by decide +kernel
theorem dX10_init_87 : decode cX10_init 87 = .ok (.putfield 42, 3) := by decide +kernel
theorem dX10_init_90 : decode cX10_init 90 = .ok (.aload_n 0, 1) := by decide +kernel
theorem dX10_init_91 : decode cX10_init 91 = .ok (.bipush 6, 2) := by decide +kernel
theorem dX10_init_93 : decode cX10_init 93 = .ok (.newarray .int, 2) := by decide +kernel
theorem dX10_init_95 : decode cX10_init 95 = .ok (.putfield 45, 3) := by decide +kernel
theorem dX10_init_98 : decode cX10_init 98 = .ok (.aload_n 0, 1) := by decide +kernel
theorem dX10_init_99 : decode cX10_init 99 = .ok (.bipush 6, 2) := by decide +kernel
theorem dX10_init_101 : decode cX10_init 101 = .ok (.newarray .int, 2) := by decide +kernel
theorem dX10_init_103 : decode cX10_init 103 = .ok (.putfield 48, 3) := by decide +kernel
theorem dX10_init_106 : decode cX10_init 106 = .ok (.aload_n 0, 1) := by decide +kernel
theorem dX10_init_107 : decode cX10_init 107 = .ok (.bipush 6, 2) := by decide +kernel
theorem dX10_init_109 : decode cX10_init 109 = .ok (.newarray .int, 2) := by decide +kernel
theorem dX10_init_111 : decode cX10_init 111 = .ok (.putfield 51, 3) := by decide +kernel
theorem dX10_init_114 : decode cX10_init 114 = .ok (.aload_n 0, 1) := by decide +kernel
theorem dX10_init_115 : decode cX10_init 115 = .ok (.bipush 6, 2) := by decide +kernel
theorem dX10_init_117 : decode cX10_init 117 = .ok (.newarray .int, 2) := by decide +kernel
theorem dX10_init_119 : decode cX10_init 119 = .ok (.putfield 54, 3) := by decide +kernel
theorem dX10_init_122 : decode cX10_init 122 = .ok (.aload_n 0, 1) := by decide +kernel
theorem dX10_init_123 : decode cX10_init 123 = .ok (.bipush 90, 2) := by decide +kernel
theorem dX10_init_125 : decode cX10_init 125 = .ok (.newarray .int, 2) := by decide +kernel
theorem dX10_init_127 : decode cX10_init 127 = .ok (.putfield 57, 3) := by decide +kernel
theorem dX10_init_130 : decode cX10_init 130 = .ok (.aload_n 0, 1) := by decide +kernel
theorem dX10_init_131 : decode cX10_init 131 = .ok (.bipush 90, 2) := by decide +kernel
theorem dX10_init_133 : decode cX10_init 133 = .ok (.newarray .int, 2) := by decide +kernel
theorem dX10_init_135 : decode cX10_init 135 = .ok (.putfield 60, 3) := by decide +kernel
theorem dX10_init_138 : decode cX10_init 138 = .ok (.aload_n 0, 1) := by decide +kernel
theorem dX10_init_139 : decode cX10_init 139 = .ok (.iconst 5, 1) := by decide +kernel
theorem dX10_init_140 : decode cX10_init 140 = .ok (.newarray .long, 2) := by decide +kernel
theorem dX10_init_142 : decode cX10_init 142 = .ok (.putfield 63, 3) := by decide +kernel
theorem dX10_init_145 : decode cX10_init 145 = .ok (.aload_n 0, 1) := by decide +kernel
theorem dX10_init_146 : decode cX10_init 146 = .ok (.sipush 600, 3) := by decide +kernel
theorem dX10_init_149 : decode cX10_init 149 = .ok (.newarray .int, 2) := by decide +kernel
theorem dX10_init_151 : decode cX10_init 151 = .ok (.putfield 67, 3) := by decide +kernel
theorem dX10_init_154 : decode cX10_init 154 = .ok (.return_, 1) := by decide +kernel
theorem dX10_thrown_0 : decode cX10_thrown 0 = .ok (.aload_n 0, 1) := by decide +kernel
theorem dX10_thrown_1 : decode cX10_thrown 1 = .ok (.getfield 70, 3) := by decide +kernel
theorem dX10_thrown_4 : decode cX10_thrown 4 = .ok (.ireturn, 1) := by decide +kernel
theorem dX10_feed_0 : decode cX10_feed 0 = .ok (.aload_n 0, 1) := by decide +kernel
theorem dX10_feed_1 : decode cX10_feed 1 = .ok (.iconst 0, 1) := by decide +kernel
theorem dX10_feed_2 : decode cX10_feed 2 = .ok (.putfield 70, 3) := by decide +kernel
theorem dX10_feed_5 : decode cX10_feed 5 = .ok (.aload_n 0, 1) := by decide +kernel
theorem dX10_feed_6 : decode cX10_feed 6 = .ok (.getfield 73, 3) := by decide +kernel
theorem dX10_feed_9 : decode cX10_feed 9 = .ok (.sipush 880, 3) := by decide +kernel
theorem dX10_feed_12 : decode cX10_feed 12 = .ok (.if_icmp .le 5, 3) := by decide +kernel
theorem dX10_feed_15 : decode cX10_feed 15 = .ok (.iconst (-1), 1) := by decide +kernel
theorem dX10_feed_16 : decode cX10_feed 16 = .ok (.ireturn, 1) := by decide +kernel
theorem dX10_feed_17 : decode cX10_feed 17 = .ok (.iconst 0, 1) := by decide +kernel
theorem dX10_feed_18 : decode cX10_feed 18 = .ok (.istore 6, 2) := by decide +kernel
theorem dX10_feed_20 : decode cX10_feed 20 = .ok (.iload 6, 2) := by decide +kernel
theorem dX10_feed_22 : decode cX10_feed 22 = .ok (.bipush 20, 2) := by decide +kernel
theorem dX10_feed_24 : decode cX10_feed 24 = .ok (.if_icmp .ge 86, 3) := by decide +kernel
theorem dX10_feed_27 : decode cX10_feed 27 = .ok (.iload 6, 2) := by decide +kernel
theorem dX10_feed_29 : decode cX10_feed 29 = .ok (.iconst 4, 1) := by decide +kernel
theorem dX10_feed_30 : decode cX10_feed 30 = .ok (.if_icmp .ge 7, 3) := by decide +kernel
theorem dX10_feed_33 : decode cX10_feed 33 = .ok (.iload_n 1, 1) := by decide +kernel
theorem dX10_feed_34 : decode cX10_feed 34 = .ok (.goto 39, 3) := by decide +kernel
theorem dX10_feed_37 : decode cX10_feed 37 = .ok (.iload 6, 2) := by decide +kernel
theorem dX10_feed_39 : decode cX10_feed 39 = .ok (.bipush 8, 2) := by decide +kernel
theorem dX10_feed_41 : decode cX10_feed 41 = .ok (.if_icmp .ge 7, 3) := by decide +kernel
theorem dX10_feed_44 : decode cX10_feed 44 = .ok (.iload_n 2, 1) := by decide +kernel
theorem dX10_feed_45 : decode cX10_feed 45 = .ok (.goto 28, 3) := by decide +kernel
theorem dX10_feed_48 : decode cX10_feed 48 = .ok (.iload 6, 2) := by decide +kernel
theorem dX10_feed_50 : decode cX10_feed 50 = .ok (.bipush 12, 2) := by decide +kernel
theorem dX10_feed_52 : decode cX10_feed 52 = .ok (.if_icmp .ge 7, 3) := by decide +kernel
theorem dX10_feed_55 : decode cX10_feed 55 = .ok (.iload_n 3, 1) := by decide +kernel
theorem dX10_feed_56 : decode cX10_feed 56 = .ok (.goto 17, 3) := by decide +kernel
theorem dX10_feed_59 : decode cX10_feed 59 = .ok (.iload 6, 2) := by decide +kernel
theorem dX10_feed_61 : decode cX10_feed 61 = .ok (.bipush 16, 2) := by decide +kernel
theorem dX10_feed_63 : decode cX10_feed 63 = .ok (.if_icmp .ge 8, 3) := by decide +kernel
theorem dX10_feed_66 : decode cX10_feed 66 = .ok (.iload 4, 2) := by decide +kernel
theorem dX10_feed_68 : decode cX10_feed 68 = .ok (.goto 5, 3) := by decide +kernel
theorem dX10_feed_71 : decode cX10_feed 71 = .ok (.iload 5, 2) := by decide +kernel
theorem dX10_feed_73 : decode cX10_feed 73 = .ok (.istore 7, 2) := by decide +kernel
theorem dX10_feed_75 : decode cX10_feed 75 = .ok (.aload_n 0, 1) := by decide +kernel
theorem dX10_feed_76 : decode cX10_feed 76 = .ok (.getfield 7, 3) := by decide +kernel
theorem dX10_feed_79 : decode cX10_feed 79 = .ok (.aload_n 0, 1) := by decide +kernel
theorem dX10_feed_80 : decode cX10_feed 80 = .ok (.getfield 73, 3) := by decide +kernel
theorem dX10_feed_83 : decode cX10_feed 83 = .ok (.iload 6, 2) := by decide +kernel
theorem dX10_feed_85 : decode cX10_feed 85 = .ok (.iadd, 1) := by decide +kernel
theorem dX10_feed_86 : decode cX10_feed 86 = .ok (.iload 7, 2) := by decide +kernel
theorem dX10_feed_88 : decode cX10_feed 88 = .ok (.bipush 24, 2) := by decide +kernel
theorem dX10_feed_90 : decode cX10_feed 90 = .ok (.bipush 8, 2) := by decide +kernel
theorem dX10_feed_92 : decode cX10_feed 92 = .ok (.iload 6, 2) := by decide +kernel
theorem dX10_feed_94 : decode cX10_feed 94 = .ok (.iconst 4, 1) := by decide +kernel
theorem dX10_feed_95 : decode cX10_feed 95 = .ok (.irem, 1) := by decide +kernel
theorem dX10_feed_96 : decode cX10_feed 96 = .ok (.imul, 1) := by decide +kernel
theorem dX10_feed_97 : decode cX10_feed 97 = .ok (.isub, 1) := by decide +kernel
theorem dX10_feed_98 : decode cX10_feed 98 = .ok (.ishr, 1) := by decide +kernel
theorem dX10_feed_99 : decode cX10_feed 99 = .ok (.sipush 255, 3) := by decide +kernel
theorem dX10_feed_102 : decode cX10_feed 102 = .ok (.iand, 1) := by decide +kernel
theorem dX10_feed_103 : decode cX10_feed 103 = .ok (.iastore, 1) := by decide +kernel
theorem dX10_feed_104 : decode cX10_feed 104 = .ok (.iinc 6 1, 3) := by decide +kernel
theorem dX10_feed_107 : decode cX10_feed 107 = .ok (.goto (-87), 3) := by decide +kernel
theorem dX10_feed_110 : decode cX10_feed 110 = .ok (.aload_n 0, 1) := by decide +kernel
theorem dX10_feed_111 : decode cX10_feed 111 = .ok (.dup, 1) := by decide +kernel
theorem dX10_feed_112 : decode cX10_feed 112 = .ok (.getfield 73, 3) := by decide +kernel
theorem dX10_feed_115 : decode cX10_feed 115 = .ok (.bipush 20, 2) := by decide +kernel
theorem dX10_feed_117 : decode cX10_feed 117 = .ok (.iadd, 1) := by decide +kernel
theorem dX10_feed_118 : decode cX10_feed 118 = .ok (.putfield 73, 3) := by decide +kernel
theorem dX10_feed_121 : decode cX10_feed 121 = .ok (.aload_n 0, 1) := by decide +kernel
theorem dX10_feed_122 : decode cX10_feed 122 = .ok (.getfield 73, 3) := by decide +kernel
theorem dX10_feed_125 : decode cX10_feed 125 = .ok (.ireturn, 1) := by decide +kernel
theorem dX10_here_0 : decode cX10_here 0 = .ok (.aload_n 0, 1) := by decide +kernel
theorem dX10_here_1 : decode cX10_here 1 = .ok (.getfield 76, 3) := by decide +kernel
theorem dX10_here_4 : decode cX10_here 4 = .ok (.aload_n 0, 1) := by decide +kernel
theorem dX10_here_5 : decode cX10_here 5 = .ok (.getfield 79, 3) := by decide +kernel
theorem dX10_here_8 : decode cX10_here 8 = .ok (.if_icmp .ge 15, 3) := by decide +kernel
theorem dX10_here_11 : decode cX10_here 11 = .ok (.aload_n 0, 1) := by decide +kernel
theorem dX10_here_12 : decode cX10_here 12 = .ok (.getfield 7, 3) := by decide +kernel
theorem dX10_here_15 : decode cX10_here 15 = .ok (.aload_n 0, 1) := by decide +kernel
theorem dX10_here_16 : decode cX10_here 16 = .ok (.getfield 76, 3) := by decide +kernel
theorem dX10_here_19 : decode cX10_here 19 = .ok (.iaload, 1) := by decide +kernel
theorem dX10_here_20 : decode cX10_here 20 = .ok (.goto 4, 3) := by decide +kernel
theorem dX10_here_23 : decode cX10_here 23 = .ok (.iconst (-1), 1) := by decide +kernel
theorem dX10_here_24 : decode cX10_here 24 = .ok (.ireturn, 1) := by decide +kernel
theorem dX10_isSmall_0 : decode cX10_isSmall 0 = .ok (.iload_n 0, 1) := by decide +kernel
theorem dX10_isSmall_1 : decode cX10_isSmall 1 = .ok (.bipush 97, 2) := by decide +kernel
theorem dX10_isSmall_3 : decode cX10_isSmall 3 = .ok (.if_icmp .lt 13, 3) := by decide +kernel
theorem dX10_isSmall_6 : decode cX10_isSmall 6 = .ok (.iload_n 0, 1) := by decide +kernel
theorem dX10_isSmall_7 : decode cX10_isSmall 7 = .ok (.bipush 122, 2) := by decide +kernel
theorem dX10_isSmall_9 : decode cX10_isSmall 9 = .ok (.if_icmp .gt 7, 3) := by decide +kernel
theorem dX10_isSmall_12 : decode cX10_isSmall 12 = .ok (.iconst 1, 1) := by decide +kernel
theorem dX10_isSmall_13 : decode cX10_isSmall 13 = .ok (.goto 4, 3) := by decide +kernel
theorem dX10_isSmall_16 : decode cX10_isSmall 16 = .ok (.iconst 0, 1) := by decide +kernel
theorem dX10_isSmall_17 : decode cX10_isSmall 17 = .ok (.ireturn, 1) := by decide +kernel
theorem dX10_isDigit_0 : decode cX10_isDigit 0 = .ok (.iload_n 0, 1) := by decide +kernel
theorem dX10_isDigit_1 : decode cX10_isDigit 1 = .ok (.bipush 48, 2) := by decide +kernel
theorem dX10_isDigit_3 : decode cX10_isDigit 3 = .ok (.if_icmp .lt 13, 3) := by decide +kernel
theorem dX10_isDigit_6 : decode cX10_isDigit 6 = .ok (.iload_n 0, 1) := by decide +kernel
theorem dX10_isDigit_7 : decode cX10_isDigit 7 = .ok (.bipush 57, 2) := by decide +kernel
theorem dX10_isDigit_9 : decode cX10_isDigit 9 = .ok (.if_icmp .gt 7, 3) := by decide +kernel
theorem dX10_isDigit_12 : decode cX10_isDigit 12 = .ok (.iconst 1, 1) := by decide +kernel
theorem dX10_isDigit_13 : decode cX10_isDigit 13 = .ok (.goto 4, 3) := by decide +kernel
theorem dX10_isDigit_16 : decode cX10_isDigit 16 = .ok (.iconst 0, 1) := by decide +kernel
theorem dX10_isDigit_17 : decode cX10_isDigit 17 = .ok (.ireturn, 1) := by decide +kernel
theorem dX10_token_0 : decode cX10_token 0 = .ok (.aload_n 0, 1) := by decide +kernel
theorem dX10_token_1 : decode cX10_token 1 = .ok (.invokevirtual 82, 3) := by decide +kernel
theorem dX10_token_4 : decode cX10_token 4 = .ok (.bipush 10, 2) := by decide +kernel
theorem dX10_token_6 : decode cX10_token 6 = .ok (.if_icmp .eq 12, 3) := by decide +kernel
theorem dX10_token_9 : decode cX10_token 9 = .ok (.aload_n 0, 1) := by decide +kernel
theorem dX10_token_10 : decode cX10_token 10 = .ok (.invokevirtual 82, 3) := by decide +kernel
theorem dX10_token_13 : decode cX10_token 13 = .ok (.bipush 32, 2) := by decide +kernel
theorem dX10_token_15 : decode cX10_token 15 = .ok (.if_icmp .ne 16, 3) := by decide +kernel
theorem dX10_token_18 : decode cX10_token 18 = .ok (.aload_n 0, 1) := by decide +kernel
theorem dX10_token_19 : decode cX10_token 19 = .ok (.dup, 1) := by decide +kernel
theorem dX10_token_20 : decode cX10_token 20 = .ok (.getfield 76, 3) := by decide +kernel
theorem dX10_token_23 : decode cX10_token 23 = .ok (.iconst 1, 1) := by decide +kernel
theorem dX10_token_24 : decode cX10_token 24 = .ok (.iadd, 1) := by decide +kernel
theorem dX10_token_25 : decode cX10_token 25 = .ok (.putfield 76, 3) := by decide +kernel
theorem dX10_token_28 : decode cX10_token 28 = .ok (.goto (-28), 3) := by decide +kernel
theorem dX10_token_31 : decode cX10_token 31 = .ok (.aload_n 0, 1) := by decide +kernel
theorem dX10_token_32 : decode cX10_token 32 = .ok (.aload_n 0, 1) := by decide +kernel
theorem dX10_token_33 : decode cX10_token 33 = .ok (.getfield 76, 3) := by decide +kernel
theorem dX10_token_36 : decode cX10_token 36 = .ok (.putfield 86, 3) := by decide +kernel
theorem dX10_token_39 : decode cX10_token 39 = .ok (.aload_n 0, 1) := by decide +kernel
theorem dX10_token_40 : decode cX10_token 40 = .ok (.invokevirtual 82, 3) := by decide +kernel
theorem dX10_token_43 : decode cX10_token 43 = .ok (.istore_n 1, 1) := by decide +kernel
theorem dX10_token_44 : decode cX10_token 44 = .ok (.iload_n 1, 1) := by decide +kernel
theorem dX10_token_45 : decode cX10_token 45 = .ok (.iconst (-1), 1) := by decide +kernel
theorem dX10_token_46 : decode cX10_token 46 = .ok (.if_icmp .ne 11, 3) := by decide +kernel
theorem dX10_token_49 : decode cX10_token 49 = .ok (.aload_n 0, 1) := by decide +kernel
theorem dX10_token_50 : decode cX10_token 50 = .ok (.iconst 3, 1) := by decide +kernel
theorem dX10_token_51 : decode cX10_token 51 = .ok (.putfield 89, 3) := by decide +kernel
theorem dX10_token_54 : decode cX10_token 54 = .ok (.goto 161, 3) := by decide +kernel
theorem dX10_token_57 : decode cX10_token 57 = .ok (.iload_n 1, 1) := by decide +kernel
theorem dX10_token_58 : decode cX10_token 58 = .ok (.invokestatic 92, 3) := by decide +kernel
theorem dX10_token_61 : decode cX10_token 61 = .ok (.ifCond .eq 54, 3) := by decide +kernel
theorem dX10_token_64 : decode cX10_token 64 = .ok (.aload_n 0, 1) := by decide +kernel
theorem dX10_token_65 : decode cX10_token 65 = .ok (.invokevirtual 82, 3) := by decide +kernel
theorem dX10_token_68 : decode cX10_token 68 = .ok (.invokestatic 92, 3) := by decide +kernel
theorem dX10_token_71 : decode cX10_token 71 = .ok (.ifCond .eq 16, 3) := by decide +kernel
theorem dX10_token_74 : decode cX10_token 74 = .ok (.aload_n 0, 1) := by decide +kernel
theorem dX10_token_75 : decode cX10_token 75 = .ok (.dup, 1) := by decide +kernel
theorem dX10_token_76 : decode cX10_token 76 = .ok (.getfield 76, 3) := by decide +kernel
theorem dX10_token_79 : decode cX10_token 79 = .ok (.iconst 1, 1) := by decide +kernel
theorem dX10_token_80 : decode cX10_token 80 = .ok (.iadd, 1) := by decide +kernel
theorem dX10_token_81 : decode cX10_token 81 = .ok (.putfield 76, 3) := by decide +kernel
theorem dX10_token_84 : decode cX10_token 84 = .ok (.goto (-20), 3) := by decide +kernel
theorem dX10_token_87 : decode cX10_token 87 = .ok (.aload_n 0, 1) := by decide +kernel
theorem dX10_token_88 : decode cX10_token 88 = .ok (.aload_n 0, 1) := by decide +kernel
theorem dX10_token_89 : decode cX10_token 89 = .ok (.invokevirtual 96, 3) := by decide +kernel
theorem dX10_token_92 : decode cX10_token 92 = .ok (.putfield 99, 3) := by decide +kernel
theorem dX10_token_95 : decode cX10_token 95 = .ok (.aload_n 0, 1) := by decide +kernel
theorem dX10_token_96 : decode cX10_token 96 = .ok (.aload_n 0, 1) := by decide +kernel
theorem dX10_token_97 : decode cX10_token 97 = .ok (.getfield 99, 3) := by decide +kernel
theorem dX10_token_100 : decode cX10_token 100 = .ok (.iconst (-1), 1) := by decide +kernel
theorem dX10_token_101 : decode cX10_token 101 = .ok (.if_icmp .eq 7, 3) := by decide +kernel
theorem dX10_token_104 : decode cX10_token 104 = .ok (.iconst 0, 1) := by decide +kernel
theorem dX10_token_105 : decode cX10_token 105 = .ok (.goto 4, 3) := by decide +kernel
theorem dX10_token_108 : decode cX10_token 108 = .ok (.iconst 4, 1) := by decide +kernel
theorem dX10_token_109 : decode cX10_token 109 = .ok (.putfield 89, 3) := by decide +kernel
theorem dX10_token_112 : decode cX10_token 112 = .ok (.goto 103, 3) := by decide +kernel
theorem dX10_token_115 : decode cX10_token 115 = .ok (.iload_n 1, 1) := by decide +kernel
theorem dX10_token_116 : decode cX10_token 116 = .ok (.invokestatic 102, 3) := by decide +kernel
theorem dX10_token_119 : decode cX10_token 119 = .ok (.ifCond .eq 71, 3) := by decide +kernel
theorem dX10_token_122 : decode cX10_token 122 = .ok (.aload_n 0, 1) := by decide +kernel
theorem dX10_token_123 : decode cX10_token 123 = .ok (.iconst 1, 1) := by decide +kernel
theorem dX10_token_124 : decode cX10_token 124 = .ok (.putfield 89, 3) := by decide +kernel
theorem dX10_token_127 : decode cX10_token 127 = .ok (.aload_n 0, 1) := by decide +kernel
theorem dX10_token_128 : decode cX10_token 128 = .ok (.iconst 0, 1) := by decide +kernel
theorem dX10_token_129 : decode cX10_token 129 = .ok (.putfield 99, 3) := by decide +kernel
theorem dX10_token_132 : decode cX10_token 132 = .ok (.aload_n 0, 1) := by decide +kernel
theorem dX10_token_133 : decode cX10_token 133 = .ok (.invokevirtual 82, 3) := by decide +kernel
theorem dX10_token_136 : decode cX10_token 136 = .ok (.invokestatic 102, 3) := by decide +kernel
theorem dX10_token_139 : decode cX10_token 139 = .ok (.ifCond .eq 76, 3) := by decide +kernel
theorem dX10_token_142 : decode cX10_token 142 = .ok (.aload_n 0, 1) := by decide +kernel
theorem dX10_token_143 : decode cX10_token 143 = .ok (.aload_n 0, 1) := by decide +kernel
theorem dX10_token_144 : decode cX10_token 144 = .ok (.getfield 99, 3) := by decide +kernel
theorem dX10_token_147 : decode cX10_token 147 = .ok (.ldc 105, 2) := by decide +kernel
theorem dX10_token_149 : decode cX10_token 149 = .ok (.if_icmp .le 10, 3) := by decide +kernel
theorem dX10_token_152 : decode cX10_token 152 = .ok (.aload_n 0, 1) := by decide +kernel
theorem dX10_token_153 : decode cX10_token 153 = .ok (.getfield 99, 3) := by decide +kernel
theorem dX10_token_156 : decode cX10_token 156 = .ok (.goto 18, 3) := by decide +kernel
theorem dX10_token_159 : decode cX10_token 159 = .ok (.bipush 10, 2) := by decide +kernel
theorem dX10_token_161 : decode cX10_token 161 = .ok (.aload_n 0, 1) := by decide +kernel
theorem dX10_token_162 : decode cX10_token 162 = .ok (.getfield 99, 3) := by decide +kernel
theorem dX10_token_165 : decode cX10_token 165 = .ok (.imul, 1) := by decide +kernel
theorem dX10_token_166 : decode cX10_token 166 = .ok (.aload_n 0, 1) := by decide +kernel
theorem dX10_token_167 : decode cX10_token 167 = .ok (.invokevirtual 82, 3) := by decide +kernel
theorem dX10_token_170 : decode cX10_token 170 = .ok (.iadd, 1) := by decide +kernel
theorem dX10_token_171 : decode cX10_token 171 = .ok (.bipush 48, 2) := by decide +kernel
theorem dX10_token_173 : decode cX10_token 173 = .ok (.isub, 1) := by decide +kernel
theorem dX10_token_174 : decode cX10_token 174 = .ok (.putfield 99, 3) := by decide +kernel
theorem dX10_token_177 : decode cX10_token 177 = .ok (.aload_n 0, 1) := by decide +kernel
theorem dX10_token_178 : decode cX10_token 178 = .ok (.dup, 1) := by decide +kernel
theorem dX10_token_179 : decode cX10_token 179 = .ok (.getfield 76, 3) := by decide +kernel
theorem dX10_token_182 : decode cX10_token 182 = .ok (.iconst 1, 1) := by decide +kernel
theorem dX10_token_183 : decode cX10_token 183 = .ok (.iadd, 1) := by decide +kernel
theorem dX10_token_184 : decode cX10_token 184 = .ok (.putfield 76, 3) := by decide +kernel
theorem dX10_token_187 : decode cX10_token 187 = .ok (.goto (-55), 3) := by decide +kernel
theorem dX10_token_190 : decode cX10_token 190 = .ok (.aload_n 0, 1) := by decide +kernel
theorem dX10_token_191 : decode cX10_token 191 = .ok (.iload_n 1, 1) := by decide +kernel
theorem dX10_token_192 : decode cX10_token 192 = .ok (.bipush 59, 2) := by decide +kernel
theorem dX10_token_194 : decode cX10_token 194 = .ok (.if_icmp .ne 7, 3) := by decide +kernel
theorem dX10_token_197 : decode cX10_token 197 = .ok (.iconst 2, 1) := by decide +kernel
theorem dX10_token_198 : decode cX10_token 198 = .ok (.goto 4, 3) := by decide +kernel
theorem dX10_token_201 : decode cX10_token 201 = .ok (.iconst 4, 1) := by decide +kernel
theorem dX10_token_202 : decode cX10_token 202 = .ok (.putfield 89, 3) := by decide +kernel
theorem dX10_token_205 : decode cX10_token 205 = .ok (.aload_n 0, 1) := by decide +kernel
theorem dX10_token_206 : decode cX10_token 206 = .ok (.dup, 1) := by decide +kernel
theorem dX10_token_207 : decode cX10_token 207 = .ok (.getfield 76, 3) := by decide +kernel
theorem dX10_token_210 : decode cX10_token 210 = .ok (.iconst 1, 1) := by decide +kernel
theorem dX10_token_211 : decode cX10_token 211 = .ok (.iadd, 1) := by decide +kernel
theorem dX10_token_212 : decode cX10_token 212 = .ok (.putfield 76, 3) := by decide +kernel
theorem dX10_token_215 : decode cX10_token 215 = .ok (.return_, 1) := by decide +kernel
theorem dX10_wordHere_0 : decode cX10_wordHere 0 = .ok (.iconst 0, 1) := by decide +kernel
theorem dX10_wordHere_1 : decode cX10_wordHere 1 = .ok (.istore_n 1, 1) := by decide +kernel
theorem dX10_wordHere_2 : decode cX10_wordHere 2 = .ok (.iconst 0, 1) := by decide +kernel
theorem dX10_wordHere_3 : decode cX10_wordHere 3 = .ok (.istore_n 2, 1) := by decide +kernel
theorem dX10_wordHere_4 : decode cX10_wordHere 4 = .ok (.iload_n 2, 1) := by decide +kernel
theorem dX10_wordHere_5 : decode cX10_wordHere 5 = .ok (.ldc 106, 2) := by decide +kernel
theorem dX10_wordHere_7 : decode cX10_wordHere 7 = .ok (.invokevirtual 108, 3) := by decide +kernel
theorem dX10_wordHere_10 : decode cX10_wordHere 10 = .ok (.if_icmp .ge 113, 3) := by decide +kernel
theorem dX10_wordHere_13 : decode cX10_wordHere 13 = .ok (.iconst 0, 1) := by decide +kernel
theorem dX10_wordHere_14 : decode cX10_wordHere 14 = .ok (.istore_n 3, 1) := by decide +kernel
theorem dX10_wordHere_15 : decode cX10_wordHere 15 = .ok (.ldc 106, 2) := by decide +kernel
theorem dX10_wordHere_17 : decode cX10_wordHere 17 = .ok (.iload_n 2, 1) := by decide +kernel
theorem dX10_wordHere_18 : decode cX10_wordHere 18 = .ok (.iload_n 3, 1) := by decide +kernel
theorem dX10_wordHere_19 : decode cX10_wordHere 19 = .ok (.iadd, 1) := by decide +kernel
theorem dX10_wordHere_20 : decode cX10_wordHere 20 = .ok (.invokevirtual 113, 3) := by decide +kernel
theorem dX10_wordHere_23 : decode cX10_wordHere 23 = .ok (.bipush 32, 2) := by decide +kernel
theorem dX10_wordHere_25 : decode cX10_wordHere 25 = .ok (.if_icmp .eq 44, 3) := by decide +kernel
theorem dX10_wordHere_28 : decode cX10_wordHere 28 = .ok (.aload_n 0, 1) := by decide +kernel
theorem dX10_wordHere_29 : decode cX10_wordHere 29 = .ok (.getfield 86, 3) := by decide +kernel
theorem dX10_wordHere_32 : decode cX10_wordHere 32 = .ok (.iload_n 3, 1) := by decide +kernel
theorem dX10_wordHere_33 : decode cX10_wordHere 33 = .ok (.iadd, 1) := by decide +kernel
theorem dX10_wordHere_34 : decode cX10_wordHere 34 = .ok (.aload_n 0, 1) := by decide +kernel
theorem dX10_wordHere_35 : decode cX10_wordHere 35 = .ok (.getfield 76, 3) := by decide +kernel
theorem dX10_wordHere_38 : decode cX10_wordHere 38 = .ok (.if_icmp .ge 31, 3) := by decide +kernel
theorem dX10_wordHere_41 : decode cX10_wordHere 41 = .ok (.aload_n 0, 1) := by decide +kernel
theorem dX10_wordHere_42 : decode cX10_wordHere 42 = .ok (.getfield 7, 3) := by decide +kernel
theorem dX10_wordHere_45 : decode cX10_wordHere 45 = .ok (.aload_n 0, 1) := by decide +kernel
theorem dX10_wordHere_46 : decode cX10_wordHere 46 = .ok (.getfield 86, 3) := by decide +kernel
theorem dX10_wordHere_49 : decode cX10_wordHere 49 = .ok (.iload_n 3, 1) := by decide +kernel
theorem dX10_wordHere_50 : decode cX10_wordHere 50 = .ok (.iadd, 1) := by decide +kernel
theorem dX10_wordHere_51 : decode cX10_wordHere 51 = .ok (.iaload, 1) := by decide +kernel
theorem dX10_wordHere_52 : decode cX10_wordHere 52 = .ok (.ldc 106, 2) := by decide +kernel
theorem dX10_wordHere_54 : decode cX10_wordHere 54 = .ok (.iload_n 2, 1) := by decide +kernel
theorem dX10_wordHere_55 : decode cX10_wordHere 55 = .ok (.iload_n 3, 1) := by decide +kernel
theorem dX10_wordHere_56 : decode cX10_wordHere 56 = .ok (.iadd, 1) := by decide +kernel
theorem dX10_wordHere_57 : decode cX10_wordHere 57 = .ok (.invokevirtual 113, 3) := by decide +kernel
theorem dX10_wordHere_60 : decode cX10_wordHere 60 = .ok (.if_icmp .ne 9, 3) := by decide +kernel
theorem dX10_wordHere_63 : decode cX10_wordHere 63 = .ok (.iinc 3 1, 3) := by decide +kernel
theorem dX10_wordHere_66 : decode cX10_wordHere 66 = .ok (.goto (-51), 3) := by decide +kernel
theorem dX10_wordHere_69 : decode cX10_wordHere 69 = .ok (.ldc 106, 2) := by decide +kernel
theorem dX10_wordHere_71 : decode cX10_wordHere 71 = .ok (.iload_n 2, 1) := by decide +kernel
theorem dX10_wordHere_72 : decode cX10_wordHere 72 = .ok (.iload_n 3, 1) := by decide +kernel
theorem dX10_wordHere_73 : decode cX10_wordHere 73 = .ok (.iadd, 1) := by decide +kernel
theorem dX10_wordHere_74 : decode cX10_wordHere 74 = .ok (.invokevirtual 113, 3) := by decide +kernel
theorem dX10_wordHere_77 : decode cX10_wordHere 77 = .ok (.bipush 32, 2) := by decide +kernel
theorem dX10_wordHere_79 : decode cX10_wordHere 79 = .ok (.if_icmp .ne 18, 3) := by decide +kernel
theorem dX10_wordHere_82 : decode cX10_wordHere 82 = .ok (.aload_n 0, 1) := by decide +kernel
theorem dX10_wordHere_83 : decode cX10_wordHere 83 = .ok (.getfield 86, 3) := by decide +kernel
theorem dX10_wordHere_86 : decode cX10_wordHere 86 = .ok (.iload_n 3, 1) := by decide +kernel
theorem dX10_wordHere_87 : decode cX10_wordHere 87 = .ok (.iadd, 1) := by decide +kernel
theorem dX10_wordHere_88 : decode cX10_wordHere 88 = .ok (.aload_n 0, 1) := by decide +kernel
theorem dX10_wordHere_89 : decode cX10_wordHere 89 = .ok (.getfield 76, 3) := by decide +kernel
theorem dX10_wordHere_92 : decode cX10_wordHere 92 = .ok (.if_icmp .ne 5, 3) := by decide +kernel
theorem dX10_wordHere_95 : decode cX10_wordHere 95 = .ok (.iload_n 1, 1) := by decide +kernel
theorem dX10_wordHere_96 : decode cX10_wordHere 96 = .ok (.ireturn, 1) := by decide +kernel
theorem dX10_wordHere_97 : decode cX10_wordHere 97 = .ok (.ldc 106, 2) := by decide +kernel
theorem dX10_wordHere_99 : decode cX10_wordHere 99 = .ok (.iload_n 2, 1) := by decide +kernel
theorem dX10_wordHere_100 : decode cX10_wordHere 100 = .ok (.invokevirtual 113, 3) := by decide +kernel
theorem dX10_wordHere_103 : decode cX10_wordHere 103 = .ok (.bipush 32, 2) := by decide +kernel
theorem dX10_wordHere_105 : decode cX10_wordHere 105 = .ok (.if_icmp .eq 9, 3) := by decide +kernel
theorem dX10_wordHere_108 : decode cX10_wordHere 108 = .ok (.iinc 2 1, 3) := by decide +kernel
theorem dX10_wordHere_111 : decode cX10_wordHere 111 = .ok (.goto (-14), 3) := by decide +kernel
theorem dX10_wordHere_114 : decode cX10_wordHere 114 = .ok (.iinc 2 1, 3) := by decide +kernel
theorem dX10_wordHere_117 : decode cX10_wordHere 117 = .ok (.iinc 1 1, 3) := by decide +kernel
theorem dX10_wordHere_120 : decode cX10_wordHere 120 = .ok (.goto (-116), 3) := by decide +kernel
theorem dX10_wordHere_123 : decode cX10_wordHere 123 = .ok (.iconst (-1), 1) := by decide +kernel
theorem dX10_wordHere_124 : decode cX10_wordHere 124 = .ok (.ireturn, 1) := by decide +kernel
theorem dX10_wrong_0 : decode cX10_wrong 0 = .ok (.aload_n 0, 1) := by decide +kernel
theorem dX10_wrong_1 : decode cX10_wrong 1 = .ok (.getfield 117, 3) := by decide +kernel
theorem dX10_wrong_4 : decode cX10_wrong 4 = .ok (.ifCond .eq 4, 3) := by decide +kernel
theorem dX10_wrong_7 : decode cX10_wrong 7 = .ok (.return_, 1) := by decide +kernel
theorem dX10_wrong_8 : decode cX10_wrong 8 = .ok (.aload_n 0, 1) := by decide +kernel
theorem dX10_wrong_9 : decode cX10_wrong 9 = .ok (.iload_n 1, 1) := by decide +kernel
theorem dX10_wrong_10 : decode cX10_wrong 10 = .ok (.putfield 117, 3) := by decide +kernel
theorem dX10_wrong_13 : decode cX10_wrong 13 = .ok (.aload_n 0, 1) := by decide +kernel
theorem dX10_wrong_14 : decode cX10_wrong 14 = .ok (.aload_n 0, 1) := by decide +kernel
theorem dX10_wrong_15 : decode cX10_wrong 15 = .ok (.getfield 86, 3) := by decide +kernel
theorem dX10_wrong_18 : decode cX10_wrong 18 = .ok (.putfield 120, 3) := by decide +kernel
theorem dX10_wrong_21 : decode cX10_wrong 21 = .ok (.return_, 1) := by decide +kernel
theorem dX10_goOn_0 : decode cX10_goOn 0 = .ok (.aload_n 0, 1) := by decide +kernel
theorem dX10_goOn_1 : decode cX10_goOn 1 = .ok (.getfield 117, 3) := by decide +kernel
theorem dX10_goOn_4 : decode cX10_goOn 4 = .ok (.ifCond .ne 7, 3) := by decide +kernel
theorem dX10_goOn_7 : decode cX10_goOn 7 = .ok (.aload_n 0, 1) := by decide +kernel
theorem dX10_goOn_8 : decode cX10_goOn 8 = .ok (.invokevirtual 123, 3) := by decide +kernel
theorem dX10_goOn_11 : decode cX10_goOn 11 = .ok (.return_, 1) := by decide +kernel
theorem dX10_numeral_0 : decode cX10_numeral 0 = .ok (.aload_n 0, 1) := by decide +kernel
theorem dX10_numeral_1 : decode cX10_numeral 1 = .ok (.getfield 117, 3) := by decide +kernel
theorem dX10_numeral_4 : decode cX10_numeral 4 = .ok (.ifCond .eq 5, 3) := by decide +kernel
theorem dX10_numeral_7 : decode cX10_numeral 7 = .ok (.iload_n 1, 1) := by decide +kernel
theorem dX10_numeral_8 : decode cX10_numeral 8 = .ok (.ireturn, 1) := by decide +kernel
theorem dX10_numeral_9 : decode cX10_numeral 9 = .ok (.aload_n 0, 1) := by decide +kernel
theorem dX10_numeral_10 : decode cX10_numeral 10 = .ok (.getfield 89, 3) := by decide +kernel
theorem dX10_numeral_13 : decode cX10_numeral 13 = .ok (.iconst 1, 1) := by decide +kernel
theorem dX10_numeral_14 : decode cX10_numeral 14 = .ok (.if_icmp .eq 11, 3) := by decide +kernel
theorem dX10_numeral_17 : decode cX10_numeral 17 = .ok (.aload_n 0, 1) := by decide +kernel
theorem dX10_numeral_18 : decode cX10_numeral 18 = .ok (.iconst 1, 1) := by decide +kernel
theorem dX10_numeral_19 : decode cX10_numeral 19 = .ok (.invokevirtual 126, 3) := by decide +kernel
theorem dX10_numeral_22 : decode cX10_numeral 22 = .ok (.goto 24, 3) := by decide +kernel
theorem dX10_numeral_25 : decode cX10_numeral 25 = .ok (.aload_n 0, 1) := by decide +kernel
theorem dX10_numeral_26 : decode cX10_numeral 26 = .ok (.getfield 99, 3) := by decide +kernel
theorem dX10_numeral_29 : decode cX10_numeral 29 = .ok (.iload_n 1, 1) := by decide +kernel
theorem dX10_numeral_30 : decode cX10_numeral 30 = .ok (.if_icmp .lt 11, 3) := by decide +kernel
theorem dX10_numeral_33 : decode cX10_numeral 33 = .ok (.aload_n 0, 1) := by decide +kernel
theorem dX10_numeral_34 : decode cX10_numeral 34 = .ok (.getfield 99, 3) := by decide +kernel
theorem dX10_numeral_37 : decode cX10_numeral 37 = .ok (.iload_n 2, 1) := by decide +kernel
theorem dX10_numeral_38 : decode cX10_numeral 38 = .ok (.if_icmp .le 8, 3) := by decide +kernel
theorem dX10_numeral_41 : decode cX10_numeral 41 = .ok (.aload_n 0, 1) := by decide +kernel
theorem dX10_numeral_42 : decode cX10_numeral 42 = .ok (.iconst 2, 1) := by decide +kernel
theorem dX10_numeral_43 : decode cX10_numeral 43 = .ok (.invokevirtual 126, 3) := by decide +kernel
theorem dX10_numeral_46 : decode cX10_numeral 46 = .ok (.aload_n 0, 1) := by decide +kernel
theorem dX10_numeral_47 : decode cX10_numeral 47 = .ok (.getfield 117, 3) := by decide +kernel
theorem dX10_numeral_50 : decode cX10_numeral 50 = .ok (.ifCond .ne 10, 3) := by decide +kernel
theorem dX10_numeral_53 : decode cX10_numeral 53 = .ok (.aload_n 0, 1) := by decide +kernel
theorem dX10_numeral_54 : decode cX10_numeral 54 = .ok (.getfield 99, 3) := by decide +kernel
theorem dX10_numeral_57 : decode cX10_numeral 57 = .ok (.goto 4, 3) := by decide +kernel
theorem dX10_numeral_60 : decode cX10_numeral 60 = .ok (.iload_n 1, 1) := by decide +kernel
theorem dX10_numeral_61 : decode cX10_numeral 61 = .ok (.istore_n 3, 1) := by decide +kernel
theorem dX10_numeral_62 : decode cX10_numeral 62 = .ok (.aload_n 0, 1) := by decide +kernel
theorem dX10_numeral_63 : decode cX10_numeral 63 = .ok (.invokevirtual 130, 3) := by decide +kernel
theorem dX10_numeral_66 : decode cX10_numeral 66 = .ok (.iload_n 3, 1) := by decide +kernel
theorem dX10_numeral_67 : decode cX10_numeral 67 = .ok (.ireturn, 1) := by decide +kernel
theorem dX10_readOne_0 : decode cX10_readOne 0 = .ok (.aload_n 0, 1) := by decide +kernel
theorem dX10_readOne_1 : decode cX10_readOne 1 = .ok (.getfield 133, 3) := by decide +kernel
theorem dX10_readOne_4 : decode cX10_readOne 4 = .ok (.bipush 24, 2) := by decide +kernel
theorem dX10_readOne_6 : decode cX10_readOne 6 = .ok (.if_icmp .ne 8, 3) := by decide +kernel
theorem dX10_readOne_9 : decode cX10_readOne 9 = .ok (.aload_n 0, 1) := by decide +kernel
theorem dX10_readOne_10 : decode cX10_readOne 10 = .ok (.iconst 2, 1) := by decide +kernel
theorem dX10_readOne_11 : decode cX10_readOne 11 = .ok (.invokevirtual 126, 3) := by decide +kernel
theorem dX10_readOne_14 : decode cX10_readOne 14 = .ok (.aload_n 0, 1) := by decide +kernel
theorem dX10_readOne_15 : decode cX10_readOne 15 = .ok (.invokevirtual 130, 3) := by decide +kernel
theorem dX10_readOne_18 : decode cX10_readOne 18 = .ok (.aload_n 0, 1) := by decide +kernel
theorem dX10_readOne_19 : decode cX10_readOne 19 = .ok (.iconst 0, 1) := by decide +kernel
theorem dX10_readOne_20 : decode cX10_readOne 20 = .ok (.sipush 299, 3) := by decide +kernel
theorem dX10_readOne_23 : decode cX10_readOne 23 = .ok (.invokevirtual 136, 3) := by decide +kernel
theorem dX10_readOne_26 : decode cX10_readOne 26 = .ok (.istore_n 1, 1) := by decide +kernel
theorem dX10_readOne_27 : decode cX10_readOne 27 = .ok (.aload_n 0, 1) := by decide +kernel
theorem dX10_readOne_28 : decode cX10_readOne 28 = .ok (.iconst 0, 1) := by decide +kernel
theorem dX10_readOne_29 : decode cX10_readOne 29 = .ok (.sipush 299, 3) := by decide +kernel
theorem dX10_readOne_32 : decode cX10_readOne 32 = .ok (.invokevirtual 136, 3) := by decide +kernel
theorem dX10_readOne_35 : decode cX10_readOne 35 = .ok (.istore_n 2, 1) := by decide +kernel
theorem dX10_readOne_36 : decode cX10_readOne 36 = .ok (.aload_n 0, 1) := by decide +kernel
theorem dX10_readOne_37 : decode cX10_readOne 37 = .ok (.iconst 1, 1) := by decide +kernel
theorem dX10_readOne_38 : decode cX10_readOne 38 = .ok (.ldc 140, 2) := by decide +kernel
theorem dX10_readOne_40 : decode cX10_readOne 40 = .ok (.invokevirtual 136, 3) := by decide +kernel
theorem dX10_readOne_43 : decode cX10_readOne 43 = .ok (.istore_n 3, 1) := by decide +kernel
theorem dX10_readOne_44 : decode cX10_readOne 44 = .ok (.aload_n 0, 1) := by decide +kernel
theorem dX10_readOne_45 : decode cX10_readOne 45 = .ok (.iconst 0, 1) := by decide +kernel
theorem dX10_readOne_46 : decode cX10_readOne 46 = .ok (.iconst 3, 1) := by decide +kernel
theorem dX10_readOne_47 : decode cX10_readOne 47 = .ok (.invokevirtual 136, 3) := by decide +kernel
theorem dX10_readOne_50 : decode cX10_readOne 50 = .ok (.istore 4, 2) := by decide +kernel
theorem dX10_readOne_52 : decode cX10_readOne 52 = .ok (.aload_n 0, 1) := by decide +kernel
theorem dX10_readOne_53 : decode cX10_readOne 53 = .ok (.getfield 117, 3) := by decide +kernel
theorem dX10_readOne_56 : decode cX10_readOne 56 = .ok (.ifCond .eq 4, 3) := by decide +kernel
theorem dX10_readOne_59 : decode cX10_readOne 59 = .ok (.return_, 1) := by decide +kernel
theorem dX10_readOne_60 : decode cX10_readOne 60 = .ok (.iconst 4, 1) := by decide +kernel
theorem dX10_readOne_61 : decode cX10_readOne 61 = .ok (.aload_n 0, 1) := by decide +kernel
theorem dX10_readOne_62 : decode cX10_readOne 62 = .ok (.getfield 133, 3) := by decide +kernel
theorem dX10_readOne_65 : decode cX10_readOne 65 = .ok (.imul, 1) := by decide +kernel
theorem dX10_readOne_66 : decode cX10_readOne 66 = .ok (.istore 5, 2) := by decide +kernel
theorem dX10_readOne_68 : decode cX10_readOne 68 = .ok (.aload_n 0, 1) := by decide +kernel
theorem dX10_readOne_69 : decode cX10_readOne 69 = .ok (.getfield 13, 3) := by decide +kernel
theorem dX10_readOne_72 : decode cX10_readOne 72 = .ok (.iload 5, 2) := by decide +kernel
theorem dX10_readOne_74 : decode cX10_readOne 74 = .ok (.iload_n 1, 1) := by decide +kernel
theorem dX10_readOne_75 : decode cX10_readOne 75 = .ok (.iastore, 1) := by decide +kernel
theorem dX10_readOne_76 : decode cX10_readOne 76 = .ok (.aload_n 0, 1) := by decide +kernel
theorem dX10_readOne_77 : decode cX10_readOne 77 = .ok (.getfield 13, 3) := by decide +kernel
theorem dX10_readOne_80 : decode cX10_readOne 80 = .ok (.iload 5, 2) := by decide +kernel
theorem dX10_readOne_82 : decode cX10_readOne 82 = .ok (.iconst 1, 1) := by decide +kernel
theorem dX10_readOne_83 : decode cX10_readOne 83 = .ok (.iadd, 1) := by decide +kernel
theorem dX10_readOne_84 : decode cX10_readOne 84 = .ok (.iload_n 2, 1) := by decide +kernel
theorem dX10_readOne_85 : decode cX10_readOne 85 = .ok (.iastore, 1) := by decide +kernel
theorem dX10_readOne_86 : decode cX10_readOne 86 = .ok (.aload_n 0, 1) := by decide +kernel
theorem dX10_readOne_87 : decode cX10_readOne 87 = .ok (.getfield 13, 3) := by decide +kernel
theorem dX10_readOne_90 : decode cX10_readOne 90 = .ok (.iload 5, 2) := by decide +kernel
theorem dX10_readOne_92 : decode cX10_readOne 92 = .ok (.iconst 2, 1) := by decide +kernel
theorem dX10_readOne_93 : decode cX10_readOne 93 = .ok (.iadd, 1) := by decide +kernel
theorem dX10_readOne_94 : decode cX10_readOne 94 = .ok (.iload_n 3, 1) := by decide +kernel
theorem dX10_readOne_95 : decode cX10_readOne 95 = .ok (.iastore, 1) := by decide +kernel
theorem dX10_readOne_96 : decode cX10_readOne 96 = .ok (.aload_n 0, 1) := by decide +kernel
theorem dX10_readOne_97 : decode cX10_readOne 97 = .ok (.getfield 13, 3) := by decide +kernel
theorem dX10_readOne_100 : decode cX10_readOne 100 = .ok (.iload 5, 2) := by decide +kernel
theorem dX10_readOne_102 : decode cX10_readOne 102 = .ok (.iconst 3, 1) := by decide +kernel
theorem dX10_readOne_103 : decode cX10_readOne 103 = .ok (.iadd, 1) := by decide +kernel
theorem dX10_readOne_104 : decode cX10_readOne 104 = .ok (.iload 4, 2) := by decide +kernel
theorem dX10_readOne_106 : decode cX10_readOne 106 = .ok (.iastore, 1) := by decide +kernel
theorem dX10_readOne_107 : decode cX10_readOne 107 = .ok (.aload_n 0, 1) := by decide +kernel
theorem dX10_readOne_108 : decode cX10_readOne 108 = .ok (.dup, 1) := by decide +kernel
theorem dX10_readOne_109 : decode cX10_readOne 109 = .ok (.getfield 133, 3) := by decide +kernel
theorem dX10_readOne_112 : decode cX10_readOne 112 = .ok (.iconst 1, 1) := by decide +kernel
theorem dX10_readOne_113 : decode cX10_readOne 113 = .ok (.iadd, 1) := by decide +kernel
theorem dX10_readOne_114 : decode cX10_readOne 114 = .ok (.putfield 133, 3) := by decide +kernel
theorem dX10_readOne_117 : decode cX10_readOne 117 = .ok (.return_, 1) := by decide +kernel
theorem dX10_readOther_0 : decode cX10_readOther 0 = .ok (.aload_n 0, 1) := by decide +kernel
theorem dX10_readOther_1 : decode cX10_readOther 1 = .ok (.getfield 141, 3) := by decide +kernel
theorem dX10_readOther_4 : decode cX10_readOther 4 = .ok (.bipush 6, 2) := by decide +kernel
theorem dX10_readOther_6 : decode cX10_readOther 6 = .ok (.if_icmp .ne 8, 3) := by decide +kernel
theorem dX10_readOther_9 : decode cX10_readOther 9 = .ok (.aload_n 0, 1) := by decide +kernel
theorem dX10_readOther_10 : decode cX10_readOther 10 = .ok (.iconst 2, 1) := by decide +kernel
theorem dX10_readOther_11 : decode cX10_readOther 11 = .ok (.invokevirtual 126, 3) := by decide +kernel
theorem dX10_readOther_14 : decode cX10_readOther 14 = .ok (.aload_n 0, 1) := by decide +kernel
theorem dX10_readOther_15 : decode cX10_readOther 15 = .ok (.invokevirtual 130, 3) := by decide +kernel
theorem dX10_readOther_18 : decode cX10_readOther 18 = .ok (.aload_n 0, 1) := by decide +kernel
theorem dX10_readOther_19 : decode cX10_readOther 19 = .ok (.iconst 1, 1) := by decide +kernel
theorem dX10_readOther_20 : decode cX10_readOther 20 = .ok (.bipush 15, 2) := by decide +kernel
theorem dX10_readOther_22 : decode cX10_readOther 22 = .ok (.invokevirtual 136, 3) := by decide +kernel
theorem dX10_readOther_25 : decode cX10_readOther 25 = .ok (.istore_n 1, 1) := by decide +kernel
theorem dX10_readOther_26 : decode cX10_readOther 26 = .ok (.aload_n 0, 1) := by decide +kernel
theorem dX10_readOther_27 : decode cX10_readOther 27 = .ok (.iconst 1, 1) := by decide +kernel
theorem dX10_readOther_28 : decode cX10_readOther 28 = .ok (.sipush 300, 3) := by decide +kernel
theorem dX10_readOther_31 : decode cX10_readOther 31 = .ok (.invokevirtual 136, 3) := by decide +kernel
theorem dX10_readOther_34 : decode cX10_readOther 34 = .ok (.istore_n 2, 1) := by decide +kernel
theorem dX10_readOther_35 : decode cX10_readOther 35 = .ok (.aload_n 0, 1) := by decide +kernel
theorem dX10_readOther_36 : decode cX10_readOther 36 = .ok (.iconst 1, 1) := by decide +kernel
theorem dX10_readOther_37 : decode cX10_readOther 37 = .ok (.ldc 105, 2) := by decide +kernel
theorem dX10_readOther_39 : decode cX10_readOther 39 = .ok (.invokevirtual 136, 3) := by decide +kernel
theorem dX10_readOther_42 : decode cX10_readOther 42 = .ok (.istore_n 3, 1) := by decide +kernel
theorem dX10_readOther_43 : decode cX10_readOther 43 = .ok (.aload_n 0, 1) := by decide +kernel
theorem dX10_readOther_44 : decode cX10_readOther 44 = .ok (.getfield 117, 3) := by decide +kernel
theorem dX10_readOther_47 : decode cX10_readOther 47 = .ok (.ifCond .eq 4, 3) := by decide +kernel
theorem dX10_readOther_50 : decode cX10_readOther 50 = .ok (.return_, 1) := by decide +kernel
theorem dX10_readOther_51 : decode cX10_readOther 51 = .ok (.iconst 3, 1) := by decide +kernel
theorem dX10_readOther_52 : decode cX10_readOther 52 = .ok (.aload_n 0, 1) := by decide +kernel
theorem dX10_readOther_53 : decode cX10_readOther 53 = .ok (.getfield 141, 3) := by decide +kernel
theorem dX10_readOther_56 : decode cX10_readOther 56 = .ok (.imul, 1) := by decide +kernel
theorem dX10_readOther_57 : decode cX10_readOther 57 = .ok (.istore 4, 2) := by decide +kernel
theorem dX10_readOther_59 : decode cX10_readOther 59 = .ok (.aload_n 0, 1) := by decide +kernel
theorem dX10_readOther_60 : decode cX10_readOther 60 = .ok (.getfield 16, 3) := by decide +kernel
theorem dX10_readOther_63 : decode cX10_readOther 63 = .ok (.iload 4, 2) := by decide +kernel
theorem dX10_readOther_65 : decode cX10_readOther 65 = .ok (.iload_n 1, 1) := by decide +kernel
theorem dX10_readOther_66 : decode cX10_readOther 66 = .ok (.iastore, 1) := by decide +kernel
theorem dX10_readOther_67 : decode cX10_readOther 67 = .ok (.aload_n 0, 1) := by decide +kernel
theorem dX10_readOther_68 : decode cX10_readOther 68 = .ok (.getfield 16, 3) := by decide +kernel
theorem dX10_readOther_71 : decode cX10_readOther 71 = .ok (.iload 4, 2) := by decide +kernel
theorem dX10_readOther_73 : decode cX10_readOther 73 = .ok (.iconst 1, 1) := by decide +kernel
theorem dX10_readOther_74 : decode cX10_readOther 74 = .ok (.iadd, 1) := by decide +kernel
theorem dX10_readOther_75 : decode cX10_readOther 75 = .ok (.iload_n 2, 1) := by decide +kernel
theorem dX10_readOther_76 : decode cX10_readOther 76 = .ok (.iastore, 1) := by decide +kernel
theorem dX10_readOther_77 : decode cX10_readOther 77 = .ok (.aload_n 0, 1) := by decide +kernel
theorem dX10_readOther_78 : decode cX10_readOther 78 = .ok (.getfield 16, 3) := by decide +kernel
theorem dX10_readOther_81 : decode cX10_readOther 81 = .ok (.iload 4, 2) := by decide +kernel
theorem dX10_readOther_83 : decode cX10_readOther 83 = .ok (.iconst 2, 1) := by decide +kernel
theorem dX10_readOther_84 : decode cX10_readOther 84 = .ok (.iadd, 1) := by decide +kernel
theorem dX10_readOther_85 : decode cX10_readOther 85 = .ok (.iload_n 3, 1) := by decide +kernel
theorem dX10_readOther_86 : decode cX10_readOther 86 = .ok (.iastore, 1) := by decide +kernel
theorem dX10_readOther_87 : decode cX10_readOther 87 = .ok (.aload_n 0, 1) := by decide +kernel
theorem dX10_readOther_88 : decode cX10_readOther 88 = .ok (.dup, 1) := by decide +kernel
theorem dX10_readOther_89 : decode cX10_readOther 89 = .ok (.getfield 141, 3) := by decide +kernel
theorem dX10_readOther_92 : decode cX10_readOther 92 = .ok (.iconst 1, 1) := by decide +kernel
theorem dX10_readOther_93 : decode cX10_readOther 93 = .ok (.iadd, 1) := by decide +kernel
theorem dX10_readOther_94 : decode cX10_readOther 94 = .ok (.putfield 141, 3) := by decide +kernel
theorem dX10_readOther_97 : decode cX10_readOther 97 = .ok (.return_, 1) := by decide +kernel
theorem dX10_readLine_0 : decode cX10_readLine 0 = .ok (.aload_n 0, 1) := by decide +kernel
theorem dX10_readLine_1 : decode cX10_readLine 1 = .ok (.getfield 89, 3) := by decide +kernel
theorem dX10_readLine_4 : decode cX10_readLine 4 = .ok (.ifCond .eq 11, 3) := by decide +kernel
theorem dX10_readLine_7 : decode cX10_readLine 7 = .ok (.aload_n 0, 1) := by decide +kernel
theorem dX10_readLine_8 : decode cX10_readLine 8 = .ok (.iconst 1, 1) := by decide +kernel
theorem dX10_readLine_9 : decode cX10_readLine 9 = .ok (.invokevirtual 126, 3) := by decide +kernel
theorem dX10_readLine_12 : decode cX10_readLine 12 = .ok (.goto 21, 3) := by decide +kernel
theorem dX10_readLine_15 : decode cX10_readLine 15 = .ok (.aload_n 0, 1) := by decide +kernel
theorem dX10_readLine_16 : decode cX10_readLine 16 = .ok (.getfield 99, 3) := by decide +kernel
theorem dX10_readLine_19 : decode cX10_readLine 19 = .ok (.ifCond .ne 10, 3) := by decide +kernel
theorem dX10_readLine_22 : decode cX10_readLine 22 = .ok (.aload_n 0, 1) := by decide +kernel
theorem dX10_readLine_23 : decode cX10_readLine 23 = .ok (.invokevirtual 144, 3) := by decide +kernel
theorem dX10_readLine_26 : decode cX10_readLine 26 = .ok (.goto 7, 3) := by decide +kernel
theorem dX10_readLine_29 : decode cX10_readLine 29 = .ok (.aload_n 0, 1) := by decide +kernel
theorem dX10_readLine_30 : decode cX10_readLine 30 = .ok (.invokevirtual 147, 3) := by decide +kernel
theorem dX10_readLine_33 : decode cX10_readLine 33 = .ok (.aload_n 0, 1) := by decide +kernel
theorem dX10_readLine_34 : decode cX10_readLine 34 = .ok (.getfield 117, 3) := by decide +kernel
theorem dX10_readLine_37 : decode cX10_readLine 37 = .ok (.ifCond .ne 16, 3) := by decide +kernel
theorem dX10_readLine_40 : decode cX10_readLine 40 = .ok (.aload_n 0, 1) := by decide +kernel
theorem dX10_readLine_41 : decode cX10_readLine 41 = .ok (.getfield 89, 3) := by decide +kernel
theorem dX10_readLine_44 : decode cX10_readLine 44 = .ok (.iconst 2, 1) := by decide +kernel
theorem dX10_readLine_45 : decode cX10_readLine 45 = .ok (.if_icmp .eq 8, 3) := by decide +kernel
theorem dX10_readLine_48 : decode cX10_readLine 48 = .ok (.aload_n 0, 1) := by decide +kernel
theorem dX10_readLine_49 : decode cX10_readLine 49 = .ok (.iconst 1, 1) := by decide +kernel
theorem dX10_readLine_50 : decode cX10_readLine 50 = .ok (.invokevirtual 126, 3) := by decide +kernel
theorem dX10_readLine_53 : decode cX10_readLine 53 = .ok (.aload_n 0, 1) := by decide +kernel
theorem dX10_readLine_54 : decode cX10_readLine 54 = .ok (.invokevirtual 130, 3) := by decide +kernel
theorem dX10_readLine_57 : decode cX10_readLine 57 = .ok (.aload_n 0, 1) := by decide +kernel
theorem dX10_readLine_58 : decode cX10_readLine 58 = .ok (.dup, 1) := by decide +kernel
theorem dX10_readLine_59 : decode cX10_readLine 59 = .ok (.getfield 150, 3) := by decide +kernel
theorem dX10_readLine_62 : decode cX10_readLine 62 = .ok (.iconst 1, 1) := by decide +kernel
theorem dX10_readLine_63 : decode cX10_readLine 63 = .ok (.iadd, 1) := by decide +kernel
theorem dX10_readLine_64 : decode cX10_readLine 64 = .ok (.putfield 150, 3) := by decide +kernel
theorem dX10_readLine_67 : decode cX10_readLine 67 = .ok (.return_, 1) := by decide +kernel
theorem dX10_readText_0 : decode cX10_readText 0 = .ok (.aload_n 0, 1) := by decide +kernel
theorem dX10_readText_1 : decode cX10_readText 1 = .ok (.iload_n 1, 1) := by decide +kernel
theorem dX10_readText_2 : decode cX10_readText 2 = .ok (.putfield 79, 3) := by decide +kernel
theorem dX10_readText_5 : decode cX10_readText 5 = .ok (.aload_n 0, 1) := by decide +kernel
theorem dX10_readText_6 : decode cX10_readText 6 = .ok (.iconst 0, 1) := by decide +kernel
theorem dX10_readText_7 : decode cX10_readText 7 = .ok (.putfield 76, 3) := by decide +kernel
theorem dX10_readText_10 : decode cX10_readText 10 = .ok (.aload_n 0, 1) := by decide +kernel
theorem dX10_readText_11 : decode cX10_readText 11 = .ok (.iconst 0, 1) := by decide +kernel
theorem dX10_readText_12 : decode cX10_readText 12 = .ok (.putfield 117, 3) := by decide +kernel
theorem dX10_readText_15 : decode cX10_readText 15 = .ok (.aload_n 0, 1) := by decide +kernel
theorem dX10_readText_16 : decode cX10_readText 16 = .ok (.iconst 0, 1) := by decide +kernel
theorem dX10_readText_17 : decode cX10_readText 17 = .ok (.putfield 150, 3) := by decide +kernel
theorem dX10_readText_20 : decode cX10_readText 20 = .ok (.aload_n 0, 1) := by decide +kernel
theorem dX10_readText_21 : decode cX10_readText 21 = .ok (.iconst 0, 1) := by decide +kernel
theorem dX10_readText_22 : decode cX10_readText 22 = .ok (.putfield 133, 3) := by decide +kernel
theorem dX10_readText_25 : decode cX10_readText 25 = .ok (.aload_n 0, 1) := by decide +kernel
theorem dX10_readText_26 : decode cX10_readText 26 = .ok (.iconst 0, 1) := by decide +kernel
theorem dX10_readText_27 : decode cX10_readText 27 = .ok (.putfield 141, 3) := by decide +kernel
theorem dX10_readText_30 : decode cX10_readText 30 = .ok (.aload_n 0, 1) := by decide +kernel
theorem dX10_readText_31 : decode cX10_readText 31 = .ok (.invokevirtual 123, 3) := by decide +kernel
theorem dX10_readText_34 : decode cX10_readText 34 = .ok (.aload_n 0, 1) := by decide +kernel
theorem dX10_readText_35 : decode cX10_readText 35 = .ok (.getfield 117, 3) := by decide +kernel
theorem dX10_readText_38 : decode cX10_readText 38 = .ok (.ifCond .ne 18, 3) := by decide +kernel
theorem dX10_readText_41 : decode cX10_readText 41 = .ok (.aload_n 0, 1) := by decide +kernel
theorem dX10_readText_42 : decode cX10_readText 42 = .ok (.getfield 89, 3) := by decide +kernel
theorem dX10_readText_45 : decode cX10_readText 45 = .ok (.iconst 3, 1) := by decide +kernel
theorem dX10_readText_46 : decode cX10_readText 46 = .ok (.if_icmp .eq 10, 3) := by decide +kernel
theorem dX10_readText_49 : decode cX10_readText 49 = .ok (.aload_n 0, 1) := by decide +kernel
theorem dX10_readText_50 : decode cX10_readText 50 = .ok (.invokevirtual 153, 3) := by decide +kernel
theorem dX10_readText_53 : decode cX10_readText 53 = .ok (.goto (-19), 3) := by decide +kernel
theorem dX10_readText_56 : decode cX10_readText 56 = .ok (.return_, 1) := by decide +kernel
theorem dX10_text_0 : decode cX10_text 0 = .ok (.aload_n 0, 1) := by decide +kernel
theorem dX10_text_1 : decode cX10_text 1 = .ok (.iconst 0, 1) := by decide +kernel
theorem dX10_text_2 : decode cX10_text 2 = .ok (.putfield 70, 3) := by decide +kernel
theorem dX10_text_5 : decode cX10_text 5 = .ok (.iload_n 1, 1) := by decide +kernel
theorem dX10_text_6 : decode cX10_text 6 = .ok (.ifCond .lt 11, 3) := by decide +kernel
theorem dX10_text_9 : decode cX10_text 9 = .ok (.iload_n 1, 1) := by decide +kernel
theorem dX10_text_10 : decode cX10_text 10 = .ok (.aload_n 0, 1) := by decide +kernel
theorem dX10_text_11 : decode cX10_text 11 = .ok (.getfield 73, 3) := by decide +kernel
theorem dX10_text_14 : decode cX10_text 14 = .ok (.if_icmp .le 6, 3) := by decide +kernel
theorem dX10_text_17 : decode cX10_text 17 = .ok (.bipush (-2), 2) := by decide +kernel
theorem dX10_text_19 : decode cX10_text 19 = .ok (.ireturn, 1) := by decide +kernel
theorem dX10_text_20 : decode cX10_text 20 = .ok (.aload_n 0, 1) := by decide +kernel
theorem dX10_text_21 : decode cX10_text 21 = .ok (.iload_n 1, 1) := by decide +kernel
theorem dX10_text_22 : decode cX10_text 22 = .ok (.invokevirtual 156, 3) := by decide +kernel
theorem dX10_text_25 : decode cX10_text 25 = .ok (.aload_n 0, 1) := by decide +kernel
theorem dX10_text_26 : decode cX10_text 26 = .ok (.iconst 0, 1) := by decide +kernel
theorem dX10_text_27 : decode cX10_text 27 = .ok (.putfield 73, 3) := by decide +kernel
theorem dX10_text_30 : decode cX10_text 30 = .ok (.aload_n 0, 1) := by decide +kernel
theorem dX10_text_31 : decode cX10_text 31 = .ok (.aload_n 0, 1) := by decide +kernel
theorem dX10_text_32 : decode cX10_text 32 = .ok (.getfield 117, 3) := by decide +kernel
theorem dX10_text_35 : decode cX10_text 35 = .ok (.putfield 159, 3) := by decide +kernel
theorem dX10_text_38 : decode cX10_text 38 = .ok (.aload_n 0, 1) := by decide +kernel
theorem dX10_text_39 : decode cX10_text 39 = .ok (.aload_n 0, 1) := by decide +kernel
theorem dX10_text_40 : decode cX10_text 40 = .ok (.getfield 117, 3) := by decide +kernel
theorem dX10_text_43 : decode cX10_text 43 = .ok (.ifCond .ne 7, 3) := by decide +kernel
theorem dX10_text_46 : decode cX10_text 46 = .ok (.iconst (-1), 1) := by decide +kernel
theorem dX10_text_47 : decode cX10_text 47 = .ok (.goto 7, 3) := by decide +kernel
theorem dX10_text_50 : decode cX10_text 50 = .ok (.aload_n 0, 1) := by decide +kernel
theorem dX10_text_51 : decode cX10_text 51 = .ok (.getfield 120, 3) := by decide +kernel
theorem dX10_text_54 : decode cX10_text 54 = .ok (.putfield 19, 3) := by decide +kernel
theorem dX10_text_57 : decode cX10_text 57 = .ok (.aload_n 0, 1) := by decide +kernel
theorem dX10_text_58 : decode cX10_text 58 = .ok (.getfield 117, 3) := by decide +kernel
theorem dX10_text_61 : decode cX10_text 61 = .ok (.ifCond .eq 5, 3) := by decide +kernel
theorem dX10_text_64 : decode cX10_text 64 = .ok (.iconst (-1), 1) := by decide +kernel
theorem dX10_text_65 : decode cX10_text 65 = .ok (.ireturn, 1) := by decide +kernel
theorem dX10_text_66 : decode cX10_text 66 = .ok (.aload_n 0, 1) := by decide +kernel
theorem dX10_text_67 : decode cX10_text 67 = .ok (.invokevirtual 162, 3) := by decide +kernel
theorem dX10_text_70 : decode cX10_text 70 = .ok (.aload_n 0, 1) := by decide +kernel
theorem dX10_text_71 : decode cX10_text 71 = .ok (.getfield 150, 3) := by decide +kernel
theorem dX10_text_74 : decode cX10_text 74 = .ok (.ireturn, 1) := by decide +kernel
theorem dX10_fault_0 : decode cX10_fault 0 = .ok (.aload_n 0, 1) := by decide +kernel
theorem dX10_fault_1 : decode cX10_fault 1 = .ok (.iconst 0, 1) := by decide +kernel
theorem dX10_fault_2 : decode cX10_fault 2 = .ok (.putfield 70, 3) := by decide +kernel
theorem dX10_fault_5 : decode cX10_fault 5 = .ok (.iload_n 1, 1) := by decide +kernel
theorem dX10_fault_6 : decode cX10_fault 6 = .ok (.ifCond .ne 10, 3) := by decide +kernel
theorem dX10_fault_9 : decode cX10_fault 9 = .ok (.aload_n 0, 1) := by decide +kernel
theorem dX10_fault_10 : decode cX10_fault 10 = .ok (.getfield 159, 3) := by decide +kernel
theorem dX10_fault_13 : decode cX10_fault 13 = .ok (.goto 16, 3) := by decide +kernel
theorem dX10_fault_16 : decode cX10_fault 16 = .ok (.iload_n 1, 1) := by decide +kernel
theorem dX10_fault_17 : decode cX10_fault 17 = .ok (.iconst 1, 1) := by decide +kernel
theorem dX10_fault_18 : decode cX10_fault 18 = .ok (.if_icmp .ne 10, 3) := by decide +kernel
theorem dX10_fault_21 : decode cX10_fault 21 = .ok (.aload_n 0, 1) := by decide +kernel
theorem dX10_fault_22 : decode cX10_fault 22 = .ok (.getfield 19, 3) := by decide +kernel
theorem dX10_fault_25 : decode cX10_fault 25 = .ok (.goto 4, 3) := by decide +kernel
theorem dX10_fault_28 : decode cX10_fault 28 = .ok (.iconst (-1), 1) := by decide +kernel
theorem dX10_fault_29 : decode cX10_fault 29 = .ok (.ireturn, 1) := by decide +kernel
theorem dX10_notes_0 : decode cX10_notes 0 = .ok (.bipush 89, 2) := by decide +kernel
theorem dX10_notes_2 : decode cX10_notes 2 = .ok (.istore 4, 2) := by decide +kernel
theorem dX10_notes_4 : decode cX10_notes 4 = .ok (.iload 4, 2) := by decide +kernel
theorem dX10_notes_6 : decode cX10_notes 6 = .ok (.iconst 3, 1) := by decide +kernel
theorem dX10_notes_7 : decode cX10_notes 7 = .ok (.if_icmp .lt 19, 3) := by decide +kernel
theorem dX10_notes_10 : decode cX10_notes 10 = .ok (.aload_n 0, 1) := by decide +kernel
theorem dX10_notes_11 : decode cX10_notes 11 = .ok (.iload 4, 2) := by decide +kernel
theorem dX10_notes_13 : decode cX10_notes 13 = .ok (.aload_n 0, 1) := by decide +kernel
theorem dX10_notes_14 : decode cX10_notes 14 = .ok (.iload 4, 2) := by decide +kernel
theorem dX10_notes_16 : decode cX10_notes 16 = .ok (.iconst 3, 1) := by decide +kernel
theorem dX10_notes_17 : decode cX10_notes 17 = .ok (.isub, 1) := by decide +kernel
theorem dX10_notes_18 : decode cX10_notes 18 = .ok (.iaload, 1) := by decide +kernel
theorem dX10_notes_19 : decode cX10_notes 19 = .ok (.iastore, 1) := by decide +kernel
theorem dX10_notes_20 : decode cX10_notes 20 = .ok (.iinc 4 (-1), 3) := by decide +kernel
theorem dX10_notes_23 : decode cX10_notes 23 = .ok (.goto (-19), 3) := by decide +kernel
theorem dX10_notes_26 : decode cX10_notes 26 = .ok (.aload_n 0, 1) := by decide +kernel
theorem dX10_notes_27 : decode cX10_notes 27 = .ok (.iconst 0, 1) := by decide +kernel
theorem dX10_notes_28 : decode cX10_notes 28 = .ok (.iload_n 1, 1) := by decide +kernel
theorem dX10_notes_29 : decode cX10_notes 29 = .ok (.iastore, 1) := by decide +kernel
theorem dX10_notes_30 : decode cX10_notes 30 = .ok (.aload_n 0, 1) := by decide +kernel
theorem dX10_notes_31 : decode cX10_notes 31 = .ok (.iconst 1, 1) := by decide +kernel
theorem dX10_notes_32 : decode cX10_notes 32 = .ok (.iload_n 2, 1) := by decide +kernel
theorem dX10_notes_33 : decode cX10_notes 33 = .ok (.iastore, 1) := by decide +kernel
theorem dX10_notes_34 : decode cX10_notes 34 = .ok (.aload_n 0, 1) := by decide +kernel
theorem dX10_notes_35 : decode cX10_notes 35 = .ok (.iconst 2, 1) := by decide +kernel
theorem dX10_notes_36 : decode cX10_notes 36 = .ok (.iload_n 3, 1) := by decide +kernel
theorem dX10_notes_37 : decode cX10_notes 37 = .ok (.iastore, 1) := by decide +kernel
theorem dX10_notes_38 : decode cX10_notes 38 = .ok (.return_, 1) := by decide +kernel
theorem dX10_lays_0 : decode cX10_lays 0 = .ok (.iconst 0, 1) := by decide +kernel
theorem dX10_lays_1 : decode cX10_lays 1 = .ok (.istore_n 1, 1) := by decide +kernel
theorem dX10_lays_2 : decode cX10_lays 2 = .ok (.iload_n 1, 1) := by decide +kernel
theorem dX10_lays_3 : decode cX10_lays 3 = .ok (.bipush 24, 2) := by decide +kernel
theorem dX10_lays_5 : decode cX10_lays 5 = .ok (.if_icmp .ge 80, 3) := by decide +kernel
theorem dX10_lays_8 : decode cX10_lays 8 = .ok (.aload_n 0, 1) := by decide +kernel
theorem dX10_lays_9 : decode cX10_lays 9 = .ok (.getfield 35, 3) := by decide +kernel
theorem dX10_lays_12 : decode cX10_lays 12 = .ok (.iload_n 1, 1) := by decide +kernel
theorem dX10_lays_13 : decode cX10_lays 13 = .ok (.iload_n 1, 1) := by decide +kernel
theorem dX10_lays_14 : decode cX10_lays 14 = .ok (.aload_n 0, 1) := by decide +kernel
theorem dX10_lays_15 : decode cX10_lays 15 = .ok (.getfield 133, 3) := by decide +kernel
theorem dX10_lays_18 : decode cX10_lays 18 = .ok (.if_icmp .ge 7, 3) := by decide +kernel
theorem dX10_lays_21 : decode cX10_lays 21 = .ok (.iconst 1, 1) := by decide +kernel
theorem dX10_lays_22 : decode cX10_lays 22 = .ok (.goto 4, 3) := by decide +kernel
theorem dX10_lays_25 : decode cX10_lays 25 = .ok (.iconst 0, 1) := by decide +kernel
theorem dX10_lays_26 : decode cX10_lays 26 = .ok (.bastore, 1) := by decide +kernel
theorem dX10_lays_27 : decode cX10_lays 27 = .ok (.aload_n 0, 1) := by decide +kernel
theorem dX10_lays_28 : decode cX10_lays 28 = .ok (.getfield 35, 3) := by decide +kernel
theorem dX10_lays_31 : decode cX10_lays 31 = .ok (.iload_n 1, 1) := by decide +kernel
theorem dX10_lays_32 : decode cX10_lays 32 = .ok (.baload, 1) := by decide +kernel
theorem dX10_lays_33 : decode cX10_lays 33 = .ok (.ifCond .eq 46, 3) := by decide +kernel
theorem dX10_lays_36 : decode cX10_lays 36 = .ok (.aload_n 0, 1) := by decide +kernel
theorem dX10_lays_37 : decode cX10_lays 37 = .ok (.iload_n 1, 1) := by decide +kernel
theorem dX10_lays_38 : decode cX10_lays 38 = .ok (.aload_n 0, 1) := by decide +kernel
theorem dX10_lays_39 : decode cX10_lays 39 = .ok (.getfield 13, 3) := by decide +kernel
theorem dX10_lays_42 : decode cX10_lays 42 = .ok (.iconst 4, 1) := by decide +kernel
theorem dX10_lays_43 : decode cX10_lays 43 = .ok (.iload_n 1, 1) := by decide +kernel
theorem dX10_lays_44 : decode cX10_lays 44 = .ok (.imul, 1) := by decide +kernel
theorem dX10_lays_45 : decode cX10_lays 45 = .ok (.iaload, 1) := by decide +kernel
theorem dX10_lays_46 : decode cX10_lays 46 = .ok (.aload_n 0, 1) := by decide +kernel
theorem dX10_lays_47 : decode cX10_lays 47 = .ok (.getfield 13, 3) := by decide +kernel
theorem dX10_lays_50 : decode cX10_lays 50 = .ok (.iconst 4, 1) := by decide +kernel
theorem dX10_lays_51 : decode cX10_lays 51 = .ok (.iload_n 1, 1) := by decide +kernel
theorem dX10_lays_52 : decode cX10_lays 52 = .ok (.imul, 1) := by decide +kernel
theorem dX10_lays_53 : decode cX10_lays 53 = .ok (.iconst 1, 1) := by decide +kernel
theorem dX10_lays_54 : decode cX10_lays 54 = .ok (.iadd, 1) := by decide +kernel
theorem dX10_lays_55 : decode cX10_lays 55 = .ok (.iaload, 1) := by decide +kernel
theorem dX10_lays_56 : decode cX10_lays 56 = .ok (.aload_n 0, 1) := by decide +kernel
theorem dX10_lays_57 : decode cX10_lays 57 = .ok (.getfield 13, 3) := by decide +kernel
theorem dX10_lays_60 : decode cX10_lays 60 = .ok (.iconst 4, 1) := by decide +kernel
theorem dX10_lays_61 : decode cX10_lays 61 = .ok (.iload_n 1, 1) := by decide +kernel
theorem dX10_lays_62 : decode cX10_lays 62 = .ok (.imul, 1) := by decide +kernel
theorem dX10_lays_63 : decode cX10_lays 63 = .ok (.iconst 2, 1) := by decide +kernel
theorem dX10_lays_64 : decode cX10_lays 64 = .ok (.iadd, 1) := by decide +kernel
theorem dX10_lays_65 : decode cX10_lays 65 = .ok (.iaload, 1) := by decide +kernel
theorem dX10_lays_66 : decode cX10_lays 66 = .ok (.aload_n 0, 1) := by decide +kernel
theorem dX10_lays_67 : decode cX10_lays 67 = .ok (.getfield 13, 3) := by decide +kernel
theorem dX10_lays_70 : decode cX10_lays 70 = .ok (.iconst 4, 1) := by decide +kernel
theorem dX10_lays_71 : decode cX10_lays 71 = .ok (.iload_n 1, 1) := by decide +kernel
theorem dX10_lays_72 : decode cX10_lays 72 = .ok (.imul, 1) := by decide +kernel
theorem dX10_lays_73 : decode cX10_lays 73 = .ok (.iconst 3, 1) := by decide +kernel
theorem dX10_lays_74 : decode cX10_lays 74 = .ok (.iadd, 1) := by decide +kernel
theorem dX10_lays_75 : decode cX10_lays 75 = .ok (.iaload, 1) := by decide +kernel
theorem dX10_lays_76 : decode cX10_lays 76 = .ok (.invokevirtual 165, 3) := by decide +kernel
theorem dX10_lays_79 : decode cX10_lays 79 = .ok (.iinc 1 1, 3) := by decide +kernel
theorem dX10_lays_82 : decode cX10_lays 82 = .ok (.goto (-80), 3) := by decide +kernel
theorem dX10_lays_85 : decode cX10_lays 85 = .ok (.aload_n 0, 1) := by decide +kernel
theorem dX10_lays_86 : decode cX10_lays 86 = .ok (.aload_n 0, 1) := by decide +kernel
theorem dX10_lays_87 : decode cX10_lays 87 = .ok (.getfield 141, 3) := by decide +kernel
theorem dX10_lays_90 : decode cX10_lays 90 = .ok (.putfield 169, 3) := by decide +kernel
theorem dX10_lays_93 : decode cX10_lays 93 = .ok (.iconst 0, 1) := by decide +kernel
theorem dX10_lays_94 : decode cX10_lays 94 = .ok (.istore_n 1, 1) := by decide +kernel
theorem dX10_lays_95 : decode cX10_lays 95 = .ok (.iload_n 1, 1) := by decide +kernel
theorem dX10_lays_96 : decode cX10_lays 96 = .ok (.aload_n 0, 1) := by decide +kernel
theorem dX10_lays_97 : decode cX10_lays 97 = .ok (.getfield 169, 3) := by decide +kernel
theorem dX10_lays_100 : decode cX10_lays 100 = .ok (.if_icmp .ge 42, 3) := by decide +kernel
theorem dX10_lays_103 : decode cX10_lays 103 = .ok (.aload_n 0, 1) := by decide +kernel
theorem dX10_lays_104 : decode cX10_lays 104 = .ok (.iload_n 1, 1) := by decide +kernel
theorem dX10_lays_105 : decode cX10_lays 105 = .ok (.aload_n 0, 1) := by decide +kernel
theorem dX10_lays_106 : decode cX10_lays 106 = .ok (.getfield 16, 3) := by decide +kernel
theorem dX10_lays_109 : decode cX10_lays 109 = .ok (.iconst 3, 1) := by decide +kernel
theorem dX10_lays_110 : decode cX10_lays 110 = .ok (.iload_n 1, 1) := by decide +kernel
theorem dX10_lays_111 : decode cX10_lays 111 = .ok (.imul, 1) := by decide +kernel
theorem dX10_lays_112 : decode cX10_lays 112 = .ok (.iaload, 1) := by decide +kernel
theorem dX10_lays_113 : decode cX10_lays 113 = .ok (.aload_n 0, 1) := by decide +kernel
theorem dX10_lays_114 : decode cX10_lays 114 = .ok (.getfield 16, 3) := by decide +kernel
theorem dX10_lays_117 : decode cX10_lays 117 = .ok (.iconst 3, 1) := by decide +kernel
theorem dX10_lays_118 : decode cX10_lays 118 = .ok (.iload_n 1, 1) := by decide +kernel
theorem dX10_lays_119 : decode cX10_lays 119 = .ok (.imul, 1) := by decide +kernel
theorem dX10_lays_120 : decode cX10_lays 120 = .ok (.iconst 1, 1) := by decide +kernel
theorem dX10_lays_121 : decode cX10_lays 121 = .ok (.iadd, 1) := by decide +kernel
theorem dX10_lays_122 : decode cX10_lays 122 = .ok (.iaload, 1) := by decide +kernel
theorem dX10_lays_123 : decode cX10_lays 123 = .ok (.aload_n 0, 1) := by decide +kernel
theorem dX10_lays_124 : decode cX10_lays 124 = .ok (.getfield 16, 3) := by decide +kernel
theorem dX10_lays_127 : decode cX10_lays 127 = .ok (.iconst 3, 1) := by decide +kernel
theorem dX10_lays_128 : decode cX10_lays 128 = .ok (.iload_n 1, 1) := by decide +kernel
theorem dX10_lays_129 : decode cX10_lays 129 = .ok (.imul, 1) := by decide +kernel
theorem dX10_lays_130 : decode cX10_lays 130 = .ok (.iconst 2, 1) := by decide +kernel
theorem dX10_lays_131 : decode cX10_lays 131 = .ok (.iadd, 1) := by decide +kernel
theorem dX10_lays_132 : decode cX10_lays 132 = .ok (.iaload, 1) := by decide +kernel
theorem dX10_lays_133 : decode cX10_lays 133 = .ok (.invokevirtual 172, 3) := by decide +kernel
theorem dX10_lays_136 : decode cX10_lays 136 = .ok (.iinc 1 1, 3) := by decide +kernel
theorem dX10_lays_139 : decode cX10_lays 139 = .ok (.goto (-44), 3) := by decide +kernel
theorem dX10_lays_142 : decode cX10_lays 142 = .ok (.aload_n 0, 1) := by decide +kernel
theorem dX10_lays_143 : decode cX10_lays 143 = .ok (.iconst 0, 1) := by decide +kernel
theorem dX10_lays_144 : decode cX10_lays 144 = .ok (.putfield 176, 3) := by decide +kernel
theorem dX10_lays_147 : decode cX10_lays 147 = .ok (.aload_n 0, 1) := by decide +kernel
theorem dX10_lays_148 : decode cX10_lays 148 = .ok (.iconst 0, 1) := by decide +kernel
theorem dX10_lays_149 : decode cX10_lays 149 = .ok (.putfield 179, 3) := by decide +kernel
theorem dX10_lays_152 : decode cX10_lays 152 = .ok (.aload_n 0, 1) := by decide +kernel
theorem dX10_lays_153 : decode cX10_lays 153 = .ok (.iconst 0, 1) := by decide +kernel
theorem dX10_lays_154 : decode cX10_lays 154 = .ok (.putfield 183, 3) := by decide +kernel
theorem dX10_lays_157 : decode cX10_lays 157 = .ok (.aload_n 0, 1) := by decide +kernel
theorem dX10_lays_158 : decode cX10_lays 158 = .ok (.iconst 0, 1) := by decide +kernel
theorem dX10_lays_159 : decode cX10_lays 159 = .ok (.putfield 186, 3) := by decide +kernel
theorem dX10_lays_162 : decode cX10_lays 162 = .ok (.aload_n 0, 1) := by decide +kernel
theorem dX10_lays_163 : decode cX10_lays 163 = .ok (.invokevirtual 189, 3) := by decide +kernel
theorem dX10_lays_166 : decode cX10_lays 166 = .ok (.return_, 1) := by decide +kernel
theorem dX10_puts_0 : decode cX10_puts 0 = .ok (.aload_n 0, 1) := by decide +kernel
theorem dX10_puts_1 : decode cX10_puts 1 = .ok (.getfield 23, 3) := by decide +kernel
theorem dX10_puts_4 : decode cX10_puts 4 = .ok (.iload_n 1, 1) := by decide +kernel
theorem dX10_puts_5 : decode cX10_puts 5 = .ok (.iload_n 2, 1) := by decide +kernel
theorem dX10_puts_6 : decode cX10_puts 6 = .ok (.iastore, 1) := by decide +kernel
theorem dX10_puts_7 : decode cX10_puts 7 = .ok (.aload_n 0, 1) := by decide +kernel
theorem dX10_puts_8 : decode cX10_puts 8 = .ok (.getfield 26, 3) := by decide +kernel
theorem dX10_puts_11 : decode cX10_puts 11 = .ok (.iload_n 1, 1) := by decide +kernel
theorem dX10_puts_12 : decode cX10_puts 12 = .ok (.iload_n 3, 1) := by decide +kernel
theorem dX10_puts_13 : decode cX10_puts 13 = .ok (.iastore, 1) := by decide +kernel
theorem dX10_puts_14 : decode cX10_puts 14 = .ok (.aload_n 0, 1) := by decide +kernel
theorem dX10_puts_15 : decode cX10_puts 15 = .ok (.getfield 29, 3) := by decide +kernel
theorem dX10_puts_18 : decode cX10_puts 18 = .ok (.iload_n 1, 1) := by decide +kernel
theorem dX10_puts_19 : decode cX10_puts 19 = .ok (.iload 4, 2) := by decide +kernel
theorem dX10_puts_21 : decode cX10_puts 21 = .ok (.iastore, 1) := by decide +kernel
theorem dX10_puts_22 : decode cX10_puts 22 = .ok (.aload_n 0, 1) := by decide +kernel
theorem dX10_puts_23 : decode cX10_puts 23 = .ok (.getfield 32, 3) := by decide +kernel
theorem dX10_puts_26 : decode cX10_puts 26 = .ok (.iload_n 1, 1) := by decide +kernel
theorem dX10_puts_27 : decode cX10_puts 27 = .ok (.iload 5, 2) := by decide +kernel
theorem dX10_puts_29 : decode cX10_puts 29 = .ok (.iastore, 1) := by decide +kernel
theorem dX10_puts_30 : decode cX10_puts 30 = .ok (.return_, 1) := by decide +kernel
theorem dX10_begins_0 : decode cX10_begins 0 = .ok (.aload_n 0, 1) := by decide +kernel
theorem dX10_begins_1 : decode cX10_begins 1 = .ok (.getfield 39, 3) := by decide +kernel
theorem dX10_begins_4 : decode cX10_begins 4 = .ok (.iload_n 1, 1) := by decide +kernel
theorem dX10_begins_5 : decode cX10_begins 5 = .ok (.iload_n 2, 1) := by decide +kernel
theorem dX10_begins_6 : decode cX10_begins 6 = .ok (.iastore, 1) := by decide +kernel
theorem dX10_begins_7 : decode cX10_begins 7 = .ok (.aload_n 0, 1) := by decide +kernel
theorem dX10_begins_8 : decode cX10_begins 8 = .ok (.getfield 42, 3) := by decide +kernel
theorem dX10_begins_11 : decode cX10_begins 11 = .ok (.iload_n 1, 1) := by decide +kernel
theorem dX10_begins_12 : decode cX10_begins 12 = .ok (.iload_n 3, 1) := by decide +kernel
theorem dX10_begins_13 : decode cX10_begins 13 = .ok (.iastore, 1) := by decide +kernel
theorem dX10_begins_14 : decode cX10_begins 14 = .ok (.aload_n 0, 1) := by decide +kernel
theorem dX10_begins_15 : decode cX10_begins 15 = .ok (.getfield 45, 3) := by decide +kernel
theorem dX10_begins_18 : decode cX10_begins 18 = .ok (.iload_n 1, 1) := by decide +kernel
theorem dX10_begins_19 : decode cX10_begins 19 = .ok (.iload 4, 2) := by decide +kernel
theorem dX10_begins_21 : decode cX10_begins 21 = .ok (.iastore, 1) := by decide +kernel
theorem dX10_begins_22 : decode cX10_begins 22 = .ok (.aload_n 0, 1) := by decide +kernel
theorem dX10_begins_23 : decode cX10_begins 23 = .ok (.getfield 48, 3) := by decide +kernel
theorem dX10_begins_26 : decode cX10_begins 26 = .ok (.iload_n 1, 1) := by decide +kernel
theorem dX10_begins_27 : decode cX10_begins 27 = .ok (.bipush (-2), 2) := by decide +kernel
theorem dX10_begins_29 : decode cX10_begins 29 = .ok (.iastore, 1) := by decide +kernel
theorem dX10_begins_30 : decode cX10_begins 30 = .ok (.aload_n 0, 1) := by decide +kernel
theorem dX10_begins_31 : decode cX10_begins 31 = .ok (.getfield 51, 3) := by decide +kernel
theorem dX10_begins_34 : decode cX10_begins 34 = .ok (.iload_n 1, 1) := by decide +kernel
theorem dX10_begins_35 : decode cX10_begins 35 = .ok (.iconst 0, 1) := by decide +kernel
theorem dX10_begins_36 : decode cX10_begins 36 = .ok (.iastore, 1) := by decide +kernel
theorem dX10_begins_37 : decode cX10_begins 37 = .ok (.return_, 1) := by decide +kernel
theorem dX10_has_0 : decode cX10_has 0 = .ok (.iload_n 0, 1) := by decide +kernel
theorem dX10_has_1 : decode cX10_has 1 = .ok (.iload_n 1, 1) := by decide +kernel
theorem dX10_has_2 : decode cX10_has 2 = .ok (.ishr, 1) := by decide +kernel
theorem dX10_has_3 : decode cX10_has 3 = .ok (.iconst 1, 1) := by decide +kernel
theorem dX10_has_4 : decode cX10_has 4 = .ok (.iand, 1) := by decide +kernel
theorem dX10_has_5 : decode cX10_has 5 = .ok (.iconst 1, 1) := by decide +kernel
theorem dX10_has_6 : decode cX10_has 6 = .ok (.if_icmp .ne 7, 3) := by decide +kernel
theorem dX10_has_9 : decode cX10_has 9 = .ok (.iconst 1, 1) := by decide +kernel
theorem dX10_has_10 : decode cX10_has 10 = .ok (.goto 4, 3) := by decide +kernel
theorem dX10_has_13 : decode cX10_has 13 = .ok (.iconst 0, 1) := by decide +kernel
theorem dX10_has_14 : decode cX10_has 14 = .ok (.ireturn, 1) := by decide +kernel
theorem dX10_ofPerils_0 : decode cX10_ofPerils 0 = .ok (.iconst 0, 1) := by decide +kernel
theorem dX10_ofPerils_1 : decode cX10_ofPerils 1 = .ok (.istore_n 2, 1) := by decide +kernel
theorem dX10_ofPerils_2 : decode cX10_ofPerils 2 = .ok (.iconst 0, 1) := by decide +kernel
theorem dX10_ofPerils_3 : decode cX10_ofPerils 3 = .ok (.istore_n 3, 1) := by decide +kernel
theorem dX10_ofPerils_4 : decode cX10_ofPerils 4 = .ok (.iload_n 3, 1) := by decide +kernel
theorem dX10_ofPerils_5 : decode cX10_ofPerils 5 = .ok (.bipush 24, 2) := by decide +kernel
theorem dX10_ofPerils_7 : decode cX10_ofPerils 7 = .ok (.if_icmp .ge 37, 3) := by decide +kernel
theorem dX10_ofPerils_10 : decode cX10_ofPerils 10 = .ok (.aload_n 0, 1) := by decide +kernel
theorem dX10_ofPerils_11 : decode cX10_ofPerils 11 = .ok (.getfield 35, 3) := by decide +kernel
theorem dX10_ofPerils_14 : decode cX10_ofPerils 14 = .ok (.iload_n 3, 1) := by decide +kernel
theorem dX10_ofPerils_15 : decode cX10_ofPerils 15 = .ok (.baload, 1) := by decide +kernel
theorem dX10_ofPerils_16 : decode cX10_ofPerils 16 = .ok (.ifCond .eq 22, 3) := by decide +kernel
theorem dX10_ofPerils_19 : decode cX10_ofPerils 19 = .ok (.iload_n 1, 1) := by decide +kernel
theorem dX10_ofPerils_20 : decode cX10_ofPerils 20 = .ok (.aload_n 0, 1) := by decide +kernel
theorem dX10_ofPerils_21 : decode cX10_ofPerils 21 = .ok (.getfield 32, 3) := by decide +kernel
theorem dX10_ofPerils_24 : decode cX10_ofPerils 24 = .ok (.iload_n 3, 1) := by decide +kernel
theorem dX10_ofPerils_25 : decode cX10_ofPerils 25 = .ok (.iaload, 1) := by decide +kernel
theorem dX10_ofPerils_26 : decode cX10_ofPerils 26 = .ok (.invokestatic 192, 3) := by decide +kernel
theorem dX10_ofPerils_29 : decode cX10_ofPerils 29 = .ok (.ifCond .eq 9, 3) := by decide +kernel
theorem dX10_ofPerils_32 : decode cX10_ofPerils 32 = .ok (.iload_n 2, 1) := by decide +kernel
theorem dX10_ofPerils_33 : decode cX10_ofPerils 33 = .ok (.iconst 1, 1) := by decide +kernel
theorem dX10_ofPerils_34 : decode cX10_ofPerils 34 = .ok (.iload_n 3, 1) := by decide +kernel
theorem dX10_ofPerils_35 : decode cX10_ofPerils 35 = .ok (.ishl, 1) := by decide +kernel
theorem dX10_ofPerils_36 : decode cX10_ofPerils 36 = .ok (.ior, 1) := by decide +kernel
theorem dX10_ofPerils_37 : decode cX10_ofPerils 37 = .ok (.istore_n 2, 1) := by decide +kernel
theorem dX10_ofPerils_38 : decode cX10_ofPerils 38 = .ok (.iinc 3 1, 3) := by decide +kernel
theorem dX10_ofPerils_41 : decode cX10_ofPerils 41 = .ok (.goto (-37), 3) := by decide +kernel
theorem dX10_ofPerils_44 : decode cX10_ofPerils 44 = .ok (.iload_n 2, 1) := by decide +kernel
theorem dX10_ofPerils_45 : decode cX10_ofPerils 45 = .ok (.ireturn, 1) := by decide +kernel
theorem dX10_ofTreaty_0 : decode cX10_ofTreaty 0 = .ok (.aload_n 0, 1) := by decide +kernel
theorem dX10_ofTreaty_1 : decode cX10_ofTreaty 1 = .ok (.aload_n 0, 1) := by decide +kernel
theorem dX10_ofTreaty_2 : decode cX10_ofTreaty 2 = .ok (.getfield 39, 3) := by decide +kernel
theorem dX10_ofTreaty_5 : decode cX10_ofTreaty 5 = .ok (.iload_n 1, 1) := by decide +kernel
theorem dX10_ofTreaty_6 : decode cX10_ofTreaty 6 = .ok (.iaload, 1) := by decide +kernel
theorem dX10_ofTreaty_7 : decode cX10_ofTreaty 7 = .ok (.invokevirtual 196, 3) := by decide +kernel
theorem dX10_ofTreaty_10 : decode cX10_ofTreaty 10 = .ok (.ireturn, 1) := by decide +kernel
theorem dX10_sumOf_0 : decode cX10_sumOf 0 = .ok (.iconst 0, 1) := by decide +kernel
theorem dX10_sumOf_1 : decode cX10_sumOf 1 = .ok (.istore_n 2, 1) := by decide +kernel
theorem dX10_sumOf_2 : decode cX10_sumOf 2 = .ok (.iconst 0, 1) := by decide +kernel
theorem dX10_sumOf_3 : decode cX10_sumOf 3 = .ok (.istore_n 3, 1) := by decide +kernel
theorem dX10_sumOf_4 : decode cX10_sumOf 4 = .ok (.iload_n 3, 1) := by decide +kernel
theorem dX10_sumOf_5 : decode cX10_sumOf 5 = .ok (.bipush 24, 2) := by decide +kernel
theorem dX10_sumOf_7 : decode cX10_sumOf 7 = .ok (.if_icmp .gt 30, 3) := by decide +kernel
theorem dX10_sumOf_10 : decode cX10_sumOf 10 = .ok (.iload_n 2, 1) := by decide +kernel
theorem dX10_sumOf_11 : decode cX10_sumOf 11 = .ok (.iload_n 1, 1) := by decide +kernel
theorem dX10_sumOf_12 : decode cX10_sumOf 12 = .ok (.iload_n 3, 1) := by decide +kernel
theorem dX10_sumOf_13 : decode cX10_sumOf 13 = .ok (.invokestatic 192, 3) := by decide +kernel
theorem dX10_sumOf_16 : decode cX10_sumOf 16 = .ok (.ifCond .eq 12, 3) := by decide +kernel
theorem dX10_sumOf_19 : decode cX10_sumOf 19 = .ok (.aload_n 0, 1) := by decide +kernel
theorem dX10_sumOf_20 : decode cX10_sumOf 20 = .ok (.getfield 29, 3) := by decide +kernel
theorem dX10_sumOf_23 : decode cX10_sumOf 23 = .ok (.iload_n 3, 1) := by decide +kernel
theorem dX10_sumOf_24 : decode cX10_sumOf 24 = .ok (.iaload, 1) := by decide +kernel
theorem dX10_sumOf_25 : decode cX10_sumOf 25 = .ok (.goto 4, 3) := by decide +kernel
theorem dX10_sumOf_28 : decode cX10_sumOf 28 = .ok (.iconst 0, 1) := by decide +kernel
theorem dX10_sumOf_29 : decode cX10_sumOf 29 = .ok (.iadd, 1) := by decide +kernel
theorem dX10_sumOf_30 : decode cX10_sumOf 30 = .ok (.istore_n 2, 1) := by decide +kernel
theorem dX10_sumOf_31 : decode cX10_sumOf 31 = .ok (.iinc 3 1, 3) := by decide +kernel
theorem dX10_sumOf_34 : decode cX10_sumOf 34 = .ok (.goto (-30), 3) := by decide +kernel
theorem dX10_sumOf_37 : decode cX10_sumOf 37 = .ok (.iload_n 2, 1) := by decide +kernel
theorem dX10_sumOf_38 : decode cX10_sumOf 38 = .ok (.ireturn, 1) := by decide +kernel
theorem dX10_distance_0 : decode cX10_distance 0 = .ok (.aload_n 0, 1) := by decide +kernel
theorem dX10_distance_1 : decode cX10_distance 1 = .ok (.getfield 23, 3) := by decide +kernel
theorem dX10_distance_4 : decode cX10_distance 4 = .ok (.iload_n 1, 1) := by decide +kernel
theorem dX10_distance_5 : decode cX10_distance 5 = .ok (.iaload, 1) := by decide +kernel
theorem dX10_distance_6 : decode cX10_distance 6 = .ok (.aload_n 0, 1) := by decide +kernel
theorem dX10_distance_7 : decode cX10_distance 7 = .ok (.getfield 23, 3) := by decide +kernel
theorem dX10_distance_10 : decode cX10_distance 10 = .ok (.iload_n 2, 1) := by decide +kernel
theorem dX10_distance_11 : decode cX10_distance 11 = .ok (.iaload, 1) := by decide +kernel
theorem dX10_distance_12 : decode cX10_distance 12 = .ok (.isub, 1) := by decide +kernel
theorem dX10_distance_13 : decode cX10_distance 13 = .ok (.aload_n 0, 1) := by decide +kernel
theorem dX10_distance_14 : decode cX10_distance 14 = .ok (.getfield 23, 3) := by decide +kernel
theorem dX10_distance_17 : decode cX10_distance 17 = .ok (.iload_n 1, 1) := by decide +kernel
theorem dX10_distance_18 : decode cX10_distance 18 = .ok (.iaload, 1) := by decide +kernel
theorem dX10_distance_19 : decode cX10_distance 19 = .ok (.aload_n 0, 1) := by decide +kernel
theorem dX10_distance_20 : decode cX10_distance 20 = .ok (.getfield 23, 3) := by decide +kernel
theorem dX10_distance_23 : decode cX10_distance 23 = .ok (.iload_n 2, 1) := by decide +kernel
theorem dX10_distance_24 : decode cX10_distance 24 = .ok (.iaload, 1) := by decide +kernel
theorem dX10_distance_25 : decode cX10_distance 25 = .ok (.isub, 1) := by decide +kernel
theorem dX10_distance_26 : decode cX10_distance 26 = .ok (.imul, 1) := by decide +kernel
theorem dX10_distance_27 : decode cX10_distance 27 = .ok (.aload_n 0, 1) := by decide +kernel
theorem dX10_distance_28 : decode cX10_distance 28 = .ok (.getfield 26, 3) := by decide +kernel
theorem dX10_distance_31 : decode cX10_distance 31 = .ok (.iload_n 1, 1) := by decide +kernel
theorem dX10_distance_32 : decode cX10_distance 32 = .ok (.iaload, 1) := by decide +kernel
theorem dX10_distance_33 : decode cX10_distance 33 = .ok (.aload_n 0, 1) := by decide +kernel
theorem dX10_distance_34 : decode cX10_distance 34 = .ok (.getfield 26, 3) := by decide +kernel
theorem dX10_distance_37 : decode cX10_distance 37 = .ok (.iload_n 2, 1) := by decide +kernel
theorem dX10_distance_38 : decode cX10_distance 38 = .ok (.iaload, 1) := by decide +kernel
theorem dX10_distance_39 : decode cX10_distance 39 = .ok (.isub, 1) := by decide +kernel
theorem dX10_distance_40 : decode cX10_distance 40 = .ok (.aload_n 0, 1) := by decide +kernel
theorem dX10_distance_41 : decode cX10_distance 41 = .ok (.getfield 26, 3) := by decide +kernel
theorem dX10_distance_44 : decode cX10_distance 44 = .ok (.iload_n 1, 1) := by decide +kernel
theorem dX10_distance_45 : decode cX10_distance 45 = .ok (.iaload, 1) := by decide +kernel
theorem dX10_distance_46 : decode cX10_distance 46 = .ok (.aload_n 0, 1) := by decide +kernel
theorem dX10_distance_47 : decode cX10_distance 47 = .ok (.getfield 26, 3) := by decide +kernel
theorem dX10_distance_50 : decode cX10_distance 50 = .ok (.iload_n 2, 1) := by decide +kernel
theorem dX10_distance_51 : decode cX10_distance 51 = .ok (.iaload, 1) := by decide +kernel
theorem dX10_distance_52 : decode cX10_distance 52 = .ok (.isub, 1) := by decide +kernel
theorem dX10_distance_53 : decode cX10_distance 53 = .ok (.imul, 1) := by decide +kernel
theorem dX10_distance_54 : decode cX10_distance 54 = .ok (.iadd, 1) := by decide +kernel
theorem dX10_distance_55 : decode cX10_distance 55 = .ok (.ireturn, 1) := by decide +kernel
theorem dX10_around_0 : decode cX10_around 0 = .ok (.iconst 0, 1) := by decide +kernel
theorem dX10_around_1 : decode cX10_around 1 = .ok (.istore 4, 2) := by decide +kernel
theorem dX10_around_3 : decode cX10_around 3 = .ok (.aload_n 0, 1) := by decide +kernel
theorem dX10_around_4 : decode cX10_around 4 = .ok (.iconst 0, 1) := by decide +kernel
theorem dX10_around_5 : decode cX10_around 5 = .ok (.putfield 200, 3) := by decide +kernel
theorem dX10_around_8 : decode cX10_around 8 = .ok (.iconst 0, 1) := by decide +kernel
theorem dX10_around_9 : decode cX10_around 9 = .ok (.istore 5, 2) := by decide +kernel
theorem dX10_around_11 : decode cX10_around 11 = .ok (.iload 5, 2) := by decide +kernel
theorem dX10_around_13 : decode cX10_around 13 = .ok (.bipush 24, 2) := by decide +kernel
theorem dX10_around_15 : decode cX10_around 15 = .ok (.if_icmp .gt 59, 3) := by decide +kernel
theorem dX10_around_18 : decode cX10_around 18 = .ok (.iload_n 2, 1) := by decide +kernel
theorem dX10_around_19 : decode cX10_around 19 = .ok (.iload 5, 2) := by decide +kernel
theorem dX10_around_21 : decode cX10_around 21 = .ok (.invokestatic 192, 3) := by decide +kernel
theorem dX10_around_24 : decode cX10_around 24 = .ok (.ifCond .eq 44, 3) := by decide +kernel
theorem dX10_around_27 : decode cX10_around 27 = .ok (.aload_n 0, 1) := by decide +kernel
theorem dX10_around_28 : decode cX10_around 28 = .ok (.iload_n 1, 1) := by decide +kernel
theorem dX10_around_29 : decode cX10_around 29 = .ok (.iload 5, 2) := by decide +kernel
theorem dX10_around_31 : decode cX10_around 31 = .ok (.invokevirtual 203, 3) := by decide +kernel
theorem dX10_around_34 : decode cX10_around 34 = .ok (.iload_n 3, 1) := by decide +kernel
theorem dX10_around_35 : decode cX10_around 35 = .ok (.iload_n 3, 1) := by decide +kernel
theorem dX10_around_36 : decode cX10_around 36 = .ok (.imul, 1) := by decide +kernel
theorem dX10_around_37 : decode cX10_around 37 = .ok (.if_icmp .le 6, 3) := by decide +kernel
theorem dX10_around_40 : decode cX10_around 40 = .ok (.goto 28, 3) := by decide +kernel
theorem dX10_around_43 : decode cX10_around 43 = .ok (.iload 4, 2) := by decide +kernel
theorem dX10_around_45 : decode cX10_around 45 = .ok (.iconst 1, 1) := by decide +kernel
theorem dX10_around_46 : decode cX10_around 46 = .ok (.iload 5, 2) := by decide +kernel
theorem dX10_around_48 : decode cX10_around 48 = .ok (.ishl, 1) := by decide +kernel
theorem dX10_around_49 : decode cX10_around 49 = .ok (.ior, 1) := by decide +kernel
theorem dX10_around_50 : decode cX10_around 50 = .ok (.istore 4, 2) := by decide +kernel
theorem dX10_around_52 : decode cX10_around 52 = .ok (.aload_n 0, 1) := by decide +kernel
theorem dX10_around_53 : decode cX10_around 53 = .ok (.dup, 1) := by decide +kernel
theorem dX10_around_54 : decode cX10_around 54 = .ok (.getfield 200, 3) := by decide +kernel
theorem dX10_around_57 : decode cX10_around 57 = .ok (.aload_n 0, 1) := by decide +kernel
theorem dX10_around_58 : decode cX10_around 58 = .ok (.getfield 29, 3) := by decide +kernel
theorem dX10_around_61 : decode cX10_around 61 = .ok (.iload 5, 2) := by decide +kernel
theorem dX10_around_63 : decode cX10_around 63 = .ok (.iaload, 1) := by decide +kernel
theorem dX10_around_64 : decode cX10_around 64 = .ok (.iadd, 1) := by decide +kernel
theorem dX10_around_65 : decode cX10_around 65 = .ok (.putfield 200, 3) := by decide +kernel
theorem dX10_around_68 : decode cX10_around 68 = .ok (.iinc 5 1, 3) := by decide +kernel
theorem dX10_around_71 : decode cX10_around 71 = .ok (.goto (-60), 3) := by decide +kernel
theorem dX10_around_74 : decode cX10_around 74 = .ok (.iload 4, 2) := by decide +kernel
theorem dX10_around_76 : decode cX10_around 76 = .ok (.ireturn, 1) := by decide +kernel
theorem dX10_isIn_0 : decode cX10_isIn 0 = .ok (.aload_n 0, 1) := by decide +kernel
theorem dX10_isIn_1 : decode cX10_isIn 1 = .ok (.getfield 23, 3) := by decide +kernel
theorem dX10_isIn_4 : decode cX10_isIn 4 = .ok (.iload_n 2, 1) := by decide +kernel
theorem dX10_isIn_5 : decode cX10_isIn 5 = .ok (.iaload, 1) := by decide +kernel
theorem dX10_isIn_6 : decode cX10_isIn 6 = .ok (.aload_n 0, 1) := by decide +kernel
theorem dX10_isIn_7 : decode cX10_isIn 7 = .ok (.getfield 23, 3) := by decide +kernel
theorem dX10_isIn_10 : decode cX10_isIn 10 = .ok (.iload_n 1, 1) := by decide +kernel
theorem dX10_isIn_11 : decode cX10_isIn 11 = .ok (.iaload, 1) := by decide +kernel
theorem dX10_isIn_12 : decode cX10_isIn 12 = .ok (.isub, 1) := by decide +kernel
theorem dX10_isIn_13 : decode cX10_isIn 13 = .ok (.i2l, 1) := by decide +kernel
theorem dX10_isIn_14 : decode cX10_isIn 14 = .ok (.lstore 6, 2) := by decide +kernel
theorem dX10_isIn_16 : decode cX10_isIn 16 = .ok (.aload_n 0, 1) := by decide +kernel
theorem dX10_isIn_17 : decode cX10_isIn 17 = .ok (.getfield 26, 3) := by decide +kernel
theorem dX10_isIn_20 : decode cX10_isIn 20 = .ok (.iload_n 2, 1) := by decide +kernel
theorem dX10_isIn_21 : decode cX10_isIn 21 = .ok (.iaload, 1) := by decide +kernel
theorem dX10_isIn_22 : decode cX10_isIn 22 = .ok (.aload_n 0, 1) := by decide +kernel
theorem dX10_isIn_23 : decode cX10_isIn 23 = .ok (.getfield 26, 3) := by decide +kernel
theorem dX10_isIn_26 : decode cX10_isIn 26 = .ok (.iload_n 1, 1) := by decide +kernel
theorem dX10_isIn_27 : decode cX10_isIn 27 = .ok (.iaload, 1) := by decide +kernel
theorem dX10_isIn_28 : decode cX10_isIn 28 = .ok (.isub, 1) := by decide +kernel
theorem dX10_isIn_29 : decode cX10_isIn 29 = .ok (.i2l, 1) := by decide +kernel
theorem dX10_isIn_30 : decode cX10_isIn 30 = .ok (.lstore 8, 2) := by decide +kernel
theorem dX10_isIn_32 : decode cX10_isIn 32 = .ok (.lload 6, 2) := by decide +kernel
theorem dX10_isIn_34 : decode cX10_isIn 34 = .ok (.lload 6, 2) := by decide +kernel
theorem dX10_isIn_36 : decode cX10_isIn 36 = .ok (.lmul, 1) := by decide +kernel
theorem dX10_isIn_37 : decode cX10_isIn 37 = .ok (.lload 8, 2) := by decide +kernel
theorem dX10_isIn_39 : decode cX10_isIn 39 = .ok (.lload 8, 2) := by decide +kernel
theorem dX10_isIn_41 : decode cX10_isIn 41 = .ok (.lmul, 1) := by decide +kernel
theorem dX10_isIn_42 : decode cX10_isIn 42 = .ok (.ladd, 1) := by decide +kernel
theorem dX10_isIn_43 : decode cX10_isIn 43 = .ok (.lstore 10, 2) := by decide +kernel
theorem dX10_isIn_45 : decode cX10_isIn 45 = .ok (.ldc2_w 206, 3) := by decide +kernel
theorem dX10_isIn_48 : decode cX10_isIn 48 = .ok (.aload_n 0, 1) := by decide +kernel
theorem dX10_isIn_49 : decode cX10_isIn 49 = .ok (.getfield 23, 3) := by decide +kernel
theorem dX10_isIn_52 : decode cX10_isIn 52 = .ok (.iload 5, 2) := by decide +kernel
theorem dX10_isIn_54 : decode cX10_isIn 54 = .ok (.iaload, 1) := by decide +kernel
theorem dX10_isIn_55 : decode cX10_isIn 55 = .ok (.i2l, 1) := by decide +kernel
theorem dX10_isIn_56 : decode cX10_isIn 56 = .ok (.lmul, 1) := by decide +kernel
theorem dX10_isIn_57 : decode cX10_isIn 57 = .ok (.aload_n 0, 1) := by decide +kernel
theorem dX10_isIn_58 : decode cX10_isIn 58 = .ok (.getfield 23, 3) := by decide +kernel
theorem dX10_isIn_61 : decode cX10_isIn 61 = .ok (.iload_n 1, 1) := by decide +kernel
theorem dX10_isIn_62 : decode cX10_isIn 62 = .ok (.iaload, 1) := by decide +kernel
theorem dX10_isIn_63 : decode cX10_isIn 63 = .ok (.i2l, 1) := by decide +kernel
theorem dX10_isIn_64 : decode cX10_isIn 64 = .ok (.lsub, 1) := by decide +kernel
theorem dX10_isIn_65 : decode cX10_isIn 65 = .ok (.aload_n 0, 1) := by decide +kernel
theorem dX10_isIn_66 : decode cX10_isIn 66 = .ok (.getfield 23, 3) := by decide +kernel
theorem dX10_isIn_69 : decode cX10_isIn 69 = .ok (.iload_n 2, 1) := by decide +kernel
theorem dX10_isIn_70 : decode cX10_isIn 70 = .ok (.iaload, 1) := by decide +kernel
theorem dX10_isIn_71 : decode cX10_isIn 71 = .ok (.i2l, 1) := by decide +kernel
theorem dX10_isIn_72 : decode cX10_isIn 72 = .ok (.lsub, 1) := by decide +kernel
theorem dX10_isIn_73 : decode cX10_isIn 73 = .ok (.lstore 12, 2) := by decide +kernel
theorem dX10_isIn_75 : decode cX10_isIn 75 = .ok (.ldc2_w 206, 3) := by decide +kernel
theorem dX10_isIn_78 : decode cX10_isIn 78 = .ok (.aload_n 0, 1) := by decide +kernel
theorem dX10_isIn_79 : decode cX10_isIn 79 = .ok (.getfield 26, 3) := by decide +kernel
theorem dX10_isIn_82 : decode cX10_isIn 82 = .ok (.iload 5, 2) := by decide +kernel
theorem dX10_isIn_84 : decode cX10_isIn 84 = .ok (.iaload, 1) := by decide +kernel
theorem dX10_isIn_85 : decode cX10_isIn 85 = .ok (.i2l, 1) := by decide +kernel
theorem dX10_isIn_86 : decode cX10_isIn 86 = .ok (.lmul, 1) := by decide +kernel
theorem dX10_isIn_87 : decode cX10_isIn 87 = .ok (.aload_n 0, 1) := by decide +kernel
theorem dX10_isIn_88 : decode cX10_isIn 88 = .ok (.getfield 26, 3) := by decide +kernel
theorem dX10_isIn_91 : decode cX10_isIn 91 = .ok (.iload_n 1, 1) := by decide +kernel
theorem dX10_isIn_92 : decode cX10_isIn 92 = .ok (.iaload, 1) := by decide +kernel
theorem dX10_isIn_93 : decode cX10_isIn 93 = .ok (.i2l, 1) := by decide +kernel
theorem dX10_isIn_94 : decode cX10_isIn 94 = .ok (.lsub, 1) := by decide +kernel
theorem dX10_isIn_95 : decode cX10_isIn 95 = .ok (.aload_n 0, 1) := by decide +kernel
theorem dX10_isIn_96 : decode cX10_isIn 96 = .ok (.getfield 26, 3) := by decide +kernel
theorem dX10_isIn_99 : decode cX10_isIn 99 = .ok (.iload_n 2, 1) := by decide +kernel
theorem dX10_isIn_100 : decode cX10_isIn 100 = .ok (.iaload, 1) := by decide +kernel
theorem dX10_isIn_101 : decode cX10_isIn 101 = .ok (.i2l, 1) := by decide +kernel
theorem dX10_isIn_102 : decode cX10_isIn 102 = .ok (.lsub, 1) := by decide +kernel
theorem dX10_isIn_103 : decode cX10_isIn 103 = .ok (.lstore 14, 2) := by decide +kernel
theorem dX10_isIn_105 : decode cX10_isIn 105 = .ok (.lload 12, 2) := by decide +kernel
theorem dX10_isIn_107 : decode cX10_isIn 107 = .ok (.lload 12, 2) := by decide +kernel
theorem dX10_isIn_109 : decode cX10_isIn 109 = .ok (.lmul, 1) := by decide +kernel
theorem dX10_isIn_110 : decode cX10_isIn 110 = .ok (.lload 14, 2) := by decide +kernel
theorem dX10_isIn_112 : decode cX10_isIn 112 = .ok (.lload 14, 2) := by decide +kernel
theorem dX10_isIn_114 : decode cX10_isIn 114 = .ok (.lmul, 1) := by decide +kernel
theorem dX10_isIn_115 : decode cX10_isIn 115 = .ok (.ladd, 1) := by decide +kernel
theorem dX10_isIn_116 : decode cX10_isIn 116 = .ok (.lload 10, 2) := by decide +kernel
theorem dX10_isIn_118 : decode cX10_isIn 118 = .ok (.lsub, 1) := by decide +kernel
theorem dX10_isIn_119 : decode cX10_isIn 119 = .ok (.lstore 16, 2) := by decide +kernel
theorem dX10_isIn_121 : decode cX10_isIn 121 = .ok (.iload_n 3, 1) := by decide +kernel
theorem dX10_isIn_122 : decode cX10_isIn 122 = .ok (.ifCond .ne 17, 3) := by decide +kernel
theorem dX10_isIn_125 : decode cX10_isIn 125 = .ok (.lload 14, 2) := by decide +kernel
theorem dX10_isIn_127 : decode cX10_isIn 127 = .ok (.lload 6, 2) := by decide +kernel
theorem dX10_isIn_129 : decode cX10_isIn 129 = .ok (.lmul, 1) := by decide +kernel
theorem dX10_isIn_130 : decode cX10_isIn 130 = .ok (.lload 12, 2) := by decide +kernel
theorem dX10_isIn_132 : decode cX10_isIn 132 = .ok (.lload 8, 2) := by decide +kernel
theorem dX10_isIn_134 : decode cX10_isIn 134 = .ok (.lmul, 1) := by decide +kernel
theorem dX10_isIn_135 : decode cX10_isIn 135 = .ok (.lsub, 1) := by decide +kernel
theorem dX10_isIn_136 : decode cX10_isIn 136 = .ok (.goto 14, 3) := by decide +kernel
theorem dX10_isIn_139 : decode cX10_isIn 139 = .ok (.lload 12, 2) := by decide +kernel
theorem dX10_isIn_141 : decode cX10_isIn 141 = .ok (.lload 8, 2) := by decide +kernel
theorem dX10_isIn_143 : decode cX10_isIn 143 = .ok (.lmul, 1) := by decide +kernel
theorem dX10_isIn_144 : decode cX10_isIn 144 = .ok (.lload 14, 2) := by decide +kernel
theorem dX10_isIn_146 : decode cX10_isIn 146 = .ok (.lload 6, 2) := by decide +kernel
theorem dX10_isIn_148 : decode cX10_isIn 148 = .ok (.lmul, 1) := by decide +kernel
theorem dX10_isIn_149 : decode cX10_isIn 149 = .ok (.lsub, 1) := by decide +kernel
theorem dX10_isIn_150 : decode cX10_isIn 150 = .ok (.lstore 18, 2) := by decide +kernel
theorem dX10_isIn_152 : decode cX10_isIn 152 = .ok (.ldc2_w 208, 3) := by decide +kernel
theorem dX10_isIn_155 : decode cX10_isIn 155 = .ok (.iload 4, 2) := by decide +kernel
theorem dX10_isIn_157 : decode cX10_isIn 157 = .ok (.i2l, 1) := by decide +kernel
theorem dX10_isIn_158 : decode cX10_isIn 158 = .ok (.lmul, 1) := by decide +kernel
theorem dX10_isIn_159 : decode cX10_isIn 159 = .ok (.iload 4, 2) := by decide +kernel
theorem dX10_isIn_161 : decode cX10_isIn 161 = .ok (.i2l, 1) := by decide +kernel
theorem dX10_isIn_162 : decode cX10_isIn 162 = .ok (.lmul, 1) := by decide +kernel
theorem dX10_isIn_163 : decode cX10_isIn 163 = .ok (.lload 10, 2) := by decide +kernel
theorem dX10_isIn_165 : decode cX10_isIn 165 = .ok (.lsub, 1) := by decide +kernel
theorem dX10_isIn_166 : decode cX10_isIn 166 = .ok (.lstore 20, 2) := by decide +kernel
theorem dX10_isIn_168 : decode cX10_isIn 168 = .ok (.lload 16, 2) := by decide +kernel
theorem dX10_isIn_170 : decode cX10_isIn 170 = .ok (.lconst 0, 1) := by decide +kernel
theorem dX10_isIn_171 : decode cX10_isIn 171 = .ok (.lcmp, 1) := by decide +kernel
theorem dX10_isIn_172 : decode cX10_isIn 172 = .ok (.ifCond .ge 15, 3) := by decide +kernel
theorem dX10_isIn_175 : decode cX10_isIn 175 = .ok (.lload 16, 2) := by decide +kernel
theorem dX10_isIn_177 : decode cX10_isIn 177 = .ok (.lneg, 1) := by decide +kernel
theorem dX10_isIn_178 : decode cX10_isIn 178 = .ok (.lload 16, 2) := by decide +kernel
theorem dX10_isIn_180 : decode cX10_isIn 180 = .ok (.lmul, 1) := by decide +kernel
theorem dX10_isIn_181 : decode cX10_isIn 181 = .ok (.lload 10, 2) := by decide +kernel
theorem dX10_isIn_183 : decode cX10_isIn 183 = .ok (.lmul, 1) := by decide +kernel
theorem dX10_isIn_184 : decode cX10_isIn 184 = .ok (.goto 11, 3) := by decide +kernel
theorem dX10_isIn_187 : decode cX10_isIn 187 = .ok (.lload 16, 2) := by decide +kernel
theorem dX10_isIn_189 : decode cX10_isIn 189 = .ok (.lload 16, 2) := by decide +kernel
theorem dX10_isIn_191 : decode cX10_isIn 191 = .ok (.lmul, 1) := by decide +kernel
theorem dX10_isIn_192 : decode cX10_isIn 192 = .ok (.lload 10, 2) := by decide +kernel
theorem dX10_isIn_194 : decode cX10_isIn 194 = .ok (.lmul, 1) := by decide +kernel
theorem dX10_isIn_195 : decode cX10_isIn 195 = .ok (.lstore 22, 2) := by decide +kernel
theorem dX10_isIn_197 : decode cX10_isIn 197 = .ok (.ldc2_w 208, 3) := by decide +kernel
theorem dX10_isIn_200 : decode cX10_isIn 200 = .ok (.lload 18, 2) := by decide +kernel
theorem dX10_isIn_202 : decode cX10_isIn 202 = .ok (.lmul, 1) := by decide +kernel
theorem dX10_isIn_203 : decode cX10_isIn 203 = .ok (.lload 18, 2) := by decide +kernel
theorem dX10_isIn_205 : decode cX10_isIn 205 = .ok (.lmul, 1) := by decide +kernel
theorem dX10_isIn_206 : decode cX10_isIn 206 = .ok (.lload 20, 2) := by decide +kernel
theorem dX10_isIn_208 : decode cX10_isIn 208 = .ok (.lmul, 1) := by decide +kernel
theorem dX10_isIn_209 : decode cX10_isIn 209 = .ok (.lstore 24, 2) := by decide +kernel
theorem dX10_isIn_211 : decode cX10_isIn 211 = .ok (.lload 22, 2) := by decide +kernel
theorem dX10_isIn_213 : decode cX10_isIn 213 = .ok (.lload 18, 2) := by decide +kernel
theorem dX10_isIn_215 : decode cX10_isIn 215 = .ok (.lconst 0, 1) := by decide +kernel
theorem dX10_isIn_216 : decode cX10_isIn 216 = .ok (.lcmp, 1) := by decide +kernel
theorem dX10_isIn_217 : decode cX10_isIn 217 = .ok (.ifCond .ge 9, 3) := by decide +kernel
theorem dX10_isIn_220 : decode cX10_isIn 220 = .ok (.lload 24, 2) := by decide +kernel
theorem dX10_isIn_222 : decode cX10_isIn 222 = .ok (.lneg, 1) := by decide +kernel
theorem dX10_isIn_223 : decode cX10_isIn 223 = .ok (.goto 5, 3) := by decide +kernel
theorem dX10_isIn_226 : decode cX10_isIn 226 = .ok (.lload 24, 2) := by decide +kernel
theorem dX10_isIn_228 : decode cX10_isIn 228 = .ok (.lcmp, 1) := by decide +kernel
theorem dX10_isIn_229 : decode cX10_isIn 229 = .ok (.ifCond .gt 7, 3) := by decide +kernel
theorem dX10_isIn_232 : decode cX10_isIn 232 = .ok (.iconst 1, 1) := by decide +kernel
theorem dX10_isIn_233 : decode cX10_isIn 233 = .ok (.goto 4, 3) := by decide +kernel
theorem dX10_isIn_236 : decode cX10_isIn 236 = .ok (.iconst 0, 1) := by decide +kernel
theorem dX10_isIn_237 : decode cX10_isIn 237 = .ok (.ireturn, 1) := by decide +kernel
theorem dX10_onRim_0 : decode cX10_onRim 0 = .ok (.iconst 0, 1) := by decide +kernel
theorem dX10_onRim_1 : decode cX10_onRim 1 = .ok (.istore 6, 2) := by decide +kernel
theorem dX10_onRim_3 : decode cX10_onRim 3 = .ok (.aload_n 0, 1) := by decide +kernel
theorem dX10_onRim_4 : decode cX10_onRim 4 = .ok (.iconst 0, 1) := by decide +kernel
theorem dX10_onRim_5 : decode cX10_onRim 5 = .ok (.putfield 200, 3) := by decide +kernel
theorem dX10_onRim_8 : decode cX10_onRim 8 = .ok (.iconst 0, 1) := by decide +kernel
theorem dX10_onRim_9 : decode cX10_onRim 9 = .ok (.istore 7, 2) := by decide +kernel
theorem dX10_onRim_11 : decode cX10_onRim 11 = .ok (.iload 7, 2) := by decide +kernel
theorem dX10_onRim_13 : decode cX10_onRim 13 = .ok (.bipush 24, 2) := by decide +kernel
theorem dX10_onRim_15 : decode cX10_onRim 15 = .ok (.if_icmp .gt 73, 3) := by decide +kernel
theorem dX10_onRim_18 : decode cX10_onRim 18 = .ok (.iload 4, 2) := by decide +kernel
theorem dX10_onRim_20 : decode cX10_onRim 20 = .ok (.iload 7, 2) := by decide +kernel
theorem dX10_onRim_22 : decode cX10_onRim 22 = .ok (.invokestatic 192, 3) := by decide +kernel
theorem dX10_onRim_25 : decode cX10_onRim 25 = .ok (.ifCond .eq 57, 3) := by decide +kernel
theorem dX10_onRim_28 : decode cX10_onRim 28 = .ok (.iload 7, 2) := by decide +kernel
theorem dX10_onRim_30 : decode cX10_onRim 30 = .ok (.iload_n 1, 1) := by decide +kernel
theorem dX10_onRim_31 : decode cX10_onRim 31 = .ok (.if_icmp .eq 26, 3) := by decide +kernel
theorem dX10_onRim_34 : decode cX10_onRim 34 = .ok (.iload 7, 2) := by decide +kernel
theorem dX10_onRim_36 : decode cX10_onRim 36 = .ok (.iload_n 2, 1) := by decide +kernel
theorem dX10_onRim_37 : decode cX10_onRim 37 = .ok (.if_icmp .eq 20, 3) := by decide +kernel
theorem dX10_onRim_40 : decode cX10_onRim 40 = .ok (.aload_n 0, 1) := by decide +kernel
theorem dX10_onRim_41 : decode cX10_onRim 41 = .ok (.iload_n 1, 1) := by decide +kernel
theorem dX10_onRim_42 : decode cX10_onRim 42 = .ok (.iload_n 2, 1) := by decide +kernel
theorem dX10_onRim_43 : decode cX10_onRim 43 = .ok (.iload_n 3, 1) := by decide +kernel
theorem dX10_onRim_44 : decode cX10_onRim 44 = .ok (.iload 5, 2) := by decide +kernel
theorem dX10_onRim_46 : decode cX10_onRim 46 = .ok (.iload 7, 2) := by decide +kernel
theorem dX10_onRim_48 : decode cX10_onRim 48 = .ok (.invokevirtual 210, 3) := by decide +kernel
theorem dX10_onRim_51 : decode cX10_onRim 51 = .ok (.ifCond .ne 6, 3) := by decide +kernel
theorem dX10_onRim_54 : decode cX10_onRim 54 = .ok (.goto 28, 3) := by decide +kernel
theorem dX10_onRim_57 : decode cX10_onRim 57 = .ok (.iload 6, 2) := by decide +kernel
theorem dX10_onRim_59 : decode cX10_onRim 59 = .ok (.iconst 1, 1) := by decide +kernel
theorem dX10_onRim_60 : decode cX10_onRim 60 = .ok (.iload 7, 2) := by decide +kernel
theorem dX10_onRim_62 : decode cX10_onRim 62 = .ok (.ishl, 1) := by decide +kernel
theorem dX10_onRim_63 : decode cX10_onRim 63 = .ok (.ior, 1) := by decide +kernel
theorem dX10_onRim_64 : decode cX10_onRim 64 = .ok (.istore 6, 2) := by decide +kernel
theorem dX10_onRim_66 : decode cX10_onRim 66 = .ok (.aload_n 0, 1) := by decide +kernel
theorem dX10_onRim_67 : decode cX10_onRim 67 = .ok (.dup, 1) := by decide +kernel
theorem dX10_onRim_68 : decode cX10_onRim 68 = .ok (.getfield 200, 3) := by decide +kernel
theorem dX10_onRim_71 : decode cX10_onRim 71 = .ok (.aload_n 0, 1) := by decide +kernel
theorem dX10_onRim_72 : decode cX10_onRim 72 = .ok (.getfield 29, 3) := by decide +kernel
theorem dX10_onRim_75 : decode cX10_onRim 75 = .ok (.iload 7, 2) := by decide +kernel
theorem dX10_onRim_77 : decode cX10_onRim 77 = .ok (.iaload, 1) := by decide +kernel
theorem dX10_onRim_78 : decode cX10_onRim 78 = .ok (.iadd, 1) := by decide +kernel
theorem dX10_onRim_79 : decode cX10_onRim 79 = .ok (.putfield 200, 3) := by decide +kernel
theorem dX10_onRim_82 : decode cX10_onRim 82 = .ok (.iinc 7 1, 3) := by decide +kernel
theorem dX10_onRim_85 : decode cX10_onRim 85 = .ok (.goto (-74), 3) := by decide +kernel
theorem dX10_onRim_88 : decode cX10_onRim 88 = .ok (.iload 6, 2) := by decide +kernel
theorem dX10_onRim_90 : decode cX10_onRim 90 = .ok (.ireturn, 1) := by decide +kernel
theorem dX10_canBeRim_0 : decode cX10_canBeRim 0 = .ok (.aload_n 0, 1) := by decide +kernel
theorem dX10_canBeRim_1 : decode cX10_canBeRim 1 = .ok (.iload_n 1, 1) := by decide +kernel
theorem dX10_canBeRim_2 : decode cX10_canBeRim 2 = .ok (.iload_n 2, 1) := by decide +kernel
theorem dX10_canBeRim_3 : decode cX10_canBeRim 3 = .ok (.invokevirtual 203, 3) := by decide +kernel
theorem dX10_canBeRim_6 : decode cX10_canBeRim 6 = .ok (.istore 4, 2) := by decide +kernel
theorem dX10_canBeRim_8 : decode cX10_canBeRim 8 = .ok (.iload 4, 2) := by decide +kernel
theorem dX10_canBeRim_10 : decode cX10_canBeRim 10 = .ok (.ifCond .le 17, 3) := by decide +kernel
theorem dX10_canBeRim_13 : decode cX10_canBeRim 13 = .ok (.iload 4, 2) := by decide +kernel
theorem dX10_canBeRim_15 : decode cX10_canBeRim 15 = .ok (.iconst 4, 1) := by decide +kernel
theorem dX10_canBeRim_16 : decode cX10_canBeRim 16 = .ok (.iload_n 3, 1) := by decide +kernel
theorem dX10_canBeRim_17 : decode cX10_canBeRim 17 = .ok (.imul, 1) := by decide +kernel
theorem dX10_canBeRim_18 : decode cX10_canBeRim 18 = .ok (.iload_n 3, 1) := by decide +kernel
theorem dX10_canBeRim_19 : decode cX10_canBeRim 19 = .ok (.imul, 1) := by decide +kernel
theorem dX10_canBeRim_20 : decode cX10_canBeRim 20 = .ok (.if_icmp .gt 7, 3) := by decide +kernel
theorem dX10_canBeRim_23 : decode cX10_canBeRim 23 = .ok (.iconst 1, 1) := by decide +kernel
theorem dX10_canBeRim_24 : decode cX10_canBeRim 24 = .ok (.goto 4, 3) := by decide +kernel
theorem dX10_canBeRim_27 : decode cX10_canBeRim 27 = .ok (.iconst 0, 1) := by decide +kernel
theorem dX10_canBeRim_28 : decode cX10_canBeRim 28 = .ok (.ireturn, 1) := by decide +kernel
theorem dX10_offers_0 : decode cX10_offers 0 = .ok (.iload_n 2, 1) := by decide +kernel
theorem dX10_offers_1 : decode cX10_offers 1 = .ok (.iconst (-1), 1) := by decide +kernel
theorem dX10_offers_2 : decode cX10_offers 2 = .ok (.if_icmp .eq 12, 3) := by decide +kernel
theorem dX10_offers_5 : decode cX10_offers 5 = .ok (.iload_n 1, 1) := by decide +kernel
theorem dX10_offers_6 : decode cX10_offers 6 = .ok (.iload_n 2, 1) := by decide +kernel
theorem dX10_offers_7 : decode cX10_offers 7 = .ok (.invokestatic 192, 3) := by decide +kernel
theorem dX10_offers_10 : decode cX10_offers 10 = .ok (.ifCond .ne 4, 3) := by decide +kernel
theorem dX10_offers_13 : decode cX10_offers 13 = .ok (.return_, 1) := by decide +kernel
theorem dX10_offers_14 : decode cX10_offers 14 = .ok (.iload_n 2, 1) := by decide +kernel
theorem dX10_offers_15 : decode cX10_offers 15 = .ok (.iconst (-1), 1) := by decide +kernel
theorem dX10_offers_16 : decode cX10_offers 16 = .ok (.if_icmp .ne 7, 3) := by decide +kernel
theorem dX10_offers_19 : decode cX10_offers 19 = .ok (.iload_n 1, 1) := by decide +kernel
theorem dX10_offers_20 : decode cX10_offers 20 = .ok (.goto 10, 3) := by decide +kernel
theorem dX10_offers_23 : decode cX10_offers 23 = .ok (.iload_n 1, 1) := by decide +kernel
theorem dX10_offers_24 : decode cX10_offers 24 = .ok (.iconst 1, 1) := by decide +kernel
theorem dX10_offers_25 : decode cX10_offers 25 = .ok (.iload_n 2, 1) := by decide +kernel
theorem dX10_offers_26 : decode cX10_offers 26 = .ok (.ishl, 1) := by decide +kernel
theorem dX10_offers_27 : decode cX10_offers 27 = .ok (.iconst (-1), 1) := by decide +kernel
theorem dX10_offers_28 : decode cX10_offers 28 = .ok (.ixor, 1) := by decide +kernel
theorem dX10_offers_29 : decode cX10_offers 29 = .ok (.iand, 1) := by decide +kernel
theorem dX10_offers_30 : decode cX10_offers 30 = .ok (.istore_n 3, 1) := by decide +kernel
theorem dX10_offers_31 : decode cX10_offers 31 = .ok (.aload_n 0, 1) := by decide +kernel
theorem dX10_offers_32 : decode cX10_offers 32 = .ok (.getfield 200, 3) := by decide +kernel
theorem dX10_offers_35 : decode cX10_offers 35 = .ok (.aload_n 0, 1) := by decide +kernel
theorem dX10_offers_36 : decode cX10_offers 36 = .ok (.getfield 214, 3) := by decide +kernel
theorem dX10_offers_39 : decode cX10_offers 39 = .ok (.if_icmp .lt 22, 3) := by decide +kernel
theorem dX10_offers_42 : decode cX10_offers 42 = .ok (.aload_n 0, 1) := by decide +kernel
theorem dX10_offers_43 : decode cX10_offers 43 = .ok (.getfield 200, 3) := by decide +kernel
theorem dX10_offers_46 : decode cX10_offers 46 = .ok (.aload_n 0, 1) := by decide +kernel
theorem dX10_offers_47 : decode cX10_offers 47 = .ok (.getfield 214, 3) := by decide +kernel
theorem dX10_offers_50 : decode cX10_offers 50 = .ok (.if_icmp .ne 12, 3) := by decide +kernel
theorem dX10_offers_53 : decode cX10_offers 53 = .ok (.iload_n 3, 1) := by decide +kernel
theorem dX10_offers_54 : decode cX10_offers 54 = .ok (.aload_n 0, 1) := by decide +kernel
theorem dX10_offers_55 : decode cX10_offers 55 = .ok (.getfield 217, 3) := by decide +kernel
theorem dX10_offers_58 : decode cX10_offers 58 = .ok (.if_icmp .lt 4, 3) := by decide +kernel
theorem dX10_offers_61 : decode cX10_offers 61 = .ok (.return_, 1) := by decide +kernel
theorem dX10_offers_62 : decode cX10_offers 62 = .ok (.aload_n 0, 1) := by decide +kernel
theorem dX10_offers_63 : decode cX10_offers 63 = .ok (.aload_n 0, 1) := by decide +kernel
theorem dX10_offers_64 : decode cX10_offers 64 = .ok (.getfield 200, 3) := by decide +kernel
theorem dX10_offers_67 : decode cX10_offers 67 = .ok (.putfield 214, 3) := by decide +kernel
theorem dX10_offers_70 : decode cX10_offers 70 = .ok (.aload_n 0, 1) := by decide +kernel
theorem dX10_offers_71 : decode cX10_offers 71 = .ok (.iload_n 3, 1) := by decide +kernel
theorem dX10_offers_72 : decode cX10_offers 72 = .ok (.putfield 217, 3) := by decide +kernel
theorem dX10_offers_75 : decode cX10_offers 75 = .ok (.return_, 1) := by decide +kernel
theorem dX10_weighs_0 : decode cX10_weighs 0 = .ok (.iload_n 3, 1) := by decide +kernel
theorem dX10_weighs_1 : decode cX10_weighs 1 = .ok (.iconst (-1), 1) := by decide +kernel
theorem dX10_weighs_2 : decode cX10_weighs 2 = .ok (.if_icmp .ne 7, 3) := by decide +kernel
theorem dX10_weighs_5 : decode cX10_weighs 5 = .ok (.iload_n 1, 1) := by decide +kernel
theorem dX10_weighs_6 : decode cX10_weighs 6 = .ok (.goto 8, 3) := by decide +kernel
theorem dX10_weighs_9 : decode cX10_weighs 9 = .ok (.iload_n 1, 1) := by decide +kernel
theorem dX10_weighs_10 : decode cX10_weighs 10 = .ok (.iconst 1, 1) := by decide +kernel
theorem dX10_weighs_11 : decode cX10_weighs 11 = .ok (.iload_n 3, 1) := by decide +kernel
theorem dX10_weighs_12 : decode cX10_weighs 12 = .ok (.ishl, 1) := by decide +kernel
theorem dX10_weighs_13 : decode cX10_weighs 13 = .ok (.ior, 1) := by decide +kernel
theorem dX10_weighs_14 : decode cX10_weighs 14 = .ok (.istore 4, 2) := by decide +kernel
theorem dX10_weighs_16 : decode cX10_weighs 16 = .ok (.aload_n 0, 1) := by decide +kernel
theorem dX10_weighs_17 : decode cX10_weighs 17 = .ok (.iload 4, 2) := by decide +kernel
theorem dX10_weighs_19 : decode cX10_weighs 19 = .ok (.ifCond .ne 7, 3) := by decide +kernel
theorem dX10_weighs_22 : decode cX10_weighs 22 = .ok (.iconst 0, 1) := by decide +kernel
theorem dX10_weighs_23 : decode cX10_weighs 23 = .ok (.goto 4, 3) := by decide +kernel
theorem dX10_weighs_26 : decode cX10_weighs 26 = .ok (.iconst (-1), 1) := by decide +kernel
theorem dX10_weighs_27 : decode cX10_weighs 27 = .ok (.putfield 214, 3) := by decide +kernel
theorem dX10_weighs_30 : decode cX10_weighs 30 = .ok (.aload_n 0, 1) := by decide +kernel
theorem dX10_weighs_31 : decode cX10_weighs 31 = .ok (.iload 4, 2) := by decide +kernel
theorem dX10_weighs_33 : decode cX10_weighs 33 = .ok (.ifCond .ne 7, 3) := by decide +kernel
theorem dX10_weighs_36 : decode cX10_weighs 36 = .ok (.iconst 0, 1) := by decide +kernel
theorem dX10_weighs_37 : decode cX10_weighs 37 = .ok (.goto 5, 3) := by decide +kernel
theorem dX10_weighs_40 : decode cX10_weighs 40 = .ok (.ldc 220, 2) := by decide +kernel
theorem dX10_weighs_42 : decode cX10_weighs 42 = .ok (.putfield 217, 3) := by decide +kernel
theorem dX10_weighs_45 : decode cX10_weighs 45 = .ok (.iconst 0, 1) := by decide +kernel
theorem dX10_weighs_46 : decode cX10_weighs 46 = .ok (.istore 5, 2) := by decide +kernel
theorem dX10_weighs_48 : decode cX10_weighs 48 = .ok (.iload 5, 2) := by decide +kernel
theorem dX10_weighs_50 : decode cX10_weighs 50 = .ok (.bipush 24, 2) := by decide +kernel
theorem dX10_weighs_52 : decode cX10_weighs 52 = .ok (.if_icmp .gt 114, 3) := by decide +kernel
theorem dX10_weighs_55 : decode cX10_weighs 55 = .ok (.iload 4, 2) := by decide +kernel
theorem dX10_weighs_57 : decode cX10_weighs 57 = .ok (.iload 5, 2) := by decide +kernel
theorem dX10_weighs_59 : decode cX10_weighs 59 = .ok (.invokestatic 192, 3) := by decide +kernel
theorem dX10_weighs_62 : decode cX10_weighs 62 = .ok (.ifCond .ne 6, 3) := by decide +kernel
theorem dX10_weighs_65 : decode cX10_weighs 65 = .ok (.goto 95, 3) := by decide +kernel
theorem dX10_weighs_68 : decode cX10_weighs 68 = .ok (.aload_n 0, 1) := by decide +kernel
theorem dX10_weighs_69 : decode cX10_weighs 69 = .ok (.aload_n 0, 1) := by decide +kernel
theorem dX10_weighs_70 : decode cX10_weighs 70 = .ok (.iload 5, 2) := by decide +kernel
theorem dX10_weighs_72 : decode cX10_weighs 72 = .ok (.iload 4, 2) := by decide +kernel
theorem dX10_weighs_74 : decode cX10_weighs 74 = .ok (.iload_n 2, 1) := by decide +kernel
theorem dX10_weighs_75 : decode cX10_weighs 75 = .ok (.invokevirtual 221, 3) := by decide +kernel
theorem dX10_weighs_78 : decode cX10_weighs 78 = .ok (.iload_n 3, 1) := by decide +kernel
theorem dX10_weighs_79 : decode cX10_weighs 79 = .ok (.invokevirtual 225, 3) := by decide +kernel
theorem dX10_weighs_82 : decode cX10_weighs 82 = .ok (.iload 5, 2) := by decide +kernel
theorem dX10_weighs_84 : decode cX10_weighs 84 = .ok (.iconst 1, 1) := by decide +kernel
theorem dX10_weighs_85 : decode cX10_weighs 85 = .ok (.iadd, 1) := by decide +kernel
theorem dX10_weighs_86 : decode cX10_weighs 86 = .ok (.istore 6, 2) := by decide +kernel
theorem dX10_weighs_88 : decode cX10_weighs 88 = .ok (.iload 6, 2) := by decide +kernel
theorem dX10_weighs_90 : decode cX10_weighs 90 = .ok (.bipush 24, 2) := by decide +kernel
theorem dX10_weighs_92 : decode cX10_weighs 92 = .ok (.if_icmp .gt 68, 3) := by decide +kernel
theorem dX10_weighs_95 : decode cX10_weighs 95 = .ok (.iload 4, 2) := by decide +kernel
theorem dX10_weighs_97 : decode cX10_weighs 97 = .ok (.iload 6, 2) := by decide +kernel
theorem dX10_weighs_99 : decode cX10_weighs 99 = .ok (.invokestatic 192, 3) := by decide +kernel
theorem dX10_weighs_102 : decode cX10_weighs 102 = .ok (.ifCond .eq 52, 3) := by decide +kernel
theorem dX10_weighs_105 : decode cX10_weighs 105 = .ok (.aload_n 0, 1) := by decide +kernel
theorem dX10_weighs_106 : decode cX10_weighs 106 = .ok (.iload 5, 2) := by decide +kernel
theorem dX10_weighs_108 : decode cX10_weighs 108 = .ok (.iload 6, 2) := by decide +kernel
theorem dX10_weighs_110 : decode cX10_weighs 110 = .ok (.iload_n 2, 1) := by decide +kernel
theorem dX10_weighs_111 : decode cX10_weighs 111 = .ok (.invokevirtual 229, 3) := by decide +kernel
theorem dX10_weighs_114 : decode cX10_weighs 114 = .ok (.ifCond .ne 6, 3) := by decide +kernel
theorem dX10_weighs_117 : decode cX10_weighs 117 = .ok (.goto 37, 3) := by decide +kernel
theorem dX10_weighs_120 : decode cX10_weighs 120 = .ok (.aload_n 0, 1) := by decide +kernel
theorem dX10_weighs_121 : decode cX10_weighs 121 = .ok (.aload_n 0, 1) := by decide +kernel
theorem dX10_weighs_122 : decode cX10_weighs 122 = .ok (.iload 5, 2) := by decide +kernel
theorem dX10_weighs_124 : decode cX10_weighs 124 = .ok (.iload 6, 2) := by decide +kernel
theorem dX10_weighs_126 : decode cX10_weighs 126 = .ok (.iconst 0, 1) := by decide +kernel
theorem dX10_weighs_127 : decode cX10_weighs 127 = .ok (.iload 4, 2) := by decide +kernel
theorem dX10_weighs_129 : decode cX10_weighs 129 = .ok (.iload_n 2, 1) := by decide +kernel
theorem dX10_weighs_130 : decode cX10_weighs 130 = .ok (.invokevirtual 233, 3) := by decide +kernel
theorem dX10_weighs_133 : decode cX10_weighs 133 = .ok (.iload_n 3, 1) := by decide +kernel
theorem dX10_weighs_134 : decode cX10_weighs 134 = .ok (.invokevirtual 225, 3) := by decide +kernel
theorem dX10_weighs_137 : decode cX10_weighs 137 = .ok (.aload_n 0, 1) := by decide +kernel
theorem dX10_weighs_138 : decode cX10_weighs 138 = .ok (.aload_n 0, 1) := by decide +kernel
theorem dX10_weighs_139 : decode cX10_weighs 139 = .ok (.iload 5, 2) := by decide +kernel
theorem dX10_weighs_141 : decode cX10_weighs 141 = .ok (.iload 6, 2) := by decide +kernel
theorem dX10_weighs_143 : decode cX10_weighs 143 = .ok (.iconst 1, 1) := by decide +kernel
theorem dX10_weighs_144 : decode cX10_weighs 144 = .ok (.iload 4, 2) := by decide +kernel
theorem dX10_weighs_146 : decode cX10_weighs 146 = .ok (.iload_n 2, 1) := by decide +kernel
theorem dX10_weighs_147 : decode cX10_weighs 147 = .ok (.invokevirtual 233, 3) := by decide +kernel
theorem dX10_weighs_150 : decode cX10_weighs 150 = .ok (.iload_n 3, 1) := by decide +kernel
theorem dX10_weighs_151 : decode cX10_weighs 151 = .ok (.invokevirtual 225, 3) := by decide +kernel
theorem dX10_weighs_154 : decode cX10_weighs 154 = .ok (.iinc 6 1, 3) := by decide +kernel
theorem dX10_weighs_157 : decode cX10_weighs 157 = .ok (.goto (-69), 3) := by decide +kernel
theorem dX10_weighs_160 : decode cX10_weighs 160 = .ok (.iinc 5 1, 3) := by decide +kernel
theorem dX10_weighs_163 : decode cX10_weighs 163 = .ok (.goto (-115), 3) := by decide +kernel
theorem dX10_weighs_166 : decode cX10_weighs 166 = .ok (.return_, 1) := by decide +kernel
theorem dX10_worstOf_0 : decode cX10_worstOf 0 = .ok (.aload_n 0, 1) := by decide +kernel
theorem dX10_worstOf_1 : decode cX10_worstOf 1 = .ok (.aload_n 0, 1) := by decide +kernel
theorem dX10_worstOf_2 : decode cX10_worstOf 2 = .ok (.iload_n 1, 1) := by decide +kernel
theorem dX10_worstOf_3 : decode cX10_worstOf 3 = .ok (.invokevirtual 237, 3) := by decide +kernel
theorem dX10_worstOf_6 : decode cX10_worstOf 6 = .ok (.aload_n 0, 1) := by decide +kernel
theorem dX10_worstOf_7 : decode cX10_worstOf 7 = .ok (.getfield 42, 3) := by decide +kernel
theorem dX10_worstOf_10 : decode cX10_worstOf 10 = .ok (.iload_n 1, 1) := by decide +kernel
theorem dX10_worstOf_11 : decode cX10_worstOf 11 = .ok (.iaload, 1) := by decide +kernel
theorem dX10_worstOf_12 : decode cX10_worstOf 12 = .ok (.iconst (-1), 1) := by decide +kernel
theorem dX10_worstOf_13 : decode cX10_worstOf 13 = .ok (.invokevirtual 240, 3) := by decide +kernel
theorem dX10_worstOf_16 : decode cX10_worstOf 16 = .ok (.aload_n 0, 1) := by decide +kernel
theorem dX10_worstOf_17 : decode cX10_worstOf 17 = .ok (.getfield 214, 3) := by decide +kernel
theorem dX10_worstOf_20 : decode cX10_worstOf 20 = .ok (.ireturn, 1) := by decide +kernel
theorem dX10_isPassed_0 : decode cX10_isPassed 0 = .ok (.aload_n 0, 1) := by decide +kernel
theorem dX10_isPassed_1 : decode cX10_isPassed 1 = .ok (.iload_n 1, 1) := by decide +kernel
theorem dX10_isPassed_2 : decode cX10_isPassed 2 = .ok (.invokevirtual 244, 3) := by decide +kernel
theorem dX10_isPassed_5 : decode cX10_isPassed 5 = .ok (.aload_n 0, 1) := by decide +kernel
theorem dX10_isPassed_6 : decode cX10_isPassed 6 = .ok (.getfield 45, 3) := by decide +kernel
theorem dX10_isPassed_9 : decode cX10_isPassed 9 = .ok (.iload_n 1, 1) := by decide +kernel
theorem dX10_isPassed_10 : decode cX10_isPassed 10 = .ok (.iaload, 1) := by decide +kernel
theorem dX10_isPassed_11 : decode cX10_isPassed 11 = .ok (.if_icmp .le 7, 3) := by decide +kernel
theorem dX10_isPassed_14 : decode cX10_isPassed 14 = .ok (.iconst 1, 1) := by decide +kernel
theorem dX10_isPassed_15 : decode cX10_isPassed 15 = .ok (.goto 4, 3) := by decide +kernel
theorem dX10_isPassed_18 : decode cX10_isPassed 18 = .ok (.iconst 0, 1) := by decide +kernel
theorem dX10_isPassed_19 : decode cX10_isPassed 19 = .ok (.ireturn, 1) := by decide +kernel
theorem dX10_looks_0 : decode cX10_looks 0 = .ok (.iconst 0, 1) := by decide +kernel
theorem dX10_looks_1 : decode cX10_looks 1 = .ok (.istore_n 1, 1) := by decide +kernel
theorem dX10_looks_2 : decode cX10_looks 2 = .ok (.iload_n 1, 1) := by decide +kernel
theorem dX10_looks_3 : decode cX10_looks 3 = .ok (.aload_n 0, 1) := by decide +kernel
theorem dX10_looks_4 : decode cX10_looks 4 = .ok (.getfield 169, 3) := by decide +kernel
theorem dX10_looks_7 : decode cX10_looks 7 = .ok (.if_icmp .ge 103, 3) := by decide +kernel
theorem dX10_looks_10 : decode cX10_looks 10 = .ok (.aload_n 0, 1) := by decide +kernel
theorem dX10_looks_11 : decode cX10_looks 11 = .ok (.iload_n 1, 1) := by decide +kernel
theorem dX10_looks_12 : decode cX10_looks 12 = .ok (.invokevirtual 247, 3) := by decide +kernel
theorem dX10_looks_15 : decode cX10_looks 15 = .ok (.istore_n 2, 1) := by decide +kernel
theorem dX10_looks_16 : decode cX10_looks 16 = .ok (.iload_n 2, 1) := by decide +kernel
theorem dX10_looks_17 : decode cX10_looks 17 = .ok (.ifCond .eq 75, 3) := by decide +kernel
theorem dX10_looks_20 : decode cX10_looks 20 = .ok (.aload_n 0, 1) := by decide +kernel
theorem dX10_looks_21 : decode cX10_looks 21 = .ok (.getfield 48, 3) := by decide +kernel
theorem dX10_looks_24 : decode cX10_looks 24 = .ok (.iload_n 1, 1) := by decide +kernel
theorem dX10_looks_25 : decode cX10_looks 25 = .ok (.iaload, 1) := by decide +kernel
theorem dX10_looks_26 : decode cX10_looks 26 = .ok (.bipush (-2), 2) := by decide +kernel
theorem dX10_looks_28 : decode cX10_looks 28 = .ok (.if_icmp .ne 64, 3) := by decide +kernel
theorem dX10_looks_31 : decode cX10_looks 31 = .ok (.aload_n 0, 1) := by decide +kernel
theorem dX10_looks_32 : decode cX10_looks 32 = .ok (.getfield 48, 3) := by decide +kernel
theorem dX10_looks_35 : decode cX10_looks 35 = .ok (.iload_n 1, 1) := by decide +kernel
theorem dX10_looks_36 : decode cX10_looks 36 = .ok (.aload_n 0, 1) := by decide +kernel
theorem dX10_looks_37 : decode cX10_looks 37 = .ok (.getfield 176, 3) := by decide +kernel
theorem dX10_looks_40 : decode cX10_looks 40 = .ok (.iastore, 1) := by decide +kernel
theorem dX10_looks_41 : decode cX10_looks 41 = .ok (.aload_n 0, 1) := by decide +kernel
theorem dX10_looks_42 : decode cX10_looks 42 = .ok (.getfield 51, 3) := by decide +kernel
theorem dX10_looks_45 : decode cX10_looks 45 = .ok (.iload_n 1, 1) := by decide +kernel
theorem dX10_looks_46 : decode cX10_looks 46 = .ok (.dup2, 1) := by decide +kernel
theorem dX10_looks_47 : decode cX10_looks 47 = .ok (.iaload, 1) := by decide +kernel
theorem dX10_looks_48 : decode cX10_looks 48 = .ok (.iconst 1, 1) := by decide +kernel
theorem dX10_looks_49 : decode cX10_looks 49 = .ok (.iadd, 1) := by decide +kernel
theorem dX10_looks_50 : decode cX10_looks 50 = .ok (.iastore, 1) := by decide +kernel
theorem dX10_looks_51 : decode cX10_looks 51 = .ok (.aload_n 0, 1) := by decide +kernel
theorem dX10_looks_52 : decode cX10_looks 52 = .ok (.getfield 57, 3) := by decide +kernel
theorem dX10_looks_55 : decode cX10_looks 55 = .ok (.iload_n 1, 1) := by decide +kernel
theorem dX10_looks_56 : decode cX10_looks 56 = .ok (.aload_n 0, 1) := by decide +kernel
theorem dX10_looks_57 : decode cX10_looks 57 = .ok (.getfield 176, 3) := by decide +kernel
theorem dX10_looks_60 : decode cX10_looks 60 = .ok (.aload_n 0, 1) := by decide +kernel
theorem dX10_looks_61 : decode cX10_looks 61 = .ok (.iload_n 1, 1) := by decide +kernel
theorem dX10_looks_62 : decode cX10_looks 62 = .ok (.invokevirtual 244, 3) := by decide +kernel
theorem dX10_looks_65 : decode cX10_looks 65 = .ok (.invokestatic 250, 3) := by decide +kernel
theorem dX10_looks_68 : decode cX10_looks 68 = .ok (.aload_n 0, 1) := by decide +kernel
theorem dX10_looks_69 : decode cX10_looks 69 = .ok (.aload_n 0, 1) := by decide +kernel
theorem dX10_looks_70 : decode cX10_looks 70 = .ok (.getfield 183, 3) := by decide +kernel
theorem dX10_looks_73 : decode cX10_looks 73 = .ok (.bipush 30, 2) := by decide +kernel
theorem dX10_looks_75 : decode cX10_looks 75 = .ok (.if_icmp .ge 12, 3) := by decide +kernel
theorem dX10_looks_78 : decode cX10_looks 78 = .ok (.aload_n 0, 1) := by decide +kernel
theorem dX10_looks_79 : decode cX10_looks 79 = .ok (.getfield 183, 3) := by decide +kernel
theorem dX10_looks_82 : decode cX10_looks 82 = .ok (.iconst 1, 1) := by decide +kernel
theorem dX10_looks_83 : decode cX10_looks 83 = .ok (.iadd, 1) := by decide +kernel
theorem dX10_looks_84 : decode cX10_looks 84 = .ok (.goto 5, 3) := by decide +kernel
theorem dX10_looks_87 : decode cX10_looks 87 = .ok (.bipush 30, 2) := by decide +kernel
theorem dX10_looks_89 : decode cX10_looks 89 = .ok (.putfield 183, 3) := by decide +kernel
theorem dX10_looks_92 : decode cX10_looks 92 = .ok (.iload_n 2, 1) := by decide +kernel
theorem dX10_looks_93 : decode cX10_looks 93 = .ok (.ifCond .ne 11, 3) := by decide +kernel
theorem dX10_looks_96 : decode cX10_looks 96 = .ok (.aload_n 0, 1) := by decide +kernel
theorem dX10_looks_97 : decode cX10_looks 97 = .ok (.getfield 48, 3) := by decide +kernel
theorem dX10_looks_100 : decode cX10_looks 100 = .ok (.iload_n 1, 1) := by decide +kernel
theorem dX10_looks_101 : decode cX10_looks 101 = .ok (.bipush (-2), 2) := by decide +kernel
theorem dX10_looks_103 : decode cX10_looks 103 = .ok (.iastore, 1) := by decide +kernel
theorem dX10_looks_104 : decode cX10_looks 104 = .ok (.iinc 1 1, 3) := by decide +kernel
theorem dX10_looks_107 : decode cX10_looks 107 = .ok (.goto (-105), 3) := by decide +kernel
theorem dX10_looks_110 : decode cX10_looks 110 = .ok (.return_, 1) := by decide +kernel
theorem dX10_acted_0 : decode cX10_acted 0 = .ok (.aload_n 0, 1) := by decide +kernel
theorem dX10_acted_1 : decode cX10_acted 1 = .ok (.dup, 1) := by decide +kernel
theorem dX10_acted_2 : decode cX10_acted 2 = .ok (.getfield 176, 3) := by decide +kernel
theorem dX10_acted_5 : decode cX10_acted 5 = .ok (.iconst 1, 1) := by decide +kernel
theorem dX10_acted_6 : decode cX10_acted 6 = .ok (.iadd, 1) := by decide +kernel
theorem dX10_acted_7 : decode cX10_acted 7 = .ok (.putfield 176, 3) := by decide +kernel
theorem dX10_acted_10 : decode cX10_acted 10 = .ok (.aload_n 0, 1) := by decide +kernel
theorem dX10_acted_11 : decode cX10_acted 11 = .ok (.getfield 60, 3) := by decide +kernel
theorem dX10_acted_14 : decode cX10_acted 14 = .ok (.iload_n 1, 1) := by decide +kernel
theorem dX10_acted_15 : decode cX10_acted 15 = .ok (.iload_n 2, 1) := by decide +kernel
theorem dX10_acted_16 : decode cX10_acted 16 = .ok (.iload_n 3, 1) := by decide +kernel
theorem dX10_acted_17 : decode cX10_acted 17 = .ok (.invokestatic 250, 3) := by decide +kernel
theorem dX10_acted_20 : decode cX10_acted 20 = .ok (.aload_n 0, 1) := by decide +kernel
theorem dX10_acted_21 : decode cX10_acted 21 = .ok (.aload_n 0, 1) := by decide +kernel
theorem dX10_acted_22 : decode cX10_acted 22 = .ok (.getfield 186, 3) := by decide +kernel
theorem dX10_acted_25 : decode cX10_acted 25 = .ok (.bipush 30, 2) := by decide +kernel
theorem dX10_acted_27 : decode cX10_acted 27 = .ok (.if_icmp .ge 12, 3) := by decide +kernel
theorem dX10_acted_30 : decode cX10_acted 30 = .ok (.aload_n 0, 1) := by decide +kernel
theorem dX10_acted_31 : decode cX10_acted 31 = .ok (.getfield 186, 3) := by decide +kernel
theorem dX10_acted_34 : decode cX10_acted 34 = .ok (.iconst 1, 1) := by decide +kernel
theorem dX10_acted_35 : decode cX10_acted 35 = .ok (.iadd, 1) := by decide +kernel
theorem dX10_acted_36 : decode cX10_acted 36 = .ok (.goto 5, 3) := by decide +kernel
theorem dX10_acted_39 : decode cX10_acted 39 = .ok (.bipush 30, 2) := by decide +kernel
theorem dX10_acted_41 : decode cX10_acted 41 = .ok (.putfield 186, 3) := by decide +kernel
theorem dX10_acted_44 : decode cX10_acted 44 = .ok (.aload_n 0, 1) := by decide +kernel
theorem dX10_acted_45 : decode cX10_acted 45 = .ok (.invokevirtual 189, 3) := by decide +kernel
theorem dX10_acted_48 : decode cX10_acted 48 = .ok (.return_, 1) := by decide +kernel
theorem dX10_isPolicy_0 : decode cX10_isPolicy 0 = .ok (.iload_n 1, 1) := by decide +kernel
theorem dX10_isPolicy_1 : decode cX10_isPolicy 1 = .ok (.ifCond .lt 22, 3) := by decide +kernel
theorem dX10_isPolicy_4 : decode cX10_isPolicy 4 = .ok (.iload_n 1, 1) := by decide +kernel
theorem dX10_isPolicy_5 : decode cX10_isPolicy 5 = .ok (.bipush 24, 2) := by decide +kernel
theorem dX10_isPolicy_7 : decode cX10_isPolicy 7 = .ok (.if_icmp .ge 16, 3) := by decide +kernel
theorem dX10_isPolicy_10 : decode cX10_isPolicy 10 = .ok (.aload_n 0, 1) := by decide +kernel
theorem dX10_isPolicy_11 : decode cX10_isPolicy 11 = .ok (.getfield 35, 3) := by decide +kernel
theorem dX10_isPolicy_14 : decode cX10_isPolicy 14 = .ok (.iload_n 1, 1) := by decide +kernel
theorem dX10_isPolicy_15 : decode cX10_isPolicy 15 = .ok (.baload, 1) := by decide +kernel
theorem dX10_isPolicy_16 : decode cX10_isPolicy 16 = .ok (.ifCond .eq 7, 3) := by decide +kernel
theorem dX10_isPolicy_19 : decode cX10_isPolicy 19 = .ok (.iconst 1, 1) := by decide +kernel
theorem dX10_isPolicy_20 : decode cX10_isPolicy 20 = .ok (.goto 4, 3) := by decide +kernel
theorem dX10_isPolicy_23 : decode cX10_isPolicy 23 = .ok (.iconst 0, 1) := by decide +kernel
theorem dX10_isPolicy_24 : decode cX10_isPolicy 24 = .ok (.ireturn, 1) := by decide +kernel
theorem dX10_isTreaty_0 : decode cX10_isTreaty 0 = .ok (.iload_n 1, 1) := by decide +kernel
theorem dX10_isTreaty_1 : decode cX10_isTreaty 1 = .ok (.ifCond .lt 15, 3) := by decide +kernel
theorem dX10_isTreaty_4 : decode cX10_isTreaty 4 = .ok (.iload_n 1, 1) := by decide +kernel
theorem dX10_isTreaty_5 : decode cX10_isTreaty 5 = .ok (.aload_n 0, 1) := by decide +kernel
theorem dX10_isTreaty_6 : decode cX10_isTreaty 6 = .ok (.getfield 169, 3) := by decide +kernel
theorem dX10_isTreaty_9 : decode cX10_isTreaty 9 = .ok (.if_icmp .ge 7, 3) := by decide +kernel
theorem dX10_isTreaty_12 : decode cX10_isTreaty 12 = .ok (.iconst 1, 1) := by decide +kernel
theorem dX10_isTreaty_13 : decode cX10_isTreaty 13 = .ok (.goto 4, 3) := by decide +kernel
theorem dX10_isTreaty_16 : decode cX10_isTreaty 16 = .ok (.iconst 0, 1) := by decide +kernel
theorem dX10_isTreaty_17 : decode cX10_isTreaty 17 = .ok (.ireturn, 1) := by decide +kernel
theorem dX10_isPlace_0 : decode cX10_isPlace 0 = .ok (.iload_n 0, 1) := by decide +kernel
theorem dX10_isPlace_1 : decode cX10_isPlace 1 = .ok (.ifCond .lt 25, 3) := by decide +kernel
theorem dX10_isPlace_4 : decode cX10_isPlace 4 = .ok (.iload_n 0, 1) := by decide +kernel
theorem dX10_isPlace_5 : decode cX10_isPlace 5 = .ok (.sipush 299, 3) := by decide +kernel
theorem dX10_isPlace_8 : decode cX10_isPlace 8 = .ok (.if_icmp .gt 18, 3) := by decide +kernel
theorem dX10_isPlace_11 : decode cX10_isPlace 11 = .ok (.iload_n 1, 1) := by decide +kernel
theorem dX10_isPlace_12 : decode cX10_isPlace 12 = .ok (.ifCond .lt 14, 3) := by decide +kernel
theorem dX10_isPlace_15 : decode cX10_isPlace 15 = .ok (.iload_n 1, 1) := by decide +kernel
theorem dX10_isPlace_16 : decode cX10_isPlace 16 = .ok (.sipush 299, 3) := by decide +kernel
theorem dX10_isPlace_19 : decode cX10_isPlace 19 = .ok (.if_icmp .gt 7, 3) := by decide +kernel
theorem dX10_isPlace_22 : decode cX10_isPlace 22 = .ok (.iconst 1, 1) := by decide +kernel
theorem dX10_isPlace_23 : decode cX10_isPlace 23 = .ok (.goto 4, 3) := by decide +kernel
theorem dX10_isPlace_26 : decode cX10_isPlace 26 = .ok (.iconst 0, 1) := by decide +kernel
theorem dX10_isPlace_27 : decode cX10_isPlace 27 = .ok (.ireturn, 1) := by decide +kernel
theorem dX10_isSum_0 : decode cX10_isSum 0 = .ok (.iload_n 0, 1) := by decide +kernel
theorem dX10_isSum_1 : decode cX10_isSum 1 = .ok (.iconst 1, 1) := by decide +kernel
theorem dX10_isSum_2 : decode cX10_isSum 2 = .ok (.if_icmp .lt 13, 3) := by decide +kernel
theorem dX10_isSum_5 : decode cX10_isSum 5 = .ok (.iload_n 0, 1) := by decide +kernel
theorem dX10_isSum_6 : decode cX10_isSum 6 = .ok (.ldc 140, 2) := by decide +kernel
theorem dX10_isSum_8 : decode cX10_isSum 8 = .ok (.if_icmp .gt 7, 3) := by decide +kernel
theorem dX10_isSum_11 : decode cX10_isSum 11 = .ok (.iconst 1, 1) := by decide +kernel
theorem dX10_isSum_12 : decode cX10_isSum 12 = .ok (.goto 4, 3) := by decide +kernel
theorem dX10_isSum_15 : decode cX10_isSum 15 = .ok (.iconst 0, 1) := by decide +kernel
theorem dX10_isSum_16 : decode cX10_isSum 16 = .ok (.ireturn, 1) := by decide +kernel
theorem dX10_isPeril_0 : decode cX10_isPeril 0 = .ok (.iload_n 0, 1) := by decide +kernel
theorem dX10_isPeril_1 : decode cX10_isPeril 1 = .ok (.ifCond .lt 12, 3) := by decide +kernel
theorem dX10_isPeril_4 : decode cX10_isPeril 4 = .ok (.iload_n 0, 1) := by decide +kernel
theorem dX10_isPeril_5 : decode cX10_isPeril 5 = .ok (.iconst 3, 1) := by decide +kernel
theorem dX10_isPeril_6 : decode cX10_isPeril 6 = .ok (.if_icmp .gt 7, 3) := by decide +kernel
theorem dX10_isPeril_9 : decode cX10_isPeril 9 = .ok (.iconst 1, 1) := by decide +kernel
theorem dX10_isPeril_10 : decode cX10_isPeril 10 = .ok (.goto 4, 3) := by decide +kernel
theorem dX10_isPeril_13 : decode cX10_isPeril 13 = .ok (.iconst 0, 1) := by decide +kernel
theorem dX10_isPeril_14 : decode cX10_isPeril 14 = .ok (.ireturn, 1) := by decide +kernel
theorem dX10_arePerils_0 : decode cX10_arePerils 0 = .ok (.iload_n 0, 1) := by decide +kernel
theorem dX10_arePerils_1 : decode cX10_arePerils 1 = .ok (.iconst 1, 1) := by decide +kernel
theorem dX10_arePerils_2 : decode cX10_arePerils 2 = .ok (.if_icmp .lt 13, 3) := by decide +kernel
theorem dX10_arePerils_5 : decode cX10_arePerils 5 = .ok (.iload_n 0, 1) := by decide +kernel
theorem dX10_arePerils_6 : decode cX10_arePerils 6 = .ok (.bipush 15, 2) := by decide +kernel
theorem dX10_arePerils_8 : decode cX10_arePerils 8 = .ok (.if_icmp .gt 7, 3) := by decide +kernel
theorem dX10_arePerils_11 : decode cX10_arePerils 11 = .ok (.iconst 1, 1) := by decide +kernel
theorem dX10_arePerils_12 : decode cX10_arePerils 12 = .ok (.goto 4, 3) := by decide +kernel
theorem dX10_arePerils_15 : decode cX10_arePerils 15 = .ok (.iconst 0, 1) := by decide +kernel
theorem dX10_arePerils_16 : decode cX10_arePerils 16 = .ok (.ireturn, 1) := by decide +kernel
theorem dX10_isRadius_0 : decode cX10_isRadius 0 = .ok (.iload_n 0, 1) := by decide +kernel
theorem dX10_isRadius_1 : decode cX10_isRadius 1 = .ok (.iconst 1, 1) := by decide +kernel
theorem dX10_isRadius_2 : decode cX10_isRadius 2 = .ok (.if_icmp .lt 14, 3) := by decide +kernel
theorem dX10_isRadius_5 : decode cX10_isRadius 5 = .ok (.iload_n 0, 1) := by decide +kernel
theorem dX10_isRadius_6 : decode cX10_isRadius 6 = .ok (.sipush 300, 3) := by decide +kernel
theorem dX10_isRadius_9 : decode cX10_isRadius 9 = .ok (.if_icmp .gt 7, 3) := by decide +kernel
theorem dX10_isRadius_12 : decode cX10_isRadius 12 = .ok (.iconst 1, 1) := by decide +kernel
theorem dX10_isRadius_13 : decode cX10_isRadius 13 = .ok (.goto 4, 3) := by decide +kernel
theorem dX10_isRadius_16 : decode cX10_isRadius 16 = .ok (.iconst 0, 1) := by decide +kernel
theorem dX10_isRadius_17 : decode cX10_isRadius 17 = .ok (.ireturn, 1) := by decide +kernel
theorem dX10_write_0 : decode cX10_write 0 = .ok (.aload_n 0, 1) := by decide +kernel
theorem dX10_write_1 : decode cX10_write 1 = .ok (.iconst 0, 1) := by decide +kernel
theorem dX10_write_2 : decode cX10_write 2 = .ok (.putfield 70, 3) := by decide +kernel
theorem dX10_write_5 : decode cX10_write 5 = .ok (.iload_n 1, 1) := by decide +kernel
theorem dX10_write_6 : decode cX10_write 6 = .ok (.iload_n 2, 1) := by decide +kernel
theorem dX10_write_7 : decode cX10_write 7 = .ok (.invokestatic 254, 3) := by decide +kernel
theorem dX10_write_10 : decode cX10_write 10 = .ok (.ifCond .eq 18, 3) := by decide +kernel
theorem dX10_write_13 : decode cX10_write 13 = .ok (.iload_n 3, 1) := by decide +kernel
theorem dX10_write_14 : decode cX10_write 14 = .ok (.invokestatic 257, 3) := by decide +kernel
theorem dX10_write_17 : decode cX10_write 17 = .ok (.ifCond .eq 11, 3) := by decide +kernel
theorem dX10_write_20 : decode cX10_write 20 = .ok (.iload 4, 2) := by decide +kernel
theorem dX10_write_22 : decode cX10_write 22 = .ok (.invokestatic 260, 3) := by decide +kernel
theorem dX10_write_25 : decode cX10_write 25 = .ok (.ifCond .ne 5, 3) := by decide +kernel
theorem dX10_write_28 : decode cX10_write 28 = .ok (.iconst (-1), 1) := by decide +kernel
theorem dX10_write_29 : decode cX10_write 29 = .ok (.ireturn, 1) := by decide +kernel
theorem dX10_write_30 : decode cX10_write 30 = .ok (.iconst 0, 1) := by decide +kernel
theorem dX10_write_31 : decode cX10_write 31 = .ok (.istore 5, 2) := by decide +kernel
theorem dX10_write_33 : decode cX10_write 33 = .ok (.iload 5, 2) := by decide +kernel
theorem dX10_write_35 : decode cX10_write 35 = .ok (.bipush 24, 2) := by decide +kernel
theorem dX10_write_37 : decode cX10_write 37 = .ok (.if_icmp .ge 19, 3) := by decide +kernel
theorem dX10_write_40 : decode cX10_write 40 = .ok (.aload_n 0, 1) := by decide +kernel
theorem dX10_write_41 : decode cX10_write 41 = .ok (.getfield 35, 3) := by decide +kernel
theorem dX10_write_44 : decode cX10_write 44 = .ok (.iload 5, 2) := by decide +kernel
theorem dX10_write_46 : decode cX10_write 46 = .ok (.baload, 1) := by decide +kernel
theorem dX10_write_47 : decode cX10_write 47 = .ok (.ifCond .eq 9, 3) := by decide +kernel
theorem dX10_write_50 : decode cX10_write 50 = .ok (.iinc 5 1, 3) := by decide +kernel
theorem dX10_write_53 : decode cX10_write 53 = .ok (.goto (-20), 3) := by decide +kernel
theorem dX10_write_56 : decode cX10_write 56 = .ok (.iload 5, 2) := by decide +kernel
theorem dX10_write_58 : decode cX10_write 58 = .ok (.bipush 24, 2) := by decide +kernel
theorem dX10_write_60 : decode cX10_write 60 = .ok (.if_icmp .ne 6, 3) := by decide +kernel
theorem dX10_write_63 : decode cX10_write 63 = .ok (.bipush (-2), 2) := by decide +kernel
theorem dX10_write_65 : decode cX10_write 65 = .ok (.ireturn, 1) := by decide +kernel
theorem dX10_write_66 : decode cX10_write 66 = .ok (.aload_n 0, 1) := by decide +kernel
theorem dX10_write_67 : decode cX10_write 67 = .ok (.iload 5, 2) := by decide +kernel
theorem dX10_write_69 : decode cX10_write 69 = .ok (.iload_n 1, 1) := by decide +kernel
theorem dX10_write_70 : decode cX10_write 70 = .ok (.iload_n 2, 1) := by decide +kernel
theorem dX10_write_71 : decode cX10_write 71 = .ok (.iload_n 3, 1) := by decide +kernel
theorem dX10_write_72 : decode cX10_write 72 = .ok (.iload 4, 2) := by decide +kernel
theorem dX10_write_74 : decode cX10_write 74 = .ok (.invokevirtual 165, 3) := by decide +kernel
theorem dX10_write_77 : decode cX10_write 77 = .ok (.aload_n 0, 1) := by decide +kernel
theorem dX10_write_78 : decode cX10_write 78 = .ok (.getfield 35, 3) := by decide +kernel
theorem dX10_write_81 : decode cX10_write 81 = .ok (.iload 5, 2) := by decide +kernel
theorem dX10_write_83 : decode cX10_write 83 = .ok (.iconst 1, 1) := by decide +kernel
theorem dX10_write_84 : decode cX10_write 84 = .ok (.bastore, 1) := by decide +kernel
theorem dX10_write_85 : decode cX10_write 85 = .ok (.aload_n 0, 1) := by decide +kernel
theorem dX10_write_86 : decode cX10_write 86 = .ok (.iconst 0, 1) := by decide +kernel
theorem dX10_write_87 : decode cX10_write 87 = .ok (.iload 5, 2) := by decide +kernel
theorem dX10_write_89 : decode cX10_write 89 = .ok (.iload_n 3, 1) := by decide +kernel
theorem dX10_write_90 : decode cX10_write 90 = .ok (.invokevirtual 263, 3) := by decide +kernel
theorem dX10_write_93 : decode cX10_write 93 = .ok (.iload 5, 2) := by decide +kernel
theorem dX10_write_95 : decode cX10_write 95 = .ok (.ireturn, 1) := by decide +kernel
theorem dX10_move_0 : decode cX10_move 0 = .ok (.aload_n 0, 1) := by decide +kernel
theorem dX10_move_1 : decode cX10_move 1 = .ok (.iconst 0, 1) := by decide +kernel
theorem dX10_move_2 : decode cX10_move 2 = .ok (.putfield 70, 3) := by decide +kernel
theorem dX10_move_5 : decode cX10_move 5 = .ok (.aload_n 0, 1) := by decide +kernel
theorem dX10_move_6 : decode cX10_move 6 = .ok (.iload_n 1, 1) := by decide +kernel
theorem dX10_move_7 : decode cX10_move 7 = .ok (.invokevirtual 266, 3) := by decide +kernel
theorem dX10_move_10 : decode cX10_move 10 = .ok (.ifCond .eq 11, 3) := by decide +kernel
theorem dX10_move_13 : decode cX10_move 13 = .ok (.iload_n 2, 1) := by decide +kernel
theorem dX10_move_14 : decode cX10_move 14 = .ok (.iload_n 3, 1) := by decide +kernel
theorem dX10_move_15 : decode cX10_move 15 = .ok (.invokestatic 254, 3) := by decide +kernel
theorem dX10_move_18 : decode cX10_move 18 = .ok (.ifCond .ne 5, 3) := by decide +kernel
theorem dX10_move_21 : decode cX10_move 21 = .ok (.iconst (-1), 1) := by decide +kernel
theorem dX10_move_22 : decode cX10_move 22 = .ok (.ireturn, 1) := by decide +kernel
theorem dX10_move_23 : decode cX10_move 23 = .ok (.aload_n 0, 1) := by decide +kernel
theorem dX10_move_24 : decode cX10_move 24 = .ok (.getfield 23, 3) := by decide +kernel
theorem dX10_move_27 : decode cX10_move 27 = .ok (.iload_n 1, 1) := by decide +kernel
theorem dX10_move_28 : decode cX10_move 28 = .ok (.iaload, 1) := by decide +kernel
theorem dX10_move_29 : decode cX10_move 29 = .ok (.iload_n 2, 1) := by decide +kernel
theorem dX10_move_30 : decode cX10_move 30 = .ok (.isub, 1) := by decide +kernel
theorem dX10_move_31 : decode cX10_move 31 = .ok (.aload_n 0, 1) := by decide +kernel
theorem dX10_move_32 : decode cX10_move 32 = .ok (.getfield 23, 3) := by decide +kernel
theorem dX10_move_35 : decode cX10_move 35 = .ok (.iload_n 1, 1) := by decide +kernel
theorem dX10_move_36 : decode cX10_move 36 = .ok (.iaload, 1) := by decide +kernel
theorem dX10_move_37 : decode cX10_move 37 = .ok (.iload_n 2, 1) := by decide +kernel
theorem dX10_move_38 : decode cX10_move 38 = .ok (.isub, 1) := by decide +kernel
theorem dX10_move_39 : decode cX10_move 39 = .ok (.imul, 1) := by decide +kernel
theorem dX10_move_40 : decode cX10_move 40 = .ok (.aload_n 0, 1) := by decide +kernel
theorem dX10_move_41 : decode cX10_move 41 = .ok (.getfield 26, 3) := by decide +kernel
theorem dX10_move_44 : decode cX10_move 44 = .ok (.iload_n 1, 1) := by decide +kernel
theorem dX10_move_45 : decode cX10_move 45 = .ok (.iaload, 1) := by decide +kernel
theorem dX10_move_46 : decode cX10_move 46 = .ok (.iload_n 3, 1) := by decide +kernel
theorem dX10_move_47 : decode cX10_move 47 = .ok (.isub, 1) := by decide +kernel
theorem dX10_move_48 : decode cX10_move 48 = .ok (.aload_n 0, 1) := by decide +kernel
theorem dX10_move_49 : decode cX10_move 49 = .ok (.getfield 26, 3) := by decide +kernel
theorem dX10_move_52 : decode cX10_move 52 = .ok (.iload_n 1, 1) := by decide +kernel
theorem dX10_move_53 : decode cX10_move 53 = .ok (.iaload, 1) := by decide +kernel
theorem dX10_move_54 : decode cX10_move 54 = .ok (.iload_n 3, 1) := by decide +kernel
theorem dX10_move_55 : decode cX10_move 55 = .ok (.isub, 1) := by decide +kernel
theorem dX10_move_56 : decode cX10_move 56 = .ok (.imul, 1) := by decide +kernel
theorem dX10_move_57 : decode cX10_move 57 = .ok (.iadd, 1) := by decide +kernel
theorem dX10_move_58 : decode cX10_move 58 = .ok (.istore 4, 2) := by decide +kernel
theorem dX10_move_60 : decode cX10_move 60 = .ok (.aload_n 0, 1) := by decide +kernel
theorem dX10_move_61 : decode cX10_move 61 = .ok (.getfield 23, 3) := by decide +kernel
theorem dX10_move_64 : decode cX10_move 64 = .ok (.iload_n 1, 1) := by decide +kernel
theorem dX10_move_65 : decode cX10_move 65 = .ok (.iload_n 2, 1) := by decide +kernel
theorem dX10_move_66 : decode cX10_move 66 = .ok (.iastore, 1) := by decide +kernel
theorem dX10_move_67 : decode cX10_move 67 = .ok (.aload_n 0, 1) := by decide +kernel
theorem dX10_move_68 : decode cX10_move 68 = .ok (.getfield 26, 3) := by decide +kernel
theorem dX10_move_71 : decode cX10_move 71 = .ok (.iload_n 1, 1) := by decide +kernel
theorem dX10_move_72 : decode cX10_move 72 = .ok (.iload_n 3, 1) := by decide +kernel
theorem dX10_move_73 : decode cX10_move 73 = .ok (.iastore, 1) := by decide +kernel
theorem dX10_move_74 : decode cX10_move 74 = .ok (.aload_n 0, 1) := by decide +kernel
theorem dX10_move_75 : decode cX10_move 75 = .ok (.iconst 1, 1) := by decide +kernel
theorem dX10_move_76 : decode cX10_move 76 = .ok (.iload_n 1, 1) := by decide +kernel
theorem dX10_move_77 : decode cX10_move 77 = .ok (.iconst 0, 1) := by decide +kernel
theorem dX10_move_78 : decode cX10_move 78 = .ok (.invokevirtual 263, 3) := by decide +kernel
theorem dX10_move_81 : decode cX10_move 81 = .ok (.iload 4, 2) := by decide +kernel
theorem dX10_move_83 : decode cX10_move 83 = .ok (.ireturn, 1) := by decide +kernel
theorem dX10_change_0 : decode cX10_change 0 = .ok (.aload_n 0, 1) := by decide +kernel
theorem dX10_change_1 : decode cX10_change 1 = .ok (.iconst 0, 1) := by decide +kernel
theorem dX10_change_2 : decode cX10_change 2 = .ok (.putfield 70, 3) := by decide +kernel
theorem dX10_change_5 : decode cX10_change 5 = .ok (.aload_n 0, 1) := by decide +kernel
theorem dX10_change_6 : decode cX10_change 6 = .ok (.iload_n 1, 1) := by decide +kernel
theorem dX10_change_7 : decode cX10_change 7 = .ok (.invokevirtual 266, 3) := by decide +kernel
theorem dX10_change_10 : decode cX10_change 10 = .ok (.ifCond .eq 10, 3) := by decide +kernel
theorem dX10_change_13 : decode cX10_change 13 = .ok (.iload_n 2, 1) := by decide +kernel
theorem dX10_change_14 : decode cX10_change 14 = .ok (.invokestatic 257, 3) := by decide +kernel
theorem dX10_change_17 : decode cX10_change 17 = .ok (.ifCond .ne 5, 3) := by decide +kernel
theorem dX10_change_20 : decode cX10_change 20 = .ok (.iconst (-1), 1) := by decide +kernel
theorem dX10_change_21 : decode cX10_change 21 = .ok (.ireturn, 1) := by decide +kernel
theorem dX10_change_22 : decode cX10_change 22 = .ok (.aload_n 0, 1) := by decide +kernel
theorem dX10_change_23 : decode cX10_change 23 = .ok (.getfield 29, 3) := by decide +kernel
theorem dX10_change_26 : decode cX10_change 26 = .ok (.iload_n 1, 1) := by decide +kernel
theorem dX10_change_27 : decode cX10_change 27 = .ok (.iaload, 1) := by decide +kernel
theorem dX10_change_28 : decode cX10_change 28 = .ok (.istore_n 3, 1) := by decide +kernel
theorem dX10_change_29 : decode cX10_change 29 = .ok (.aload_n 0, 1) := by decide +kernel
theorem dX10_change_30 : decode cX10_change 30 = .ok (.getfield 29, 3) := by decide +kernel
theorem dX10_change_33 : decode cX10_change 33 = .ok (.iload_n 1, 1) := by decide +kernel
theorem dX10_change_34 : decode cX10_change 34 = .ok (.iload_n 2, 1) := by decide +kernel
theorem dX10_change_35 : decode cX10_change 35 = .ok (.iastore, 1) := by decide +kernel
theorem dX10_change_36 : decode cX10_change 36 = .ok (.aload_n 0, 1) := by decide +kernel
theorem dX10_change_37 : decode cX10_change 37 = .ok (.iconst 2, 1) := by decide +kernel
theorem dX10_change_38 : decode cX10_change 38 = .ok (.iload_n 1, 1) := by decide +kernel
theorem dX10_change_39 : decode cX10_change 39 = .ok (.iload_n 2, 1) := by decide +kernel
theorem dX10_change_40 : decode cX10_change 40 = .ok (.iload_n 3, 1) := by decide +kernel
theorem dX10_change_41 : decode cX10_change 41 = .ok (.isub, 1) := by decide +kernel
theorem dX10_change_42 : decode cX10_change 42 = .ok (.invokevirtual 263, 3) := by decide +kernel
theorem dX10_change_45 : decode cX10_change 45 = .ok (.iload_n 3, 1) := by decide +kernel
theorem dX10_change_46 : decode cX10_change 46 = .ok (.ireturn, 1) := by decide +kernel
theorem dX10_lapse_0 : decode cX10_lapse 0 = .ok (.aload_n 0, 1) := by decide +kernel
theorem dX10_lapse_1 : decode cX10_lapse 1 = .ok (.iconst 0, 1) := by decide +kernel
theorem dX10_lapse_2 : decode cX10_lapse 2 = .ok (.putfield 70, 3) := by decide +kernel
theorem dX10_lapse_5 : decode cX10_lapse 5 = .ok (.aload_n 0, 1) := by decide +kernel
theorem dX10_lapse_6 : decode cX10_lapse 6 = .ok (.iload_n 1, 1) := by decide +kernel
theorem dX10_lapse_7 : decode cX10_lapse 7 = .ok (.invokevirtual 266, 3) := by decide +kernel
theorem dX10_lapse_10 : decode cX10_lapse 10 = .ok (.ifCond .ne 5, 3) := by decide +kernel
theorem dX10_lapse_13 : decode cX10_lapse 13 = .ok (.iconst (-1), 1) := by decide +kernel
theorem dX10_lapse_14 : decode cX10_lapse 14 = .ok (.ireturn, 1) := by decide +kernel
theorem dX10_lapse_15 : decode cX10_lapse 15 = .ok (.aload_n 0, 1) := by decide +kernel
theorem dX10_lapse_16 : decode cX10_lapse 16 = .ok (.getfield 35, 3) := by decide +kernel
theorem dX10_lapse_19 : decode cX10_lapse 19 = .ok (.iload_n 1, 1) := by decide +kernel
theorem dX10_lapse_20 : decode cX10_lapse 20 = .ok (.iconst 0, 1) := by decide +kernel
theorem dX10_lapse_21 : decode cX10_lapse 21 = .ok (.bastore, 1) := by decide +kernel
theorem dX10_lapse_22 : decode cX10_lapse 22 = .ok (.aload_n 0, 1) := by decide +kernel
theorem dX10_lapse_23 : decode cX10_lapse 23 = .ok (.iconst 3, 1) := by decide +kernel
theorem dX10_lapse_24 : decode cX10_lapse 24 = .ok (.iload_n 1, 1) := by decide +kernel
theorem dX10_lapse_25 : decode cX10_lapse 25 = .ok (.aload_n 0, 1) := by decide +kernel
theorem dX10_lapse_26 : decode cX10_lapse 26 = .ok (.getfield 29, 3) := by decide +kernel
theorem dX10_lapse_29 : decode cX10_lapse 29 = .ok (.iload_n 1, 1) := by decide +kernel
theorem dX10_lapse_30 : decode cX10_lapse 30 = .ok (.iaload, 1) := by decide +kernel
theorem dX10_lapse_31 : decode cX10_lapse 31 = .ok (.ineg, 1) := by decide +kernel
theorem dX10_lapse_32 : decode cX10_lapse 32 = .ok (.invokevirtual 263, 3) := by decide +kernel
theorem dX10_lapse_35 : decode cX10_lapse 35 = .ok (.aload_n 0, 1) := by decide +kernel
theorem dX10_lapse_36 : decode cX10_lapse 36 = .ok (.getfield 29, 3) := by decide +kernel
theorem dX10_lapse_39 : decode cX10_lapse 39 = .ok (.iload_n 1, 1) := by decide +kernel
theorem dX10_lapse_40 : decode cX10_lapse 40 = .ok (.iaload, 1) := by decide +kernel
theorem dX10_lapse_41 : decode cX10_lapse 41 = .ok (.ireturn, 1) := by decide +kernel
theorem dX10_treaty_0 : decode cX10_treaty 0 = .ok (.aload_n 0, 1) := by decide +kernel
theorem dX10_treaty_1 : decode cX10_treaty 1 = .ok (.iconst 0, 1) := by decide +kernel
theorem dX10_treaty_2 : decode cX10_treaty 2 = .ok (.putfield 70, 3) := by decide +kernel
theorem dX10_treaty_5 : decode cX10_treaty 5 = .ok (.iload_n 1, 1) := by decide +kernel
theorem dX10_treaty_6 : decode cX10_treaty 6 = .ok (.invokestatic 269, 3) := by decide +kernel
theorem dX10_treaty_9 : decode cX10_treaty 9 = .ok (.ifCond .eq 21, 3) := by decide +kernel
theorem dX10_treaty_12 : decode cX10_treaty 12 = .ok (.iload_n 2, 1) := by decide +kernel
theorem dX10_treaty_13 : decode cX10_treaty 13 = .ok (.invokestatic 272, 3) := by decide +kernel
theorem dX10_treaty_16 : decode cX10_treaty 16 = .ok (.ifCond .eq 14, 3) := by decide +kernel
theorem dX10_treaty_19 : decode cX10_treaty 19 = .ok (.iload_n 3, 1) := by decide +kernel
theorem dX10_treaty_20 : decode cX10_treaty 20 = .ok (.iconst 1, 1) := by decide +kernel
theorem dX10_treaty_21 : decode cX10_treaty 21 = .ok (.if_icmp .lt 9, 3) := by decide +kernel
theorem dX10_treaty_24 : decode cX10_treaty 24 = .ok (.iload_n 3, 1) := by decide +kernel
theorem dX10_treaty_25 : decode cX10_treaty 25 = .ok (.ldc 105, 2) := by decide +kernel
theorem dX10_treaty_27 : decode cX10_treaty 27 = .ok (.if_icmp .le 5, 3) := by decide +kernel
theorem dX10_treaty_30 : decode cX10_treaty 30 = .ok (.iconst (-1), 1) := by decide +kernel
theorem dX10_treaty_31 : decode cX10_treaty 31 = .ok (.ireturn, 1) := by decide +kernel
theorem dX10_treaty_32 : decode cX10_treaty 32 = .ok (.aload_n 0, 1) := by decide +kernel
theorem dX10_treaty_33 : decode cX10_treaty 33 = .ok (.getfield 169, 3) := by decide +kernel
theorem dX10_treaty_36 : decode cX10_treaty 36 = .ok (.bipush 6, 2) := by decide +kernel
theorem dX10_treaty_38 : decode cX10_treaty 38 = .ok (.if_icmp .ne 6, 3) := by decide +kernel
theorem dX10_treaty_41 : decode cX10_treaty 41 = .ok (.bipush (-2), 2) := by decide +kernel
theorem dX10_treaty_43 : decode cX10_treaty 43 = .ok (.ireturn, 1) := by decide +kernel
theorem dX10_treaty_44 : decode cX10_treaty 44 = .ok (.aload_n 0, 1) := by decide +kernel
theorem dX10_treaty_45 : decode cX10_treaty 45 = .ok (.aload_n 0, 1) := by decide +kernel
theorem dX10_treaty_46 : decode cX10_treaty 46 = .ok (.getfield 169, 3) := by decide +kernel
theorem dX10_treaty_49 : decode cX10_treaty 49 = .ok (.iload_n 1, 1) := by decide +kernel
theorem dX10_treaty_50 : decode cX10_treaty 50 = .ok (.iload_n 2, 1) := by decide +kernel
theorem dX10_treaty_51 : decode cX10_treaty 51 = .ok (.iload_n 3, 1) := by decide +kernel
theorem dX10_treaty_52 : decode cX10_treaty 52 = .ok (.invokevirtual 172, 3) := by decide +kernel
theorem dX10_treaty_55 : decode cX10_treaty 55 = .ok (.aload_n 0, 1) := by decide +kernel
theorem dX10_treaty_56 : decode cX10_treaty 56 = .ok (.dup, 1) := by decide +kernel
theorem dX10_treaty_57 : decode cX10_treaty 57 = .ok (.getfield 169, 3) := by decide +kernel
theorem dX10_treaty_60 : decode cX10_treaty 60 = .ok (.iconst 1, 1) := by decide +kernel
theorem dX10_treaty_61 : decode cX10_treaty 61 = .ok (.iadd, 1) := by decide +kernel
theorem dX10_treaty_62 : decode cX10_treaty 62 = .ok (.putfield 169, 3) := by decide +kernel
theorem dX10_treaty_65 : decode cX10_treaty 65 = .ok (.aload_n 0, 1) := by decide +kernel
theorem dX10_treaty_66 : decode cX10_treaty 66 = .ok (.invokevirtual 189, 3) := by decide +kernel
theorem dX10_treaty_69 : decode cX10_treaty 69 = .ok (.aload_n 0, 1) := by decide +kernel
theorem dX10_treaty_70 : decode cX10_treaty 70 = .ok (.getfield 169, 3) := by decide +kernel
theorem dX10_treaty_73 : decode cX10_treaty 73 = .ok (.iconst 1, 1) := by decide +kernel
theorem dX10_treaty_74 : decode cX10_treaty 74 = .ok (.isub, 1) := by decide +kernel
theorem dX10_treaty_75 : decode cX10_treaty 75 = .ok (.ireturn, 1) := by decide +kernel
theorem dX10_limit_0 : decode cX10_limit 0 = .ok (.aload_n 0, 1) := by decide +kernel
theorem dX10_limit_1 : decode cX10_limit 1 = .ok (.iconst 0, 1) := by decide +kernel
theorem dX10_limit_2 : decode cX10_limit 2 = .ok (.putfield 70, 3) := by decide +kernel
theorem dX10_limit_5 : decode cX10_limit 5 = .ok (.aload_n 0, 1) := by decide +kernel
theorem dX10_limit_6 : decode cX10_limit 6 = .ok (.iload_n 1, 1) := by decide +kernel
theorem dX10_limit_7 : decode cX10_limit 7 = .ok (.invokevirtual 275, 3) := by decide +kernel
theorem dX10_limit_10 : decode cX10_limit 10 = .ok (.ifCond .eq 14, 3) := by decide +kernel
theorem dX10_limit_13 : decode cX10_limit 13 = .ok (.iload_n 2, 1) := by decide +kernel
theorem dX10_limit_14 : decode cX10_limit 14 = .ok (.iconst 1, 1) := by decide +kernel
theorem dX10_limit_15 : decode cX10_limit 15 = .ok (.if_icmp .lt 9, 3) := by decide +kernel
theorem dX10_limit_18 : decode cX10_limit 18 = .ok (.iload_n 2, 1) := by decide +kernel
theorem dX10_limit_19 : decode cX10_limit 19 = .ok (.ldc 105, 2) := by decide +kernel
theorem dX10_limit_21 : decode cX10_limit 21 = .ok (.if_icmp .le 5, 3) := by decide +kernel
theorem dX10_limit_24 : decode cX10_limit 24 = .ok (.iconst (-1), 1) := by decide +kernel
theorem dX10_limit_25 : decode cX10_limit 25 = .ok (.ireturn, 1) := by decide +kernel
theorem dX10_limit_26 : decode cX10_limit 26 = .ok (.aload_n 0, 1) := by decide +kernel
theorem dX10_limit_27 : decode cX10_limit 27 = .ok (.getfield 45, 3) := by decide +kernel
theorem dX10_limit_30 : decode cX10_limit 30 = .ok (.iload_n 1, 1) := by decide +kernel
theorem dX10_limit_31 : decode cX10_limit 31 = .ok (.iaload, 1) := by decide +kernel
theorem dX10_limit_32 : decode cX10_limit 32 = .ok (.istore_n 3, 1) := by decide +kernel
theorem dX10_limit_33 : decode cX10_limit 33 = .ok (.aload_n 0, 1) := by decide +kernel
theorem dX10_limit_34 : decode cX10_limit 34 = .ok (.getfield 45, 3) := by decide +kernel
theorem dX10_limit_37 : decode cX10_limit 37 = .ok (.iload_n 1, 1) := by decide +kernel
theorem dX10_limit_38 : decode cX10_limit 38 = .ok (.iload_n 2, 1) := by decide +kernel
theorem dX10_limit_39 : decode cX10_limit 39 = .ok (.iastore, 1) := by decide +kernel
theorem dX10_limit_40 : decode cX10_limit 40 = .ok (.aload_n 0, 1) := by decide +kernel
theorem dX10_limit_41 : decode cX10_limit 41 = .ok (.invokevirtual 189, 3) := by decide +kernel
theorem dX10_limit_44 : decode cX10_limit 44 = .ok (.iload_n 3, 1) := by decide +kernel
theorem dX10_limit_45 : decode cX10_limit 45 = .ok (.ireturn, 1) := by decide +kernel
theorem dX10_atPlaceOf_0 : decode cX10_atPlaceOf 0 = .ok (.iconst 0, 1) := by decide +kernel
theorem dX10_atPlaceOf_1 : decode cX10_atPlaceOf 1 = .ok (.istore_n 2, 1) := by decide +kernel
theorem dX10_atPlaceOf_2 : decode cX10_atPlaceOf 2 = .ok (.iconst 0, 1) := by decide +kernel
theorem dX10_atPlaceOf_3 : decode cX10_atPlaceOf 3 = .ok (.istore_n 3, 1) := by decide +kernel
theorem dX10_atPlaceOf_4 : decode cX10_atPlaceOf 4 = .ok (.iload_n 3, 1) := by decide +kernel
theorem dX10_atPlaceOf_5 : decode cX10_atPlaceOf 5 = .ok (.bipush 24, 2) := by decide +kernel
theorem dX10_atPlaceOf_7 : decode cX10_atPlaceOf 7 = .ok (.if_icmp .ge 40, 3) := by decide +kernel
theorem dX10_atPlaceOf_10 : decode cX10_atPlaceOf 10 = .ok (.iload_n 2, 1) := by decide +kernel
theorem dX10_atPlaceOf_11 : decode cX10_atPlaceOf 11 = .ok (.aload_n 0, 1) := by decide +kernel
theorem dX10_atPlaceOf_12 : decode cX10_atPlaceOf 12 = .ok (.getfield 35, 3) := by decide +kernel
theorem dX10_atPlaceOf_15 : decode cX10_atPlaceOf 15 = .ok (.iload_n 3, 1) := by decide +kernel
theorem dX10_atPlaceOf_16 : decode cX10_atPlaceOf 16 = .ok (.baload, 1) := by decide +kernel
theorem dX10_atPlaceOf_17 : decode cX10_atPlaceOf 17 = .ok (.ifCond .eq 21, 3) := by decide +kernel
theorem dX10_atPlaceOf_20 : decode cX10_atPlaceOf 20 = .ok (.iload_n 3, 1) := by decide +kernel
theorem dX10_atPlaceOf_21 : decode cX10_atPlaceOf 21 = .ok (.iload_n 1, 1) := by decide +kernel
theorem dX10_atPlaceOf_22 : decode cX10_atPlaceOf 22 = .ok (.if_icmp .eq 16, 3) := by decide +kernel
theorem dX10_atPlaceOf_25 : decode cX10_atPlaceOf 25 = .ok (.aload_n 0, 1) := by decide +kernel
theorem dX10_atPlaceOf_26 : decode cX10_atPlaceOf 26 = .ok (.iload_n 1, 1) := by decide +kernel
theorem dX10_atPlaceOf_27 : decode cX10_atPlaceOf 27 = .ok (.iload_n 3, 1) := by decide +kernel
theorem dX10_atPlaceOf_28 : decode cX10_atPlaceOf 28 = .ok (.invokevirtual 203, 3) := by decide +kernel
theorem dX10_atPlaceOf_31 : decode cX10_atPlaceOf 31 = .ok (.ifCond .ne 7, 3) := by decide +kernel
theorem dX10_atPlaceOf_34 : decode cX10_atPlaceOf 34 = .ok (.iconst 1, 1) := by decide +kernel
theorem dX10_atPlaceOf_35 : decode cX10_atPlaceOf 35 = .ok (.goto 4, 3) := by decide +kernel
theorem dX10_atPlaceOf_38 : decode cX10_atPlaceOf 38 = .ok (.iconst 0, 1) := by decide +kernel
theorem dX10_atPlaceOf_39 : decode cX10_atPlaceOf 39 = .ok (.iadd, 1) := by decide +kernel
theorem dX10_atPlaceOf_40 : decode cX10_atPlaceOf 40 = .ok (.istore_n 2, 1) := by decide +kernel
theorem dX10_atPlaceOf_41 : decode cX10_atPlaceOf 41 = .ok (.iinc 3 1, 3) := by decide +kernel
theorem dX10_atPlaceOf_44 : decode cX10_atPlaceOf 44 = .ok (.goto (-40), 3) := by decide +kernel
theorem dX10_atPlaceOf_47 : decode cX10_atPlaceOf 47 = .ok (.iload_n 2, 1) := by decide +kernel
theorem dX10_atPlaceOf_48 : decode cX10_atPlaceOf 48 = .ok (.ireturn, 1) := by decide +kernel
theorem dX10_policy_0 : decode cX10_policy 0 = .ok (.aload_n 0, 1) := by decide +kernel
theorem dX10_policy_1 : decode cX10_policy 1 = .ok (.iconst 0, 1) := by decide +kernel
theorem dX10_policy_2 : decode cX10_policy 2 = .ok (.putfield 70, 3) := by decide +kernel
theorem dX10_policy_5 : decode cX10_policy 5 = .ok (.aload_n 0, 1) := by decide +kernel
theorem dX10_policy_6 : decode cX10_policy 6 = .ok (.iload_n 1, 1) := by decide +kernel
theorem dX10_policy_7 : decode cX10_policy 7 = .ok (.invokevirtual 266, 3) := by decide +kernel
theorem dX10_policy_10 : decode cX10_policy 10 = .ok (.ifCond .ne 10, 3) := by decide +kernel
theorem dX10_policy_13 : decode cX10_policy 13 = .ok (.aload_n 0, 1) := by decide +kernel
theorem dX10_policy_14 : decode cX10_policy 14 = .ok (.iconst 1, 1) := by decide +kernel
theorem dX10_policy_15 : decode cX10_policy 15 = .ok (.putfield 70, 3) := by decide +kernel
theorem dX10_policy_18 : decode cX10_policy 18 = .ok (.iconst 0, 1) := by decide +kernel
theorem dX10_policy_19 : decode cX10_policy 19 = .ok (.ireturn, 1) := by decide +kernel
theorem dX10_policy_20 : decode cX10_policy 20 = .ok (.iload_n 2, 1) := by decide +kernel
theorem dX10_policy_21 : decode cX10_policy 21 = .ok (.tableswitch 69 0 4 #[35, 42, 49, 56, 63], 35) := by decide +kernel
theorem dX10_policy_56 : decode cX10_policy 56 = .ok (.aload_n 0, 1) := by decide +kernel
theorem dX10_policy_57 : decode cX10_policy 57 = .ok (.getfield 23, 3) := by decide +kernel
theorem dX10_policy_60 : decode cX10_policy 60 = .ok (.iload_n 1, 1) := by decide +kernel
theorem dX10_policy_61 : decode cX10_policy 61 = .ok (.iaload, 1) := by decide +kernel
theorem dX10_policy_62 : decode cX10_policy 62 = .ok (.ireturn, 1) := by decide +kernel
theorem dX10_policy_63 : decode cX10_policy 63 = .ok (.aload_n 0, 1) := by decide +kernel
theorem dX10_policy_64 : decode cX10_policy 64 = .ok (.getfield 26, 3) := by decide +kernel
theorem dX10_policy_67 : decode cX10_policy 67 = .ok (.iload_n 1, 1) := by decide +kernel
theorem dX10_policy_68 : decode cX10_policy 68 = .ok (.iaload, 1) := by decide +kernel
theorem dX10_policy_69 : decode cX10_policy 69 = .ok (.ireturn, 1) := by decide +kernel
theorem dX10_policy_70 : decode cX10_policy 70 = .ok (.aload_n 0, 1) := by decide +kernel
theorem dX10_policy_71 : decode cX10_policy 71 = .ok (.getfield 29, 3) := by decide +kernel
theorem dX10_policy_74 : decode cX10_policy 74 = .ok (.iload_n 1, 1) := by decide +kernel
theorem dX10_policy_75 : decode cX10_policy 75 = .ok (.iaload, 1) := by decide +kernel
theorem dX10_policy_76 : decode cX10_policy 76 = .ok (.ireturn, 1) := by decide +kernel
theorem dX10_policy_77 : decode cX10_policy 77 = .ok (.aload_n 0, 1) := by decide +kernel
theorem dX10_policy_78 : decode cX10_policy 78 = .ok (.getfield 32, 3) := by decide +kernel
theorem dX10_policy_81 : decode cX10_policy 81 = .ok (.iload_n 1, 1) := by decide +kernel
theorem dX10_policy_82 : decode cX10_policy 82 = .ok (.iaload, 1) := by decide +kernel
theorem dX10_policy_83 : decode cX10_policy 83 = .ok (.ireturn, 1) := by decide +kernel
theorem dX10_policy_84 : decode cX10_policy 84 = .ok (.aload_n 0, 1) := by decide +kernel
theorem dX10_policy_85 : decode cX10_policy 85 = .ok (.iload_n 1, 1) := by decide +kernel
theorem dX10_policy_86 : decode cX10_policy 86 = .ok (.invokevirtual 278, 3) := by decide +kernel
theorem dX10_policy_89 : decode cX10_policy 89 = .ok (.ireturn, 1) := by decide +kernel
theorem dX10_policy_90 : decode cX10_policy 90 = .ok (.aload_n 0, 1) := by decide +kernel
theorem dX10_policy_91 : decode cX10_policy 91 = .ok (.iconst 2, 1) := by decide +kernel
theorem dX10_policy_92 : decode cX10_policy 92 = .ok (.putfield 70, 3) := by decide +kernel
theorem dX10_policy_95 : decode cX10_policy 95 = .ok (.iconst 0, 1) := by decide +kernel
theorem dX10_policy_96 : decode cX10_policy 96 = .ok (.ireturn, 1) := by decide +kernel
theorem dX10_bits_0 : decode cX10_bits 0 = .ok (.iconst 0, 1) := by decide +kernel
theorem dX10_bits_1 : decode cX10_bits 1 = .ok (.istore_n 1, 1) := by decide +kernel
theorem dX10_bits_2 : decode cX10_bits 2 = .ok (.iconst 0, 1) := by decide +kernel
theorem dX10_bits_3 : decode cX10_bits 3 = .ok (.istore_n 2, 1) := by decide +kernel
theorem dX10_bits_4 : decode cX10_bits 4 = .ok (.iload_n 2, 1) := by decide +kernel
theorem dX10_bits_5 : decode cX10_bits 5 = .ok (.bipush 24, 2) := by decide +kernel
theorem dX10_bits_7 : decode cX10_bits 7 = .ok (.if_icmp .gt 17, 3) := by decide +kernel
theorem dX10_bits_10 : decode cX10_bits 10 = .ok (.iload_n 1, 1) := by decide +kernel
theorem dX10_bits_11 : decode cX10_bits 11 = .ok (.iload_n 0, 1) := by decide +kernel
theorem dX10_bits_12 : decode cX10_bits 12 = .ok (.iload_n 2, 1) := by decide +kernel
theorem dX10_bits_13 : decode cX10_bits 13 = .ok (.ishr, 1) := by decide +kernel
theorem dX10_bits_14 : decode cX10_bits 14 = .ok (.iconst 1, 1) := by decide +kernel
theorem dX10_bits_15 : decode cX10_bits 15 = .ok (.iand, 1) := by decide +kernel
theorem dX10_bits_16 : decode cX10_bits 16 = .ok (.iadd, 1) := by decide +kernel
theorem dX10_bits_17 : decode cX10_bits 17 = .ok (.istore_n 1, 1) := by decide +kernel
theorem dX10_bits_18 : decode cX10_bits 18 = .ok (.iinc 2 1, 3) := by decide +kernel
theorem dX10_bits_21 : decode cX10_bits 21 = .ok (.goto (-17), 3) := by decide +kernel
theorem dX10_bits_24 : decode cX10_bits 24 = .ok (.iload_n 1, 1) := by decide +kernel
theorem dX10_bits_25 : decode cX10_bits 25 = .ok (.ireturn, 1) := by decide +kernel
theorem dX10_its_0 : decode cX10_its 0 = .ok (.aload_n 0, 1) := by decide +kernel
theorem dX10_its_1 : decode cX10_its 1 = .ok (.iconst 0, 1) := by decide +kernel
theorem dX10_its_2 : decode cX10_its 2 = .ok (.putfield 70, 3) := by decide +kernel
theorem dX10_its_5 : decode cX10_its 5 = .ok (.aload_n 0, 1) := by decide +kernel
theorem dX10_its_6 : decode cX10_its 6 = .ok (.iload_n 1, 1) := by decide +kernel
theorem dX10_its_7 : decode cX10_its 7 = .ok (.invokevirtual 275, 3) := by decide +kernel
theorem dX10_its_10 : decode cX10_its 10 = .ok (.ifCond .ne 5, 3) := by decide +kernel
theorem dX10_its_13 : decode cX10_its 13 = .ok (.iconst (-1), 1) := by decide +kernel
theorem dX10_its_14 : decode cX10_its 14 = .ok (.ireturn, 1) := by decide +kernel
theorem dX10_its_15 : decode cX10_its 15 = .ok (.iload_n 2, 1) := by decide +kernel
theorem dX10_its_16 : decode cX10_its 16 = .ok (.tableswitch 116 0 7 #[48, 55, 62, 69, 78, 88, 102, 109], 48) := by decide +kernel
theorem dX10_its_64 : decode cX10_its 64 = .ok (.aload_n 0, 1) := by decide +kernel
theorem dX10_its_65 : decode cX10_its 65 = .ok (.getfield 39, 3) := by decide +kernel
theorem dX10_its_68 : decode cX10_its 68 = .ok (.iload_n 1, 1) := by decide +kernel
theorem dX10_its_69 : decode cX10_its 69 = .ok (.iaload, 1) := by decide +kernel
theorem dX10_its_70 : decode cX10_its 70 = .ok (.ireturn, 1) := by decide +kernel
theorem dX10_its_71 : decode cX10_its 71 = .ok (.aload_n 0, 1) := by decide +kernel
theorem dX10_its_72 : decode cX10_its 72 = .ok (.getfield 42, 3) := by decide +kernel
theorem dX10_its_75 : decode cX10_its 75 = .ok (.iload_n 1, 1) := by decide +kernel
theorem dX10_its_76 : decode cX10_its 76 = .ok (.iaload, 1) := by decide +kernel
theorem dX10_its_77 : decode cX10_its 77 = .ok (.ireturn, 1) := by decide +kernel
theorem dX10_its_78 : decode cX10_its 78 = .ok (.aload_n 0, 1) := by decide +kernel
theorem dX10_its_79 : decode cX10_its 79 = .ok (.getfield 45, 3) := by decide +kernel
theorem dX10_its_82 : decode cX10_its 82 = .ok (.iload_n 1, 1) := by decide +kernel
theorem dX10_its_83 : decode cX10_its 83 = .ok (.iaload, 1) := by decide +kernel
theorem dX10_its_84 : decode cX10_its 84 = .ok (.ireturn, 1) := by decide +kernel
theorem dX10_its_85 : decode cX10_its 85 = .ok (.aload_n 0, 1) := by decide +kernel
theorem dX10_its_86 : decode cX10_its 86 = .ok (.iload_n 1, 1) := by decide +kernel
theorem dX10_its_87 : decode cX10_its 87 = .ok (.invokevirtual 237, 3) := by decide +kernel
theorem dX10_its_90 : decode cX10_its 90 = .ok (.invokestatic 281, 3) := by decide +kernel
theorem dX10_its_93 : decode cX10_its 93 = .ok (.ireturn, 1) := by decide +kernel
theorem dX10_its_94 : decode cX10_its 94 = .ok (.aload_n 0, 1) := by decide +kernel
theorem dX10_its_95 : decode cX10_its 95 = .ok (.aload_n 0, 1) := by decide +kernel
theorem dX10_its_96 : decode cX10_its 96 = .ok (.iload_n 1, 1) := by decide +kernel
theorem dX10_its_97 : decode cX10_its 97 = .ok (.invokevirtual 237, 3) := by decide +kernel
theorem dX10_its_100 : decode cX10_its 100 = .ok (.invokevirtual 284, 3) := by decide +kernel
theorem dX10_its_103 : decode cX10_its 103 = .ok (.ireturn, 1) := by decide +kernel
theorem dX10_its_104 : decode cX10_its 104 = .ok (.aload_n 0, 1) := by decide +kernel
theorem dX10_its_105 : decode cX10_its 105 = .ok (.iload_n 1, 1) := by decide +kernel
theorem dX10_its_106 : decode cX10_its 106 = .ok (.invokevirtual 247, 3) := by decide +kernel
theorem dX10_its_109 : decode cX10_its 109 = .ok (.ifCond .eq 7, 3) := by decide +kernel
theorem dX10_its_112 : decode cX10_its 112 = .ok (.iconst 1, 1) := by decide +kernel
theorem dX10_its_113 : decode cX10_its 113 = .ok (.goto 4, 3) := by decide +kernel
theorem dX10_its_116 : decode cX10_its 116 = .ok (.iconst 0, 1) := by decide +kernel
theorem dX10_its_117 : decode cX10_its 117 = .ok (.ireturn, 1) := by decide +kernel
theorem dX10_its_118 : decode cX10_its 118 = .ok (.aload_n 0, 1) := by decide +kernel
theorem dX10_its_119 : decode cX10_its 119 = .ok (.getfield 48, 3) := by decide +kernel
theorem dX10_its_122 : decode cX10_its 122 = .ok (.iload_n 1, 1) := by decide +kernel
theorem dX10_its_123 : decode cX10_its 123 = .ok (.iaload, 1) := by decide +kernel
theorem dX10_its_124 : decode cX10_its 124 = .ok (.ireturn, 1) := by decide +kernel
theorem dX10_its_125 : decode cX10_its 125 = .ok (.aload_n 0, 1) := by decide +kernel
theorem dX10_its_126 : decode cX10_its 126 = .ok (.getfield 51, 3) := by decide +kernel
theorem dX10_its_129 : decode cX10_its 129 = .ok (.iload_n 1, 1) := by decide +kernel
theorem dX10_its_130 : decode cX10_its 130 = .ok (.iaload, 1) := by decide +kernel
theorem dX10_its_131 : decode cX10_its 131 = .ok (.ireturn, 1) := by decide +kernel
theorem dX10_its_132 : decode cX10_its 132 = .ok (.iconst (-1), 1) := by decide +kernel
theorem dX10_its_133 : decode cX10_its 133 = .ok (.ireturn, 1) := by decide +kernel
theorem dX10_worst_0 : decode cX10_worst 0 = .ok (.aload_n 0, 1) := by decide +kernel
theorem dX10_worst_1 : decode cX10_worst 1 = .ok (.iconst 0, 1) := by decide +kernel
theorem dX10_worst_2 : decode cX10_worst 2 = .ok (.putfield 70, 3) := by decide +kernel
theorem dX10_worst_5 : decode cX10_worst 5 = .ok (.aload_n 0, 1) := by decide +kernel
theorem dX10_worst_6 : decode cX10_worst 6 = .ok (.iload_n 1, 1) := by decide +kernel
theorem dX10_worst_7 : decode cX10_worst 7 = .ok (.invokevirtual 275, 3) := by decide +kernel
theorem dX10_worst_10 : decode cX10_worst 10 = .ok (.ifCond .eq 12, 3) := by decide +kernel
theorem dX10_worst_13 : decode cX10_worst 13 = .ok (.iload_n 2, 1) := by decide +kernel
theorem dX10_worst_14 : decode cX10_worst 14 = .ok (.ifCond .lt 8, 3) := by decide +kernel
theorem dX10_worst_17 : decode cX10_worst 17 = .ok (.iload_n 2, 1) := by decide +kernel
theorem dX10_worst_18 : decode cX10_worst 18 = .ok (.iconst 2, 1) := by decide +kernel
theorem dX10_worst_19 : decode cX10_worst 19 = .ok (.if_icmp .le 7, 3) := by decide +kernel
theorem dX10_worst_22 : decode cX10_worst 22 = .ok (.ldc_w 287, 3) := by decide +kernel
theorem dX10_worst_25 : decode cX10_worst 25 = .ok (.ireturn, 1) := by decide +kernel
theorem dX10_worst_26 : decode cX10_worst 26 = .ok (.aload_n 0, 1) := by decide +kernel
theorem dX10_worst_27 : decode cX10_worst 27 = .ok (.iload_n 1, 1) := by decide +kernel
theorem dX10_worst_28 : decode cX10_worst 28 = .ok (.invokevirtual 244, 3) := by decide +kernel
theorem dX10_worst_31 : decode cX10_worst 31 = .ok (.istore_n 3, 1) := by decide +kernel
theorem dX10_worst_32 : decode cX10_worst 32 = .ok (.iload_n 2, 1) := by decide +kernel
theorem dX10_worst_33 : decode cX10_worst 33 = .ok (.ifCond .ne 7, 3) := by decide +kernel
theorem dX10_worst_36 : decode cX10_worst 36 = .ok (.iload_n 3, 1) := by decide +kernel
theorem dX10_worst_37 : decode cX10_worst 37 = .ok (.goto 26, 3) := by decide +kernel
theorem dX10_worst_40 : decode cX10_worst 40 = .ok (.iload_n 2, 1) := by decide +kernel
theorem dX10_worst_41 : decode cX10_worst 41 = .ok (.iconst 1, 1) := by decide +kernel
theorem dX10_worst_42 : decode cX10_worst 42 = .ok (.if_icmp .ne 13, 3) := by decide +kernel
theorem dX10_worst_45 : decode cX10_worst 45 = .ok (.aload_n 0, 1) := by decide +kernel
theorem dX10_worst_46 : decode cX10_worst 46 = .ok (.getfield 217, 3) := by decide +kernel
theorem dX10_worst_49 : decode cX10_worst 49 = .ok (.invokestatic 281, 3) := by decide +kernel
theorem dX10_worst_52 : decode cX10_worst 52 = .ok (.goto 11, 3) := by decide +kernel
theorem dX10_worst_55 : decode cX10_worst 55 = .ok (.aload_n 0, 1) := by decide +kernel
theorem dX10_worst_56 : decode cX10_worst 56 = .ok (.getfield 45, 3) := by decide +kernel
theorem dX10_worst_59 : decode cX10_worst 59 = .ok (.iload_n 1, 1) := by decide +kernel
theorem dX10_worst_60 : decode cX10_worst 60 = .ok (.iaload, 1) := by decide +kernel
theorem dX10_worst_61 : decode cX10_worst 61 = .ok (.iload_n 3, 1) := by decide +kernel
theorem dX10_worst_62 : decode cX10_worst 62 = .ok (.isub, 1) := by decide +kernel
theorem dX10_worst_63 : decode cX10_worst 63 = .ok (.ireturn, 1) := by decide +kernel
theorem dX10_inWorst_0 : decode cX10_inWorst 0 = .ok (.aload_n 0, 1) := by decide +kernel
theorem dX10_inWorst_1 : decode cX10_inWorst 1 = .ok (.iconst 0, 1) := by decide +kernel
theorem dX10_inWorst_2 : decode cX10_inWorst 2 = .ok (.putfield 70, 3) := by decide +kernel
theorem dX10_inWorst_5 : decode cX10_inWorst 5 = .ok (.aload_n 0, 1) := by decide +kernel
theorem dX10_inWorst_6 : decode cX10_inWorst 6 = .ok (.iload_n 1, 1) := by decide +kernel
theorem dX10_inWorst_7 : decode cX10_inWorst 7 = .ok (.invokevirtual 275, 3) := by decide +kernel
theorem dX10_inWorst_10 : decode cX10_inWorst 10 = .ok (.ifCond .eq 7, 3) := by decide +kernel
theorem dX10_inWorst_13 : decode cX10_inWorst 13 = .ok (.iload_n 2, 1) := by decide +kernel
theorem dX10_inWorst_14 : decode cX10_inWorst 14 = .ok (.ifCond .ge 5, 3) := by decide +kernel
theorem dX10_inWorst_17 : decode cX10_inWorst 17 = .ok (.iconst (-1), 1) := by decide +kernel
theorem dX10_inWorst_18 : decode cX10_inWorst 18 = .ok (.ireturn, 1) := by decide +kernel
theorem dX10_inWorst_19 : decode cX10_inWorst 19 = .ok (.aload_n 0, 1) := by decide +kernel
theorem dX10_inWorst_20 : decode cX10_inWorst 20 = .ok (.iload_n 1, 1) := by decide +kernel
theorem dX10_inWorst_21 : decode cX10_inWorst 21 = .ok (.invokevirtual 244, 3) := by decide +kernel
theorem dX10_inWorst_24 : decode cX10_inWorst 24 = .ok (.pop, 1) := by decide +kernel
theorem dX10_inWorst_25 : decode cX10_inWorst 25 = .ok (.iload_n 2, 1) := by decide +kernel
theorem dX10_inWorst_26 : decode cX10_inWorst 26 = .ok (.istore_n 3, 1) := by decide +kernel
theorem dX10_inWorst_27 : decode cX10_inWorst 27 = .ok (.iconst 0, 1) := by decide +kernel
theorem dX10_inWorst_28 : decode cX10_inWorst 28 = .ok (.istore 4, 2) := by decide +kernel
theorem dX10_inWorst_30 : decode cX10_inWorst 30 = .ok (.iload 4, 2) := by decide +kernel
theorem dX10_inWorst_32 : decode cX10_inWorst 32 = .ok (.bipush 24, 2) := by decide +kernel
theorem dX10_inWorst_34 : decode cX10_inWorst 34 = .ok (.if_icmp .ge 34, 3) := by decide +kernel
theorem dX10_inWorst_37 : decode cX10_inWorst 37 = .ok (.aload_n 0, 1) := by decide +kernel
theorem dX10_inWorst_38 : decode cX10_inWorst 38 = .ok (.getfield 217, 3) := by decide +kernel
theorem dX10_inWorst_41 : decode cX10_inWorst 41 = .ok (.iload 4, 2) := by decide +kernel
theorem dX10_inWorst_43 : decode cX10_inWorst 43 = .ok (.invokestatic 192, 3) := by decide +kernel
theorem dX10_inWorst_46 : decode cX10_inWorst 46 = .ok (.ifCond .ne 6, 3) := by decide +kernel
theorem dX10_inWorst_49 : decode cX10_inWorst 49 = .ok (.goto 13, 3) := by decide +kernel
theorem dX10_inWorst_52 : decode cX10_inWorst 52 = .ok (.iload_n 3, 1) := by decide +kernel
theorem dX10_inWorst_53 : decode cX10_inWorst 53 = .ok (.ifCond .ne 6, 3) := by decide +kernel
theorem dX10_inWorst_56 : decode cX10_inWorst 56 = .ok (.iload 4, 2) := by decide +kernel
theorem dX10_inWorst_58 : decode cX10_inWorst 58 = .ok (.ireturn, 1) := by decide +kernel
theorem dX10_inWorst_59 : decode cX10_inWorst 59 = .ok (.iinc 3 (-1), 3) := by decide +kernel
theorem dX10_inWorst_62 : decode cX10_inWorst 62 = .ok (.iinc 4 1, 3) := by decide +kernel
theorem dX10_inWorst_65 : decode cX10_inWorst 65 = .ok (.goto (-35), 3) := by decide +kernel
theorem dX10_inWorst_68 : decode cX10_inWorst 68 = .ok (.bipush (-2), 2) := by decide +kernel
theorem dX10_inWorst_70 : decode cX10_inWorst 70 = .ok (.ireturn, 1) := by decide +kernel
theorem dX10_boundOf_0 : decode cX10_boundOf 0 = .ok (.iconst 0, 1) := by decide +kernel
theorem dX10_boundOf_1 : decode cX10_boundOf 1 = .ok (.istore 5, 2) := by decide +kernel
theorem dX10_boundOf_3 : decode cX10_boundOf 3 = .ok (.iload 5, 2) := by decide +kernel
theorem dX10_boundOf_5 : decode cX10_boundOf 5 = .ok (.bipush 24, 2) := by decide +kernel
theorem dX10_boundOf_7 : decode cX10_boundOf 7 = .ok (.if_icmp .ge 53, 3) := by decide +kernel
theorem dX10_boundOf_10 : decode cX10_boundOf 10 = .ok (.iload_n 2, 1) := by decide +kernel
theorem dX10_boundOf_11 : decode cX10_boundOf 11 = .ok (.iload 5, 2) := by decide +kernel
theorem dX10_boundOf_13 : decode cX10_boundOf 13 = .ok (.invokestatic 192, 3) := by decide +kernel
theorem dX10_boundOf_16 : decode cX10_boundOf 16 = .ok (.ifCond .eq 38, 3) := by decide +kernel
theorem dX10_boundOf_19 : decode cX10_boundOf 19 = .ok (.aload_n 0, 1) := by decide +kernel
theorem dX10_boundOf_20 : decode cX10_boundOf 20 = .ok (.iload 5, 2) := by decide +kernel
theorem dX10_boundOf_22 : decode cX10_boundOf 22 = .ok (.iload_n 1, 1) := by decide +kernel
theorem dX10_boundOf_23 : decode cX10_boundOf 23 = .ok (.iload_n 3, 1) := by decide +kernel
theorem dX10_boundOf_24 : decode cX10_boundOf 24 = .ok (.invokevirtual 221, 3) := by decide +kernel
theorem dX10_boundOf_27 : decode cX10_boundOf 27 = .ok (.iload_n 2, 1) := by decide +kernel
theorem dX10_boundOf_28 : decode cX10_boundOf 28 = .ok (.if_icmp .ne 26, 3) := by decide +kernel
theorem dX10_boundOf_31 : decode cX10_boundOf 31 = .ok (.iload 4, 2) := by decide +kernel
theorem dX10_boundOf_33 : decode cX10_boundOf 33 = .ok (.ifCond .ne 8, 3) := by decide +kernel
theorem dX10_boundOf_36 : decode cX10_boundOf 36 = .ok (.iload 5, 2) := by decide +kernel
theorem dX10_boundOf_38 : decode cX10_boundOf 38 = .ok (.goto 15, 3) := by decide +kernel
theorem dX10_boundOf_41 : decode cX10_boundOf 41 = .ok (.iload 4, 2) := by decide +kernel
theorem dX10_boundOf_43 : decode cX10_boundOf 43 = .ok (.iconst 1, 1) := by decide +kernel
theorem dX10_boundOf_44 : decode cX10_boundOf 44 = .ok (.if_icmp .ne 8, 3) := by decide +kernel
theorem dX10_boundOf_47 : decode cX10_boundOf 47 = .ok (.bipush (-2), 2) := by decide +kernel
theorem dX10_boundOf_49 : decode cX10_boundOf 49 = .ok (.goto 4, 3) := by decide +kernel
theorem dX10_boundOf_52 : decode cX10_boundOf 52 = .ok (.iconst 0, 1) := by decide +kernel
theorem dX10_boundOf_53 : decode cX10_boundOf 53 = .ok (.ireturn, 1) := by decide +kernel
theorem dX10_boundOf_54 : decode cX10_boundOf 54 = .ok (.iinc 5 1, 3) := by decide +kernel
theorem dX10_boundOf_57 : decode cX10_boundOf 57 = .ok (.goto (-54), 3) := by decide +kernel
theorem dX10_boundOf_60 : decode cX10_boundOf 60 = .ok (.iconst 0, 1) := by decide +kernel
theorem dX10_boundOf_61 : decode cX10_boundOf 61 = .ok (.istore 5, 2) := by decide +kernel
theorem dX10_boundOf_63 : decode cX10_boundOf 63 = .ok (.iload 5, 2) := by decide +kernel
theorem dX10_boundOf_65 : decode cX10_boundOf 65 = .ok (.bipush 24, 2) := by decide +kernel
theorem dX10_boundOf_67 : decode cX10_boundOf 67 = .ok (.if_icmp .ge 116, 3) := by decide +kernel
theorem dX10_boundOf_70 : decode cX10_boundOf 70 = .ok (.iload 5, 2) := by decide +kernel
theorem dX10_boundOf_72 : decode cX10_boundOf 72 = .ok (.iconst 1, 1) := by decide +kernel
theorem dX10_boundOf_73 : decode cX10_boundOf 73 = .ok (.iadd, 1) := by decide +kernel
theorem dX10_boundOf_74 : decode cX10_boundOf 74 = .ok (.istore 6, 2) := by decide +kernel
theorem dX10_boundOf_76 : decode cX10_boundOf 76 = .ok (.iload 6, 2) := by decide +kernel
theorem dX10_boundOf_78 : decode cX10_boundOf 78 = .ok (.bipush 24, 2) := by decide +kernel
theorem dX10_boundOf_80 : decode cX10_boundOf 80 = .ok (.if_icmp .ge 97, 3) := by decide +kernel
theorem dX10_boundOf_83 : decode cX10_boundOf 83 = .ok (.iload_n 2, 1) := by decide +kernel
theorem dX10_boundOf_84 : decode cX10_boundOf 84 = .ok (.iload 5, 2) := by decide +kernel
theorem dX10_boundOf_86 : decode cX10_boundOf 86 = .ok (.invokestatic 192, 3) := by decide +kernel
theorem dX10_boundOf_89 : decode cX10_boundOf 89 = .ok (.ifCond .eq 82, 3) := by decide +kernel
theorem dX10_boundOf_92 : decode cX10_boundOf 92 = .ok (.iload_n 2, 1) := by decide +kernel
theorem dX10_boundOf_93 : decode cX10_boundOf 93 = .ok (.iload 6, 2) := by decide +kernel
theorem dX10_boundOf_95 : decode cX10_boundOf 95 = .ok (.invokestatic 192, 3) := by decide +kernel
theorem dX10_boundOf_98 : decode cX10_boundOf 98 = .ok (.ifCond .eq 73, 3) := by decide +kernel
theorem dX10_boundOf_101 : decode cX10_boundOf 101 = .ok (.aload_n 0, 1) := by decide +kernel
theorem dX10_boundOf_102 : decode cX10_boundOf 102 = .ok (.iload 5, 2) := by decide +kernel
theorem dX10_boundOf_104 : decode cX10_boundOf 104 = .ok (.iload 6, 2) := by decide +kernel
theorem dX10_boundOf_106 : decode cX10_boundOf 106 = .ok (.iload_n 3, 1) := by decide +kernel
theorem dX10_boundOf_107 : decode cX10_boundOf 107 = .ok (.invokevirtual 229, 3) := by decide +kernel
theorem dX10_boundOf_110 : decode cX10_boundOf 110 = .ok (.ifCond .ne 6, 3) := by decide +kernel
theorem dX10_boundOf_113 : decode cX10_boundOf 113 = .ok (.goto 58, 3) := by decide +kernel
theorem dX10_boundOf_116 : decode cX10_boundOf 116 = .ok (.iconst 0, 1) := by decide +kernel
theorem dX10_boundOf_117 : decode cX10_boundOf 117 = .ok (.istore 7, 2) := by decide +kernel
theorem dX10_boundOf_119 : decode cX10_boundOf 119 = .ok (.iload 7, 2) := by decide +kernel
theorem dX10_boundOf_121 : decode cX10_boundOf 121 = .ok (.iconst 2, 1) := by decide +kernel
theorem dX10_boundOf_122 : decode cX10_boundOf 122 = .ok (.if_icmp .ge 49, 3) := by decide +kernel
theorem dX10_boundOf_125 : decode cX10_boundOf 125 = .ok (.aload_n 0, 1) := by decide +kernel
theorem dX10_boundOf_126 : decode cX10_boundOf 126 = .ok (.iload 5, 2) := by decide +kernel
theorem dX10_boundOf_128 : decode cX10_boundOf 128 = .ok (.iload 6, 2) := by decide +kernel
theorem dX10_boundOf_130 : decode cX10_boundOf 130 = .ok (.iload 7, 2) := by decide +kernel
theorem dX10_boundOf_132 : decode cX10_boundOf 132 = .ok (.iload_n 1, 1) := by decide +kernel
theorem dX10_boundOf_133 : decode cX10_boundOf 133 = .ok (.iload_n 3, 1) := by decide +kernel
theorem dX10_boundOf_134 : decode cX10_boundOf 134 = .ok (.invokevirtual 233, 3) := by decide +kernel
theorem dX10_boundOf_137 : decode cX10_boundOf 137 = .ok (.iload_n 2, 1) := by decide +kernel
theorem dX10_boundOf_138 : decode cX10_boundOf 138 = .ok (.if_icmp .ne 27, 3) := by decide +kernel
theorem dX10_boundOf_141 : decode cX10_boundOf 141 = .ok (.iload 4, 2) := by decide +kernel
theorem dX10_boundOf_143 : decode cX10_boundOf 143 = .ok (.ifCond .ne 8, 3) := by decide +kernel
theorem dX10_boundOf_146 : decode cX10_boundOf 146 = .ok (.iload 5, 2) := by decide +kernel
theorem dX10_boundOf_148 : decode cX10_boundOf 148 = .ok (.goto 16, 3) := by decide +kernel
theorem dX10_boundOf_151 : decode cX10_boundOf 151 = .ok (.iload 4, 2) := by decide +kernel
theorem dX10_boundOf_153 : decode cX10_boundOf 153 = .ok (.iconst 1, 1) := by decide +kernel
theorem dX10_boundOf_154 : decode cX10_boundOf 154 = .ok (.if_icmp .ne 8, 3) := by decide +kernel
theorem dX10_boundOf_157 : decode cX10_boundOf 157 = .ok (.iload 6, 2) := by decide +kernel
theorem dX10_boundOf_159 : decode cX10_boundOf 159 = .ok (.goto 5, 3) := by decide +kernel
theorem dX10_boundOf_162 : decode cX10_boundOf 162 = .ok (.iload 7, 2) := by decide +kernel
theorem dX10_boundOf_164 : decode cX10_boundOf 164 = .ok (.ireturn, 1) := by decide +kernel
theorem dX10_boundOf_165 : decode cX10_boundOf 165 = .ok (.iinc 7 1, 3) := by decide +kernel
theorem dX10_boundOf_168 : decode cX10_boundOf 168 = .ok (.goto (-49), 3) := by decide +kernel
theorem dX10_boundOf_171 : decode cX10_boundOf 171 = .ok (.iinc 6 1, 3) := by decide +kernel
theorem dX10_boundOf_174 : decode cX10_boundOf 174 = .ok (.goto (-98), 3) := by decide +kernel
theorem dX10_boundOf_177 : decode cX10_boundOf 177 = .ok (.iinc 5 1, 3) := by decide +kernel
theorem dX10_boundOf_180 : decode cX10_boundOf 180 = .ok (.goto (-117), 3) := by decide +kernel
theorem dX10_boundOf_183 : decode cX10_boundOf 183 = .ok (.bipush (-2), 2) := by decide +kernel
theorem dX10_boundOf_185 : decode cX10_boundOf 185 = .ok (.ireturn, 1) := by decide +kernel
theorem dX10_bound_0 : decode cX10_bound 0 = .ok (.aload_n 0, 1) := by decide +kernel
theorem dX10_bound_1 : decode cX10_bound 1 = .ok (.iconst 0, 1) := by decide +kernel
theorem dX10_bound_2 : decode cX10_bound 2 = .ok (.putfield 70, 3) := by decide +kernel
theorem dX10_bound_5 : decode cX10_bound 5 = .ok (.aload_n 0, 1) := by decide +kernel
theorem dX10_bound_6 : decode cX10_bound 6 = .ok (.iload_n 1, 1) := by decide +kernel
theorem dX10_bound_7 : decode cX10_bound 7 = .ok (.invokevirtual 275, 3) := by decide +kernel
theorem dX10_bound_10 : decode cX10_bound 10 = .ok (.ifCond .eq 12, 3) := by decide +kernel
theorem dX10_bound_13 : decode cX10_bound 13 = .ok (.iload_n 2, 1) := by decide +kernel
theorem dX10_bound_14 : decode cX10_bound 14 = .ok (.ifCond .lt 8, 3) := by decide +kernel
theorem dX10_bound_17 : decode cX10_bound 17 = .ok (.iload_n 2, 1) := by decide +kernel
theorem dX10_bound_18 : decode cX10_bound 18 = .ok (.iconst 2, 1) := by decide +kernel
theorem dX10_bound_19 : decode cX10_bound 19 = .ok (.if_icmp .le 5, 3) := by decide +kernel
theorem dX10_bound_22 : decode cX10_bound 22 = .ok (.iconst (-1), 1) := by decide +kernel
theorem dX10_bound_23 : decode cX10_bound 23 = .ok (.ireturn, 1) := by decide +kernel
theorem dX10_bound_24 : decode cX10_bound 24 = .ok (.aload_n 0, 1) := by decide +kernel
theorem dX10_bound_25 : decode cX10_bound 25 = .ok (.iload_n 1, 1) := by decide +kernel
theorem dX10_bound_26 : decode cX10_bound 26 = .ok (.invokevirtual 244, 3) := by decide +kernel
theorem dX10_bound_29 : decode cX10_bound 29 = .ok (.pop, 1) := by decide +kernel
theorem dX10_bound_30 : decode cX10_bound 30 = .ok (.aload_n 0, 1) := by decide +kernel
theorem dX10_bound_31 : decode cX10_bound 31 = .ok (.getfield 217, 3) := by decide +kernel
theorem dX10_bound_34 : decode cX10_bound 34 = .ok (.ifCond .ne 8, 3) := by decide +kernel
theorem dX10_bound_37 : decode cX10_bound 37 = .ok (.bipush (-2), 2) := by decide +kernel
theorem dX10_bound_39 : decode cX10_bound 39 = .ok (.goto 23, 3) := by decide +kernel
theorem dX10_bound_42 : decode cX10_bound 42 = .ok (.aload_n 0, 1) := by decide +kernel
theorem dX10_bound_43 : decode cX10_bound 43 = .ok (.aload_n 0, 1) := by decide +kernel
theorem dX10_bound_44 : decode cX10_bound 44 = .ok (.iload_n 1, 1) := by decide +kernel
theorem dX10_bound_45 : decode cX10_bound 45 = .ok (.invokevirtual 237, 3) := by decide +kernel
theorem dX10_bound_48 : decode cX10_bound 48 = .ok (.aload_n 0, 1) := by decide +kernel
theorem dX10_bound_49 : decode cX10_bound 49 = .ok (.getfield 217, 3) := by decide +kernel
theorem dX10_bound_52 : decode cX10_bound 52 = .ok (.aload_n 0, 1) := by decide +kernel
theorem dX10_bound_53 : decode cX10_bound 53 = .ok (.getfield 42, 3) := by decide +kernel
theorem dX10_bound_56 : decode cX10_bound 56 = .ok (.iload_n 1, 1) := by decide +kernel
theorem dX10_bound_57 : decode cX10_bound 57 = .ok (.iaload, 1) := by decide +kernel
theorem dX10_bound_58 : decode cX10_bound 58 = .ok (.iload_n 2, 1) := by decide +kernel
theorem dX10_bound_59 : decode cX10_bound 59 = .ok (.invokevirtual 288, 3) := by decide +kernel
theorem dX10_bound_62 : decode cX10_bound 62 = .ok (.ireturn, 1) := by decide +kernel
theorem dX10_spread_0 : decode cX10_spread 0 = .ok (.aload_n 0, 1) := by decide +kernel
theorem dX10_spread_1 : decode cX10_spread 1 = .ok (.iconst 0, 1) := by decide +kernel
theorem dX10_spread_2 : decode cX10_spread 2 = .ok (.putfield 70, 3) := by decide +kernel
theorem dX10_spread_5 : decode cX10_spread 5 = .ok (.aload_n 0, 1) := by decide +kernel
theorem dX10_spread_6 : decode cX10_spread 6 = .ok (.iload_n 1, 1) := by decide +kernel
theorem dX10_spread_7 : decode cX10_spread 7 = .ok (.invokevirtual 275, 3) := by decide +kernel
theorem dX10_spread_10 : decode cX10_spread 10 = .ok (.ifCond .ne 5, 3) := by decide +kernel
theorem dX10_spread_13 : decode cX10_spread 13 = .ok (.iconst (-1), 1) := by decide +kernel
theorem dX10_spread_14 : decode cX10_spread 14 = .ok (.ireturn, 1) := by decide +kernel
theorem dX10_spread_15 : decode cX10_spread 15 = .ok (.aload_n 0, 1) := by decide +kernel
theorem dX10_spread_16 : decode cX10_spread 16 = .ok (.iload_n 1, 1) := by decide +kernel
theorem dX10_spread_17 : decode cX10_spread 17 = .ok (.invokevirtual 244, 3) := by decide +kernel
theorem dX10_spread_20 : decode cX10_spread 20 = .ok (.pop, 1) := by decide +kernel
theorem dX10_spread_21 : decode cX10_spread 21 = .ok (.bipush (-2), 2) := by decide +kernel
theorem dX10_spread_23 : decode cX10_spread 23 = .ok (.istore_n 2, 1) := by decide +kernel
theorem dX10_spread_24 : decode cX10_spread 24 = .ok (.iconst 0, 1) := by decide +kernel
theorem dX10_spread_25 : decode cX10_spread 25 = .ok (.istore_n 3, 1) := by decide +kernel
theorem dX10_spread_26 : decode cX10_spread 26 = .ok (.iload_n 3, 1) := by decide +kernel
theorem dX10_spread_27 : decode cX10_spread 27 = .ok (.bipush 24, 2) := by decide +kernel
theorem dX10_spread_29 : decode cX10_spread 29 = .ok (.if_icmp .ge 67, 3) := by decide +kernel
theorem dX10_spread_32 : decode cX10_spread 32 = .ok (.iload_n 3, 1) := by decide +kernel
theorem dX10_spread_33 : decode cX10_spread 33 = .ok (.istore 4, 2) := by decide +kernel
theorem dX10_spread_35 : decode cX10_spread 35 = .ok (.iload 4, 2) := by decide +kernel
theorem dX10_spread_37 : decode cX10_spread 37 = .ok (.bipush 24, 2) := by decide +kernel
theorem dX10_spread_39 : decode cX10_spread 39 = .ok (.if_icmp .ge 51, 3) := by decide +kernel
theorem dX10_spread_42 : decode cX10_spread 42 = .ok (.aload_n 0, 1) := by decide +kernel
theorem dX10_spread_43 : decode cX10_spread 43 = .ok (.getfield 217, 3) := by decide +kernel
theorem dX10_spread_46 : decode cX10_spread 46 = .ok (.iload_n 3, 1) := by decide +kernel
theorem dX10_spread_47 : decode cX10_spread 47 = .ok (.invokestatic 192, 3) := by decide +kernel
theorem dX10_spread_50 : decode cX10_spread 50 = .ok (.ifCond .eq 34, 3) := by decide +kernel
theorem dX10_spread_53 : decode cX10_spread 53 = .ok (.aload_n 0, 1) := by decide +kernel
theorem dX10_spread_54 : decode cX10_spread 54 = .ok (.getfield 217, 3) := by decide +kernel
theorem dX10_spread_57 : decode cX10_spread 57 = .ok (.iload 4, 2) := by decide +kernel
theorem dX10_spread_59 : decode cX10_spread 59 = .ok (.invokestatic 192, 3) := by decide +kernel
theorem dX10_spread_62 : decode cX10_spread 62 = .ok (.ifCond .eq 22, 3) := by decide +kernel
theorem dX10_spread_65 : decode cX10_spread 65 = .ok (.aload_n 0, 1) := by decide +kernel
theorem dX10_spread_66 : decode cX10_spread 66 = .ok (.iload_n 3, 1) := by decide +kernel
theorem dX10_spread_67 : decode cX10_spread 67 = .ok (.iload 4, 2) := by decide +kernel
theorem dX10_spread_69 : decode cX10_spread 69 = .ok (.invokevirtual 203, 3) := by decide +kernel
theorem dX10_spread_72 : decode cX10_spread 72 = .ok (.iload_n 2, 1) := by decide +kernel
theorem dX10_spread_73 : decode cX10_spread 73 = .ok (.if_icmp .le 11, 3) := by decide +kernel
theorem dX10_spread_76 : decode cX10_spread 76 = .ok (.aload_n 0, 1) := by decide +kernel
theorem dX10_spread_77 : decode cX10_spread 77 = .ok (.iload_n 3, 1) := by decide +kernel
theorem dX10_spread_78 : decode cX10_spread 78 = .ok (.iload 4, 2) := by decide +kernel
theorem dX10_spread_80 : decode cX10_spread 80 = .ok (.invokevirtual 203, 3) := by decide +kernel
theorem dX10_spread_83 : decode cX10_spread 83 = .ok (.istore_n 2, 1) := by decide +kernel
theorem dX10_spread_84 : decode cX10_spread 84 = .ok (.iinc 4 1, 3) := by decide +kernel
theorem dX10_spread_87 : decode cX10_spread 87 = .ok (.goto (-52), 3) := by decide +kernel
theorem dX10_spread_90 : decode cX10_spread 90 = .ok (.iinc 3 1, 3) := by decide +kernel
theorem dX10_spread_93 : decode cX10_spread 93 = .ok (.goto (-67), 3) := by decide +kernel
theorem dX10_spread_96 : decode cX10_spread 96 = .ok (.iload_n 2, 1) := by decide +kernel
theorem dX10_spread_97 : decode cX10_spread 97 = .ok (.ireturn, 1) := by decide +kernel
theorem dX10_common_0 : decode cX10_common 0 = .ok (.lload_n 0, 1) := by decide +kernel
theorem dX10_common_1 : decode cX10_common 1 = .ok (.lstore 4, 2) := by decide +kernel
theorem dX10_common_3 : decode cX10_common 3 = .ok (.lload_n 2, 1) := by decide +kernel
theorem dX10_common_4 : decode cX10_common 4 = .ok (.lstore 6, 2) := by decide +kernel
theorem dX10_common_6 : decode cX10_common 6 = .ok (.lload 6, 2) := by decide +kernel
theorem dX10_common_8 : decode cX10_common 8 = .ok (.lconst 0, 1) := by decide +kernel
theorem dX10_common_9 : decode cX10_common 9 = .ok (.lcmp, 1) := by decide +kernel
theorem dX10_common_10 : decode cX10_common 10 = .ok (.ifCond .eq 21, 3) := by decide +kernel
theorem dX10_common_13 : decode cX10_common 13 = .ok (.lload 4, 2) := by decide +kernel
theorem dX10_common_15 : decode cX10_common 15 = .ok (.lload 6, 2) := by decide +kernel
theorem dX10_common_17 : decode cX10_common 17 = .ok (.lrem, 1) := by decide +kernel
theorem dX10_common_18 : decode cX10_common 18 = .ok (.lstore 8, 2) := by decide +kernel
theorem dX10_common_20 : decode cX10_common 20 = .ok (.lload 6, 2) := by decide +kernel
theorem dX10_common_22 : decode cX10_common 22 = .ok (.lstore 4, 2) := by decide +kernel
theorem dX10_common_24 : decode cX10_common 24 = .ok (.lload 8, 2) := by decide +kernel
theorem dX10_common_26 : decode cX10_common 26 = .ok (.lstore 6, 2) := by decide +kernel
theorem dX10_common_28 : decode cX10_common 28 = .ok (.goto (-22), 3) := by decide +kernel
theorem dX10_common_31 : decode cX10_common 31 = .ok (.lload 4, 2) := by decide +kernel
theorem dX10_common_33 : decode cX10_common 33 = .ok (.lreturn, 1) := by decide +kernel
theorem dX10_turn_0 : decode cX10_turn 0 = .ok (.aload_n 0, 1) := by decide +kernel
theorem dX10_turn_1 : decode cX10_turn 1 = .ok (.getfield 23, 3) := by decide +kernel
theorem dX10_turn_4 : decode cX10_turn 4 = .ok (.iload_n 2, 1) := by decide +kernel
theorem dX10_turn_5 : decode cX10_turn 5 = .ok (.iaload, 1) := by decide +kernel
theorem dX10_turn_6 : decode cX10_turn 6 = .ok (.aload_n 0, 1) := by decide +kernel
theorem dX10_turn_7 : decode cX10_turn 7 = .ok (.getfield 23, 3) := by decide +kernel
theorem dX10_turn_10 : decode cX10_turn 10 = .ok (.iload_n 1, 1) := by decide +kernel
theorem dX10_turn_11 : decode cX10_turn 11 = .ok (.iaload, 1) := by decide +kernel
theorem dX10_turn_12 : decode cX10_turn 12 = .ok (.isub, 1) := by decide +kernel
theorem dX10_turn_13 : decode cX10_turn 13 = .ok (.i2l, 1) := by decide +kernel
theorem dX10_turn_14 : decode cX10_turn 14 = .ok (.aload_n 0, 1) := by decide +kernel
theorem dX10_turn_15 : decode cX10_turn 15 = .ok (.getfield 26, 3) := by decide +kernel
theorem dX10_turn_18 : decode cX10_turn 18 = .ok (.iload_n 3, 1) := by decide +kernel
theorem dX10_turn_19 : decode cX10_turn 19 = .ok (.iaload, 1) := by decide +kernel
theorem dX10_turn_20 : decode cX10_turn 20 = .ok (.aload_n 0, 1) := by decide +kernel
theorem dX10_turn_21 : decode cX10_turn 21 = .ok (.getfield 26, 3) := by decide +kernel
theorem dX10_turn_24 : decode cX10_turn 24 = .ok (.iload_n 1, 1) := by decide +kernel
theorem dX10_turn_25 : decode cX10_turn 25 = .ok (.iaload, 1) := by decide +kernel
theorem dX10_turn_26 : decode cX10_turn 26 = .ok (.isub, 1) := by decide +kernel
theorem dX10_turn_27 : decode cX10_turn 27 = .ok (.i2l, 1) := by decide +kernel
theorem dX10_turn_28 : decode cX10_turn 28 = .ok (.lmul, 1) := by decide +kernel
theorem dX10_turn_29 : decode cX10_turn 29 = .ok (.aload_n 0, 1) := by decide +kernel
theorem dX10_turn_30 : decode cX10_turn 30 = .ok (.getfield 26, 3) := by decide +kernel
theorem dX10_turn_33 : decode cX10_turn 33 = .ok (.iload_n 2, 1) := by decide +kernel
theorem dX10_turn_34 : decode cX10_turn 34 = .ok (.iaload, 1) := by decide +kernel
theorem dX10_turn_35 : decode cX10_turn 35 = .ok (.aload_n 0, 1) := by decide +kernel
theorem dX10_turn_36 : decode cX10_turn 36 = .ok (.getfield 26, 3) := by decide +kernel
theorem dX10_turn_39 : decode cX10_turn 39 = .ok (.iload_n 1, 1) := by decide +kernel
theorem dX10_turn_40 : decode cX10_turn 40 = .ok (.iaload, 1) := by decide +kernel
theorem dX10_turn_41 : decode cX10_turn 41 = .ok (.isub, 1) := by decide +kernel
theorem dX10_turn_42 : decode cX10_turn 42 = .ok (.i2l, 1) := by decide +kernel
theorem dX10_turn_43 : decode cX10_turn 43 = .ok (.aload_n 0, 1) := by decide +kernel
theorem dX10_turn_44 : decode cX10_turn 44 = .ok (.getfield 23, 3) := by decide +kernel
theorem dX10_turn_47 : decode cX10_turn 47 = .ok (.iload_n 3, 1) := by decide +kernel
theorem dX10_turn_48 : decode cX10_turn 48 = .ok (.iaload, 1) := by decide +kernel
theorem dX10_turn_49 : decode cX10_turn 49 = .ok (.aload_n 0, 1) := by decide +kernel
theorem dX10_turn_50 : decode cX10_turn 50 = .ok (.getfield 23, 3) := by decide +kernel
theorem dX10_turn_53 : decode cX10_turn 53 = .ok (.iload_n 1, 1) := by decide +kernel
theorem dX10_turn_54 : decode cX10_turn 54 = .ok (.iaload, 1) := by decide +kernel
theorem dX10_turn_55 : decode cX10_turn 55 = .ok (.isub, 1) := by decide +kernel
theorem dX10_turn_56 : decode cX10_turn 56 = .ok (.i2l, 1) := by decide +kernel
theorem dX10_turn_57 : decode cX10_turn 57 = .ok (.lmul, 1) := by decide +kernel
theorem dX10_turn_58 : decode cX10_turn 58 = .ok (.lsub, 1) := by decide +kernel
theorem dX10_turn_59 : decode cX10_turn 59 = .ok (.lreturn, 1) := by decide +kernel
theorem dX10_isWidth_0 : decode cX10_isWidth 0 = .ok (.iconst 0, 1) := by decide +kernel
theorem dX10_isWidth_1 : decode cX10_isWidth 1 = .ok (.istore 4, 2) := by decide +kernel
theorem dX10_isWidth_3 : decode cX10_isWidth 3 = .ok (.iload 4, 2) := by decide +kernel
theorem dX10_isWidth_5 : decode cX10_isWidth 5 = .ok (.bipush 24, 2) := by decide +kernel
theorem dX10_isWidth_7 : decode cX10_isWidth 7 = .ok (.if_icmp .ge 82, 3) := by decide +kernel
theorem dX10_isWidth_10 : decode cX10_isWidth 10 = .ok (.iload_n 1, 1) := by decide +kernel
theorem dX10_isWidth_11 : decode cX10_isWidth 11 = .ok (.iload 4, 2) := by decide +kernel
theorem dX10_isWidth_13 : decode cX10_isWidth 13 = .ok (.invokestatic 192, 3) := by decide +kernel
theorem dX10_isWidth_16 : decode cX10_isWidth 16 = .ok (.ifCond .eq 67, 3) := by decide +kernel
theorem dX10_isWidth_19 : decode cX10_isWidth 19 = .ok (.aload_n 0, 1) := by decide +kernel
theorem dX10_isWidth_20 : decode cX10_isWidth 20 = .ok (.getfield 23, 3) := by decide +kernel
theorem dX10_isWidth_23 : decode cX10_isWidth 23 = .ok (.iload 4, 2) := by decide +kernel
theorem dX10_isWidth_25 : decode cX10_isWidth 25 = .ok (.iaload, 1) := by decide +kernel
theorem dX10_isWidth_26 : decode cX10_isWidth 26 = .ok (.aload_n 0, 1) := by decide +kernel
theorem dX10_isWidth_27 : decode cX10_isWidth 27 = .ok (.getfield 23, 3) := by decide +kernel
theorem dX10_isWidth_30 : decode cX10_isWidth 30 = .ok (.iload_n 2, 1) := by decide +kernel
theorem dX10_isWidth_31 : decode cX10_isWidth 31 = .ok (.iaload, 1) := by decide +kernel
theorem dX10_isWidth_32 : decode cX10_isWidth 32 = .ok (.isub, 1) := by decide +kernel
theorem dX10_isWidth_33 : decode cX10_isWidth 33 = .ok (.aload_n 0, 1) := by decide +kernel
theorem dX10_isWidth_34 : decode cX10_isWidth 34 = .ok (.getfield 23, 3) := by decide +kernel
theorem dX10_isWidth_37 : decode cX10_isWidth 37 = .ok (.iload 4, 2) := by decide +kernel
theorem dX10_isWidth_39 : decode cX10_isWidth 39 = .ok (.iaload, 1) := by decide +kernel
theorem dX10_isWidth_40 : decode cX10_isWidth 40 = .ok (.aload_n 0, 1) := by decide +kernel
theorem dX10_isWidth_41 : decode cX10_isWidth 41 = .ok (.getfield 23, 3) := by decide +kernel
theorem dX10_isWidth_44 : decode cX10_isWidth 44 = .ok (.iload_n 3, 1) := by decide +kernel
theorem dX10_isWidth_45 : decode cX10_isWidth 45 = .ok (.iaload, 1) := by decide +kernel
theorem dX10_isWidth_46 : decode cX10_isWidth 46 = .ok (.isub, 1) := by decide +kernel
theorem dX10_isWidth_47 : decode cX10_isWidth 47 = .ok (.imul, 1) := by decide +kernel
theorem dX10_isWidth_48 : decode cX10_isWidth 48 = .ok (.aload_n 0, 1) := by decide +kernel
theorem dX10_isWidth_49 : decode cX10_isWidth 49 = .ok (.getfield 26, 3) := by decide +kernel
theorem dX10_isWidth_52 : decode cX10_isWidth 52 = .ok (.iload 4, 2) := by decide +kernel
theorem dX10_isWidth_54 : decode cX10_isWidth 54 = .ok (.iaload, 1) := by decide +kernel
theorem dX10_isWidth_55 : decode cX10_isWidth 55 = .ok (.aload_n 0, 1) := by decide +kernel
theorem dX10_isWidth_56 : decode cX10_isWidth 56 = .ok (.getfield 26, 3) := by decide +kernel
theorem dX10_isWidth_59 : decode cX10_isWidth 59 = .ok (.iload_n 2, 1) := by decide +kernel
theorem dX10_isWidth_60 : decode cX10_isWidth 60 = .ok (.iaload, 1) := by decide +kernel
theorem dX10_isWidth_61 : decode cX10_isWidth 61 = .ok (.isub, 1) := by decide +kernel
theorem dX10_isWidth_62 : decode cX10_isWidth 62 = .ok (.aload_n 0, 1) := by decide +kernel
theorem dX10_isWidth_63 : decode cX10_isWidth 63 = .ok (.getfield 26, 3) := by decide +kernel
theorem dX10_isWidth_66 : decode cX10_isWidth 66 = .ok (.iload 4, 2) := by decide +kernel
theorem dX10_isWidth_68 : decode cX10_isWidth 68 = .ok (.iaload, 1) := by decide +kernel
theorem dX10_isWidth_69 : decode cX10_isWidth 69 = .ok (.aload_n 0, 1) := by decide +kernel
theorem dX10_isWidth_70 : decode cX10_isWidth 70 = .ok (.getfield 26, 3) := by decide +kernel
theorem dX10_isWidth_73 : decode cX10_isWidth 73 = .ok (.iload_n 3, 1) := by decide +kernel
theorem dX10_isWidth_74 : decode cX10_isWidth 74 = .ok (.iaload, 1) := by decide +kernel
theorem dX10_isWidth_75 : decode cX10_isWidth 75 = .ok (.isub, 1) := by decide +kernel
theorem dX10_isWidth_76 : decode cX10_isWidth 76 = .ok (.imul, 1) := by decide +kernel
theorem dX10_isWidth_77 : decode cX10_isWidth 77 = .ok (.iadd, 1) := by decide +kernel
theorem dX10_isWidth_78 : decode cX10_isWidth 78 = .ok (.ifCond .le 5, 3) := by decide +kernel
theorem dX10_isWidth_81 : decode cX10_isWidth 81 = .ok (.iconst 0, 1) := by decide +kernel
theorem dX10_isWidth_82 : decode cX10_isWidth 82 = .ok (.ireturn, 1) := by decide +kernel
theorem dX10_isWidth_83 : decode cX10_isWidth 83 = .ok (.iinc 4 1, 3) := by decide +kernel
theorem dX10_isWidth_86 : decode cX10_isWidth 86 = .ok (.goto (-83), 3) := by decide +kernel
theorem dX10_isWidth_89 : decode cX10_isWidth 89 = .ok (.iconst 1, 1) := by decide +kernel
theorem dX10_isWidth_90 : decode cX10_isWidth 90 = .ok (.ireturn, 1) := by decide +kernel
theorem dX10_isSharp_0 : decode cX10_isSharp 0 = .ok (.aload_n 0, 1) := by decide +kernel
theorem dX10_isSharp_1 : decode cX10_isSharp 1 = .ok (.iload_n 1, 1) := by decide +kernel
theorem dX10_isSharp_2 : decode cX10_isSharp 2 = .ok (.iload_n 2, 1) := by decide +kernel
theorem dX10_isSharp_3 : decode cX10_isSharp 3 = .ok (.invokevirtual 203, 3) := by decide +kernel
theorem dX10_isSharp_6 : decode cX10_isSharp 6 = .ok (.istore 4, 2) := by decide +kernel
theorem dX10_isSharp_8 : decode cX10_isSharp 8 = .ok (.aload_n 0, 1) := by decide +kernel
theorem dX10_isSharp_9 : decode cX10_isSharp 9 = .ok (.iload_n 2, 1) := by decide +kernel
theorem dX10_isSharp_10 : decode cX10_isSharp 10 = .ok (.iload_n 3, 1) := by decide +kernel
theorem dX10_isSharp_11 : decode cX10_isSharp 11 = .ok (.invokevirtual 203, 3) := by decide +kernel
theorem dX10_isSharp_14 : decode cX10_isSharp 14 = .ok (.istore 5, 2) := by decide +kernel
theorem dX10_isSharp_16 : decode cX10_isSharp 16 = .ok (.aload_n 0, 1) := by decide +kernel
theorem dX10_isSharp_17 : decode cX10_isSharp 17 = .ok (.iload_n 3, 1) := by decide +kernel
theorem dX10_isSharp_18 : decode cX10_isSharp 18 = .ok (.iload_n 1, 1) := by decide +kernel
theorem dX10_isSharp_19 : decode cX10_isSharp 19 = .ok (.invokevirtual 203, 3) := by decide +kernel
theorem dX10_isSharp_22 : decode cX10_isSharp 22 = .ok (.istore 6, 2) := by decide +kernel
theorem dX10_isSharp_24 : decode cX10_isSharp 24 = .ok (.iload 4, 2) := by decide +kernel
theorem dX10_isSharp_26 : decode cX10_isSharp 26 = .ok (.iload 5, 2) := by decide +kernel
theorem dX10_isSharp_28 : decode cX10_isSharp 28 = .ok (.iload 6, 2) := by decide +kernel
theorem dX10_isSharp_30 : decode cX10_isSharp 30 = .ok (.iadd, 1) := by decide +kernel
theorem dX10_isSharp_31 : decode cX10_isSharp 31 = .ok (.if_icmp .ge 39, 3) := by decide +kernel
theorem dX10_isSharp_34 : decode cX10_isSharp 34 = .ok (.iload 5, 2) := by decide +kernel
theorem dX10_isSharp_36 : decode cX10_isSharp 36 = .ok (.iload 4, 2) := by decide +kernel
theorem dX10_isSharp_38 : decode cX10_isSharp 38 = .ok (.iload 6, 2) := by decide +kernel
theorem dX10_isSharp_40 : decode cX10_isSharp 40 = .ok (.iadd, 1) := by decide +kernel
theorem dX10_isSharp_41 : decode cX10_isSharp 41 = .ok (.if_icmp .ge 29, 3) := by decide +kernel
theorem dX10_isSharp_44 : decode cX10_isSharp 44 = .ok (.iload 6, 2) := by decide +kernel
theorem dX10_isSharp_46 : decode cX10_isSharp 46 = .ok (.iload 4, 2) := by decide +kernel
theorem dX10_isSharp_48 : decode cX10_isSharp 48 = .ok (.iload 5, 2) := by decide +kernel
theorem dX10_isSharp_50 : decode cX10_isSharp 50 = .ok (.iadd, 1) := by decide +kernel
theorem dX10_isSharp_51 : decode cX10_isSharp 51 = .ok (.if_icmp .ge 19, 3) := by decide +kernel
theorem dX10_isSharp_54 : decode cX10_isSharp 54 = .ok (.aload_n 0, 1) := by decide +kernel
theorem dX10_isSharp_55 : decode cX10_isSharp 55 = .ok (.iload_n 1, 1) := by decide +kernel
theorem dX10_isSharp_56 : decode cX10_isSharp 56 = .ok (.iload_n 2, 1) := by decide +kernel
theorem dX10_isSharp_57 : decode cX10_isSharp 57 = .ok (.iload_n 3, 1) := by decide +kernel
theorem dX10_isSharp_58 : decode cX10_isSharp 58 = .ok (.invokevirtual 292, 3) := by decide +kernel
theorem dX10_isSharp_61 : decode cX10_isSharp 61 = .ok (.lconst 0, 1) := by decide +kernel
theorem dX10_isSharp_62 : decode cX10_isSharp 62 = .ok (.lcmp, 1) := by decide +kernel
theorem dX10_isSharp_63 : decode cX10_isSharp 63 = .ok (.ifCond .eq 7, 3) := by decide +kernel
theorem dX10_isSharp_66 : decode cX10_isSharp 66 = .ok (.iconst 1, 1) := by decide +kernel
theorem dX10_isSharp_67 : decode cX10_isSharp 67 = .ok (.goto 4, 3) := by decide +kernel
theorem dX10_isSharp_70 : decode cX10_isSharp 70 = .ok (.iconst 0, 1) := by decide +kernel
theorem dX10_isSharp_71 : decode cX10_isSharp 71 = .ok (.ireturn, 1) := by decide +kernel
theorem dX10_isWithin_0 : decode cX10_isWithin 0 = .ok (.aload_n 0, 1) := by decide +kernel
theorem dX10_isWithin_1 : decode cX10_isWithin 1 = .ok (.getfield 23, 3) := by decide +kernel
theorem dX10_isWithin_4 : decode cX10_isWithin 4 = .ok (.iload_n 1, 1) := by decide +kernel
theorem dX10_isWithin_5 : decode cX10_isWithin 5 = .ok (.iaload, 1) := by decide +kernel
theorem dX10_isWithin_6 : decode cX10_isWithin 6 = .ok (.aload_n 0, 1) := by decide +kernel
theorem dX10_isWithin_7 : decode cX10_isWithin 7 = .ok (.getfield 23, 3) := by decide +kernel
theorem dX10_isWithin_10 : decode cX10_isWithin 10 = .ok (.iload 4, 2) := by decide +kernel
theorem dX10_isWithin_12 : decode cX10_isWithin 12 = .ok (.iaload, 1) := by decide +kernel
theorem dX10_isWithin_13 : decode cX10_isWithin 13 = .ok (.isub, 1) := by decide +kernel
theorem dX10_isWithin_14 : decode cX10_isWithin 14 = .ok (.i2l, 1) := by decide +kernel
theorem dX10_isWithin_15 : decode cX10_isWithin 15 = .ok (.lstore 5, 2) := by decide +kernel
theorem dX10_isWithin_17 : decode cX10_isWithin 17 = .ok (.aload_n 0, 1) := by decide +kernel
theorem dX10_isWithin_18 : decode cX10_isWithin 18 = .ok (.getfield 26, 3) := by decide +kernel
theorem dX10_isWithin_21 : decode cX10_isWithin 21 = .ok (.iload_n 1, 1) := by decide +kernel
theorem dX10_isWithin_22 : decode cX10_isWithin 22 = .ok (.iaload, 1) := by decide +kernel
theorem dX10_isWithin_23 : decode cX10_isWithin 23 = .ok (.aload_n 0, 1) := by decide +kernel
theorem dX10_isWithin_24 : decode cX10_isWithin 24 = .ok (.getfield 26, 3) := by decide +kernel
theorem dX10_isWithin_27 : decode cX10_isWithin 27 = .ok (.iload 4, 2) := by decide +kernel
theorem dX10_isWithin_29 : decode cX10_isWithin 29 = .ok (.iaload, 1) := by decide +kernel
theorem dX10_isWithin_30 : decode cX10_isWithin 30 = .ok (.isub, 1) := by decide +kernel
theorem dX10_isWithin_31 : decode cX10_isWithin 31 = .ok (.i2l, 1) := by decide +kernel
theorem dX10_isWithin_32 : decode cX10_isWithin 32 = .ok (.lstore 7, 2) := by decide +kernel
theorem dX10_isWithin_34 : decode cX10_isWithin 34 = .ok (.aload_n 0, 1) := by decide +kernel
theorem dX10_isWithin_35 : decode cX10_isWithin 35 = .ok (.getfield 23, 3) := by decide +kernel
theorem dX10_isWithin_38 : decode cX10_isWithin 38 = .ok (.iload_n 2, 1) := by decide +kernel
theorem dX10_isWithin_39 : decode cX10_isWithin 39 = .ok (.iaload, 1) := by decide +kernel
theorem dX10_isWithin_40 : decode cX10_isWithin 40 = .ok (.aload_n 0, 1) := by decide +kernel
theorem dX10_isWithin_41 : decode cX10_isWithin 41 = .ok (.getfield 23, 3) := by decide +kernel
theorem dX10_isWithin_44 : decode cX10_isWithin 44 = .ok (.iload 4, 2) := by decide +kernel
theorem dX10_isWithin_46 : decode cX10_isWithin 46 = .ok (.iaload, 1) := by decide +kernel
theorem dX10_isWithin_47 : decode cX10_isWithin 47 = .ok (.isub, 1) := by decide +kernel
theorem dX10_isWithin_48 : decode cX10_isWithin 48 = .ok (.i2l, 1) := by decide +kernel
theorem dX10_isWithin_49 : decode cX10_isWithin 49 = .ok (.lstore 9, 2) := by decide +kernel
theorem dX10_isWithin_51 : decode cX10_isWithin 51 = .ok (.aload_n 0, 1) := by decide +kernel
theorem dX10_isWithin_52 : decode cX10_isWithin 52 = .ok (.getfield 26, 3) := by decide +kernel
theorem dX10_isWithin_55 : decode cX10_isWithin 55 = .ok (.iload_n 2, 1) := by decide +kernel
theorem dX10_isWithin_56 : decode cX10_isWithin 56 = .ok (.iaload, 1) := by decide +kernel
theorem dX10_isWithin_57 : decode cX10_isWithin 57 = .ok (.aload_n 0, 1) := by decide +kernel
theorem dX10_isWithin_58 : decode cX10_isWithin 58 = .ok (.getfield 26, 3) := by decide +kernel
theorem dX10_isWithin_61 : decode cX10_isWithin 61 = .ok (.iload 4, 2) := by decide +kernel
theorem dX10_isWithin_63 : decode cX10_isWithin 63 = .ok (.iaload, 1) := by decide +kernel
theorem dX10_isWithin_64 : decode cX10_isWithin 64 = .ok (.isub, 1) := by decide +kernel
theorem dX10_isWithin_65 : decode cX10_isWithin 65 = .ok (.i2l, 1) := by decide +kernel
theorem dX10_isWithin_66 : decode cX10_isWithin 66 = .ok (.lstore 11, 2) := by decide +kernel
theorem dX10_isWithin_68 : decode cX10_isWithin 68 = .ok (.aload_n 0, 1) := by decide +kernel
theorem dX10_isWithin_69 : decode cX10_isWithin 69 = .ok (.getfield 23, 3) := by decide +kernel
theorem dX10_isWithin_72 : decode cX10_isWithin 72 = .ok (.iload_n 3, 1) := by decide +kernel
theorem dX10_isWithin_73 : decode cX10_isWithin 73 = .ok (.iaload, 1) := by decide +kernel
theorem dX10_isWithin_74 : decode cX10_isWithin 74 = .ok (.aload_n 0, 1) := by decide +kernel
theorem dX10_isWithin_75 : decode cX10_isWithin 75 = .ok (.getfield 23, 3) := by decide +kernel
theorem dX10_isWithin_78 : decode cX10_isWithin 78 = .ok (.iload 4, 2) := by decide +kernel
theorem dX10_isWithin_80 : decode cX10_isWithin 80 = .ok (.iaload, 1) := by decide +kernel
theorem dX10_isWithin_81 : decode cX10_isWithin 81 = .ok (.isub, 1) := by decide +kernel
theorem dX10_isWithin_82 : decode cX10_isWithin 82 = .ok (.i2l, 1) := by decide +kernel
theorem dX10_isWithin_83 : decode cX10_isWithin 83 = .ok (.lstore 13, 2) := by decide +kernel
theorem dX10_isWithin_85 : decode cX10_isWithin 85 = .ok (.aload_n 0, 1) := by decide +kernel
theorem dX10_isWithin_86 : decode cX10_isWithin 86 = .ok (.getfield 26, 3) := by decide +kernel
theorem dX10_isWithin_89 : decode cX10_isWithin 89 = .ok (.iload_n 3, 1) := by decide +kernel
theorem dX10_isWithin_90 : decode cX10_isWithin 90 = .ok (.iaload, 1) := by decide +kernel
theorem dX10_isWithin_91 : decode cX10_isWithin 91 = .ok (.aload_n 0, 1) := by decide +kernel
theorem dX10_isWithin_92 : decode cX10_isWithin 92 = .ok (.getfield 26, 3) := by decide +kernel
theorem dX10_isWithin_95 : decode cX10_isWithin 95 = .ok (.iload 4, 2) := by decide +kernel
theorem dX10_isWithin_97 : decode cX10_isWithin 97 = .ok (.iaload, 1) := by decide +kernel
theorem dX10_isWithin_98 : decode cX10_isWithin 98 = .ok (.isub, 1) := by decide +kernel
theorem dX10_isWithin_99 : decode cX10_isWithin 99 = .ok (.i2l, 1) := by decide +kernel
theorem dX10_isWithin_100 : decode cX10_isWithin 100 = .ok (.lstore 15, 2) := by decide +kernel
theorem dX10_isWithin_102 : decode cX10_isWithin 102 = .ok (.lload 5, 2) := by decide +kernel
theorem dX10_isWithin_104 : decode cX10_isWithin 104 = .ok (.lload 5, 2) := by decide +kernel
theorem dX10_isWithin_106 : decode cX10_isWithin 106 = .ok (.lmul, 1) := by decide +kernel
theorem dX10_isWithin_107 : decode cX10_isWithin 107 = .ok (.lload 7, 2) := by decide +kernel
theorem dX10_isWithin_109 : decode cX10_isWithin 109 = .ok (.lload 7, 2) := by decide +kernel
theorem dX10_isWithin_111 : decode cX10_isWithin 111 = .ok (.lmul, 1) := by decide +kernel
theorem dX10_isWithin_112 : decode cX10_isWithin 112 = .ok (.ladd, 1) := by decide +kernel
theorem dX10_isWithin_113 : decode cX10_isWithin 113 = .ok (.lload 9, 2) := by decide +kernel
theorem dX10_isWithin_115 : decode cX10_isWithin 115 = .ok (.lload 15, 2) := by decide +kernel
theorem dX10_isWithin_117 : decode cX10_isWithin 117 = .ok (.lmul, 1) := by decide +kernel
theorem dX10_isWithin_118 : decode cX10_isWithin 118 = .ok (.lload 11, 2) := by decide +kernel
theorem dX10_isWithin_120 : decode cX10_isWithin 120 = .ok (.lload 13, 2) := by decide +kernel
theorem dX10_isWithin_122 : decode cX10_isWithin 122 = .ok (.lmul, 1) := by decide +kernel
theorem dX10_isWithin_123 : decode cX10_isWithin 123 = .ok (.lsub, 1) := by decide +kernel
theorem dX10_isWithin_124 : decode cX10_isWithin 124 = .ok (.lmul, 1) := by decide +kernel
theorem dX10_isWithin_125 : decode cX10_isWithin 125 = .ok (.lload 9, 2) := by decide +kernel
theorem dX10_isWithin_127 : decode cX10_isWithin 127 = .ok (.lload 9, 2) := by decide +kernel
theorem dX10_isWithin_129 : decode cX10_isWithin 129 = .ok (.lmul, 1) := by decide +kernel
theorem dX10_isWithin_130 : decode cX10_isWithin 130 = .ok (.lload 11, 2) := by decide +kernel
theorem dX10_isWithin_132 : decode cX10_isWithin 132 = .ok (.lload 11, 2) := by decide +kernel
theorem dX10_isWithin_134 : decode cX10_isWithin 134 = .ok (.lmul, 1) := by decide +kernel
theorem dX10_isWithin_135 : decode cX10_isWithin 135 = .ok (.ladd, 1) := by decide +kernel
theorem dX10_isWithin_136 : decode cX10_isWithin 136 = .ok (.lload 5, 2) := by decide +kernel
theorem dX10_isWithin_138 : decode cX10_isWithin 138 = .ok (.lload 15, 2) := by decide +kernel
theorem dX10_isWithin_140 : decode cX10_isWithin 140 = .ok (.lmul, 1) := by decide +kernel
theorem dX10_isWithin_141 : decode cX10_isWithin 141 = .ok (.lload 7, 2) := by decide +kernel
theorem dX10_isWithin_143 : decode cX10_isWithin 143 = .ok (.lload 13, 2) := by decide +kernel
theorem dX10_isWithin_145 : decode cX10_isWithin 145 = .ok (.lmul, 1) := by decide +kernel
theorem dX10_isWithin_146 : decode cX10_isWithin 146 = .ok (.lsub, 1) := by decide +kernel
theorem dX10_isWithin_147 : decode cX10_isWithin 147 = .ok (.lmul, 1) := by decide +kernel
theorem dX10_isWithin_148 : decode cX10_isWithin 148 = .ok (.lsub, 1) := by decide +kernel
theorem dX10_isWithin_149 : decode cX10_isWithin 149 = .ok (.lload 13, 2) := by decide +kernel
theorem dX10_isWithin_151 : decode cX10_isWithin 151 = .ok (.lload 13, 2) := by decide +kernel
theorem dX10_isWithin_153 : decode cX10_isWithin 153 = .ok (.lmul, 1) := by decide +kernel
theorem dX10_isWithin_154 : decode cX10_isWithin 154 = .ok (.lload 15, 2) := by decide +kernel
theorem dX10_isWithin_156 : decode cX10_isWithin 156 = .ok (.lload 15, 2) := by decide +kernel
theorem dX10_isWithin_158 : decode cX10_isWithin 158 = .ok (.lmul, 1) := by decide +kernel
theorem dX10_isWithin_159 : decode cX10_isWithin 159 = .ok (.ladd, 1) := by decide +kernel
theorem dX10_isWithin_160 : decode cX10_isWithin 160 = .ok (.lload 5, 2) := by decide +kernel
theorem dX10_isWithin_162 : decode cX10_isWithin 162 = .ok (.lload 11, 2) := by decide +kernel
theorem dX10_isWithin_164 : decode cX10_isWithin 164 = .ok (.lmul, 1) := by decide +kernel
theorem dX10_isWithin_165 : decode cX10_isWithin 165 = .ok (.lload 7, 2) := by decide +kernel
theorem dX10_isWithin_167 : decode cX10_isWithin 167 = .ok (.lload 9, 2) := by decide +kernel
theorem dX10_isWithin_169 : decode cX10_isWithin 169 = .ok (.lmul, 1) := by decide +kernel
theorem dX10_isWithin_170 : decode cX10_isWithin 170 = .ok (.lsub, 1) := by decide +kernel
theorem dX10_isWithin_171 : decode cX10_isWithin 171 = .ok (.lmul, 1) := by decide +kernel
theorem dX10_isWithin_172 : decode cX10_isWithin 172 = .ok (.ladd, 1) := by decide +kernel
theorem dX10_isWithin_173 : decode cX10_isWithin 173 = .ok (.lstore 17, 2) := by decide +kernel
theorem dX10_isWithin_175 : decode cX10_isWithin 175 = .ok (.aload_n 0, 1) := by decide +kernel
theorem dX10_isWithin_176 : decode cX10_isWithin 176 = .ok (.iload_n 1, 1) := by decide +kernel
theorem dX10_isWithin_177 : decode cX10_isWithin 177 = .ok (.iload_n 2, 1) := by decide +kernel
theorem dX10_isWithin_178 : decode cX10_isWithin 178 = .ok (.iload_n 3, 1) := by decide +kernel
theorem dX10_isWithin_179 : decode cX10_isWithin 179 = .ok (.invokevirtual 292, 3) := by decide +kernel
theorem dX10_isWithin_182 : decode cX10_isWithin 182 = .ok (.lconst 0, 1) := by decide +kernel
theorem dX10_isWithin_183 : decode cX10_isWithin 183 = .ok (.lcmp, 1) := by decide +kernel
theorem dX10_isWithin_184 : decode cX10_isWithin 184 = .ok (.ifCond .le 18, 3) := by decide +kernel
theorem dX10_isWithin_187 : decode cX10_isWithin 187 = .ok (.lload 17, 2) := by decide +kernel
theorem dX10_isWithin_189 : decode cX10_isWithin 189 = .ok (.lconst 0, 1) := by decide +kernel
theorem dX10_isWithin_190 : decode cX10_isWithin 190 = .ok (.lcmp, 1) := by decide +kernel
theorem dX10_isWithin_191 : decode cX10_isWithin 191 = .ok (.ifCond .lt 7, 3) := by decide +kernel
theorem dX10_isWithin_194 : decode cX10_isWithin 194 = .ok (.iconst 1, 1) := by decide +kernel
theorem dX10_isWithin_195 : decode cX10_isWithin 195 = .ok (.goto 19, 3) := by decide +kernel
theorem dX10_isWithin_198 : decode cX10_isWithin 198 = .ok (.iconst 0, 1) := by decide +kernel
theorem dX10_isWithin_199 : decode cX10_isWithin 199 = .ok (.goto 15, 3) := by decide +kernel
theorem dX10_isWithin_202 : decode cX10_isWithin 202 = .ok (.lload 17, 2) := by decide +kernel
theorem dX10_isWithin_204 : decode cX10_isWithin 204 = .ok (.lconst 0, 1) := by decide +kernel
theorem dX10_isWithin_205 : decode cX10_isWithin 205 = .ok (.lcmp, 1) := by decide +kernel
theorem dX10_isWithin_206 : decode cX10_isWithin 206 = .ok (.ifCond .gt 7, 3) := by decide +kernel
theorem dX10_isWithin_209 : decode cX10_isWithin 209 = .ok (.iconst 1, 1) := by decide +kernel
theorem dX10_isWithin_210 : decode cX10_isWithin 210 = .ok (.goto 4, 3) := by decide +kernel
theorem dX10_isWithin_213 : decode cX10_isWithin 213 = .ok (.iconst 0, 1) := by decide +kernel
theorem dX10_isWithin_214 : decode cX10_isWithin 214 = .ok (.ireturn, 1) := by decide +kernel
theorem dX10_isCircle_0 : decode cX10_isCircle 0 = .ok (.iconst 0, 1) := by decide +kernel
theorem dX10_isCircle_1 : decode cX10_isCircle 1 = .ok (.istore 5, 2) := by decide +kernel
theorem dX10_isCircle_3 : decode cX10_isCircle 3 = .ok (.iload 5, 2) := by decide +kernel
theorem dX10_isCircle_5 : decode cX10_isCircle 5 = .ok (.bipush 24, 2) := by decide +kernel
theorem dX10_isCircle_7 : decode cX10_isCircle 7 = .ok (.if_icmp .ge 33, 3) := by decide +kernel
theorem dX10_isCircle_10 : decode cX10_isCircle 10 = .ok (.iload_n 1, 1) := by decide +kernel
theorem dX10_isCircle_11 : decode cX10_isCircle 11 = .ok (.iload 5, 2) := by decide +kernel
theorem dX10_isCircle_13 : decode cX10_isCircle 13 = .ok (.invokestatic 192, 3) := by decide +kernel
theorem dX10_isCircle_16 : decode cX10_isCircle 16 = .ok (.ifCond .eq 18, 3) := by decide +kernel
theorem dX10_isCircle_19 : decode cX10_isCircle 19 = .ok (.aload_n 0, 1) := by decide +kernel
theorem dX10_isCircle_20 : decode cX10_isCircle 20 = .ok (.iload_n 2, 1) := by decide +kernel
theorem dX10_isCircle_21 : decode cX10_isCircle 21 = .ok (.iload_n 3, 1) := by decide +kernel
theorem dX10_isCircle_22 : decode cX10_isCircle 22 = .ok (.iload 4, 2) := by decide +kernel
theorem dX10_isCircle_24 : decode cX10_isCircle 24 = .ok (.iload 5, 2) := by decide +kernel
theorem dX10_isCircle_26 : decode cX10_isCircle 26 = .ok (.invokevirtual 296, 3) := by decide +kernel
theorem dX10_isCircle_29 : decode cX10_isCircle 29 = .ok (.ifCond .ne 5, 3) := by decide +kernel
theorem dX10_isCircle_32 : decode cX10_isCircle 32 = .ok (.iconst 0, 1) := by decide +kernel
theorem dX10_isCircle_33 : decode cX10_isCircle 33 = .ok (.ireturn, 1) := by decide +kernel
theorem dX10_isCircle_34 : decode cX10_isCircle 34 = .ok (.iinc 5 1, 3) := by decide +kernel
theorem dX10_isCircle_37 : decode cX10_isCircle 37 = .ok (.goto (-34), 3) := by decide +kernel
theorem dX10_isCircle_40 : decode cX10_isCircle 40 = .ok (.iconst 1, 1) := by decide +kernel
theorem dX10_isCircle_41 : decode cX10_isCircle 41 = .ok (.ireturn, 1) := by decide +kernel
theorem dX10_isRing_0 : decode cX10_isRing 0 = .ok (.lload_n 3, 1) := by decide +kernel
theorem dX10_isRing_1 : decode cX10_isRing 1 = .ok (.lload_n 1, 1) := by decide +kernel
theorem dX10_isRing_2 : decode cX10_isRing 2 = .ok (.invokestatic 300, 3) := by decide +kernel
theorem dX10_isRing_5 : decode cX10_isRing 5 = .ok (.lstore 8, 2) := by decide +kernel
theorem dX10_isRing_7 : decode cX10_isRing 7 = .ok (.aload_n 0, 1) := by decide +kernel
theorem dX10_isRing_8 : decode cX10_isRing 8 = .ok (.getfield 63, 3) := by decide +kernel
theorem dX10_isRing_11 : decode cX10_isRing 11 = .ok (.iconst 0, 1) := by decide +kernel
theorem dX10_isRing_12 : decode cX10_isRing 12 = .ok (.lload_n 1, 1) := by decide +kernel
theorem dX10_isRing_13 : decode cX10_isRing 13 = .ok (.lload 8, 2) := by decide +kernel
theorem dX10_isRing_15 : decode cX10_isRing 15 = .ok (.ldiv, 1) := by decide +kernel
theorem dX10_isRing_16 : decode cX10_isRing 16 = .ok (.lastore, 1) := by decide +kernel
theorem dX10_isRing_17 : decode cX10_isRing 17 = .ok (.aload_n 0, 1) := by decide +kernel
theorem dX10_isRing_18 : decode cX10_isRing 18 = .ok (.getfield 63, 3) := by decide +kernel
theorem dX10_isRing_21 : decode cX10_isRing 21 = .ok (.iconst 1, 1) := by decide +kernel
theorem dX10_isRing_22 : decode cX10_isRing 22 = .ok (.lload_n 3, 1) := by decide +kernel
theorem dX10_isRing_23 : decode cX10_isRing 23 = .ok (.lload 8, 2) := by decide +kernel
theorem dX10_isRing_25 : decode cX10_isRing 25 = .ok (.ldiv, 1) := by decide +kernel
theorem dX10_isRing_26 : decode cX10_isRing 26 = .ok (.lastore, 1) := by decide +kernel
theorem dX10_isRing_27 : decode cX10_isRing 27 = .ok (.aload_n 0, 1) := by decide +kernel
theorem dX10_isRing_28 : decode cX10_isRing 28 = .ok (.getfield 63, 3) := by decide +kernel
theorem dX10_isRing_31 : decode cX10_isRing 31 = .ok (.iconst 2, 1) := by decide +kernel
theorem dX10_isRing_32 : decode cX10_isRing 32 = .ok (.iload 5, 2) := by decide +kernel
theorem dX10_isRing_34 : decode cX10_isRing 34 = .ok (.i2l, 1) := by decide +kernel
theorem dX10_isRing_35 : decode cX10_isRing 35 = .ok (.lastore, 1) := by decide +kernel
theorem dX10_isRing_36 : decode cX10_isRing 36 = .ok (.aload_n 0, 1) := by decide +kernel
theorem dX10_isRing_37 : decode cX10_isRing 37 = .ok (.getfield 63, 3) := by decide +kernel
theorem dX10_isRing_40 : decode cX10_isRing 40 = .ok (.iconst 3, 1) := by decide +kernel
theorem dX10_isRing_41 : decode cX10_isRing 41 = .ok (.iload 6, 2) := by decide +kernel
theorem dX10_isRing_43 : decode cX10_isRing 43 = .ok (.i2l, 1) := by decide +kernel
theorem dX10_isRing_44 : decode cX10_isRing 44 = .ok (.lastore, 1) := by decide +kernel
theorem dX10_isRing_45 : decode cX10_isRing 45 = .ok (.aload_n 0, 1) := by decide +kernel
theorem dX10_isRing_46 : decode cX10_isRing 46 = .ok (.getfield 63, 3) := by decide +kernel
theorem dX10_isRing_49 : decode cX10_isRing 49 = .ok (.iconst 4, 1) := by decide +kernel
theorem dX10_isRing_50 : decode cX10_isRing 50 = .ok (.iload 7, 2) := by decide +kernel
theorem dX10_isRing_52 : decode cX10_isRing 52 = .ok (.i2l, 1) := by decide +kernel
theorem dX10_isRing_53 : decode cX10_isRing 53 = .ok (.lastore, 1) := by decide +kernel
theorem dX10_isRing_54 : decode cX10_isRing 54 = .ok (.return_, 1) := by decide +kernel
theorem dX10_isTwo_0 : decode cX10_isTwo 0 = .ok (.iconst 0, 1) := by decide +kernel
theorem dX10_isTwo_1 : decode cX10_isTwo 1 = .ok (.istore_n 2, 1) := by decide +kernel
theorem dX10_isTwo_2 : decode cX10_isTwo 2 = .ok (.iload_n 2, 1) := by decide +kernel
theorem dX10_isTwo_3 : decode cX10_isTwo 3 = .ok (.bipush 24, 2) := by decide +kernel
theorem dX10_isTwo_5 : decode cX10_isTwo 5 = .ok (.if_icmp .ge 83, 3) := by decide +kernel
theorem dX10_isTwo_8 : decode cX10_isTwo 8 = .ok (.iload_n 2, 1) := by decide +kernel
theorem dX10_isTwo_9 : decode cX10_isTwo 9 = .ok (.iconst 1, 1) := by decide +kernel
theorem dX10_isTwo_10 : decode cX10_isTwo 10 = .ok (.iadd, 1) := by decide +kernel
theorem dX10_isTwo_11 : decode cX10_isTwo 11 = .ok (.istore_n 3, 1) := by decide +kernel
theorem dX10_isTwo_12 : decode cX10_isTwo 12 = .ok (.iload_n 3, 1) := by decide +kernel
theorem dX10_isTwo_13 : decode cX10_isTwo 13 = .ok (.bipush 24, 2) := by decide +kernel
theorem dX10_isTwo_15 : decode cX10_isTwo 15 = .ok (.if_icmp .ge 67, 3) := by decide +kernel
theorem dX10_isTwo_18 : decode cX10_isTwo 18 = .ok (.iload_n 1, 1) := by decide +kernel
theorem dX10_isTwo_19 : decode cX10_isTwo 19 = .ok (.iload_n 2, 1) := by decide +kernel
theorem dX10_isTwo_20 : decode cX10_isTwo 20 = .ok (.invokestatic 192, 3) := by decide +kernel
theorem dX10_isTwo_23 : decode cX10_isTwo 23 = .ok (.ifCond .eq 53, 3) := by decide +kernel
theorem dX10_isTwo_26 : decode cX10_isTwo 26 = .ok (.iload_n 1, 1) := by decide +kernel
theorem dX10_isTwo_27 : decode cX10_isTwo 27 = .ok (.iload_n 3, 1) := by decide +kernel
theorem dX10_isTwo_28 : decode cX10_isTwo 28 = .ok (.invokestatic 192, 3) := by decide +kernel
theorem dX10_isTwo_31 : decode cX10_isTwo 31 = .ok (.ifCond .eq 45, 3) := by decide +kernel
theorem dX10_isTwo_34 : decode cX10_isTwo 34 = .ok (.aload_n 0, 1) := by decide +kernel
theorem dX10_isTwo_35 : decode cX10_isTwo 35 = .ok (.iload_n 2, 1) := by decide +kernel
theorem dX10_isTwo_36 : decode cX10_isTwo 36 = .ok (.iload_n 3, 1) := by decide +kernel
theorem dX10_isTwo_37 : decode cX10_isTwo 37 = .ok (.invokevirtual 203, 3) := by decide +kernel
theorem dX10_isTwo_40 : decode cX10_isTwo 40 = .ok (.ifCond .eq 36, 3) := by decide +kernel
theorem dX10_isTwo_43 : decode cX10_isTwo 43 = .ok (.aload_n 0, 1) := by decide +kernel
theorem dX10_isTwo_44 : decode cX10_isTwo 44 = .ok (.iload_n 1, 1) := by decide +kernel
theorem dX10_isTwo_45 : decode cX10_isTwo 45 = .ok (.iload_n 2, 1) := by decide +kernel
theorem dX10_isTwo_46 : decode cX10_isTwo 46 = .ok (.iload_n 3, 1) := by decide +kernel
theorem dX10_isTwo_47 : decode cX10_isTwo 47 = .ok (.invokevirtual 304, 3) := by decide +kernel
theorem dX10_isTwo_50 : decode cX10_isTwo 50 = .ok (.ifCond .ne 6, 3) := by decide +kernel
theorem dX10_isTwo_53 : decode cX10_isTwo 53 = .ok (.goto 23, 3) := by decide +kernel
theorem dX10_isTwo_56 : decode cX10_isTwo 56 = .ok (.aload_n 0, 1) := by decide +kernel
theorem dX10_isTwo_57 : decode cX10_isTwo 57 = .ok (.aload_n 0, 1) := by decide +kernel
theorem dX10_isTwo_58 : decode cX10_isTwo 58 = .ok (.iload_n 2, 1) := by decide +kernel
theorem dX10_isTwo_59 : decode cX10_isTwo 59 = .ok (.iload_n 3, 1) := by decide +kernel
theorem dX10_isTwo_60 : decode cX10_isTwo 60 = .ok (.invokevirtual 203, 3) := by decide +kernel
theorem dX10_isTwo_63 : decode cX10_isTwo 63 = .ok (.i2l, 1) := by decide +kernel
theorem dX10_isTwo_64 : decode cX10_isTwo 64 = .ok (.ldc2_w 208, 3) := by decide +kernel
theorem dX10_isTwo_67 : decode cX10_isTwo 67 = .ok (.iload_n 2, 1) := by decide +kernel
theorem dX10_isTwo_68 : decode cX10_isTwo 68 = .ok (.iload_n 3, 1) := by decide +kernel
theorem dX10_isTwo_69 : decode cX10_isTwo 69 = .ok (.bipush (-2), 2) := by decide +kernel
theorem dX10_isTwo_71 : decode cX10_isTwo 71 = .ok (.invokevirtual 307, 3) := by decide +kernel
theorem dX10_isTwo_74 : decode cX10_isTwo 74 = .ok (.iconst 1, 1) := by decide +kernel
theorem dX10_isTwo_75 : decode cX10_isTwo 75 = .ok (.ireturn, 1) := by decide +kernel
theorem dX10_isTwo_76 : decode cX10_isTwo 76 = .ok (.iinc 3 1, 3) := by decide +kernel
theorem dX10_isTwo_79 : decode cX10_isTwo 79 = .ok (.goto (-67), 3) := by decide +kernel
theorem dX10_isTwo_82 : decode cX10_isTwo 82 = .ok (.iinc 2 1, 3) := by decide +kernel
theorem dX10_isTwo_85 : decode cX10_isTwo 85 = .ok (.goto (-83), 3) := by decide +kernel
theorem dX10_isTwo_88 : decode cX10_isTwo 88 = .ok (.iconst 0, 1) := by decide +kernel
theorem dX10_isTwo_89 : decode cX10_isTwo 89 = .ok (.ireturn, 1) := by decide +kernel
theorem dX10_isThree_0 : decode cX10_isThree 0 = .ok (.iconst 0, 1) := by decide +kernel
theorem dX10_isThree_1 : decode cX10_isThree 1 = .ok (.istore_n 2, 1) := by decide +kernel
theorem dX10_isThree_2 : decode cX10_isThree 2 = .ok (.iload_n 2, 1) := by decide +kernel
theorem dX10_isThree_3 : decode cX10_isThree 3 = .ok (.bipush 24, 2) := by decide +kernel
theorem dX10_isThree_5 : decode cX10_isThree 5 = .ok (.if_icmp .ge 147, 3) := by decide +kernel
theorem dX10_isThree_8 : decode cX10_isThree 8 = .ok (.iload_n 2, 1) := by decide +kernel
theorem dX10_isThree_9 : decode cX10_isThree 9 = .ok (.iconst 1, 1) := by decide +kernel
theorem dX10_isThree_10 : decode cX10_isThree 10 = .ok (.iadd, 1) := by decide +kernel
theorem dX10_isThree_11 : decode cX10_isThree 11 = .ok (.istore_n 3, 1) := by decide +kernel
theorem dX10_isThree_12 : decode cX10_isThree 12 = .ok (.iload_n 3, 1) := by decide +kernel
theorem dX10_isThree_13 : decode cX10_isThree 13 = .ok (.bipush 24, 2) := by decide +kernel
theorem dX10_isThree_15 : decode cX10_isThree 15 = .ok (.if_icmp .ge 131, 3) := by decide +kernel
theorem dX10_isThree_18 : decode cX10_isThree 18 = .ok (.iload_n 3, 1) := by decide +kernel
theorem dX10_isThree_19 : decode cX10_isThree 19 = .ok (.iconst 1, 1) := by decide +kernel
theorem dX10_isThree_20 : decode cX10_isThree 20 = .ok (.iadd, 1) := by decide +kernel
theorem dX10_isThree_21 : decode cX10_isThree 21 = .ok (.istore 4, 2) := by decide +kernel
theorem dX10_isThree_23 : decode cX10_isThree 23 = .ok (.iload 4, 2) := by decide +kernel
theorem dX10_isThree_25 : decode cX10_isThree 25 = .ok (.bipush 24, 2) := by decide +kernel
theorem dX10_isThree_27 : decode cX10_isThree 27 = .ok (.if_icmp .ge 113, 3) := by decide +kernel
theorem dX10_isThree_30 : decode cX10_isThree 30 = .ok (.iload_n 1, 1) := by decide +kernel
theorem dX10_isThree_31 : decode cX10_isThree 31 = .ok (.iload_n 2, 1) := by decide +kernel
theorem dX10_isThree_32 : decode cX10_isThree 32 = .ok (.invokestatic 192, 3) := by decide +kernel
theorem dX10_isThree_35 : decode cX10_isThree 35 = .ok (.ifCond .eq 99, 3) := by decide +kernel
theorem dX10_isThree_38 : decode cX10_isThree 38 = .ok (.iload_n 1, 1) := by decide +kernel
theorem dX10_isThree_39 : decode cX10_isThree 39 = .ok (.iload_n 3, 1) := by decide +kernel
theorem dX10_isThree_40 : decode cX10_isThree 40 = .ok (.invokestatic 192, 3) := by decide +kernel
theorem dX10_isThree_43 : decode cX10_isThree 43 = .ok (.ifCond .eq 91, 3) := by decide +kernel
theorem dX10_isThree_46 : decode cX10_isThree 46 = .ok (.iload_n 1, 1) := by decide +kernel
theorem dX10_isThree_47 : decode cX10_isThree 47 = .ok (.iload 4, 2) := by decide +kernel
theorem dX10_isThree_49 : decode cX10_isThree 49 = .ok (.invokestatic 192, 3) := by decide +kernel
theorem dX10_isThree_52 : decode cX10_isThree 52 = .ok (.ifCond .eq 82, 3) := by decide +kernel
theorem dX10_isThree_55 : decode cX10_isThree 55 = .ok (.aload_n 0, 1) := by decide +kernel
theorem dX10_isThree_56 : decode cX10_isThree 56 = .ok (.iload_n 2, 1) := by decide +kernel
theorem dX10_isThree_57 : decode cX10_isThree 57 = .ok (.iload_n 3, 1) := by decide +kernel
theorem dX10_isThree_58 : decode cX10_isThree 58 = .ok (.iload 4, 2) := by decide +kernel
theorem dX10_isThree_60 : decode cX10_isThree 60 = .ok (.invokevirtual 311, 3) := by decide +kernel
theorem dX10_isThree_63 : decode cX10_isThree 63 = .ok (.ifCond .eq 71, 3) := by decide +kernel
theorem dX10_isThree_66 : decode cX10_isThree 66 = .ok (.aload_n 0, 1) := by decide +kernel
theorem dX10_isThree_67 : decode cX10_isThree 67 = .ok (.iload_n 1, 1) := by decide +kernel
theorem dX10_isThree_68 : decode cX10_isThree 68 = .ok (.iload_n 2, 1) := by decide +kernel
theorem dX10_isThree_69 : decode cX10_isThree 69 = .ok (.iload_n 3, 1) := by decide +kernel
theorem dX10_isThree_70 : decode cX10_isThree 70 = .ok (.iload 4, 2) := by decide +kernel
theorem dX10_isThree_72 : decode cX10_isThree 72 = .ok (.invokevirtual 314, 3) := by decide +kernel
theorem dX10_isThree_75 : decode cX10_isThree 75 = .ok (.ifCond .ne 6, 3) := by decide +kernel
theorem dX10_isThree_78 : decode cX10_isThree 78 = .ok (.goto 56, 3) := by decide +kernel
theorem dX10_isThree_81 : decode cX10_isThree 81 = .ok (.aload_n 0, 1) := by decide +kernel
theorem dX10_isThree_82 : decode cX10_isThree 82 = .ok (.iload_n 2, 1) := by decide +kernel
theorem dX10_isThree_83 : decode cX10_isThree 83 = .ok (.iload_n 3, 1) := by decide +kernel
theorem dX10_isThree_84 : decode cX10_isThree 84 = .ok (.iload 4, 2) := by decide +kernel
theorem dX10_isThree_86 : decode cX10_isThree 86 = .ok (.invokevirtual 292, 3) := by decide +kernel
theorem dX10_isThree_89 : decode cX10_isThree 89 = .ok (.lstore 5, 2) := by decide +kernel
theorem dX10_isThree_91 : decode cX10_isThree 91 = .ok (.aload_n 0, 1) := by decide +kernel
theorem dX10_isThree_92 : decode cX10_isThree 92 = .ok (.aload_n 0, 1) := by decide +kernel
theorem dX10_isThree_93 : decode cX10_isThree 93 = .ok (.iload_n 2, 1) := by decide +kernel
theorem dX10_isThree_94 : decode cX10_isThree 94 = .ok (.iload_n 3, 1) := by decide +kernel
theorem dX10_isThree_95 : decode cX10_isThree 95 = .ok (.invokevirtual 203, 3) := by decide +kernel
theorem dX10_isThree_98 : decode cX10_isThree 98 = .ok (.i2l, 1) := by decide +kernel
theorem dX10_isThree_99 : decode cX10_isThree 99 = .ok (.aload_n 0, 1) := by decide +kernel
theorem dX10_isThree_100 : decode cX10_isThree 100 = .ok (.iload_n 3, 1) := by decide +kernel
theorem dX10_isThree_101 : decode cX10_isThree 101 = .ok (.iload 4, 2) := by decide +kernel
theorem dX10_isThree_103 : decode cX10_isThree 103 = .ok (.invokevirtual 203, 3) := by decide +kernel
theorem dX10_isThree_106 : decode cX10_isThree 106 = .ok (.i2l, 1) := by decide +kernel
theorem dX10_isThree_107 : decode cX10_isThree 107 = .ok (.lmul, 1) := by decide +kernel
theorem dX10_isThree_108 : decode cX10_isThree 108 = .ok (.aload_n 0, 1) := by decide +kernel
theorem dX10_isThree_109 : decode cX10_isThree 109 = .ok (.iload 4, 2) := by decide +kernel
theorem dX10_isThree_111 : decode cX10_isThree 111 = .ok (.iload_n 2, 1) := by decide +kernel
theorem dX10_isThree_112 : decode cX10_isThree 112 = .ok (.invokevirtual 203, 3) := by decide +kernel
theorem dX10_isThree_115 : decode cX10_isThree 115 = .ok (.i2l, 1) := by decide +kernel
theorem dX10_isThree_116 : decode cX10_isThree 116 = .ok (.lmul, 1) := by decide +kernel
theorem dX10_isThree_117 : decode cX10_isThree 117 = .ok (.ldc2_w 208, 3) := by decide +kernel
theorem dX10_isThree_120 : decode cX10_isThree 120 = .ok (.lload 5, 2) := by decide +kernel
theorem dX10_isThree_122 : decode cX10_isThree 122 = .ok (.lmul, 1) := by decide +kernel
theorem dX10_isThree_123 : decode cX10_isThree 123 = .ok (.lload 5, 2) := by decide +kernel
theorem dX10_isThree_125 : decode cX10_isThree 125 = .ok (.lmul, 1) := by decide +kernel
theorem dX10_isThree_126 : decode cX10_isThree 126 = .ok (.iload_n 2, 1) := by decide +kernel
theorem dX10_isThree_127 : decode cX10_isThree 127 = .ok (.iload_n 3, 1) := by decide +kernel
theorem dX10_isThree_128 : decode cX10_isThree 128 = .ok (.iload 4, 2) := by decide +kernel
theorem dX10_isThree_130 : decode cX10_isThree 130 = .ok (.invokevirtual 307, 3) := by decide +kernel
theorem dX10_isThree_133 : decode cX10_isThree 133 = .ok (.return_, 1) := by decide +kernel
theorem dX10_isThree_134 : decode cX10_isThree 134 = .ok (.iinc 4 1, 3) := by decide +kernel
theorem dX10_isThree_137 : decode cX10_isThree 137 = .ok (.goto (-114), 3) := by decide +kernel
theorem dX10_isThree_140 : decode cX10_isThree 140 = .ok (.iinc 3 1, 3) := by decide +kernel
theorem dX10_isThree_143 : decode cX10_isThree 143 = .ok (.goto (-131), 3) := by decide +kernel
theorem dX10_isThree_146 : decode cX10_isThree 146 = .ok (.iinc 2 1, 3) := by decide +kernel
theorem dX10_isThree_149 : decode cX10_isThree 149 = .ok (.goto (-147), 3) := by decide +kernel
theorem dX10_isThree_152 : decode cX10_isThree 152 = .ok (.return_, 1) := by decide +kernel
theorem dX10_lowest_0 : decode cX10_lowest 0 = .ok (.iconst 0, 1) := by decide +kernel
theorem dX10_lowest_1 : decode cX10_lowest 1 = .ok (.istore_n 1, 1) := by decide +kernel
theorem dX10_lowest_2 : decode cX10_lowest 2 = .ok (.iload_n 0, 1) := by decide +kernel
theorem dX10_lowest_3 : decode cX10_lowest 3 = .ok (.iload_n 1, 1) := by decide +kernel
theorem dX10_lowest_4 : decode cX10_lowest 4 = .ok (.invokestatic 192, 3) := by decide +kernel
theorem dX10_lowest_7 : decode cX10_lowest 7 = .ok (.ifCond .ne 9, 3) := by decide +kernel
theorem dX10_lowest_10 : decode cX10_lowest 10 = .ok (.iinc 1 1, 3) := by decide +kernel
theorem dX10_lowest_13 : decode cX10_lowest 13 = .ok (.goto (-11), 3) := by decide +kernel
theorem dX10_lowest_16 : decode cX10_lowest 16 = .ok (.iload_n 1, 1) := by decide +kernel
theorem dX10_lowest_17 : decode cX10_lowest 17 = .ok (.ireturn, 1) := by decide +kernel
theorem dX10_isOnePlace_0 : decode cX10_isOnePlace 0 = .ok (.iload_n 1, 1) := by decide +kernel
theorem dX10_isOnePlace_1 : decode cX10_isOnePlace 1 = .ok (.invokestatic 317, 3) := by decide +kernel
theorem dX10_isOnePlace_4 : decode cX10_isOnePlace 4 = .ok (.istore_n 2, 1) := by decide +kernel
theorem dX10_isOnePlace_5 : decode cX10_isOnePlace 5 = .ok (.iload_n 2, 1) := by decide +kernel
theorem dX10_isOnePlace_6 : decode cX10_isOnePlace 6 = .ok (.istore_n 3, 1) := by decide +kernel
theorem dX10_isOnePlace_7 : decode cX10_isOnePlace 7 = .ok (.iload_n 3, 1) := by decide +kernel
theorem dX10_isOnePlace_8 : decode cX10_isOnePlace 8 = .ok (.bipush 24, 2) := by decide +kernel
theorem dX10_isOnePlace_10 : decode cX10_isOnePlace 10 = .ok (.if_icmp .ge 28, 3) := by decide +kernel
theorem dX10_isOnePlace_13 : decode cX10_isOnePlace 13 = .ok (.iload_n 1, 1) := by decide +kernel
theorem dX10_isOnePlace_14 : decode cX10_isOnePlace 14 = .ok (.iload_n 3, 1) := by decide +kernel
theorem dX10_isOnePlace_15 : decode cX10_isOnePlace 15 = .ok (.invokestatic 192, 3) := by decide +kernel
theorem dX10_isOnePlace_18 : decode cX10_isOnePlace 18 = .ok (.ifCond .eq 14, 3) := by decide +kernel
theorem dX10_isOnePlace_21 : decode cX10_isOnePlace 21 = .ok (.aload_n 0, 1) := by decide +kernel
theorem dX10_isOnePlace_22 : decode cX10_isOnePlace 22 = .ok (.iload_n 2, 1) := by decide +kernel
theorem dX10_isOnePlace_23 : decode cX10_isOnePlace 23 = .ok (.iload_n 3, 1) := by decide +kernel
theorem dX10_isOnePlace_24 : decode cX10_isOnePlace 24 = .ok (.invokevirtual 203, 3) := by decide +kernel
theorem dX10_isOnePlace_27 : decode cX10_isOnePlace 27 = .ok (.ifCond .le 5, 3) := by decide +kernel
theorem dX10_isOnePlace_30 : decode cX10_isOnePlace 30 = .ok (.iconst 0, 1) := by decide +kernel
theorem dX10_isOnePlace_31 : decode cX10_isOnePlace 31 = .ok (.ireturn, 1) := by decide +kernel
theorem dX10_isOnePlace_32 : decode cX10_isOnePlace 32 = .ok (.iinc 3 1, 3) := by decide +kernel
theorem dX10_isOnePlace_35 : decode cX10_isOnePlace 35 = .ok (.goto (-28), 3) := by decide +kernel
theorem dX10_isOnePlace_38 : decode cX10_isOnePlace 38 = .ok (.iconst 1, 1) := by decide +kernel
theorem dX10_isOnePlace_39 : decode cX10_isOnePlace 39 = .ok (.ireturn, 1) := by decide +kernel
theorem dX10_ring_0 : decode cX10_ring 0 = .ok (.aload_n 0, 1) := by decide +kernel
theorem dX10_ring_1 : decode cX10_ring 1 = .ok (.iconst 0, 1) := by decide +kernel
theorem dX10_ring_2 : decode cX10_ring 2 = .ok (.putfield 70, 3) := by decide +kernel
theorem dX10_ring_5 : decode cX10_ring 5 = .ok (.aload_n 0, 1) := by decide +kernel
theorem dX10_ring_6 : decode cX10_ring 6 = .ok (.iload_n 1, 1) := by decide +kernel
theorem dX10_ring_7 : decode cX10_ring 7 = .ok (.invokevirtual 275, 3) := by decide +kernel
theorem dX10_ring_10 : decode cX10_ring 10 = .ok (.ifCond .eq 12, 3) := by decide +kernel
theorem dX10_ring_13 : decode cX10_ring 13 = .ok (.iload_n 2, 1) := by decide +kernel
theorem dX10_ring_14 : decode cX10_ring 14 = .ok (.ifCond .lt 8, 3) := by decide +kernel
theorem dX10_ring_17 : decode cX10_ring 17 = .ok (.iload_n 2, 1) := by decide +kernel
theorem dX10_ring_18 : decode cX10_ring 18 = .ok (.iconst 4, 1) := by decide +kernel
theorem dX10_ring_19 : decode cX10_ring 19 = .ok (.if_icmp .le 7, 3) := by decide +kernel
theorem dX10_ring_22 : decode cX10_ring 22 = .ok (.ldc2_w 320, 3) := by decide +kernel
theorem dX10_ring_25 : decode cX10_ring 25 = .ok (.lreturn, 1) := by decide +kernel
theorem dX10_ring_26 : decode cX10_ring 26 = .ok (.aload_n 0, 1) := by decide +kernel
theorem dX10_ring_27 : decode cX10_ring 27 = .ok (.iload_n 1, 1) := by decide +kernel
theorem dX10_ring_28 : decode cX10_ring 28 = .ok (.invokevirtual 244, 3) := by decide +kernel
theorem dX10_ring_31 : decode cX10_ring 31 = .ok (.pop, 1) := by decide +kernel
theorem dX10_ring_32 : decode cX10_ring 32 = .ok (.aload_n 0, 1) := by decide +kernel
theorem dX10_ring_33 : decode cX10_ring 33 = .ok (.getfield 217, 3) := by decide +kernel
theorem dX10_ring_36 : decode cX10_ring 36 = .ok (.istore_n 3, 1) := by decide +kernel
theorem dX10_ring_37 : decode cX10_ring 37 = .ok (.iload_n 3, 1) := by decide +kernel
theorem dX10_ring_38 : decode cX10_ring 38 = .ok (.ifCond .ne 7, 3) := by decide +kernel
theorem dX10_ring_41 : decode cX10_ring 41 = .ok (.ldc2_w 322, 3) := by decide +kernel
theorem dX10_ring_44 : decode cX10_ring 44 = .ok (.lreturn, 1) := by decide +kernel
theorem dX10_ring_45 : decode cX10_ring 45 = .ok (.aload_n 0, 1) := by decide +kernel
theorem dX10_ring_46 : decode cX10_ring 46 = .ok (.iload_n 3, 1) := by decide +kernel
theorem dX10_ring_47 : decode cX10_ring 47 = .ok (.invokevirtual 324, 3) := by decide +kernel
theorem dX10_ring_50 : decode cX10_ring 50 = .ok (.ifCond .eq 20, 3) := by decide +kernel
theorem dX10_ring_53 : decode cX10_ring 53 = .ok (.aload_n 0, 1) := by decide +kernel
theorem dX10_ring_54 : decode cX10_ring 54 = .ok (.lconst 0, 1) := by decide +kernel
theorem dX10_ring_55 : decode cX10_ring 55 = .ok (.lconst 1, 1) := by decide +kernel
theorem dX10_ring_56 : decode cX10_ring 56 = .ok (.iload_n 3, 1) := by decide +kernel
theorem dX10_ring_57 : decode cX10_ring 57 = .ok (.invokestatic 317, 3) := by decide +kernel
theorem dX10_ring_60 : decode cX10_ring 60 = .ok (.bipush (-2), 2) := by decide +kernel
theorem dX10_ring_62 : decode cX10_ring 62 = .ok (.bipush (-2), 2) := by decide +kernel
theorem dX10_ring_64 : decode cX10_ring 64 = .ok (.invokevirtual 307, 3) := by decide +kernel
theorem dX10_ring_67 : decode cX10_ring 67 = .ok (.goto 16, 3) := by decide +kernel
theorem dX10_ring_70 : decode cX10_ring 70 = .ok (.aload_n 0, 1) := by decide +kernel
theorem dX10_ring_71 : decode cX10_ring 71 = .ok (.iload_n 3, 1) := by decide +kernel
theorem dX10_ring_72 : decode cX10_ring 72 = .ok (.invokevirtual 327, 3) := by decide +kernel
theorem dX10_ring_75 : decode cX10_ring 75 = .ok (.ifCond .ne 8, 3) := by decide +kernel
theorem dX10_ring_78 : decode cX10_ring 78 = .ok (.aload_n 0, 1) := by decide +kernel
theorem dX10_ring_79 : decode cX10_ring 79 = .ok (.iload_n 3, 1) := by decide +kernel
theorem dX10_ring_80 : decode cX10_ring 80 = .ok (.invokevirtual 330, 3) := by decide +kernel
theorem dX10_ring_83 : decode cX10_ring 83 = .ok (.aload_n 0, 1) := by decide +kernel
theorem dX10_ring_84 : decode cX10_ring 84 = .ok (.getfield 63, 3) := by decide +kernel
theorem dX10_ring_87 : decode cX10_ring 87 = .ok (.iload_n 2, 1) := by decide +kernel
theorem dX10_ring_88 : decode cX10_ring 88 = .ok (.laload, 1) := by decide +kernel
theorem dX10_ring_89 : decode cX10_ring 89 = .ok (.lreturn, 1) := by decide +kernel
theorem dX10_part_0 : decode cX10_part 0 = .ok (.aload_n 0, 1) := by decide +kernel
theorem dX10_part_1 : decode cX10_part 1 = .ok (.iconst 0, 1) := by decide +kernel
theorem dX10_part_2 : decode cX10_part 2 = .ok (.putfield 70, 3) := by decide +kernel
theorem dX10_part_5 : decode cX10_part 5 = .ok (.aload_n 0, 1) := by decide +kernel
theorem dX10_part_6 : decode cX10_part 6 = .ok (.iload_n 1, 1) := by decide +kernel
theorem dX10_part_7 : decode cX10_part 7 = .ok (.invokevirtual 275, 3) := by decide +kernel
theorem dX10_part_10 : decode cX10_part 10 = .ok (.ifCond .eq 11, 3) := by decide +kernel
theorem dX10_part_13 : decode cX10_part 13 = .ok (.aload_n 0, 1) := by decide +kernel
theorem dX10_part_14 : decode cX10_part 14 = .ok (.iload_n 2, 1) := by decide +kernel
theorem dX10_part_15 : decode cX10_part 15 = .ok (.invokevirtual 266, 3) := by decide +kernel
theorem dX10_part_18 : decode cX10_part 18 = .ok (.ifCond .ne 5, 3) := by decide +kernel
theorem dX10_part_21 : decode cX10_part 21 = .ok (.iconst (-1), 1) := by decide +kernel
theorem dX10_part_22 : decode cX10_part 22 = .ok (.ireturn, 1) := by decide +kernel
theorem dX10_part_23 : decode cX10_part 23 = .ok (.aload_n 0, 1) := by decide +kernel
theorem dX10_part_24 : decode cX10_part 24 = .ok (.iload_n 1, 1) := by decide +kernel
theorem dX10_part_25 : decode cX10_part 25 = .ok (.invokevirtual 237, 3) := by decide +kernel
theorem dX10_part_28 : decode cX10_part 28 = .ok (.istore_n 3, 1) := by decide +kernel
theorem dX10_part_29 : decode cX10_part 29 = .ok (.aload_n 0, 1) := by decide +kernel
theorem dX10_part_30 : decode cX10_part 30 = .ok (.iload_n 1, 1) := by decide +kernel
theorem dX10_part_31 : decode cX10_part 31 = .ok (.invokevirtual 244, 3) := by decide +kernel
theorem dX10_part_34 : decode cX10_part 34 = .ok (.istore 4, 2) := by decide +kernel
theorem dX10_part_36 : decode cX10_part 36 = .ok (.aload_n 0, 1) := by decide +kernel
theorem dX10_part_37 : decode cX10_part 37 = .ok (.iload_n 3, 1) := by decide +kernel
theorem dX10_part_38 : decode cX10_part 38 = .ok (.iconst 1, 1) := by decide +kernel
theorem dX10_part_39 : decode cX10_part 39 = .ok (.iload_n 2, 1) := by decide +kernel
theorem dX10_part_40 : decode cX10_part 40 = .ok (.ishl, 1) := by decide +kernel
theorem dX10_part_41 : decode cX10_part 41 = .ok (.iconst (-1), 1) := by decide +kernel
theorem dX10_part_42 : decode cX10_part 42 = .ok (.ixor, 1) := by decide +kernel
theorem dX10_part_43 : decode cX10_part 43 = .ok (.iand, 1) := by decide +kernel
theorem dX10_part_44 : decode cX10_part 44 = .ok (.aload_n 0, 1) := by decide +kernel
theorem dX10_part_45 : decode cX10_part 45 = .ok (.getfield 42, 3) := by decide +kernel
theorem dX10_part_48 : decode cX10_part 48 = .ok (.iload_n 1, 1) := by decide +kernel
theorem dX10_part_49 : decode cX10_part 49 = .ok (.iaload, 1) := by decide +kernel
theorem dX10_part_50 : decode cX10_part 50 = .ok (.iconst (-1), 1) := by decide +kernel
theorem dX10_part_51 : decode cX10_part 51 = .ok (.invokevirtual 240, 3) := by decide +kernel
theorem dX10_part_54 : decode cX10_part 54 = .ok (.iload 4, 2) := by decide +kernel
theorem dX10_part_56 : decode cX10_part 56 = .ok (.aload_n 0, 1) := by decide +kernel
theorem dX10_part_57 : decode cX10_part 57 = .ok (.getfield 214, 3) := by decide +kernel
theorem dX10_part_60 : decode cX10_part 60 = .ok (.isub, 1) := by decide +kernel
theorem dX10_part_61 : decode cX10_part 61 = .ok (.ireturn, 1) := by decide +kernel
theorem dX10_second_0 : decode cX10_second 0 = .ok (.aload_n 0, 1) := by decide +kernel
theorem dX10_second_1 : decode cX10_second 1 = .ok (.iconst 0, 1) := by decide +kernel
theorem dX10_second_2 : decode cX10_second 2 = .ok (.putfield 70, 3) := by decide +kernel
theorem dX10_second_5 : decode cX10_second 5 = .ok (.aload_n 0, 1) := by decide +kernel
theorem dX10_second_6 : decode cX10_second 6 = .ok (.iload_n 1, 1) := by decide +kernel
theorem dX10_second_7 : decode cX10_second 7 = .ok (.invokevirtual 275, 3) := by decide +kernel
theorem dX10_second_10 : decode cX10_second 10 = .ok (.ifCond .ne 5, 3) := by decide +kernel
theorem dX10_second_13 : decode cX10_second 13 = .ok (.iconst (-1), 1) := by decide +kernel
theorem dX10_second_14 : decode cX10_second 14 = .ok (.ireturn, 1) := by decide +kernel
theorem dX10_second_15 : decode cX10_second 15 = .ok (.aload_n 0, 1) := by decide +kernel
theorem dX10_second_16 : decode cX10_second 16 = .ok (.iload_n 1, 1) := by decide +kernel
theorem dX10_second_17 : decode cX10_second 17 = .ok (.invokevirtual 244, 3) := by decide +kernel
theorem dX10_second_20 : decode cX10_second 20 = .ok (.pop, 1) := by decide +kernel
theorem dX10_second_21 : decode cX10_second 21 = .ok (.aload_n 0, 1) := by decide +kernel
theorem dX10_second_22 : decode cX10_second 22 = .ok (.aload_n 0, 1) := by decide +kernel
theorem dX10_second_23 : decode cX10_second 23 = .ok (.iload_n 1, 1) := by decide +kernel
theorem dX10_second_24 : decode cX10_second 24 = .ok (.invokevirtual 237, 3) := by decide +kernel
theorem dX10_second_27 : decode cX10_second 27 = .ok (.aload_n 0, 1) := by decide +kernel
theorem dX10_second_28 : decode cX10_second 28 = .ok (.getfield 217, 3) := by decide +kernel
theorem dX10_second_31 : decode cX10_second 31 = .ok (.iconst (-1), 1) := by decide +kernel
theorem dX10_second_32 : decode cX10_second 32 = .ok (.ixor, 1) := by decide +kernel
theorem dX10_second_33 : decode cX10_second 33 = .ok (.iand, 1) := by decide +kernel
theorem dX10_second_34 : decode cX10_second 34 = .ok (.aload_n 0, 1) := by decide +kernel
theorem dX10_second_35 : decode cX10_second 35 = .ok (.getfield 42, 3) := by decide +kernel
theorem dX10_second_38 : decode cX10_second 38 = .ok (.iload_n 1, 1) := by decide +kernel
theorem dX10_second_39 : decode cX10_second 39 = .ok (.iaload, 1) := by decide +kernel
theorem dX10_second_40 : decode cX10_second 40 = .ok (.iconst (-1), 1) := by decide +kernel
theorem dX10_second_41 : decode cX10_second 41 = .ok (.invokevirtual 240, 3) := by decide +kernel
theorem dX10_second_44 : decode cX10_second 44 = .ok (.aload_n 0, 1) := by decide +kernel
theorem dX10_second_45 : decode cX10_second 45 = .ok (.getfield 214, 3) := by decide +kernel
theorem dX10_second_48 : decode cX10_second 48 = .ok (.ireturn, 1) := by decide +kernel
theorem dX10_chainOf_0 : decode cX10_chainOf 0 = .ok (.iconst 1, 1) := by decide +kernel
theorem dX10_chainOf_1 : decode cX10_chainOf 1 = .ok (.iload_n 1, 1) := by decide +kernel
theorem dX10_chainOf_2 : decode cX10_chainOf 2 = .ok (.ishl, 1) := by decide +kernel
theorem dX10_chainOf_3 : decode cX10_chainOf 3 = .ok (.istore 4, 2) := by decide +kernel
theorem dX10_chainOf_5 : decode cX10_chainOf 5 = .ok (.iconst 0, 1) := by decide +kernel
theorem dX10_chainOf_6 : decode cX10_chainOf 6 = .ok (.istore 5, 2) := by decide +kernel
theorem dX10_chainOf_8 : decode cX10_chainOf 8 = .ok (.iload 5, 2) := by decide +kernel
theorem dX10_chainOf_10 : decode cX10_chainOf 10 = .ok (.iload 4, 2) := by decide +kernel
theorem dX10_chainOf_12 : decode cX10_chainOf 12 = .ok (.if_icmp .eq 66, 3) := by decide +kernel
theorem dX10_chainOf_15 : decode cX10_chainOf 15 = .ok (.iload 4, 2) := by decide +kernel
theorem dX10_chainOf_17 : decode cX10_chainOf 17 = .ok (.istore 5, 2) := by decide +kernel
theorem dX10_chainOf_19 : decode cX10_chainOf 19 = .ok (.iconst 0, 1) := by decide +kernel
theorem dX10_chainOf_20 : decode cX10_chainOf 20 = .ok (.istore 6, 2) := by decide +kernel
theorem dX10_chainOf_22 : decode cX10_chainOf 22 = .ok (.iload 6, 2) := by decide +kernel
theorem dX10_chainOf_24 : decode cX10_chainOf 24 = .ok (.bipush 24, 2) := by decide +kernel
theorem dX10_chainOf_26 : decode cX10_chainOf 26 = .ok (.if_icmp .ge 49, 3) := by decide +kernel
theorem dX10_chainOf_29 : decode cX10_chainOf 29 = .ok (.iload_n 2, 1) := by decide +kernel
theorem dX10_chainOf_30 : decode cX10_chainOf 30 = .ok (.iload 6, 2) := by decide +kernel
theorem dX10_chainOf_32 : decode cX10_chainOf 32 = .ok (.invokestatic 192, 3) := by decide +kernel
theorem dX10_chainOf_35 : decode cX10_chainOf 35 = .ok (.ifCond .eq 34, 3) := by decide +kernel
theorem dX10_chainOf_38 : decode cX10_chainOf 38 = .ok (.iload 4, 2) := by decide +kernel
theorem dX10_chainOf_40 : decode cX10_chainOf 40 = .ok (.iload 6, 2) := by decide +kernel
theorem dX10_chainOf_42 : decode cX10_chainOf 42 = .ok (.invokestatic 192, 3) := by decide +kernel
theorem dX10_chainOf_45 : decode cX10_chainOf 45 = .ok (.ifCond .ne 24, 3) := by decide +kernel
theorem dX10_chainOf_48 : decode cX10_chainOf 48 = .ok (.aload_n 0, 1) := by decide +kernel
theorem dX10_chainOf_49 : decode cX10_chainOf 49 = .ok (.iload 6, 2) := by decide +kernel
theorem dX10_chainOf_51 : decode cX10_chainOf 51 = .ok (.iload 4, 2) := by decide +kernel
theorem dX10_chainOf_53 : decode cX10_chainOf 53 = .ok (.iload_n 3, 1) := by decide +kernel
theorem dX10_chainOf_54 : decode cX10_chainOf 54 = .ok (.invokevirtual 221, 3) := by decide +kernel
theorem dX10_chainOf_57 : decode cX10_chainOf 57 = .ok (.ifCond .eq 12, 3) := by decide +kernel
theorem dX10_chainOf_60 : decode cX10_chainOf 60 = .ok (.iload 4, 2) := by decide +kernel
theorem dX10_chainOf_62 : decode cX10_chainOf 62 = .ok (.iconst 1, 1) := by decide +kernel
theorem dX10_chainOf_63 : decode cX10_chainOf 63 = .ok (.iload 6, 2) := by decide +kernel
theorem dX10_chainOf_65 : decode cX10_chainOf 65 = .ok (.ishl, 1) := by decide +kernel
theorem dX10_chainOf_66 : decode cX10_chainOf 66 = .ok (.ior, 1) := by decide +kernel
theorem dX10_chainOf_67 : decode cX10_chainOf 67 = .ok (.istore 4, 2) := by decide +kernel
theorem dX10_chainOf_69 : decode cX10_chainOf 69 = .ok (.iinc 6 1, 3) := by decide +kernel
theorem dX10_chainOf_72 : decode cX10_chainOf 72 = .ok (.goto (-50), 3) := by decide +kernel
theorem dX10_chainOf_75 : decode cX10_chainOf 75 = .ok (.goto (-67), 3) := by decide +kernel
theorem dX10_chainOf_78 : decode cX10_chainOf 78 = .ok (.iload 4, 2) := by decide +kernel
theorem dX10_chainOf_80 : decode cX10_chainOf 80 = .ok (.ireturn, 1) := by decide +kernel
theorem dX10_chains_0 : decode cX10_chains 0 = .ok (.aload_n 0, 1) := by decide +kernel
theorem dX10_chains_1 : decode cX10_chains 1 = .ok (.iconst 0, 1) := by decide +kernel
theorem dX10_chains_2 : decode cX10_chains 2 = .ok (.putfield 70, 3) := by decide +kernel
theorem dX10_chains_5 : decode cX10_chains 5 = .ok (.iload_n 1, 1) := by decide +kernel
theorem dX10_chains_6 : decode cX10_chains 6 = .ok (.invokestatic 269, 3) := by decide +kernel
theorem dX10_chains_9 : decode cX10_chains 9 = .ok (.ifCond .eq 23, 3) := by decide +kernel
theorem dX10_chains_12 : decode cX10_chains 12 = .ok (.iload_n 2, 1) := by decide +kernel
theorem dX10_chains_13 : decode cX10_chains 13 = .ok (.ifCond .lt 19, 3) := by decide +kernel
theorem dX10_chains_16 : decode cX10_chains 16 = .ok (.iload_n 2, 1) := by decide +kernel
theorem dX10_chains_17 : decode cX10_chains 17 = .ok (.sipush 300, 3) := by decide +kernel
theorem dX10_chains_20 : decode cX10_chains 20 = .ok (.if_icmp .gt 12, 3) := by decide +kernel
theorem dX10_chains_23 : decode cX10_chains 23 = .ok (.iload_n 3, 1) := by decide +kernel
theorem dX10_chains_24 : decode cX10_chains 24 = .ok (.ifCond .lt 8, 3) := by decide +kernel
theorem dX10_chains_27 : decode cX10_chains 27 = .ok (.iload_n 3, 1) := by decide +kernel
theorem dX10_chains_28 : decode cX10_chains 28 = .ok (.iconst 3, 1) := by decide +kernel
theorem dX10_chains_29 : decode cX10_chains 29 = .ok (.if_icmp .le 5, 3) := by decide +kernel
theorem dX10_chains_32 : decode cX10_chains 32 = .ok (.iconst (-1), 1) := by decide +kernel
theorem dX10_chains_33 : decode cX10_chains 33 = .ok (.ireturn, 1) := by decide +kernel
theorem dX10_chains_34 : decode cX10_chains 34 = .ok (.aload_n 0, 1) := by decide +kernel
theorem dX10_chains_35 : decode cX10_chains 35 = .ok (.iload_n 1, 1) := by decide +kernel
theorem dX10_chains_36 : decode cX10_chains 36 = .ok (.invokevirtual 196, 3) := by decide +kernel
theorem dX10_chains_39 : decode cX10_chains 39 = .ok (.istore 4, 2) := by decide +kernel
theorem dX10_chains_41 : decode cX10_chains 41 = .ok (.iload 4, 2) := by decide +kernel
theorem dX10_chains_43 : decode cX10_chains 43 = .ok (.istore 5, 2) := by decide +kernel
theorem dX10_chains_45 : decode cX10_chains 45 = .ok (.iconst 0, 1) := by decide +kernel
theorem dX10_chains_46 : decode cX10_chains 46 = .ok (.istore 6, 2) := by decide +kernel
theorem dX10_chains_48 : decode cX10_chains 48 = .ok (.iconst 0, 1) := by decide +kernel
theorem dX10_chains_49 : decode cX10_chains 49 = .ok (.istore 7, 2) := by decide +kernel
theorem dX10_chains_51 : decode cX10_chains 51 = .ok (.iconst 0, 1) := by decide +kernel
theorem dX10_chains_52 : decode cX10_chains 52 = .ok (.istore 8, 2) := by decide +kernel
theorem dX10_chains_54 : decode cX10_chains 54 = .ok (.iload 5, 2) := by decide +kernel
theorem dX10_chains_56 : decode cX10_chains 56 = .ok (.ifCond .eq 78, 3) := by decide +kernel
theorem dX10_chains_59 : decode cX10_chains 59 = .ok (.aload_n 0, 1) := by decide +kernel
theorem dX10_chains_60 : decode cX10_chains 60 = .ok (.iload 5, 2) := by decide +kernel
theorem dX10_chains_62 : decode cX10_chains 62 = .ok (.invokestatic 317, 3) := by decide +kernel
theorem dX10_chains_65 : decode cX10_chains 65 = .ok (.iload 4, 2) := by decide +kernel
theorem dX10_chains_67 : decode cX10_chains 67 = .ok (.iload_n 2, 1) := by decide +kernel
theorem dX10_chains_68 : decode cX10_chains 68 = .ok (.invokevirtual 333, 3) := by decide +kernel
theorem dX10_chains_71 : decode cX10_chains 71 = .ok (.istore 9, 2) := by decide +kernel
theorem dX10_chains_73 : decode cX10_chains 73 = .ok (.iload 5, 2) := by decide +kernel
theorem dX10_chains_75 : decode cX10_chains 75 = .ok (.iload 9, 2) := by decide +kernel
theorem dX10_chains_77 : decode cX10_chains 77 = .ok (.iconst (-1), 1) := by decide +kernel
theorem dX10_chains_78 : decode cX10_chains 78 = .ok (.ixor, 1) := by decide +kernel
theorem dX10_chains_79 : decode cX10_chains 79 = .ok (.iand, 1) := by decide +kernel
theorem dX10_chains_80 : decode cX10_chains 80 = .ok (.istore 5, 2) := by decide +kernel
theorem dX10_chains_82 : decode cX10_chains 82 = .ok (.iinc 6 1, 3) := by decide +kernel
theorem dX10_chains_85 : decode cX10_chains 85 = .ok (.iload 9, 2) := by decide +kernel
theorem dX10_chains_87 : decode cX10_chains 87 = .ok (.invokestatic 281, 3) := by decide +kernel
theorem dX10_chains_90 : decode cX10_chains 90 = .ok (.iload 7, 2) := by decide +kernel
theorem dX10_chains_92 : decode cX10_chains 92 = .ok (.if_icmp .le 11, 3) := by decide +kernel
theorem dX10_chains_95 : decode cX10_chains 95 = .ok (.iload 9, 2) := by decide +kernel
theorem dX10_chains_97 : decode cX10_chains 97 = .ok (.invokestatic 281, 3) := by decide +kernel
theorem dX10_chains_100 : decode cX10_chains 100 = .ok (.goto 5, 3) := by decide +kernel
theorem dX10_chains_103 : decode cX10_chains 103 = .ok (.iload 7, 2) := by decide +kernel
theorem dX10_chains_105 : decode cX10_chains 105 = .ok (.istore 7, 2) := by decide +kernel
theorem dX10_chains_107 : decode cX10_chains 107 = .ok (.aload_n 0, 1) := by decide +kernel
theorem dX10_chains_108 : decode cX10_chains 108 = .ok (.iload 9, 2) := by decide +kernel
theorem dX10_chains_110 : decode cX10_chains 110 = .ok (.invokevirtual 284, 3) := by decide +kernel
theorem dX10_chains_113 : decode cX10_chains 113 = .ok (.aload_n 0, 1) := by decide +kernel
theorem dX10_chains_114 : decode cX10_chains 114 = .ok (.iload 8, 2) := by decide +kernel
theorem dX10_chains_116 : decode cX10_chains 116 = .ok (.invokevirtual 284, 3) := by decide +kernel
theorem dX10_chains_119 : decode cX10_chains 119 = .ok (.if_icmp .le 8, 3) := by decide +kernel
theorem dX10_chains_122 : decode cX10_chains 122 = .ok (.iload 9, 2) := by decide +kernel
theorem dX10_chains_124 : decode cX10_chains 124 = .ok (.goto 5, 3) := by decide +kernel
theorem dX10_chains_127 : decode cX10_chains 127 = .ok (.iload 8, 2) := by decide +kernel
theorem dX10_chains_129 : decode cX10_chains 129 = .ok (.istore 8, 2) := by decide +kernel
theorem dX10_chains_131 : decode cX10_chains 131 = .ok (.goto (-77), 3) := by decide +kernel
theorem dX10_chains_134 : decode cX10_chains 134 = .ok (.iload_n 3, 1) := by decide +kernel
theorem dX10_chains_135 : decode cX10_chains 135 = .ok (.ifCond .ne 8, 3) := by decide +kernel
theorem dX10_chains_138 : decode cX10_chains 138 = .ok (.iload 6, 2) := by decide +kernel
theorem dX10_chains_140 : decode cX10_chains 140 = .ok (.goto 29, 3) := by decide +kernel
theorem dX10_chains_143 : decode cX10_chains 143 = .ok (.iload_n 3, 1) := by decide +kernel
theorem dX10_chains_144 : decode cX10_chains 144 = .ok (.iconst 1, 1) := by decide +kernel
theorem dX10_chains_145 : decode cX10_chains 145 = .ok (.if_icmp .ne 8, 3) := by decide +kernel
theorem dX10_chains_148 : decode cX10_chains 148 = .ok (.iload 7, 2) := by decide +kernel
theorem dX10_chains_150 : decode cX10_chains 150 = .ok (.goto 19, 3) := by decide +kernel
theorem dX10_chains_153 : decode cX10_chains 153 = .ok (.iload_n 3, 1) := by decide +kernel
theorem dX10_chains_154 : decode cX10_chains 154 = .ok (.iconst 2, 1) := by decide +kernel
theorem dX10_chains_155 : decode cX10_chains 155 = .ok (.if_icmp .ne 12, 3) := by decide +kernel
theorem dX10_chains_158 : decode cX10_chains 158 = .ok (.aload_n 0, 1) := by decide +kernel
theorem dX10_chains_159 : decode cX10_chains 159 = .ok (.iload 8, 2) := by decide +kernel
theorem dX10_chains_161 : decode cX10_chains 161 = .ok (.invokevirtual 284, 3) := by decide +kernel
theorem dX10_chains_164 : decode cX10_chains 164 = .ok (.goto 5, 3) := by decide +kernel
theorem dX10_chains_167 : decode cX10_chains 167 = .ok (.iload 8, 2) := by decide +kernel
theorem dX10_chains_169 : decode cX10_chains 169 = .ok (.ireturn, 1) := by decide +kernel
theorem dX10_adds_0 : decode cX10_adds 0 = .ok (.iconst 0, 1) := by decide +kernel
theorem dX10_adds_1 : decode cX10_adds 1 = .ok (.istore_n 2, 1) := by decide +kernel
theorem dX10_adds_2 : decode cX10_adds 2 = .ok (.iload_n 2, 1) := by decide +kernel
theorem dX10_adds_3 : decode cX10_adds 3 = .ok (.aload_n 0, 1) := by decide +kernel
theorem dX10_adds_4 : decode cX10_adds 4 = .ok (.getfield 336, 3) := by decide +kernel
theorem dX10_adds_7 : decode cX10_adds 7 = .ok (.if_icmp .ge 20, 3) := by decide +kernel
theorem dX10_adds_10 : decode cX10_adds 10 = .ok (.aload_n 0, 1) := by decide +kernel
theorem dX10_adds_11 : decode cX10_adds 11 = .ok (.getfield 67, 3) := by decide +kernel
theorem dX10_adds_14 : decode cX10_adds 14 = .ok (.iload_n 2, 1) := by decide +kernel
theorem dX10_adds_15 : decode cX10_adds 15 = .ok (.iaload, 1) := by decide +kernel
theorem dX10_adds_16 : decode cX10_adds 16 = .ok (.iload_n 1, 1) := by decide +kernel
theorem dX10_adds_17 : decode cX10_adds 17 = .ok (.if_icmp .ne 4, 3) := by decide +kernel
theorem dX10_adds_20 : decode cX10_adds 20 = .ok (.return_, 1) := by decide +kernel
theorem dX10_adds_21 : decode cX10_adds 21 = .ok (.iinc 2 1, 3) := by decide +kernel
theorem dX10_adds_24 : decode cX10_adds 24 = .ok (.goto (-22), 3) := by decide +kernel
theorem dX10_adds_27 : decode cX10_adds 27 = .ok (.aload_n 0, 1) := by decide +kernel
theorem dX10_adds_28 : decode cX10_adds 28 = .ok (.getfield 67, 3) := by decide +kernel
theorem dX10_adds_31 : decode cX10_adds 31 = .ok (.aload_n 0, 1) := by decide +kernel
theorem dX10_adds_32 : decode cX10_adds 32 = .ok (.getfield 336, 3) := by decide +kernel
theorem dX10_adds_35 : decode cX10_adds 35 = .ok (.iload_n 1, 1) := by decide +kernel
theorem dX10_adds_36 : decode cX10_adds 36 = .ok (.iastore, 1) := by decide +kernel
theorem dX10_adds_37 : decode cX10_adds 37 = .ok (.aload_n 0, 1) := by decide +kernel
theorem dX10_adds_38 : decode cX10_adds 38 = .ok (.dup, 1) := by decide +kernel
theorem dX10_adds_39 : decode cX10_adds 39 = .ok (.getfield 336, 3) := by decide +kernel
theorem dX10_adds_42 : decode cX10_adds 42 = .ok (.iconst 1, 1) := by decide +kernel
theorem dX10_adds_43 : decode cX10_adds 43 = .ok (.iadd, 1) := by decide +kernel
theorem dX10_adds_44 : decode cX10_adds 44 = .ok (.putfield 336, 3) := by decide +kernel
theorem dX10_adds_47 : decode cX10_adds 47 = .ok (.return_, 1) := by decide +kernel
theorem dX10_findsDiscs_0 : decode cX10_findsDiscs 0 = .ok (.aload_n 0, 1) := by decide +kernel
theorem dX10_findsDiscs_1 : decode cX10_findsDiscs 1 = .ok (.iconst 0, 1) := by decide +kernel
theorem dX10_findsDiscs_2 : decode cX10_findsDiscs 2 = .ok (.putfield 336, 3) := by decide +kernel
theorem dX10_findsDiscs_5 : decode cX10_findsDiscs 5 = .ok (.iconst 0, 1) := by decide +kernel
theorem dX10_findsDiscs_6 : decode cX10_findsDiscs 6 = .ok (.istore_n 3, 1) := by decide +kernel
theorem dX10_findsDiscs_7 : decode cX10_findsDiscs 7 = .ok (.iload_n 3, 1) := by decide +kernel
theorem dX10_findsDiscs_8 : decode cX10_findsDiscs 8 = .ok (.bipush 24, 2) := by decide +kernel
theorem dX10_findsDiscs_10 : decode cX10_findsDiscs 10 = .ok (.if_icmp .ge 100, 3) := by decide +kernel
theorem dX10_findsDiscs_13 : decode cX10_findsDiscs 13 = .ok (.iload_n 1, 1) := by decide +kernel
theorem dX10_findsDiscs_14 : decode cX10_findsDiscs 14 = .ok (.iload_n 3, 1) := by decide +kernel
theorem dX10_findsDiscs_15 : decode cX10_findsDiscs 15 = .ok (.invokestatic 192, 3) := by decide +kernel
theorem dX10_findsDiscs_18 : decode cX10_findsDiscs 18 = .ok (.ifCond .ne 6, 3) := by decide +kernel
theorem dX10_findsDiscs_21 : decode cX10_findsDiscs 21 = .ok (.goto 83, 3) := by decide +kernel
theorem dX10_findsDiscs_24 : decode cX10_findsDiscs 24 = .ok (.aload_n 0, 1) := by decide +kernel
theorem dX10_findsDiscs_25 : decode cX10_findsDiscs 25 = .ok (.aload_n 0, 1) := by decide +kernel
theorem dX10_findsDiscs_26 : decode cX10_findsDiscs 26 = .ok (.iload_n 3, 1) := by decide +kernel
theorem dX10_findsDiscs_27 : decode cX10_findsDiscs 27 = .ok (.iload_n 1, 1) := by decide +kernel
theorem dX10_findsDiscs_28 : decode cX10_findsDiscs 28 = .ok (.iload_n 2, 1) := by decide +kernel
theorem dX10_findsDiscs_29 : decode cX10_findsDiscs 29 = .ok (.invokevirtual 221, 3) := by decide +kernel
theorem dX10_findsDiscs_32 : decode cX10_findsDiscs 32 = .ok (.invokevirtual 339, 3) := by decide +kernel
theorem dX10_findsDiscs_35 : decode cX10_findsDiscs 35 = .ok (.iload_n 3, 1) := by decide +kernel
theorem dX10_findsDiscs_36 : decode cX10_findsDiscs 36 = .ok (.iconst 1, 1) := by decide +kernel
theorem dX10_findsDiscs_37 : decode cX10_findsDiscs 37 = .ok (.iadd, 1) := by decide +kernel
theorem dX10_findsDiscs_38 : decode cX10_findsDiscs 38 = .ok (.istore 4, 2) := by decide +kernel
theorem dX10_findsDiscs_40 : decode cX10_findsDiscs 40 = .ok (.iload 4, 2) := by decide +kernel
theorem dX10_findsDiscs_42 : decode cX10_findsDiscs 42 = .ok (.bipush 24, 2) := by decide +kernel
theorem dX10_findsDiscs_44 : decode cX10_findsDiscs 44 = .ok (.if_icmp .ge 60, 3) := by decide +kernel
theorem dX10_findsDiscs_47 : decode cX10_findsDiscs 47 = .ok (.iload_n 1, 1) := by decide +kernel
theorem dX10_findsDiscs_48 : decode cX10_findsDiscs 48 = .ok (.iload 4, 2) := by decide +kernel
theorem dX10_findsDiscs_50 : decode cX10_findsDiscs 50 = .ok (.invokestatic 192, 3) := by decide +kernel
theorem dX10_findsDiscs_53 : decode cX10_findsDiscs 53 = .ok (.ifCond .eq 45, 3) := by decide +kernel
theorem dX10_findsDiscs_56 : decode cX10_findsDiscs 56 = .ok (.aload_n 0, 1) := by decide +kernel
theorem dX10_findsDiscs_57 : decode cX10_findsDiscs 57 = .ok (.iload_n 3, 1) := by decide +kernel
theorem dX10_findsDiscs_58 : decode cX10_findsDiscs 58 = .ok (.iload 4, 2) := by decide +kernel
theorem dX10_findsDiscs_60 : decode cX10_findsDiscs 60 = .ok (.iload_n 2, 1) := by decide +kernel
theorem dX10_findsDiscs_61 : decode cX10_findsDiscs 61 = .ok (.invokevirtual 229, 3) := by decide +kernel
theorem dX10_findsDiscs_64 : decode cX10_findsDiscs 64 = .ok (.ifCond .ne 6, 3) := by decide +kernel
theorem dX10_findsDiscs_67 : decode cX10_findsDiscs 67 = .ok (.goto 31, 3) := by decide +kernel
theorem dX10_findsDiscs_70 : decode cX10_findsDiscs 70 = .ok (.aload_n 0, 1) := by decide +kernel
theorem dX10_findsDiscs_71 : decode cX10_findsDiscs 71 = .ok (.aload_n 0, 1) := by decide +kernel
theorem dX10_findsDiscs_72 : decode cX10_findsDiscs 72 = .ok (.iload_n 3, 1) := by decide +kernel
theorem dX10_findsDiscs_73 : decode cX10_findsDiscs 73 = .ok (.iload 4, 2) := by decide +kernel
theorem dX10_findsDiscs_75 : decode cX10_findsDiscs 75 = .ok (.iconst 0, 1) := by decide +kernel
theorem dX10_findsDiscs_76 : decode cX10_findsDiscs 76 = .ok (.iload_n 1, 1) := by decide +kernel
theorem dX10_findsDiscs_77 : decode cX10_findsDiscs 77 = .ok (.iload_n 2, 1) := by decide +kernel
theorem dX10_findsDiscs_78 : decode cX10_findsDiscs 78 = .ok (.invokevirtual 233, 3) := by decide +kernel
theorem dX10_findsDiscs_81 : decode cX10_findsDiscs 81 = .ok (.invokevirtual 339, 3) := by decide +kernel
theorem dX10_findsDiscs_84 : decode cX10_findsDiscs 84 = .ok (.aload_n 0, 1) := by decide +kernel
theorem dX10_findsDiscs_85 : decode cX10_findsDiscs 85 = .ok (.aload_n 0, 1) := by decide +kernel
theorem dX10_findsDiscs_86 : decode cX10_findsDiscs 86 = .ok (.iload_n 3, 1) := by decide +kernel
theorem dX10_findsDiscs_87 : decode cX10_findsDiscs 87 = .ok (.iload 4, 2) := by decide +kernel
theorem dX10_findsDiscs_89 : decode cX10_findsDiscs 89 = .ok (.iconst 1, 1) := by decide +kernel
theorem dX10_findsDiscs_90 : decode cX10_findsDiscs 90 = .ok (.iload_n 1, 1) := by decide +kernel
theorem dX10_findsDiscs_91 : decode cX10_findsDiscs 91 = .ok (.iload_n 2, 1) := by decide +kernel
theorem dX10_findsDiscs_92 : decode cX10_findsDiscs 92 = .ok (.invokevirtual 233, 3) := by decide +kernel
theorem dX10_findsDiscs_95 : decode cX10_findsDiscs 95 = .ok (.invokevirtual 339, 3) := by decide +kernel
theorem dX10_findsDiscs_98 : decode cX10_findsDiscs 98 = .ok (.iinc 4 1, 3) := by decide +kernel
theorem dX10_findsDiscs_101 : decode cX10_findsDiscs 101 = .ok (.goto (-61), 3) := by decide +kernel
theorem dX10_findsDiscs_104 : decode cX10_findsDiscs 104 = .ok (.iinc 3 1, 3) := by decide +kernel
theorem dX10_findsDiscs_107 : decode cX10_findsDiscs 107 = .ok (.goto (-100), 3) := by decide +kernel
theorem dX10_findsDiscs_110 : decode cX10_findsDiscs 110 = .ok (.return_, 1) := by decide +kernel
theorem dX10_two_0 : decode cX10_two 0 = .ok (.aload_n 0, 1) := by decide +kernel
theorem dX10_two_1 : decode cX10_two 1 = .ok (.iconst 0, 1) := by decide +kernel
theorem dX10_two_2 : decode cX10_two 2 = .ok (.putfield 70, 3) := by decide +kernel
theorem dX10_two_5 : decode cX10_two 5 = .ok (.iload_n 1, 1) := by decide +kernel
theorem dX10_two_6 : decode cX10_two 6 = .ok (.invokestatic 269, 3) := by decide +kernel
theorem dX10_two_9 : decode cX10_two 9 = .ok (.ifCond .eq 19, 3) := by decide +kernel
theorem dX10_two_12 : decode cX10_two 12 = .ok (.iload_n 2, 1) := by decide +kernel
theorem dX10_two_13 : decode cX10_two 13 = .ok (.invokestatic 272, 3) := by decide +kernel
theorem dX10_two_16 : decode cX10_two 16 = .ok (.ifCond .eq 12, 3) := by decide +kernel
theorem dX10_two_19 : decode cX10_two 19 = .ok (.iload_n 3, 1) := by decide +kernel
theorem dX10_two_20 : decode cX10_two 20 = .ok (.ifCond .lt 8, 3) := by decide +kernel
theorem dX10_two_23 : decode cX10_two 23 = .ok (.iload_n 3, 1) := by decide +kernel
theorem dX10_two_24 : decode cX10_two 24 = .ok (.iconst 1, 1) := by decide +kernel
theorem dX10_two_25 : decode cX10_two 25 = .ok (.if_icmp .le 5, 3) := by decide +kernel
theorem dX10_two_28 : decode cX10_two 28 = .ok (.iconst (-1), 1) := by decide +kernel
theorem dX10_two_29 : decode cX10_two 29 = .ok (.ireturn, 1) := by decide +kernel
theorem dX10_two_30 : decode cX10_two 30 = .ok (.aload_n 0, 1) := by decide +kernel
theorem dX10_two_31 : decode cX10_two 31 = .ok (.aload_n 0, 1) := by decide +kernel
theorem dX10_two_32 : decode cX10_two 32 = .ok (.iload_n 1, 1) := by decide +kernel
theorem dX10_two_33 : decode cX10_two 33 = .ok (.invokevirtual 196, 3) := by decide +kernel
theorem dX10_two_36 : decode cX10_two 36 = .ok (.iload_n 2, 1) := by decide +kernel
theorem dX10_two_37 : decode cX10_two 37 = .ok (.invokevirtual 342, 3) := by decide +kernel
theorem dX10_two_40 : decode cX10_two 40 = .ok (.aload_n 0, 1) := by decide +kernel
theorem dX10_two_41 : decode cX10_two 41 = .ok (.iconst 0, 1) := by decide +kernel
theorem dX10_two_42 : decode cX10_two 42 = .ok (.putfield 214, 3) := by decide +kernel
theorem dX10_two_45 : decode cX10_two 45 = .ok (.aload_n 0, 1) := by decide +kernel
theorem dX10_two_46 : decode cX10_two 46 = .ok (.iconst 0, 1) := by decide +kernel
theorem dX10_two_47 : decode cX10_two 47 = .ok (.putfield 217, 3) := by decide +kernel
theorem dX10_two_50 : decode cX10_two 50 = .ok (.iconst 0, 1) := by decide +kernel
theorem dX10_two_51 : decode cX10_two 51 = .ok (.istore 4, 2) := by decide +kernel
theorem dX10_two_53 : decode cX10_two 53 = .ok (.iload 4, 2) := by decide +kernel
theorem dX10_two_55 : decode cX10_two 55 = .ok (.aload_n 0, 1) := by decide +kernel
theorem dX10_two_56 : decode cX10_two 56 = .ok (.getfield 336, 3) := by decide +kernel
theorem dX10_two_59 : decode cX10_two 59 = .ok (.if_icmp .ge 95, 3) := by decide +kernel
theorem dX10_two_62 : decode cX10_two 62 = .ok (.iload 4, 2) := by decide +kernel
theorem dX10_two_64 : decode cX10_two 64 = .ok (.istore 5, 2) := by decide +kernel
theorem dX10_two_66 : decode cX10_two 66 = .ok (.iload 5, 2) := by decide +kernel
theorem dX10_two_68 : decode cX10_two 68 = .ok (.aload_n 0, 1) := by decide +kernel
theorem dX10_two_69 : decode cX10_two 69 = .ok (.getfield 336, 3) := by decide +kernel
theorem dX10_two_72 : decode cX10_two 72 = .ok (.if_icmp .ge 76, 3) := by decide +kernel
theorem dX10_two_75 : decode cX10_two 75 = .ok (.aload_n 0, 1) := by decide +kernel
theorem dX10_two_76 : decode cX10_two 76 = .ok (.getfield 67, 3) := by decide +kernel
theorem dX10_two_79 : decode cX10_two 79 = .ok (.iload 4, 2) := by decide +kernel
theorem dX10_two_81 : decode cX10_two 81 = .ok (.iaload, 1) := by decide +kernel
theorem dX10_two_82 : decode cX10_two 82 = .ok (.aload_n 0, 1) := by decide +kernel
theorem dX10_two_83 : decode cX10_two 83 = .ok (.getfield 67, 3) := by decide +kernel
theorem dX10_two_86 : decode cX10_two 86 = .ok (.iload 5, 2) := by decide +kernel
theorem dX10_two_88 : decode cX10_two 88 = .ok (.iaload, 1) := by decide +kernel
theorem dX10_two_89 : decode cX10_two 89 = .ok (.ior, 1) := by decide +kernel
theorem dX10_two_90 : decode cX10_two 90 = .ok (.istore 6, 2) := by decide +kernel
theorem dX10_two_92 : decode cX10_two 92 = .ok (.aload_n 0, 1) := by decide +kernel
theorem dX10_two_93 : decode cX10_two 93 = .ok (.iload 6, 2) := by decide +kernel
theorem dX10_two_95 : decode cX10_two 95 = .ok (.invokevirtual 284, 3) := by decide +kernel
theorem dX10_two_98 : decode cX10_two 98 = .ok (.istore 7, 2) := by decide +kernel
theorem dX10_two_100 : decode cX10_two 100 = .ok (.iload 7, 2) := by decide +kernel
theorem dX10_two_102 : decode cX10_two 102 = .ok (.aload_n 0, 1) := by decide +kernel
theorem dX10_two_103 : decode cX10_two 103 = .ok (.getfield 214, 3) := by decide +kernel
theorem dX10_two_106 : decode cX10_two 106 = .ok (.if_icmp .lt 36, 3) := by decide +kernel
theorem dX10_two_109 : decode cX10_two 109 = .ok (.iload 7, 2) := by decide +kernel
theorem dX10_two_111 : decode cX10_two 111 = .ok (.aload_n 0, 1) := by decide +kernel
theorem dX10_two_112 : decode cX10_two 112 = .ok (.getfield 214, 3) := by decide +kernel
theorem dX10_two_115 : decode cX10_two 115 = .ok (.if_icmp .ne 15, 3) := by decide +kernel
theorem dX10_two_118 : decode cX10_two 118 = .ok (.iload 6, 2) := by decide +kernel
theorem dX10_two_120 : decode cX10_two 120 = .ok (.aload_n 0, 1) := by decide +kernel
theorem dX10_two_121 : decode cX10_two 121 = .ok (.getfield 217, 3) := by decide +kernel
theorem dX10_two_124 : decode cX10_two 124 = .ok (.if_icmp .lt 6, 3) := by decide +kernel
theorem dX10_two_127 : decode cX10_two 127 = .ok (.goto 15, 3) := by decide +kernel
theorem dX10_two_130 : decode cX10_two 130 = .ok (.aload_n 0, 1) := by decide +kernel
theorem dX10_two_131 : decode cX10_two 131 = .ok (.iload 7, 2) := by decide +kernel
theorem dX10_two_133 : decode cX10_two 133 = .ok (.putfield 214, 3) := by decide +kernel
theorem dX10_two_136 : decode cX10_two 136 = .ok (.aload_n 0, 1) := by decide +kernel
theorem dX10_two_137 : decode cX10_two 137 = .ok (.iload 6, 2) := by decide +kernel
theorem dX10_two_139 : decode cX10_two 139 = .ok (.putfield 217, 3) := by decide +kernel
theorem dX10_two_142 : decode cX10_two 142 = .ok (.iinc 5 1, 3) := by decide +kernel
theorem dX10_two_145 : decode cX10_two 145 = .ok (.goto (-79), 3) := by decide +kernel
theorem dX10_two_148 : decode cX10_two 148 = .ok (.iinc 4 1, 3) := by decide +kernel
theorem dX10_two_151 : decode cX10_two 151 = .ok (.goto (-98), 3) := by decide +kernel
theorem dX10_two_154 : decode cX10_two 154 = .ok (.iload_n 3, 1) := by decide +kernel
theorem dX10_two_155 : decode cX10_two 155 = .ok (.ifCond .ne 10, 3) := by decide +kernel
theorem dX10_two_158 : decode cX10_two 158 = .ok (.aload_n 0, 1) := by decide +kernel
theorem dX10_two_159 : decode cX10_two 159 = .ok (.getfield 214, 3) := by decide +kernel
theorem dX10_two_162 : decode cX10_two 162 = .ok (.goto 7, 3) := by decide +kernel
theorem dX10_two_165 : decode cX10_two 165 = .ok (.aload_n 0, 1) := by decide +kernel
theorem dX10_two_166 : decode cX10_two 166 = .ok (.getfield 217, 3) := by decide +kernel
theorem dX10_two_169 : decode cX10_two 169 = .ok (.ireturn, 1) := by decide +kernel
theorem dX10_isCovered_0 : decode cX10_isCovered 0 = .ok (.iload_n 1, 1) := by decide +kernel
theorem dX10_isCovered_1 : decode cX10_isCovered 1 = .ok (.ifCond .ne 5, 3) := by decide +kernel
theorem dX10_isCovered_4 : decode cX10_isCovered 4 = .ok (.iconst 1, 1) := by decide +kernel
theorem dX10_isCovered_5 : decode cX10_isCovered 5 = .ok (.ireturn, 1) := by decide +kernel
theorem dX10_isCovered_6 : decode cX10_isCovered 6 = .ok (.iload_n 2, 1) := by decide +kernel
theorem dX10_isCovered_7 : decode cX10_isCovered 7 = .ok (.ifCond .ne 5, 3) := by decide +kernel
theorem dX10_isCovered_10 : decode cX10_isCovered 10 = .ok (.iconst 0, 1) := by decide +kernel
theorem dX10_isCovered_11 : decode cX10_isCovered 11 = .ok (.ireturn, 1) := by decide +kernel
theorem dX10_isCovered_12 : decode cX10_isCovered 12 = .ok (.iload_n 1, 1) := by decide +kernel
theorem dX10_isCovered_13 : decode cX10_isCovered 13 = .ok (.invokestatic 317, 3) := by decide +kernel
theorem dX10_isCovered_16 : decode cX10_isCovered 16 = .ok (.istore_n 3, 1) := by decide +kernel
theorem dX10_isCovered_17 : decode cX10_isCovered 17 = .ok (.iconst 0, 1) := by decide +kernel
theorem dX10_isCovered_18 : decode cX10_isCovered 18 = .ok (.istore 4, 2) := by decide +kernel
theorem dX10_isCovered_20 : decode cX10_isCovered 20 = .ok (.iload 4, 2) := by decide +kernel
theorem dX10_isCovered_22 : decode cX10_isCovered 22 = .ok (.aload_n 0, 1) := by decide +kernel
theorem dX10_isCovered_23 : decode cX10_isCovered 23 = .ok (.getfield 336, 3) := by decide +kernel
theorem dX10_isCovered_26 : decode cX10_isCovered 26 = .ok (.if_icmp .ge 46, 3) := by decide +kernel
theorem dX10_isCovered_29 : decode cX10_isCovered 29 = .ok (.aload_n 0, 1) := by decide +kernel
theorem dX10_isCovered_30 : decode cX10_isCovered 30 = .ok (.getfield 67, 3) := by decide +kernel
theorem dX10_isCovered_33 : decode cX10_isCovered 33 = .ok (.iload 4, 2) := by decide +kernel
theorem dX10_isCovered_35 : decode cX10_isCovered 35 = .ok (.iaload, 1) := by decide +kernel
theorem dX10_isCovered_36 : decode cX10_isCovered 36 = .ok (.iload_n 3, 1) := by decide +kernel
theorem dX10_isCovered_37 : decode cX10_isCovered 37 = .ok (.invokestatic 192, 3) := by decide +kernel
theorem dX10_isCovered_40 : decode cX10_isCovered 40 = .ok (.ifCond .eq 26, 3) := by decide +kernel
theorem dX10_isCovered_43 : decode cX10_isCovered 43 = .ok (.aload_n 0, 1) := by decide +kernel
theorem dX10_isCovered_44 : decode cX10_isCovered 44 = .ok (.iload_n 1, 1) := by decide +kernel
theorem dX10_isCovered_45 : decode cX10_isCovered 45 = .ok (.aload_n 0, 1) := by decide +kernel
theorem dX10_isCovered_46 : decode cX10_isCovered 46 = .ok (.getfield 67, 3) := by decide +kernel
theorem dX10_isCovered_49 : decode cX10_isCovered 49 = .ok (.iload 4, 2) := by decide +kernel
theorem dX10_isCovered_51 : decode cX10_isCovered 51 = .ok (.iaload, 1) := by decide +kernel
theorem dX10_isCovered_52 : decode cX10_isCovered 52 = .ok (.iconst (-1), 1) := by decide +kernel
theorem dX10_isCovered_53 : decode cX10_isCovered 53 = .ok (.ixor, 1) := by decide +kernel
theorem dX10_isCovered_54 : decode cX10_isCovered 54 = .ok (.iand, 1) := by decide +kernel
theorem dX10_isCovered_55 : decode cX10_isCovered 55 = .ok (.iload_n 2, 1) := by decide +kernel
theorem dX10_isCovered_56 : decode cX10_isCovered 56 = .ok (.iconst 1, 1) := by decide +kernel
theorem dX10_isCovered_57 : decode cX10_isCovered 57 = .ok (.isub, 1) := by decide +kernel
theorem dX10_isCovered_58 : decode cX10_isCovered 58 = .ok (.invokevirtual 345, 3) := by decide +kernel
theorem dX10_isCovered_61 : decode cX10_isCovered 61 = .ok (.ifCond .eq 5, 3) := by decide +kernel
theorem dX10_isCovered_64 : decode cX10_isCovered 64 = .ok (.iconst 1, 1) := by decide +kernel
theorem dX10_isCovered_65 : decode cX10_isCovered 65 = .ok (.ireturn, 1) := by decide +kernel
theorem dX10_isCovered_66 : decode cX10_isCovered 66 = .ok (.iinc 4 1, 3) := by decide +kernel
theorem dX10_isCovered_69 : decode cX10_isCovered 69 = .ok (.goto (-49), 3) := by decide +kernel
theorem dX10_isCovered_72 : decode cX10_isCovered 72 = .ok (.iconst 0, 1) := by decide +kernel
theorem dX10_isCovered_73 : decode cX10_isCovered 73 = .ok (.ireturn, 1) := by decide +kernel
theorem dX10_cover_0 : decode cX10_cover 0 = .ok (.aload_n 0, 1) := by decide +kernel
theorem dX10_cover_1 : decode cX10_cover 1 = .ok (.iconst 0, 1) := by decide +kernel
theorem dX10_cover_2 : decode cX10_cover 2 = .ok (.putfield 70, 3) := by decide +kernel
theorem dX10_cover_5 : decode cX10_cover 5 = .ok (.iload_n 1, 1) := by decide +kernel
theorem dX10_cover_6 : decode cX10_cover 6 = .ok (.invokestatic 269, 3) := by decide +kernel
theorem dX10_cover_9 : decode cX10_cover 9 = .ok (.ifCond .eq 10, 3) := by decide +kernel
theorem dX10_cover_12 : decode cX10_cover 12 = .ok (.iload_n 2, 1) := by decide +kernel
theorem dX10_cover_13 : decode cX10_cover 13 = .ok (.invokestatic 272, 3) := by decide +kernel
theorem dX10_cover_16 : decode cX10_cover 16 = .ok (.ifCond .ne 5, 3) := by decide +kernel
theorem dX10_cover_19 : decode cX10_cover 19 = .ok (.iconst (-1), 1) := by decide +kernel
theorem dX10_cover_20 : decode cX10_cover 20 = .ok (.ireturn, 1) := by decide +kernel
theorem dX10_cover_21 : decode cX10_cover 21 = .ok (.aload_n 0, 1) := by decide +kernel
theorem dX10_cover_22 : decode cX10_cover 22 = .ok (.iload_n 1, 1) := by decide +kernel
theorem dX10_cover_23 : decode cX10_cover 23 = .ok (.invokevirtual 196, 3) := by decide +kernel
theorem dX10_cover_26 : decode cX10_cover 26 = .ok (.istore_n 3, 1) := by decide +kernel
theorem dX10_cover_27 : decode cX10_cover 27 = .ok (.aload_n 0, 1) := by decide +kernel
theorem dX10_cover_28 : decode cX10_cover 28 = .ok (.iload_n 3, 1) := by decide +kernel
theorem dX10_cover_29 : decode cX10_cover 29 = .ok (.iload_n 2, 1) := by decide +kernel
theorem dX10_cover_30 : decode cX10_cover 30 = .ok (.invokevirtual 342, 3) := by decide +kernel
theorem dX10_cover_33 : decode cX10_cover 33 = .ok (.iconst 0, 1) := by decide +kernel
theorem dX10_cover_34 : decode cX10_cover 34 = .ok (.istore 4, 2) := by decide +kernel
theorem dX10_cover_36 : decode cX10_cover 36 = .ok (.iload 4, 2) := by decide +kernel
theorem dX10_cover_38 : decode cX10_cover 38 = .ok (.iconst 3, 1) := by decide +kernel
theorem dX10_cover_39 : decode cX10_cover 39 = .ok (.if_icmp .gt 22, 3) := by decide +kernel
theorem dX10_cover_42 : decode cX10_cover 42 = .ok (.aload_n 0, 1) := by decide +kernel
theorem dX10_cover_43 : decode cX10_cover 43 = .ok (.iload_n 3, 1) := by decide +kernel
theorem dX10_cover_44 : decode cX10_cover 44 = .ok (.iload 4, 2) := by decide +kernel
theorem dX10_cover_46 : decode cX10_cover 46 = .ok (.invokevirtual 345, 3) := by decide +kernel
theorem dX10_cover_49 : decode cX10_cover 49 = .ok (.ifCond .eq 6, 3) := by decide +kernel
theorem dX10_cover_52 : decode cX10_cover 52 = .ok (.iload 4, 2) := by decide +kernel
theorem dX10_cover_54 : decode cX10_cover 54 = .ok (.ireturn, 1) := by decide +kernel
theorem dX10_cover_55 : decode cX10_cover 55 = .ok (.iinc 4 1, 3) := by decide +kernel
theorem dX10_cover_58 : decode cX10_cover 58 = .ok (.goto (-22), 3) := by decide +kernel
theorem dX10_cover_61 : decode cX10_cover 61 = .ok (.bipush (-2), 2) := by decide +kernel
theorem dX10_cover_63 : decode cX10_cover 63 = .ok (.ireturn, 1) := by decide +kernel
theorem dX10_squareAt_0 : decode cX10_squareAt 0 = .ok (.iconst 0, 1) := by decide +kernel
theorem dX10_squareAt_1 : decode cX10_squareAt 1 = .ok (.istore 5, 2) := by decide +kernel
theorem dX10_squareAt_3 : decode cX10_squareAt 3 = .ok (.iconst 0, 1) := by decide +kernel
theorem dX10_squareAt_4 : decode cX10_squareAt 4 = .ok (.istore 6, 2) := by decide +kernel
theorem dX10_squareAt_6 : decode cX10_squareAt 6 = .ok (.iload 6, 2) := by decide +kernel
theorem dX10_squareAt_8 : decode cX10_squareAt 8 = .ok (.bipush 24, 2) := by decide +kernel
theorem dX10_squareAt_10 : decode cX10_squareAt 10 = .ok (.if_icmp .ge 96, 3) := by decide +kernel
theorem dX10_squareAt_13 : decode cX10_squareAt 13 = .ok (.iload_n 1, 1) := by decide +kernel
theorem dX10_squareAt_14 : decode cX10_squareAt 14 = .ok (.iload 6, 2) := by decide +kernel
theorem dX10_squareAt_16 : decode cX10_squareAt 16 = .ok (.invokestatic 192, 3) := by decide +kernel
theorem dX10_squareAt_19 : decode cX10_squareAt 19 = .ok (.ifCond .eq 57, 3) := by decide +kernel
theorem dX10_squareAt_22 : decode cX10_squareAt 22 = .ok (.aload_n 0, 1) := by decide +kernel
theorem dX10_squareAt_23 : decode cX10_squareAt 23 = .ok (.getfield 23, 3) := by decide +kernel
theorem dX10_squareAt_26 : decode cX10_squareAt 26 = .ok (.iload 6, 2) := by decide +kernel
theorem dX10_squareAt_28 : decode cX10_squareAt 28 = .ok (.iaload, 1) := by decide +kernel
theorem dX10_squareAt_29 : decode cX10_squareAt 29 = .ok (.iload_n 2, 1) := by decide +kernel
theorem dX10_squareAt_30 : decode cX10_squareAt 30 = .ok (.if_icmp .lt 46, 3) := by decide +kernel
theorem dX10_squareAt_33 : decode cX10_squareAt 33 = .ok (.aload_n 0, 1) := by decide +kernel
theorem dX10_squareAt_34 : decode cX10_squareAt 34 = .ok (.getfield 23, 3) := by decide +kernel
theorem dX10_squareAt_37 : decode cX10_squareAt 37 = .ok (.iload 6, 2) := by decide +kernel
theorem dX10_squareAt_39 : decode cX10_squareAt 39 = .ok (.iaload, 1) := by decide +kernel
theorem dX10_squareAt_40 : decode cX10_squareAt 40 = .ok (.iload_n 2, 1) := by decide +kernel
theorem dX10_squareAt_41 : decode cX10_squareAt 41 = .ok (.iload 4, 2) := by decide +kernel
theorem dX10_squareAt_43 : decode cX10_squareAt 43 = .ok (.iadd, 1) := by decide +kernel
theorem dX10_squareAt_44 : decode cX10_squareAt 44 = .ok (.if_icmp .gt 32, 3) := by decide +kernel
theorem dX10_squareAt_47 : decode cX10_squareAt 47 = .ok (.aload_n 0, 1) := by decide +kernel
theorem dX10_squareAt_48 : decode cX10_squareAt 48 = .ok (.getfield 26, 3) := by decide +kernel
theorem dX10_squareAt_51 : decode cX10_squareAt 51 = .ok (.iload 6, 2) := by decide +kernel
theorem dX10_squareAt_53 : decode cX10_squareAt 53 = .ok (.iaload, 1) := by decide +kernel
theorem dX10_squareAt_54 : decode cX10_squareAt 54 = .ok (.iload_n 3, 1) := by decide +kernel
theorem dX10_squareAt_55 : decode cX10_squareAt 55 = .ok (.if_icmp .lt 21, 3) := by decide +kernel
theorem dX10_squareAt_58 : decode cX10_squareAt 58 = .ok (.aload_n 0, 1) := by decide +kernel
theorem dX10_squareAt_59 : decode cX10_squareAt 59 = .ok (.getfield 26, 3) := by decide +kernel
theorem dX10_squareAt_62 : decode cX10_squareAt 62 = .ok (.iload 6, 2) := by decide +kernel
theorem dX10_squareAt_64 : decode cX10_squareAt 64 = .ok (.iaload, 1) := by decide +kernel
theorem dX10_squareAt_65 : decode cX10_squareAt 65 = .ok (.iload_n 3, 1) := by decide +kernel
theorem dX10_squareAt_66 : decode cX10_squareAt 66 = .ok (.iload 4, 2) := by decide +kernel
theorem dX10_squareAt_68 : decode cX10_squareAt 68 = .ok (.iadd, 1) := by decide +kernel
theorem dX10_squareAt_69 : decode cX10_squareAt 69 = .ok (.if_icmp .gt 7, 3) := by decide +kernel
theorem dX10_squareAt_72 : decode cX10_squareAt 72 = .ok (.iconst 1, 1) := by decide +kernel
theorem dX10_squareAt_73 : decode cX10_squareAt 73 = .ok (.goto 4, 3) := by decide +kernel
theorem dX10_squareAt_76 : decode cX10_squareAt 76 = .ok (.iconst 0, 1) := by decide +kernel
theorem dX10_squareAt_77 : decode cX10_squareAt 77 = .ok (.istore 7, 2) := by decide +kernel
theorem dX10_squareAt_79 : decode cX10_squareAt 79 = .ok (.iload 5, 2) := by decide +kernel
theorem dX10_squareAt_81 : decode cX10_squareAt 81 = .ok (.iload 7, 2) := by decide +kernel
theorem dX10_squareAt_83 : decode cX10_squareAt 83 = .ok (.ifCond .eq 13, 3) := by decide +kernel
theorem dX10_squareAt_86 : decode cX10_squareAt 86 = .ok (.aload_n 0, 1) := by decide +kernel
theorem dX10_squareAt_87 : decode cX10_squareAt 87 = .ok (.getfield 29, 3) := by decide +kernel
theorem dX10_squareAt_90 : decode cX10_squareAt 90 = .ok (.iload 6, 2) := by decide +kernel
theorem dX10_squareAt_92 : decode cX10_squareAt 92 = .ok (.iaload, 1) := by decide +kernel
theorem dX10_squareAt_93 : decode cX10_squareAt 93 = .ok (.goto 4, 3) := by decide +kernel
theorem dX10_squareAt_96 : decode cX10_squareAt 96 = .ok (.iconst 0, 1) := by decide +kernel
theorem dX10_squareAt_97 : decode cX10_squareAt 97 = .ok (.iadd, 1) := by decide +kernel
theorem dX10_squareAt_98 : decode cX10_squareAt 98 = .ok (.istore 5, 2) := by decide +kernel
theorem dX10_squareAt_100 : decode cX10_squareAt 100 = .ok (.iinc 6 1, 3) := by decide +kernel
theorem dX10_squareAt_103 : decode cX10_squareAt 103 = .ok (.goto (-97), 3) := by decide +kernel
theorem dX10_squareAt_106 : decode cX10_squareAt 106 = .ok (.iload 5, 2) := by decide +kernel
theorem dX10_squareAt_108 : decode cX10_squareAt 108 = .ok (.ireturn, 1) := by decide +kernel
theorem dX10_square_0 : decode cX10_square 0 = .ok (.aload_n 0, 1) := by decide +kernel
theorem dX10_square_1 : decode cX10_square 1 = .ok (.iconst 0, 1) := by decide +kernel
theorem dX10_square_2 : decode cX10_square 2 = .ok (.putfield 70, 3) := by decide +kernel
theorem dX10_square_5 : decode cX10_square 5 = .ok (.iload_n 1, 1) := by decide +kernel
theorem dX10_square_6 : decode cX10_square 6 = .ok (.invokestatic 269, 3) := by decide +kernel
theorem dX10_square_9 : decode cX10_square 9 = .ok (.ifCond .eq 23, 3) := by decide +kernel
theorem dX10_square_12 : decode cX10_square 12 = .ok (.iload_n 2, 1) := by decide +kernel
theorem dX10_square_13 : decode cX10_square 13 = .ok (.ifCond .lt 19, 3) := by decide +kernel
theorem dX10_square_16 : decode cX10_square 16 = .ok (.iload_n 2, 1) := by decide +kernel
theorem dX10_square_17 : decode cX10_square 17 = .ok (.sipush 299, 3) := by decide +kernel
theorem dX10_square_20 : decode cX10_square 20 = .ok (.if_icmp .gt 12, 3) := by decide +kernel
theorem dX10_square_23 : decode cX10_square 23 = .ok (.iload_n 3, 1) := by decide +kernel
theorem dX10_square_24 : decode cX10_square 24 = .ok (.ifCond .lt 8, 3) := by decide +kernel
theorem dX10_square_27 : decode cX10_square 27 = .ok (.iload_n 3, 1) := by decide +kernel
theorem dX10_square_28 : decode cX10_square 28 = .ok (.iconst 2, 1) := by decide +kernel
theorem dX10_square_29 : decode cX10_square 29 = .ok (.if_icmp .le 5, 3) := by decide +kernel
theorem dX10_square_32 : decode cX10_square 32 = .ok (.iconst (-1), 1) := by decide +kernel
theorem dX10_square_33 : decode cX10_square 33 = .ok (.ireturn, 1) := by decide +kernel
theorem dX10_square_34 : decode cX10_square 34 = .ok (.aload_n 0, 1) := by decide +kernel
theorem dX10_square_35 : decode cX10_square 35 = .ok (.iload_n 1, 1) := by decide +kernel
theorem dX10_square_36 : decode cX10_square 36 = .ok (.invokevirtual 196, 3) := by decide +kernel
theorem dX10_square_39 : decode cX10_square 39 = .ok (.istore 4, 2) := by decide +kernel
theorem dX10_square_41 : decode cX10_square 41 = .ok (.iconst 0, 1) := by decide +kernel
theorem dX10_square_42 : decode cX10_square 42 = .ok (.istore 5, 2) := by decide +kernel
theorem dX10_square_44 : decode cX10_square 44 = .ok (.bipush (-2), 2) := by decide +kernel
theorem dX10_square_46 : decode cX10_square 46 = .ok (.istore 6, 2) := by decide +kernel
theorem dX10_square_48 : decode cX10_square 48 = .ok (.bipush (-2), 2) := by decide +kernel
theorem dX10_square_50 : decode cX10_square 50 = .ok (.istore 7, 2) := by decide +kernel
theorem dX10_square_52 : decode cX10_square 52 = .ok (.iconst 0, 1) := by decide +kernel
theorem dX10_square_53 : decode cX10_square 53 = .ok (.istore 8, 2) := by decide +kernel
theorem dX10_square_55 : decode cX10_square 55 = .ok (.iload 8, 2) := by decide +kernel
theorem dX10_square_57 : decode cX10_square 57 = .ok (.bipush 24, 2) := by decide +kernel
theorem dX10_square_59 : decode cX10_square 59 = .ok (.if_icmp .ge 146, 3) := by decide +kernel
theorem dX10_square_62 : decode cX10_square 62 = .ok (.iconst 0, 1) := by decide +kernel
theorem dX10_square_63 : decode cX10_square 63 = .ok (.istore 9, 2) := by decide +kernel
theorem dX10_square_65 : decode cX10_square 65 = .ok (.iload 9, 2) := by decide +kernel
theorem dX10_square_67 : decode cX10_square 67 = .ok (.bipush 24, 2) := by decide +kernel
theorem dX10_square_69 : decode cX10_square 69 = .ok (.if_icmp .ge 130, 3) := by decide +kernel
theorem dX10_square_72 : decode cX10_square 72 = .ok (.iload 4, 2) := by decide +kernel
theorem dX10_square_74 : decode cX10_square 74 = .ok (.iload 8, 2) := by decide +kernel
theorem dX10_square_76 : decode cX10_square 76 = .ok (.invokestatic 192, 3) := by decide +kernel
theorem dX10_square_79 : decode cX10_square 79 = .ok (.ifCond .eq 114, 3) := by decide +kernel
theorem dX10_square_82 : decode cX10_square 82 = .ok (.iload 4, 2) := by decide +kernel
theorem dX10_square_84 : decode cX10_square 84 = .ok (.iload 9, 2) := by decide +kernel
theorem dX10_square_86 : decode cX10_square 86 = .ok (.invokestatic 192, 3) := by decide +kernel
theorem dX10_square_89 : decode cX10_square 89 = .ok (.ifCond .ne 6, 3) := by decide +kernel
theorem dX10_square_92 : decode cX10_square 92 = .ok (.goto 101, 3) := by decide +kernel
theorem dX10_square_95 : decode cX10_square 95 = .ok (.aload_n 0, 1) := by decide +kernel
theorem dX10_square_96 : decode cX10_square 96 = .ok (.iload 4, 2) := by decide +kernel
theorem dX10_square_98 : decode cX10_square 98 = .ok (.aload_n 0, 1) := by decide +kernel
theorem dX10_square_99 : decode cX10_square 99 = .ok (.getfield 23, 3) := by decide +kernel
theorem dX10_square_102 : decode cX10_square 102 = .ok (.iload 8, 2) := by decide +kernel
theorem dX10_square_104 : decode cX10_square 104 = .ok (.iaload, 1) := by decide +kernel
theorem dX10_square_105 : decode cX10_square 105 = .ok (.aload_n 0, 1) := by decide +kernel
theorem dX10_square_106 : decode cX10_square 106 = .ok (.getfield 26, 3) := by decide +kernel
theorem dX10_square_109 : decode cX10_square 109 = .ok (.iload 9, 2) := by decide +kernel
theorem dX10_square_111 : decode cX10_square 111 = .ok (.iaload, 1) := by decide +kernel
theorem dX10_square_112 : decode cX10_square 112 = .ok (.iload_n 2, 1) := by decide +kernel
theorem dX10_square_113 : decode cX10_square 113 = .ok (.invokevirtual 348, 3) := by decide +kernel
theorem dX10_square_116 : decode cX10_square 116 = .ok (.istore 10, 2) := by decide +kernel
theorem dX10_square_118 : decode cX10_square 118 = .ok (.iload 10, 2) := by decide +kernel
theorem dX10_square_120 : decode cX10_square 120 = .ok (.iload 5, 2) := by decide +kernel
theorem dX10_square_122 : decode cX10_square 122 = .ok (.if_icmp .lt 71, 3) := by decide +kernel
theorem dX10_square_125 : decode cX10_square 125 = .ok (.iload 10, 2) := by decide +kernel
theorem dX10_square_127 : decode cX10_square 127 = .ok (.iload 5, 2) := by decide +kernel
theorem dX10_square_129 : decode cX10_square 129 = .ok (.if_icmp .ne 42, 3) := by decide +kernel
theorem dX10_square_132 : decode cX10_square 132 = .ok (.aload_n 0, 1) := by decide +kernel
theorem dX10_square_133 : decode cX10_square 133 = .ok (.getfield 23, 3) := by decide +kernel
theorem dX10_square_136 : decode cX10_square 136 = .ok (.iload 8, 2) := by decide +kernel
theorem dX10_square_138 : decode cX10_square 138 = .ok (.iaload, 1) := by decide +kernel
theorem dX10_square_139 : decode cX10_square 139 = .ok (.iload 6, 2) := by decide +kernel
theorem dX10_square_141 : decode cX10_square 141 = .ok (.if_icmp .gt 52, 3) := by decide +kernel
theorem dX10_square_144 : decode cX10_square 144 = .ok (.aload_n 0, 1) := by decide +kernel
theorem dX10_square_145 : decode cX10_square 145 = .ok (.getfield 23, 3) := by decide +kernel
theorem dX10_square_148 : decode cX10_square 148 = .ok (.iload 8, 2) := by decide +kernel
theorem dX10_square_150 : decode cX10_square 150 = .ok (.iaload, 1) := by decide +kernel
theorem dX10_square_151 : decode cX10_square 151 = .ok (.iload 6, 2) := by decide +kernel
theorem dX10_square_153 : decode cX10_square 153 = .ok (.if_icmp .ne 18, 3) := by decide +kernel
theorem dX10_square_156 : decode cX10_square 156 = .ok (.aload_n 0, 1) := by decide +kernel
theorem dX10_square_157 : decode cX10_square 157 = .ok (.getfield 26, 3) := by decide +kernel
theorem dX10_square_160 : decode cX10_square 160 = .ok (.iload 9, 2) := by decide +kernel
theorem dX10_square_162 : decode cX10_square 162 = .ok (.iaload, 1) := by decide +kernel
theorem dX10_square_163 : decode cX10_square 163 = .ok (.iload 7, 2) := by decide +kernel
theorem dX10_square_165 : decode cX10_square 165 = .ok (.if_icmp .lt 6, 3) := by decide +kernel
theorem dX10_square_168 : decode cX10_square 168 = .ok (.goto 25, 3) := by decide +kernel
theorem dX10_square_171 : decode cX10_square 171 = .ok (.iload 10, 2) := by decide +kernel
theorem dX10_square_173 : decode cX10_square 173 = .ok (.istore 5, 2) := by decide +kernel
theorem dX10_square_175 : decode cX10_square 175 = .ok (.aload_n 0, 1) := by decide +kernel
theorem dX10_square_176 : decode cX10_square 176 = .ok (.getfield 23, 3) := by decide +kernel
theorem dX10_square_179 : decode cX10_square 179 = .ok (.iload 8, 2) := by decide +kernel
theorem dX10_square_181 : decode cX10_square 181 = .ok (.iaload, 1) := by decide +kernel
theorem dX10_square_182 : decode cX10_square 182 = .ok (.istore 6, 2) := by decide +kernel
theorem dX10_square_184 : decode cX10_square 184 = .ok (.aload_n 0, 1) := by decide +kernel
theorem dX10_square_185 : decode cX10_square 185 = .ok (.getfield 26, 3) := by decide +kernel
theorem dX10_square_188 : decode cX10_square 188 = .ok (.iload 9, 2) := by decide +kernel
theorem dX10_square_190 : decode cX10_square 190 = .ok (.iaload, 1) := by decide +kernel
theorem dX10_square_191 : decode cX10_square 191 = .ok (.istore 7, 2) := by decide +kernel
theorem dX10_square_193 : decode cX10_square 193 = .ok (.iinc 9 1, 3) := by decide +kernel
theorem dX10_square_196 : decode cX10_square 196 = .ok (.goto (-131), 3) := by decide +kernel
theorem dX10_square_199 : decode cX10_square 199 = .ok (.iinc 8 1, 3) := by decide +kernel
theorem dX10_square_202 : decode cX10_square 202 = .ok (.goto (-147), 3) := by decide +kernel
theorem dX10_square_205 : decode cX10_square 205 = .ok (.iload_n 3, 1) := by decide +kernel
theorem dX10_square_206 : decode cX10_square 206 = .ok (.ifCond .ne 8, 3) := by decide +kernel
theorem dX10_square_209 : decode cX10_square 209 = .ok (.iload 5, 2) := by decide +kernel
theorem dX10_square_211 : decode cX10_square 211 = .ok (.goto 15, 3) := by decide +kernel
theorem dX10_square_214 : decode cX10_square 214 = .ok (.iload_n 3, 1) := by decide +kernel
theorem dX10_square_215 : decode cX10_square 215 = .ok (.iconst 1, 1) := by decide +kernel
theorem dX10_square_216 : decode cX10_square 216 = .ok (.if_icmp .ne 8, 3) := by decide +kernel
theorem dX10_square_219 : decode cX10_square 219 = .ok (.iload 6, 2) := by decide +kernel
theorem dX10_square_221 : decode cX10_square 221 = .ok (.goto 5, 3) := by decide +kernel
theorem dX10_square_224 : decode cX10_square 224 = .ok (.iload 7, 2) := by decide +kernel
theorem dX10_square_226 : decode cX10_square 226 = .ok (.ireturn, 1) := by decide +kernel
theorem dX10_alarm_0 : decode cX10_alarm 0 = .ok (.aload_n 0, 1) := by decide +kernel
theorem dX10_alarm_1 : decode cX10_alarm 1 = .ok (.iconst 0, 1) := by decide +kernel
theorem dX10_alarm_2 : decode cX10_alarm 2 = .ok (.putfield 70, 3) := by decide +kernel
theorem dX10_alarm_5 : decode cX10_alarm 5 = .ok (.iload_n 1, 1) := by decide +kernel
theorem dX10_alarm_6 : decode cX10_alarm 6 = .ok (.ifCond .lt 12, 3) := by decide +kernel
theorem dX10_alarm_9 : decode cX10_alarm 9 = .ok (.iload_n 2, 1) := by decide +kernel
theorem dX10_alarm_10 : decode cX10_alarm 10 = .ok (.ifCond .lt 8, 3) := by decide +kernel
theorem dX10_alarm_13 : decode cX10_alarm 13 = .ok (.iload_n 2, 1) := by decide +kernel
theorem dX10_alarm_14 : decode cX10_alarm 14 = .ok (.iconst 2, 1) := by decide +kernel
theorem dX10_alarm_15 : decode cX10_alarm 15 = .ok (.if_icmp .le 5, 3) := by decide +kernel
theorem dX10_alarm_18 : decode cX10_alarm 18 = .ok (.iconst (-1), 1) := by decide +kernel
theorem dX10_alarm_19 : decode cX10_alarm 19 = .ok (.ireturn, 1) := by decide +kernel
theorem dX10_alarm_20 : decode cX10_alarm 20 = .ok (.iload_n 1, 1) := by decide +kernel
theorem dX10_alarm_21 : decode cX10_alarm 21 = .ok (.aload_n 0, 1) := by decide +kernel
theorem dX10_alarm_22 : decode cX10_alarm 22 = .ok (.getfield 183, 3) := by decide +kernel
theorem dX10_alarm_25 : decode cX10_alarm 25 = .ok (.if_icmp .ge 16, 3) := by decide +kernel
theorem dX10_alarm_28 : decode cX10_alarm 28 = .ok (.aload_n 0, 1) := by decide +kernel
theorem dX10_alarm_29 : decode cX10_alarm 29 = .ok (.getfield 57, 3) := by decide +kernel
theorem dX10_alarm_32 : decode cX10_alarm 32 = .ok (.iconst 3, 1) := by decide +kernel
theorem dX10_alarm_33 : decode cX10_alarm 33 = .ok (.iload_n 1, 1) := by decide +kernel
theorem dX10_alarm_34 : decode cX10_alarm 34 = .ok (.imul, 1) := by decide +kernel
theorem dX10_alarm_35 : decode cX10_alarm 35 = .ok (.iload_n 2, 1) := by decide +kernel
theorem dX10_alarm_36 : decode cX10_alarm 36 = .ok (.iadd, 1) := by decide +kernel
theorem dX10_alarm_37 : decode cX10_alarm 37 = .ok (.iaload, 1) := by decide +kernel
theorem dX10_alarm_38 : decode cX10_alarm 38 = .ok (.goto 5, 3) := by decide +kernel
theorem dX10_alarm_41 : decode cX10_alarm 41 = .ok (.bipush (-2), 2) := by decide +kernel
theorem dX10_alarm_43 : decode cX10_alarm 43 = .ok (.ireturn, 1) := by decide +kernel
theorem dX10_act_0 : decode cX10_act 0 = .ok (.aload_n 0, 1) := by decide +kernel
theorem dX10_act_1 : decode cX10_act 1 = .ok (.iconst 0, 1) := by decide +kernel
theorem dX10_act_2 : decode cX10_act 2 = .ok (.putfield 70, 3) := by decide +kernel
theorem dX10_act_5 : decode cX10_act 5 = .ok (.iload_n 1, 1) := by decide +kernel
theorem dX10_act_6 : decode cX10_act 6 = .ok (.ifCond .lt 33, 3) := by decide +kernel
theorem dX10_act_9 : decode cX10_act 9 = .ok (.iload_n 1, 1) := by decide +kernel
theorem dX10_act_10 : decode cX10_act 10 = .ok (.aload_n 0, 1) := by decide +kernel
theorem dX10_act_11 : decode cX10_act 11 = .ok (.getfield 186, 3) := by decide +kernel
theorem dX10_act_14 : decode cX10_act 14 = .ok (.if_icmp .ge 25, 3) := by decide +kernel
theorem dX10_act_17 : decode cX10_act 17 = .ok (.iload_n 2, 1) := by decide +kernel
theorem dX10_act_18 : decode cX10_act 18 = .ok (.ifCond .lt 21, 3) := by decide +kernel
theorem dX10_act_21 : decode cX10_act 21 = .ok (.iload_n 2, 1) := by decide +kernel
theorem dX10_act_22 : decode cX10_act 22 = .ok (.iconst 2, 1) := by decide +kernel
theorem dX10_act_23 : decode cX10_act 23 = .ok (.if_icmp .gt 16, 3) := by decide +kernel
theorem dX10_act_26 : decode cX10_act 26 = .ok (.aload_n 0, 1) := by decide +kernel
theorem dX10_act_27 : decode cX10_act 27 = .ok (.getfield 60, 3) := by decide +kernel
theorem dX10_act_30 : decode cX10_act 30 = .ok (.iconst 3, 1) := by decide +kernel
theorem dX10_act_31 : decode cX10_act 31 = .ok (.iload_n 1, 1) := by decide +kernel
theorem dX10_act_32 : decode cX10_act 32 = .ok (.imul, 1) := by decide +kernel
theorem dX10_act_33 : decode cX10_act 33 = .ok (.iload_n 2, 1) := by decide +kernel
theorem dX10_act_34 : decode cX10_act 34 = .ok (.iadd, 1) := by decide +kernel
theorem dX10_act_35 : decode cX10_act 35 = .ok (.iaload, 1) := by decide +kernel
theorem dX10_act_36 : decode cX10_act 36 = .ok (.goto 6, 3) := by decide +kernel
theorem dX10_act_39 : decode cX10_act 39 = .ok (.ldc_w 287, 3) := by decide +kernel
theorem dX10_act_42 : decode cX10_act 42 = .ok (.ireturn, 1) := by decide +kernel
theorem dX10_tightest_0 : decode cX10_tightest 0 = .ok (.aload_n 0, 1) := by decide +kernel
theorem dX10_tightest_1 : decode cX10_tightest 1 = .ok (.iconst 0, 1) := by decide +kernel
theorem dX10_tightest_2 : decode cX10_tightest 2 = .ok (.putfield 70, 3) := by decide +kernel
theorem dX10_tightest_5 : decode cX10_tightest 5 = .ok (.bipush (-2), 2) := by decide +kernel
theorem dX10_tightest_7 : decode cX10_tightest 7 = .ok (.istore_n 1, 1) := by decide +kernel
theorem dX10_tightest_8 : decode cX10_tightest 8 = .ok (.lconst 0, 1) := by decide +kernel
theorem dX10_tightest_9 : decode cX10_tightest 9 = .ok (.lstore_n 2, 1) := by decide +kernel
theorem dX10_tightest_10 : decode cX10_tightest 10 = .ok (.lconst 1, 1) := by decide +kernel
theorem dX10_tightest_11 : decode cX10_tightest 11 = .ok (.lstore 4, 2) := by decide +kernel
theorem dX10_tightest_13 : decode cX10_tightest 13 = .ok (.iconst 0, 1) := by decide +kernel
theorem dX10_tightest_14 : decode cX10_tightest 14 = .ok (.istore 6, 2) := by decide +kernel
theorem dX10_tightest_16 : decode cX10_tightest 16 = .ok (.iload 6, 2) := by decide +kernel
theorem dX10_tightest_18 : decode cX10_tightest 18 = .ok (.aload_n 0, 1) := by decide +kernel
theorem dX10_tightest_19 : decode cX10_tightest 19 = .ok (.getfield 169, 3) := by decide +kernel
theorem dX10_tightest_22 : decode cX10_tightest 22 = .ok (.if_icmp .ge 62, 3) := by decide +kernel
theorem dX10_tightest_25 : decode cX10_tightest 25 = .ok (.aload_n 0, 1) := by decide +kernel
theorem dX10_tightest_26 : decode cX10_tightest 26 = .ok (.iload 6, 2) := by decide +kernel
theorem dX10_tightest_28 : decode cX10_tightest 28 = .ok (.invokevirtual 244, 3) := by decide +kernel
theorem dX10_tightest_31 : decode cX10_tightest 31 = .ok (.i2l, 1) := by decide +kernel
theorem dX10_tightest_32 : decode cX10_tightest 32 = .ok (.lstore 7, 2) := by decide +kernel
theorem dX10_tightest_34 : decode cX10_tightest 34 = .ok (.iload_n 1, 1) := by decide +kernel
theorem dX10_tightest_35 : decode cX10_tightest 35 = .ok (.bipush (-2), 2) := by decide +kernel
theorem dX10_tightest_37 : decode cX10_tightest 37 = .ok (.if_icmp .eq 25, 3) := by decide +kernel
theorem dX10_tightest_40 : decode cX10_tightest 40 = .ok (.lload 7, 2) := by decide +kernel
theorem dX10_tightest_42 : decode cX10_tightest 42 = .ok (.lload 4, 2) := by decide +kernel
theorem dX10_tightest_44 : decode cX10_tightest 44 = .ok (.lmul, 1) := by decide +kernel
theorem dX10_tightest_45 : decode cX10_tightest 45 = .ok (.lload_n 2, 1) := by decide +kernel
theorem dX10_tightest_46 : decode cX10_tightest 46 = .ok (.aload_n 0, 1) := by decide +kernel
theorem dX10_tightest_47 : decode cX10_tightest 47 = .ok (.getfield 45, 3) := by decide +kernel
theorem dX10_tightest_50 : decode cX10_tightest 50 = .ok (.iload 6, 2) := by decide +kernel
theorem dX10_tightest_52 : decode cX10_tightest 52 = .ok (.iaload, 1) := by decide +kernel
theorem dX10_tightest_53 : decode cX10_tightest 53 = .ok (.i2l, 1) := by decide +kernel
theorem dX10_tightest_54 : decode cX10_tightest 54 = .ok (.lmul, 1) := by decide +kernel
theorem dX10_tightest_55 : decode cX10_tightest 55 = .ok (.lcmp, 1) := by decide +kernel
theorem dX10_tightest_56 : decode cX10_tightest 56 = .ok (.ifCond .gt 6, 3) := by decide +kernel
theorem dX10_tightest_59 : decode cX10_tightest 59 = .ok (.goto 19, 3) := by decide +kernel
theorem dX10_tightest_62 : decode cX10_tightest 62 = .ok (.iload 6, 2) := by decide +kernel
theorem dX10_tightest_64 : decode cX10_tightest 64 = .ok (.istore_n 1, 1) := by decide +kernel
theorem dX10_tightest_65 : decode cX10_tightest 65 = .ok (.lload 7, 2) := by decide +kernel
theorem dX10_tightest_67 : decode cX10_tightest 67 = .ok (.lstore_n 2, 1) := by decide +kernel
theorem dX10_tightest_68 : decode cX10_tightest 68 = .ok (.aload_n 0, 1) := by decide +kernel
theorem dX10_tightest_69 : decode cX10_tightest 69 = .ok (.getfield 45, 3) := by decide +kernel
theorem dX10_tightest_72 : decode cX10_tightest 72 = .ok (.iload 6, 2) := by decide +kernel
theorem dX10_tightest_74 : decode cX10_tightest 74 = .ok (.iaload, 1) := by decide +kernel
theorem dX10_tightest_75 : decode cX10_tightest 75 = .ok (.i2l, 1) := by decide +kernel
theorem dX10_tightest_76 : decode cX10_tightest 76 = .ok (.lstore 4, 2) := by decide +kernel
theorem dX10_tightest_78 : decode cX10_tightest 78 = .ok (.iinc 6 1, 3) := by decide +kernel
theorem dX10_tightest_81 : decode cX10_tightest 81 = .ok (.goto (-65), 3) := by decide +kernel
theorem dX10_tightest_84 : decode cX10_tightest 84 = .ok (.iload_n 1, 1) := by decide +kernel
theorem dX10_tightest_85 : decode cX10_tightest 85 = .ok (.ireturn, 1) := by decide +kernel
theorem dX10_together_0 : decode cX10_together 0 = .ok (.aload_n 0, 1) := by decide +kernel
theorem dX10_together_1 : decode cX10_together 1 = .ok (.iconst 0, 1) := by decide +kernel
theorem dX10_together_2 : decode cX10_together 2 = .ok (.putfield 70, 3) := by decide +kernel
theorem dX10_together_5 : decode cX10_together 5 = .ok (.aload_n 0, 1) := by decide +kernel
theorem dX10_together_6 : decode cX10_together 6 = .ok (.iload_n 1, 1) := by decide +kernel
theorem dX10_together_7 : decode cX10_together 7 = .ok (.invokevirtual 266, 3) := by decide +kernel
theorem dX10_together_10 : decode cX10_together 10 = .ok (.ifCond .eq 23, 3) := by decide +kernel
theorem dX10_together_13 : decode cX10_together 13 = .ok (.aload_n 0, 1) := by decide +kernel
theorem dX10_together_14 : decode cX10_together 14 = .ok (.iload_n 2, 1) := by decide +kernel
theorem dX10_together_15 : decode cX10_together 15 = .ok (.invokevirtual 266, 3) := by decide +kernel
theorem dX10_together_18 : decode cX10_together 18 = .ok (.ifCond .eq 15, 3) := by decide +kernel
theorem dX10_together_21 : decode cX10_together 21 = .ok (.iload_n 1, 1) := by decide +kernel
theorem dX10_together_22 : decode cX10_together 22 = .ok (.iload_n 2, 1) := by decide +kernel
theorem dX10_together_23 : decode cX10_together 23 = .ok (.if_icmp .eq 10, 3) := by decide +kernel
theorem dX10_together_26 : decode cX10_together 26 = .ok (.iload_n 3, 1) := by decide +kernel
theorem dX10_together_27 : decode cX10_together 27 = .ok (.invokestatic 272, 3) := by decide +kernel
theorem dX10_together_30 : decode cX10_together 30 = .ok (.ifCond .ne 5, 3) := by decide +kernel
theorem dX10_together_33 : decode cX10_together 33 = .ok (.iconst (-1), 1) := by decide +kernel
theorem dX10_together_34 : decode cX10_together 34 = .ok (.ireturn, 1) := by decide +kernel
theorem dX10_together_35 : decode cX10_together 35 = .ok (.aload_n 0, 1) := by decide +kernel
theorem dX10_together_36 : decode cX10_together 36 = .ok (.iload_n 1, 1) := by decide +kernel
theorem dX10_together_37 : decode cX10_together 37 = .ok (.iload_n 2, 1) := by decide +kernel
theorem dX10_together_38 : decode cX10_together 38 = .ok (.invokevirtual 203, 3) := by decide +kernel
theorem dX10_together_41 : decode cX10_together 41 = .ok (.iconst 4, 1) := by decide +kernel
theorem dX10_together_42 : decode cX10_together 42 = .ok (.iload_n 3, 1) := by decide +kernel
theorem dX10_together_43 : decode cX10_together 43 = .ok (.imul, 1) := by decide +kernel
theorem dX10_together_44 : decode cX10_together 44 = .ok (.iload_n 3, 1) := by decide +kernel
theorem dX10_together_45 : decode cX10_together 45 = .ok (.imul, 1) := by decide +kernel
theorem dX10_together_46 : decode cX10_together 46 = .ok (.if_icmp .gt 7, 3) := by decide +kernel
theorem dX10_together_49 : decode cX10_together 49 = .ok (.iconst 1, 1) := by decide +kernel
theorem dX10_together_50 : decode cX10_together 50 = .ok (.goto 4, 3) := by decide +kernel
theorem dX10_together_53 : decode cX10_together 53 = .ok (.iconst 0, 1) := by decide +kernel
theorem dX10_together_54 : decode cX10_together 54 = .ok (.ireturn, 1) := by decide +kernel
theorem dX10_heaviest_0 : decode cX10_heaviest 0 = .ok (.aload_n 0, 1) := by decide +kernel
theorem dX10_heaviest_1 : decode cX10_heaviest 1 = .ok (.iconst 0, 1) := by decide +kernel
theorem dX10_heaviest_2 : decode cX10_heaviest 2 = .ok (.putfield 70, 3) := by decide +kernel
theorem dX10_heaviest_5 : decode cX10_heaviest 5 = .ok (.iload_n 1, 1) := by decide +kernel
theorem dX10_heaviest_6 : decode cX10_heaviest 6 = .ok (.invokestatic 269, 3) := by decide +kernel
theorem dX10_heaviest_9 : decode cX10_heaviest 9 = .ok (.ifCond .eq 10, 3) := by decide +kernel
theorem dX10_heaviest_12 : decode cX10_heaviest 12 = .ok (.iload_n 2, 1) := by decide +kernel
theorem dX10_heaviest_13 : decode cX10_heaviest 13 = .ok (.invokestatic 272, 3) := by decide +kernel
theorem dX10_heaviest_16 : decode cX10_heaviest 16 = .ok (.ifCond .ne 5, 3) := by decide +kernel
theorem dX10_heaviest_19 : decode cX10_heaviest 19 = .ok (.iconst (-1), 1) := by decide +kernel
theorem dX10_heaviest_20 : decode cX10_heaviest 20 = .ok (.ireturn, 1) := by decide +kernel
theorem dX10_heaviest_21 : decode cX10_heaviest 21 = .ok (.aload_n 0, 1) := by decide +kernel
theorem dX10_heaviest_22 : decode cX10_heaviest 22 = .ok (.aload_n 0, 1) := by decide +kernel
theorem dX10_heaviest_23 : decode cX10_heaviest 23 = .ok (.iload_n 1, 1) := by decide +kernel
theorem dX10_heaviest_24 : decode cX10_heaviest 24 = .ok (.invokevirtual 196, 3) := by decide +kernel
theorem dX10_heaviest_27 : decode cX10_heaviest 27 = .ok (.iload_n 2, 1) := by decide +kernel
theorem dX10_heaviest_28 : decode cX10_heaviest 28 = .ok (.iconst (-1), 1) := by decide +kernel
theorem dX10_heaviest_29 : decode cX10_heaviest 29 = .ok (.invokevirtual 240, 3) := by decide +kernel
theorem dX10_heaviest_32 : decode cX10_heaviest 32 = .ok (.aload_n 0, 1) := by decide +kernel
theorem dX10_heaviest_33 : decode cX10_heaviest 33 = .ok (.getfield 214, 3) := by decide +kernel
theorem dX10_heaviest_36 : decode cX10_heaviest 36 = .ok (.ireturn, 1) := by decide +kernel
theorem dX10_heaviestSet_0 : decode cX10_heaviestSet 0 = .ok (.aload_n 0, 1) := by decide +kernel
theorem dX10_heaviestSet_1 : decode cX10_heaviestSet 1 = .ok (.iconst 0, 1) := by decide +kernel
theorem dX10_heaviestSet_2 : decode cX10_heaviestSet 2 = .ok (.putfield 70, 3) := by decide +kernel
theorem dX10_heaviestSet_5 : decode cX10_heaviestSet 5 = .ok (.iload_n 1, 1) := by decide +kernel
theorem dX10_heaviestSet_6 : decode cX10_heaviestSet 6 = .ok (.invokestatic 269, 3) := by decide +kernel
theorem dX10_heaviestSet_9 : decode cX10_heaviestSet 9 = .ok (.ifCond .eq 10, 3) := by decide +kernel
theorem dX10_heaviestSet_12 : decode cX10_heaviestSet 12 = .ok (.iload_n 2, 1) := by decide +kernel
theorem dX10_heaviestSet_13 : decode cX10_heaviestSet 13 = .ok (.invokestatic 272, 3) := by decide +kernel
theorem dX10_heaviestSet_16 : decode cX10_heaviestSet 16 = .ok (.ifCond .ne 5, 3) := by decide +kernel
theorem dX10_heaviestSet_19 : decode cX10_heaviestSet 19 = .ok (.iconst (-1), 1) := by decide +kernel
theorem dX10_heaviestSet_20 : decode cX10_heaviestSet 20 = .ok (.ireturn, 1) := by decide +kernel
theorem dX10_heaviestSet_21 : decode cX10_heaviestSet 21 = .ok (.aload_n 0, 1) := by decide +kernel
theorem dX10_heaviestSet_22 : decode cX10_heaviestSet 22 = .ok (.aload_n 0, 1) := by decide +kernel
theorem dX10_heaviestSet_23 : decode cX10_heaviestSet 23 = .ok (.iload_n 1, 1) := by decide +kernel
theorem dX10_heaviestSet_24 : decode cX10_heaviestSet 24 = .ok (.invokevirtual 196, 3) := by decide +kernel
theorem dX10_heaviestSet_27 : decode cX10_heaviestSet 27 = .ok (.iload_n 2, 1) := by decide +kernel
theorem dX10_heaviestSet_28 : decode cX10_heaviestSet 28 = .ok (.iconst (-1), 1) := by decide +kernel
theorem dX10_heaviestSet_29 : decode cX10_heaviestSet 29 = .ok (.invokevirtual 240, 3) := by decide +kernel
theorem dX10_heaviestSet_32 : decode cX10_heaviestSet 32 = .ok (.aload_n 0, 1) := by decide +kernel
theorem dX10_heaviestSet_33 : decode cX10_heaviestSet 33 = .ok (.getfield 217, 3) := by decide +kernel
theorem dX10_heaviestSet_36 : decode cX10_heaviestSet 36 = .ok (.ireturn, 1) := by decide +kernel
theorem dX10_radiusFor_0 : decode cX10_radiusFor 0 = .ok (.aload_n 0, 1) := by decide +kernel
theorem dX10_radiusFor_1 : decode cX10_radiusFor 1 = .ok (.iconst 0, 1) := by decide +kernel
theorem dX10_radiusFor_2 : decode cX10_radiusFor 2 = .ok (.putfield 70, 3) := by decide +kernel
theorem dX10_radiusFor_5 : decode cX10_radiusFor 5 = .ok (.iload_n 1, 1) := by decide +kernel
theorem dX10_radiusFor_6 : decode cX10_radiusFor 6 = .ok (.invokestatic 269, 3) := by decide +kernel
theorem dX10_radiusFor_9 : decode cX10_radiusFor 9 = .ok (.ifCond .eq 8, 3) := by decide +kernel
theorem dX10_radiusFor_12 : decode cX10_radiusFor 12 = .ok (.iload_n 2, 1) := by decide +kernel
theorem dX10_radiusFor_13 : decode cX10_radiusFor 13 = .ok (.iconst 1, 1) := by decide +kernel
theorem dX10_radiusFor_14 : decode cX10_radiusFor 14 = .ok (.if_icmp .ge 5, 3) := by decide +kernel
theorem dX10_radiusFor_17 : decode cX10_radiusFor 17 = .ok (.iconst (-1), 1) := by decide +kernel
theorem dX10_radiusFor_18 : decode cX10_radiusFor 18 = .ok (.ireturn, 1) := by decide +kernel
theorem dX10_radiusFor_19 : decode cX10_radiusFor 19 = .ok (.iconst 1, 1) := by decide +kernel
theorem dX10_radiusFor_20 : decode cX10_radiusFor 20 = .ok (.istore_n 3, 1) := by decide +kernel
theorem dX10_radiusFor_21 : decode cX10_radiusFor 21 = .ok (.sipush 301, 3) := by decide +kernel
theorem dX10_radiusFor_24 : decode cX10_radiusFor 24 = .ok (.istore 4, 2) := by decide +kernel
theorem dX10_radiusFor_26 : decode cX10_radiusFor 26 = .ok (.iload_n 3, 1) := by decide +kernel
theorem dX10_radiusFor_27 : decode cX10_radiusFor 27 = .ok (.iload 4, 2) := by decide +kernel
theorem dX10_radiusFor_29 : decode cX10_radiusFor 29 = .ok (.if_icmp .ge 56, 3) := by decide +kernel
theorem dX10_radiusFor_32 : decode cX10_radiusFor 32 = .ok (.iload_n 3, 1) := by decide +kernel
theorem dX10_radiusFor_33 : decode cX10_radiusFor 33 = .ok (.iload 4, 2) := by decide +kernel
theorem dX10_radiusFor_35 : decode cX10_radiusFor 35 = .ok (.iadd, 1) := by decide +kernel
theorem dX10_radiusFor_36 : decode cX10_radiusFor 36 = .ok (.iconst 2, 1) := by decide +kernel
theorem dX10_radiusFor_37 : decode cX10_radiusFor 37 = .ok (.idiv, 1) := by decide +kernel
theorem dX10_radiusFor_38 : decode cX10_radiusFor 38 = .ok (.istore 5, 2) := by decide +kernel
theorem dX10_radiusFor_40 : decode cX10_radiusFor 40 = .ok (.aload_n 0, 1) := by decide +kernel
theorem dX10_radiusFor_41 : decode cX10_radiusFor 41 = .ok (.aload_n 0, 1) := by decide +kernel
theorem dX10_radiusFor_42 : decode cX10_radiusFor 42 = .ok (.iload_n 1, 1) := by decide +kernel
theorem dX10_radiusFor_43 : decode cX10_radiusFor 43 = .ok (.invokevirtual 196, 3) := by decide +kernel
theorem dX10_radiusFor_46 : decode cX10_radiusFor 46 = .ok (.iload 5, 2) := by decide +kernel
theorem dX10_radiusFor_48 : decode cX10_radiusFor 48 = .ok (.iconst (-1), 1) := by decide +kernel
theorem dX10_radiusFor_49 : decode cX10_radiusFor 49 = .ok (.invokevirtual 240, 3) := by decide +kernel
theorem dX10_radiusFor_52 : decode cX10_radiusFor 52 = .ok (.aload_n 0, 1) := by decide +kernel
theorem dX10_radiusFor_53 : decode cX10_radiusFor 53 = .ok (.getfield 214, 3) := by decide +kernel
theorem dX10_radiusFor_56 : decode cX10_radiusFor 56 = .ok (.iload_n 2, 1) := by decide +kernel
theorem dX10_radiusFor_57 : decode cX10_radiusFor 57 = .ok (.if_icmp .lt 10, 3) := by decide +kernel
theorem dX10_radiusFor_60 : decode cX10_radiusFor 60 = .ok (.iload 5, 2) := by decide +kernel
theorem dX10_radiusFor_62 : decode cX10_radiusFor 62 = .ok (.istore 4, 2) := by decide +kernel
theorem dX10_radiusFor_64 : decode cX10_radiusFor 64 = .ok (.goto 8, 3) := by decide +kernel
theorem dX10_radiusFor_67 : decode cX10_radiusFor 67 = .ok (.iload 5, 2) := by decide +kernel
theorem dX10_radiusFor_69 : decode cX10_radiusFor 69 = .ok (.iconst 1, 1) := by decide +kernel
theorem dX10_radiusFor_70 : decode cX10_radiusFor 70 = .ok (.iadd, 1) := by decide +kernel
theorem dX10_radiusFor_71 : decode cX10_radiusFor 71 = .ok (.istore_n 3, 1) := by decide +kernel
theorem dX10_radiusFor_72 : decode cX10_radiusFor 72 = .ok (.iload_n 3, 1) := by decide +kernel
theorem dX10_radiusFor_73 : decode cX10_radiusFor 73 = .ok (.sipush 301, 3) := by decide +kernel
theorem dX10_radiusFor_76 : decode cX10_radiusFor 76 = .ok (.if_icmp .ne 6, 3) := by decide +kernel
theorem dX10_radiusFor_79 : decode cX10_radiusFor 79 = .ok (.bipush (-2), 2) := by decide +kernel
theorem dX10_radiusFor_81 : decode cX10_radiusFor 81 = .ok (.ireturn, 1) := by decide +kernel
theorem dX10_radiusFor_82 : decode cX10_radiusFor 82 = .ok (.goto (-56), 3) := by decide +kernel
theorem dX10_radiusFor_85 : decode cX10_radiusFor 85 = .ok (.aload_n 0, 1) := by decide +kernel
theorem dX10_radiusFor_86 : decode cX10_radiusFor 86 = .ok (.aload_n 0, 1) := by decide +kernel
theorem dX10_radiusFor_87 : decode cX10_radiusFor 87 = .ok (.iload_n 1, 1) := by decide +kernel
theorem dX10_radiusFor_88 : decode cX10_radiusFor 88 = .ok (.invokevirtual 196, 3) := by decide +kernel
theorem dX10_radiusFor_91 : decode cX10_radiusFor 91 = .ok (.iload_n 3, 1) := by decide +kernel
theorem dX10_radiusFor_92 : decode cX10_radiusFor 92 = .ok (.iconst (-1), 1) := by decide +kernel
theorem dX10_radiusFor_93 : decode cX10_radiusFor 93 = .ok (.invokevirtual 240, 3) := by decide +kernel
theorem dX10_radiusFor_96 : decode cX10_radiusFor 96 = .ok (.aload_n 0, 1) := by decide +kernel
theorem dX10_radiusFor_97 : decode cX10_radiusFor 97 = .ok (.getfield 214, 3) := by decide +kernel
theorem dX10_radiusFor_100 : decode cX10_radiusFor 100 = .ok (.iload_n 2, 1) := by decide +kernel
theorem dX10_radiusFor_101 : decode cX10_radiusFor 101 = .ok (.if_icmp .lt 7, 3) := by decide +kernel
theorem dX10_radiusFor_104 : decode cX10_radiusFor 104 = .ok (.iload_n 3, 1) := by decide +kernel
theorem dX10_radiusFor_105 : decode cX10_radiusFor 105 = .ok (.goto 5, 3) := by decide +kernel
theorem dX10_radiusFor_108 : decode cX10_radiusFor 108 = .ok (.bipush (-2), 2) := by decide +kernel
theorem dX10_radiusFor_110 : decode cX10_radiusFor 110 = .ok (.ireturn, 1) := by decide +kernel
theorem dX10_ifWritten_0 : decode cX10_ifWritten 0 = .ok (.aload_n 0, 1) := by decide +kernel
theorem dX10_ifWritten_1 : decode cX10_ifWritten 1 = .ok (.iconst 0, 1) := by decide +kernel
theorem dX10_ifWritten_2 : decode cX10_ifWritten 2 = .ok (.putfield 70, 3) := by decide +kernel
theorem dX10_ifWritten_5 : decode cX10_ifWritten 5 = .ok (.aload_n 0, 1) := by decide +kernel
theorem dX10_ifWritten_6 : decode cX10_ifWritten 6 = .ok (.iload_n 1, 1) := by decide +kernel
theorem dX10_ifWritten_7 : decode cX10_ifWritten 7 = .ok (.invokevirtual 275, 3) := by decide +kernel
theorem dX10_ifWritten_10 : decode cX10_ifWritten 10 = .ok (.ifCond .eq 27, 3) := by decide +kernel
theorem dX10_ifWritten_13 : decode cX10_ifWritten 13 = .ok (.iload_n 2, 1) := by decide +kernel
theorem dX10_ifWritten_14 : decode cX10_ifWritten 14 = .ok (.iload_n 3, 1) := by decide +kernel
theorem dX10_ifWritten_15 : decode cX10_ifWritten 15 = .ok (.invokestatic 254, 3) := by decide +kernel
theorem dX10_ifWritten_18 : decode cX10_ifWritten 18 = .ok (.ifCond .eq 19, 3) := by decide +kernel
theorem dX10_ifWritten_21 : decode cX10_ifWritten 21 = .ok (.iload 4, 2) := by decide +kernel
theorem dX10_ifWritten_23 : decode cX10_ifWritten 23 = .ok (.invokestatic 257, 3) := by decide +kernel
theorem dX10_ifWritten_26 : decode cX10_ifWritten 26 = .ok (.ifCond .eq 11, 3) := by decide +kernel
theorem dX10_ifWritten_29 : decode cX10_ifWritten 29 = .ok (.iload 5, 2) := by decide +kernel
theorem dX10_ifWritten_31 : decode cX10_ifWritten 31 = .ok (.invokestatic 260, 3) := by decide +kernel
theorem dX10_ifWritten_34 : decode cX10_ifWritten 34 = .ok (.ifCond .ne 5, 3) := by decide +kernel
theorem dX10_ifWritten_37 : decode cX10_ifWritten 37 = .ok (.iconst (-1), 1) := by decide +kernel
theorem dX10_ifWritten_38 : decode cX10_ifWritten 38 = .ok (.ireturn, 1) := by decide +kernel
theorem dX10_ifWritten_39 : decode cX10_ifWritten 39 = .ok (.aload_n 0, 1) := by decide +kernel
theorem dX10_ifWritten_40 : decode cX10_ifWritten 40 = .ok (.iload_n 1, 1) := by decide +kernel
theorem dX10_ifWritten_41 : decode cX10_ifWritten 41 = .ok (.invokevirtual 237, 3) := by decide +kernel
theorem dX10_ifWritten_44 : decode cX10_ifWritten 44 = .ok (.istore 6, 2) := by decide +kernel
theorem dX10_ifWritten_46 : decode cX10_ifWritten 46 = .ok (.aload_n 0, 1) := by decide +kernel
theorem dX10_ifWritten_47 : decode cX10_ifWritten 47 = .ok (.bipush 24, 2) := by decide +kernel
theorem dX10_ifWritten_49 : decode cX10_ifWritten 49 = .ok (.iload_n 2, 1) := by decide +kernel
theorem dX10_ifWritten_50 : decode cX10_ifWritten 50 = .ok (.iload_n 3, 1) := by decide +kernel
theorem dX10_ifWritten_51 : decode cX10_ifWritten 51 = .ok (.iload 4, 2) := by decide +kernel
theorem dX10_ifWritten_53 : decode cX10_ifWritten 53 = .ok (.iload 5, 2) := by decide +kernel
theorem dX10_ifWritten_55 : decode cX10_ifWritten 55 = .ok (.invokevirtual 165, 3) := by decide +kernel
theorem dX10_ifWritten_58 : decode cX10_ifWritten 58 = .ok (.aload_n 0, 1) := by decide +kernel
theorem dX10_ifWritten_59 : decode cX10_ifWritten 59 = .ok (.getfield 39, 3) := by decide +kernel
theorem dX10_ifWritten_62 : decode cX10_ifWritten 62 = .ok (.iload_n 1, 1) := by decide +kernel
theorem dX10_ifWritten_63 : decode cX10_ifWritten 63 = .ok (.iaload, 1) := by decide +kernel
theorem dX10_ifWritten_64 : decode cX10_ifWritten 64 = .ok (.iload 5, 2) := by decide +kernel
theorem dX10_ifWritten_66 : decode cX10_ifWritten 66 = .ok (.invokestatic 192, 3) := by decide +kernel
theorem dX10_ifWritten_69 : decode cX10_ifWritten 69 = .ok (.ifCond .eq 11, 3) := by decide +kernel
theorem dX10_ifWritten_72 : decode cX10_ifWritten 72 = .ok (.iload 6, 2) := by decide +kernel
theorem dX10_ifWritten_74 : decode cX10_ifWritten 74 = .ok (.ldc_w 351, 3) := by decide +kernel
theorem dX10_ifWritten_77 : decode cX10_ifWritten 77 = .ok (.ior, 1) := by decide +kernel
theorem dX10_ifWritten_78 : decode cX10_ifWritten 78 = .ok (.istore 6, 2) := by decide +kernel
theorem dX10_ifWritten_80 : decode cX10_ifWritten 80 = .ok (.aload_n 0, 1) := by decide +kernel
theorem dX10_ifWritten_81 : decode cX10_ifWritten 81 = .ok (.iload 6, 2) := by decide +kernel
theorem dX10_ifWritten_83 : decode cX10_ifWritten 83 = .ok (.aload_n 0, 1) := by decide +kernel
theorem dX10_ifWritten_84 : decode cX10_ifWritten 84 = .ok (.getfield 42, 3) := by decide +kernel
theorem dX10_ifWritten_87 : decode cX10_ifWritten 87 = .ok (.iload_n 1, 1) := by decide +kernel
theorem dX10_ifWritten_88 : decode cX10_ifWritten 88 = .ok (.iaload, 1) := by decide +kernel
theorem dX10_ifWritten_89 : decode cX10_ifWritten 89 = .ok (.iconst (-1), 1) := by decide +kernel
theorem dX10_ifWritten_90 : decode cX10_ifWritten 90 = .ok (.invokevirtual 240, 3) := by decide +kernel
theorem dX10_ifWritten_93 : decode cX10_ifWritten 93 = .ok (.aload_n 0, 1) := by decide +kernel
theorem dX10_ifWritten_94 : decode cX10_ifWritten 94 = .ok (.getfield 214, 3) := by decide +kernel
theorem dX10_ifWritten_97 : decode cX10_ifWritten 97 = .ok (.ireturn, 1) := by decide +kernel
theorem dX10_withPlace_0 : decode cX10_withPlace 0 = .ok (.aload_n 0, 1) := by decide +kernel
theorem dX10_withPlace_1 : decode cX10_withPlace 1 = .ok (.bipush 24, 2) := by decide +kernel
theorem dX10_withPlace_3 : decode cX10_withPlace 3 = .ok (.iload_n 2, 1) := by decide +kernel
theorem dX10_withPlace_4 : decode cX10_withPlace 4 = .ok (.iload_n 3, 1) := by decide +kernel
theorem dX10_withPlace_5 : decode cX10_withPlace 5 = .ok (.iconst 0, 1) := by decide +kernel
theorem dX10_withPlace_6 : decode cX10_withPlace 6 = .ok (.iconst 0, 1) := by decide +kernel
theorem dX10_withPlace_7 : decode cX10_withPlace 7 = .ok (.invokevirtual 165, 3) := by decide +kernel
theorem dX10_withPlace_10 : decode cX10_withPlace 10 = .ok (.aload_n 0, 1) := by decide +kernel
theorem dX10_withPlace_11 : decode cX10_withPlace 11 = .ok (.aload_n 0, 1) := by decide +kernel
theorem dX10_withPlace_12 : decode cX10_withPlace 12 = .ok (.iload_n 1, 1) := by decide +kernel
theorem dX10_withPlace_13 : decode cX10_withPlace 13 = .ok (.invokevirtual 237, 3) := by decide +kernel
theorem dX10_withPlace_16 : decode cX10_withPlace 16 = .ok (.aload_n 0, 1) := by decide +kernel
theorem dX10_withPlace_17 : decode cX10_withPlace 17 = .ok (.getfield 42, 3) := by decide +kernel
theorem dX10_withPlace_20 : decode cX10_withPlace 20 = .ok (.iload_n 1, 1) := by decide +kernel
theorem dX10_withPlace_21 : decode cX10_withPlace 21 = .ok (.iaload, 1) := by decide +kernel
theorem dX10_withPlace_22 : decode cX10_withPlace 22 = .ok (.bipush 24, 2) := by decide +kernel
theorem dX10_withPlace_24 : decode cX10_withPlace 24 = .ok (.invokevirtual 240, 3) := by decide +kernel
theorem dX10_withPlace_27 : decode cX10_withPlace 27 = .ok (.aload_n 0, 1) := by decide +kernel
theorem dX10_withPlace_28 : decode cX10_withPlace 28 = .ok (.getfield 214, 3) := by decide +kernel
theorem dX10_withPlace_31 : decode cX10_withPlace 31 = .ok (.ireturn, 1) := by decide +kernel
theorem dX10_about_0 : decode cX10_about 0 = .ok (.aload_n 0, 1) := by decide +kernel
theorem dX10_about_1 : decode cX10_about 1 = .ok (.iconst 0, 1) := by decide +kernel
theorem dX10_about_2 : decode cX10_about 2 = .ok (.putfield 70, 3) := by decide +kernel
theorem dX10_about_5 : decode cX10_about 5 = .ok (.aload_n 0, 1) := by decide +kernel
theorem dX10_about_6 : decode cX10_about 6 = .ok (.iload_n 1, 1) := by decide +kernel
theorem dX10_about_7 : decode cX10_about 7 = .ok (.invokevirtual 275, 3) := by decide +kernel
theorem dX10_about_10 : decode cX10_about 10 = .ok (.ifCond .eq 21, 3) := by decide +kernel
theorem dX10_about_13 : decode cX10_about 13 = .ok (.iload_n 2, 1) := by decide +kernel
theorem dX10_about_14 : decode cX10_about 14 = .ok (.iload_n 3, 1) := by decide +kernel
theorem dX10_about_15 : decode cX10_about 15 = .ok (.invokestatic 254, 3) := by decide +kernel
theorem dX10_about_18 : decode cX10_about 18 = .ok (.ifCond .eq 13, 3) := by decide +kernel
theorem dX10_about_21 : decode cX10_about 21 = .ok (.aload_n 0, 1) := by decide +kernel
theorem dX10_about_22 : decode cX10_about 22 = .ok (.iload_n 1, 1) := by decide +kernel
theorem dX10_about_23 : decode cX10_about 23 = .ok (.iload_n 2, 1) := by decide +kernel
theorem dX10_about_24 : decode cX10_about 24 = .ok (.iload_n 3, 1) := by decide +kernel
theorem dX10_about_25 : decode cX10_about 25 = .ok (.invokevirtual 352, 3) := by decide +kernel
theorem dX10_about_28 : decode cX10_about 28 = .ok (.goto 4, 3) := by decide +kernel
theorem dX10_about_31 : decode cX10_about 31 = .ok (.iconst (-1), 1) := by decide +kernel
theorem dX10_about_32 : decode cX10_about 32 = .ok (.ireturn, 1) := by decide +kernel
theorem dX10_roomAt_0 : decode cX10_roomAt 0 = .ok (.ldc 140, 2) := by decide +kernel
theorem dX10_roomAt_2 : decode cX10_roomAt 2 = .ok (.istore 4, 2) := by decide +kernel
theorem dX10_roomAt_4 : decode cX10_roomAt 4 = .ok (.iconst 0, 1) := by decide +kernel
theorem dX10_roomAt_5 : decode cX10_roomAt 5 = .ok (.istore 5, 2) := by decide +kernel
theorem dX10_roomAt_7 : decode cX10_roomAt 7 = .ok (.iload 5, 2) := by decide +kernel
theorem dX10_roomAt_9 : decode cX10_roomAt 9 = .ok (.aload_n 0, 1) := by decide +kernel
theorem dX10_roomAt_10 : decode cX10_roomAt 10 = .ok (.getfield 169, 3) := by decide +kernel
theorem dX10_roomAt_13 : decode cX10_roomAt 13 = .ok (.if_icmp .ge 100, 3) := by decide +kernel
theorem dX10_roomAt_16 : decode cX10_roomAt 16 = .ok (.aload_n 0, 1) := by decide +kernel
theorem dX10_roomAt_17 : decode cX10_roomAt 17 = .ok (.getfield 39, 3) := by decide +kernel
theorem dX10_roomAt_20 : decode cX10_roomAt 20 = .ok (.iload 5, 2) := by decide +kernel
theorem dX10_roomAt_22 : decode cX10_roomAt 22 = .ok (.iaload, 1) := by decide +kernel
theorem dX10_roomAt_23 : decode cX10_roomAt 23 = .ok (.iload_n 3, 1) := by decide +kernel
theorem dX10_roomAt_24 : decode cX10_roomAt 24 = .ok (.invokestatic 192, 3) := by decide +kernel
theorem dX10_roomAt_27 : decode cX10_roomAt 27 = .ok (.ifCond .ne 6, 3) := by decide +kernel
theorem dX10_roomAt_30 : decode cX10_roomAt 30 = .ok (.goto 77, 3) := by decide +kernel
theorem dX10_roomAt_33 : decode cX10_roomAt 33 = .ok (.aload_n 0, 1) := by decide +kernel
theorem dX10_roomAt_34 : decode cX10_roomAt 34 = .ok (.getfield 48, 3) := by decide +kernel
theorem dX10_roomAt_37 : decode cX10_roomAt 37 = .ok (.iload 5, 2) := by decide +kernel
theorem dX10_roomAt_39 : decode cX10_roomAt 39 = .ok (.iaload, 1) := by decide +kernel
theorem dX10_roomAt_40 : decode cX10_roomAt 40 = .ok (.bipush (-2), 2) := by decide +kernel
theorem dX10_roomAt_42 : decode cX10_roomAt 42 = .ok (.if_icmp .eq 5, 3) := by decide +kernel
theorem dX10_roomAt_45 : decode cX10_roomAt 45 = .ok (.iconst (-1), 1) := by decide +kernel
theorem dX10_roomAt_46 : decode cX10_roomAt 46 = .ok (.ireturn, 1) := by decide +kernel
theorem dX10_roomAt_47 : decode cX10_roomAt 47 = .ok (.aload_n 0, 1) := by decide +kernel
theorem dX10_roomAt_48 : decode cX10_roomAt 48 = .ok (.getfield 45, 3) := by decide +kernel
theorem dX10_roomAt_51 : decode cX10_roomAt 51 = .ok (.iload 5, 2) := by decide +kernel
theorem dX10_roomAt_53 : decode cX10_roomAt 53 = .ok (.iaload, 1) := by decide +kernel
theorem dX10_roomAt_54 : decode cX10_roomAt 54 = .ok (.aload_n 0, 1) := by decide +kernel
theorem dX10_roomAt_55 : decode cX10_roomAt 55 = .ok (.aload_n 0, 1) := by decide +kernel
theorem dX10_roomAt_56 : decode cX10_roomAt 56 = .ok (.iload 5, 2) := by decide +kernel
theorem dX10_roomAt_58 : decode cX10_roomAt 58 = .ok (.invokevirtual 237, 3) := by decide +kernel
theorem dX10_roomAt_61 : decode cX10_roomAt 61 = .ok (.invokevirtual 284, 3) := by decide +kernel
theorem dX10_roomAt_64 : decode cX10_roomAt 64 = .ok (.isub, 1) := by decide +kernel
theorem dX10_roomAt_65 : decode cX10_roomAt 65 = .ok (.iload 4, 2) := by decide +kernel
theorem dX10_roomAt_67 : decode cX10_roomAt 67 = .ok (.if_icmp .lt 6, 3) := by decide +kernel
theorem dX10_roomAt_70 : decode cX10_roomAt 70 = .ok (.goto 37, 3) := by decide +kernel
theorem dX10_roomAt_73 : decode cX10_roomAt 73 = .ok (.aload_n 0, 1) := by decide +kernel
theorem dX10_roomAt_74 : decode cX10_roomAt 74 = .ok (.getfield 45, 3) := by decide +kernel
theorem dX10_roomAt_77 : decode cX10_roomAt 77 = .ok (.iload 5, 2) := by decide +kernel
theorem dX10_roomAt_79 : decode cX10_roomAt 79 = .ok (.iaload, 1) := by decide +kernel
theorem dX10_roomAt_80 : decode cX10_roomAt 80 = .ok (.aload_n 0, 1) := by decide +kernel
theorem dX10_roomAt_81 : decode cX10_roomAt 81 = .ok (.iload 5, 2) := by decide +kernel
theorem dX10_roomAt_83 : decode cX10_roomAt 83 = .ok (.iload_n 1, 1) := by decide +kernel
theorem dX10_roomAt_84 : decode cX10_roomAt 84 = .ok (.iload_n 2, 1) := by decide +kernel
theorem dX10_roomAt_85 : decode cX10_roomAt 85 = .ok (.invokevirtual 352, 3) := by decide +kernel
theorem dX10_roomAt_88 : decode cX10_roomAt 88 = .ok (.isub, 1) := by decide +kernel
theorem dX10_roomAt_89 : decode cX10_roomAt 89 = .ok (.istore 6, 2) := by decide +kernel
theorem dX10_roomAt_91 : decode cX10_roomAt 91 = .ok (.iload 6, 2) := by decide +kernel
theorem dX10_roomAt_93 : decode cX10_roomAt 93 = .ok (.iload 4, 2) := by decide +kernel
theorem dX10_roomAt_95 : decode cX10_roomAt 95 = .ok (.if_icmp .ge 8, 3) := by decide +kernel
theorem dX10_roomAt_98 : decode cX10_roomAt 98 = .ok (.iload 6, 2) := by decide +kernel
theorem dX10_roomAt_100 : decode cX10_roomAt 100 = .ok (.goto 5, 3) := by decide +kernel
theorem dX10_roomAt_103 : decode cX10_roomAt 103 = .ok (.iload 4, 2) := by decide +kernel
theorem dX10_roomAt_105 : decode cX10_roomAt 105 = .ok (.istore 4, 2) := by decide +kernel
theorem dX10_roomAt_107 : decode cX10_roomAt 107 = .ok (.iinc 5 1, 3) := by decide +kernel
theorem dX10_roomAt_110 : decode cX10_roomAt 110 = .ok (.goto (-103), 3) := by decide +kernel
theorem dX10_roomAt_113 : decode cX10_roomAt 113 = .ok (.iload 4, 2) := by decide +kernel
theorem dX10_roomAt_115 : decode cX10_roomAt 115 = .ok (.ireturn, 1) := by decide +kernel
theorem dX10_most_0 : decode cX10_most 0 = .ok (.aload_n 0, 1) := by decide +kernel
theorem dX10_most_1 : decode cX10_most 1 = .ok (.iconst 0, 1) := by decide +kernel
theorem dX10_most_2 : decode cX10_most 2 = .ok (.putfield 70, 3) := by decide +kernel
theorem dX10_most_5 : decode cX10_most 5 = .ok (.iload_n 1, 1) := by decide +kernel
theorem dX10_most_6 : decode cX10_most 6 = .ok (.iload_n 2, 1) := by decide +kernel
theorem dX10_most_7 : decode cX10_most 7 = .ok (.invokestatic 254, 3) := by decide +kernel
theorem dX10_most_10 : decode cX10_most 10 = .ok (.ifCond .eq 10, 3) := by decide +kernel
theorem dX10_most_13 : decode cX10_most 13 = .ok (.iload_n 3, 1) := by decide +kernel
theorem dX10_most_14 : decode cX10_most 14 = .ok (.invokestatic 260, 3) := by decide +kernel
theorem dX10_most_17 : decode cX10_most 17 = .ok (.ifCond .ne 5, 3) := by decide +kernel
theorem dX10_most_20 : decode cX10_most 20 = .ok (.iconst (-1), 1) := by decide +kernel
theorem dX10_most_21 : decode cX10_most 21 = .ok (.ireturn, 1) := by decide +kernel
theorem dX10_most_22 : decode cX10_most 22 = .ok (.aload_n 0, 1) := by decide +kernel
theorem dX10_most_23 : decode cX10_most 23 = .ok (.iload_n 1, 1) := by decide +kernel
theorem dX10_most_24 : decode cX10_most 24 = .ok (.iload_n 2, 1) := by decide +kernel
theorem dX10_most_25 : decode cX10_most 25 = .ok (.iload_n 3, 1) := by decide +kernel
theorem dX10_most_26 : decode cX10_most 26 = .ok (.invokevirtual 355, 3) := by decide +kernel
theorem dX10_most_29 : decode cX10_most 29 = .ok (.istore 4, 2) := by decide +kernel
theorem dX10_most_31 : decode cX10_most 31 = .ok (.iload 4, 2) := by decide +kernel
theorem dX10_most_33 : decode cX10_most 33 = .ok (.ifCond .ge 7, 3) := by decide +kernel
theorem dX10_most_36 : decode cX10_most 36 = .ok (.iconst 0, 1) := by decide +kernel
theorem dX10_most_37 : decode cX10_most 37 = .ok (.goto 5, 3) := by decide +kernel
theorem dX10_most_40 : decode cX10_most 40 = .ok (.iload 4, 2) := by decide +kernel
theorem dX10_most_42 : decode cX10_most 42 = .ok (.ireturn, 1) := by decide +kernel
theorem dX10_places_0 : decode cX10_places 0 = .ok (.aload_n 0, 1) := by decide +kernel
theorem dX10_places_1 : decode cX10_places 1 = .ok (.iconst 0, 1) := by decide +kernel
theorem dX10_places_2 : decode cX10_places 2 = .ok (.putfield 70, 3) := by decide +kernel
theorem dX10_places_5 : decode cX10_places 5 = .ok (.iload_n 1, 1) := by decide +kernel
theorem dX10_places_6 : decode cX10_places 6 = .ok (.invokestatic 257, 3) := by decide +kernel
theorem dX10_places_9 : decode cX10_places 9 = .ok (.ifCond .eq 10, 3) := by decide +kernel
theorem dX10_places_12 : decode cX10_places 12 = .ok (.iload_n 2, 1) := by decide +kernel
theorem dX10_places_13 : decode cX10_places 13 = .ok (.invokestatic 260, 3) := by decide +kernel
theorem dX10_places_16 : decode cX10_places 16 = .ok (.ifCond .ne 5, 3) := by decide +kernel
theorem dX10_places_19 : decode cX10_places 19 = .ok (.iconst (-1), 1) := by decide +kernel
theorem dX10_places_20 : decode cX10_places 20 = .ok (.ireturn, 1) := by decide +kernel
theorem dX10_places_21 : decode cX10_places 21 = .ok (.iconst 0, 1) := by decide +kernel
theorem dX10_places_22 : decode cX10_places 22 = .ok (.istore_n 3, 1) := by decide +kernel
theorem dX10_places_23 : decode cX10_places 23 = .ok (.iconst 0, 1) := by decide +kernel
theorem dX10_places_24 : decode cX10_places 24 = .ok (.istore 4, 2) := by decide +kernel
theorem dX10_places_26 : decode cX10_places 26 = .ok (.iload 4, 2) := by decide +kernel
theorem dX10_places_28 : decode cX10_places 28 = .ok (.bipush 100, 2) := by decide +kernel
theorem dX10_places_30 : decode cX10_places 30 = .ok (.if_icmp .ge 42, 3) := by decide +kernel
theorem dX10_places_33 : decode cX10_places 33 = .ok (.iload_n 3, 1) := by decide +kernel
theorem dX10_places_34 : decode cX10_places 34 = .ok (.aload_n 0, 1) := by decide +kernel
theorem dX10_places_35 : decode cX10_places 35 = .ok (.bipush 30, 2) := by decide +kernel
theorem dX10_places_37 : decode cX10_places 37 = .ok (.iload 4, 2) := by decide +kernel
theorem dX10_places_39 : decode cX10_places 39 = .ok (.bipush 10, 2) := by decide +kernel
theorem dX10_places_41 : decode cX10_places 41 = .ok (.idiv, 1) := by decide +kernel
theorem dX10_places_42 : decode cX10_places 42 = .ok (.imul, 1) := by decide +kernel
theorem dX10_places_43 : decode cX10_places 43 = .ok (.bipush 30, 2) := by decide +kernel
theorem dX10_places_45 : decode cX10_places 45 = .ok (.iload 4, 2) := by decide +kernel
theorem dX10_places_47 : decode cX10_places 47 = .ok (.bipush 10, 2) := by decide +kernel
theorem dX10_places_49 : decode cX10_places 49 = .ok (.irem, 1) := by decide +kernel
theorem dX10_places_50 : decode cX10_places 50 = .ok (.imul, 1) := by decide +kernel
theorem dX10_places_51 : decode cX10_places 51 = .ok (.iload_n 2, 1) := by decide +kernel
theorem dX10_places_52 : decode cX10_places 52 = .ok (.invokevirtual 355, 3) := by decide +kernel
theorem dX10_places_55 : decode cX10_places 55 = .ok (.iload_n 1, 1) := by decide +kernel
theorem dX10_places_56 : decode cX10_places 56 = .ok (.if_icmp .lt 7, 3) := by decide +kernel
theorem dX10_places_59 : decode cX10_places 59 = .ok (.iconst 1, 1) := by decide +kernel
theorem dX10_places_60 : decode cX10_places 60 = .ok (.goto 4, 3) := by decide +kernel
theorem dX10_places_63 : decode cX10_places 63 = .ok (.iconst 0, 1) := by decide +kernel
theorem dX10_places_64 : decode cX10_places 64 = .ok (.iadd, 1) := by decide +kernel
theorem dX10_places_65 : decode cX10_places 65 = .ok (.istore_n 3, 1) := by decide +kernel
theorem dX10_places_66 : decode cX10_places 66 = .ok (.iinc 4 1, 3) := by decide +kernel
theorem dX10_places_69 : decode cX10_places 69 = .ok (.goto (-43), 3) := by decide +kernel
theorem dX10_places_72 : decode cX10_places 72 = .ok (.iload_n 3, 1) := by decide +kernel
theorem dX10_places_73 : decode cX10_places 73 = .ok (.ireturn, 1) := by decide +kernel
theorem dX10_relief_0 : decode cX10_relief 0 = .ok (.aload_n 0, 1) := by decide +kernel
theorem dX10_relief_1 : decode cX10_relief 1 = .ok (.iconst 0, 1) := by decide +kernel
theorem dX10_relief_2 : decode cX10_relief 2 = .ok (.putfield 70, 3) := by decide +kernel
theorem dX10_relief_5 : decode cX10_relief 5 = .ok (.aload_n 0, 1) := by decide +kernel
theorem dX10_relief_6 : decode cX10_relief 6 = .ok (.iload_n 1, 1) := by decide +kernel
theorem dX10_relief_7 : decode cX10_relief 7 = .ok (.invokevirtual 275, 3) := by decide +kernel
theorem dX10_relief_10 : decode cX10_relief 10 = .ok (.ifCond .eq 12, 3) := by decide +kernel
theorem dX10_relief_13 : decode cX10_relief 13 = .ok (.iload_n 2, 1) := by decide +kernel
theorem dX10_relief_14 : decode cX10_relief 14 = .ok (.ifCond .lt 8, 3) := by decide +kernel
theorem dX10_relief_17 : decode cX10_relief 17 = .ok (.iload_n 2, 1) := by decide +kernel
theorem dX10_relief_18 : decode cX10_relief 18 = .ok (.iconst 1, 1) := by decide +kernel
theorem dX10_relief_19 : decode cX10_relief 19 = .ok (.if_icmp .le 5, 3) := by decide +kernel
theorem dX10_relief_22 : decode cX10_relief 22 = .ok (.iconst (-1), 1) := by decide +kernel
theorem dX10_relief_23 : decode cX10_relief 23 = .ok (.ireturn, 1) := by decide +kernel
theorem dX10_relief_24 : decode cX10_relief 24 = .ok (.aload_n 0, 1) := by decide +kernel
theorem dX10_relief_25 : decode cX10_relief 25 = .ok (.iload_n 1, 1) := by decide +kernel
theorem dX10_relief_26 : decode cX10_relief 26 = .ok (.invokevirtual 244, 3) := by decide +kernel
theorem dX10_relief_29 : decode cX10_relief 29 = .ok (.pop, 1) := by decide +kernel
theorem dX10_relief_30 : decode cX10_relief 30 = .ok (.aload_n 0, 1) := by decide +kernel
theorem dX10_relief_31 : decode cX10_relief 31 = .ok (.getfield 217, 3) := by decide +kernel
theorem dX10_relief_34 : decode cX10_relief 34 = .ok (.istore_n 3, 1) := by decide +kernel
theorem dX10_relief_35 : decode cX10_relief 35 = .ok (.aload_n 0, 1) := by decide +kernel
theorem dX10_relief_36 : decode cX10_relief 36 = .ok (.iload_n 1, 1) := by decide +kernel
theorem dX10_relief_37 : decode cX10_relief 37 = .ok (.invokevirtual 237, 3) := by decide +kernel
theorem dX10_relief_40 : decode cX10_relief 40 = .ok (.istore 4, 2) := by decide +kernel
theorem dX10_relief_42 : decode cX10_relief 42 = .ok (.bipush (-2), 2) := by decide +kernel
theorem dX10_relief_44 : decode cX10_relief 44 = .ok (.istore 5, 2) := by decide +kernel
theorem dX10_relief_46 : decode cX10_relief 46 = .ok (.bipush (-2), 2) := by decide +kernel
theorem dX10_relief_48 : decode cX10_relief 48 = .ok (.istore 6, 2) := by decide +kernel
theorem dX10_relief_50 : decode cX10_relief 50 = .ok (.iconst 0, 1) := by decide +kernel
theorem dX10_relief_51 : decode cX10_relief 51 = .ok (.istore 7, 2) := by decide +kernel
theorem dX10_relief_53 : decode cX10_relief 53 = .ok (.iload 7, 2) := by decide +kernel
theorem dX10_relief_55 : decode cX10_relief 55 = .ok (.bipush 24, 2) := by decide +kernel
theorem dX10_relief_57 : decode cX10_relief 57 = .ok (.if_icmp .ge 70, 3) := by decide +kernel
theorem dX10_relief_60 : decode cX10_relief 60 = .ok (.iload_n 3, 1) := by decide +kernel
theorem dX10_relief_61 : decode cX10_relief 61 = .ok (.iload 7, 2) := by decide +kernel
theorem dX10_relief_63 : decode cX10_relief 63 = .ok (.invokestatic 192, 3) := by decide +kernel
theorem dX10_relief_66 : decode cX10_relief 66 = .ok (.ifCond .ne 6, 3) := by decide +kernel
theorem dX10_relief_69 : decode cX10_relief 69 = .ok (.goto 52, 3) := by decide +kernel
theorem dX10_relief_72 : decode cX10_relief 72 = .ok (.aload_n 0, 1) := by decide +kernel
theorem dX10_relief_73 : decode cX10_relief 73 = .ok (.iload 4, 2) := by decide +kernel
theorem dX10_relief_75 : decode cX10_relief 75 = .ok (.iconst 1, 1) := by decide +kernel
theorem dX10_relief_76 : decode cX10_relief 76 = .ok (.iload 7, 2) := by decide +kernel
theorem dX10_relief_78 : decode cX10_relief 78 = .ok (.ishl, 1) := by decide +kernel
theorem dX10_relief_79 : decode cX10_relief 79 = .ok (.iconst (-1), 1) := by decide +kernel
theorem dX10_relief_80 : decode cX10_relief 80 = .ok (.ixor, 1) := by decide +kernel
theorem dX10_relief_81 : decode cX10_relief 81 = .ok (.iand, 1) := by decide +kernel
theorem dX10_relief_82 : decode cX10_relief 82 = .ok (.aload_n 0, 1) := by decide +kernel
theorem dX10_relief_83 : decode cX10_relief 83 = .ok (.getfield 42, 3) := by decide +kernel
theorem dX10_relief_86 : decode cX10_relief 86 = .ok (.iload_n 1, 1) := by decide +kernel
theorem dX10_relief_87 : decode cX10_relief 87 = .ok (.iaload, 1) := by decide +kernel
theorem dX10_relief_88 : decode cX10_relief 88 = .ok (.iconst (-1), 1) := by decide +kernel
theorem dX10_relief_89 : decode cX10_relief 89 = .ok (.invokevirtual 240, 3) := by decide +kernel
theorem dX10_relief_92 : decode cX10_relief 92 = .ok (.iload 5, 2) := by decide +kernel
theorem dX10_relief_94 : decode cX10_relief 94 = .ok (.bipush (-2), 2) := by decide +kernel
theorem dX10_relief_96 : decode cX10_relief 96 = .ok (.if_icmp .eq 15, 3) := by decide +kernel
theorem dX10_relief_99 : decode cX10_relief 99 = .ok (.aload_n 0, 1) := by decide +kernel
theorem dX10_relief_100 : decode cX10_relief 100 = .ok (.getfield 214, 3) := by decide +kernel
theorem dX10_relief_103 : decode cX10_relief 103 = .ok (.iload 6, 2) := by decide +kernel
theorem dX10_relief_105 : decode cX10_relief 105 = .ok (.if_icmp .lt 6, 3) := by decide +kernel
theorem dX10_relief_108 : decode cX10_relief 108 = .ok (.goto 13, 3) := by decide +kernel
theorem dX10_relief_111 : decode cX10_relief 111 = .ok (.iload 7, 2) := by decide +kernel
theorem dX10_relief_113 : decode cX10_relief 113 = .ok (.istore 5, 2) := by decide +kernel
theorem dX10_relief_115 : decode cX10_relief 115 = .ok (.aload_n 0, 1) := by decide +kernel
theorem dX10_relief_116 : decode cX10_relief 116 = .ok (.getfield 214, 3) := by decide +kernel
theorem dX10_relief_119 : decode cX10_relief 119 = .ok (.istore 6, 2) := by decide +kernel
theorem dX10_relief_121 : decode cX10_relief 121 = .ok (.iinc 7 1, 3) := by decide +kernel
theorem dX10_relief_124 : decode cX10_relief 124 = .ok (.goto (-71), 3) := by decide +kernel
theorem dX10_relief_127 : decode cX10_relief 127 = .ok (.iload_n 2, 1) := by decide +kernel
theorem dX10_relief_128 : decode cX10_relief 128 = .ok (.ifCond .ne 8, 3) := by decide +kernel
theorem dX10_relief_131 : decode cX10_relief 131 = .ok (.iload 5, 2) := by decide +kernel
theorem dX10_relief_133 : decode cX10_relief 133 = .ok (.goto 5, 3) := by decide +kernel
theorem dX10_relief_136 : decode cX10_relief 136 = .ok (.iload 6, 2) := by decide +kernel
theorem dX10_relief_138 : decode cX10_relief 138 = .ok (.ireturn, 1) := by decide +kernel
theorem dX10_isPassedBy_0 : decode cX10_isPassedBy 0 = .ok (.aload_n 0, 1) := by decide +kernel
theorem dX10_isPassedBy_1 : decode cX10_isPassedBy 1 = .ok (.iload_n 2, 1) := by decide +kernel
theorem dX10_isPassedBy_2 : decode cX10_isPassedBy 2 = .ok (.aload_n 0, 1) := by decide +kernel
theorem dX10_isPassedBy_3 : decode cX10_isPassedBy 3 = .ok (.getfield 42, 3) := by decide +kernel
theorem dX10_isPassedBy_6 : decode cX10_isPassedBy 6 = .ok (.iload_n 1, 1) := by decide +kernel
theorem dX10_isPassedBy_7 : decode cX10_isPassedBy 7 = .ok (.iaload, 1) := by decide +kernel
theorem dX10_isPassedBy_8 : decode cX10_isPassedBy 8 = .ok (.iconst (-1), 1) := by decide +kernel
theorem dX10_isPassedBy_9 : decode cX10_isPassedBy 9 = .ok (.invokevirtual 240, 3) := by decide +kernel
theorem dX10_isPassedBy_12 : decode cX10_isPassedBy 12 = .ok (.aload_n 0, 1) := by decide +kernel
theorem dX10_isPassedBy_13 : decode cX10_isPassedBy 13 = .ok (.getfield 214, 3) := by decide +kernel
theorem dX10_isPassedBy_16 : decode cX10_isPassedBy 16 = .ok (.aload_n 0, 1) := by decide +kernel
theorem dX10_isPassedBy_17 : decode cX10_isPassedBy 17 = .ok (.getfield 45, 3) := by decide +kernel
theorem dX10_isPassedBy_20 : decode cX10_isPassedBy 20 = .ok (.iload_n 1, 1) := by decide +kernel
theorem dX10_isPassedBy_21 : decode cX10_isPassedBy 21 = .ok (.iaload, 1) := by decide +kernel
theorem dX10_isPassedBy_22 : decode cX10_isPassedBy 22 = .ok (.if_icmp .le 7, 3) := by decide +kernel
theorem dX10_isPassedBy_25 : decode cX10_isPassedBy 25 = .ok (.iconst 1, 1) := by decide +kernel
theorem dX10_isPassedBy_26 : decode cX10_isPassedBy 26 = .ok (.goto 4, 3) := by decide +kernel
theorem dX10_isPassedBy_29 : decode cX10_isPassedBy 29 = .ok (.iconst 0, 1) := by decide +kernel
theorem dX10_isPassedBy_30 : decode cX10_isPassedBy 30 = .ok (.ireturn, 1) := by decide +kernel
theorem dX10_greatestOf_0 : decode cX10_greatestOf 0 = .ok (.iconst (-1), 1) := by decide +kernel
theorem dX10_greatestOf_1 : decode cX10_greatestOf 1 = .ok (.istore_n 3, 1) := by decide +kernel
theorem dX10_greatestOf_2 : decode cX10_greatestOf 2 = .ok (.iconst 0, 1) := by decide +kernel
theorem dX10_greatestOf_3 : decode cX10_greatestOf 3 = .ok (.istore 4, 2) := by decide +kernel
theorem dX10_greatestOf_5 : decode cX10_greatestOf 5 = .ok (.iload 4, 2) := by decide +kernel
theorem dX10_greatestOf_7 : decode cX10_greatestOf 7 = .ok (.bipush 24, 2) := by decide +kernel
theorem dX10_greatestOf_9 : decode cX10_greatestOf 9 = .ok (.if_icmp .ge 48, 3) := by decide +kernel
theorem dX10_greatestOf_12 : decode cX10_greatestOf 12 = .ok (.iload_n 1, 1) := by decide +kernel
theorem dX10_greatestOf_13 : decode cX10_greatestOf 13 = .ok (.iload 4, 2) := by decide +kernel
theorem dX10_greatestOf_15 : decode cX10_greatestOf 15 = .ok (.invokestatic 192, 3) := by decide +kernel
theorem dX10_greatestOf_18 : decode cX10_greatestOf 18 = .ok (.ifCond .eq 33, 3) := by decide +kernel
theorem dX10_greatestOf_21 : decode cX10_greatestOf 21 = .ok (.iload 4, 2) := by decide +kernel
theorem dX10_greatestOf_23 : decode cX10_greatestOf 23 = .ok (.iload_n 2, 1) := by decide +kernel
theorem dX10_greatestOf_24 : decode cX10_greatestOf 24 = .ok (.if_icmp .eq 27, 3) := by decide +kernel
theorem dX10_greatestOf_27 : decode cX10_greatestOf 27 = .ok (.iload_n 3, 1) := by decide +kernel
theorem dX10_greatestOf_28 : decode cX10_greatestOf 28 = .ok (.iconst (-1), 1) := by decide +kernel
theorem dX10_greatestOf_29 : decode cX10_greatestOf 29 = .ok (.if_icmp .eq 19, 3) := by decide +kernel
theorem dX10_greatestOf_32 : decode cX10_greatestOf 32 = .ok (.aload_n 0, 1) := by decide +kernel
theorem dX10_greatestOf_33 : decode cX10_greatestOf 33 = .ok (.getfield 29, 3) := by decide +kernel
theorem dX10_greatestOf_36 : decode cX10_greatestOf 36 = .ok (.iload 4, 2) := by decide +kernel
theorem dX10_greatestOf_38 : decode cX10_greatestOf 38 = .ok (.iaload, 1) := by decide +kernel
theorem dX10_greatestOf_39 : decode cX10_greatestOf 39 = .ok (.aload_n 0, 1) := by decide +kernel
theorem dX10_greatestOf_40 : decode cX10_greatestOf 40 = .ok (.getfield 29, 3) := by decide +kernel
theorem dX10_greatestOf_43 : decode cX10_greatestOf 43 = .ok (.iload_n 3, 1) := by decide +kernel
theorem dX10_greatestOf_44 : decode cX10_greatestOf 44 = .ok (.iaload, 1) := by decide +kernel
theorem dX10_greatestOf_45 : decode cX10_greatestOf 45 = .ok (.if_icmp .le 6, 3) := by decide +kernel
theorem dX10_greatestOf_48 : decode cX10_greatestOf 48 = .ok (.iload 4, 2) := by decide +kernel
theorem dX10_greatestOf_50 : decode cX10_greatestOf 50 = .ok (.istore_n 3, 1) := by decide +kernel
theorem dX10_greatestOf_51 : decode cX10_greatestOf 51 = .ok (.iinc 4 1, 3) := by decide +kernel
theorem dX10_greatestOf_54 : decode cX10_greatestOf 54 = .ok (.goto (-49), 3) := by decide +kernel
theorem dX10_greatestOf_57 : decode cX10_greatestOf 57 = .ok (.iload_n 3, 1) := by decide +kernel
theorem dX10_greatestOf_58 : decode cX10_greatestOf 58 = .ok (.ireturn, 1) := by decide +kernel
theorem dX10_isByOneMore_0 : decode cX10_isByOneMore 0 = .ok (.aload_n 0, 1) := by decide +kernel
theorem dX10_isByOneMore_1 : decode cX10_isByOneMore 1 = .ok (.iload_n 2, 1) := by decide +kernel
theorem dX10_isByOneMore_2 : decode cX10_isByOneMore 2 = .ok (.aload_n 0, 1) := by decide +kernel
theorem dX10_isByOneMore_3 : decode cX10_isByOneMore 3 = .ok (.getfield 42, 3) := by decide +kernel
theorem dX10_isByOneMore_6 : decode cX10_isByOneMore 6 = .ok (.iload_n 1, 1) := by decide +kernel
theorem dX10_isByOneMore_7 : decode cX10_isByOneMore 7 = .ok (.iaload, 1) := by decide +kernel
theorem dX10_isByOneMore_8 : decode cX10_isByOneMore 8 = .ok (.iconst (-1), 1) := by decide +kernel
theorem dX10_isByOneMore_9 : decode cX10_isByOneMore 9 = .ok (.invokevirtual 240, 3) := by decide +kernel
theorem dX10_isByOneMore_12 : decode cX10_isByOneMore 12 = .ok (.aload_n 0, 1) := by decide +kernel
theorem dX10_isByOneMore_13 : decode cX10_isByOneMore 13 = .ok (.getfield 217, 3) := by decide +kernel
theorem dX10_isByOneMore_16 : decode cX10_isByOneMore 16 = .ok (.istore_n 3, 1) := by decide +kernel
theorem dX10_isByOneMore_17 : decode cX10_isByOneMore 17 = .ok (.iconst 0, 1) := by decide +kernel
theorem dX10_isByOneMore_18 : decode cX10_isByOneMore 18 = .ok (.istore 4, 2) := by decide +kernel
theorem dX10_isByOneMore_20 : decode cX10_isByOneMore 20 = .ok (.iload 4, 2) := by decide +kernel
theorem dX10_isByOneMore_22 : decode cX10_isByOneMore 22 = .ok (.bipush 24, 2) := by decide +kernel
theorem dX10_isByOneMore_24 : decode cX10_isByOneMore 24 = .ok (.if_icmp .ge 36, 3) := by decide +kernel
theorem dX10_isByOneMore_27 : decode cX10_isByOneMore 27 = .ok (.iload_n 3, 1) := by decide +kernel
theorem dX10_isByOneMore_28 : decode cX10_isByOneMore 28 = .ok (.iload 4, 2) := by decide +kernel
theorem dX10_isByOneMore_30 : decode cX10_isByOneMore 30 = .ok (.invokestatic 192, 3) := by decide +kernel
theorem dX10_isByOneMore_33 : decode cX10_isByOneMore 33 = .ok (.ifCond .eq 21, 3) := by decide +kernel
theorem dX10_isByOneMore_36 : decode cX10_isByOneMore 36 = .ok (.aload_n 0, 1) := by decide +kernel
theorem dX10_isByOneMore_37 : decode cX10_isByOneMore 37 = .ok (.iload_n 1, 1) := by decide +kernel
theorem dX10_isByOneMore_38 : decode cX10_isByOneMore 38 = .ok (.iload_n 2, 1) := by decide +kernel
theorem dX10_isByOneMore_39 : decode cX10_isByOneMore 39 = .ok (.iconst 1, 1) := by decide +kernel
theorem dX10_isByOneMore_40 : decode cX10_isByOneMore 40 = .ok (.iload 4, 2) := by decide +kernel
theorem dX10_isByOneMore_42 : decode cX10_isByOneMore 42 = .ok (.ishl, 1) := by decide +kernel
theorem dX10_isByOneMore_43 : decode cX10_isByOneMore 43 = .ok (.iconst (-1), 1) := by decide +kernel
theorem dX10_isByOneMore_44 : decode cX10_isByOneMore 44 = .ok (.ixor, 1) := by decide +kernel
theorem dX10_isByOneMore_45 : decode cX10_isByOneMore 45 = .ok (.iand, 1) := by decide +kernel
theorem dX10_isByOneMore_46 : decode cX10_isByOneMore 46 = .ok (.invokevirtual 358, 3) := by decide +kernel
theorem dX10_isByOneMore_49 : decode cX10_isByOneMore 49 = .ok (.ifCond .ne 5, 3) := by decide +kernel
theorem dX10_isByOneMore_52 : decode cX10_isByOneMore 52 = .ok (.iconst 1, 1) := by decide +kernel
theorem dX10_isByOneMore_53 : decode cX10_isByOneMore 53 = .ok (.ireturn, 1) := by decide +kernel
theorem dX10_isByOneMore_54 : decode cX10_isByOneMore 54 = .ok (.iinc 4 1, 3) := by decide +kernel
theorem dX10_isByOneMore_57 : decode cX10_isByOneMore 57 = .ok (.goto (-37), 3) := by decide +kernel
theorem dX10_isByOneMore_60 : decode cX10_isByOneMore 60 = .ok (.iconst 0, 1) := by decide +kernel
theorem dX10_isByOneMore_61 : decode cX10_isByOneMore 61 = .ok (.ireturn, 1) := by decide +kernel
theorem dX10_fewest_0 : decode cX10_fewest 0 = .ok (.aload_n 0, 1) := by decide +kernel
theorem dX10_fewest_1 : decode cX10_fewest 1 = .ok (.iconst 0, 1) := by decide +kernel
theorem dX10_fewest_2 : decode cX10_fewest 2 = .ok (.putfield 70, 3) := by decide +kernel
theorem dX10_fewest_5 : decode cX10_fewest 5 = .ok (.aload_n 0, 1) := by decide +kernel
theorem dX10_fewest_6 : decode cX10_fewest 6 = .ok (.iload_n 1, 1) := by decide +kernel
theorem dX10_fewest_7 : decode cX10_fewest 7 = .ok (.invokevirtual 275, 3) := by decide +kernel
theorem dX10_fewest_10 : decode cX10_fewest 10 = .ok (.ifCond .ne 5, 3) := by decide +kernel
theorem dX10_fewest_13 : decode cX10_fewest 13 = .ok (.iconst (-1), 1) := by decide +kernel
theorem dX10_fewest_14 : decode cX10_fewest 14 = .ok (.ireturn, 1) := by decide +kernel
theorem dX10_fewest_15 : decode cX10_fewest 15 = .ok (.aload_n 0, 1) := by decide +kernel
theorem dX10_fewest_16 : decode cX10_fewest 16 = .ok (.iload_n 1, 1) := by decide +kernel
theorem dX10_fewest_17 : decode cX10_fewest 17 = .ok (.invokevirtual 237, 3) := by decide +kernel
theorem dX10_fewest_20 : decode cX10_fewest 20 = .ok (.istore_n 2, 1) := by decide +kernel
theorem dX10_fewest_21 : decode cX10_fewest 21 = .ok (.aload_n 0, 1) := by decide +kernel
theorem dX10_fewest_22 : decode cX10_fewest 22 = .ok (.iload_n 1, 1) := by decide +kernel
theorem dX10_fewest_23 : decode cX10_fewest 23 = .ok (.iload_n 2, 1) := by decide +kernel
theorem dX10_fewest_24 : decode cX10_fewest 24 = .ok (.invokevirtual 358, 3) := by decide +kernel
theorem dX10_fewest_27 : decode cX10_fewest 27 = .ok (.ifCond .ne 5, 3) := by decide +kernel
theorem dX10_fewest_30 : decode cX10_fewest 30 = .ok (.iconst 0, 1) := by decide +kernel
theorem dX10_fewest_31 : decode cX10_fewest 31 = .ok (.ireturn, 1) := by decide +kernel
theorem dX10_fewest_32 : decode cX10_fewest 32 = .ok (.aload_n 0, 1) := by decide +kernel
theorem dX10_fewest_33 : decode cX10_fewest 33 = .ok (.getfield 217, 3) := by decide +kernel
theorem dX10_fewest_36 : decode cX10_fewest 36 = .ok (.istore_n 3, 1) := by decide +kernel
theorem dX10_fewest_37 : decode cX10_fewest 37 = .ok (.aload_n 0, 1) := by decide +kernel
theorem dX10_fewest_38 : decode cX10_fewest 38 = .ok (.getfield 214, 3) := by decide +kernel
theorem dX10_fewest_41 : decode cX10_fewest 41 = .ok (.istore 4, 2) := by decide +kernel
theorem dX10_fewest_43 : decode cX10_fewest 43 = .ok (.aload_n 0, 1) := by decide +kernel
theorem dX10_fewest_44 : decode cX10_fewest 44 = .ok (.iload_n 3, 1) := by decide +kernel
theorem dX10_fewest_45 : decode cX10_fewest 45 = .ok (.iconst (-1), 1) := by decide +kernel
theorem dX10_fewest_46 : decode cX10_fewest 46 = .ok (.invokevirtual 361, 3) := by decide +kernel
theorem dX10_fewest_49 : decode cX10_fewest 49 = .ok (.istore 5, 2) := by decide +kernel
theorem dX10_fewest_51 : decode cX10_fewest 51 = .ok (.aload_n 0, 1) := by decide +kernel
theorem dX10_fewest_52 : decode cX10_fewest 52 = .ok (.iload_n 3, 1) := by decide +kernel
theorem dX10_fewest_53 : decode cX10_fewest 53 = .ok (.iload 5, 2) := by decide +kernel
theorem dX10_fewest_55 : decode cX10_fewest 55 = .ok (.invokevirtual 361, 3) := by decide +kernel
theorem dX10_fewest_58 : decode cX10_fewest 58 = .ok (.istore 6, 2) := by decide +kernel
theorem dX10_fewest_60 : decode cX10_fewest 60 = .ok (.iload 4, 2) := by decide +kernel
theorem dX10_fewest_62 : decode cX10_fewest 62 = .ok (.aload_n 0, 1) := by decide +kernel
theorem dX10_fewest_63 : decode cX10_fewest 63 = .ok (.getfield 29, 3) := by decide +kernel
theorem dX10_fewest_66 : decode cX10_fewest 66 = .ok (.iload 5, 2) := by decide +kernel
theorem dX10_fewest_68 : decode cX10_fewest 68 = .ok (.iaload, 1) := by decide +kernel
theorem dX10_fewest_69 : decode cX10_fewest 69 = .ok (.isub, 1) := by decide +kernel
theorem dX10_fewest_70 : decode cX10_fewest 70 = .ok (.aload_n 0, 1) := by decide +kernel
theorem dX10_fewest_71 : decode cX10_fewest 71 = .ok (.getfield 45, 3) := by decide +kernel
theorem dX10_fewest_74 : decode cX10_fewest 74 = .ok (.iload_n 1, 1) := by decide +kernel
theorem dX10_fewest_75 : decode cX10_fewest 75 = .ok (.iaload, 1) := by decide +kernel
theorem dX10_fewest_76 : decode cX10_fewest 76 = .ok (.if_icmp .gt 46, 3) := by decide +kernel
theorem dX10_fewest_79 : decode cX10_fewest 79 = .ok (.iconst 0, 1) := by decide +kernel
theorem dX10_fewest_80 : decode cX10_fewest 80 = .ok (.istore 7, 2) := by decide +kernel
theorem dX10_fewest_82 : decode cX10_fewest 82 = .ok (.iload 7, 2) := by decide +kernel
theorem dX10_fewest_84 : decode cX10_fewest 84 = .ok (.bipush 24, 2) := by decide +kernel
theorem dX10_fewest_86 : decode cX10_fewest 86 = .ok (.if_icmp .ge 36, 3) := by decide +kernel
theorem dX10_fewest_89 : decode cX10_fewest 89 = .ok (.iload_n 3, 1) := by decide +kernel
theorem dX10_fewest_90 : decode cX10_fewest 90 = .ok (.iload 7, 2) := by decide +kernel
theorem dX10_fewest_92 : decode cX10_fewest 92 = .ok (.invokestatic 192, 3) := by decide +kernel
theorem dX10_fewest_95 : decode cX10_fewest 95 = .ok (.ifCond .eq 21, 3) := by decide +kernel
theorem dX10_fewest_98 : decode cX10_fewest 98 = .ok (.aload_n 0, 1) := by decide +kernel
theorem dX10_fewest_99 : decode cX10_fewest 99 = .ok (.iload_n 1, 1) := by decide +kernel
theorem dX10_fewest_100 : decode cX10_fewest 100 = .ok (.iload_n 2, 1) := by decide +kernel
theorem dX10_fewest_101 : decode cX10_fewest 101 = .ok (.iconst 1, 1) := by decide +kernel
theorem dX10_fewest_102 : decode cX10_fewest 102 = .ok (.iload 7, 2) := by decide +kernel
theorem dX10_fewest_104 : decode cX10_fewest 104 = .ok (.ishl, 1) := by decide +kernel
theorem dX10_fewest_105 : decode cX10_fewest 105 = .ok (.iconst (-1), 1) := by decide +kernel
theorem dX10_fewest_106 : decode cX10_fewest 106 = .ok (.ixor, 1) := by decide +kernel
theorem dX10_fewest_107 : decode cX10_fewest 107 = .ok (.iand, 1) := by decide +kernel
theorem dX10_fewest_108 : decode cX10_fewest 108 = .ok (.invokevirtual 358, 3) := by decide +kernel
theorem dX10_fewest_111 : decode cX10_fewest 111 = .ok (.ifCond .ne 5, 3) := by decide +kernel
theorem dX10_fewest_114 : decode cX10_fewest 114 = .ok (.iconst 1, 1) := by decide +kernel
theorem dX10_fewest_115 : decode cX10_fewest 115 = .ok (.ireturn, 1) := by decide +kernel
theorem dX10_fewest_116 : decode cX10_fewest 116 = .ok (.iinc 7 1, 3) := by decide +kernel
theorem dX10_fewest_119 : decode cX10_fewest 119 = .ok (.goto (-37), 3) := by decide +kernel
theorem dX10_fewest_122 : decode cX10_fewest 122 = .ok (.iload 6, 2) := by decide +kernel
theorem dX10_fewest_124 : decode cX10_fewest 124 = .ok (.iconst (-1), 1) := by decide +kernel
theorem dX10_fewest_125 : decode cX10_fewest 125 = .ok (.if_icmp .eq 33, 3) := by decide +kernel
theorem dX10_fewest_128 : decode cX10_fewest 128 = .ok (.iload 4, 2) := by decide +kernel
theorem dX10_fewest_130 : decode cX10_fewest 130 = .ok (.aload_n 0, 1) := by decide +kernel
theorem dX10_fewest_131 : decode cX10_fewest 131 = .ok (.getfield 29, 3) := by decide +kernel
theorem dX10_fewest_134 : decode cX10_fewest 134 = .ok (.iload 5, 2) := by decide +kernel
theorem dX10_fewest_136 : decode cX10_fewest 136 = .ok (.iaload, 1) := by decide +kernel
theorem dX10_fewest_137 : decode cX10_fewest 137 = .ok (.isub, 1) := by decide +kernel
theorem dX10_fewest_138 : decode cX10_fewest 138 = .ok (.aload_n 0, 1) := by decide +kernel
theorem dX10_fewest_139 : decode cX10_fewest 139 = .ok (.getfield 29, 3) := by decide +kernel
theorem dX10_fewest_142 : decode cX10_fewest 142 = .ok (.iload 6, 2) := by decide +kernel
theorem dX10_fewest_144 : decode cX10_fewest 144 = .ok (.iaload, 1) := by decide +kernel
theorem dX10_fewest_145 : decode cX10_fewest 145 = .ok (.isub, 1) := by decide +kernel
theorem dX10_fewest_146 : decode cX10_fewest 146 = .ok (.aload_n 0, 1) := by decide +kernel
theorem dX10_fewest_147 : decode cX10_fewest 147 = .ok (.getfield 45, 3) := by decide +kernel
theorem dX10_fewest_150 : decode cX10_fewest 150 = .ok (.iload_n 1, 1) := by decide +kernel
theorem dX10_fewest_151 : decode cX10_fewest 151 = .ok (.iaload, 1) := by decide +kernel
theorem dX10_fewest_152 : decode cX10_fewest 152 = .ok (.if_icmp .le 6, 3) := by decide +kernel
theorem dX10_fewest_155 : decode cX10_fewest 155 = .ok (.bipush (-2), 2) := by decide +kernel
theorem dX10_fewest_157 : decode cX10_fewest 157 = .ok (.ireturn, 1) := by decide +kernel
theorem dX10_fewest_158 : decode cX10_fewest 158 = .ok (.iconst 0, 1) := by decide +kernel
theorem dX10_fewest_159 : decode cX10_fewest 159 = .ok (.istore 7, 2) := by decide +kernel
theorem dX10_fewest_161 : decode cX10_fewest 161 = .ok (.iload 7, 2) := by decide +kernel
theorem dX10_fewest_163 : decode cX10_fewest 163 = .ok (.bipush 24, 2) := by decide +kernel
theorem dX10_fewest_165 : decode cX10_fewest 165 = .ok (.if_icmp .ge 36, 3) := by decide +kernel
theorem dX10_fewest_168 : decode cX10_fewest 168 = .ok (.iload_n 3, 1) := by decide +kernel
theorem dX10_fewest_169 : decode cX10_fewest 169 = .ok (.iload 7, 2) := by decide +kernel
theorem dX10_fewest_171 : decode cX10_fewest 171 = .ok (.invokestatic 192, 3) := by decide +kernel
theorem dX10_fewest_174 : decode cX10_fewest 174 = .ok (.ifCond .eq 21, 3) := by decide +kernel
theorem dX10_fewest_177 : decode cX10_fewest 177 = .ok (.aload_n 0, 1) := by decide +kernel
theorem dX10_fewest_178 : decode cX10_fewest 178 = .ok (.iload_n 1, 1) := by decide +kernel
theorem dX10_fewest_179 : decode cX10_fewest 179 = .ok (.iload_n 2, 1) := by decide +kernel
theorem dX10_fewest_180 : decode cX10_fewest 180 = .ok (.iconst 1, 1) := by decide +kernel
theorem dX10_fewest_181 : decode cX10_fewest 181 = .ok (.iload 7, 2) := by decide +kernel
theorem dX10_fewest_183 : decode cX10_fewest 183 = .ok (.ishl, 1) := by decide +kernel
theorem dX10_fewest_184 : decode cX10_fewest 184 = .ok (.iconst (-1), 1) := by decide +kernel
theorem dX10_fewest_185 : decode cX10_fewest 185 = .ok (.ixor, 1) := by decide +kernel
theorem dX10_fewest_186 : decode cX10_fewest 186 = .ok (.iand, 1) := by decide +kernel
theorem dX10_fewest_187 : decode cX10_fewest 187 = .ok (.invokevirtual 364, 3) := by decide +kernel
theorem dX10_fewest_190 : decode cX10_fewest 190 = .ok (.ifCond .eq 5, 3) := by decide +kernel
theorem dX10_fewest_193 : decode cX10_fewest 193 = .ok (.iconst 2, 1) := by decide +kernel
theorem dX10_fewest_194 : decode cX10_fewest 194 = .ok (.ireturn, 1) := by decide +kernel
theorem dX10_fewest_195 : decode cX10_fewest 195 = .ok (.iinc 7 1, 3) := by decide +kernel
theorem dX10_fewest_198 : decode cX10_fewest 198 = .ok (.goto (-37), 3) := by decide +kernel
theorem dX10_fewest_201 : decode cX10_fewest 201 = .ok (.bipush (-2), 2) := by decide +kernel
theorem dX10_fewest_203 : decode cX10_fewest 203 = .ok (.ireturn, 1) := by decide +kernel
theorem dX10_nearest_0 : decode cX10_nearest 0 = .ok (.aload_n 0, 1) := by decide +kernel
theorem dX10_nearest_1 : decode cX10_nearest 1 = .ok (.iconst 0, 1) := by decide +kernel
theorem dX10_nearest_2 : decode cX10_nearest 2 = .ok (.putfield 70, 3) := by decide +kernel
theorem dX10_nearest_5 : decode cX10_nearest 5 = .ok (.aload_n 0, 1) := by decide +kernel
theorem dX10_nearest_6 : decode cX10_nearest 6 = .ok (.iload_n 1, 1) := by decide +kernel
theorem dX10_nearest_7 : decode cX10_nearest 7 = .ok (.invokevirtual 266, 3) := by decide +kernel
theorem dX10_nearest_10 : decode cX10_nearest 10 = .ok (.ifCond .ne 5, 3) := by decide +kernel
theorem dX10_nearest_13 : decode cX10_nearest 13 = .ok (.iconst (-1), 1) := by decide +kernel
theorem dX10_nearest_14 : decode cX10_nearest 14 = .ok (.ireturn, 1) := by decide +kernel
theorem dX10_nearest_15 : decode cX10_nearest 15 = .ok (.bipush (-2), 2) := by decide +kernel
theorem dX10_nearest_17 : decode cX10_nearest 17 = .ok (.istore_n 2, 1) := by decide +kernel
theorem dX10_nearest_18 : decode cX10_nearest 18 = .ok (.iconst 0, 1) := by decide +kernel
theorem dX10_nearest_19 : decode cX10_nearest 19 = .ok (.istore_n 3, 1) := by decide +kernel
theorem dX10_nearest_20 : decode cX10_nearest 20 = .ok (.iload_n 3, 1) := by decide +kernel
theorem dX10_nearest_21 : decode cX10_nearest 21 = .ok (.bipush 24, 2) := by decide +kernel
theorem dX10_nearest_23 : decode cX10_nearest 23 = .ok (.if_icmp .ge 49, 3) := by decide +kernel
theorem dX10_nearest_26 : decode cX10_nearest 26 = .ok (.aload_n 0, 1) := by decide +kernel
theorem dX10_nearest_27 : decode cX10_nearest 27 = .ok (.getfield 35, 3) := by decide +kernel
theorem dX10_nearest_30 : decode cX10_nearest 30 = .ok (.iload_n 3, 1) := by decide +kernel
theorem dX10_nearest_31 : decode cX10_nearest 31 = .ok (.baload, 1) := by decide +kernel
theorem dX10_nearest_32 : decode cX10_nearest 32 = .ok (.ifCond .eq 34, 3) := by decide +kernel
theorem dX10_nearest_35 : decode cX10_nearest 35 = .ok (.iload_n 3, 1) := by decide +kernel
theorem dX10_nearest_36 : decode cX10_nearest 36 = .ok (.iload_n 1, 1) := by decide +kernel
theorem dX10_nearest_37 : decode cX10_nearest 37 = .ok (.if_icmp .ne 6, 3) := by decide +kernel
theorem dX10_nearest_40 : decode cX10_nearest 40 = .ok (.goto 26, 3) := by decide +kernel
theorem dX10_nearest_43 : decode cX10_nearest 43 = .ok (.iload_n 2, 1) := by decide +kernel
theorem dX10_nearest_44 : decode cX10_nearest 44 = .ok (.bipush (-2), 2) := by decide +kernel
theorem dX10_nearest_46 : decode cX10_nearest 46 = .ok (.if_icmp .eq 18, 3) := by decide +kernel
theorem dX10_nearest_49 : decode cX10_nearest 49 = .ok (.aload_n 0, 1) := by decide +kernel
theorem dX10_nearest_50 : decode cX10_nearest 50 = .ok (.iload_n 1, 1) := by decide +kernel
theorem dX10_nearest_51 : decode cX10_nearest 51 = .ok (.iload_n 3, 1) := by decide +kernel
theorem dX10_nearest_52 : decode cX10_nearest 52 = .ok (.invokevirtual 203, 3) := by decide +kernel
theorem dX10_nearest_55 : decode cX10_nearest 55 = .ok (.aload_n 0, 1) := by decide +kernel
theorem dX10_nearest_56 : decode cX10_nearest 56 = .ok (.iload_n 1, 1) := by decide +kernel
theorem dX10_nearest_57 : decode cX10_nearest 57 = .ok (.iload_n 2, 1) := by decide +kernel
theorem dX10_nearest_58 : decode cX10_nearest 58 = .ok (.invokevirtual 203, 3) := by decide +kernel
theorem dX10_nearest_61 : decode cX10_nearest 61 = .ok (.if_icmp .ge 5, 3) := by decide +kernel
theorem dX10_nearest_64 : decode cX10_nearest 64 = .ok (.iload_n 3, 1) := by decide +kernel
theorem dX10_nearest_65 : decode cX10_nearest 65 = .ok (.istore_n 2, 1) := by decide +kernel
theorem dX10_nearest_66 : decode cX10_nearest 66 = .ok (.iinc 3 1, 3) := by decide +kernel
theorem dX10_nearest_69 : decode cX10_nearest 69 = .ok (.goto (-49), 3) := by decide +kernel
theorem dX10_nearest_72 : decode cX10_nearest 72 = .ok (.iload_n 2, 1) := by decide +kernel
theorem dX10_nearest_73 : decode cX10_nearest 73 = .ok (.ireturn, 1) := by decide +kernel
theorem dX10_couples_0 : decode cX10_couples 0 = .ok (.aload_n 0, 1) := by decide +kernel
theorem dX10_couples_1 : decode cX10_couples 1 = .ok (.iconst 0, 1) := by decide +kernel
theorem dX10_couples_2 : decode cX10_couples 2 = .ok (.putfield 70, 3) := by decide +kernel
theorem dX10_couples_5 : decode cX10_couples 5 = .ok (.iload_n 1, 1) := by decide +kernel
theorem dX10_couples_6 : decode cX10_couples 6 = .ok (.ifCond .lt 10, 3) := by decide +kernel
theorem dX10_couples_9 : decode cX10_couples 9 = .ok (.iload_n 1, 1) := by decide +kernel
theorem dX10_couples_10 : decode cX10_couples 10 = .ok (.sipush 300, 3) := by decide +kernel
theorem dX10_couples_13 : decode cX10_couples 13 = .ok (.if_icmp .le 5, 3) := by decide +kernel
theorem dX10_couples_16 : decode cX10_couples 16 = .ok (.iconst (-1), 1) := by decide +kernel
theorem dX10_couples_17 : decode cX10_couples 17 = .ok (.ireturn, 1) := by decide +kernel
theorem dX10_couples_18 : decode cX10_couples 18 = .ok (.iconst 0, 1) := by decide +kernel
theorem dX10_couples_19 : decode cX10_couples 19 = .ok (.istore_n 2, 1) := by decide +kernel
theorem dX10_couples_20 : decode cX10_couples 20 = .ok (.iconst 0, 1) := by decide +kernel
theorem dX10_couples_21 : decode cX10_couples 21 = .ok (.istore_n 3, 1) := by decide +kernel
theorem dX10_couples_22 : decode cX10_couples 22 = .ok (.iload_n 3, 1) := by decide +kernel
theorem dX10_couples_23 : decode cX10_couples 23 = .ok (.bipush 24, 2) := by decide +kernel
theorem dX10_couples_25 : decode cX10_couples 25 = .ok (.if_icmp .ge 67, 3) := by decide +kernel
theorem dX10_couples_28 : decode cX10_couples 28 = .ok (.iload_n 3, 1) := by decide +kernel
theorem dX10_couples_29 : decode cX10_couples 29 = .ok (.iconst 1, 1) := by decide +kernel
theorem dX10_couples_30 : decode cX10_couples 30 = .ok (.iadd, 1) := by decide +kernel
theorem dX10_couples_31 : decode cX10_couples 31 = .ok (.istore 4, 2) := by decide +kernel
theorem dX10_couples_33 : decode cX10_couples 33 = .ok (.iload 4, 2) := by decide +kernel
theorem dX10_couples_35 : decode cX10_couples 35 = .ok (.bipush 24, 2) := by decide +kernel
theorem dX10_couples_37 : decode cX10_couples 37 = .ok (.if_icmp .ge 49, 3) := by decide +kernel
theorem dX10_couples_40 : decode cX10_couples 40 = .ok (.iload_n 2, 1) := by decide +kernel
theorem dX10_couples_41 : decode cX10_couples 41 = .ok (.aload_n 0, 1) := by decide +kernel
theorem dX10_couples_42 : decode cX10_couples 42 = .ok (.getfield 35, 3) := by decide +kernel
theorem dX10_couples_45 : decode cX10_couples 45 = .ok (.iload_n 3, 1) := by decide +kernel
theorem dX10_couples_46 : decode cX10_couples 46 = .ok (.baload, 1) := by decide +kernel
theorem dX10_couples_47 : decode cX10_couples 47 = .ok (.ifCond .eq 30, 3) := by decide +kernel
theorem dX10_couples_50 : decode cX10_couples 50 = .ok (.aload_n 0, 1) := by decide +kernel
theorem dX10_couples_51 : decode cX10_couples 51 = .ok (.getfield 35, 3) := by decide +kernel
theorem dX10_couples_54 : decode cX10_couples 54 = .ok (.iload 4, 2) := by decide +kernel
theorem dX10_couples_56 : decode cX10_couples 56 = .ok (.baload, 1) := by decide +kernel
theorem dX10_couples_57 : decode cX10_couples 57 = .ok (.ifCond .eq 20, 3) := by decide +kernel
theorem dX10_couples_60 : decode cX10_couples 60 = .ok (.aload_n 0, 1) := by decide +kernel
theorem dX10_couples_61 : decode cX10_couples 61 = .ok (.iload_n 3, 1) := by decide +kernel
theorem dX10_couples_62 : decode cX10_couples 62 = .ok (.iload 4, 2) := by decide +kernel
theorem dX10_couples_64 : decode cX10_couples 64 = .ok (.invokevirtual 203, 3) := by decide +kernel
theorem dX10_couples_67 : decode cX10_couples 67 = .ok (.iload_n 1, 1) := by decide +kernel
theorem dX10_couples_68 : decode cX10_couples 68 = .ok (.iload_n 1, 1) := by decide +kernel
theorem dX10_couples_69 : decode cX10_couples 69 = .ok (.imul, 1) := by decide +kernel
theorem dX10_couples_70 : decode cX10_couples 70 = .ok (.if_icmp .gt 7, 3) := by decide +kernel
theorem dX10_couples_73 : decode cX10_couples 73 = .ok (.iconst 1, 1) := by decide +kernel
theorem dX10_couples_74 : decode cX10_couples 74 = .ok (.goto 4, 3) := by decide +kernel
theorem dX10_couples_77 : decode cX10_couples 77 = .ok (.iconst 0, 1) := by decide +kernel
theorem dX10_couples_78 : decode cX10_couples 78 = .ok (.iadd, 1) := by decide +kernel
theorem dX10_couples_79 : decode cX10_couples 79 = .ok (.istore_n 2, 1) := by decide +kernel
theorem dX10_couples_80 : decode cX10_couples 80 = .ok (.iinc 4 1, 3) := by decide +kernel
theorem dX10_couples_83 : decode cX10_couples 83 = .ok (.goto (-50), 3) := by decide +kernel
theorem dX10_couples_86 : decode cX10_couples 86 = .ok (.iinc 3 1, 3) := by decide +kernel
theorem dX10_couples_89 : decode cX10_couples 89 = .ok (.goto (-67), 3) := by decide +kernel
theorem dX10_couples_92 : decode cX10_couples 92 = .ok (.iload_n 2, 1) := by decide +kernel
theorem dX10_couples_93 : decode cX10_couples 93 = .ok (.ireturn, 1) := by decide +kernel
theorem dX10_onWay_0 : decode cX10_onWay 0 = .ok (.iload_n 2, 1) := by decide +kernel
theorem dX10_onWay_1 : decode cX10_onWay 1 = .ok (.iload_n 1, 1) := by decide +kernel
theorem dX10_onWay_2 : decode cX10_onWay 2 = .ok (.iload_n 0, 1) := by decide +kernel
theorem dX10_onWay_3 : decode cX10_onWay 3 = .ok (.isub, 1) := by decide +kernel
theorem dX10_onWay_4 : decode cX10_onWay 4 = .ok (.imul, 1) := by decide +kernel
theorem dX10_onWay_5 : decode cX10_onWay 5 = .ok (.istore 4, 2) := by decide +kernel
theorem dX10_onWay_7 : decode cX10_onWay 7 = .ok (.iload 4, 2) := by decide +kernel
theorem dX10_onWay_9 : decode cX10_onWay 9 = .ok (.iload_n 3, 1) := by decide +kernel
theorem dX10_onWay_10 : decode cX10_onWay 10 = .ok (.idiv, 1) := by decide +kernel
theorem dX10_onWay_11 : decode cX10_onWay 11 = .ok (.istore 5, 2) := by decide +kernel
theorem dX10_onWay_13 : decode cX10_onWay 13 = .ok (.iload_n 0, 1) := by decide +kernel
theorem dX10_onWay_14 : decode cX10_onWay 14 = .ok (.iload 5, 2) := by decide +kernel
theorem dX10_onWay_16 : decode cX10_onWay 16 = .ok (.iload_n 3, 1) := by decide +kernel
theorem dX10_onWay_17 : decode cX10_onWay 17 = .ok (.imul, 1) := by decide +kernel
theorem dX10_onWay_18 : decode cX10_onWay 18 = .ok (.iload 4, 2) := by decide +kernel
theorem dX10_onWay_20 : decode cX10_onWay 20 = .ok (.if_icmp .le 10, 3) := by decide +kernel
theorem dX10_onWay_23 : decode cX10_onWay 23 = .ok (.iload 5, 2) := by decide +kernel
theorem dX10_onWay_25 : decode cX10_onWay 25 = .ok (.iconst 1, 1) := by decide +kernel
theorem dX10_onWay_26 : decode cX10_onWay 26 = .ok (.isub, 1) := by decide +kernel
theorem dX10_onWay_27 : decode cX10_onWay 27 = .ok (.goto 5, 3) := by decide +kernel
theorem dX10_onWay_30 : decode cX10_onWay 30 = .ok (.iload 5, 2) := by decide +kernel
theorem dX10_onWay_32 : decode cX10_onWay 32 = .ok (.iadd, 1) := by decide +kernel
theorem dX10_onWay_33 : decode cX10_onWay 33 = .ok (.ireturn, 1) := by decide +kernel
theorem dX10_along_0 : decode cX10_along 0 = .ok (.aload_n 0, 1) := by decide +kernel
theorem dX10_along_1 : decode cX10_along 1 = .ok (.iconst 0, 1) := by decide +kernel
theorem dX10_along_2 : decode cX10_along 2 = .ok (.putfield 70, 3) := by decide +kernel
theorem dX10_along_5 : decode cX10_along 5 = .ok (.aload_n 0, 1) := by decide +kernel
theorem dX10_along_6 : decode cX10_along 6 = .ok (.iload_n 1, 1) := by decide +kernel
theorem dX10_along_7 : decode cX10_along 7 = .ok (.invokevirtual 275, 3) := by decide +kernel
theorem dX10_along_10 : decode cX10_along 10 = .ok (.ifCond .eq 44, 3) := by decide +kernel
theorem dX10_along_13 : decode cX10_along 13 = .ok (.aload_n 0, 1) := by decide +kernel
theorem dX10_along_14 : decode cX10_along 14 = .ok (.iload_n 2, 1) := by decide +kernel
theorem dX10_along_15 : decode cX10_along 15 = .ok (.invokevirtual 266, 3) := by decide +kernel
theorem dX10_along_18 : decode cX10_along 18 = .ok (.ifCond .eq 36, 3) := by decide +kernel
theorem dX10_along_21 : decode cX10_along 21 = .ok (.iload_n 3, 1) := by decide +kernel
theorem dX10_along_22 : decode cX10_along 22 = .ok (.iload 4, 2) := by decide +kernel
theorem dX10_along_24 : decode cX10_along 24 = .ok (.invokestatic 254, 3) := by decide +kernel
theorem dX10_along_27 : decode cX10_along 27 = .ok (.ifCond .eq 27, 3) := by decide +kernel
theorem dX10_along_30 : decode cX10_along 30 = .ok (.iload 5, 2) := by decide +kernel
theorem dX10_along_32 : decode cX10_along 32 = .ok (.iconst 1, 1) := by decide +kernel
theorem dX10_along_33 : decode cX10_along 33 = .ok (.if_icmp .lt 21, 3) := by decide +kernel
theorem dX10_along_36 : decode cX10_along 36 = .ok (.iload 5, 2) := by decide +kernel
theorem dX10_along_38 : decode cX10_along 38 = .ok (.bipush 20, 2) := by decide +kernel
theorem dX10_along_40 : decode cX10_along 40 = .ok (.if_icmp .gt 14, 3) := by decide +kernel
theorem dX10_along_43 : decode cX10_along 43 = .ok (.iload 6, 2) := by decide +kernel
theorem dX10_along_45 : decode cX10_along 45 = .ok (.ifCond .lt 9, 3) := by decide +kernel
theorem dX10_along_48 : decode cX10_along 48 = .ok (.iload 6, 2) := by decide +kernel
theorem dX10_along_50 : decode cX10_along 50 = .ok (.iconst 1, 1) := by decide +kernel
theorem dX10_along_51 : decode cX10_along 51 = .ok (.if_icmp .le 5, 3) := by decide +kernel
theorem dX10_along_54 : decode cX10_along 54 = .ok (.iconst (-1), 1) := by decide +kernel
theorem dX10_along_55 : decode cX10_along 55 = .ok (.ireturn, 1) := by decide +kernel
theorem dX10_along_56 : decode cX10_along 56 = .ok (.aload_n 0, 1) := by decide +kernel
theorem dX10_along_57 : decode cX10_along 57 = .ok (.getfield 23, 3) := by decide +kernel
theorem dX10_along_60 : decode cX10_along 60 = .ok (.iload_n 2, 1) := by decide +kernel
theorem dX10_along_61 : decode cX10_along 61 = .ok (.iaload, 1) := by decide +kernel
theorem dX10_along_62 : decode cX10_along 62 = .ok (.istore 7, 2) := by decide +kernel
theorem dX10_along_64 : decode cX10_along 64 = .ok (.aload_n 0, 1) := by decide +kernel
theorem dX10_along_65 : decode cX10_along 65 = .ok (.getfield 26, 3) := by decide +kernel
theorem dX10_along_68 : decode cX10_along 68 = .ok (.iload_n 2, 1) := by decide +kernel
theorem dX10_along_69 : decode cX10_along 69 = .ok (.iaload, 1) := by decide +kernel
theorem dX10_along_70 : decode cX10_along 70 = .ok (.istore 8, 2) := by decide +kernel
theorem dX10_along_72 : decode cX10_along 72 = .ok (.iconst (-1), 1) := by decide +kernel
theorem dX10_along_73 : decode cX10_along 73 = .ok (.istore 9, 2) := by decide +kernel
theorem dX10_along_75 : decode cX10_along 75 = .ok (.bipush (-2), 2) := by decide +kernel
theorem dX10_along_77 : decode cX10_along 77 = .ok (.istore 10, 2) := by decide +kernel
theorem dX10_along_79 : decode cX10_along 79 = .ok (.iconst 0, 1) := by decide +kernel
theorem dX10_along_80 : decode cX10_along 80 = .ok (.istore 11, 2) := by decide +kernel
theorem dX10_along_82 : decode cX10_along 82 = .ok (.iload 11, 2) := by decide +kernel
theorem dX10_along_84 : decode cX10_along 84 = .ok (.iload 5, 2) := by decide +kernel
theorem dX10_along_86 : decode cX10_along 86 = .ok (.if_icmp .gt 87, 3) := by decide +kernel
theorem dX10_along_89 : decode cX10_along 89 = .ok (.aload_n 0, 1) := by decide +kernel
theorem dX10_along_90 : decode cX10_along 90 = .ok (.getfield 23, 3) := by decide +kernel
theorem dX10_along_93 : decode cX10_along 93 = .ok (.iload_n 2, 1) := by decide +kernel
theorem dX10_along_94 : decode cX10_along 94 = .ok (.iload 7, 2) := by decide +kernel
theorem dX10_along_96 : decode cX10_along 96 = .ok (.iload_n 3, 1) := by decide +kernel
theorem dX10_along_97 : decode cX10_along 97 = .ok (.iload 11, 2) := by decide +kernel
theorem dX10_along_99 : decode cX10_along 99 = .ok (.iload 5, 2) := by decide +kernel
theorem dX10_along_101 : decode cX10_along 101 = .ok (.invokestatic 367, 3) := by decide +kernel
theorem dX10_along_104 : decode cX10_along 104 = .ok (.iastore, 1) := by decide +kernel
theorem dX10_along_105 : decode cX10_along 105 = .ok (.aload_n 0, 1) := by decide +kernel
theorem dX10_along_106 : decode cX10_along 106 = .ok (.getfield 26, 3) := by decide +kernel
theorem dX10_along_109 : decode cX10_along 109 = .ok (.iload_n 2, 1) := by decide +kernel
theorem dX10_along_110 : decode cX10_along 110 = .ok (.iload 8, 2) := by decide +kernel
theorem dX10_along_112 : decode cX10_along 112 = .ok (.iload 4, 2) := by decide +kernel
theorem dX10_along_114 : decode cX10_along 114 = .ok (.iload 11, 2) := by decide +kernel
theorem dX10_along_116 : decode cX10_along 116 = .ok (.iload 5, 2) := by decide +kernel
theorem dX10_along_118 : decode cX10_along 118 = .ok (.invokestatic 367, 3) := by decide +kernel
theorem dX10_along_121 : decode cX10_along 121 = .ok (.iastore, 1) := by decide +kernel
theorem dX10_along_122 : decode cX10_along 122 = .ok (.aload_n 0, 1) := by decide +kernel
theorem dX10_along_123 : decode cX10_along 123 = .ok (.iload_n 1, 1) := by decide +kernel
theorem dX10_along_124 : decode cX10_along 124 = .ok (.invokevirtual 244, 3) := by decide +kernel
theorem dX10_along_127 : decode cX10_along 127 = .ok (.istore 12, 2) := by decide +kernel
theorem dX10_along_129 : decode cX10_along 129 = .ok (.iload 12, 2) := by decide +kernel
theorem dX10_along_131 : decode cX10_along 131 = .ok (.iload 9, 2) := by decide +kernel
theorem dX10_along_133 : decode cX10_along 133 = .ok (.if_icmp .le 8, 3) := by decide +kernel
theorem dX10_along_136 : decode cX10_along 136 = .ok (.iload 12, 2) := by decide +kernel
theorem dX10_along_138 : decode cX10_along 138 = .ok (.goto 5, 3) := by decide +kernel
theorem dX10_along_141 : decode cX10_along 141 = .ok (.iload 9, 2) := by decide +kernel
theorem dX10_along_143 : decode cX10_along 143 = .ok (.istore 9, 2) := by decide +kernel
theorem dX10_along_145 : decode cX10_along 145 = .ok (.iload 10, 2) := by decide +kernel
theorem dX10_along_147 : decode cX10_along 147 = .ok (.bipush (-2), 2) := by decide +kernel
theorem dX10_along_149 : decode cX10_along 149 = .ok (.if_icmp .ne 18, 3) := by decide +kernel
theorem dX10_along_152 : decode cX10_along 152 = .ok (.iload 12, 2) := by decide +kernel
theorem dX10_along_154 : decode cX10_along 154 = .ok (.aload_n 0, 1) := by decide +kernel
theorem dX10_along_155 : decode cX10_along 155 = .ok (.getfield 45, 3) := by decide +kernel
theorem dX10_along_158 : decode cX10_along 158 = .ok (.iload_n 1, 1) := by decide +kernel
theorem dX10_along_159 : decode cX10_along 159 = .ok (.iaload, 1) := by decide +kernel
theorem dX10_along_160 : decode cX10_along 160 = .ok (.if_icmp .le 7, 3) := by decide +kernel
theorem dX10_along_163 : decode cX10_along 163 = .ok (.iload 11, 2) := by decide +kernel
theorem dX10_along_165 : decode cX10_along 165 = .ok (.istore 10, 2) := by decide +kernel
theorem dX10_along_167 : decode cX10_along 167 = .ok (.iinc 11 1, 3) := by decide +kernel
theorem dX10_along_170 : decode cX10_along 170 = .ok (.goto (-88), 3) := by decide +kernel
theorem dX10_along_173 : decode cX10_along 173 = .ok (.aload_n 0, 1) := by decide +kernel
theorem dX10_along_174 : decode cX10_along 174 = .ok (.getfield 23, 3) := by decide +kernel
theorem dX10_along_177 : decode cX10_along 177 = .ok (.iload_n 2, 1) := by decide +kernel
theorem dX10_along_178 : decode cX10_along 178 = .ok (.iload 7, 2) := by decide +kernel
theorem dX10_along_180 : decode cX10_along 180 = .ok (.iastore, 1) := by decide +kernel
theorem dX10_along_181 : decode cX10_along 181 = .ok (.aload_n 0, 1) := by decide +kernel
theorem dX10_along_182 : decode cX10_along 182 = .ok (.getfield 26, 3) := by decide +kernel
theorem dX10_along_185 : decode cX10_along 185 = .ok (.iload_n 2, 1) := by decide +kernel
theorem dX10_along_186 : decode cX10_along 186 = .ok (.iload 8, 2) := by decide +kernel
theorem dX10_along_188 : decode cX10_along 188 = .ok (.iastore, 1) := by decide +kernel
theorem dX10_along_189 : decode cX10_along 189 = .ok (.iload 6, 2) := by decide +kernel
theorem dX10_along_191 : decode cX10_along 191 = .ok (.ifCond .ne 8, 3) := by decide +kernel
theorem dX10_along_194 : decode cX10_along 194 = .ok (.iload 9, 2) := by decide +kernel
theorem dX10_along_196 : decode cX10_along 196 = .ok (.goto 5, 3) := by decide +kernel
theorem dX10_along_199 : decode cX10_along 199 = .ok (.iload 10, 2) := by decide +kernel
theorem dX10_along_201 : decode cX10_along 201 = .ok (.ireturn, 1) := by decide +kernel
theorem dX10_storm_0 : decode cX10_storm 0 = .ok (.aload_n 0, 1) := by decide +kernel
theorem dX10_storm_1 : decode cX10_storm 1 = .ok (.iconst 0, 1) := by decide +kernel
theorem dX10_storm_2 : decode cX10_storm 2 = .ok (.putfield 70, 3) := by decide +kernel
theorem dX10_storm_5 : decode cX10_storm 5 = .ok (.iload_n 1, 1) := by decide +kernel
theorem dX10_storm_6 : decode cX10_storm 6 = .ok (.ifCond .lt 41, 3) := by decide +kernel
theorem dX10_storm_9 : decode cX10_storm 9 = .ok (.iload_n 1, 1) := by decide +kernel
theorem dX10_storm_10 : decode cX10_storm 10 = .ok (.sipush 300, 3) := by decide +kernel
theorem dX10_storm_13 : decode cX10_storm 13 = .ok (.if_icmp .gt 34, 3) := by decide +kernel
theorem dX10_storm_16 : decode cX10_storm 16 = .ok (.iload_n 2, 1) := by decide +kernel
theorem dX10_storm_17 : decode cX10_storm 17 = .ok (.iload_n 3, 1) := by decide +kernel
theorem dX10_storm_18 : decode cX10_storm 18 = .ok (.invokestatic 254, 3) := by decide +kernel
theorem dX10_storm_21 : decode cX10_storm 21 = .ok (.ifCond .eq 26, 3) := by decide +kernel
theorem dX10_storm_24 : decode cX10_storm 24 = .ok (.iload 4, 2) := by decide +kernel
theorem dX10_storm_26 : decode cX10_storm 26 = .ok (.iload 5, 2) := by decide +kernel
theorem dX10_storm_28 : decode cX10_storm 28 = .ok (.invokestatic 254, 3) := by decide +kernel
theorem dX10_storm_31 : decode cX10_storm 31 = .ok (.ifCond .eq 16, 3) := by decide +kernel
theorem dX10_storm_34 : decode cX10_storm 34 = .ok (.iload 6, 2) := by decide +kernel
theorem dX10_storm_36 : decode cX10_storm 36 = .ok (.iconst 1, 1) := by decide +kernel
theorem dX10_storm_37 : decode cX10_storm 37 = .ok (.if_icmp .lt 10, 3) := by decide +kernel
theorem dX10_storm_40 : decode cX10_storm 40 = .ok (.iload 6, 2) := by decide +kernel
theorem dX10_storm_42 : decode cX10_storm 42 = .ok (.bipush 100, 2) := by decide +kernel
theorem dX10_storm_44 : decode cX10_storm 44 = .ok (.if_icmp .le 5, 3) := by decide +kernel
theorem dX10_storm_47 : decode cX10_storm 47 = .ok (.iconst (-1), 1) := by decide +kernel
theorem dX10_storm_48 : decode cX10_storm 48 = .ok (.ireturn, 1) := by decide +kernel
theorem dX10_storm_49 : decode cX10_storm 49 = .ok (.aload_n 0, 1) := by decide +kernel
theorem dX10_storm_50 : decode cX10_storm 50 = .ok (.getfield 54, 3) := by decide +kernel
theorem dX10_storm_53 : decode cX10_storm 53 = .ok (.iconst 0, 1) := by decide +kernel
theorem dX10_storm_54 : decode cX10_storm 54 = .ok (.iload_n 1, 1) := by decide +kernel
theorem dX10_storm_55 : decode cX10_storm 55 = .ok (.iastore, 1) := by decide +kernel
theorem dX10_storm_56 : decode cX10_storm 56 = .ok (.aload_n 0, 1) := by decide +kernel
theorem dX10_storm_57 : decode cX10_storm 57 = .ok (.getfield 54, 3) := by decide +kernel
theorem dX10_storm_60 : decode cX10_storm 60 = .ok (.iconst 1, 1) := by decide +kernel
theorem dX10_storm_61 : decode cX10_storm 61 = .ok (.iload_n 2, 1) := by decide +kernel
theorem dX10_storm_62 : decode cX10_storm 62 = .ok (.iastore, 1) := by decide +kernel
theorem dX10_storm_63 : decode cX10_storm 63 = .ok (.aload_n 0, 1) := by decide +kernel
theorem dX10_storm_64 : decode cX10_storm 64 = .ok (.getfield 54, 3) := by decide +kernel
theorem dX10_storm_67 : decode cX10_storm 67 = .ok (.iconst 2, 1) := by decide +kernel
theorem dX10_storm_68 : decode cX10_storm 68 = .ok (.iload_n 3, 1) := by decide +kernel
theorem dX10_storm_69 : decode cX10_storm 69 = .ok (.iastore, 1) := by decide +kernel
theorem dX10_storm_70 : decode cX10_storm 70 = .ok (.aload_n 0, 1) := by decide +kernel
theorem dX10_storm_71 : decode cX10_storm 71 = .ok (.getfield 54, 3) := by decide +kernel
theorem dX10_storm_74 : decode cX10_storm 74 = .ok (.iconst 3, 1) := by decide +kernel
theorem dX10_storm_75 : decode cX10_storm 75 = .ok (.iload 4, 2) := by decide +kernel
theorem dX10_storm_77 : decode cX10_storm 77 = .ok (.iastore, 1) := by decide +kernel
theorem dX10_storm_78 : decode cX10_storm 78 = .ok (.aload_n 0, 1) := by decide +kernel
theorem dX10_storm_79 : decode cX10_storm 79 = .ok (.getfield 54, 3) := by decide +kernel
theorem dX10_storm_82 : decode cX10_storm 82 = .ok (.iconst 4, 1) := by decide +kernel
theorem dX10_storm_83 : decode cX10_storm 83 = .ok (.iload 5, 2) := by decide +kernel
theorem dX10_storm_85 : decode cX10_storm 85 = .ok (.iastore, 1) := by decide +kernel
theorem dX10_storm_86 : decode cX10_storm 86 = .ok (.aload_n 0, 1) := by decide +kernel
theorem dX10_storm_87 : decode cX10_storm 87 = .ok (.getfield 54, 3) := by decide +kernel
theorem dX10_storm_90 : decode cX10_storm 90 = .ok (.iconst 5, 1) := by decide +kernel
theorem dX10_storm_91 : decode cX10_storm 91 = .ok (.iload 6, 2) := by decide +kernel
theorem dX10_storm_93 : decode cX10_storm 93 = .ok (.iastore, 1) := by decide +kernel
theorem dX10_storm_94 : decode cX10_storm 94 = .ok (.aload_n 0, 1) := by decide +kernel
theorem dX10_storm_95 : decode cX10_storm 95 = .ok (.iconst 1, 1) := by decide +kernel
theorem dX10_storm_96 : decode cX10_storm 96 = .ok (.putfield 179, 3) := by decide +kernel
theorem dX10_storm_99 : decode cX10_storm 99 = .ok (.aload_n 0, 1) := by decide +kernel
theorem dX10_storm_100 : decode cX10_storm 100 = .ok (.invokevirtual 370, 3) := by decide +kernel
theorem dX10_storm_103 : decode cX10_storm 103 = .ok (.invokestatic 281, 3) := by decide +kernel
theorem dX10_storm_106 : decode cX10_storm 106 = .ok (.ireturn, 1) := by decide +kernel
theorem dX10_aboutPlace_0 : decode cX10_aboutPlace 0 = .ok (.aload_n 0, 1) := by decide +kernel
theorem dX10_aboutPlace_1 : decode cX10_aboutPlace 1 = .ok (.bipush 24, 2) := by decide +kernel
theorem dX10_aboutPlace_3 : decode cX10_aboutPlace 3 = .ok (.iload_n 1, 1) := by decide +kernel
theorem dX10_aboutPlace_4 : decode cX10_aboutPlace 4 = .ok (.iload_n 2, 1) := by decide +kernel
theorem dX10_aboutPlace_5 : decode cX10_aboutPlace 5 = .ok (.iconst 0, 1) := by decide +kernel
theorem dX10_aboutPlace_6 : decode cX10_aboutPlace 6 = .ok (.iconst 0, 1) := by decide +kernel
theorem dX10_aboutPlace_7 : decode cX10_aboutPlace 7 = .ok (.invokevirtual 165, 3) := by decide +kernel
theorem dX10_aboutPlace_10 : decode cX10_aboutPlace 10 = .ok (.aload_n 0, 1) := by decide +kernel
theorem dX10_aboutPlace_11 : decode cX10_aboutPlace 11 = .ok (.bipush 24, 2) := by decide +kernel
theorem dX10_aboutPlace_13 : decode cX10_aboutPlace 13 = .ok (.aload_n 0, 1) := by decide +kernel
theorem dX10_aboutPlace_14 : decode cX10_aboutPlace 14 = .ok (.bipush 15, 2) := by decide +kernel
theorem dX10_aboutPlace_16 : decode cX10_aboutPlace 16 = .ok (.invokevirtual 196, 3) := by decide +kernel
theorem dX10_aboutPlace_19 : decode cX10_aboutPlace 19 = .ok (.iload_n 3, 1) := by decide +kernel
theorem dX10_aboutPlace_20 : decode cX10_aboutPlace 20 = .ok (.invokevirtual 221, 3) := by decide +kernel
theorem dX10_aboutPlace_23 : decode cX10_aboutPlace 23 = .ok (.ireturn, 1) := by decide +kernel
theorem dX10_hitAt_0 : decode cX10_hitAt 0 = .ok (.aload_n 0, 1) := by decide +kernel
theorem dX10_hitAt_1 : decode cX10_hitAt 1 = .ok (.aload_n 0, 1) := by decide +kernel
theorem dX10_hitAt_2 : decode cX10_hitAt 2 = .ok (.getfield 54, 3) := by decide +kernel
theorem dX10_hitAt_5 : decode cX10_hitAt 5 = .ok (.iconst 1, 1) := by decide +kernel
theorem dX10_hitAt_6 : decode cX10_hitAt 6 = .ok (.iaload, 1) := by decide +kernel
theorem dX10_hitAt_7 : decode cX10_hitAt 7 = .ok (.aload_n 0, 1) := by decide +kernel
theorem dX10_hitAt_8 : decode cX10_hitAt 8 = .ok (.getfield 54, 3) := by decide +kernel
theorem dX10_hitAt_11 : decode cX10_hitAt 11 = .ok (.iconst 3, 1) := by decide +kernel
theorem dX10_hitAt_12 : decode cX10_hitAt 12 = .ok (.iaload, 1) := by decide +kernel
theorem dX10_hitAt_13 : decode cX10_hitAt 13 = .ok (.iload_n 1, 1) := by decide +kernel
theorem dX10_hitAt_14 : decode cX10_hitAt 14 = .ok (.aload_n 0, 1) := by decide +kernel
theorem dX10_hitAt_15 : decode cX10_hitAt 15 = .ok (.getfield 54, 3) := by decide +kernel
theorem dX10_hitAt_18 : decode cX10_hitAt 18 = .ok (.iconst 5, 1) := by decide +kernel
theorem dX10_hitAt_19 : decode cX10_hitAt 19 = .ok (.iaload, 1) := by decide +kernel
theorem dX10_hitAt_20 : decode cX10_hitAt 20 = .ok (.invokestatic 367, 3) := by decide +kernel
theorem dX10_hitAt_23 : decode cX10_hitAt 23 = .ok (.aload_n 0, 1) := by decide +kernel
theorem dX10_hitAt_24 : decode cX10_hitAt 24 = .ok (.getfield 54, 3) := by decide +kernel
theorem dX10_hitAt_27 : decode cX10_hitAt 27 = .ok (.iconst 2, 1) := by decide +kernel
theorem dX10_hitAt_28 : decode cX10_hitAt 28 = .ok (.iaload, 1) := by decide +kernel
theorem dX10_hitAt_29 : decode cX10_hitAt 29 = .ok (.aload_n 0, 1) := by decide +kernel
theorem dX10_hitAt_30 : decode cX10_hitAt 30 = .ok (.getfield 54, 3) := by decide +kernel
theorem dX10_hitAt_33 : decode cX10_hitAt 33 = .ok (.iconst 4, 1) := by decide +kernel
theorem dX10_hitAt_34 : decode cX10_hitAt 34 = .ok (.iaload, 1) := by decide +kernel
theorem dX10_hitAt_35 : decode cX10_hitAt 35 = .ok (.iload_n 1, 1) := by decide +kernel
theorem dX10_hitAt_36 : decode cX10_hitAt 36 = .ok (.aload_n 0, 1) := by decide +kernel
theorem dX10_hitAt_37 : decode cX10_hitAt 37 = .ok (.getfield 54, 3) := by decide +kernel
theorem dX10_hitAt_40 : decode cX10_hitAt 40 = .ok (.iconst 5, 1) := by decide +kernel
theorem dX10_hitAt_41 : decode cX10_hitAt 41 = .ok (.iaload, 1) := by decide +kernel
theorem dX10_hitAt_42 : decode cX10_hitAt 42 = .ok (.invokestatic 367, 3) := by decide +kernel
theorem dX10_hitAt_45 : decode cX10_hitAt 45 = .ok (.aload_n 0, 1) := by decide +kernel
theorem dX10_hitAt_46 : decode cX10_hitAt 46 = .ok (.getfield 54, 3) := by decide +kernel
theorem dX10_hitAt_49 : decode cX10_hitAt 49 = .ok (.iconst 0, 1) := by decide +kernel
theorem dX10_hitAt_50 : decode cX10_hitAt 50 = .ok (.iaload, 1) := by decide +kernel
theorem dX10_hitAt_51 : decode cX10_hitAt 51 = .ok (.invokevirtual 373, 3) := by decide +kernel
theorem dX10_hitAt_54 : decode cX10_hitAt 54 = .ok (.ireturn, 1) := by decide +kernel
theorem dX10_allHit_0 : decode cX10_allHit 0 = .ok (.iconst 0, 1) := by decide +kernel
theorem dX10_allHit_1 : decode cX10_allHit 1 = .ok (.istore_n 1, 1) := by decide +kernel
theorem dX10_allHit_2 : decode cX10_allHit 2 = .ok (.iconst 0, 1) := by decide +kernel
theorem dX10_allHit_3 : decode cX10_allHit 3 = .ok (.istore_n 2, 1) := by decide +kernel
theorem dX10_allHit_4 : decode cX10_allHit 4 = .ok (.iload_n 2, 1) := by decide +kernel
theorem dX10_allHit_5 : decode cX10_allHit 5 = .ok (.aload_n 0, 1) := by decide +kernel
theorem dX10_allHit_6 : decode cX10_allHit 6 = .ok (.getfield 54, 3) := by decide +kernel
theorem dX10_allHit_9 : decode cX10_allHit 9 = .ok (.iconst 5, 1) := by decide +kernel
theorem dX10_allHit_10 : decode cX10_allHit 10 = .ok (.iaload, 1) := by decide +kernel
theorem dX10_allHit_11 : decode cX10_allHit 11 = .ok (.if_icmp .gt 17, 3) := by decide +kernel
theorem dX10_allHit_14 : decode cX10_allHit 14 = .ok (.iload_n 1, 1) := by decide +kernel
theorem dX10_allHit_15 : decode cX10_allHit 15 = .ok (.aload_n 0, 1) := by decide +kernel
theorem dX10_allHit_16 : decode cX10_allHit 16 = .ok (.iload_n 2, 1) := by decide +kernel
theorem dX10_allHit_17 : decode cX10_allHit 17 = .ok (.invokevirtual 376, 3) := by decide +kernel
theorem dX10_allHit_20 : decode cX10_allHit 20 = .ok (.ior, 1) := by decide +kernel
theorem dX10_allHit_21 : decode cX10_allHit 21 = .ok (.istore_n 1, 1) := by decide +kernel
theorem dX10_allHit_22 : decode cX10_allHit 22 = .ok (.iinc 2 1, 3) := by decide +kernel
theorem dX10_allHit_25 : decode cX10_allHit 25 = .ok (.goto (-21), 3) := by decide +kernel
theorem dX10_allHit_28 : decode cX10_allHit 28 = .ok (.iload_n 1, 1) := by decide +kernel
theorem dX10_allHit_29 : decode cX10_allHit 29 = .ok (.ireturn, 1) := by decide +kernel
theorem dX10_hit_0 : decode cX10_hit 0 = .ok (.aload_n 0, 1) := by decide +kernel
theorem dX10_hit_1 : decode cX10_hit 1 = .ok (.iconst 0, 1) := by decide +kernel
theorem dX10_hit_2 : decode cX10_hit 2 = .ok (.putfield 70, 3) := by decide +kernel
theorem dX10_hit_5 : decode cX10_hit 5 = .ok (.iload_n 1, 1) := by decide +kernel
theorem dX10_hit_6 : decode cX10_hit 6 = .ok (.ifCond .lt 8, 3) := by decide +kernel
theorem dX10_hit_9 : decode cX10_hit 9 = .ok (.iload_n 1, 1) := by decide +kernel
theorem dX10_hit_10 : decode cX10_hit 10 = .ok (.iconst 3, 1) := by decide +kernel
theorem dX10_hit_11 : decode cX10_hit 11 = .ok (.if_icmp .le 5, 3) := by decide +kernel
theorem dX10_hit_14 : decode cX10_hit 14 = .ok (.iconst (-1), 1) := by decide +kernel
theorem dX10_hit_15 : decode cX10_hit 15 = .ok (.ireturn, 1) := by decide +kernel
theorem dX10_hit_16 : decode cX10_hit 16 = .ok (.aload_n 0, 1) := by decide +kernel
theorem dX10_hit_17 : decode cX10_hit 17 = .ok (.getfield 179, 3) := by decide +kernel
theorem dX10_hit_20 : decode cX10_hit 20 = .ok (.ifCond .ne 6, 3) := by decide +kernel
theorem dX10_hit_23 : decode cX10_hit 23 = .ok (.bipush (-2), 2) := by decide +kernel
theorem dX10_hit_25 : decode cX10_hit 25 = .ok (.ireturn, 1) := by decide +kernel
theorem dX10_hit_26 : decode cX10_hit 26 = .ok (.iload_n 1, 1) := by decide +kernel
theorem dX10_hit_27 : decode cX10_hit 27 = .ok (.ifCond .ne 8, 3) := by decide +kernel
theorem dX10_hit_30 : decode cX10_hit 30 = .ok (.aload_n 0, 1) := by decide +kernel
theorem dX10_hit_31 : decode cX10_hit 31 = .ok (.invokevirtual 370, 3) := by decide +kernel
theorem dX10_hit_34 : decode cX10_hit 34 = .ok (.ireturn, 1) := by decide +kernel
theorem dX10_hit_35 : decode cX10_hit 35 = .ok (.iload_n 1, 1) := by decide +kernel
theorem dX10_hit_36 : decode cX10_hit 36 = .ok (.iconst 1, 1) := by decide +kernel
theorem dX10_hit_37 : decode cX10_hit 37 = .ok (.if_icmp .ne 12, 3) := by decide +kernel
theorem dX10_hit_40 : decode cX10_hit 40 = .ok (.aload_n 0, 1) := by decide +kernel
theorem dX10_hit_41 : decode cX10_hit 41 = .ok (.aload_n 0, 1) := by decide +kernel
theorem dX10_hit_42 : decode cX10_hit 42 = .ok (.invokevirtual 370, 3) := by decide +kernel
theorem dX10_hit_45 : decode cX10_hit 45 = .ok (.invokevirtual 284, 3) := by decide +kernel
theorem dX10_hit_48 : decode cX10_hit 48 = .ok (.ireturn, 1) := by decide +kernel
theorem dX10_hit_49 : decode cX10_hit 49 = .ok (.iconst 0, 1) := by decide +kernel
theorem dX10_hit_50 : decode cX10_hit 50 = .ok (.istore_n 2, 1) := by decide +kernel
theorem dX10_hit_51 : decode cX10_hit 51 = .ok (.iconst (-1), 1) := by decide +kernel
theorem dX10_hit_52 : decode cX10_hit 52 = .ok (.istore_n 3, 1) := by decide +kernel
theorem dX10_hit_53 : decode cX10_hit 53 = .ok (.iconst 0, 1) := by decide +kernel
theorem dX10_hit_54 : decode cX10_hit 54 = .ok (.istore 4, 2) := by decide +kernel
theorem dX10_hit_56 : decode cX10_hit 56 = .ok (.iload 4, 2) := by decide +kernel
theorem dX10_hit_58 : decode cX10_hit 58 = .ok (.aload_n 0, 1) := by decide +kernel
theorem dX10_hit_59 : decode cX10_hit 59 = .ok (.getfield 54, 3) := by decide +kernel
theorem dX10_hit_62 : decode cX10_hit 62 = .ok (.iconst 5, 1) := by decide +kernel
theorem dX10_hit_63 : decode cX10_hit 63 = .ok (.iaload, 1) := by decide +kernel
theorem dX10_hit_64 : decode cX10_hit 64 = .ok (.if_icmp .gt 36, 3) := by decide +kernel
theorem dX10_hit_67 : decode cX10_hit 67 = .ok (.aload_n 0, 1) := by decide +kernel
theorem dX10_hit_68 : decode cX10_hit 68 = .ok (.aload_n 0, 1) := by decide +kernel
theorem dX10_hit_69 : decode cX10_hit 69 = .ok (.iload 4, 2) := by decide +kernel
theorem dX10_hit_71 : decode cX10_hit 71 = .ok (.invokevirtual 376, 3) := by decide +kernel
theorem dX10_hit_74 : decode cX10_hit 74 = .ok (.invokevirtual 284, 3) := by decide +kernel
theorem dX10_hit_77 : decode cX10_hit 77 = .ok (.istore 5, 2) := by decide +kernel
theorem dX10_hit_79 : decode cX10_hit 79 = .ok (.iload 5, 2) := by decide +kernel
theorem dX10_hit_81 : decode cX10_hit 81 = .ok (.iload_n 3, 1) := by decide +kernel
theorem dX10_hit_82 : decode cX10_hit 82 = .ok (.if_icmp .gt 6, 3) := by decide +kernel
theorem dX10_hit_85 : decode cX10_hit 85 = .ok (.goto 9, 3) := by decide +kernel
theorem dX10_hit_88 : decode cX10_hit 88 = .ok (.iload 4, 2) := by decide +kernel
theorem dX10_hit_90 : decode cX10_hit 90 = .ok (.istore_n 2, 1) := by decide +kernel
theorem dX10_hit_91 : decode cX10_hit 91 = .ok (.iload 5, 2) := by decide +kernel
theorem dX10_hit_93 : decode cX10_hit 93 = .ok (.istore_n 3, 1) := by decide +kernel
theorem dX10_hit_94 : decode cX10_hit 94 = .ok (.iinc 4 1, 3) := by decide +kernel
theorem dX10_hit_97 : decode cX10_hit 97 = .ok (.goto (-41), 3) := by decide +kernel
theorem dX10_hit_100 : decode cX10_hit 100 = .ok (.iload_n 1, 1) := by decide +kernel
theorem dX10_hit_101 : decode cX10_hit 101 = .ok (.iconst 2, 1) := by decide +kernel
theorem dX10_hit_102 : decode cX10_hit 102 = .ok (.if_icmp .ne 7, 3) := by decide +kernel
theorem dX10_hit_105 : decode cX10_hit 105 = .ok (.iload_n 2, 1) := by decide +kernel
theorem dX10_hit_106 : decode cX10_hit 106 = .ok (.goto 4, 3) := by decide +kernel
theorem dX10_hit_109 : decode cX10_hit 109 = .ok (.iload_n 3, 1) := by decide +kernel
theorem dX10_hit_110 : decode cX10_hit 110 = .ok (.ireturn, 1) := by decide +kernel
theorem dX10_pays_0 : decode cX10_pays 0 = .ok (.aload_n 0, 1) := by decide +kernel
theorem dX10_pays_1 : decode cX10_pays 1 = .ok (.iconst 0, 1) := by decide +kernel
theorem dX10_pays_2 : decode cX10_pays 2 = .ok (.putfield 70, 3) := by decide +kernel
theorem dX10_pays_5 : decode cX10_pays 5 = .ok (.aload_n 0, 1) := by decide +kernel
theorem dX10_pays_6 : decode cX10_pays 6 = .ok (.iload_n 1, 1) := by decide +kernel
theorem dX10_pays_7 : decode cX10_pays 7 = .ok (.invokevirtual 275, 3) := by decide +kernel
theorem dX10_pays_10 : decode cX10_pays 10 = .ok (.ifCond .ne 5, 3) := by decide +kernel
theorem dX10_pays_13 : decode cX10_pays 13 = .ok (.iconst (-1), 1) := by decide +kernel
theorem dX10_pays_14 : decode cX10_pays 14 = .ok (.ireturn, 1) := by decide +kernel
theorem dX10_pays_15 : decode cX10_pays 15 = .ok (.aload_n 0, 1) := by decide +kernel
theorem dX10_pays_16 : decode cX10_pays 16 = .ok (.getfield 179, 3) := by decide +kernel
theorem dX10_pays_19 : decode cX10_pays 19 = .ok (.ifCond .ne 6, 3) := by decide +kernel
theorem dX10_pays_22 : decode cX10_pays 22 = .ok (.bipush (-2), 2) := by decide +kernel
theorem dX10_pays_24 : decode cX10_pays 24 = .ok (.ireturn, 1) := by decide +kernel
theorem dX10_pays_25 : decode cX10_pays 25 = .ok (.aload_n 0, 1) := by decide +kernel
theorem dX10_pays_26 : decode cX10_pays 26 = .ok (.aload_n 0, 1) := by decide +kernel
theorem dX10_pays_27 : decode cX10_pays 27 = .ok (.invokevirtual 370, 3) := by decide +kernel
theorem dX10_pays_30 : decode cX10_pays 30 = .ok (.aload_n 0, 1) := by decide +kernel
theorem dX10_pays_31 : decode cX10_pays 31 = .ok (.iload_n 1, 1) := by decide +kernel
theorem dX10_pays_32 : decode cX10_pays 32 = .ok (.invokevirtual 237, 3) := by decide +kernel
theorem dX10_pays_35 : decode cX10_pays 35 = .ok (.iand, 1) := by decide +kernel
theorem dX10_pays_36 : decode cX10_pays 36 = .ok (.invokevirtual 284, 3) := by decide +kernel
theorem dX10_pays_39 : decode cX10_pays 39 = .ok (.aload_n 0, 1) := by decide +kernel
theorem dX10_pays_40 : decode cX10_pays 40 = .ok (.getfield 45, 3) := by decide +kernel
theorem dX10_pays_43 : decode cX10_pays 43 = .ok (.iload_n 1, 1) := by decide +kernel
theorem dX10_pays_44 : decode cX10_pays 44 = .ok (.iaload, 1) := by decide +kernel
theorem dX10_pays_45 : decode cX10_pays 45 = .ok (.isub, 1) := by decide +kernel
theorem dX10_pays_46 : decode cX10_pays 46 = .ok (.istore_n 2, 1) := by decide +kernel
theorem dX10_pays_47 : decode cX10_pays 47 = .ok (.iload_n 2, 1) := by decide +kernel
theorem dX10_pays_48 : decode cX10_pays 48 = .ok (.ifCond .ge 7, 3) := by decide +kernel
theorem dX10_pays_51 : decode cX10_pays 51 = .ok (.iconst 0, 1) := by decide +kernel
theorem dX10_pays_52 : decode cX10_pays 52 = .ok (.goto 4, 3) := by decide +kernel
theorem dX10_pays_55 : decode cX10_pays 55 = .ok (.iload_n 2, 1) := by decide +kernel
theorem dX10_pays_56 : decode cX10_pays 56 = .ok (.ireturn, 1) := by decide +kernel
theorem dX10_draws_0 : decode cX10_draws 0 = .ok (.aload_n 0, 1) := by decide +kernel
theorem dX10_draws_1 : decode cX10_draws 1 = .ok (.aload_n 0, 1) := by decide +kernel
theorem dX10_draws_2 : decode cX10_draws 2 = .ok (.getfield 379, 3) := by decide +kernel
theorem dX10_draws_5 : decode cX10_draws 5 = .ok (.ldc2_w 383, 3) := by decide +kernel
theorem dX10_draws_8 : decode cX10_draws 8 = .ok (.lmul, 1) := by decide +kernel
theorem dX10_draws_9 : decode cX10_draws 9 = .ok (.ldc2_w 385, 3) := by decide +kernel
theorem dX10_draws_12 : decode cX10_draws 12 = .ok (.ladd, 1) := by decide +kernel
theorem dX10_draws_13 : decode cX10_draws 13 = .ok (.ldc2_w 387, 3) := by decide +kernel
theorem dX10_draws_16 : decode cX10_draws 16 = .ok (.lrem, 1) := by decide +kernel
theorem dX10_draws_17 : decode cX10_draws 17 = .ok (.putfield 379, 3) := by decide +kernel
theorem dX10_draws_20 : decode cX10_draws 20 = .ok (.aload_n 0, 1) := by decide +kernel
theorem dX10_draws_21 : decode cX10_draws 21 = .ok (.getfield 379, 3) := by decide +kernel
theorem dX10_draws_24 : decode cX10_draws 24 = .ok (.ldc2_w 389, 3) := by decide +kernel
theorem dX10_draws_27 : decode cX10_draws 27 = .ok (.ldiv, 1) := by decide +kernel
theorem dX10_draws_28 : decode cX10_draws 28 = .ok (.iload_n 1, 1) := by decide +kernel
theorem dX10_draws_29 : decode cX10_draws 29 = .ok (.i2l, 1) := by decide +kernel
theorem dX10_draws_30 : decode cX10_draws 30 = .ok (.lrem, 1) := by decide +kernel
theorem dX10_draws_31 : decode cX10_draws 31 = .ok (.l2i, 1) := by decide +kernel
theorem dX10_draws_32 : decode cX10_draws 32 = .ok (.ireturn, 1) := by decide +kernel
theorem dX10_drawn_0 : decode cX10_drawn 0 = .ok (.aload_n 0, 1) := by decide +kernel
theorem dX10_drawn_1 : decode cX10_drawn 1 = .ok (.iconst 0, 1) := by decide +kernel
theorem dX10_drawn_2 : decode cX10_drawn 2 = .ok (.putfield 70, 3) := by decide +kernel
theorem dX10_drawn_5 : decode cX10_drawn 5 = .ok (.aload_n 0, 1) := by decide +kernel
theorem dX10_drawn_6 : decode cX10_drawn 6 = .ok (.iload_n 1, 1) := by decide +kernel
theorem dX10_drawn_7 : decode cX10_drawn 7 = .ok (.invokevirtual 275, 3) := by decide +kernel
theorem dX10_drawn_10 : decode cX10_drawn 10 = .ok (.ifCond .eq 29, 3) := by decide +kernel
theorem dX10_drawn_13 : decode cX10_drawn 13 = .ok (.iload_n 2, 1) := by decide +kernel
theorem dX10_drawn_14 : decode cX10_drawn 14 = .ok (.ifCond .lt 25, 3) := by decide +kernel
theorem dX10_drawn_17 : decode cX10_drawn 17 = .ok (.iload_n 3, 1) := by decide +kernel
theorem dX10_drawn_18 : decode cX10_drawn 18 = .ok (.iconst 1, 1) := by decide +kernel
theorem dX10_drawn_19 : decode cX10_drawn 19 = .ok (.if_icmp .lt 20, 3) := by decide +kernel
theorem dX10_drawn_22 : decode cX10_drawn 22 = .ok (.iload_n 3, 1) := by decide +kernel
theorem dX10_drawn_23 : decode cX10_drawn 23 = .ok (.bipush 100, 2) := by decide +kernel
theorem dX10_drawn_25 : decode cX10_drawn 25 = .ok (.if_icmp .gt 14, 3) := by decide +kernel
theorem dX10_drawn_28 : decode cX10_drawn 28 = .ok (.iload 4, 2) := by decide +kernel
theorem dX10_drawn_30 : decode cX10_drawn 30 = .ok (.ifCond .lt 9, 3) := by decide +kernel
theorem dX10_drawn_33 : decode cX10_drawn 33 = .ok (.iload 4, 2) := by decide +kernel
theorem dX10_drawn_35 : decode cX10_drawn 35 = .ok (.iconst 3, 1) := by decide +kernel
theorem dX10_drawn_36 : decode cX10_drawn 36 = .ok (.if_icmp .le 5, 3) := by decide +kernel
theorem dX10_drawn_39 : decode cX10_drawn 39 = .ok (.iconst (-1), 1) := by decide +kernel
theorem dX10_drawn_40 : decode cX10_drawn 40 = .ok (.ireturn, 1) := by decide +kernel
theorem dX10_drawn_41 : decode cX10_drawn 41 = .ok (.aload_n 0, 1) := by decide +kernel
theorem dX10_drawn_42 : decode cX10_drawn 42 = .ok (.iload_n 2, 1) := by decide +kernel
theorem dX10_drawn_43 : decode cX10_drawn 43 = .ok (.i2l, 1) := by decide +kernel
theorem dX10_drawn_44 : decode cX10_drawn 44 = .ok (.putfield 379, 3) := by decide +kernel
theorem dX10_drawn_47 : decode cX10_drawn 47 = .ok (.iconst 0, 1) := by decide +kernel
theorem dX10_drawn_48 : decode cX10_drawn 48 = .ok (.istore 5, 2) := by decide +kernel
theorem dX10_drawn_50 : decode cX10_drawn 50 = .ok (.iconst (-1), 1) := by decide +kernel
theorem dX10_drawn_51 : decode cX10_drawn 51 = .ok (.istore 6, 2) := by decide +kernel
theorem dX10_drawn_53 : decode cX10_drawn 53 = .ok (.iconst 0, 1) := by decide +kernel
theorem dX10_drawn_54 : decode cX10_drawn 54 = .ok (.istore 7, 2) := by decide +kernel
theorem dX10_drawn_56 : decode cX10_drawn 56 = .ok (.iconst 0, 1) := by decide +kernel
theorem dX10_drawn_57 : decode cX10_drawn 57 = .ok (.istore 8, 2) := by decide +kernel
theorem dX10_drawn_59 : decode cX10_drawn 59 = .ok (.iconst 0, 1) := by decide +kernel
theorem dX10_drawn_60 : decode cX10_drawn 60 = .ok (.istore 9, 2) := by decide +kernel
theorem dX10_drawn_62 : decode cX10_drawn 62 = .ok (.iload 9, 2) := by decide +kernel
theorem dX10_drawn_64 : decode cX10_drawn 64 = .ok (.iload_n 3, 1) := by decide +kernel
theorem dX10_drawn_65 : decode cX10_drawn 65 = .ok (.if_icmp .ge 99, 3) := by decide +kernel
theorem dX10_drawn_68 : decode cX10_drawn 68 = .ok (.aload_n 0, 1) := by decide +kernel
theorem dX10_drawn_69 : decode cX10_drawn 69 = .ok (.sipush 300, 3) := by decide +kernel
theorem dX10_drawn_72 : decode cX10_drawn 72 = .ok (.invokevirtual 391, 3) := by decide +kernel
theorem dX10_drawn_75 : decode cX10_drawn 75 = .ok (.istore 10, 2) := by decide +kernel
theorem dX10_drawn_77 : decode cX10_drawn 77 = .ok (.aload_n 0, 1) := by decide +kernel
theorem dX10_drawn_78 : decode cX10_drawn 78 = .ok (.sipush 300, 3) := by decide +kernel
theorem dX10_drawn_81 : decode cX10_drawn 81 = .ok (.invokevirtual 391, 3) := by decide +kernel
theorem dX10_drawn_84 : decode cX10_drawn 84 = .ok (.istore 11, 2) := by decide +kernel
theorem dX10_drawn_86 : decode cX10_drawn 86 = .ok (.aload_n 0, 1) := by decide +kernel
theorem dX10_drawn_87 : decode cX10_drawn 87 = .ok (.aload_n 0, 1) := by decide +kernel
theorem dX10_drawn_88 : decode cX10_drawn 88 = .ok (.iload 10, 2) := by decide +kernel
theorem dX10_drawn_90 : decode cX10_drawn 90 = .ok (.iload 11, 2) := by decide +kernel
theorem dX10_drawn_92 : decode cX10_drawn 92 = .ok (.aload_n 0, 1) := by decide +kernel
theorem dX10_drawn_93 : decode cX10_drawn 93 = .ok (.getfield 42, 3) := by decide +kernel
theorem dX10_drawn_96 : decode cX10_drawn 96 = .ok (.iload_n 1, 1) := by decide +kernel
theorem dX10_drawn_97 : decode cX10_drawn 97 = .ok (.iaload, 1) := by decide +kernel
theorem dX10_drawn_98 : decode cX10_drawn 98 = .ok (.invokevirtual 373, 3) := by decide +kernel
theorem dX10_drawn_101 : decode cX10_drawn 101 = .ok (.aload_n 0, 1) := by decide +kernel
theorem dX10_drawn_102 : decode cX10_drawn 102 = .ok (.iload_n 1, 1) := by decide +kernel
theorem dX10_drawn_103 : decode cX10_drawn 103 = .ok (.invokevirtual 237, 3) := by decide +kernel
theorem dX10_drawn_106 : decode cX10_drawn 106 = .ok (.iand, 1) := by decide +kernel
theorem dX10_drawn_107 : decode cX10_drawn 107 = .ok (.invokevirtual 284, 3) := by decide +kernel
theorem dX10_drawn_110 : decode cX10_drawn 110 = .ok (.istore 12, 2) := by decide +kernel
theorem dX10_drawn_112 : decode cX10_drawn 112 = .ok (.iload 7, 2) := by decide +kernel
theorem dX10_drawn_114 : decode cX10_drawn 114 = .ok (.iload 12, 2) := by decide +kernel
theorem dX10_drawn_116 : decode cX10_drawn 116 = .ok (.aload_n 0, 1) := by decide +kernel
theorem dX10_drawn_117 : decode cX10_drawn 117 = .ok (.getfield 45, 3) := by decide +kernel
theorem dX10_drawn_120 : decode cX10_drawn 120 = .ok (.iload_n 1, 1) := by decide +kernel
theorem dX10_drawn_121 : decode cX10_drawn 121 = .ok (.iaload, 1) := by decide +kernel
theorem dX10_drawn_122 : decode cX10_drawn 122 = .ok (.if_icmp .le 7, 3) := by decide +kernel
theorem dX10_drawn_125 : decode cX10_drawn 125 = .ok (.iconst 1, 1) := by decide +kernel
theorem dX10_drawn_126 : decode cX10_drawn 126 = .ok (.goto 4, 3) := by decide +kernel
theorem dX10_drawn_129 : decode cX10_drawn 129 = .ok (.iconst 0, 1) := by decide +kernel
theorem dX10_drawn_130 : decode cX10_drawn 130 = .ok (.iadd, 1) := by decide +kernel
theorem dX10_drawn_131 : decode cX10_drawn 131 = .ok (.istore 7, 2) := by decide +kernel
theorem dX10_drawn_133 : decode cX10_drawn 133 = .ok (.iload 8, 2) := by decide +kernel
theorem dX10_drawn_135 : decode cX10_drawn 135 = .ok (.iload 12, 2) := by decide +kernel
theorem dX10_drawn_137 : decode cX10_drawn 137 = .ok (.iadd, 1) := by decide +kernel
theorem dX10_drawn_138 : decode cX10_drawn 138 = .ok (.istore 8, 2) := by decide +kernel
theorem dX10_drawn_140 : decode cX10_drawn 140 = .ok (.iload 12, 2) := by decide +kernel
theorem dX10_drawn_142 : decode cX10_drawn 142 = .ok (.iload 6, 2) := by decide +kernel
theorem dX10_drawn_144 : decode cX10_drawn 144 = .ok (.if_icmp .gt 6, 3) := by decide +kernel
theorem dX10_drawn_147 : decode cX10_drawn 147 = .ok (.goto 11, 3) := by decide +kernel
theorem dX10_drawn_150 : decode cX10_drawn 150 = .ok (.iload 9, 2) := by decide +kernel
theorem dX10_drawn_152 : decode cX10_drawn 152 = .ok (.istore 5, 2) := by decide +kernel
theorem dX10_drawn_154 : decode cX10_drawn 154 = .ok (.iload 12, 2) := by decide +kernel
theorem dX10_drawn_156 : decode cX10_drawn 156 = .ok (.istore 6, 2) := by decide +kernel
theorem dX10_drawn_158 : decode cX10_drawn 158 = .ok (.iinc 9 1, 3) := by decide +kernel
theorem dX10_drawn_161 : decode cX10_drawn 161 = .ok (.goto (-99), 3) := by decide +kernel
theorem dX10_drawn_164 : decode cX10_drawn 164 = .ok (.iload 4, 2) := by decide +kernel
theorem dX10_drawn_166 : decode cX10_drawn 166 = .ok (.ifCond .ne 8, 3) := by decide +kernel
theorem dX10_drawn_169 : decode cX10_drawn 169 = .ok (.iload 6, 2) := by decide +kernel
theorem dX10_drawn_171 : decode cX10_drawn 171 = .ok (.goto 27, 3) := by decide +kernel
theorem dX10_drawn_174 : decode cX10_drawn 174 = .ok (.iload 4, 2) := by decide +kernel
theorem dX10_drawn_176 : decode cX10_drawn 176 = .ok (.iconst 1, 1) := by decide +kernel
theorem dX10_drawn_177 : decode cX10_drawn 177 = .ok (.if_icmp .ne 8, 3) := by decide +kernel
theorem dX10_drawn_180 : decode cX10_drawn 180 = .ok (.iload 5, 2) := by decide +kernel
theorem dX10_drawn_182 : decode cX10_drawn 182 = .ok (.goto 16, 3) := by decide +kernel
theorem dX10_drawn_185 : decode cX10_drawn 185 = .ok (.iload 4, 2) := by decide +kernel
theorem dX10_drawn_187 : decode cX10_drawn 187 = .ok (.iconst 2, 1) := by decide +kernel
theorem dX10_drawn_188 : decode cX10_drawn 188 = .ok (.if_icmp .ne 8, 3) := by decide +kernel
theorem dX10_drawn_191 : decode cX10_drawn 191 = .ok (.iload 7, 2) := by decide +kernel
theorem dX10_drawn_193 : decode cX10_drawn 193 = .ok (.goto 5, 3) := by decide +kernel
theorem dX10_drawn_196 : decode cX10_drawn 196 = .ok (.iload 8, 2) := by decide +kernel
theorem dX10_drawn_198 : decode cX10_drawn 198 = .ok (.ireturn, 1) := by decide +kernel
theorem dX10_unlikePlaces_0 : decode cX10_unlikePlaces 0 = .ok (.iconst 0, 1) := by decide +kernel
theorem dX10_unlikePlaces_1 : decode cX10_unlikePlaces 1 = .ok (.istore_n 1, 1) := by decide +kernel
theorem dX10_unlikePlaces_2 : decode cX10_unlikePlaces 2 = .ok (.iconst 0, 1) := by decide +kernel
theorem dX10_unlikePlaces_3 : decode cX10_unlikePlaces 3 = .ok (.istore_n 2, 1) := by decide +kernel
theorem dX10_unlikePlaces_4 : decode cX10_unlikePlaces 4 = .ok (.iload_n 2, 1) := by decide +kernel
theorem dX10_unlikePlaces_5 : decode cX10_unlikePlaces 5 = .ok (.bipush 24, 2) := by decide +kernel
theorem dX10_unlikePlaces_7 : decode cX10_unlikePlaces 7 = .ok (.if_icmp .ge 73, 3) := by decide +kernel
theorem dX10_unlikePlaces_10 : decode cX10_unlikePlaces 10 = .ok (.aload_n 0, 1) := by decide +kernel
theorem dX10_unlikePlaces_11 : decode cX10_unlikePlaces 11 = .ok (.getfield 35, 3) := by decide +kernel
theorem dX10_unlikePlaces_14 : decode cX10_unlikePlaces 14 = .ok (.iload_n 2, 1) := by decide +kernel
theorem dX10_unlikePlaces_15 : decode cX10_unlikePlaces 15 = .ok (.baload, 1) := by decide +kernel
theorem dX10_unlikePlaces_16 : decode cX10_unlikePlaces 16 = .ok (.istore_n 3, 1) := by decide +kernel
theorem dX10_unlikePlaces_17 : decode cX10_unlikePlaces 17 = .ok (.iconst 0, 1) := by decide +kernel
theorem dX10_unlikePlaces_18 : decode cX10_unlikePlaces 18 = .ok (.istore 4, 2) := by decide +kernel
theorem dX10_unlikePlaces_20 : decode cX10_unlikePlaces 20 = .ok (.iload 4, 2) := by decide +kernel
theorem dX10_unlikePlaces_22 : decode cX10_unlikePlaces 22 = .ok (.iload_n 2, 1) := by decide +kernel
theorem dX10_unlikePlaces_23 : decode cX10_unlikePlaces 23 = .ok (.if_icmp .ge 39, 3) := by decide +kernel
theorem dX10_unlikePlaces_26 : decode cX10_unlikePlaces 26 = .ok (.iload_n 3, 1) := by decide +kernel
theorem dX10_unlikePlaces_27 : decode cX10_unlikePlaces 27 = .ok (.ifCond .eq 35, 3) := by decide +kernel
theorem dX10_unlikePlaces_30 : decode cX10_unlikePlaces 30 = .ok (.aload_n 0, 1) := by decide +kernel
theorem dX10_unlikePlaces_31 : decode cX10_unlikePlaces 31 = .ok (.getfield 35, 3) := by decide +kernel
theorem dX10_unlikePlaces_34 : decode cX10_unlikePlaces 34 = .ok (.iload 4, 2) := by decide +kernel
theorem dX10_unlikePlaces_36 : decode cX10_unlikePlaces 36 = .ok (.baload, 1) := by decide +kernel
theorem dX10_unlikePlaces_37 : decode cX10_unlikePlaces 37 = .ok (.ifCond .eq 13, 3) := by decide +kernel
theorem dX10_unlikePlaces_40 : decode cX10_unlikePlaces 40 = .ok (.aload_n 0, 1) := by decide +kernel
theorem dX10_unlikePlaces_41 : decode cX10_unlikePlaces 41 = .ok (.iload_n 2, 1) := by decide +kernel
theorem dX10_unlikePlaces_42 : decode cX10_unlikePlaces 42 = .ok (.iload 4, 2) := by decide +kernel
theorem dX10_unlikePlaces_44 : decode cX10_unlikePlaces 44 = .ok (.invokevirtual 203, 3) := by decide +kernel
theorem dX10_unlikePlaces_47 : decode cX10_unlikePlaces 47 = .ok (.ifCond .le 7, 3) := by decide +kernel
theorem dX10_unlikePlaces_50 : decode cX10_unlikePlaces 50 = .ok (.iconst 1, 1) := by decide +kernel
theorem dX10_unlikePlaces_51 : decode cX10_unlikePlaces 51 = .ok (.goto 4, 3) := by decide +kernel
theorem dX10_unlikePlaces_54 : decode cX10_unlikePlaces 54 = .ok (.iconst 0, 1) := by decide +kernel
theorem dX10_unlikePlaces_55 : decode cX10_unlikePlaces 55 = .ok (.istore_n 3, 1) := by decide +kernel
theorem dX10_unlikePlaces_56 : decode cX10_unlikePlaces 56 = .ok (.iinc 4 1, 3) := by decide +kernel
theorem dX10_unlikePlaces_59 : decode cX10_unlikePlaces 59 = .ok (.goto (-39), 3) := by decide +kernel
theorem dX10_unlikePlaces_62 : decode cX10_unlikePlaces 62 = .ok (.iload_n 1, 1) := by decide +kernel
theorem dX10_unlikePlaces_63 : decode cX10_unlikePlaces 63 = .ok (.iload_n 3, 1) := by decide +kernel
theorem dX10_unlikePlaces_64 : decode cX10_unlikePlaces 64 = .ok (.ifCond .eq 7, 3) := by decide +kernel
theorem dX10_unlikePlaces_67 : decode cX10_unlikePlaces 67 = .ok (.iconst 1, 1) := by decide +kernel
theorem dX10_unlikePlaces_68 : decode cX10_unlikePlaces 68 = .ok (.goto 4, 3) := by decide +kernel
theorem dX10_unlikePlaces_71 : decode cX10_unlikePlaces 71 = .ok (.iconst 0, 1) := by decide +kernel
theorem dX10_unlikePlaces_72 : decode cX10_unlikePlaces 72 = .ok (.iadd, 1) := by decide +kernel
theorem dX10_unlikePlaces_73 : decode cX10_unlikePlaces 73 = .ok (.istore_n 1, 1) := by decide +kernel
theorem dX10_unlikePlaces_74 : decode cX10_unlikePlaces 74 = .ok (.iinc 2 1, 3) := by decide +kernel
theorem dX10_unlikePlaces_77 : decode cX10_unlikePlaces 77 = .ok (.goto (-73), 3) := by decide +kernel
theorem dX10_unlikePlaces_80 : decode cX10_unlikePlaces 80 = .ok (.iload_n 1, 1) := by decide +kernel
theorem dX10_unlikePlaces_81 : decode cX10_unlikePlaces 81 = .ok (.ireturn, 1) := by decide +kernel
theorem dX10_passedOnes_0 : decode cX10_passedOnes 0 = .ok (.iconst 0, 1) := by decide +kernel
theorem dX10_passedOnes_1 : decode cX10_passedOnes 1 = .ok (.istore_n 1, 1) := by decide +kernel
theorem dX10_passedOnes_2 : decode cX10_passedOnes 2 = .ok (.iconst 0, 1) := by decide +kernel
theorem dX10_passedOnes_3 : decode cX10_passedOnes 3 = .ok (.istore_n 2, 1) := by decide +kernel
theorem dX10_passedOnes_4 : decode cX10_passedOnes 4 = .ok (.iload_n 2, 1) := by decide +kernel
theorem dX10_passedOnes_5 : decode cX10_passedOnes 5 = .ok (.aload_n 0, 1) := by decide +kernel
theorem dX10_passedOnes_6 : decode cX10_passedOnes 6 = .ok (.getfield 169, 3) := by decide +kernel
theorem dX10_passedOnes_9 : decode cX10_passedOnes 9 = .ok (.if_icmp .ge 25, 3) := by decide +kernel
theorem dX10_passedOnes_12 : decode cX10_passedOnes 12 = .ok (.iload_n 1, 1) := by decide +kernel
theorem dX10_passedOnes_13 : decode cX10_passedOnes 13 = .ok (.aload_n 0, 1) := by decide +kernel
theorem dX10_passedOnes_14 : decode cX10_passedOnes 14 = .ok (.iload_n 2, 1) := by decide +kernel
theorem dX10_passedOnes_15 : decode cX10_passedOnes 15 = .ok (.invokevirtual 247, 3) := by decide +kernel
theorem dX10_passedOnes_18 : decode cX10_passedOnes 18 = .ok (.ifCond .eq 7, 3) := by decide +kernel
theorem dX10_passedOnes_21 : decode cX10_passedOnes 21 = .ok (.iconst 1, 1) := by decide +kernel
theorem dX10_passedOnes_22 : decode cX10_passedOnes 22 = .ok (.goto 4, 3) := by decide +kernel
theorem dX10_passedOnes_25 : decode cX10_passedOnes 25 = .ok (.iconst 0, 1) := by decide +kernel
theorem dX10_passedOnes_26 : decode cX10_passedOnes 26 = .ok (.iadd, 1) := by decide +kernel
theorem dX10_passedOnes_27 : decode cX10_passedOnes 27 = .ok (.istore_n 1, 1) := by decide +kernel
theorem dX10_passedOnes_28 : decode cX10_passedOnes 28 = .ok (.iinc 2 1, 3) := by decide +kernel
theorem dX10_passedOnes_31 : decode cX10_passedOnes 31 = .ok (.goto (-27), 3) := by decide +kernel
theorem dX10_passedOnes_34 : decode cX10_passedOnes 34 = .ok (.iload_n 1, 1) := by decide +kernel
theorem dX10_passedOnes_35 : decode cX10_passedOnes 35 = .ok (.ireturn, 1) := by decide +kernel
theorem dX10_count_0 : decode cX10_count 0 = .ok (.aload_n 0, 1) := by decide +kernel
theorem dX10_count_1 : decode cX10_count 1 = .ok (.iconst 0, 1) := by decide +kernel
theorem dX10_count_2 : decode cX10_count 2 = .ok (.putfield 70, 3) := by decide +kernel
theorem dX10_count_5 : decode cX10_count 5 = .ok (.iload_n 1, 1) := by decide +kernel
theorem dX10_count_6 : decode cX10_count 6 = .ok (.tableswitch 88 0 6 #[42, 52, 57, 68, 73, 78, 83], 42) := by decide +kernel
theorem dX10_count_48 : decode cX10_count 48 = .ok (.aload_n 0, 1) := by decide +kernel
theorem dX10_count_49 : decode cX10_count 49 = .ok (.bipush 15, 2) := by decide +kernel
theorem dX10_count_51 : decode cX10_count 51 = .ok (.invokevirtual 196, 3) := by decide +kernel
theorem dX10_count_54 : decode cX10_count 54 = .ok (.invokestatic 281, 3) := by decide +kernel
theorem dX10_count_57 : decode cX10_count 57 = .ok (.ireturn, 1) := by decide +kernel
theorem dX10_count_58 : decode cX10_count 58 = .ok (.aload_n 0, 1) := by decide +kernel
theorem dX10_count_59 : decode cX10_count 59 = .ok (.getfield 169, 3) := by decide +kernel
theorem dX10_count_62 : decode cX10_count 62 = .ok (.ireturn, 1) := by decide +kernel
theorem dX10_count_63 : decode cX10_count 63 = .ok (.aload_n 0, 1) := by decide +kernel
theorem dX10_count_64 : decode cX10_count 64 = .ok (.aload_n 0, 1) := by decide +kernel
theorem dX10_count_65 : decode cX10_count 65 = .ok (.bipush 15, 2) := by decide +kernel
theorem dX10_count_67 : decode cX10_count 67 = .ok (.invokevirtual 196, 3) := by decide +kernel
theorem dX10_count_70 : decode cX10_count 70 = .ok (.invokevirtual 284, 3) := by decide +kernel
theorem dX10_count_73 : decode cX10_count 73 = .ok (.ireturn, 1) := by decide +kernel
theorem dX10_count_74 : decode cX10_count 74 = .ok (.aload_n 0, 1) := by decide +kernel
theorem dX10_count_75 : decode cX10_count 75 = .ok (.invokevirtual 394, 3) := by decide +kernel
theorem dX10_count_78 : decode cX10_count 78 = .ok (.ireturn, 1) := by decide +kernel
theorem dX10_count_79 : decode cX10_count 79 = .ok (.aload_n 0, 1) := by decide +kernel
theorem dX10_count_80 : decode cX10_count 80 = .ok (.getfield 176, 3) := by decide +kernel
theorem dX10_count_83 : decode cX10_count 83 = .ok (.ireturn, 1) := by decide +kernel
theorem dX10_count_84 : decode cX10_count 84 = .ok (.aload_n 0, 1) := by decide +kernel
theorem dX10_count_85 : decode cX10_count 85 = .ok (.invokevirtual 397, 3) := by decide +kernel
theorem dX10_count_88 : decode cX10_count 88 = .ok (.ireturn, 1) := by decide +kernel
theorem dX10_count_89 : decode cX10_count 89 = .ok (.aload_n 0, 1) := by decide +kernel
theorem dX10_count_90 : decode cX10_count 90 = .ok (.getfield 73, 3) := by decide +kernel
theorem dX10_count_93 : decode cX10_count 93 = .ok (.ireturn, 1) := by decide +kernel
theorem dX10_count_94 : decode cX10_count 94 = .ok (.iconst (-1), 1) := by decide +kernel
theorem dX10_count_95 : decode cX10_count 95 = .ok (.ireturn, 1) := by decide +kernel
