theorem d_M_feed_0 : decode b_M_feed 0 = .ok (.aload_n 0, 1) := by decide +kernel
theorem d_M_feed_1 : decode b_M_feed 1 = .ok (.getfield 83, 3) := by decide +kernel
theorem d_M_feed_4 : decode b_M_feed 4 = .ok (.bipush 20, 2) := by decide +kernel
theorem d_M_feed_6 : decode b_M_feed 6 = .ok (.iadd, 1) := by decide +kernel
theorem d_M_feed_7 : decode b_M_feed 7 = .ok (.sipush 2000, 3) := by decide +kernel
theorem d_M_feed_10 : decode b_M_feed 10 = .ok (.if_icmp .le 6, 3) := by decide +kernel
theorem d_M_feed_13 : decode b_M_feed 13 = .ok (.bipush (-3), 2) := by decide +kernel
theorem d_M_feed_15 : decode b_M_feed 15 = .ok (.ireturn, 1) := by decide +kernel
theorem d_M_feed_16 : decode b_M_feed 16 = .ok (.iconst 0, 1) := by decide +kernel
theorem d_M_feed_17 : decode b_M_feed 17 = .ok (.istore 6, 2) := by decide +kernel
theorem d_M_feed_19 : decode b_M_feed 19 = .ok (.iload 6, 2) := by decide +kernel
theorem d_M_feed_21 : decode b_M_feed 21 = .ok (.iconst 5, 1) := by decide +kernel
theorem d_M_feed_22 : decode b_M_feed 22 = .ok (.if_icmp .ge 93, 3) := by decide +kernel
theorem d_M_feed_25 : decode b_M_feed 25 = .ok (.iload 6, 2) := by decide +kernel
theorem d_M_feed_27 : decode b_M_feed 27 = .ok (.ifCond .ne 7, 3) := by decide +kernel
theorem d_M_feed_30 : decode b_M_feed 30 = .ok (.iload_n 1, 1) := by decide +kernel
theorem d_M_feed_31 : decode b_M_feed 31 = .ok (.goto 36, 3) := by decide +kernel
theorem d_M_feed_34 : decode b_M_feed 34 = .ok (.iload 6, 2) := by decide +kernel
theorem d_M_feed_36 : decode b_M_feed 36 = .ok (.iconst 1, 1) := by decide +kernel
theorem d_M_feed_37 : decode b_M_feed 37 = .ok (.if_icmp .ne 7, 3) := by decide +kernel
theorem d_M_feed_40 : decode b_M_feed 40 = .ok (.iload_n 2, 1) := by decide +kernel
theorem d_M_feed_41 : decode b_M_feed 41 = .ok (.goto 26, 3) := by decide +kernel
theorem d_M_feed_44 : decode b_M_feed 44 = .ok (.iload 6, 2) := by decide +kernel
theorem d_M_feed_46 : decode b_M_feed 46 = .ok (.iconst 2, 1) := by decide +kernel
theorem d_M_feed_47 : decode b_M_feed 47 = .ok (.if_icmp .ne 7, 3) := by decide +kernel
theorem d_M_feed_50 : decode b_M_feed 50 = .ok (.iload_n 3, 1) := by decide +kernel
theorem d_M_feed_51 : decode b_M_feed 51 = .ok (.goto 16, 3) := by decide +kernel
theorem d_M_feed_54 : decode b_M_feed 54 = .ok (.iload 6, 2) := by decide +kernel
theorem d_M_feed_56 : decode b_M_feed 56 = .ok (.iconst 3, 1) := by decide +kernel
theorem d_M_feed_57 : decode b_M_feed 57 = .ok (.if_icmp .ne 8, 3) := by decide +kernel
theorem d_M_feed_60 : decode b_M_feed 60 = .ok (.iload 4, 2) := by decide +kernel
theorem d_M_feed_62 : decode b_M_feed 62 = .ok (.goto 5, 3) := by decide +kernel
theorem d_M_feed_65 : decode b_M_feed 65 = .ok (.iload 5, 2) := by decide +kernel
theorem d_M_feed_67 : decode b_M_feed 67 = .ok (.istore 7, 2) := by decide +kernel
theorem d_M_feed_69 : decode b_M_feed 69 = .ok (.bipush 24, 2) := by decide +kernel
theorem d_M_feed_71 : decode b_M_feed 71 = .ok (.istore 8, 2) := by decide +kernel
theorem d_M_feed_73 : decode b_M_feed 73 = .ok (.iload 8, 2) := by decide +kernel
theorem d_M_feed_75 : decode b_M_feed 75 = .ok (.ifCond .lt 34, 3) := by decide +kernel
theorem d_M_feed_78 : decode b_M_feed 78 = .ok (.aload_n 0, 1) := by decide +kernel
theorem d_M_feed_79 : decode b_M_feed 79 = .ok (.getfield 42, 3) := by decide +kernel
theorem d_M_feed_82 : decode b_M_feed 82 = .ok (.aload_n 0, 1) := by decide +kernel
theorem d_M_feed_83 : decode b_M_feed 83 = .ok (.getfield 83, 3) := by decide +kernel
theorem d_M_feed_86 : decode b_M_feed 86 = .ok (.iload 7, 2) := by decide +kernel
theorem d_M_feed_88 : decode b_M_feed 88 = .ok (.iload 8, 2) := by decide +kernel
theorem d_M_feed_90 : decode b_M_feed 90 = .ok (.ishr, 1) := by decide +kernel
theorem d_M_feed_91 : decode b_M_feed 91 = .ok (.i2b, 1) := by decide +kernel
theorem d_M_feed_92 : decode b_M_feed 92 = .ok (.bastore, 1) := by decide +kernel
theorem d_M_feed_93 : decode b_M_feed 93 = .ok (.aload_n 0, 1) := by decide +kernel
theorem d_M_feed_94 : decode b_M_feed 94 = .ok (.dup, 1) := by decide +kernel
theorem d_M_feed_95 : decode b_M_feed 95 = .ok (.getfield 83, 3) := by decide +kernel
theorem d_M_feed_98 : decode b_M_feed 98 = .ok (.iconst 1, 1) := by decide +kernel
theorem d_M_feed_99 : decode b_M_feed 99 = .ok (.iadd, 1) := by decide +kernel
theorem d_M_feed_100 : decode b_M_feed 100 = .ok (.putfield 83, 3) := by decide +kernel
theorem d_M_feed_103 : decode b_M_feed 103 = .ok (.iinc 8 (-8), 3) := by decide +kernel
theorem d_M_feed_106 : decode b_M_feed 106 = .ok (.goto (-33), 3) := by decide +kernel
theorem d_M_feed_109 : decode b_M_feed 109 = .ok (.iinc 6 1, 3) := by decide +kernel
theorem d_M_feed_112 : decode b_M_feed 112 = .ok (.goto (-93), 3) := by decide +kernel
theorem d_M_feed_115 : decode b_M_feed 115 = .ok (.aload_n 0, 1) := by decide +kernel
theorem d_M_feed_116 : decode b_M_feed 116 = .ok (.getfield 83, 3) := by decide +kernel
theorem d_M_feed_119 : decode b_M_feed 119 = .ok (.ireturn, 1) := by decide +kernel
theorem d_M_isDigit_0 : decode b_M_isDigit 0 = .ok (.iload_n 0, 1) := by decide +kernel
theorem d_M_isDigit_1 : decode b_M_isDigit 1 = .ok (.bipush 48, 2) := by decide +kernel
theorem d_M_isDigit_3 : decode b_M_isDigit 3 = .ok (.if_icmp .lt 13, 3) := by decide +kernel
theorem d_M_isDigit_6 : decode b_M_isDigit 6 = .ok (.iload_n 0, 1) := by decide +kernel
theorem d_M_isDigit_7 : decode b_M_isDigit 7 = .ok (.bipush 57, 2) := by decide +kernel
theorem d_M_isDigit_9 : decode b_M_isDigit 9 = .ok (.if_icmp .gt 7, 3) := by decide +kernel
theorem d_M_isDigit_12 : decode b_M_isDigit 12 = .ok (.iconst 1, 1) := by decide +kernel
theorem d_M_isDigit_13 : decode b_M_isDigit 13 = .ok (.goto 4, 3) := by decide +kernel
theorem d_M_isDigit_16 : decode b_M_isDigit 16 = .ok (.iconst 0, 1) := by decide +kernel
theorem d_M_isDigit_17 : decode b_M_isDigit 17 = .ok (.ireturn, 1) := by decide +kernel
theorem d_M_need_0 : decode b_M_need 0 = .ok (.aload_n 0, 1) := by decide +kernel
theorem d_M_need_1 : decode b_M_need 1 = .ok (.getfield 105, 3) := by decide +kernel
theorem d_M_need_4 : decode b_M_need 4 = .ok (.ifCond .ne 20, 3) := by decide +kernel
theorem d_M_need_7 : decode b_M_need 7 = .ok (.iload_n 1, 1) := by decide +kernel
theorem d_M_need_8 : decode b_M_need 8 = .ok (.ifCond .ne 16, 3) := by decide +kernel
theorem d_M_need_11 : decode b_M_need 11 = .ok (.aload_n 0, 1) := by decide +kernel
theorem d_M_need_12 : decode b_M_need 12 = .ok (.iload_n 2, 1) := by decide +kernel
theorem d_M_need_13 : decode b_M_need 13 = .ok (.putfield 105, 3) := by decide +kernel
theorem d_M_need_16 : decode b_M_need 16 = .ok (.aload_n 0, 1) := by decide +kernel
theorem d_M_need_17 : decode b_M_need 17 = .ok (.aload_n 0, 1) := by decide +kernel
theorem d_M_need_18 : decode b_M_need 18 = .ok (.getfield 92, 3) := by decide +kernel
theorem d_M_need_21 : decode b_M_need 21 = .ok (.putfield 46, 3) := by decide +kernel
theorem d_M_need_24 : decode b_M_need 24 = .ok (.aload_n 0, 1) := by decide +kernel
theorem d_M_need_25 : decode b_M_need 25 = .ok (.getfield 105, 3) := by decide +kernel
theorem d_M_need_28 : decode b_M_need 28 = .ok (.ifCond .ne 7, 3) := by decide +kernel
theorem d_M_need_31 : decode b_M_need 31 = .ok (.iconst 1, 1) := by decide +kernel
theorem d_M_need_32 : decode b_M_need 32 = .ok (.goto 4, 3) := by decide +kernel
theorem d_M_need_35 : decode b_M_need 35 = .ok (.iconst 0, 1) := by decide +kernel
theorem d_M_need_36 : decode b_M_need 36 = .ok (.ireturn, 1) := by decide +kernel
theorem d_M_empty_0 : decode b_M_empty 0 = .ok (.iconst 1, 1) := by decide +kernel
theorem d_M_empty_1 : decode b_M_empty 1 = .ok (.istore_n 1, 1) := by decide +kernel
theorem d_M_empty_2 : decode b_M_empty 2 = .ok (.iload_n 1, 1) := by decide +kernel
theorem d_M_empty_3 : decode b_M_empty 3 = .ok (.aload_n 0, 1) := by decide +kernel
theorem d_M_empty_4 : decode b_M_empty 4 = .ok (.getfield 115, 3) := by decide +kernel
theorem d_M_empty_7 : decode b_M_empty 7 = .ok (.if_icmp .gt 29, 3) := by decide +kernel
theorem d_M_empty_10 : decode b_M_empty 10 = .ok (.aload_n 0, 1) := by decide +kernel
theorem d_M_empty_11 : decode b_M_empty 11 = .ok (.getfield 7, 3) := by decide +kernel
theorem d_M_empty_14 : decode b_M_empty 14 = .ok (.iload_n 1, 1) := by decide +kernel
theorem d_M_empty_15 : decode b_M_empty 15 = .ok (.iaload, 1) := by decide +kernel
theorem d_M_empty_16 : decode b_M_empty 16 = .ok (.ifCond .ne 14, 3) := by decide +kernel
theorem d_M_empty_19 : decode b_M_empty 19 = .ok (.aload_n 0, 1) := by decide +kernel
theorem d_M_empty_20 : decode b_M_empty 20 = .ok (.getfield 13, 3) := by decide +kernel
theorem d_M_empty_23 : decode b_M_empty 23 = .ok (.iload_n 1, 1) := by decide +kernel
theorem d_M_empty_24 : decode b_M_empty 24 = .ok (.iaload, 1) := by decide +kernel
theorem d_M_empty_25 : decode b_M_empty 25 = .ok (.ifCond .ne 5, 3) := by decide +kernel
theorem d_M_empty_28 : decode b_M_empty 28 = .ok (.iload_n 1, 1) := by decide +kernel
theorem d_M_empty_29 : decode b_M_empty 29 = .ok (.ireturn, 1) := by decide +kernel
theorem d_M_empty_30 : decode b_M_empty 30 = .ok (.iinc 1 1, 3) := by decide +kernel
theorem d_M_empty_33 : decode b_M_empty 33 = .ok (.goto (-31), 3) := by decide +kernel
theorem d_M_empty_36 : decode b_M_empty 36 = .ok (.iconst (-1), 1) := by decide +kernel
theorem d_M_empty_37 : decode b_M_empty 37 = .ok (.ireturn, 1) := by decide +kernel
theorem d_M_readGiven_0 : decode b_M_readGiven 0 = .ok (.aload_n 0, 1) := by decide +kernel
theorem d_M_readGiven_1 : decode b_M_readGiven 1 = .ok (.aload_n 0, 1) := by decide +kernel
theorem d_M_readGiven_2 : decode b_M_readGiven 2 = .ok (.getfield 118, 3) := by decide +kernel
theorem d_M_readGiven_5 : decode b_M_readGiven 5 = .ok (.bipush 60, 2) := by decide +kernel
theorem d_M_readGiven_7 : decode b_M_readGiven 7 = .ok (.if_icmp .ge 17, 3) := by decide +kernel
theorem d_M_readGiven_10 : decode b_M_readGiven 10 = .ok (.aload_n 0, 1) := by decide +kernel
theorem d_M_readGiven_11 : decode b_M_readGiven 11 = .ok (.getfield 115, 3) := by decide +kernel
theorem d_M_readGiven_14 : decode b_M_readGiven 14 = .ok (.sipush 200, 3) := by decide +kernel
theorem d_M_readGiven_17 : decode b_M_readGiven 17 = .ok (.if_icmp .ge 7, 3) := by decide +kernel
theorem d_M_readGiven_20 : decode b_M_readGiven 20 = .ok (.iconst 1, 1) := by decide +kernel
theorem d_M_readGiven_21 : decode b_M_readGiven 21 = .ok (.goto 4, 3) := by decide +kernel
theorem d_M_readGiven_24 : decode b_M_readGiven 24 = .ok (.iconst 0, 1) := by decide +kernel
theorem d_M_readGiven_25 : decode b_M_readGiven 25 = .ok (.bipush 6, 2) := by decide +kernel
theorem d_M_readGiven_27 : decode b_M_readGiven 27 = .ok (.invokevirtual 108, 3) := by decide +kernel
theorem d_M_readGiven_30 : decode b_M_readGiven 30 = .ok (.ifCond .ne 4, 3) := by decide +kernel
theorem d_M_readGiven_33 : decode b_M_readGiven 33 = .ok (.return_, 1) := by decide +kernel
theorem d_M_readGiven_34 : decode b_M_readGiven 34 = .ok (.aload_n 0, 1) := by decide +kernel
theorem d_M_readGiven_35 : decode b_M_readGiven 35 = .ok (.invokevirtual 112, 3) := by decide +kernel
theorem d_M_readGiven_38 : decode b_M_readGiven 38 = .ok (.aload_n 0, 1) := by decide +kernel
theorem d_M_readGiven_39 : decode b_M_readGiven 39 = .ok (.aload_n 0, 1) := by decide +kernel
theorem d_M_readGiven_40 : decode b_M_readGiven 40 = .ok (.getfield 95, 3) := by decide +kernel
theorem d_M_readGiven_43 : decode b_M_readGiven 43 = .ok (.iconst 1, 1) := by decide +kernel
theorem d_M_readGiven_44 : decode b_M_readGiven 44 = .ok (.if_icmp .ne 7, 3) := by decide +kernel
theorem d_M_readGiven_47 : decode b_M_readGiven 47 = .ok (.iconst 1, 1) := by decide +kernel
theorem d_M_readGiven_48 : decode b_M_readGiven 48 = .ok (.goto 4, 3) := by decide +kernel
theorem d_M_readGiven_51 : decode b_M_readGiven 51 = .ok (.iconst 0, 1) := by decide +kernel
theorem d_M_readGiven_52 : decode b_M_readGiven 52 = .ok (.iconst 1, 1) := by decide +kernel
theorem d_M_readGiven_53 : decode b_M_readGiven 53 = .ok (.invokevirtual 108, 3) := by decide +kernel
theorem d_M_readGiven_56 : decode b_M_readGiven 56 = .ok (.ifCond .eq 33, 3) := by decide +kernel
theorem d_M_readGiven_59 : decode b_M_readGiven 59 = .ok (.aload_n 0, 1) := by decide +kernel
theorem d_M_readGiven_60 : decode b_M_readGiven 60 = .ok (.aload_n 0, 1) := by decide +kernel
theorem d_M_readGiven_61 : decode b_M_readGiven 61 = .ok (.getfield 102, 3) := by decide +kernel
theorem d_M_readGiven_64 : decode b_M_readGiven 64 = .ok (.iconst 1, 1) := by decide +kernel
theorem d_M_readGiven_65 : decode b_M_readGiven 65 = .ok (.if_icmp .lt 16, 3) := by decide +kernel
theorem d_M_readGiven_68 : decode b_M_readGiven 68 = .ok (.aload_n 0, 1) := by decide +kernel
theorem d_M_readGiven_69 : decode b_M_readGiven 69 = .ok (.getfield 102, 3) := by decide +kernel
theorem d_M_readGiven_72 : decode b_M_readGiven 72 = .ok (.bipush 8, 2) := by decide +kernel
theorem d_M_readGiven_74 : decode b_M_readGiven 74 = .ok (.if_icmp .gt 7, 3) := by decide +kernel
theorem d_M_readGiven_77 : decode b_M_readGiven 77 = .ok (.iconst 1, 1) := by decide +kernel
theorem d_M_readGiven_78 : decode b_M_readGiven 78 = .ok (.goto 4, 3) := by decide +kernel
theorem d_M_readGiven_81 : decode b_M_readGiven 81 = .ok (.iconst 0, 1) := by decide +kernel
theorem d_M_readGiven_82 : decode b_M_readGiven 82 = .ok (.iconst 2, 1) := by decide +kernel
theorem d_M_readGiven_83 : decode b_M_readGiven 83 = .ok (.invokevirtual 108, 3) := by decide +kernel
theorem d_M_readGiven_86 : decode b_M_readGiven 86 = .ok (.ifCond .ne 4, 3) := by decide +kernel
theorem d_M_readGiven_89 : decode b_M_readGiven 89 = .ok (.return_, 1) := by decide +kernel
theorem d_M_readGiven_90 : decode b_M_readGiven 90 = .ok (.aload_n 0, 1) := by decide +kernel
theorem d_M_readGiven_91 : decode b_M_readGiven 91 = .ok (.getfield 102, 3) := by decide +kernel
theorem d_M_readGiven_94 : decode b_M_readGiven 94 = .ok (.istore_n 1, 1) := by decide +kernel
theorem d_M_readGiven_95 : decode b_M_readGiven 95 = .ok (.aload_n 0, 1) := by decide +kernel
theorem d_M_readGiven_96 : decode b_M_readGiven 96 = .ok (.invokevirtual 112, 3) := by decide +kernel
theorem d_M_readGiven_99 : decode b_M_readGiven 99 = .ok (.aload_n 0, 1) := by decide +kernel
theorem d_M_readGiven_100 : decode b_M_readGiven 100 = .ok (.bipush 58, 2) := by decide +kernel
theorem d_M_readGiven_102 : decode b_M_readGiven 102 = .ok (.invokevirtual 121, 3) := by decide +kernel
theorem d_M_readGiven_105 : decode b_M_readGiven 105 = .ok (.ifCond .ne 4, 3) := by decide +kernel
theorem d_M_readGiven_108 : decode b_M_readGiven 108 = .ok (.return_, 1) := by decide +kernel
theorem d_M_readGiven_109 : decode b_M_readGiven 109 = .ok (.iconst 0, 1) := by decide +kernel
theorem d_M_readGiven_110 : decode b_M_readGiven 110 = .ok (.istore_n 2, 1) := by decide +kernel
theorem d_M_readGiven_111 : decode b_M_readGiven 111 = .ok (.iconst 0, 1) := by decide +kernel
theorem d_M_readGiven_112 : decode b_M_readGiven 112 = .ok (.istore_n 3, 1) := by decide +kernel
theorem d_M_readGiven_113 : decode b_M_readGiven 113 = .ok (.aload_n 0, 1) := by decide +kernel
theorem d_M_readGiven_114 : decode b_M_readGiven 114 = .ok (.getfield 95, 3) := by decide +kernel
theorem d_M_readGiven_117 : decode b_M_readGiven 117 = .ok (.bipush 45, 2) := by decide +kernel
theorem d_M_readGiven_119 : decode b_M_readGiven 119 = .ok (.if_icmp .eq 11, 3) := by decide +kernel
theorem d_M_readGiven_122 : decode b_M_readGiven 122 = .ok (.aload_n 0, 1) := by decide +kernel
theorem d_M_readGiven_123 : decode b_M_readGiven 123 = .ok (.getfield 95, 3) := by decide +kernel
theorem d_M_readGiven_126 : decode b_M_readGiven 126 = .ok (.iconst 1, 1) := by decide +kernel
theorem d_M_readGiven_127 : decode b_M_readGiven 127 = .ok (.if_icmp .ne 138, 3) := by decide +kernel
theorem d_M_readGiven_130 : decode b_M_readGiven 130 = .ok (.aload_n 0, 1) := by decide +kernel
theorem d_M_readGiven_131 : decode b_M_readGiven 131 = .ok (.getfield 95, 3) := by decide +kernel
theorem d_M_readGiven_134 : decode b_M_readGiven 134 = .ok (.bipush 45, 2) := by decide +kernel
theorem d_M_readGiven_136 : decode b_M_readGiven 136 = .ok (.if_icmp .ne 7, 3) := by decide +kernel
theorem d_M_readGiven_139 : decode b_M_readGiven 139 = .ok (.iconst 1, 1) := by decide +kernel
theorem d_M_readGiven_140 : decode b_M_readGiven 140 = .ok (.goto 4, 3) := by decide +kernel
theorem d_M_readGiven_143 : decode b_M_readGiven 143 = .ok (.iconst 0, 1) := by decide +kernel
theorem d_M_readGiven_144 : decode b_M_readGiven 144 = .ok (.istore 4, 2) := by decide +kernel
theorem d_M_readGiven_146 : decode b_M_readGiven 146 = .ok (.iload 4, 2) := by decide +kernel
theorem d_M_readGiven_148 : decode b_M_readGiven 148 = .ok (.ifCond .eq 7, 3) := by decide +kernel
theorem d_M_readGiven_151 : decode b_M_readGiven 151 = .ok (.aload_n 0, 1) := by decide +kernel
theorem d_M_readGiven_152 : decode b_M_readGiven 152 = .ok (.invokevirtual 112, 3) := by decide +kernel
theorem d_M_readGiven_155 : decode b_M_readGiven 155 = .ok (.aload_n 0, 1) := by decide +kernel
theorem d_M_readGiven_156 : decode b_M_readGiven 156 = .ok (.aload_n 0, 1) := by decide +kernel
theorem d_M_readGiven_157 : decode b_M_readGiven 157 = .ok (.getfield 95, 3) := by decide +kernel
theorem d_M_readGiven_160 : decode b_M_readGiven 160 = .ok (.iconst 1, 1) := by decide +kernel
theorem d_M_readGiven_161 : decode b_M_readGiven 161 = .ok (.if_icmp .ne 7, 3) := by decide +kernel
theorem d_M_readGiven_164 : decode b_M_readGiven 164 = .ok (.iconst 1, 1) := by decide +kernel
theorem d_M_readGiven_165 : decode b_M_readGiven 165 = .ok (.goto 4, 3) := by decide +kernel
theorem d_M_readGiven_168 : decode b_M_readGiven 168 = .ok (.iconst 0, 1) := by decide +kernel
theorem d_M_readGiven_169 : decode b_M_readGiven 169 = .ok (.iconst 1, 1) := by decide +kernel
theorem d_M_readGiven_170 : decode b_M_readGiven 170 = .ok (.invokevirtual 108, 3) := by decide +kernel
theorem d_M_readGiven_173 : decode b_M_readGiven 173 = .ok (.ifCond .eq 33, 3) := by decide +kernel
theorem d_M_readGiven_176 : decode b_M_readGiven 176 = .ok (.aload_n 0, 1) := by decide +kernel
theorem d_M_readGiven_177 : decode b_M_readGiven 177 = .ok (.aload_n 0, 1) := by decide +kernel
theorem d_M_readGiven_178 : decode b_M_readGiven 178 = .ok (.getfield 102, 3) := by decide +kernel
theorem d_M_readGiven_181 : decode b_M_readGiven 181 = .ok (.iconst 1, 1) := by decide +kernel
theorem d_M_readGiven_182 : decode b_M_readGiven 182 = .ok (.if_icmp .lt 16, 3) := by decide +kernel
theorem d_M_readGiven_185 : decode b_M_readGiven 185 = .ok (.aload_n 0, 1) := by decide +kernel
theorem d_M_readGiven_186 : decode b_M_readGiven 186 = .ok (.getfield 102, 3) := by decide +kernel
theorem d_M_readGiven_189 : decode b_M_readGiven 189 = .ok (.bipush 10, 2) := by decide +kernel
theorem d_M_readGiven_191 : decode b_M_readGiven 191 = .ok (.if_icmp .gt 7, 3) := by decide +kernel
theorem d_M_readGiven_194 : decode b_M_readGiven 194 = .ok (.iconst 1, 1) := by decide +kernel
theorem d_M_readGiven_195 : decode b_M_readGiven 195 = .ok (.goto 4, 3) := by decide +kernel
theorem d_M_readGiven_198 : decode b_M_readGiven 198 = .ok (.iconst 0, 1) := by decide +kernel
theorem d_M_readGiven_199 : decode b_M_readGiven 199 = .ok (.iconst 2, 1) := by decide +kernel
theorem d_M_readGiven_200 : decode b_M_readGiven 200 = .ok (.invokevirtual 108, 3) := by decide +kernel
theorem d_M_readGiven_203 : decode b_M_readGiven 203 = .ok (.ifCond .ne 4, 3) := by decide +kernel
theorem d_M_readGiven_206 : decode b_M_readGiven 206 = .ok (.return_, 1) := by decide +kernel
theorem d_M_readGiven_207 : decode b_M_readGiven 207 = .ok (.iconst 1, 1) := by decide +kernel
theorem d_M_readGiven_208 : decode b_M_readGiven 208 = .ok (.aload_n 0, 1) := by decide +kernel
theorem d_M_readGiven_209 : decode b_M_readGiven 209 = .ok (.getfield 102, 3) := by decide +kernel
theorem d_M_readGiven_212 : decode b_M_readGiven 212 = .ok (.iconst 1, 1) := by decide +kernel
theorem d_M_readGiven_213 : decode b_M_readGiven 213 = .ok (.isub, 1) := by decide +kernel
theorem d_M_readGiven_214 : decode b_M_readGiven 214 = .ok (.ishl, 1) := by decide +kernel
theorem d_M_readGiven_215 : decode b_M_readGiven 215 = .ok (.istore 5, 2) := by decide +kernel
theorem d_M_readGiven_217 : decode b_M_readGiven 217 = .ok (.aload_n 0, 1) := by decide +kernel
theorem d_M_readGiven_218 : decode b_M_readGiven 218 = .ok (.iload_n 2, 1) := by decide +kernel
theorem d_M_readGiven_219 : decode b_M_readGiven 219 = .ok (.iload_n 3, 1) := by decide +kernel
theorem d_M_readGiven_220 : decode b_M_readGiven 220 = .ok (.ior, 1) := by decide +kernel
theorem d_M_readGiven_221 : decode b_M_readGiven 221 = .ok (.iload 5, 2) := by decide +kernel
theorem d_M_readGiven_223 : decode b_M_readGiven 223 = .ok (.iand, 1) := by decide +kernel
theorem d_M_readGiven_224 : decode b_M_readGiven 224 = .ok (.ifCond .ne 7, 3) := by decide +kernel
theorem d_M_readGiven_227 : decode b_M_readGiven 227 = .ok (.iconst 1, 1) := by decide +kernel
theorem d_M_readGiven_228 : decode b_M_readGiven 228 = .ok (.goto 4, 3) := by decide +kernel
theorem d_M_readGiven_231 : decode b_M_readGiven 231 = .ok (.iconst 0, 1) := by decide +kernel
theorem d_M_readGiven_232 : decode b_M_readGiven 232 = .ok (.iconst 3, 1) := by decide +kernel
theorem d_M_readGiven_233 : decode b_M_readGiven 233 = .ok (.invokevirtual 108, 3) := by decide +kernel
theorem d_M_readGiven_236 : decode b_M_readGiven 236 = .ok (.ifCond .ne 4, 3) := by decide +kernel
theorem d_M_readGiven_239 : decode b_M_readGiven 239 = .ok (.return_, 1) := by decide +kernel
theorem d_M_readGiven_240 : decode b_M_readGiven 240 = .ok (.iload 4, 2) := by decide +kernel
theorem d_M_readGiven_242 : decode b_M_readGiven 242 = .ok (.ifCond .eq 11, 3) := by decide +kernel
theorem d_M_readGiven_245 : decode b_M_readGiven 245 = .ok (.iload_n 3, 1) := by decide +kernel
theorem d_M_readGiven_246 : decode b_M_readGiven 246 = .ok (.iload 5, 2) := by decide +kernel
theorem d_M_readGiven_248 : decode b_M_readGiven 248 = .ok (.ior, 1) := by decide +kernel
theorem d_M_readGiven_249 : decode b_M_readGiven 249 = .ok (.istore_n 3, 1) := by decide +kernel
theorem d_M_readGiven_250 : decode b_M_readGiven 250 = .ok (.goto 8, 3) := by decide +kernel
theorem d_M_readGiven_253 : decode b_M_readGiven 253 = .ok (.iload_n 2, 1) := by decide +kernel
theorem d_M_readGiven_254 : decode b_M_readGiven 254 = .ok (.iload 5, 2) := by decide +kernel
theorem d_M_readGiven_256 : decode b_M_readGiven 256 = .ok (.ior, 1) := by decide +kernel
theorem d_M_readGiven_257 : decode b_M_readGiven 257 = .ok (.istore_n 2, 1) := by decide +kernel
theorem d_M_readGiven_258 : decode b_M_readGiven 258 = .ok (.aload_n 0, 1) := by decide +kernel
theorem d_M_readGiven_259 : decode b_M_readGiven 259 = .ok (.invokevirtual 112, 3) := by decide +kernel
theorem d_M_readGiven_262 : decode b_M_readGiven 262 = .ok (.goto (-149), 3) := by decide +kernel
theorem d_M_readGiven_265 : decode b_M_readGiven 265 = .ok (.aload_n 0, 1) := by decide +kernel
theorem d_M_readGiven_266 : decode b_M_readGiven 266 = .ok (.bipush 59, 2) := by decide +kernel
theorem d_M_readGiven_268 : decode b_M_readGiven 268 = .ok (.invokevirtual 121, 3) := by decide +kernel
theorem d_M_readGiven_271 : decode b_M_readGiven 271 = .ok (.ifCond .eq 13, 3) := by decide +kernel
theorem d_M_readGiven_274 : decode b_M_readGiven 274 = .ok (.aload_n 0, 1) := by decide +kernel
theorem d_M_readGiven_275 : decode b_M_readGiven 275 = .ok (.iload_n 2, 1) := by decide +kernel
theorem d_M_readGiven_276 : decode b_M_readGiven 276 = .ok (.iload_n 3, 1) := by decide +kernel
theorem d_M_readGiven_277 : decode b_M_readGiven 277 = .ok (.iload_n 1, 1) := by decide +kernel
theorem d_M_readGiven_278 : decode b_M_readGiven 278 = .ok (.iconst 0, 1) := by decide +kernel
theorem d_M_readGiven_279 : decode b_M_readGiven 279 = .ok (.iconst 0, 1) := by decide +kernel
theorem d_M_readGiven_280 : decode b_M_readGiven 280 = .ok (.iconst 0, 1) := by decide +kernel
theorem d_M_readGiven_281 : decode b_M_readGiven 281 = .ok (.invokevirtual 124, 3) := by decide +kernel
theorem d_M_readGiven_284 : decode b_M_readGiven 284 = .ok (.return_, 1) := by decide +kernel
theorem d_M_readResolvent_0 : decode b_M_readResolvent 0 = .ok (.aload_n 0, 1) := by decide +kernel
theorem d_M_readResolvent_1 : decode b_M_readResolvent 1 = .ok (.aload_n 0, 1) := by decide +kernel
theorem d_M_readResolvent_2 : decode b_M_readResolvent 2 = .ok (.getfield 115, 3) := by decide +kernel
theorem d_M_readResolvent_5 : decode b_M_readResolvent 5 = .ok (.sipush 200, 3) := by decide +kernel
theorem d_M_readResolvent_8 : decode b_M_readResolvent 8 = .ok (.if_icmp .ge 7, 3) := by decide +kernel
theorem d_M_readResolvent_11 : decode b_M_readResolvent 11 = .ok (.iconst 1, 1) := by decide +kernel
theorem d_M_readResolvent_12 : decode b_M_readResolvent 12 = .ok (.goto 4, 3) := by decide +kernel
theorem d_M_readResolvent_15 : decode b_M_readResolvent 15 = .ok (.iconst 0, 1) := by decide +kernel
theorem d_M_readResolvent_16 : decode b_M_readResolvent 16 = .ok (.bipush 6, 2) := by decide +kernel
theorem d_M_readResolvent_18 : decode b_M_readResolvent 18 = .ok (.invokevirtual 108, 3) := by decide +kernel
theorem d_M_readResolvent_21 : decode b_M_readResolvent 21 = .ok (.ifCond .ne 4, 3) := by decide +kernel
theorem d_M_readResolvent_24 : decode b_M_readResolvent 24 = .ok (.return_, 1) := by decide +kernel
theorem d_M_readResolvent_25 : decode b_M_readResolvent 25 = .ok (.aload_n 0, 1) := by decide +kernel
theorem d_M_readResolvent_26 : decode b_M_readResolvent 26 = .ok (.invokevirtual 112, 3) := by decide +kernel
theorem d_M_readResolvent_29 : decode b_M_readResolvent 29 = .ok (.aload_n 0, 1) := by decide +kernel
theorem d_M_readResolvent_30 : decode b_M_readResolvent 30 = .ok (.invokevirtual 128, 3) := by decide +kernel
theorem d_M_readResolvent_33 : decode b_M_readResolvent 33 = .ok (.istore_n 1, 1) := by decide +kernel
theorem d_M_readResolvent_34 : decode b_M_readResolvent 34 = .ok (.aload_n 0, 1) := by decide +kernel
theorem d_M_readResolvent_35 : decode b_M_readResolvent 35 = .ok (.getfield 105, 3) := by decide +kernel
theorem d_M_readResolvent_38 : decode b_M_readResolvent 38 = .ok (.ifCond .le 4, 3) := by decide +kernel
theorem d_M_readResolvent_41 : decode b_M_readResolvent 41 = .ok (.return_, 1) := by decide +kernel
theorem d_M_readResolvent_42 : decode b_M_readResolvent 42 = .ok (.aload_n 0, 1) := by decide +kernel
theorem d_M_readResolvent_43 : decode b_M_readResolvent 43 = .ok (.invokevirtual 128, 3) := by decide +kernel
theorem d_M_readResolvent_46 : decode b_M_readResolvent 46 = .ok (.istore_n 2, 1) := by decide +kernel
theorem d_M_readResolvent_47 : decode b_M_readResolvent 47 = .ok (.aload_n 0, 1) := by decide +kernel
theorem d_M_readResolvent_48 : decode b_M_readResolvent 48 = .ok (.getfield 105, 3) := by decide +kernel
theorem d_M_readResolvent_51 : decode b_M_readResolvent 51 = .ok (.ifCond .le 4, 3) := by decide +kernel
theorem d_M_readResolvent_54 : decode b_M_readResolvent 54 = .ok (.return_, 1) := by decide +kernel
theorem d_M_readResolvent_55 : decode b_M_readResolvent 55 = .ok (.aload_n 0, 1) := by decide +kernel
theorem d_M_readResolvent_56 : decode b_M_readResolvent 56 = .ok (.aload_n 0, 1) := by decide +kernel
theorem d_M_readResolvent_57 : decode b_M_readResolvent 57 = .ok (.getfield 95, 3) := by decide +kernel
theorem d_M_readResolvent_60 : decode b_M_readResolvent 60 = .ok (.iconst 1, 1) := by decide +kernel
theorem d_M_readResolvent_61 : decode b_M_readResolvent 61 = .ok (.if_icmp .ne 7, 3) := by decide +kernel
theorem d_M_readResolvent_64 : decode b_M_readResolvent 64 = .ok (.iconst 1, 1) := by decide +kernel
theorem d_M_readResolvent_65 : decode b_M_readResolvent 65 = .ok (.goto 4, 3) := by decide +kernel
theorem d_M_readResolvent_68 : decode b_M_readResolvent 68 = .ok (.iconst 0, 1) := by decide +kernel
theorem d_M_readResolvent_69 : decode b_M_readResolvent 69 = .ok (.iconst 1, 1) := by decide +kernel
theorem d_M_readResolvent_70 : decode b_M_readResolvent 70 = .ok (.invokevirtual 108, 3) := by decide +kernel
theorem d_M_readResolvent_73 : decode b_M_readResolvent 73 = .ok (.ifCond .eq 33, 3) := by decide +kernel
theorem d_M_readResolvent_76 : decode b_M_readResolvent 76 = .ok (.aload_n 0, 1) := by decide +kernel
theorem d_M_readResolvent_77 : decode b_M_readResolvent 77 = .ok (.aload_n 0, 1) := by decide +kernel
theorem d_M_readResolvent_78 : decode b_M_readResolvent 78 = .ok (.getfield 102, 3) := by decide +kernel
theorem d_M_readResolvent_81 : decode b_M_readResolvent 81 = .ok (.iconst 1, 1) := by decide +kernel
theorem d_M_readResolvent_82 : decode b_M_readResolvent 82 = .ok (.if_icmp .lt 16, 3) := by decide +kernel
theorem d_M_readResolvent_85 : decode b_M_readResolvent 85 = .ok (.aload_n 0, 1) := by decide +kernel
theorem d_M_readResolvent_86 : decode b_M_readResolvent 86 = .ok (.getfield 102, 3) := by decide +kernel
theorem d_M_readResolvent_89 : decode b_M_readResolvent 89 = .ok (.bipush 10, 2) := by decide +kernel
theorem d_M_readResolvent_91 : decode b_M_readResolvent 91 = .ok (.if_icmp .gt 7, 3) := by decide +kernel
theorem d_M_readResolvent_94 : decode b_M_readResolvent 94 = .ok (.iconst 1, 1) := by decide +kernel
theorem d_M_readResolvent_95 : decode b_M_readResolvent 95 = .ok (.goto 4, 3) := by decide +kernel
theorem d_M_readResolvent_98 : decode b_M_readResolvent 98 = .ok (.iconst 0, 1) := by decide +kernel
theorem d_M_readResolvent_99 : decode b_M_readResolvent 99 = .ok (.iconst 2, 1) := by decide +kernel
theorem d_M_readResolvent_100 : decode b_M_readResolvent 100 = .ok (.invokevirtual 108, 3) := by decide +kernel
theorem d_M_readResolvent_103 : decode b_M_readResolvent 103 = .ok (.ifCond .ne 4, 3) := by decide +kernel
theorem d_M_readResolvent_106 : decode b_M_readResolvent 106 = .ok (.return_, 1) := by decide +kernel
theorem d_M_readResolvent_107 : decode b_M_readResolvent 107 = .ok (.iconst 1, 1) := by decide +kernel
theorem d_M_readResolvent_108 : decode b_M_readResolvent 108 = .ok (.aload_n 0, 1) := by decide +kernel
theorem d_M_readResolvent_109 : decode b_M_readResolvent 109 = .ok (.getfield 102, 3) := by decide +kernel
theorem d_M_readResolvent_112 : decode b_M_readResolvent 112 = .ok (.iconst 1, 1) := by decide +kernel
theorem d_M_readResolvent_113 : decode b_M_readResolvent 113 = .ok (.isub, 1) := by decide +kernel
theorem d_M_readResolvent_114 : decode b_M_readResolvent 114 = .ok (.ishl, 1) := by decide +kernel
theorem d_M_readResolvent_115 : decode b_M_readResolvent 115 = .ok (.istore_n 3, 1) := by decide +kernel
theorem d_M_readResolvent_116 : decode b_M_readResolvent 116 = .ok (.aload_n 0, 1) := by decide +kernel
theorem d_M_readResolvent_117 : decode b_M_readResolvent 117 = .ok (.aload_n 0, 1) := by decide +kernel
theorem d_M_readResolvent_118 : decode b_M_readResolvent 118 = .ok (.getfield 7, 3) := by decide +kernel
theorem d_M_readResolvent_121 : decode b_M_readResolvent 121 = .ok (.iload_n 1, 1) := by decide +kernel
theorem d_M_readResolvent_122 : decode b_M_readResolvent 122 = .ok (.iaload, 1) := by decide +kernel
theorem d_M_readResolvent_123 : decode b_M_readResolvent 123 = .ok (.iload_n 3, 1) := by decide +kernel
theorem d_M_readResolvent_124 : decode b_M_readResolvent 124 = .ok (.iand, 1) := by decide +kernel
theorem d_M_readResolvent_125 : decode b_M_readResolvent 125 = .ok (.ifCond .eq 18, 3) := by decide +kernel
theorem d_M_readResolvent_128 : decode b_M_readResolvent 128 = .ok (.aload_n 0, 1) := by decide +kernel
theorem d_M_readResolvent_129 : decode b_M_readResolvent 129 = .ok (.getfield 13, 3) := by decide +kernel
theorem d_M_readResolvent_132 : decode b_M_readResolvent 132 = .ok (.iload_n 2, 1) := by decide +kernel
theorem d_M_readResolvent_133 : decode b_M_readResolvent 133 = .ok (.iaload, 1) := by decide +kernel
theorem d_M_readResolvent_134 : decode b_M_readResolvent 134 = .ok (.iload_n 3, 1) := by decide +kernel
theorem d_M_readResolvent_135 : decode b_M_readResolvent 135 = .ok (.iand, 1) := by decide +kernel
theorem d_M_readResolvent_136 : decode b_M_readResolvent 136 = .ok (.ifCond .eq 7, 3) := by decide +kernel
theorem d_M_readResolvent_139 : decode b_M_readResolvent 139 = .ok (.iconst 1, 1) := by decide +kernel
theorem d_M_readResolvent_140 : decode b_M_readResolvent 140 = .ok (.goto 4, 3) := by decide +kernel
theorem d_M_readResolvent_143 : decode b_M_readResolvent 143 = .ok (.iconst 0, 1) := by decide +kernel
theorem d_M_readResolvent_144 : decode b_M_readResolvent 144 = .ok (.iconst 4, 1) := by decide +kernel
theorem d_M_readResolvent_145 : decode b_M_readResolvent 145 = .ok (.invokevirtual 108, 3) := by decide +kernel
theorem d_M_readResolvent_148 : decode b_M_readResolvent 148 = .ok (.ifCond .ne 4, 3) := by decide +kernel
theorem d_M_readResolvent_151 : decode b_M_readResolvent 151 = .ok (.return_, 1) := by decide +kernel
theorem d_M_readResolvent_152 : decode b_M_readResolvent 152 = .ok (.aload_n 0, 1) := by decide +kernel
theorem d_M_readResolvent_153 : decode b_M_readResolvent 153 = .ok (.getfield 7, 3) := by decide +kernel
theorem d_M_readResolvent_156 : decode b_M_readResolvent 156 = .ok (.iload_n 1, 1) := by decide +kernel
theorem d_M_readResolvent_157 : decode b_M_readResolvent 157 = .ok (.iaload, 1) := by decide +kernel
theorem d_M_readResolvent_158 : decode b_M_readResolvent 158 = .ok (.iload_n 3, 1) := by decide +kernel
theorem d_M_readResolvent_159 : decode b_M_readResolvent 159 = .ok (.iconst (-1), 1) := by decide +kernel
theorem d_M_readResolvent_160 : decode b_M_readResolvent 160 = .ok (.ixor, 1) := by decide +kernel
theorem d_M_readResolvent_161 : decode b_M_readResolvent 161 = .ok (.iand, 1) := by decide +kernel
theorem d_M_readResolvent_162 : decode b_M_readResolvent 162 = .ok (.aload_n 0, 1) := by decide +kernel
theorem d_M_readResolvent_163 : decode b_M_readResolvent 163 = .ok (.getfield 7, 3) := by decide +kernel
theorem d_M_readResolvent_166 : decode b_M_readResolvent 166 = .ok (.iload_n 2, 1) := by decide +kernel
theorem d_M_readResolvent_167 : decode b_M_readResolvent 167 = .ok (.iaload, 1) := by decide +kernel
theorem d_M_readResolvent_168 : decode b_M_readResolvent 168 = .ok (.ior, 1) := by decide +kernel
theorem d_M_readResolvent_169 : decode b_M_readResolvent 169 = .ok (.istore 4, 2) := by decide +kernel
theorem d_M_readResolvent_171 : decode b_M_readResolvent 171 = .ok (.aload_n 0, 1) := by decide +kernel
theorem d_M_readResolvent_172 : decode b_M_readResolvent 172 = .ok (.getfield 13, 3) := by decide +kernel
theorem d_M_readResolvent_175 : decode b_M_readResolvent 175 = .ok (.iload_n 1, 1) := by decide +kernel
theorem d_M_readResolvent_176 : decode b_M_readResolvent 176 = .ok (.iaload, 1) := by decide +kernel
theorem d_M_readResolvent_177 : decode b_M_readResolvent 177 = .ok (.aload_n 0, 1) := by decide +kernel
theorem d_M_readResolvent_178 : decode b_M_readResolvent 178 = .ok (.getfield 13, 3) := by decide +kernel
theorem d_M_readResolvent_181 : decode b_M_readResolvent 181 = .ok (.iload_n 2, 1) := by decide +kernel
theorem d_M_readResolvent_182 : decode b_M_readResolvent 182 = .ok (.iaload, 1) := by decide +kernel
theorem d_M_readResolvent_183 : decode b_M_readResolvent 183 = .ok (.iload_n 3, 1) := by decide +kernel
theorem d_M_readResolvent_184 : decode b_M_readResolvent 184 = .ok (.iconst (-1), 1) := by decide +kernel
theorem d_M_readResolvent_185 : decode b_M_readResolvent 185 = .ok (.ixor, 1) := by decide +kernel
theorem d_M_readResolvent_186 : decode b_M_readResolvent 186 = .ok (.iand, 1) := by decide +kernel
theorem d_M_readResolvent_187 : decode b_M_readResolvent 187 = .ok (.ior, 1) := by decide +kernel
theorem d_M_readResolvent_188 : decode b_M_readResolvent 188 = .ok (.istore 5, 2) := by decide +kernel
theorem d_M_readResolvent_190 : decode b_M_readResolvent 190 = .ok (.aload_n 0, 1) := by decide +kernel
theorem d_M_readResolvent_191 : decode b_M_readResolvent 191 = .ok (.iload 4, 2) := by decide +kernel
theorem d_M_readResolvent_193 : decode b_M_readResolvent 193 = .ok (.iload 5, 2) := by decide +kernel
theorem d_M_readResolvent_195 : decode b_M_readResolvent 195 = .ok (.iand, 1) := by decide +kernel
theorem d_M_readResolvent_196 : decode b_M_readResolvent 196 = .ok (.ifCond .ne 7, 3) := by decide +kernel
theorem d_M_readResolvent_199 : decode b_M_readResolvent 199 = .ok (.iconst 1, 1) := by decide +kernel
theorem d_M_readResolvent_200 : decode b_M_readResolvent 200 = .ok (.goto 4, 3) := by decide +kernel
theorem d_M_readResolvent_203 : decode b_M_readResolvent 203 = .ok (.iconst 0, 1) := by decide +kernel
theorem d_M_readResolvent_204 : decode b_M_readResolvent 204 = .ok (.iconst 5, 1) := by decide +kernel
theorem d_M_readResolvent_205 : decode b_M_readResolvent 205 = .ok (.invokevirtual 108, 3) := by decide +kernel
theorem d_M_readResolvent_208 : decode b_M_readResolvent 208 = .ok (.ifCond .ne 4, 3) := by decide +kernel
theorem d_M_readResolvent_211 : decode b_M_readResolvent 211 = .ok (.return_, 1) := by decide +kernel
theorem d_M_readResolvent_212 : decode b_M_readResolvent 212 = .ok (.aload_n 0, 1) := by decide +kernel
theorem d_M_readResolvent_213 : decode b_M_readResolvent 213 = .ok (.getfield 102, 3) := by decide +kernel
theorem d_M_readResolvent_216 : decode b_M_readResolvent 216 = .ok (.istore 6, 2) := by decide +kernel
theorem d_M_readResolvent_218 : decode b_M_readResolvent 218 = .ok (.aload_n 0, 1) := by decide +kernel
theorem d_M_readResolvent_219 : decode b_M_readResolvent 219 = .ok (.invokevirtual 112, 3) := by decide +kernel
theorem d_M_readResolvent_222 : decode b_M_readResolvent 222 = .ok (.aload_n 0, 1) := by decide +kernel
theorem d_M_readResolvent_223 : decode b_M_readResolvent 223 = .ok (.bipush 59, 2) := by decide +kernel
theorem d_M_readResolvent_225 : decode b_M_readResolvent 225 = .ok (.invokevirtual 121, 3) := by decide +kernel
theorem d_M_readResolvent_228 : decode b_M_readResolvent 228 = .ok (.ifCond .eq 16, 3) := by decide +kernel
theorem d_M_readResolvent_231 : decode b_M_readResolvent 231 = .ok (.aload_n 0, 1) := by decide +kernel
theorem d_M_readResolvent_232 : decode b_M_readResolvent 232 = .ok (.iload 4, 2) := by decide +kernel
theorem d_M_readResolvent_234 : decode b_M_readResolvent 234 = .ok (.iload 5, 2) := by decide +kernel
theorem d_M_readResolvent_236 : decode b_M_readResolvent 236 = .ok (.iconst 0, 1) := by decide +kernel
theorem d_M_readResolvent_237 : decode b_M_readResolvent 237 = .ok (.iload_n 1, 1) := by decide +kernel
theorem d_M_readResolvent_238 : decode b_M_readResolvent 238 = .ok (.iload_n 2, 1) := by decide +kernel
theorem d_M_readResolvent_239 : decode b_M_readResolvent 239 = .ok (.iload 6, 2) := by decide +kernel
theorem d_M_readResolvent_241 : decode b_M_readResolvent 241 = .ok (.invokevirtual 124, 3) := by decide +kernel
theorem d_M_readResolvent_244 : decode b_M_readResolvent 244 = .ok (.return_, 1) := by decide +kernel
theorem d_M_fault_0 : decode b_M_fault 0 = .ok (.iload_n 1, 1) := by decide +kernel
theorem d_M_fault_1 : decode b_M_fault 1 = .ok (.ifCond .ne 10, 3) := by decide +kernel
theorem d_M_fault_4 : decode b_M_fault 4 = .ok (.aload_n 0, 1) := by decide +kernel
theorem d_M_fault_5 : decode b_M_fault 5 = .ok (.getfield 105, 3) := by decide +kernel
theorem d_M_fault_8 : decode b_M_fault 8 = .ok (.goto 16, 3) := by decide +kernel
theorem d_M_fault_11 : decode b_M_fault 11 = .ok (.iload_n 1, 1) := by decide +kernel
theorem d_M_fault_12 : decode b_M_fault 12 = .ok (.iconst 1, 1) := by decide +kernel
theorem d_M_fault_13 : decode b_M_fault 13 = .ok (.if_icmp .ne 10, 3) := by decide +kernel
theorem d_M_fault_16 : decode b_M_fault 16 = .ok (.aload_n 0, 1) := by decide +kernel
theorem d_M_fault_17 : decode b_M_fault 17 = .ok (.getfield 46, 3) := by decide +kernel
theorem d_M_fault_20 : decode b_M_fault 20 = .ok (.goto 4, 3) := by decide +kernel
theorem d_M_fault_23 : decode b_M_fault 23 = .ok (.iconst (-1), 1) := by decide +kernel
theorem d_M_fault_24 : decode b_M_fault 24 = .ok (.ireturn, 1) := by decide +kernel
theorem d_M_find_0 : decode b_M_find 0 = .ok (.aload_n 0, 1) := by decide +kernel
theorem d_M_find_1 : decode b_M_find 1 = .ok (.aload_n 0, 1) := by decide +kernel
theorem d_M_find_2 : decode b_M_find 2 = .ok (.invokevirtual 141, 3) := by decide +kernel
theorem d_M_find_5 : decode b_M_find 5 = .ok (.putfield 35, 3) := by decide +kernel
theorem d_M_find_8 : decode b_M_find 8 = .ok (.iconst 0, 1) := by decide +kernel
theorem d_M_find_9 : decode b_M_find 9 = .ok (.istore_n 1, 1) := by decide +kernel
theorem d_M_find_10 : decode b_M_find 10 = .ok (.iload_n 1, 1) := by decide +kernel
theorem d_M_find_11 : decode b_M_find 11 = .ok (.sipush 202, 3) := by decide +kernel
theorem d_M_find_14 : decode b_M_find 14 = .ok (.if_icmp .ge 28, 3) := by decide +kernel
theorem d_M_find_17 : decode b_M_find 17 = .ok (.aload_n 0, 1) := by decide +kernel
theorem d_M_find_18 : decode b_M_find 18 = .ok (.getfield 32, 3) := by decide +kernel
theorem d_M_find_21 : decode b_M_find 21 = .ok (.iload_n 1, 1) := by decide +kernel
theorem d_M_find_22 : decode b_M_find 22 = .ok (.iload_n 1, 1) := by decide +kernel
theorem d_M_find_23 : decode b_M_find 23 = .ok (.aload_n 0, 1) := by decide +kernel
theorem d_M_find_24 : decode b_M_find 24 = .ok (.getfield 35, 3) := by decide +kernel
theorem d_M_find_27 : decode b_M_find 27 = .ok (.if_icmp .ne 7, 3) := by decide +kernel
theorem d_M_find_30 : decode b_M_find 30 = .ok (.iconst 1, 1) := by decide +kernel
theorem d_M_find_31 : decode b_M_find 31 = .ok (.goto 4, 3) := by decide +kernel
theorem d_M_find_34 : decode b_M_find 34 = .ok (.iconst 0, 1) := by decide +kernel
theorem d_M_find_35 : decode b_M_find 35 = .ok (.bastore, 1) := by decide +kernel
theorem d_M_find_36 : decode b_M_find 36 = .ok (.iinc 1 1, 3) := by decide +kernel
theorem d_M_find_39 : decode b_M_find 39 = .ok (.goto (-29), 3) := by decide +kernel
theorem d_M_find_42 : decode b_M_find 42 = .ok (.aload_n 0, 1) := by decide +kernel
theorem d_M_find_43 : decode b_M_find 43 = .ok (.getfield 115, 3) := by decide +kernel
theorem d_M_find_46 : decode b_M_find 46 = .ok (.istore_n 1, 1) := by decide +kernel
theorem d_M_find_47 : decode b_M_find 47 = .ok (.iload_n 1, 1) := by decide +kernel
theorem d_M_find_48 : decode b_M_find 48 = .ok (.ifCond .le 54, 3) := by decide +kernel
theorem d_M_find_51 : decode b_M_find 51 = .ok (.aload_n 0, 1) := by decide +kernel
theorem d_M_find_52 : decode b_M_find 52 = .ok (.getfield 32, 3) := by decide +kernel
theorem d_M_find_55 : decode b_M_find 55 = .ok (.iload_n 1, 1) := by decide +kernel
theorem d_M_find_56 : decode b_M_find 56 = .ok (.baload, 1) := by decide +kernel
theorem d_M_find_57 : decode b_M_find 57 = .ok (.ifCond .eq 39, 3) := by decide +kernel
theorem d_M_find_60 : decode b_M_find 60 = .ok (.aload_n 0, 1) := by decide +kernel
theorem d_M_find_61 : decode b_M_find 61 = .ok (.getfield 16, 3) := by decide +kernel
theorem d_M_find_64 : decode b_M_find 64 = .ok (.iload_n 1, 1) := by decide +kernel
theorem d_M_find_65 : decode b_M_find 65 = .ok (.iaload, 1) := by decide +kernel
theorem d_M_find_66 : decode b_M_find 66 = .ok (.ifCond .le 6, 3) := by decide +kernel
theorem d_M_find_69 : decode b_M_find 69 = .ok (.goto 27, 3) := by decide +kernel
theorem d_M_find_72 : decode b_M_find 72 = .ok (.aload_n 0, 1) := by decide +kernel
theorem d_M_find_73 : decode b_M_find 73 = .ok (.getfield 32, 3) := by decide +kernel
theorem d_M_find_76 : decode b_M_find 76 = .ok (.aload_n 0, 1) := by decide +kernel
theorem d_M_find_77 : decode b_M_find 77 = .ok (.getfield 19, 3) := by decide +kernel
theorem d_M_find_80 : decode b_M_find 80 = .ok (.iload_n 1, 1) := by decide +kernel
theorem d_M_find_81 : decode b_M_find 81 = .ok (.iaload, 1) := by decide +kernel
theorem d_M_find_82 : decode b_M_find 82 = .ok (.iconst 1, 1) := by decide +kernel
theorem d_M_find_83 : decode b_M_find 83 = .ok (.bastore, 1) := by decide +kernel
theorem d_M_find_84 : decode b_M_find 84 = .ok (.aload_n 0, 1) := by decide +kernel
theorem d_M_find_85 : decode b_M_find 85 = .ok (.getfield 32, 3) := by decide +kernel
theorem d_M_find_88 : decode b_M_find 88 = .ok (.aload_n 0, 1) := by decide +kernel
theorem d_M_find_89 : decode b_M_find 89 = .ok (.getfield 22, 3) := by decide +kernel
theorem d_M_find_92 : decode b_M_find 92 = .ok (.iload_n 1, 1) := by decide +kernel
theorem d_M_find_93 : decode b_M_find 93 = .ok (.iaload, 1) := by decide +kernel
theorem d_M_find_94 : decode b_M_find 94 = .ok (.iconst 1, 1) := by decide +kernel
theorem d_M_find_95 : decode b_M_find 95 = .ok (.bastore, 1) := by decide +kernel
theorem d_M_find_96 : decode b_M_find 96 = .ok (.iinc 1 (-1), 3) := by decide +kernel
theorem d_M_find_99 : decode b_M_find 99 = .ok (.goto (-52), 3) := by decide +kernel
theorem d_M_find_102 : decode b_M_find 102 = .ok (.return_, 1) := by decide +kernel
theorem d_M_clause_0 : decode b_M_clause 0 = .ok (.iload_n 1, 1) := by decide +kernel
theorem d_M_clause_1 : decode b_M_clause 1 = .ok (.iconst 1, 1) := by decide +kernel
theorem d_M_clause_2 : decode b_M_clause 2 = .ok (.aload_n 0, 1) := by decide +kernel
theorem d_M_clause_3 : decode b_M_clause 3 = .ok (.getfield 115, 3) := by decide +kernel
theorem d_M_clause_6 : decode b_M_clause 6 = .ok (.invokestatic 144, 3) := by decide +kernel
theorem d_M_clause_9 : decode b_M_clause 9 = .ok (.ifCond .ne 5, 3) := by decide +kernel
theorem d_M_clause_12 : decode b_M_clause 12 = .ok (.iconst (-1), 1) := by decide +kernel
theorem d_M_clause_13 : decode b_M_clause 13 = .ok (.ireturn, 1) := by decide +kernel
theorem d_M_clause_14 : decode b_M_clause 14 = .ok (.iload_n 2, 1) := by decide +kernel
theorem d_M_clause_15 : decode b_M_clause 15 = .ok (.tableswitch 105 0 6 #[41, 48, 55, 62, 69, 83, 90], 41) := by decide +kernel
theorem d_M_clause_56 : decode b_M_clause 56 = .ok (.aload_n 0, 1) := by decide +kernel
theorem d_M_clause_57 : decode b_M_clause 57 = .ok (.getfield 16, 3) := by decide +kernel
theorem d_M_clause_60 : decode b_M_clause 60 = .ok (.iload_n 1, 1) := by decide +kernel
theorem d_M_clause_61 : decode b_M_clause 61 = .ok (.iaload, 1) := by decide +kernel
theorem d_M_clause_62 : decode b_M_clause 62 = .ok (.ireturn, 1) := by decide +kernel
theorem d_M_clause_63 : decode b_M_clause 63 = .ok (.aload_n 0, 1) := by decide +kernel
theorem d_M_clause_64 : decode b_M_clause 64 = .ok (.getfield 19, 3) := by decide +kernel
theorem d_M_clause_67 : decode b_M_clause 67 = .ok (.iload_n 1, 1) := by decide +kernel
theorem d_M_clause_68 : decode b_M_clause 68 = .ok (.iaload, 1) := by decide +kernel
theorem d_M_clause_69 : decode b_M_clause 69 = .ok (.ireturn, 1) := by decide +kernel
theorem d_M_clause_70 : decode b_M_clause 70 = .ok (.aload_n 0, 1) := by decide +kernel
theorem d_M_clause_71 : decode b_M_clause 71 = .ok (.getfield 22, 3) := by decide +kernel
theorem d_M_clause_74 : decode b_M_clause 74 = .ok (.iload_n 1, 1) := by decide +kernel
theorem d_M_clause_75 : decode b_M_clause 75 = .ok (.iaload, 1) := by decide +kernel
theorem d_M_clause_76 : decode b_M_clause 76 = .ok (.ireturn, 1) := by decide +kernel
theorem d_M_clause_77 : decode b_M_clause 77 = .ok (.aload_n 0, 1) := by decide +kernel
theorem d_M_clause_78 : decode b_M_clause 78 = .ok (.getfield 25, 3) := by decide +kernel
theorem d_M_clause_81 : decode b_M_clause 81 = .ok (.iload_n 1, 1) := by decide +kernel
theorem d_M_clause_82 : decode b_M_clause 82 = .ok (.iaload, 1) := by decide +kernel
theorem d_M_clause_83 : decode b_M_clause 83 = .ok (.ireturn, 1) := by decide +kernel
theorem d_M_clause_84 : decode b_M_clause 84 = .ok (.aload_n 0, 1) := by decide +kernel
theorem d_M_clause_85 : decode b_M_clause 85 = .ok (.getfield 7, 3) := by decide +kernel
theorem d_M_clause_88 : decode b_M_clause 88 = .ok (.iload_n 1, 1) := by decide +kernel
theorem d_M_clause_89 : decode b_M_clause 89 = .ok (.iaload, 1) := by decide +kernel
theorem d_M_clause_90 : decode b_M_clause 90 = .ok (.aload_n 0, 1) := by decide +kernel
theorem d_M_clause_91 : decode b_M_clause 91 = .ok (.getfield 13, 3) := by decide +kernel
theorem d_M_clause_94 : decode b_M_clause 94 = .ok (.iload_n 1, 1) := by decide +kernel
theorem d_M_clause_95 : decode b_M_clause 95 = .ok (.iaload, 1) := by decide +kernel
theorem d_M_clause_96 : decode b_M_clause 96 = .ok (.ior, 1) := by decide +kernel
theorem d_M_clause_97 : decode b_M_clause 97 = .ok (.ireturn, 1) := by decide +kernel
theorem d_M_clause_98 : decode b_M_clause 98 = .ok (.aload_n 0, 1) := by decide +kernel
theorem d_M_clause_99 : decode b_M_clause 99 = .ok (.getfield 13, 3) := by decide +kernel
theorem d_M_clause_102 : decode b_M_clause 102 = .ok (.iload_n 1, 1) := by decide +kernel
theorem d_M_clause_103 : decode b_M_clause 103 = .ok (.iaload, 1) := by decide +kernel
theorem d_M_clause_104 : decode b_M_clause 104 = .ok (.ireturn, 1) := by decide +kernel
theorem d_M_clause_105 : decode b_M_clause 105 = .ok (.aload_n 0, 1) := by decide +kernel
theorem d_M_clause_106 : decode b_M_clause 106 = .ok (.getfield 32, 3) := by decide +kernel
theorem d_M_clause_109 : decode b_M_clause 109 = .ok (.iload_n 1, 1) := by decide +kernel
theorem d_M_clause_110 : decode b_M_clause 110 = .ok (.baload, 1) := by decide +kernel
theorem d_M_clause_111 : decode b_M_clause 111 = .ok (.ifCond .eq 7, 3) := by decide +kernel
theorem d_M_clause_114 : decode b_M_clause 114 = .ok (.iconst 1, 1) := by decide +kernel
theorem d_M_clause_115 : decode b_M_clause 115 = .ok (.goto 4, 3) := by decide +kernel
theorem d_M_clause_118 : decode b_M_clause 118 = .ok (.iconst 0, 1) := by decide +kernel
theorem d_M_clause_119 : decode b_M_clause 119 = .ok (.ireturn, 1) := by decide +kernel
theorem d_M_clause_120 : decode b_M_clause 120 = .ok (.iconst (-1), 1) := by decide +kernel
theorem d_M_clause_121 : decode b_M_clause 121 = .ok (.ireturn, 1) := by decide +kernel
theorem d_M_isThere_0 : decode b_M_isThere 0 = .ok (.iconst 1, 1) := by decide +kernel
theorem d_M_isThere_1 : decode b_M_isThere 1 = .ok (.istore_n 3, 1) := by decide +kernel
theorem d_M_isThere_2 : decode b_M_isThere 2 = .ok (.iload_n 3, 1) := by decide +kernel
theorem d_M_isThere_3 : decode b_M_isThere 3 = .ok (.aload_n 0, 1) := by decide +kernel
theorem d_M_isThere_4 : decode b_M_isThere 4 = .ok (.getfield 115, 3) := by decide +kernel
theorem d_M_isThere_7 : decode b_M_isThere 7 = .ok (.if_icmp .gt 31, 3) := by decide +kernel
theorem d_M_isThere_10 : decode b_M_isThere 10 = .ok (.aload_n 0, 1) := by decide +kernel
theorem d_M_isThere_11 : decode b_M_isThere 11 = .ok (.getfield 7, 3) := by decide +kernel
theorem d_M_isThere_14 : decode b_M_isThere 14 = .ok (.iload_n 3, 1) := by decide +kernel
theorem d_M_isThere_15 : decode b_M_isThere 15 = .ok (.iaload, 1) := by decide +kernel
theorem d_M_isThere_16 : decode b_M_isThere 16 = .ok (.iload_n 1, 1) := by decide +kernel
theorem d_M_isThere_17 : decode b_M_isThere 17 = .ok (.if_icmp .ne 15, 3) := by decide +kernel
theorem d_M_isThere_20 : decode b_M_isThere 20 = .ok (.aload_n 0, 1) := by decide +kernel
theorem d_M_isThere_21 : decode b_M_isThere 21 = .ok (.getfield 13, 3) := by decide +kernel
theorem d_M_isThere_24 : decode b_M_isThere 24 = .ok (.iload_n 3, 1) := by decide +kernel
theorem d_M_isThere_25 : decode b_M_isThere 25 = .ok (.iaload, 1) := by decide +kernel
theorem d_M_isThere_26 : decode b_M_isThere 26 = .ok (.iload_n 2, 1) := by decide +kernel
theorem d_M_isThere_27 : decode b_M_isThere 27 = .ok (.if_icmp .ne 5, 3) := by decide +kernel
theorem d_M_isThere_30 : decode b_M_isThere 30 = .ok (.iconst 1, 1) := by decide +kernel
theorem d_M_isThere_31 : decode b_M_isThere 31 = .ok (.ireturn, 1) := by decide +kernel
theorem d_M_isThere_32 : decode b_M_isThere 32 = .ok (.iinc 3 1, 3) := by decide +kernel
theorem d_M_isThere_35 : decode b_M_isThere 35 = .ok (.goto (-33), 3) := by decide +kernel
theorem d_M_isThere_38 : decode b_M_isThere 38 = .ok (.iconst 0, 1) := by decide +kernel
theorem d_M_isThere_39 : decode b_M_isThere 39 = .ok (.ireturn, 1) := by decide +kernel
theorem d_M_label_0 : decode b_M_label 0 = .ok (.iload_n 1, 1) := by decide +kernel
theorem d_M_label_1 : decode b_M_label 1 = .ok (.iconst 1, 1) := by decide +kernel
theorem d_M_label_2 : decode b_M_label 2 = .ok (.bipush 10, 2) := by decide +kernel
theorem d_M_label_4 : decode b_M_label 4 = .ok (.invokestatic 144, 3) := by decide +kernel
theorem d_M_label_7 : decode b_M_label 7 = .ok (.ifCond .eq 12, 3) := by decide +kernel
theorem d_M_label_10 : decode b_M_label 10 = .ok (.iload_n 2, 1) := by decide +kernel
theorem d_M_label_11 : decode b_M_label 11 = .ok (.iconst 1, 1) := by decide +kernel
theorem d_M_label_12 : decode b_M_label 12 = .ok (.iconst 3, 1) := by decide +kernel
theorem d_M_label_13 : decode b_M_label 13 = .ok (.invokestatic 144, 3) := by decide +kernel
theorem d_M_label_16 : decode b_M_label 16 = .ok (.ifCond .ne 6, 3) := by decide +kernel
theorem d_M_label_19 : decode b_M_label 19 = .ok (.bipush (-2), 2) := by decide +kernel
theorem d_M_label_21 : decode b_M_label 21 = .ok (.ireturn, 1) := by decide +kernel
theorem d_M_label_22 : decode b_M_label 22 = .ok (.aload_n 0, 1) := by decide +kernel
theorem d_M_label_23 : decode b_M_label 23 = .ok (.getfield 39, 3) := by decide +kernel
theorem d_M_label_26 : decode b_M_label 26 = .ok (.iload_n 1, 1) := by decide +kernel
theorem d_M_label_27 : decode b_M_label 27 = .ok (.iaload, 1) := by decide +kernel
theorem d_M_label_28 : decode b_M_label 28 = .ok (.ifCond .ne 7, 3) := by decide +kernel
theorem d_M_label_31 : decode b_M_label 31 = .ok (.iconst 2, 1) := by decide +kernel
theorem d_M_label_32 : decode b_M_label 32 = .ok (.goto 9, 3) := by decide +kernel
theorem d_M_label_35 : decode b_M_label 35 = .ok (.aload_n 0, 1) := by decide +kernel
theorem d_M_label_36 : decode b_M_label 36 = .ok (.getfield 39, 3) := by decide +kernel
theorem d_M_label_39 : decode b_M_label 39 = .ok (.iload_n 1, 1) := by decide +kernel
theorem d_M_label_40 : decode b_M_label 40 = .ok (.iaload, 1) := by decide +kernel
theorem d_M_label_41 : decode b_M_label 41 = .ok (.istore_n 3, 1) := by decide +kernel
theorem d_M_label_42 : decode b_M_label 42 = .ok (.aload_n 0, 1) := by decide +kernel
theorem d_M_label_43 : decode b_M_label 43 = .ok (.getfield 39, 3) := by decide +kernel
theorem d_M_label_46 : decode b_M_label 46 = .ok (.iload_n 1, 1) := by decide +kernel
theorem d_M_label_47 : decode b_M_label 47 = .ok (.iload_n 2, 1) := by decide +kernel
theorem d_M_label_48 : decode b_M_label 48 = .ok (.iastore, 1) := by decide +kernel
theorem d_M_label_49 : decode b_M_label 49 = .ok (.iload_n 3, 1) := by decide +kernel
theorem d_M_label_50 : decode b_M_label 50 = .ok (.ireturn, 1) := by decide +kernel
theorem d_M_variables_0 : decode b_M_variables 0 = .ok (.iload_n 1, 1) := by decide +kernel
theorem d_M_variables_1 : decode b_M_variables 1 = .ok (.iconst 1, 1) := by decide +kernel
theorem d_M_variables_2 : decode b_M_variables 2 = .ok (.bipush 7, 2) := by decide +kernel
theorem d_M_variables_4 : decode b_M_variables 4 = .ok (.invokestatic 144, 3) := by decide +kernel
theorem d_M_variables_7 : decode b_M_variables 7 = .ok (.ifCond .ne 6, 3) := by decide +kernel
theorem d_M_variables_10 : decode b_M_variables 10 = .ok (.bipush (-2), 2) := by decide +kernel
theorem d_M_variables_12 : decode b_M_variables 12 = .ok (.ireturn, 1) := by decide +kernel
theorem d_M_variables_13 : decode b_M_variables 13 = .ok (.aload_n 0, 1) := by decide +kernel
theorem d_M_variables_14 : decode b_M_variables 14 = .ok (.iconst 0, 1) := by decide +kernel
theorem d_M_variables_15 : decode b_M_variables 15 = .ok (.iload_n 1, 1) := by decide +kernel
theorem d_M_variables_16 : decode b_M_variables 16 = .ok (.invokevirtual 152, 3) := by decide +kernel
theorem d_M_variables_19 : decode b_M_variables 19 = .ok (.istore_n 3, 1) := by decide +kernel
theorem d_M_variables_20 : decode b_M_variables 20 = .ok (.aload_n 0, 1) := by decide +kernel
theorem d_M_variables_21 : decode b_M_variables 21 = .ok (.iconst 1, 1) := by decide +kernel
theorem d_M_variables_22 : decode b_M_variables 22 = .ok (.iload_n 1, 1) := by decide +kernel
theorem d_M_variables_23 : decode b_M_variables 23 = .ok (.invokevirtual 152, 3) := by decide +kernel
theorem d_M_variables_26 : decode b_M_variables 26 = .ok (.istore 4, 2) := by decide +kernel
theorem d_M_variables_28 : decode b_M_variables 28 = .ok (.iload_n 2, 1) := by decide +kernel
theorem d_M_variables_29 : decode b_M_variables 29 = .ok (.ifCond .ne 7, 3) := by decide +kernel
theorem d_M_variables_32 : decode b_M_variables 32 = .ok (.iload_n 3, 1) := by decide +kernel
theorem d_M_variables_33 : decode b_M_variables 33 = .ok (.goto 26, 3) := by decide +kernel
theorem d_M_variables_36 : decode b_M_variables 36 = .ok (.iload_n 2, 1) := by decide +kernel
theorem d_M_variables_37 : decode b_M_variables 37 = .ok (.iconst 1, 1) := by decide +kernel
theorem d_M_variables_38 : decode b_M_variables 38 = .ok (.if_icmp .ne 8, 3) := by decide +kernel
theorem d_M_variables_41 : decode b_M_variables 41 = .ok (.iload 4, 2) := by decide +kernel
theorem d_M_variables_43 : decode b_M_variables 43 = .ok (.goto 16, 3) := by decide +kernel
theorem d_M_variables_46 : decode b_M_variables 46 = .ok (.iload_n 2, 1) := by decide +kernel
theorem d_M_variables_47 : decode b_M_variables 47 = .ok (.iconst 2, 1) := by decide +kernel
theorem d_M_variables_48 : decode b_M_variables 48 = .ok (.if_icmp .ne 10, 3) := by decide +kernel
theorem d_M_variables_51 : decode b_M_variables 51 = .ok (.iload_n 3, 1) := by decide +kernel
theorem d_M_variables_52 : decode b_M_variables 52 = .ok (.iload 4, 2) := by decide +kernel
theorem d_M_variables_54 : decode b_M_variables 54 = .ok (.iand, 1) := by decide +kernel
theorem d_M_variables_55 : decode b_M_variables 55 = .ok (.goto 4, 3) := by decide +kernel
theorem d_M_variables_58 : decode b_M_variables 58 = .ok (.iconst (-1), 1) := by decide +kernel
theorem d_M_variables_59 : decode b_M_variables 59 = .ok (.ireturn, 1) := by decide +kernel
theorem d_M_labelOf_0 : decode b_M_labelOf 0 = .ok (.iconst 1, 1) := by decide +kernel
theorem d_M_labelOf_1 : decode b_M_labelOf 1 = .ok (.iload_n 1, 1) := by decide +kernel
theorem d_M_labelOf_2 : decode b_M_labelOf 2 = .ok (.iconst 1, 1) := by decide +kernel
theorem d_M_labelOf_3 : decode b_M_labelOf 3 = .ok (.isub, 1) := by decide +kernel
theorem d_M_labelOf_4 : decode b_M_labelOf 4 = .ok (.ishl, 1) := by decide +kernel
theorem d_M_labelOf_5 : decode b_M_labelOf 5 = .ok (.istore 5, 2) := by decide +kernel
theorem d_M_labelOf_7 : decode b_M_labelOf 7 = .ok (.iload_n 3, 1) := by decide +kernel
theorem d_M_labelOf_8 : decode b_M_labelOf 8 = .ok (.iload 5, 2) := by decide +kernel
theorem d_M_labelOf_10 : decode b_M_labelOf 10 = .ok (.iand, 1) := by decide +kernel
theorem d_M_labelOf_11 : decode b_M_labelOf 11 = .ok (.ifCond .ne 5, 3) := by decide +kernel
theorem d_M_labelOf_14 : decode b_M_labelOf 14 = .ok (.iconst 1, 1) := by decide +kernel
theorem d_M_labelOf_15 : decode b_M_labelOf 15 = .ok (.ireturn, 1) := by decide +kernel
theorem d_M_labelOf_16 : decode b_M_labelOf 16 = .ok (.iload_n 2, 1) := by decide +kernel
theorem d_M_labelOf_17 : decode b_M_labelOf 17 = .ok (.iload 5, 2) := by decide +kernel
theorem d_M_labelOf_19 : decode b_M_labelOf 19 = .ok (.iand, 1) := by decide +kernel
theorem d_M_labelOf_20 : decode b_M_labelOf 20 = .ok (.ifCond .ne 5, 3) := by decide +kernel
theorem d_M_labelOf_23 : decode b_M_labelOf 23 = .ok (.iconst 2, 1) := by decide +kernel
theorem d_M_labelOf_24 : decode b_M_labelOf 24 = .ok (.ireturn, 1) := by decide +kernel
theorem d_M_labelOf_25 : decode b_M_labelOf 25 = .ok (.iload 4, 2) := by decide +kernel
theorem d_M_labelOf_27 : decode b_M_labelOf 27 = .ok (.ifCond .ne 7, 3) := by decide +kernel
theorem d_M_labelOf_30 : decode b_M_labelOf 30 = .ok (.iconst 2, 1) := by decide +kernel
theorem d_M_labelOf_31 : decode b_M_labelOf 31 = .ok (.goto 42, 3) := by decide +kernel
theorem d_M_labelOf_34 : decode b_M_labelOf 34 = .ok (.iload 4, 2) := by decide +kernel
theorem d_M_labelOf_36 : decode b_M_labelOf 36 = .ok (.iconst 1, 1) := by decide +kernel
theorem d_M_labelOf_37 : decode b_M_labelOf 37 = .ok (.if_icmp .ne 7, 3) := by decide +kernel
theorem d_M_labelOf_40 : decode b_M_labelOf 40 = .ok (.iconst 3, 1) := by decide +kernel
theorem d_M_labelOf_41 : decode b_M_labelOf 41 = .ok (.goto 32, 3) := by decide +kernel
theorem d_M_labelOf_44 : decode b_M_labelOf 44 = .ok (.iload 4, 2) := by decide +kernel
theorem d_M_labelOf_46 : decode b_M_labelOf 46 = .ok (.iconst 2, 1) := by decide +kernel
theorem d_M_labelOf_47 : decode b_M_labelOf 47 = .ok (.if_icmp .ne 7, 3) := by decide +kernel
theorem d_M_labelOf_50 : decode b_M_labelOf 50 = .ok (.iconst 1, 1) := by decide +kernel
theorem d_M_labelOf_51 : decode b_M_labelOf 51 = .ok (.goto 22, 3) := by decide +kernel
theorem d_M_labelOf_54 : decode b_M_labelOf 54 = .ok (.aload_n 0, 1) := by decide +kernel
theorem d_M_labelOf_55 : decode b_M_labelOf 55 = .ok (.getfield 39, 3) := by decide +kernel
theorem d_M_labelOf_58 : decode b_M_labelOf 58 = .ok (.iload_n 1, 1) := by decide +kernel
theorem d_M_labelOf_59 : decode b_M_labelOf 59 = .ok (.iaload, 1) := by decide +kernel
theorem d_M_labelOf_60 : decode b_M_labelOf 60 = .ok (.ifCond .ne 7, 3) := by decide +kernel
theorem d_M_labelOf_63 : decode b_M_labelOf 63 = .ok (.iconst 2, 1) := by decide +kernel
theorem d_M_labelOf_64 : decode b_M_labelOf 64 = .ok (.goto 9, 3) := by decide +kernel
theorem d_M_labelOf_67 : decode b_M_labelOf 67 = .ok (.aload_n 0, 1) := by decide +kernel
theorem d_M_labelOf_68 : decode b_M_labelOf 68 = .ok (.getfield 39, 3) := by decide +kernel
theorem d_M_labelOf_71 : decode b_M_labelOf 71 = .ok (.iload_n 1, 1) := by decide +kernel
theorem d_M_labelOf_72 : decode b_M_labelOf 72 = .ok (.iaload, 1) := by decide +kernel
theorem d_M_labelOf_73 : decode b_M_labelOf 73 = .ok (.ireturn, 1) := by decide +kernel
theorem d_M_partials_0 : decode b_M_partials 0 = .ok (.aload_n 0, 1) := by decide +kernel
theorem d_M_partials_1 : decode b_M_partials 1 = .ok (.iconst 0, 1) := by decide +kernel
theorem d_M_partials_2 : decode b_M_partials 2 = .ok (.iload_n 1, 1) := by decide +kernel
theorem d_M_partials_3 : decode b_M_partials 3 = .ok (.invokevirtual 152, 3) := by decide +kernel
theorem d_M_partials_6 : decode b_M_partials 6 = .ok (.istore_n 3, 1) := by decide +kernel
theorem d_M_partials_7 : decode b_M_partials 7 = .ok (.aload_n 0, 1) := by decide +kernel
theorem d_M_partials_8 : decode b_M_partials 8 = .ok (.iconst 1, 1) := by decide +kernel
theorem d_M_partials_9 : decode b_M_partials 9 = .ok (.iload_n 1, 1) := by decide +kernel
theorem d_M_partials_10 : decode b_M_partials 10 = .ok (.invokevirtual 152, 3) := by decide +kernel
theorem d_M_partials_13 : decode b_M_partials 13 = .ok (.istore 4, 2) := by decide +kernel
theorem d_M_partials_15 : decode b_M_partials 15 = .ok (.iconst 1, 1) := by decide +kernel
theorem d_M_partials_16 : decode b_M_partials 16 = .ok (.istore 5, 2) := by decide +kernel
theorem d_M_partials_18 : decode b_M_partials 18 = .ok (.iload 5, 2) := by decide +kernel
theorem d_M_partials_20 : decode b_M_partials 20 = .ok (.aload_n 0, 1) := by decide +kernel
theorem d_M_partials_21 : decode b_M_partials 21 = .ok (.getfield 115, 3) := by decide +kernel
theorem d_M_partials_24 : decode b_M_partials 24 = .ok (.if_icmp .gt 228, 3) := by decide +kernel
theorem d_M_partials_27 : decode b_M_partials 27 = .ok (.aload_n 0, 1) := by decide +kernel
theorem d_M_partials_28 : decode b_M_partials 28 = .ok (.getfield 32, 3) := by decide +kernel
theorem d_M_partials_31 : decode b_M_partials 31 = .ok (.iload 5, 2) := by decide +kernel
theorem d_M_partials_33 : decode b_M_partials 33 = .ok (.baload, 1) := by decide +kernel
theorem d_M_partials_34 : decode b_M_partials 34 = .ok (.ifCond .ne 6, 3) := by decide +kernel
theorem d_M_partials_37 : decode b_M_partials 37 = .ok (.goto 209, 3) := by decide +kernel
theorem d_M_partials_40 : decode b_M_partials 40 = .ok (.iconst 0, 1) := by decide +kernel
theorem d_M_partials_41 : decode b_M_partials 41 = .ok (.istore 6, 2) := by decide +kernel
theorem d_M_partials_43 : decode b_M_partials 43 = .ok (.iload 6, 2) := by decide +kernel
theorem d_M_partials_45 : decode b_M_partials 45 = .ok (.bipush 16, 2) := by decide +kernel
theorem d_M_partials_47 : decode b_M_partials 47 = .ok (.if_icmp .ge 199, 3) := by decide +kernel
theorem d_M_partials_50 : decode b_M_partials 50 = .ok (.aload_n 0, 1) := by decide +kernel
theorem d_M_partials_51 : decode b_M_partials 51 = .ok (.getfield 16, 3) := by decide +kernel
theorem d_M_partials_54 : decode b_M_partials 54 = .ok (.iload 5, 2) := by decide +kernel
theorem d_M_partials_56 : decode b_M_partials 56 = .ok (.iaload, 1) := by decide +kernel
theorem d_M_partials_57 : decode b_M_partials 57 = .ok (.ifCond .le 52, 3) := by decide +kernel
theorem d_M_partials_60 : decode b_M_partials 60 = .ok (.aload_n 0, 1) := by decide +kernel
theorem d_M_partials_61 : decode b_M_partials 61 = .ok (.getfield 16, 3) := by decide +kernel
theorem d_M_partials_64 : decode b_M_partials 64 = .ok (.iload 5, 2) := by decide +kernel
theorem d_M_partials_66 : decode b_M_partials 66 = .ok (.iaload, 1) := by decide +kernel
theorem d_M_partials_67 : decode b_M_partials 67 = .ok (.iload_n 1, 1) := by decide +kernel
theorem d_M_partials_68 : decode b_M_partials 68 = .ok (.if_icmp .gt 19, 3) := by decide +kernel
theorem d_M_partials_71 : decode b_M_partials 71 = .ok (.aload_n 0, 1) := by decide +kernel
theorem d_M_partials_72 : decode b_M_partials 72 = .ok (.iload 5, 2) := by decide +kernel
theorem d_M_partials_74 : decode b_M_partials 74 = .ok (.iload 6, 2) := by decide +kernel
theorem d_M_partials_76 : decode b_M_partials 76 = .ok (.iconst 2, 1) := by decide +kernel
theorem d_M_partials_77 : decode b_M_partials 77 = .ok (.iload_n 3, 1) := by decide +kernel
theorem d_M_partials_78 : decode b_M_partials 78 = .ok (.iload 4, 2) := by decide +kernel
theorem d_M_partials_80 : decode b_M_partials 80 = .ok (.iload_n 2, 1) := by decide +kernel
theorem d_M_partials_81 : decode b_M_partials 81 = .ok (.invokevirtual 178, 3) := by decide +kernel
theorem d_M_partials_84 : decode b_M_partials 84 = .ok (.goto 20, 3) := by decide +kernel
theorem d_M_partials_87 : decode b_M_partials 87 = .ok (.aload_n 0, 1) := by decide +kernel
theorem d_M_partials_88 : decode b_M_partials 88 = .ok (.iload 5, 2) := by decide +kernel
theorem d_M_partials_90 : decode b_M_partials 90 = .ok (.iload 6, 2) := by decide +kernel
theorem d_M_partials_92 : decode b_M_partials 92 = .ok (.iconst 1, 1) := by decide +kernel
theorem d_M_partials_93 : decode b_M_partials 93 = .ok (.iload_n 3, 1) := by decide +kernel
theorem d_M_partials_94 : decode b_M_partials 94 = .ok (.iload 4, 2) := by decide +kernel
theorem d_M_partials_96 : decode b_M_partials 96 = .ok (.iload_n 2, 1) := by decide +kernel
theorem d_M_partials_97 : decode b_M_partials 97 = .ok (.invokevirtual 178, 3) := by decide +kernel
theorem d_M_partials_100 : decode b_M_partials 100 = .ok (.ldc2_w 168, 3) := by decide +kernel
theorem d_M_partials_103 : decode b_M_partials 103 = .ok (.lxor, 1) := by decide +kernel
theorem d_M_partials_104 : decode b_M_partials 104 = .ok (.lstore 7, 2) := by decide +kernel
theorem d_M_partials_106 : decode b_M_partials 106 = .ok (.goto 119, 3) := by decide +kernel
theorem d_M_partials_109 : decode b_M_partials 109 = .ok (.aload_n 0, 1) := by decide +kernel
theorem d_M_partials_110 : decode b_M_partials 110 = .ok (.aload_n 0, 1) := by decide +kernel
theorem d_M_partials_111 : decode b_M_partials 111 = .ok (.getfield 25, 3) := by decide +kernel
theorem d_M_partials_114 : decode b_M_partials 114 = .ok (.iload 5, 2) := by decide +kernel
theorem d_M_partials_116 : decode b_M_partials 116 = .ok (.iaload, 1) := by decide +kernel
theorem d_M_partials_117 : decode b_M_partials 117 = .ok (.iload_n 3, 1) := by decide +kernel
theorem d_M_partials_118 : decode b_M_partials 118 = .ok (.iload 4, 2) := by decide +kernel
theorem d_M_partials_120 : decode b_M_partials 120 = .ok (.iload_n 2, 1) := by decide +kernel
theorem d_M_partials_121 : decode b_M_partials 121 = .ok (.invokevirtual 170, 3) := by decide +kernel
theorem d_M_partials_124 : decode b_M_partials 124 = .ok (.istore 9, 2) := by decide +kernel
theorem d_M_partials_126 : decode b_M_partials 126 = .ok (.aload_n 0, 1) := by decide +kernel
theorem d_M_partials_127 : decode b_M_partials 127 = .ok (.getfield 49, 3) := by decide +kernel
theorem d_M_partials_130 : decode b_M_partials 130 = .ok (.bipush 16, 2) := by decide +kernel
theorem d_M_partials_132 : decode b_M_partials 132 = .ok (.aload_n 0, 1) := by decide +kernel
theorem d_M_partials_133 : decode b_M_partials 133 = .ok (.getfield 19, 3) := by decide +kernel
theorem d_M_partials_136 : decode b_M_partials 136 = .ok (.iload 5, 2) := by decide +kernel
theorem d_M_partials_138 : decode b_M_partials 138 = .ok (.iaload, 1) := by decide +kernel
theorem d_M_partials_139 : decode b_M_partials 139 = .ok (.imul, 1) := by decide +kernel
theorem d_M_partials_140 : decode b_M_partials 140 = .ok (.iload 6, 2) := by decide +kernel
theorem d_M_partials_142 : decode b_M_partials 142 = .ok (.iadd, 1) := by decide +kernel
theorem d_M_partials_143 : decode b_M_partials 143 = .ok (.laload, 1) := by decide +kernel
theorem d_M_partials_144 : decode b_M_partials 144 = .ok (.lstore 10, 2) := by decide +kernel
theorem d_M_partials_146 : decode b_M_partials 146 = .ok (.aload_n 0, 1) := by decide +kernel
theorem d_M_partials_147 : decode b_M_partials 147 = .ok (.getfield 49, 3) := by decide +kernel
theorem d_M_partials_150 : decode b_M_partials 150 = .ok (.bipush 16, 2) := by decide +kernel
theorem d_M_partials_152 : decode b_M_partials 152 = .ok (.aload_n 0, 1) := by decide +kernel
theorem d_M_partials_153 : decode b_M_partials 153 = .ok (.getfield 22, 3) := by decide +kernel
theorem d_M_partials_156 : decode b_M_partials 156 = .ok (.iload 5, 2) := by decide +kernel
theorem d_M_partials_158 : decode b_M_partials 158 = .ok (.iaload, 1) := by decide +kernel
theorem d_M_partials_159 : decode b_M_partials 159 = .ok (.imul, 1) := by decide +kernel
theorem d_M_partials_160 : decode b_M_partials 160 = .ok (.iload 6, 2) := by decide +kernel
theorem d_M_partials_162 : decode b_M_partials 162 = .ok (.iadd, 1) := by decide +kernel
theorem d_M_partials_163 : decode b_M_partials 163 = .ok (.laload, 1) := by decide +kernel
theorem d_M_partials_164 : decode b_M_partials 164 = .ok (.lstore 12, 2) := by decide +kernel
theorem d_M_partials_166 : decode b_M_partials 166 = .ok (.aload_n 0, 1) := by decide +kernel
theorem d_M_partials_167 : decode b_M_partials 167 = .ok (.getfield 25, 3) := by decide +kernel
theorem d_M_partials_170 : decode b_M_partials 170 = .ok (.iload 5, 2) := by decide +kernel
theorem d_M_partials_172 : decode b_M_partials 172 = .ok (.iaload, 1) := by decide +kernel
theorem d_M_partials_173 : decode b_M_partials 173 = .ok (.iload 6, 2) := by decide +kernel
theorem d_M_partials_175 : decode b_M_partials 175 = .ok (.invokestatic 174, 3) := by decide +kernel
theorem d_M_partials_178 : decode b_M_partials 178 = .ok (.lstore 14, 2) := by decide +kernel
theorem d_M_partials_180 : decode b_M_partials 180 = .ok (.iload 9, 2) := by decide +kernel
theorem d_M_partials_182 : decode b_M_partials 182 = .ok (.iconst 1, 1) := by decide +kernel
theorem d_M_partials_183 : decode b_M_partials 183 = .ok (.if_icmp .ne 11, 3) := by decide +kernel
theorem d_M_partials_186 : decode b_M_partials 186 = .ok (.lload 10, 2) := by decide +kernel
theorem d_M_partials_188 : decode b_M_partials 188 = .ok (.lload 12, 2) := by decide +kernel
theorem d_M_partials_190 : decode b_M_partials 190 = .ok (.lor, 1) := by decide +kernel
theorem d_M_partials_191 : decode b_M_partials 191 = .ok (.goto 32, 3) := by decide +kernel
theorem d_M_partials_194 : decode b_M_partials 194 = .ok (.iload 9, 2) := by decide +kernel
theorem d_M_partials_196 : decode b_M_partials 196 = .ok (.iconst 2, 1) := by decide +kernel
theorem d_M_partials_197 : decode b_M_partials 197 = .ok (.if_icmp .ne 11, 3) := by decide +kernel
theorem d_M_partials_200 : decode b_M_partials 200 = .ok (.lload 10, 2) := by decide +kernel
theorem d_M_partials_202 : decode b_M_partials 202 = .ok (.lload 12, 2) := by decide +kernel
theorem d_M_partials_204 : decode b_M_partials 204 = .ok (.land, 1) := by decide +kernel
theorem d_M_partials_205 : decode b_M_partials 205 = .ok (.goto 18, 3) := by decide +kernel
theorem d_M_partials_208 : decode b_M_partials 208 = .ok (.lload 14, 2) := by decide +kernel
theorem d_M_partials_210 : decode b_M_partials 210 = .ok (.lload 10, 2) := by decide +kernel
theorem d_M_partials_212 : decode b_M_partials 212 = .ok (.lor, 1) := by decide +kernel
theorem d_M_partials_213 : decode b_M_partials 213 = .ok (.lload 14, 2) := by decide +kernel
theorem d_M_partials_215 : decode b_M_partials 215 = .ok (.ldc2_w 168, 3) := by decide +kernel
theorem d_M_partials_218 : decode b_M_partials 218 = .ok (.lxor, 1) := by decide +kernel
theorem d_M_partials_219 : decode b_M_partials 219 = .ok (.lload 12, 2) := by decide +kernel
theorem d_M_partials_221 : decode b_M_partials 221 = .ok (.lor, 1) := by decide +kernel
theorem d_M_partials_222 : decode b_M_partials 222 = .ok (.land, 1) := by decide +kernel
theorem d_M_partials_223 : decode b_M_partials 223 = .ok (.lstore 7, 2) := by decide +kernel
theorem d_M_partials_225 : decode b_M_partials 225 = .ok (.aload_n 0, 1) := by decide +kernel
theorem d_M_partials_226 : decode b_M_partials 226 = .ok (.getfield 49, 3) := by decide +kernel
theorem d_M_partials_229 : decode b_M_partials 229 = .ok (.bipush 16, 2) := by decide +kernel
theorem d_M_partials_231 : decode b_M_partials 231 = .ok (.iload 5, 2) := by decide +kernel
theorem d_M_partials_233 : decode b_M_partials 233 = .ok (.imul, 1) := by decide +kernel
theorem d_M_partials_234 : decode b_M_partials 234 = .ok (.iload 6, 2) := by decide +kernel
theorem d_M_partials_236 : decode b_M_partials 236 = .ok (.iadd, 1) := by decide +kernel
theorem d_M_partials_237 : decode b_M_partials 237 = .ok (.lload 7, 2) := by decide +kernel
theorem d_M_partials_239 : decode b_M_partials 239 = .ok (.lastore, 1) := by decide +kernel
theorem d_M_partials_240 : decode b_M_partials 240 = .ok (.iinc 6 1, 3) := by decide +kernel
theorem d_M_partials_243 : decode b_M_partials 243 = .ok (.goto (-200), 3) := by decide +kernel
theorem d_M_partials_246 : decode b_M_partials 246 = .ok (.iinc 5 1, 3) := by decide +kernel
theorem d_M_partials_249 : decode b_M_partials 249 = .ok (.goto (-231), 3) := by decide +kernel
theorem d_M_partials_252 : decode b_M_partials 252 = .ok (.return_, 1) := by decide +kernel
theorem d_M_leastVariable_0 : decode b_M_leastVariable 0 = .ok (.iconst 1, 1) := by decide +kernel
theorem d_M_leastVariable_1 : decode b_M_leastVariable 1 = .ok (.istore_n 2, 1) := by decide +kernel
theorem d_M_leastVariable_2 : decode b_M_leastVariable 2 = .ok (.iload_n 2, 1) := by decide +kernel
theorem d_M_leastVariable_3 : decode b_M_leastVariable 3 = .ok (.bipush 10, 2) := by decide +kernel
theorem d_M_leastVariable_5 : decode b_M_leastVariable 5 = .ok (.if_icmp .gt 50, 3) := by decide +kernel
theorem d_M_leastVariable_8 : decode b_M_leastVariable 8 = .ok (.aload_n 0, 1) := by decide +kernel
theorem d_M_leastVariable_9 : decode b_M_leastVariable 9 = .ok (.getfield 71, 3) := by decide +kernel
theorem d_M_leastVariable_12 : decode b_M_leastVariable 12 = .ok (.iload_n 1, 1) := by decide +kernel
theorem d_M_leastVariable_13 : decode b_M_leastVariable 13 = .ok (.iload_n 2, 1) := by decide +kernel
theorem d_M_leastVariable_14 : decode b_M_leastVariable 14 = .ok (.iastore, 1) := by decide +kernel
theorem d_M_leastVariable_15 : decode b_M_leastVariable 15 = .ok (.iconst 0, 1) := by decide +kernel
theorem d_M_leastVariable_16 : decode b_M_leastVariable 16 = .ok (.istore_n 3, 1) := by decide +kernel
theorem d_M_leastVariable_17 : decode b_M_leastVariable 17 = .ok (.iload_n 3, 1) := by decide +kernel
theorem d_M_leastVariable_18 : decode b_M_leastVariable 18 = .ok (.bipush 16, 2) := by decide +kernel
theorem d_M_leastVariable_20 : decode b_M_leastVariable 20 = .ok (.if_icmp .ge 29, 3) := by decide +kernel
theorem d_M_leastVariable_23 : decode b_M_leastVariable 23 = .ok (.aload_n 0, 1) := by decide +kernel
theorem d_M_leastVariable_24 : decode b_M_leastVariable 24 = .ok (.iload_n 1, 1) := by decide +kernel
theorem d_M_leastVariable_25 : decode b_M_leastVariable 25 = .ok (.iload_n 3, 1) := by decide +kernel
theorem d_M_leastVariable_26 : decode b_M_leastVariable 26 = .ok (.iconst 0, 1) := by decide +kernel
theorem d_M_leastVariable_27 : decode b_M_leastVariable 27 = .ok (.invokevirtual 182, 3) := by decide +kernel
theorem d_M_leastVariable_30 : decode b_M_leastVariable 30 = .ok (.aload_n 0, 1) := by decide +kernel
theorem d_M_leastVariable_31 : decode b_M_leastVariable 31 = .ok (.iload_n 1, 1) := by decide +kernel
theorem d_M_leastVariable_32 : decode b_M_leastVariable 32 = .ok (.iload_n 3, 1) := by decide +kernel
theorem d_M_leastVariable_33 : decode b_M_leastVariable 33 = .ok (.iconst 1, 1) := by decide +kernel
theorem d_M_leastVariable_34 : decode b_M_leastVariable 34 = .ok (.invokevirtual 182, 3) := by decide +kernel
theorem d_M_leastVariable_37 : decode b_M_leastVariable 37 = .ok (.lcmp, 1) := by decide +kernel
theorem d_M_leastVariable_38 : decode b_M_leastVariable 38 = .ok (.ifCond .eq 5, 3) := by decide +kernel
theorem d_M_leastVariable_41 : decode b_M_leastVariable 41 = .ok (.iload_n 2, 1) := by decide +kernel
theorem d_M_leastVariable_42 : decode b_M_leastVariable 42 = .ok (.ireturn, 1) := by decide +kernel
theorem d_M_leastVariable_43 : decode b_M_leastVariable 43 = .ok (.iinc 3 1, 3) := by decide +kernel
theorem d_M_leastVariable_46 : decode b_M_leastVariable 46 = .ok (.goto (-29), 3) := by decide +kernel
theorem d_M_leastVariable_49 : decode b_M_leastVariable 49 = .ok (.iinc 2 1, 3) := by decide +kernel
theorem d_M_leastVariable_52 : decode b_M_leastVariable 52 = .ok (.goto (-50), 3) := by decide +kernel
theorem d_M_leastVariable_55 : decode b_M_leastVariable 55 = .ok (.iconst 0, 1) := by decide +kernel
theorem d_M_leastVariable_56 : decode b_M_leastVariable 56 = .ok (.ireturn, 1) := by decide +kernel
theorem d_M_draw_0 : decode b_M_draw 0 = .ok (.aload_n 0, 1) := by decide +kernel
theorem d_M_draw_1 : decode b_M_draw 1 = .ok (.iconst 0, 1) := by decide +kernel
theorem d_M_draw_2 : decode b_M_draw 2 = .ok (.putfield 186, 3) := by decide +kernel
theorem d_M_draw_5 : decode b_M_draw 5 = .ok (.iconst 0, 1) := by decide +kernel
theorem d_M_draw_6 : decode b_M_draw 6 = .ok (.istore_n 1, 1) := by decide +kernel
theorem d_M_draw_7 : decode b_M_draw 7 = .ok (.iload_n 1, 1) := by decide +kernel
theorem d_M_draw_8 : decode b_M_draw 8 = .ok (.bipush 16, 2) := by decide +kernel
theorem d_M_draw_10 : decode b_M_draw 10 = .ok (.if_icmp .ge 21, 3) := by decide +kernel
theorem d_M_draw_13 : decode b_M_draw 13 = .ok (.aload_n 0, 1) := by decide +kernel
theorem d_M_draw_14 : decode b_M_draw 14 = .ok (.getfield 65, 3) := by decide +kernel
theorem d_M_draw_17 : decode b_M_draw 17 = .ok (.iload_n 1, 1) := by decide +kernel
theorem d_M_draw_18 : decode b_M_draw 18 = .ok (.aload_n 0, 1) := by decide +kernel
theorem d_M_draw_19 : decode b_M_draw 19 = .ok (.getfield 59, 3) := by decide +kernel
theorem d_M_draw_22 : decode b_M_draw 22 = .ok (.iload_n 1, 1) := by decide +kernel
theorem d_M_draw_23 : decode b_M_draw 23 = .ok (.laload, 1) := by decide +kernel
theorem d_M_draw_24 : decode b_M_draw 24 = .ok (.lastore, 1) := by decide +kernel
theorem d_M_draw_25 : decode b_M_draw 25 = .ok (.iinc 1 1, 3) := by decide +kernel
theorem d_M_draw_28 : decode b_M_draw 28 = .ok (.goto (-21), 3) := by decide +kernel
theorem d_M_draw_31 : decode b_M_draw 31 = .ok (.iconst 0, 1) := by decide +kernel
theorem d_M_draw_32 : decode b_M_draw 32 = .ok (.istore_n 1, 1) := by decide +kernel
theorem d_M_draw_33 : decode b_M_draw 33 = .ok (.aload_n 0, 1) := by decide +kernel
theorem d_M_draw_34 : decode b_M_draw 34 = .ok (.invokevirtual 193, 3) := by decide +kernel
theorem d_M_draw_37 : decode b_M_draw 37 = .ok (.ifCond .ne 19, 3) := by decide +kernel
theorem d_M_draw_40 : decode b_M_draw 40 = .ok (.aload_n 0, 1) := by decide +kernel
theorem d_M_draw_41 : decode b_M_draw 41 = .ok (.getfield 80, 3) := by decide +kernel
theorem d_M_draw_44 : decode b_M_draw 44 = .ok (.iconst 0, 1) := by decide +kernel
theorem d_M_draw_45 : decode b_M_draw 45 = .ok (.iconst 1, 1) := by decide +kernel
theorem d_M_draw_46 : decode b_M_draw 46 = .ok (.iastore, 1) := by decide +kernel
theorem d_M_draw_47 : decode b_M_draw 47 = .ok (.aload_n 0, 1) := by decide +kernel
theorem d_M_draw_48 : decode b_M_draw 48 = .ok (.getfield 80, 3) := by decide +kernel
theorem d_M_draw_51 : decode b_M_draw 51 = .ok (.iconst 1, 1) := by decide +kernel
theorem d_M_draw_52 : decode b_M_draw 52 = .ok (.iconst 0, 1) := by decide +kernel
theorem d_M_draw_53 : decode b_M_draw 53 = .ok (.iastore, 1) := by decide +kernel
theorem d_M_draw_54 : decode b_M_draw 54 = .ok (.iconst 2, 1) := by decide +kernel
theorem d_M_draw_55 : decode b_M_draw 55 = .ok (.istore_n 1, 1) := by decide +kernel
theorem d_M_draw_56 : decode b_M_draw 56 = .ok (.iload_n 1, 1) := by decide +kernel
theorem d_M_draw_57 : decode b_M_draw 57 = .ok (.ifCond .le 141, 3) := by decide +kernel
theorem d_M_draw_60 : decode b_M_draw 60 = .ok (.iinc 1 (-1), 3) := by decide +kernel
theorem d_M_draw_63 : decode b_M_draw 63 = .ok (.aload_n 0, 1) := by decide +kernel
theorem d_M_draw_64 : decode b_M_draw 64 = .ok (.getfield 80, 3) := by decide +kernel
theorem d_M_draw_67 : decode b_M_draw 67 = .ok (.iload_n 1, 1) := by decide +kernel
theorem d_M_draw_68 : decode b_M_draw 68 = .ok (.iaload, 1) := by decide +kernel
theorem d_M_draw_69 : decode b_M_draw 69 = .ok (.iconst 2, 1) := by decide +kernel
theorem d_M_draw_70 : decode b_M_draw 70 = .ok (.idiv, 1) := by decide +kernel
theorem d_M_draw_71 : decode b_M_draw 71 = .ok (.istore_n 2, 1) := by decide +kernel
theorem d_M_draw_72 : decode b_M_draw 72 = .ok (.aload_n 0, 1) := by decide +kernel
theorem d_M_draw_73 : decode b_M_draw 73 = .ok (.getfield 80, 3) := by decide +kernel
theorem d_M_draw_76 : decode b_M_draw 76 = .ok (.iload_n 1, 1) := by decide +kernel
theorem d_M_draw_77 : decode b_M_draw 77 = .ok (.iaload, 1) := by decide +kernel
theorem d_M_draw_78 : decode b_M_draw 78 = .ok (.iconst 2, 1) := by decide +kernel
theorem d_M_draw_79 : decode b_M_draw 79 = .ok (.irem, 1) := by decide +kernel
theorem d_M_draw_80 : decode b_M_draw 80 = .ok (.iconst 1, 1) := by decide +kernel
theorem d_M_draw_81 : decode b_M_draw 81 = .ok (.if_icmp .ne 7, 3) := by decide +kernel
theorem d_M_draw_84 : decode b_M_draw 84 = .ok (.iconst 1, 1) := by decide +kernel
theorem d_M_draw_85 : decode b_M_draw 85 = .ok (.goto 4, 3) := by decide +kernel
theorem d_M_draw_88 : decode b_M_draw 88 = .ok (.iconst 0, 1) := by decide +kernel
theorem d_M_draw_89 : decode b_M_draw 89 = .ok (.istore_n 3, 1) := by decide +kernel
theorem d_M_draw_90 : decode b_M_draw 90 = .ok (.iconst 0, 1) := by decide +kernel
theorem d_M_draw_91 : decode b_M_draw 91 = .ok (.istore 4, 2) := by decide +kernel
theorem d_M_draw_93 : decode b_M_draw 93 = .ok (.iload 4, 2) := by decide +kernel
theorem d_M_draw_95 : decode b_M_draw 95 = .ok (.bipush 16, 2) := by decide +kernel
theorem d_M_draw_97 : decode b_M_draw 97 = .ok (.if_icmp .ge 24, 3) := by decide +kernel
theorem d_M_draw_100 : decode b_M_draw 100 = .ok (.aload_n 0, 1) := by decide +kernel
theorem d_M_draw_101 : decode b_M_draw 101 = .ok (.getfield 65, 3) := by decide +kernel
theorem d_M_draw_104 : decode b_M_draw 104 = .ok (.iload 4, 2) := by decide +kernel
theorem d_M_draw_106 : decode b_M_draw 106 = .ok (.aload_n 0, 1) := by decide +kernel
theorem d_M_draw_107 : decode b_M_draw 107 = .ok (.iload_n 2, 1) := by decide +kernel
theorem d_M_draw_108 : decode b_M_draw 108 = .ok (.iload 4, 2) := by decide +kernel
theorem d_M_draw_110 : decode b_M_draw 110 = .ok (.iload_n 3, 1) := by decide +kernel
theorem d_M_draw_111 : decode b_M_draw 111 = .ok (.invokevirtual 182, 3) := by decide +kernel
theorem d_M_draw_114 : decode b_M_draw 114 = .ok (.lastore, 1) := by decide +kernel
theorem d_M_draw_115 : decode b_M_draw 115 = .ok (.iinc 4 1, 3) := by decide +kernel
theorem d_M_draw_118 : decode b_M_draw 118 = .ok (.goto (-25), 3) := by decide +kernel
theorem d_M_draw_121 : decode b_M_draw 121 = .ok (.aload_n 0, 1) := by decide +kernel
theorem d_M_draw_122 : decode b_M_draw 122 = .ok (.getfield 186, 3) := by decide +kernel
theorem d_M_draw_125 : decode b_M_draw 125 = .ok (.istore 4, 2) := by decide +kernel
theorem d_M_draw_127 : decode b_M_draw 127 = .ok (.aload_n 0, 1) := by decide +kernel
theorem d_M_draw_128 : decode b_M_draw 128 = .ok (.invokevirtual 193, 3) := by decide +kernel
theorem d_M_draw_131 : decode b_M_draw 131 = .ok (.istore 5, 2) := by decide +kernel
theorem d_M_draw_133 : decode b_M_draw 133 = .ok (.iload_n 3, 1) := by decide +kernel
theorem d_M_draw_134 : decode b_M_draw 134 = .ok (.ifCond .eq 14, 3) := by decide +kernel
theorem d_M_draw_137 : decode b_M_draw 137 = .ok (.aload_n 0, 1) := by decide +kernel
theorem d_M_draw_138 : decode b_M_draw 138 = .ok (.getfield 77, 3) := by decide +kernel
theorem d_M_draw_141 : decode b_M_draw 141 = .ok (.iload_n 2, 1) := by decide +kernel
theorem d_M_draw_142 : decode b_M_draw 142 = .ok (.iload 5, 2) := by decide +kernel
theorem d_M_draw_144 : decode b_M_draw 144 = .ok (.iastore, 1) := by decide +kernel
theorem d_M_draw_145 : decode b_M_draw 145 = .ok (.goto 11, 3) := by decide +kernel
theorem d_M_draw_148 : decode b_M_draw 148 = .ok (.aload_n 0, 1) := by decide +kernel
theorem d_M_draw_149 : decode b_M_draw 149 = .ok (.getfield 74, 3) := by decide +kernel
theorem d_M_draw_152 : decode b_M_draw 152 = .ok (.iload_n 2, 1) := by decide +kernel
theorem d_M_draw_153 : decode b_M_draw 153 = .ok (.iload 5, 2) := by decide +kernel
theorem d_M_draw_155 : decode b_M_draw 155 = .ok (.iastore, 1) := by decide +kernel
theorem d_M_draw_156 : decode b_M_draw 156 = .ok (.aload_n 0, 1) := by decide +kernel
theorem d_M_draw_157 : decode b_M_draw 157 = .ok (.getfield 186, 3) := by decide +kernel
theorem d_M_draw_160 : decode b_M_draw 160 = .ok (.iload 4, 2) := by decide +kernel
theorem d_M_draw_162 : decode b_M_draw 162 = .ok (.if_icmp .ne 6, 3) := by decide +kernel
theorem d_M_draw_165 : decode b_M_draw 165 = .ok (.goto (-109), 3) := by decide +kernel
theorem d_M_draw_168 : decode b_M_draw 168 = .ok (.aload_n 0, 1) := by decide +kernel
theorem d_M_draw_169 : decode b_M_draw 169 = .ok (.getfield 80, 3) := by decide +kernel
theorem d_M_draw_172 : decode b_M_draw 172 = .ok (.iload_n 1, 1) := by decide +kernel
theorem d_M_draw_173 : decode b_M_draw 173 = .ok (.iconst 2, 1) := by decide +kernel
theorem d_M_draw_174 : decode b_M_draw 174 = .ok (.iload 5, 2) := by decide +kernel
theorem d_M_draw_176 : decode b_M_draw 176 = .ok (.imul, 1) := by decide +kernel
theorem d_M_draw_177 : decode b_M_draw 177 = .ok (.iconst 1, 1) := by decide +kernel
theorem d_M_draw_178 : decode b_M_draw 178 = .ok (.iadd, 1) := by decide +kernel
theorem d_M_draw_179 : decode b_M_draw 179 = .ok (.iastore, 1) := by decide +kernel
theorem d_M_draw_180 : decode b_M_draw 180 = .ok (.aload_n 0, 1) := by decide +kernel
theorem d_M_draw_181 : decode b_M_draw 181 = .ok (.getfield 80, 3) := by decide +kernel
theorem d_M_draw_184 : decode b_M_draw 184 = .ok (.iload_n 1, 1) := by decide +kernel
theorem d_M_draw_185 : decode b_M_draw 185 = .ok (.iconst 1, 1) := by decide +kernel
theorem d_M_draw_186 : decode b_M_draw 186 = .ok (.iadd, 1) := by decide +kernel
theorem d_M_draw_187 : decode b_M_draw 187 = .ok (.iconst 2, 1) := by decide +kernel
theorem d_M_draw_188 : decode b_M_draw 188 = .ok (.iload 5, 2) := by decide +kernel
theorem d_M_draw_190 : decode b_M_draw 190 = .ok (.imul, 1) := by decide +kernel
theorem d_M_draw_191 : decode b_M_draw 191 = .ok (.iastore, 1) := by decide +kernel
theorem d_M_draw_192 : decode b_M_draw 192 = .ok (.iinc 1 2, 3) := by decide +kernel
theorem d_M_draw_195 : decode b_M_draw 195 = .ok (.goto (-139), 3) := by decide +kernel
theorem d_M_draw_198 : decode b_M_draw 198 = .ok (.return_, 1) := by decide +kernel
theorem d_M_value_0 : decode b_M_value 0 = .ok (.aload_n 0, 1) := by decide +kernel
theorem d_M_value_1 : decode b_M_value 1 = .ok (.getfield 200, 3) := by decide +kernel
theorem d_M_value_4 : decode b_M_value 4 = .ok (.ifCond .eq 34, 3) := by decide +kernel
theorem d_M_value_7 : decode b_M_value 7 = .ok (.iload_n 1, 1) := by decide +kernel
theorem d_M_value_8 : decode b_M_value 8 = .ok (.iconst 0, 1) := by decide +kernel
theorem d_M_value_9 : decode b_M_value 9 = .ok (.sipush 1023, 3) := by decide +kernel
theorem d_M_value_12 : decode b_M_value 12 = .ok (.invokestatic 144, 3) := by decide +kernel
theorem d_M_value_15 : decode b_M_value 15 = .ok (.ifCond .eq 23, 3) := by decide +kernel
theorem d_M_value_18 : decode b_M_value 18 = .ok (.aload_n 0, 1) := by decide +kernel
theorem d_M_value_19 : decode b_M_value 19 = .ok (.getfield 59, 3) := by decide +kernel
theorem d_M_value_22 : decode b_M_value 22 = .ok (.iload_n 1, 1) := by decide +kernel
theorem d_M_value_23 : decode b_M_value 23 = .ok (.bipush 6, 2) := by decide +kernel
theorem d_M_value_25 : decode b_M_value 25 = .ok (.ishr, 1) := by decide +kernel
theorem d_M_value_26 : decode b_M_value 26 = .ok (.laload, 1) := by decide +kernel
theorem d_M_value_27 : decode b_M_value 27 = .ok (.iload_n 1, 1) := by decide +kernel
theorem d_M_value_28 : decode b_M_value 28 = .ok (.bipush 63, 2) := by decide +kernel
theorem d_M_value_30 : decode b_M_value 30 = .ok (.iand, 1) := by decide +kernel
theorem d_M_value_31 : decode b_M_value 31 = .ok (.lshr, 1) := by decide +kernel
theorem d_M_value_32 : decode b_M_value 32 = .ok (.lconst 1, 1) := by decide +kernel
theorem d_M_value_33 : decode b_M_value 33 = .ok (.land, 1) := by decide +kernel
theorem d_M_value_34 : decode b_M_value 34 = .ok (.l2i, 1) := by decide +kernel
theorem d_M_value_35 : decode b_M_value 35 = .ok (.goto 4, 3) := by decide +kernel
theorem d_M_value_38 : decode b_M_value 38 = .ok (.iconst (-1), 1) := by decide +kernel
theorem d_M_value_39 : decode b_M_value 39 = .ok (.ireturn, 1) := by decide +kernel
theorem d_M_ones_0 : decode b_M_ones 0 = .ok (.iconst 0, 1) := by decide +kernel
theorem d_M_ones_1 : decode b_M_ones 1 = .ok (.istore_n 2, 1) := by decide +kernel
theorem d_M_ones_2 : decode b_M_ones 2 = .ok (.lload_n 0, 1) := by decide +kernel
theorem d_M_ones_3 : decode b_M_ones 3 = .ok (.lstore_n 3, 1) := by decide +kernel
theorem d_M_ones_4 : decode b_M_ones 4 = .ok (.lload_n 3, 1) := by decide +kernel
theorem d_M_ones_5 : decode b_M_ones 5 = .ok (.lconst 0, 1) := by decide +kernel
theorem d_M_ones_6 : decode b_M_ones 6 = .ok (.lcmp, 1) := by decide +kernel
theorem d_M_ones_7 : decode b_M_ones 7 = .ok (.ifCond .eq 15, 3) := by decide +kernel
theorem d_M_ones_10 : decode b_M_ones 10 = .ok (.iinc 2 1, 3) := by decide +kernel
theorem d_M_ones_13 : decode b_M_ones 13 = .ok (.lload_n 3, 1) := by decide +kernel
theorem d_M_ones_14 : decode b_M_ones 14 = .ok (.lload_n 3, 1) := by decide +kernel
theorem d_M_ones_15 : decode b_M_ones 15 = .ok (.lconst 1, 1) := by decide +kernel
theorem d_M_ones_16 : decode b_M_ones 16 = .ok (.lsub, 1) := by decide +kernel
theorem d_M_ones_17 : decode b_M_ones 17 = .ok (.land, 1) := by decide +kernel
theorem d_M_ones_18 : decode b_M_ones 18 = .ok (.lstore_n 3, 1) := by decide +kernel
theorem d_M_ones_19 : decode b_M_ones 19 = .ok (.goto (-15), 3) := by decide +kernel
theorem d_M_ones_22 : decode b_M_ones 22 = .ok (.iload_n 2, 1) := by decide +kernel
theorem d_M_ones_23 : decode b_M_ones 23 = .ok (.ireturn, 1) := by decide +kernel
theorem d_M_graph_0 : decode b_M_graph 0 = .ok (.aload_n 0, 1) := by decide +kernel
theorem d_M_graph_1 : decode b_M_graph 1 = .ok (.getfield 200, 3) := by decide +kernel
theorem d_M_graph_4 : decode b_M_graph 4 = .ok (.ifCond .eq 17, 3) := by decide +kernel
theorem d_M_graph_7 : decode b_M_graph 7 = .ok (.iload_n 1, 1) := by decide +kernel
theorem d_M_graph_8 : decode b_M_graph 8 = .ok (.iconst 0, 1) := by decide +kernel
theorem d_M_graph_9 : decode b_M_graph 9 = .ok (.aload_n 0, 1) := by decide +kernel
theorem d_M_graph_10 : decode b_M_graph 10 = .ok (.getfield 186, 3) := by decide +kernel
theorem d_M_graph_13 : decode b_M_graph 13 = .ok (.iconst 1, 1) := by decide +kernel
theorem d_M_graph_14 : decode b_M_graph 14 = .ok (.isub, 1) := by decide +kernel
theorem d_M_graph_15 : decode b_M_graph 15 = .ok (.invokestatic 144, 3) := by decide +kernel
theorem d_M_graph_18 : decode b_M_graph 18 = .ok (.ifCond .ne 5, 3) := by decide +kernel
theorem d_M_graph_21 : decode b_M_graph 21 = .ok (.iconst (-1), 1) := by decide +kernel
theorem d_M_graph_22 : decode b_M_graph 22 = .ok (.ireturn, 1) := by decide +kernel
theorem d_M_graph_23 : decode b_M_graph 23 = .ok (.iload_n 2, 1) := by decide +kernel
theorem d_M_graph_24 : decode b_M_graph 24 = .ok (.ifCond .ne 12, 3) := by decide +kernel
theorem d_M_graph_27 : decode b_M_graph 27 = .ok (.aload_n 0, 1) := by decide +kernel
theorem d_M_graph_28 : decode b_M_graph 28 = .ok (.getfield 71, 3) := by decide +kernel
theorem d_M_graph_31 : decode b_M_graph 31 = .ok (.iload_n 1, 1) := by decide +kernel
theorem d_M_graph_32 : decode b_M_graph 32 = .ok (.iaload, 1) := by decide +kernel
theorem d_M_graph_33 : decode b_M_graph 33 = .ok (.goto 32, 3) := by decide +kernel
theorem d_M_graph_36 : decode b_M_graph 36 = .ok (.iload_n 2, 1) := by decide +kernel
theorem d_M_graph_37 : decode b_M_graph 37 = .ok (.iconst 1, 1) := by decide +kernel
theorem d_M_graph_38 : decode b_M_graph 38 = .ok (.if_icmp .ne 12, 3) := by decide +kernel
theorem d_M_graph_41 : decode b_M_graph 41 = .ok (.aload_n 0, 1) := by decide +kernel
theorem d_M_graph_42 : decode b_M_graph 42 = .ok (.getfield 74, 3) := by decide +kernel
theorem d_M_graph_45 : decode b_M_graph 45 = .ok (.iload_n 1, 1) := by decide +kernel
theorem d_M_graph_46 : decode b_M_graph 46 = .ok (.iaload, 1) := by decide +kernel
theorem d_M_graph_47 : decode b_M_graph 47 = .ok (.goto 18, 3) := by decide +kernel
theorem d_M_graph_50 : decode b_M_graph 50 = .ok (.iload_n 2, 1) := by decide +kernel
theorem d_M_graph_51 : decode b_M_graph 51 = .ok (.iconst 2, 1) := by decide +kernel
theorem d_M_graph_52 : decode b_M_graph 52 = .ok (.if_icmp .ne 12, 3) := by decide +kernel
theorem d_M_graph_55 : decode b_M_graph 55 = .ok (.aload_n 0, 1) := by decide +kernel
theorem d_M_graph_56 : decode b_M_graph 56 = .ok (.getfield 77, 3) := by decide +kernel
theorem d_M_graph_59 : decode b_M_graph 59 = .ok (.iload_n 1, 1) := by decide +kernel
theorem d_M_graph_60 : decode b_M_graph 60 = .ok (.iaload, 1) := by decide +kernel
theorem d_M_graph_61 : decode b_M_graph 61 = .ok (.goto 4, 3) := by decide +kernel
theorem d_M_graph_64 : decode b_M_graph 64 = .ok (.iconst (-1), 1) := by decide +kernel
theorem d_M_graph_65 : decode b_M_graph 65 = .ok (.ireturn, 1) := by decide +kernel
theorem d_M_product_0 : decode b_M_product 0 = .ok (.ldc2_w 168, 3) := by decide +kernel
theorem d_M_product_3 : decode b_M_product 3 = .ok (.lstore 4, 2) := by decide +kernel
theorem d_M_product_5 : decode b_M_product 5 = .ok (.iconst 1, 1) := by decide +kernel
theorem d_M_product_6 : decode b_M_product 6 = .ok (.istore 6, 2) := by decide +kernel
theorem d_M_product_8 : decode b_M_product 8 = .ok (.iload 6, 2) := by decide +kernel
theorem d_M_product_10 : decode b_M_product 10 = .ok (.aload_n 0, 1) := by decide +kernel
theorem d_M_product_11 : decode b_M_product 11 = .ok (.getfield 115, 3) := by decide +kernel
theorem d_M_product_14 : decode b_M_product 14 = .ok (.if_icmp .gt 57, 3) := by decide +kernel
theorem d_M_product_17 : decode b_M_product 17 = .ok (.aload_n 0, 1) := by decide +kernel
theorem d_M_product_18 : decode b_M_product 18 = .ok (.getfield 16, 3) := by decide +kernel
theorem d_M_product_21 : decode b_M_product 21 = .ok (.iload 6, 2) := by decide +kernel
theorem d_M_product_23 : decode b_M_product 23 = .ok (.iaload, 1) := by decide +kernel
theorem d_M_product_24 : decode b_M_product 24 = .ok (.iload_n 1, 1) := by decide +kernel
theorem d_M_product_25 : decode b_M_product 25 = .ok (.if_icmp .lt 40, 3) := by decide +kernel
theorem d_M_product_28 : decode b_M_product 28 = .ok (.aload_n 0, 1) := by decide +kernel
theorem d_M_product_29 : decode b_M_product 29 = .ok (.getfield 16, 3) := by decide +kernel
theorem d_M_product_32 : decode b_M_product 32 = .ok (.iload 6, 2) := by decide +kernel
theorem d_M_product_34 : decode b_M_product 34 = .ok (.iaload, 1) := by decide +kernel
theorem d_M_product_35 : decode b_M_product 35 = .ok (.iload_n 2, 1) := by decide +kernel
theorem d_M_product_36 : decode b_M_product 36 = .ok (.if_icmp .gt 29, 3) := by decide +kernel
theorem d_M_product_39 : decode b_M_product 39 = .ok (.aload_n 0, 1) := by decide +kernel
theorem d_M_product_40 : decode b_M_product 40 = .ok (.getfield 16, 3) := by decide +kernel
theorem d_M_product_43 : decode b_M_product 43 = .ok (.iload 6, 2) := by decide +kernel
theorem d_M_product_45 : decode b_M_product 45 = .ok (.iaload, 1) := by decide +kernel
theorem d_M_product_46 : decode b_M_product 46 = .ok (.ifCond .le 19, 3) := by decide +kernel
theorem d_M_product_49 : decode b_M_product 49 = .ok (.lload 4, 2) := by decide +kernel
theorem d_M_product_51 : decode b_M_product 51 = .ok (.aload_n 0, 1) := by decide +kernel
theorem d_M_product_52 : decode b_M_product 52 = .ok (.iload 6, 2) := by decide +kernel
theorem d_M_product_54 : decode b_M_product 54 = .ok (.iload_n 3, 1) := by decide +kernel
theorem d_M_product_55 : decode b_M_product 55 = .ok (.iconst 0, 1) := by decide +kernel
theorem d_M_product_56 : decode b_M_product 56 = .ok (.iconst 0, 1) := by decide +kernel
theorem d_M_product_57 : decode b_M_product 57 = .ok (.iconst 0, 1) := by decide +kernel
theorem d_M_product_58 : decode b_M_product 58 = .ok (.iconst 0, 1) := by decide +kernel
theorem d_M_product_59 : decode b_M_product 59 = .ok (.invokevirtual 178, 3) := by decide +kernel
theorem d_M_product_62 : decode b_M_product 62 = .ok (.land, 1) := by decide +kernel
theorem d_M_product_63 : decode b_M_product 63 = .ok (.lstore 4, 2) := by decide +kernel
theorem d_M_product_65 : decode b_M_product 65 = .ok (.iinc 6 1, 3) := by decide +kernel
theorem d_M_product_68 : decode b_M_product 68 = .ok (.goto (-60), 3) := by decide +kernel
theorem d_M_product_71 : decode b_M_product 71 = .ok (.lload 4, 2) := by decide +kernel
theorem d_M_product_73 : decode b_M_product 73 = .ok (.lreturn, 1) := by decide +kernel
theorem d_M_count_0 : decode b_M_count 0 = .ok (.iconst 0, 1) := by decide +kernel
theorem d_M_count_1 : decode b_M_count 1 = .ok (.istore_n 2, 1) := by decide +kernel
theorem d_M_count_2 : decode b_M_count 2 = .ok (.iload_n 1, 1) := by decide +kernel
theorem d_M_count_3 : decode b_M_count 3 = .ok (.tableswitch 118 0 4 #[33, 38, 43, 78, 113], 33) := by decide +kernel
theorem d_M_count_36 : decode b_M_count 36 = .ok (.aload_n 0, 1) := by decide +kernel
theorem d_M_count_37 : decode b_M_count 37 = .ok (.getfield 115, 3) := by decide +kernel
theorem d_M_count_40 : decode b_M_count 40 = .ok (.ireturn, 1) := by decide +kernel
theorem d_M_count_41 : decode b_M_count 41 = .ok (.aload_n 0, 1) := by decide +kernel
theorem d_M_count_42 : decode b_M_count 42 = .ok (.getfield 118, 3) := by decide +kernel
theorem d_M_count_45 : decode b_M_count 45 = .ok (.ireturn, 1) := by decide +kernel
theorem d_M_count_46 : decode b_M_count 46 = .ok (.iconst 1, 1) := by decide +kernel
theorem d_M_count_47 : decode b_M_count 47 = .ok (.istore_n 3, 1) := by decide +kernel
theorem d_M_count_48 : decode b_M_count 48 = .ok (.iload_n 3, 1) := by decide +kernel
theorem d_M_count_49 : decode b_M_count 49 = .ok (.aload_n 0, 1) := by decide +kernel
theorem d_M_count_50 : decode b_M_count 50 = .ok (.getfield 115, 3) := by decide +kernel
theorem d_M_count_53 : decode b_M_count 53 = .ok (.if_icmp .gt 26, 3) := by decide +kernel
theorem d_M_count_56 : decode b_M_count 56 = .ok (.iload_n 2, 1) := by decide +kernel
theorem d_M_count_57 : decode b_M_count 57 = .ok (.aload_n 0, 1) := by decide +kernel
theorem d_M_count_58 : decode b_M_count 58 = .ok (.getfield 28, 3) := by decide +kernel
theorem d_M_count_61 : decode b_M_count 61 = .ok (.iload_n 3, 1) := by decide +kernel
theorem d_M_count_62 : decode b_M_count 62 = .ok (.baload, 1) := by decide +kernel
theorem d_M_count_63 : decode b_M_count 63 = .ok (.ifCond .eq 7, 3) := by decide +kernel
theorem d_M_count_66 : decode b_M_count 66 = .ok (.iconst 1, 1) := by decide +kernel
theorem d_M_count_67 : decode b_M_count 67 = .ok (.goto 4, 3) := by decide +kernel
theorem d_M_count_70 : decode b_M_count 70 = .ok (.iconst 0, 1) := by decide +kernel
theorem d_M_count_71 : decode b_M_count 71 = .ok (.iadd, 1) := by decide +kernel
theorem d_M_count_72 : decode b_M_count 72 = .ok (.istore_n 2, 1) := by decide +kernel
theorem d_M_count_73 : decode b_M_count 73 = .ok (.iinc 3 1, 3) := by decide +kernel
theorem d_M_count_76 : decode b_M_count 76 = .ok (.goto (-28), 3) := by decide +kernel
theorem d_M_count_79 : decode b_M_count 79 = .ok (.iload_n 2, 1) := by decide +kernel
theorem d_M_count_80 : decode b_M_count 80 = .ok (.ireturn, 1) := by decide +kernel
theorem d_M_count_81 : decode b_M_count 81 = .ok (.iconst 1, 1) := by decide +kernel
theorem d_M_count_82 : decode b_M_count 82 = .ok (.istore_n 3, 1) := by decide +kernel
theorem d_M_count_83 : decode b_M_count 83 = .ok (.iload_n 3, 1) := by decide +kernel
theorem d_M_count_84 : decode b_M_count 84 = .ok (.aload_n 0, 1) := by decide +kernel
theorem d_M_count_85 : decode b_M_count 85 = .ok (.getfield 115, 3) := by decide +kernel
theorem d_M_count_88 : decode b_M_count 88 = .ok (.if_icmp .gt 26, 3) := by decide +kernel
theorem d_M_count_91 : decode b_M_count 91 = .ok (.iload_n 2, 1) := by decide +kernel
theorem d_M_count_92 : decode b_M_count 92 = .ok (.aload_n 0, 1) := by decide +kernel
theorem d_M_count_93 : decode b_M_count 93 = .ok (.getfield 32, 3) := by decide +kernel
theorem d_M_count_96 : decode b_M_count 96 = .ok (.iload_n 3, 1) := by decide +kernel
theorem d_M_count_97 : decode b_M_count 97 = .ok (.baload, 1) := by decide +kernel
theorem d_M_count_98 : decode b_M_count 98 = .ok (.ifCond .eq 7, 3) := by decide +kernel
theorem d_M_count_101 : decode b_M_count 101 = .ok (.iconst 1, 1) := by decide +kernel
theorem d_M_count_102 : decode b_M_count 102 = .ok (.goto 4, 3) := by decide +kernel
theorem d_M_count_105 : decode b_M_count 105 = .ok (.iconst 0, 1) := by decide +kernel
theorem d_M_count_106 : decode b_M_count 106 = .ok (.iadd, 1) := by decide +kernel
theorem d_M_count_107 : decode b_M_count 107 = .ok (.istore_n 2, 1) := by decide +kernel
theorem d_M_count_108 : decode b_M_count 108 = .ok (.iinc 3 1, 3) := by decide +kernel
theorem d_M_count_111 : decode b_M_count 111 = .ok (.goto (-28), 3) := by decide +kernel
theorem d_M_count_114 : decode b_M_count 114 = .ok (.iload_n 2, 1) := by decide +kernel
theorem d_M_count_115 : decode b_M_count 115 = .ok (.ireturn, 1) := by decide +kernel
theorem d_M_count_116 : decode b_M_count 116 = .ok (.aload_n 0, 1) := by decide +kernel
theorem d_M_count_117 : decode b_M_count 117 = .ok (.getfield 83, 3) := by decide +kernel
theorem d_M_count_120 : decode b_M_count 120 = .ok (.ireturn, 1) := by decide +kernel
theorem d_M_count_121 : decode b_M_count 121 = .ok (.iconst (-1), 1) := by decide +kernel
theorem d_M_count_122 : decode b_M_count 122 = .ok (.ireturn, 1) := by decide +kernel
