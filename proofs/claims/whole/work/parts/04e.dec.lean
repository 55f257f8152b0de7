theorem d_M_init_0 : decode b_M_init 0 = .ok (.aload_n 0, 1) := by decide +kernel
theorem d_M_init_1 : decode b_M_init 1 = .ok (.invokespecial 1, 3) := by decide +kernel
theorem d_M_init_4 : decode b_M_init 4 = .ok (.aload_n 0, 1) := by decide +kernel
theorem d_M_init_5 : decode b_M_init 5 = .ok (.sipush 202, 3) := by decide +kernel
theorem d_M_init_8 : decode b_M_init 8 = .ok (.newarray .int, 2) := by decide +kernel
theorem d_M_init_10 : decode b_M_init 10 = .ok (.putfield 7, 3) := by decide +kernel
theorem d_M_init_13 : decode b_M_init 13 = .ok (.aload_n 0, 1) := by decide +kernel
theorem d_M_init_14 : decode b_M_init 14 = .ok (.sipush 202, 3) := by decide +kernel
theorem d_M_init_17 : decode b_M_init 17 = .ok (.newarray .int, 2) := by decide +kernel
theorem d_M_init_19 : decode b_M_init 19 = .ok (.putfield 13, 3) := by decide +kernel
theorem d_M_init_22 : decode b_M_init 22 = .ok (.aload_n 0, 1) := by decide +kernel
theorem d_M_init_23 : decode b_M_init 23 = .ok (.sipush 202, 3) := by decide +kernel
theorem d_M_init_26 : decode b_M_init 26 = .ok (.newarray .int, 2) := by decide +kernel
theorem d_M_init_28 : decode b_M_init 28 = .ok (.putfield 16, 3) := by decide +kernel
theorem d_M_init_31 : decode b_M_init 31 = .ok (.aload_n 0, 1) := by decide +kernel
theorem d_M_init_32 : decode b_M_init 32 = .ok (.sipush 202, 3) := by decide +kernel
theorem d_M_init_35 : decode b_M_init 35 = .ok (.newarray .int, 2) := by decide +kernel
theorem d_M_init_37 : decode b_M_init 37 = .ok (.putfield 19, 3) := by decide +kernel
theorem d_M_init_40 : decode b_M_init 40 = .ok (.aload_n 0, 1) := by decide +kernel
theorem d_M_init_41 : decode b_M_init 41 = .ok (.sipush 202, 3) := by decide +kernel
theorem d_M_init_44 : decode b_M_init 44 = .ok (.newarray .int, 2) := by decide +kernel
theorem d_M_init_46 : decode b_M_init 46 = .ok (.putfield 22, 3) := by decide +kernel
theorem d_M_init_49 : decode b_M_init 49 = .ok (.aload_n 0, 1) := by decide +kernel
theorem d_M_init_50 : decode b_M_init 50 = .ok (.sipush 202, 3) := by decide +kernel
theorem d_M_init_53 : decode b_M_init 53 = .ok (.newarray .int, 2) := by decide +kernel
theorem d_M_init_55 : decode b_M_init 55 = .ok (.putfield 25, 3) := by decide +kernel
theorem d_M_init_58 : decode b_M_init 58 = .ok (.aload_n 0, 1) := by decide +kernel
theorem d_M_init_59 : decode b_M_init 59 = .ok (.sipush 202, 3) := by decide +kernel
theorem d_M_init_62 : decode b_M_init 62 = .ok (.newarray .boolean, 2) := by decide +kernel
theorem d_M_init_64 : decode b_M_init 64 = .ok (.putfield 28, 3) := by decide +kernel
theorem d_M_init_67 : decode b_M_init 67 = .ok (.aload_n 0, 1) := by decide +kernel
theorem d_M_init_68 : decode b_M_init 68 = .ok (.sipush 202, 3) := by decide +kernel
theorem d_M_init_71 : decode b_M_init 71 = .ok (.newarray .boolean, 2) := by decide +kernel
theorem d_M_init_73 : decode b_M_init 73 = .ok (.putfield 32, 3) := by decide +kernel
theorem d_M_init_76 : decode b_M_init 76 = .ok (.aload_n 0, 1) := by decide +kernel
theorem d_M_init_77 : decode b_M_init 77 = .ok (.iconst (-1), 1) := by decide +kernel
theorem d_M_init_78 : decode b_M_init 78 = .ok (.putfield 35, 3) := by decide +kernel
theorem d_M_init_81 : decode b_M_init 81 = .ok (.aload_n 0, 1) := by decide +kernel
theorem d_M_init_82 : decode b_M_init 82 = .ok (.bipush 11, 2) := by decide +kernel
theorem d_M_init_84 : decode b_M_init 84 = .ok (.newarray .int, 2) := by decide +kernel
theorem d_M_init_86 : decode b_M_init 86 = .ok (.putfield 39, 3) := by decide +kernel
theorem d_M_init_89 : decode b_M_init 89 = .ok (.aload_n 0, 1) := by decide +kernel
theorem d_M_init_90 : decode b_M_init 90 = .ok (.sipush 2000, 3) := by decide +kernel
theorem d_M_init_93 : decode b_M_init 93 = .ok (.newarray .byte, 2) := by decide +kernel
theorem d_M_init_95 : decode b_M_init 95 = .ok (.putfield 42, 3) := by decide +kernel
theorem d_M_init_98 : decode b_M_init 98 = .ok (.aload_n 0, 1) := by decide +kernel
theorem d_M_init_99 : decode b_M_init 99 = .ok (.iconst (-1), 1) := by decide +kernel
theorem d_M_init_100 : decode b_M_init 100 = .ok (.putfield 46, 3) := by decide +kernel
theorem d_M_init_103 : decode b_M_init 103 = .ok (.aload_n 0, 1) := by decide +kernel
theorem d_M_init_104 : decode b_M_init 104 = .ok (.sipush 3232, 3) := by decide +kernel
theorem d_M_init_107 : decode b_M_init 107 = .ok (.newarray .long, 2) := by decide +kernel
theorem d_M_init_109 : decode b_M_init 109 = .ok (.putfield 49, 3) := by decide +kernel
theorem d_M_init_112 : decode b_M_init 112 = .ok (.aload_n 0, 1) := by decide +kernel
theorem d_M_init_113 : decode b_M_init 113 = .ok (.sipush 3232, 3) := by decide +kernel
theorem d_M_init_116 : decode b_M_init 116 = .ok (.newarray .long, 2) := by decide +kernel
theorem d_M_init_118 : decode b_M_init 118 = .ok (.putfield 53, 3) := by decide +kernel
theorem d_M_init_121 : decode b_M_init 121 = .ok (.aload_n 0, 1) := by decide +kernel
theorem d_M_init_122 : decode b_M_init 122 = .ok (.sipush 202, 3) := by decide +kernel
theorem d_M_init_125 : decode b_M_init 125 = .ok (.newarray .boolean, 2) := by decide +kernel
theorem d_M_init_127 : decode b_M_init 127 = .ok (.putfield 56, 3) := by decide +kernel
theorem d_M_init_130 : decode b_M_init 130 = .ok (.aload_n 0, 1) := by decide +kernel
theorem d_M_init_131 : decode b_M_init 131 = .ok (.bipush 16, 2) := by decide +kernel
theorem d_M_init_133 : decode b_M_init 133 = .ok (.newarray .long, 2) := by decide +kernel
theorem d_M_init_135 : decode b_M_init 135 = .ok (.putfield 59, 3) := by decide +kernel
theorem d_M_init_138 : decode b_M_init 138 = .ok (.aload_n 0, 1) := by decide +kernel
theorem d_M_init_139 : decode b_M_init 139 = .ok (.bipush 16, 2) := by decide +kernel
theorem d_M_init_141 : decode b_M_init 141 = .ok (.newarray .long, 2) := by decide +kernel
theorem d_M_init_143 : decode b_M_init 143 = .ok (.putfield 62, 3) := by decide +kernel
theorem d_M_init_146 : decode b_M_init 146 = .ok (.aload_n 0, 1) := by decide +kernel
theorem d_M_init_147 : decode b_M_init 147 = .ok (.bipush 16, 2) := by decide +kernel
theorem d_M_init_149 : decode b_M_init 149 = .ok (.newarray .long, 2) := by decide +kernel
theorem d_M_init_151 : decode b_M_init 151 = .ok (.putfield 65, 3) := by decide +kernel
theorem d_M_init_154 : decode b_M_init 154 = .ok (.aload_n 0, 1) := by decide +kernel
theorem d_M_init_155 : decode b_M_init 155 = .ok (.sipush 4800, 3) := by decide +kernel
theorem d_M_init_158 : decode b_M_init 158 = .ok (.newarray .long, 2) := by decide +kernel
theorem d_M_init_160 : decode b_M_init 160 = .ok (.putfield 68, 3) := by decide +kernel
theorem d_M_init_163 : decode b_M_init 163 = .ok (.aload_n 0, 1) := by decide +kernel
theorem d_M_init_164 : decode b_M_init 164 = .ok (.sipush 300, 3) := by decide +kernel
theorem d_M_init_167 : decode b_M_init 167 = .ok (.newarray .int, 2) := by decide +kernel
theorem d_M_init_169 : decode b_M_init 169 = .ok (.putfield 71, 3) := by decide +kernel
theorem d_M_init_172 : decode b_M_init 172 = .ok (.aload_n 0, 1) := by decide +kernel
theorem d_M_init_173 : decode b_M_init 173 = .ok (.sipush 300, 3) := by decide +kernel
theorem d_M_init_176 : decode b_M_init 176 = .ok (.newarray .int, 2) := by decide +kernel
theorem d_M_init_178 : decode b_M_init 178 = .ok (.putfield 74, 3) := by decide +kernel
theorem d_M_init_181 : decode b_M_init 181 = .ok (.aload_n 0, 1) := by decide +kernel
theorem d_M_init_182 : decode b_M_init 182 = .ok (.sipush 300, 3) := by decide +kernel
theorem d_M_init_185 : decode b_M_init 185 = .ok (.newarray .int, 2) := by decide +kernel
theorem d_M_init_187 : decode b_M_init 187 = .ok (.putfield 77, 3) := by decide +kernel
theorem d_M_init_190 : decode b_M_init 190 = .ok (.aload_n 0, 1) := by decide +kernel
theorem d_M_init_191 : decode b_M_init 191 = .ok (.sipush 640, 3) := by decide +kernel
theorem d_M_init_194 : decode b_M_init 194 = .ok (.newarray .int, 2) := by decide +kernel
theorem d_M_init_196 : decode b_M_init 196 = .ok (.putfield 80, 3) := by decide +kernel
theorem d_M_init_199 : decode b_M_init 199 = .ok (.return_, 1) := by decide +kernel
theorem d_M_end__0 : decode b_M_end_ 0 = .ok (.iload_n 1, 1) := by decide +kernel
theorem d_M_end__1 : decode b_M_end_ 1 = .ok (.ifCond .lt 11, 3) := by decide +kernel
theorem d_M_end__4 : decode b_M_end_ 4 = .ok (.iload_n 1, 1) := by decide +kernel
theorem d_M_end__5 : decode b_M_end_ 5 = .ok (.aload_n 0, 1) := by decide +kernel
theorem d_M_end__6 : decode b_M_end_ 6 = .ok (.getfield 83, 3) := by decide +kernel
theorem d_M_end__9 : decode b_M_end_ 9 = .ok (.if_icmp .le 5, 3) := by decide +kernel
theorem d_M_end__12 : decode b_M_end_ 12 = .ok (.iconst (-1), 1) := by decide +kernel
theorem d_M_end__13 : decode b_M_end_ 13 = .ok (.ireturn, 1) := by decide +kernel
theorem d_M_end__14 : decode b_M_end_ 14 = .ok (.aload_n 0, 1) := by decide +kernel
theorem d_M_end__15 : decode b_M_end_ 15 = .ok (.iload_n 1, 1) := by decide +kernel
theorem d_M_end__16 : decode b_M_end_ 16 = .ok (.putfield 83, 3) := by decide +kernel
theorem d_M_end__19 : decode b_M_end_ 19 = .ok (.iload_n 1, 1) := by decide +kernel
theorem d_M_end__20 : decode b_M_end_ 20 = .ok (.ireturn, 1) := by decide +kernel
theorem d_M_cut_0 : decode b_M_cut 0 = .ok (.aload_n 0, 1) := by decide +kernel
theorem d_M_cut_1 : decode b_M_cut 1 = .ok (.getfield 86, 3) := by decide +kernel
theorem d_M_cut_4 : decode b_M_cut 4 = .ok (.istore_n 1, 1) := by decide +kernel
theorem d_M_cut_5 : decode b_M_cut 5 = .ok (.iload_n 1, 1) := by decide +kernel
theorem d_M_cut_6 : decode b_M_cut 6 = .ok (.aload_n 0, 1) := by decide +kernel
theorem d_M_cut_7 : decode b_M_cut 7 = .ok (.getfield 89, 3) := by decide +kernel
theorem d_M_cut_10 : decode b_M_cut 10 = .ok (.if_icmp .ge 31, 3) := by decide +kernel
theorem d_M_cut_13 : decode b_M_cut 13 = .ok (.aload_n 0, 1) := by decide +kernel
theorem d_M_cut_14 : decode b_M_cut 14 = .ok (.getfield 42, 3) := by decide +kernel
theorem d_M_cut_17 : decode b_M_cut 17 = .ok (.iload_n 1, 1) := by decide +kernel
theorem d_M_cut_18 : decode b_M_cut 18 = .ok (.baload, 1) := by decide +kernel
theorem d_M_cut_19 : decode b_M_cut 19 = .ok (.bipush 32, 2) := by decide +kernel
theorem d_M_cut_21 : decode b_M_cut 21 = .ok (.if_icmp .eq 14, 3) := by decide +kernel
theorem d_M_cut_24 : decode b_M_cut 24 = .ok (.aload_n 0, 1) := by decide +kernel
theorem d_M_cut_25 : decode b_M_cut 25 = .ok (.getfield 42, 3) := by decide +kernel
theorem d_M_cut_28 : decode b_M_cut 28 = .ok (.iload_n 1, 1) := by decide +kernel
theorem d_M_cut_29 : decode b_M_cut 29 = .ok (.baload, 1) := by decide +kernel
theorem d_M_cut_30 : decode b_M_cut 30 = .ok (.bipush 10, 2) := by decide +kernel
theorem d_M_cut_32 : decode b_M_cut 32 = .ok (.if_icmp .ne 9, 3) := by decide +kernel
theorem d_M_cut_35 : decode b_M_cut 35 = .ok (.iinc 1 1, 3) := by decide +kernel
theorem d_M_cut_38 : decode b_M_cut 38 = .ok (.goto (-33), 3) := by decide +kernel
theorem d_M_cut_41 : decode b_M_cut 41 = .ok (.aload_n 0, 1) := by decide +kernel
theorem d_M_cut_42 : decode b_M_cut 42 = .ok (.iload_n 1, 1) := by decide +kernel
theorem d_M_cut_43 : decode b_M_cut 43 = .ok (.putfield 92, 3) := by decide +kernel
theorem d_M_cut_46 : decode b_M_cut 46 = .ok (.iload_n 1, 1) := by decide +kernel
theorem d_M_cut_47 : decode b_M_cut 47 = .ok (.aload_n 0, 1) := by decide +kernel
theorem d_M_cut_48 : decode b_M_cut 48 = .ok (.getfield 89, 3) := by decide +kernel
theorem d_M_cut_51 : decode b_M_cut 51 = .ok (.if_icmp .ne 14, 3) := by decide +kernel
theorem d_M_cut_54 : decode b_M_cut 54 = .ok (.aload_n 0, 1) := by decide +kernel
theorem d_M_cut_55 : decode b_M_cut 55 = .ok (.iconst 2, 1) := by decide +kernel
theorem d_M_cut_56 : decode b_M_cut 56 = .ok (.putfield 95, 3) := by decide +kernel
theorem d_M_cut_59 : decode b_M_cut 59 = .ok (.aload_n 0, 1) := by decide +kernel
theorem d_M_cut_60 : decode b_M_cut 60 = .ok (.iload_n 1, 1) := by decide +kernel
theorem d_M_cut_61 : decode b_M_cut 61 = .ok (.putfield 86, 3) := by decide +kernel
theorem d_M_cut_64 : decode b_M_cut 64 = .ok (.return_, 1) := by decide +kernel
theorem d_M_cut_65 : decode b_M_cut 65 = .ok (.aload_n 0, 1) := by decide +kernel
theorem d_M_cut_66 : decode b_M_cut 66 = .ok (.getfield 42, 3) := by decide +kernel
theorem d_M_cut_69 : decode b_M_cut 69 = .ok (.iload_n 1, 1) := by decide +kernel
theorem d_M_cut_70 : decode b_M_cut 70 = .ok (.baload, 1) := by decide +kernel
theorem d_M_cut_71 : decode b_M_cut 71 = .ok (.istore_n 2, 1) := by decide +kernel
theorem d_M_cut_72 : decode b_M_cut 72 = .ok (.iload_n 2, 1) := by decide +kernel
theorem d_M_cut_73 : decode b_M_cut 73 = .ok (.invokestatic 98, 3) := by decide +kernel
theorem d_M_cut_76 : decode b_M_cut 76 = .ok (.ifCond .ne 50, 3) := by decide +kernel
theorem d_M_cut_79 : decode b_M_cut 79 = .ok (.aload_n 0, 1) := by decide +kernel
theorem d_M_cut_80 : decode b_M_cut 80 = .ok (.iload_n 1, 1) := by decide +kernel
theorem d_M_cut_81 : decode b_M_cut 81 = .ok (.iconst 1, 1) := by decide +kernel
theorem d_M_cut_82 : decode b_M_cut 82 = .ok (.iadd, 1) := by decide +kernel
theorem d_M_cut_83 : decode b_M_cut 83 = .ok (.putfield 86, 3) := by decide +kernel
theorem d_M_cut_86 : decode b_M_cut 86 = .ok (.aload_n 0, 1) := by decide +kernel
theorem d_M_cut_87 : decode b_M_cut 87 = .ok (.iload_n 2, 1) := by decide +kernel
theorem d_M_cut_88 : decode b_M_cut 88 = .ok (.bipush 99, 2) := by decide +kernel
theorem d_M_cut_90 : decode b_M_cut 90 = .ok (.if_icmp .eq 27, 3) := by decide +kernel
theorem d_M_cut_93 : decode b_M_cut 93 = .ok (.iload_n 2, 1) := by decide +kernel
theorem d_M_cut_94 : decode b_M_cut 94 = .ok (.bipush 114, 2) := by decide +kernel
theorem d_M_cut_96 : decode b_M_cut 96 = .ok (.if_icmp .eq 21, 3) := by decide +kernel
theorem d_M_cut_99 : decode b_M_cut 99 = .ok (.iload_n 2, 1) := by decide +kernel
theorem d_M_cut_100 : decode b_M_cut 100 = .ok (.bipush 58, 2) := by decide +kernel
theorem d_M_cut_102 : decode b_M_cut 102 = .ok (.if_icmp .eq 15, 3) := by decide +kernel
theorem d_M_cut_105 : decode b_M_cut 105 = .ok (.iload_n 2, 1) := by decide +kernel
theorem d_M_cut_106 : decode b_M_cut 106 = .ok (.bipush 59, 2) := by decide +kernel
theorem d_M_cut_108 : decode b_M_cut 108 = .ok (.if_icmp .eq 9, 3) := by decide +kernel
theorem d_M_cut_111 : decode b_M_cut 111 = .ok (.iload_n 2, 1) := by decide +kernel
theorem d_M_cut_112 : decode b_M_cut 112 = .ok (.bipush 45, 2) := by decide +kernel
theorem d_M_cut_114 : decode b_M_cut 114 = .ok (.if_icmp .ne 7, 3) := by decide +kernel
theorem d_M_cut_117 : decode b_M_cut 117 = .ok (.iload_n 2, 1) := by decide +kernel
theorem d_M_cut_118 : decode b_M_cut 118 = .ok (.goto 4, 3) := by decide +kernel
theorem d_M_cut_121 : decode b_M_cut 121 = .ok (.iconst 0, 1) := by decide +kernel
theorem d_M_cut_122 : decode b_M_cut 122 = .ok (.putfield 95, 3) := by decide +kernel
theorem d_M_cut_125 : decode b_M_cut 125 = .ok (.return_, 1) := by decide +kernel
theorem d_M_cut_126 : decode b_M_cut 126 = .ok (.iconst 0, 1) := by decide +kernel
theorem d_M_cut_127 : decode b_M_cut 127 = .ok (.istore_n 3, 1) := by decide +kernel
theorem d_M_cut_128 : decode b_M_cut 128 = .ok (.aload_n 0, 1) := by decide +kernel
theorem d_M_cut_129 : decode b_M_cut 129 = .ok (.iconst 0, 1) := by decide +kernel
theorem d_M_cut_130 : decode b_M_cut 130 = .ok (.putfield 102, 3) := by decide +kernel
theorem d_M_cut_133 : decode b_M_cut 133 = .ok (.iload_n 1, 1) := by decide +kernel
theorem d_M_cut_134 : decode b_M_cut 134 = .ok (.iload_n 3, 1) := by decide +kernel
theorem d_M_cut_135 : decode b_M_cut 135 = .ok (.iadd, 1) := by decide +kernel
theorem d_M_cut_136 : decode b_M_cut 136 = .ok (.aload_n 0, 1) := by decide +kernel
theorem d_M_cut_137 : decode b_M_cut 137 = .ok (.getfield 89, 3) := by decide +kernel
theorem d_M_cut_140 : decode b_M_cut 140 = .ok (.if_icmp .ge 58, 3) := by decide +kernel
theorem d_M_cut_143 : decode b_M_cut 143 = .ok (.aload_n 0, 1) := by decide +kernel
theorem d_M_cut_144 : decode b_M_cut 144 = .ok (.getfield 42, 3) := by decide +kernel
theorem d_M_cut_147 : decode b_M_cut 147 = .ok (.iload_n 1, 1) := by decide +kernel
theorem d_M_cut_148 : decode b_M_cut 148 = .ok (.iload_n 3, 1) := by decide +kernel
theorem d_M_cut_149 : decode b_M_cut 149 = .ok (.iadd, 1) := by decide +kernel
theorem d_M_cut_150 : decode b_M_cut 150 = .ok (.baload, 1) := by decide +kernel
theorem d_M_cut_151 : decode b_M_cut 151 = .ok (.invokestatic 98, 3) := by decide +kernel
theorem d_M_cut_154 : decode b_M_cut 154 = .ok (.ifCond .eq 44, 3) := by decide +kernel
theorem d_M_cut_157 : decode b_M_cut 157 = .ok (.aload_n 0, 1) := by decide +kernel
theorem d_M_cut_158 : decode b_M_cut 158 = .ok (.iload_n 3, 1) := by decide +kernel
theorem d_M_cut_159 : decode b_M_cut 159 = .ok (.iconst 3, 1) := by decide +kernel
theorem d_M_cut_160 : decode b_M_cut 160 = .ok (.if_icmp .ge 25, 3) := by decide +kernel
theorem d_M_cut_163 : decode b_M_cut 163 = .ok (.bipush 10, 2) := by decide +kernel
theorem d_M_cut_165 : decode b_M_cut 165 = .ok (.aload_n 0, 1) := by decide +kernel
theorem d_M_cut_166 : decode b_M_cut 166 = .ok (.getfield 102, 3) := by decide +kernel
theorem d_M_cut_169 : decode b_M_cut 169 = .ok (.imul, 1) := by decide +kernel
theorem d_M_cut_170 : decode b_M_cut 170 = .ok (.aload_n 0, 1) := by decide +kernel
theorem d_M_cut_171 : decode b_M_cut 171 = .ok (.getfield 42, 3) := by decide +kernel
theorem d_M_cut_174 : decode b_M_cut 174 = .ok (.iload_n 1, 1) := by decide +kernel
theorem d_M_cut_175 : decode b_M_cut 175 = .ok (.iload_n 3, 1) := by decide +kernel
theorem d_M_cut_176 : decode b_M_cut 176 = .ok (.iadd, 1) := by decide +kernel
theorem d_M_cut_177 : decode b_M_cut 177 = .ok (.baload, 1) := by decide +kernel
theorem d_M_cut_178 : decode b_M_cut 178 = .ok (.iadd, 1) := by decide +kernel
theorem d_M_cut_179 : decode b_M_cut 179 = .ok (.bipush 48, 2) := by decide +kernel
theorem d_M_cut_181 : decode b_M_cut 181 = .ok (.isub, 1) := by decide +kernel
theorem d_M_cut_182 : decode b_M_cut 182 = .ok (.goto 7, 3) := by decide +kernel
theorem d_M_cut_185 : decode b_M_cut 185 = .ok (.aload_n 0, 1) := by decide +kernel
theorem d_M_cut_186 : decode b_M_cut 186 = .ok (.getfield 102, 3) := by decide +kernel
theorem d_M_cut_189 : decode b_M_cut 189 = .ok (.putfield 102, 3) := by decide +kernel
theorem d_M_cut_192 : decode b_M_cut 192 = .ok (.iinc 3 1, 3) := by decide +kernel
theorem d_M_cut_195 : decode b_M_cut 195 = .ok (.goto (-62), 3) := by decide +kernel
theorem d_M_cut_198 : decode b_M_cut 198 = .ok (.aload_n 0, 1) := by decide +kernel
theorem d_M_cut_199 : decode b_M_cut 199 = .ok (.iload_n 1, 1) := by decide +kernel
theorem d_M_cut_200 : decode b_M_cut 200 = .ok (.iload_n 3, 1) := by decide +kernel
theorem d_M_cut_201 : decode b_M_cut 201 = .ok (.iadd, 1) := by decide +kernel
theorem d_M_cut_202 : decode b_M_cut 202 = .ok (.putfield 86, 3) := by decide +kernel
theorem d_M_cut_205 : decode b_M_cut 205 = .ok (.aload_n 0, 1) := by decide +kernel
theorem d_M_cut_206 : decode b_M_cut 206 = .ok (.iload_n 3, 1) := by decide +kernel
theorem d_M_cut_207 : decode b_M_cut 207 = .ok (.iconst 3, 1) := by decide +kernel
theorem d_M_cut_208 : decode b_M_cut 208 = .ok (.if_icmp .le 7, 3) := by decide +kernel
theorem d_M_cut_211 : decode b_M_cut 211 = .ok (.iconst 0, 1) := by decide +kernel
theorem d_M_cut_212 : decode b_M_cut 212 = .ok (.goto 4, 3) := by decide +kernel
theorem d_M_cut_215 : decode b_M_cut 215 = .ok (.iconst 1, 1) := by decide +kernel
theorem d_M_cut_216 : decode b_M_cut 216 = .ok (.putfield 95, 3) := by decide +kernel
theorem d_M_cut_219 : decode b_M_cut 219 = .ok (.return_, 1) := by decide +kernel
theorem d_M_takes_0 : decode b_M_takes 0 = .ok (.aload_n 0, 1) := by decide +kernel
theorem d_M_takes_1 : decode b_M_takes 1 = .ok (.aload_n 0, 1) := by decide +kernel
theorem d_M_takes_2 : decode b_M_takes 2 = .ok (.getfield 95, 3) := by decide +kernel
theorem d_M_takes_5 : decode b_M_takes 5 = .ok (.iload_n 1, 1) := by decide +kernel
theorem d_M_takes_6 : decode b_M_takes 6 = .ok (.if_icmp .ne 7, 3) := by decide +kernel
theorem d_M_takes_9 : decode b_M_takes 9 = .ok (.iconst 1, 1) := by decide +kernel
theorem d_M_takes_10 : decode b_M_takes 10 = .ok (.goto 4, 3) := by decide +kernel
theorem d_M_takes_13 : decode b_M_takes 13 = .ok (.iconst 0, 1) := by decide +kernel
theorem d_M_takes_14 : decode b_M_takes 14 = .ok (.iconst 1, 1) := by decide +kernel
theorem d_M_takes_15 : decode b_M_takes 15 = .ok (.invokevirtual 108, 3) := by decide +kernel
theorem d_M_takes_18 : decode b_M_takes 18 = .ok (.ifCond .ne 5, 3) := by decide +kernel
theorem d_M_takes_21 : decode b_M_takes 21 = .ok (.iconst 0, 1) := by decide +kernel
theorem d_M_takes_22 : decode b_M_takes 22 = .ok (.ireturn, 1) := by decide +kernel
theorem d_M_takes_23 : decode b_M_takes 23 = .ok (.aload_n 0, 1) := by decide +kernel
theorem d_M_takes_24 : decode b_M_takes 24 = .ok (.invokevirtual 112, 3) := by decide +kernel
theorem d_M_takes_27 : decode b_M_takes 27 = .ok (.iconst 1, 1) := by decide +kernel
theorem d_M_takes_28 : decode b_M_takes 28 = .ok (.ireturn, 1) := by decide +kernel
theorem d_M_add_0 : decode b_M_add 0 = .ok (.aload_n 0, 1) := by decide +kernel
theorem d_M_add_1 : decode b_M_add 1 = .ok (.dup, 1) := by decide +kernel
theorem d_M_add_2 : decode b_M_add 2 = .ok (.getfield 115, 3) := by decide +kernel
theorem d_M_add_5 : decode b_M_add 5 = .ok (.iconst 1, 1) := by decide +kernel
theorem d_M_add_6 : decode b_M_add 6 = .ok (.iadd, 1) := by decide +kernel
theorem d_M_add_7 : decode b_M_add 7 = .ok (.putfield 115, 3) := by decide +kernel
theorem d_M_add_10 : decode b_M_add 10 = .ok (.aload_n 0, 1) := by decide +kernel
theorem d_M_add_11 : decode b_M_add 11 = .ok (.getfield 7, 3) := by decide +kernel
theorem d_M_add_14 : decode b_M_add 14 = .ok (.aload_n 0, 1) := by decide +kernel
theorem d_M_add_15 : decode b_M_add 15 = .ok (.getfield 115, 3) := by decide +kernel
theorem d_M_add_18 : decode b_M_add 18 = .ok (.iload_n 1, 1) := by decide +kernel
theorem d_M_add_19 : decode b_M_add 19 = .ok (.iastore, 1) := by decide +kernel
theorem d_M_add_20 : decode b_M_add 20 = .ok (.aload_n 0, 1) := by decide +kernel
theorem d_M_add_21 : decode b_M_add 21 = .ok (.getfield 13, 3) := by decide +kernel
theorem d_M_add_24 : decode b_M_add 24 = .ok (.aload_n 0, 1) := by decide +kernel
theorem d_M_add_25 : decode b_M_add 25 = .ok (.getfield 115, 3) := by decide +kernel
theorem d_M_add_28 : decode b_M_add 28 = .ok (.iload_n 2, 1) := by decide +kernel
theorem d_M_add_29 : decode b_M_add 29 = .ok (.iastore, 1) := by decide +kernel
theorem d_M_add_30 : decode b_M_add 30 = .ok (.aload_n 0, 1) := by decide +kernel
theorem d_M_add_31 : decode b_M_add 31 = .ok (.getfield 16, 3) := by decide +kernel
theorem d_M_add_34 : decode b_M_add 34 = .ok (.aload_n 0, 1) := by decide +kernel
theorem d_M_add_35 : decode b_M_add 35 = .ok (.getfield 115, 3) := by decide +kernel
theorem d_M_add_38 : decode b_M_add 38 = .ok (.iload_n 3, 1) := by decide +kernel
theorem d_M_add_39 : decode b_M_add 39 = .ok (.iastore, 1) := by decide +kernel
theorem d_M_add_40 : decode b_M_add 40 = .ok (.aload_n 0, 1) := by decide +kernel
theorem d_M_add_41 : decode b_M_add 41 = .ok (.getfield 19, 3) := by decide +kernel
theorem d_M_add_44 : decode b_M_add 44 = .ok (.aload_n 0, 1) := by decide +kernel
theorem d_M_add_45 : decode b_M_add 45 = .ok (.getfield 115, 3) := by decide +kernel
theorem d_M_add_48 : decode b_M_add 48 = .ok (.iload 4, 2) := by decide +kernel
theorem d_M_add_50 : decode b_M_add 50 = .ok (.iastore, 1) := by decide +kernel
theorem d_M_add_51 : decode b_M_add 51 = .ok (.aload_n 0, 1) := by decide +kernel
theorem d_M_add_52 : decode b_M_add 52 = .ok (.getfield 22, 3) := by decide +kernel
theorem d_M_add_55 : decode b_M_add 55 = .ok (.aload_n 0, 1) := by decide +kernel
theorem d_M_add_56 : decode b_M_add 56 = .ok (.getfield 115, 3) := by decide +kernel
theorem d_M_add_59 : decode b_M_add 59 = .ok (.iload 5, 2) := by decide +kernel
theorem d_M_add_61 : decode b_M_add 61 = .ok (.iastore, 1) := by decide +kernel
theorem d_M_add_62 : decode b_M_add 62 = .ok (.aload_n 0, 1) := by decide +kernel
theorem d_M_add_63 : decode b_M_add 63 = .ok (.getfield 25, 3) := by decide +kernel
theorem d_M_add_66 : decode b_M_add 66 = .ok (.aload_n 0, 1) := by decide +kernel
theorem d_M_add_67 : decode b_M_add 67 = .ok (.getfield 115, 3) := by decide +kernel
theorem d_M_add_70 : decode b_M_add 70 = .ok (.iload 6, 2) := by decide +kernel
theorem d_M_add_72 : decode b_M_add 72 = .ok (.iastore, 1) := by decide +kernel
theorem d_M_add_73 : decode b_M_add 73 = .ok (.aload_n 0, 1) := by decide +kernel
theorem d_M_add_74 : decode b_M_add 74 = .ok (.getfield 28, 3) := by decide +kernel
theorem d_M_add_77 : decode b_M_add 77 = .ok (.aload_n 0, 1) := by decide +kernel
theorem d_M_add_78 : decode b_M_add 78 = .ok (.getfield 115, 3) := by decide +kernel
theorem d_M_add_81 : decode b_M_add 81 = .ok (.iconst 1, 1) := by decide +kernel
theorem d_M_add_82 : decode b_M_add 82 = .ok (.bastore, 1) := by decide +kernel
theorem d_M_add_83 : decode b_M_add 83 = .ok (.aload_n 0, 1) := by decide +kernel
theorem d_M_add_84 : decode b_M_add 84 = .ok (.dup, 1) := by decide +kernel
theorem d_M_add_85 : decode b_M_add 85 = .ok (.getfield 118, 3) := by decide +kernel
theorem d_M_add_88 : decode b_M_add 88 = .ok (.iload_n 3, 1) := by decide +kernel
theorem d_M_add_89 : decode b_M_add 89 = .ok (.ifCond .le 7, 3) := by decide +kernel
theorem d_M_add_92 : decode b_M_add 92 = .ok (.iconst 1, 1) := by decide +kernel
theorem d_M_add_93 : decode b_M_add 93 = .ok (.goto 4, 3) := by decide +kernel
theorem d_M_add_96 : decode b_M_add 96 = .ok (.iconst 0, 1) := by decide +kernel
theorem d_M_add_97 : decode b_M_add 97 = .ok (.iadd, 1) := by decide +kernel
theorem d_M_add_98 : decode b_M_add 98 = .ok (.putfield 118, 3) := by decide +kernel
theorem d_M_add_101 : decode b_M_add 101 = .ok (.return_, 1) := by decide +kernel
theorem d_M_clauseHere_0 : decode b_M_clauseHere 0 = .ok (.aload_n 0, 1) := by decide +kernel
theorem d_M_clauseHere_1 : decode b_M_clauseHere 1 = .ok (.aload_n 0, 1) := by decide +kernel
theorem d_M_clauseHere_2 : decode b_M_clauseHere 2 = .ok (.getfield 95, 3) := by decide +kernel
theorem d_M_clauseHere_5 : decode b_M_clauseHere 5 = .ok (.iconst 1, 1) := by decide +kernel
theorem d_M_clauseHere_6 : decode b_M_clauseHere 6 = .ok (.if_icmp .ne 7, 3) := by decide +kernel
theorem d_M_clauseHere_9 : decode b_M_clauseHere 9 = .ok (.iconst 1, 1) := by decide +kernel
theorem d_M_clauseHere_10 : decode b_M_clauseHere 10 = .ok (.goto 4, 3) := by decide +kernel
theorem d_M_clauseHere_13 : decode b_M_clauseHere 13 = .ok (.iconst 0, 1) := by decide +kernel
theorem d_M_clauseHere_14 : decode b_M_clauseHere 14 = .ok (.iconst 1, 1) := by decide +kernel
theorem d_M_clauseHere_15 : decode b_M_clauseHere 15 = .ok (.invokevirtual 108, 3) := by decide +kernel
theorem d_M_clauseHere_18 : decode b_M_clauseHere 18 = .ok (.ifCond .eq 35, 3) := by decide +kernel
theorem d_M_clauseHere_21 : decode b_M_clauseHere 21 = .ok (.aload_n 0, 1) := by decide +kernel
theorem d_M_clauseHere_22 : decode b_M_clauseHere 22 = .ok (.aload_n 0, 1) := by decide +kernel
theorem d_M_clauseHere_23 : decode b_M_clauseHere 23 = .ok (.getfield 102, 3) := by decide +kernel
theorem d_M_clauseHere_26 : decode b_M_clauseHere 26 = .ok (.iconst 1, 1) := by decide +kernel
theorem d_M_clauseHere_27 : decode b_M_clauseHere 27 = .ok (.if_icmp .lt 18, 3) := by decide +kernel
theorem d_M_clauseHere_30 : decode b_M_clauseHere 30 = .ok (.aload_n 0, 1) := by decide +kernel
theorem d_M_clauseHere_31 : decode b_M_clauseHere 31 = .ok (.getfield 102, 3) := by decide +kernel
theorem d_M_clauseHere_34 : decode b_M_clauseHere 34 = .ok (.aload_n 0, 1) := by decide +kernel
theorem d_M_clauseHere_35 : decode b_M_clauseHere 35 = .ok (.getfield 115, 3) := by decide +kernel
theorem d_M_clauseHere_38 : decode b_M_clauseHere 38 = .ok (.if_icmp .gt 7, 3) := by decide +kernel
theorem d_M_clauseHere_41 : decode b_M_clauseHere 41 = .ok (.iconst 1, 1) := by decide +kernel
theorem d_M_clauseHere_42 : decode b_M_clauseHere 42 = .ok (.goto 4, 3) := by decide +kernel
theorem d_M_clauseHere_45 : decode b_M_clauseHere 45 = .ok (.iconst 0, 1) := by decide +kernel
theorem d_M_clauseHere_46 : decode b_M_clauseHere 46 = .ok (.iconst 2, 1) := by decide +kernel
theorem d_M_clauseHere_47 : decode b_M_clauseHere 47 = .ok (.invokevirtual 108, 3) := by decide +kernel
theorem d_M_clauseHere_50 : decode b_M_clauseHere 50 = .ok (.ifCond .ne 5, 3) := by decide +kernel
theorem d_M_clauseHere_53 : decode b_M_clauseHere 53 = .ok (.iconst 0, 1) := by decide +kernel
theorem d_M_clauseHere_54 : decode b_M_clauseHere 54 = .ok (.ireturn, 1) := by decide +kernel
theorem d_M_clauseHere_55 : decode b_M_clauseHere 55 = .ok (.aload_n 0, 1) := by decide +kernel
theorem d_M_clauseHere_56 : decode b_M_clauseHere 56 = .ok (.getfield 102, 3) := by decide +kernel
theorem d_M_clauseHere_59 : decode b_M_clauseHere 59 = .ok (.istore_n 1, 1) := by decide +kernel
theorem d_M_clauseHere_60 : decode b_M_clauseHere 60 = .ok (.aload_n 0, 1) := by decide +kernel
theorem d_M_clauseHere_61 : decode b_M_clauseHere 61 = .ok (.invokevirtual 112, 3) := by decide +kernel
theorem d_M_clauseHere_64 : decode b_M_clauseHere 64 = .ok (.iload_n 1, 1) := by decide +kernel
theorem d_M_clauseHere_65 : decode b_M_clauseHere 65 = .ok (.ireturn, 1) := by decide +kernel
theorem d_M_read_0 : decode b_M_read 0 = .ok (.aload_n 0, 1) := by decide +kernel
theorem d_M_read_1 : decode b_M_read 1 = .ok (.aload_n 0, 1) := by decide +kernel
theorem d_M_read_2 : decode b_M_read 2 = .ok (.getfield 83, 3) := by decide +kernel
theorem d_M_read_5 : decode b_M_read 5 = .ok (.putfield 89, 3) := by decide +kernel
theorem d_M_read_8 : decode b_M_read 8 = .ok (.aload_n 0, 1) := by decide +kernel
theorem d_M_read_9 : decode b_M_read 9 = .ok (.iconst 0, 1) := by decide +kernel
theorem d_M_read_10 : decode b_M_read 10 = .ok (.putfield 83, 3) := by decide +kernel
theorem d_M_read_13 : decode b_M_read 13 = .ok (.aload_n 0, 1) := by decide +kernel
theorem d_M_read_14 : decode b_M_read 14 = .ok (.iconst 0, 1) := by decide +kernel
theorem d_M_read_15 : decode b_M_read 15 = .ok (.putfield 86, 3) := by decide +kernel
theorem d_M_read_18 : decode b_M_read 18 = .ok (.aload_n 0, 1) := by decide +kernel
theorem d_M_read_19 : decode b_M_read 19 = .ok (.iconst 0, 1) := by decide +kernel
theorem d_M_read_20 : decode b_M_read 20 = .ok (.putfield 105, 3) := by decide +kernel
theorem d_M_read_23 : decode b_M_read 23 = .ok (.aload_n 0, 1) := by decide +kernel
theorem d_M_read_24 : decode b_M_read 24 = .ok (.iconst (-1), 1) := by decide +kernel
theorem d_M_read_25 : decode b_M_read 25 = .ok (.putfield 46, 3) := by decide +kernel
theorem d_M_read_28 : decode b_M_read 28 = .ok (.aload_n 0, 1) := by decide +kernel
theorem d_M_read_29 : decode b_M_read 29 = .ok (.getfield 115, 3) := by decide +kernel
theorem d_M_read_32 : decode b_M_read 32 = .ok (.istore_n 1, 1) := by decide +kernel
theorem d_M_read_33 : decode b_M_read 33 = .ok (.aload_n 0, 1) := by decide +kernel
theorem d_M_read_34 : decode b_M_read 34 = .ok (.getfield 118, 3) := by decide +kernel
theorem d_M_read_37 : decode b_M_read 37 = .ok (.istore_n 2, 1) := by decide +kernel
theorem d_M_read_38 : decode b_M_read 38 = .ok (.aload_n 0, 1) := by decide +kernel
theorem d_M_read_39 : decode b_M_read 39 = .ok (.invokevirtual 112, 3) := by decide +kernel
theorem d_M_read_42 : decode b_M_read 42 = .ok (.aload_n 0, 1) := by decide +kernel
theorem d_M_read_43 : decode b_M_read 43 = .ok (.getfield 105, 3) := by decide +kernel
theorem d_M_read_46 : decode b_M_read 46 = .ok (.ifCond .ne 53, 3) := by decide +kernel
theorem d_M_read_49 : decode b_M_read 49 = .ok (.aload_n 0, 1) := by decide +kernel
theorem d_M_read_50 : decode b_M_read 50 = .ok (.getfield 95, 3) := by decide +kernel
theorem d_M_read_53 : decode b_M_read 53 = .ok (.iconst 2, 1) := by decide +kernel
theorem d_M_read_54 : decode b_M_read 54 = .ok (.if_icmp .eq 45, 3) := by decide +kernel
theorem d_M_read_57 : decode b_M_read 57 = .ok (.aload_n 0, 1) := by decide +kernel
theorem d_M_read_58 : decode b_M_read 58 = .ok (.getfield 95, 3) := by decide +kernel
theorem d_M_read_61 : decode b_M_read 61 = .ok (.bipush 99, 2) := by decide +kernel
theorem d_M_read_63 : decode b_M_read 63 = .ok (.if_icmp .ne 10, 3) := by decide +kernel
theorem d_M_read_66 : decode b_M_read 66 = .ok (.aload_n 0, 1) := by decide +kernel
theorem d_M_read_67 : decode b_M_read 67 = .ok (.invokevirtual 132, 3) := by decide +kernel
theorem d_M_read_70 : decode b_M_read 70 = .ok (.goto (-28), 3) := by decide +kernel
theorem d_M_read_73 : decode b_M_read 73 = .ok (.aload_n 0, 1) := by decide +kernel
theorem d_M_read_74 : decode b_M_read 74 = .ok (.getfield 95, 3) := by decide +kernel
theorem d_M_read_77 : decode b_M_read 77 = .ok (.bipush 114, 2) := by decide +kernel
theorem d_M_read_79 : decode b_M_read 79 = .ok (.if_icmp .ne 10, 3) := by decide +kernel
theorem d_M_read_82 : decode b_M_read 82 = .ok (.aload_n 0, 1) := by decide +kernel
theorem d_M_read_83 : decode b_M_read 83 = .ok (.invokevirtual 135, 3) := by decide +kernel
theorem d_M_read_86 : decode b_M_read 86 = .ok (.goto (-44), 3) := by decide +kernel
theorem d_M_read_89 : decode b_M_read 89 = .ok (.aload_n 0, 1) := by decide +kernel
theorem d_M_read_90 : decode b_M_read 90 = .ok (.iconst 0, 1) := by decide +kernel
theorem d_M_read_91 : decode b_M_read 91 = .ok (.iconst 1, 1) := by decide +kernel
theorem d_M_read_92 : decode b_M_read 92 = .ok (.invokevirtual 108, 3) := by decide +kernel
theorem d_M_read_95 : decode b_M_read 95 = .ok (.pop, 1) := by decide +kernel
theorem d_M_read_96 : decode b_M_read 96 = .ok (.goto (-54), 3) := by decide +kernel
theorem d_M_read_99 : decode b_M_read 99 = .ok (.aload_n 0, 1) := by decide +kernel
theorem d_M_read_100 : decode b_M_read 100 = .ok (.getfield 105, 3) := by decide +kernel
theorem d_M_read_103 : decode b_M_read 103 = .ok (.ifCond .le 15, 3) := by decide +kernel
theorem d_M_read_106 : decode b_M_read 106 = .ok (.aload_n 0, 1) := by decide +kernel
theorem d_M_read_107 : decode b_M_read 107 = .ok (.iload_n 1, 1) := by decide +kernel
theorem d_M_read_108 : decode b_M_read 108 = .ok (.putfield 115, 3) := by decide +kernel
theorem d_M_read_111 : decode b_M_read 111 = .ok (.aload_n 0, 1) := by decide +kernel
theorem d_M_read_112 : decode b_M_read 112 = .ok (.iload_n 2, 1) := by decide +kernel
theorem d_M_read_113 : decode b_M_read 113 = .ok (.putfield 118, 3) := by decide +kernel
theorem d_M_read_116 : decode b_M_read 116 = .ok (.iconst (-1), 1) := by decide +kernel
theorem d_M_read_117 : decode b_M_read 117 = .ok (.ireturn, 1) := by decide +kernel
theorem d_M_read_118 : decode b_M_read 118 = .ok (.aload_n 0, 1) := by decide +kernel
theorem d_M_read_119 : decode b_M_read 119 = .ok (.invokevirtual 138, 3) := by decide +kernel
theorem d_M_read_122 : decode b_M_read 122 = .ok (.aload_n 0, 1) := by decide +kernel
theorem d_M_read_123 : decode b_M_read 123 = .ok (.getfield 115, 3) := by decide +kernel
theorem d_M_read_126 : decode b_M_read 126 = .ok (.iload_n 1, 1) := by decide +kernel
theorem d_M_read_127 : decode b_M_read 127 = .ok (.isub, 1) := by decide +kernel
theorem d_M_read_128 : decode b_M_read 128 = .ok (.ireturn, 1) := by decide +kernel
theorem d_M_clear_0 : decode b_M_clear 0 = .ok (.aload_n 0, 1) := by decide +kernel
theorem d_M_clear_1 : decode b_M_clear 1 = .ok (.getfield 115, 3) := by decide +kernel
theorem d_M_clear_4 : decode b_M_clear 4 = .ok (.istore_n 1, 1) := by decide +kernel
theorem d_M_clear_5 : decode b_M_clear 5 = .ok (.aload_n 0, 1) := by decide +kernel
theorem d_M_clear_6 : decode b_M_clear 6 = .ok (.iconst 0, 1) := by decide +kernel
theorem d_M_clear_7 : decode b_M_clear 7 = .ok (.putfield 115, 3) := by decide +kernel
theorem d_M_clear_10 : decode b_M_clear 10 = .ok (.aload_n 0, 1) := by decide +kernel
theorem d_M_clear_11 : decode b_M_clear 11 = .ok (.iconst 0, 1) := by decide +kernel
theorem d_M_clear_12 : decode b_M_clear 12 = .ok (.putfield 118, 3) := by decide +kernel
theorem d_M_clear_15 : decode b_M_clear 15 = .ok (.iconst 0, 1) := by decide +kernel
theorem d_M_clear_16 : decode b_M_clear 16 = .ok (.istore_n 2, 1) := by decide +kernel
theorem d_M_clear_17 : decode b_M_clear 17 = .ok (.iload_n 2, 1) := by decide +kernel
theorem d_M_clear_18 : decode b_M_clear 18 = .ok (.bipush 11, 2) := by decide +kernel
theorem d_M_clear_20 : decode b_M_clear 20 = .ok (.if_icmp .ge 16, 3) := by decide +kernel
theorem d_M_clear_23 : decode b_M_clear 23 = .ok (.aload_n 0, 1) := by decide +kernel
theorem d_M_clear_24 : decode b_M_clear 24 = .ok (.getfield 39, 3) := by decide +kernel
theorem d_M_clear_27 : decode b_M_clear 27 = .ok (.iload_n 2, 1) := by decide +kernel
theorem d_M_clear_28 : decode b_M_clear 28 = .ok (.iconst 0, 1) := by decide +kernel
theorem d_M_clear_29 : decode b_M_clear 29 = .ok (.iastore, 1) := by decide +kernel
theorem d_M_clear_30 : decode b_M_clear 30 = .ok (.iinc 2 1, 3) := by decide +kernel
theorem d_M_clear_33 : decode b_M_clear 33 = .ok (.goto (-16), 3) := by decide +kernel
theorem d_M_clear_36 : decode b_M_clear 36 = .ok (.aload_n 0, 1) := by decide +kernel
theorem d_M_clear_37 : decode b_M_clear 37 = .ok (.invokevirtual 138, 3) := by decide +kernel
theorem d_M_clear_40 : decode b_M_clear 40 = .ok (.iload_n 1, 1) := by decide +kernel
theorem d_M_clear_41 : decode b_M_clear 41 = .ok (.ireturn, 1) := by decide +kernel
theorem d_M_in_0 : decode b_M_in 0 = .ok (.iload_n 0, 1) := by decide +kernel
theorem d_M_in_1 : decode b_M_in 1 = .ok (.iload_n 1, 1) := by decide +kernel
theorem d_M_in_2 : decode b_M_in 2 = .ok (.if_icmp .lt 12, 3) := by decide +kernel
theorem d_M_in_5 : decode b_M_in 5 = .ok (.iload_n 0, 1) := by decide +kernel
theorem d_M_in_6 : decode b_M_in 6 = .ok (.iload_n 2, 1) := by decide +kernel
theorem d_M_in_7 : decode b_M_in 7 = .ok (.if_icmp .gt 7, 3) := by decide +kernel
theorem d_M_in_10 : decode b_M_in 10 = .ok (.iconst 1, 1) := by decide +kernel
theorem d_M_in_11 : decode b_M_in 11 = .ok (.goto 4, 3) := by decide +kernel
theorem d_M_in_14 : decode b_M_in 14 = .ok (.iconst 0, 1) := by decide +kernel
theorem d_M_in_15 : decode b_M_in 15 = .ok (.ireturn, 1) := by decide +kernel
theorem d_M_refutation_0 : decode b_M_refutation 0 = .ok (.aload_n 0, 1) := by decide +kernel
theorem d_M_refutation_1 : decode b_M_refutation 1 = .ok (.getfield 35, 3) := by decide +kernel
theorem d_M_refutation_4 : decode b_M_refutation 4 = .ok (.ireturn, 1) := by decide +kernel
theorem d_M_eliminate_0 : decode b_M_eliminate 0 = .ok (.iload_n 1, 1) := by decide +kernel
theorem d_M_eliminate_1 : decode b_M_eliminate 1 = .ok (.iconst 1, 1) := by decide +kernel
theorem d_M_eliminate_2 : decode b_M_eliminate 2 = .ok (.bipush 10, 2) := by decide +kernel
theorem d_M_eliminate_4 : decode b_M_eliminate 4 = .ok (.invokestatic 144, 3) := by decide +kernel
theorem d_M_eliminate_7 : decode b_M_eliminate 7 = .ok (.ifCond .ne 6, 3) := by decide +kernel
theorem d_M_eliminate_10 : decode b_M_eliminate 10 = .ok (.bipush (-2), 2) := by decide +kernel
theorem d_M_eliminate_12 : decode b_M_eliminate 12 = .ok (.ireturn, 1) := by decide +kernel
theorem d_M_eliminate_13 : decode b_M_eliminate 13 = .ok (.iconst 1, 1) := by decide +kernel
theorem d_M_eliminate_14 : decode b_M_eliminate 14 = .ok (.iload_n 1, 1) := by decide +kernel
theorem d_M_eliminate_15 : decode b_M_eliminate 15 = .ok (.iconst 1, 1) := by decide +kernel
theorem d_M_eliminate_16 : decode b_M_eliminate 16 = .ok (.isub, 1) := by decide +kernel
theorem d_M_eliminate_17 : decode b_M_eliminate 17 = .ok (.ishl, 1) := by decide +kernel
theorem d_M_eliminate_18 : decode b_M_eliminate 18 = .ok (.istore_n 2, 1) := by decide +kernel
theorem d_M_eliminate_19 : decode b_M_eliminate 19 = .ok (.aload_n 0, 1) := by decide +kernel
theorem d_M_eliminate_20 : decode b_M_eliminate 20 = .ok (.getfield 115, 3) := by decide +kernel
theorem d_M_eliminate_23 : decode b_M_eliminate 23 = .ok (.istore_n 3, 1) := by decide +kernel
theorem d_M_eliminate_24 : decode b_M_eliminate 24 = .ok (.iconst 1, 1) := by decide +kernel
theorem d_M_eliminate_25 : decode b_M_eliminate 25 = .ok (.istore 4, 2) := by decide +kernel
theorem d_M_eliminate_27 : decode b_M_eliminate 27 = .ok (.iconst 1, 1) := by decide +kernel
theorem d_M_eliminate_28 : decode b_M_eliminate 28 = .ok (.istore 5, 2) := by decide +kernel
theorem d_M_eliminate_30 : decode b_M_eliminate 30 = .ok (.iload 5, 2) := by decide +kernel
theorem d_M_eliminate_32 : decode b_M_eliminate 32 = .ok (.iload_n 3, 1) := by decide +kernel
theorem d_M_eliminate_33 : decode b_M_eliminate 33 = .ok (.if_icmp .gt 184, 3) := by decide +kernel
theorem d_M_eliminate_36 : decode b_M_eliminate 36 = .ok (.iload 4, 2) := by decide +kernel
theorem d_M_eliminate_38 : decode b_M_eliminate 38 = .ok (.ifCond .eq 179, 3) := by decide +kernel
theorem d_M_eliminate_41 : decode b_M_eliminate 41 = .ok (.aload_n 0, 1) := by decide +kernel
theorem d_M_eliminate_42 : decode b_M_eliminate 42 = .ok (.getfield 28, 3) := by decide +kernel
theorem d_M_eliminate_45 : decode b_M_eliminate 45 = .ok (.iload 5, 2) := by decide +kernel
theorem d_M_eliminate_47 : decode b_M_eliminate 47 = .ok (.baload, 1) := by decide +kernel
theorem d_M_eliminate_48 : decode b_M_eliminate 48 = .ok (.ifCond .eq 163, 3) := by decide +kernel
theorem d_M_eliminate_51 : decode b_M_eliminate 51 = .ok (.aload_n 0, 1) := by decide +kernel
theorem d_M_eliminate_52 : decode b_M_eliminate 52 = .ok (.getfield 7, 3) := by decide +kernel
theorem d_M_eliminate_55 : decode b_M_eliminate 55 = .ok (.iload 5, 2) := by decide +kernel
theorem d_M_eliminate_57 : decode b_M_eliminate 57 = .ok (.iaload, 1) := by decide +kernel
theorem d_M_eliminate_58 : decode b_M_eliminate 58 = .ok (.iload_n 2, 1) := by decide +kernel
theorem d_M_eliminate_59 : decode b_M_eliminate 59 = .ok (.iand, 1) := by decide +kernel
theorem d_M_eliminate_60 : decode b_M_eliminate 60 = .ok (.ifCond .ne 6, 3) := by decide +kernel
theorem d_M_eliminate_63 : decode b_M_eliminate 63 = .ok (.goto 148, 3) := by decide +kernel
theorem d_M_eliminate_66 : decode b_M_eliminate 66 = .ok (.iconst 1, 1) := by decide +kernel
theorem d_M_eliminate_67 : decode b_M_eliminate 67 = .ok (.istore 6, 2) := by decide +kernel
theorem d_M_eliminate_69 : decode b_M_eliminate 69 = .ok (.iload 6, 2) := by decide +kernel
theorem d_M_eliminate_71 : decode b_M_eliminate 71 = .ok (.iload_n 3, 1) := by decide +kernel
theorem d_M_eliminate_72 : decode b_M_eliminate 72 = .ok (.if_icmp .gt 139, 3) := by decide +kernel
theorem d_M_eliminate_75 : decode b_M_eliminate 75 = .ok (.iload 4, 2) := by decide +kernel
theorem d_M_eliminate_77 : decode b_M_eliminate 77 = .ok (.ifCond .eq 134, 3) := by decide +kernel
theorem d_M_eliminate_80 : decode b_M_eliminate 80 = .ok (.aload_n 0, 1) := by decide +kernel
theorem d_M_eliminate_81 : decode b_M_eliminate 81 = .ok (.getfield 28, 3) := by decide +kernel
theorem d_M_eliminate_84 : decode b_M_eliminate 84 = .ok (.iload 6, 2) := by decide +kernel
theorem d_M_eliminate_86 : decode b_M_eliminate 86 = .ok (.baload, 1) := by decide +kernel
theorem d_M_eliminate_87 : decode b_M_eliminate 87 = .ok (.ifCond .eq 118, 3) := by decide +kernel
theorem d_M_eliminate_90 : decode b_M_eliminate 90 = .ok (.aload_n 0, 1) := by decide +kernel
theorem d_M_eliminate_91 : decode b_M_eliminate 91 = .ok (.getfield 13, 3) := by decide +kernel
theorem d_M_eliminate_94 : decode b_M_eliminate 94 = .ok (.iload 6, 2) := by decide +kernel
theorem d_M_eliminate_96 : decode b_M_eliminate 96 = .ok (.iaload, 1) := by decide +kernel
theorem d_M_eliminate_97 : decode b_M_eliminate 97 = .ok (.iload_n 2, 1) := by decide +kernel
theorem d_M_eliminate_98 : decode b_M_eliminate 98 = .ok (.iand, 1) := by decide +kernel
theorem d_M_eliminate_99 : decode b_M_eliminate 99 = .ok (.ifCond .ne 6, 3) := by decide +kernel
theorem d_M_eliminate_102 : decode b_M_eliminate 102 = .ok (.goto 103, 3) := by decide +kernel
theorem d_M_eliminate_105 : decode b_M_eliminate 105 = .ok (.aload_n 0, 1) := by decide +kernel
theorem d_M_eliminate_106 : decode b_M_eliminate 106 = .ok (.getfield 7, 3) := by decide +kernel
theorem d_M_eliminate_109 : decode b_M_eliminate 109 = .ok (.iload 5, 2) := by decide +kernel
theorem d_M_eliminate_111 : decode b_M_eliminate 111 = .ok (.iaload, 1) := by decide +kernel
theorem d_M_eliminate_112 : decode b_M_eliminate 112 = .ok (.iload_n 2, 1) := by decide +kernel
theorem d_M_eliminate_113 : decode b_M_eliminate 113 = .ok (.iconst (-1), 1) := by decide +kernel
theorem d_M_eliminate_114 : decode b_M_eliminate 114 = .ok (.ixor, 1) := by decide +kernel
theorem d_M_eliminate_115 : decode b_M_eliminate 115 = .ok (.iand, 1) := by decide +kernel
theorem d_M_eliminate_116 : decode b_M_eliminate 116 = .ok (.aload_n 0, 1) := by decide +kernel
theorem d_M_eliminate_117 : decode b_M_eliminate 117 = .ok (.getfield 7, 3) := by decide +kernel
theorem d_M_eliminate_120 : decode b_M_eliminate 120 = .ok (.iload 6, 2) := by decide +kernel
theorem d_M_eliminate_122 : decode b_M_eliminate 122 = .ok (.iaload, 1) := by decide +kernel
theorem d_M_eliminate_123 : decode b_M_eliminate 123 = .ok (.ior, 1) := by decide +kernel
theorem d_M_eliminate_124 : decode b_M_eliminate 124 = .ok (.istore 7, 2) := by decide +kernel
theorem d_M_eliminate_126 : decode b_M_eliminate 126 = .ok (.aload_n 0, 1) := by decide +kernel
theorem d_M_eliminate_127 : decode b_M_eliminate 127 = .ok (.getfield 13, 3) := by decide +kernel
theorem d_M_eliminate_130 : decode b_M_eliminate 130 = .ok (.iload 5, 2) := by decide +kernel
theorem d_M_eliminate_132 : decode b_M_eliminate 132 = .ok (.iaload, 1) := by decide +kernel
theorem d_M_eliminate_133 : decode b_M_eliminate 133 = .ok (.aload_n 0, 1) := by decide +kernel
theorem d_M_eliminate_134 : decode b_M_eliminate 134 = .ok (.getfield 13, 3) := by decide +kernel
theorem d_M_eliminate_137 : decode b_M_eliminate 137 = .ok (.iload 6, 2) := by decide +kernel
theorem d_M_eliminate_139 : decode b_M_eliminate 139 = .ok (.iaload, 1) := by decide +kernel
theorem d_M_eliminate_140 : decode b_M_eliminate 140 = .ok (.iload_n 2, 1) := by decide +kernel
theorem d_M_eliminate_141 : decode b_M_eliminate 141 = .ok (.iconst (-1), 1) := by decide +kernel
theorem d_M_eliminate_142 : decode b_M_eliminate 142 = .ok (.ixor, 1) := by decide +kernel
theorem d_M_eliminate_143 : decode b_M_eliminate 143 = .ok (.iand, 1) := by decide +kernel
theorem d_M_eliminate_144 : decode b_M_eliminate 144 = .ok (.ior, 1) := by decide +kernel
theorem d_M_eliminate_145 : decode b_M_eliminate 145 = .ok (.istore 8, 2) := by decide +kernel
theorem d_M_eliminate_147 : decode b_M_eliminate 147 = .ok (.iload 7, 2) := by decide +kernel
theorem d_M_eliminate_149 : decode b_M_eliminate 149 = .ok (.iload 8, 2) := by decide +kernel
theorem d_M_eliminate_151 : decode b_M_eliminate 151 = .ok (.iand, 1) := by decide +kernel
theorem d_M_eliminate_152 : decode b_M_eliminate 152 = .ok (.ifCond .ne 53, 3) := by decide +kernel
theorem d_M_eliminate_155 : decode b_M_eliminate 155 = .ok (.aload_n 0, 1) := by decide +kernel
theorem d_M_eliminate_156 : decode b_M_eliminate 156 = .ok (.iload 7, 2) := by decide +kernel
theorem d_M_eliminate_158 : decode b_M_eliminate 158 = .ok (.iload 8, 2) := by decide +kernel
theorem d_M_eliminate_160 : decode b_M_eliminate 160 = .ok (.invokevirtual 148, 3) := by decide +kernel
theorem d_M_eliminate_163 : decode b_M_eliminate 163 = .ok (.ifCond .eq 6, 3) := by decide +kernel
theorem d_M_eliminate_166 : decode b_M_eliminate 166 = .ok (.goto 39, 3) := by decide +kernel
theorem d_M_eliminate_169 : decode b_M_eliminate 169 = .ok (.aload_n 0, 1) := by decide +kernel
theorem d_M_eliminate_170 : decode b_M_eliminate 170 = .ok (.getfield 115, 3) := by decide +kernel
theorem d_M_eliminate_173 : decode b_M_eliminate 173 = .ok (.sipush 200, 3) := by decide +kernel
theorem d_M_eliminate_176 : decode b_M_eliminate 176 = .ok (.if_icmp .ge 7, 3) := by decide +kernel
theorem d_M_eliminate_179 : decode b_M_eliminate 179 = .ok (.iconst 1, 1) := by decide +kernel
theorem d_M_eliminate_180 : decode b_M_eliminate 180 = .ok (.goto 4, 3) := by decide +kernel
theorem d_M_eliminate_183 : decode b_M_eliminate 183 = .ok (.iconst 0, 1) := by decide +kernel
theorem d_M_eliminate_184 : decode b_M_eliminate 184 = .ok (.istore 4, 2) := by decide +kernel
theorem d_M_eliminate_186 : decode b_M_eliminate 186 = .ok (.iload 4, 2) := by decide +kernel
theorem d_M_eliminate_188 : decode b_M_eliminate 188 = .ok (.ifCond .eq 17, 3) := by decide +kernel
theorem d_M_eliminate_191 : decode b_M_eliminate 191 = .ok (.aload_n 0, 1) := by decide +kernel
theorem d_M_eliminate_192 : decode b_M_eliminate 192 = .ok (.iload 7, 2) := by decide +kernel
theorem d_M_eliminate_194 : decode b_M_eliminate 194 = .ok (.iload 8, 2) := by decide +kernel
theorem d_M_eliminate_196 : decode b_M_eliminate 196 = .ok (.iconst 0, 1) := by decide +kernel
theorem d_M_eliminate_197 : decode b_M_eliminate 197 = .ok (.iload 5, 2) := by decide +kernel
theorem d_M_eliminate_199 : decode b_M_eliminate 199 = .ok (.iload 6, 2) := by decide +kernel
theorem d_M_eliminate_201 : decode b_M_eliminate 201 = .ok (.iload_n 1, 1) := by decide +kernel
theorem d_M_eliminate_202 : decode b_M_eliminate 202 = .ok (.invokevirtual 124, 3) := by decide +kernel
theorem d_M_eliminate_205 : decode b_M_eliminate 205 = .ok (.iinc 6 1, 3) := by decide +kernel
theorem d_M_eliminate_208 : decode b_M_eliminate 208 = .ok (.goto (-139), 3) := by decide +kernel
theorem d_M_eliminate_211 : decode b_M_eliminate 211 = .ok (.iinc 5 1, 3) := by decide +kernel
theorem d_M_eliminate_214 : decode b_M_eliminate 214 = .ok (.goto (-184), 3) := by decide +kernel
theorem d_M_eliminate_217 : decode b_M_eliminate 217 = .ok (.iload 4, 2) := by decide +kernel
theorem d_M_eliminate_219 : decode b_M_eliminate 219 = .ok (.ifCond .ne 11, 3) := by decide +kernel
theorem d_M_eliminate_222 : decode b_M_eliminate 222 = .ok (.aload_n 0, 1) := by decide +kernel
theorem d_M_eliminate_223 : decode b_M_eliminate 223 = .ok (.iload_n 3, 1) := by decide +kernel
theorem d_M_eliminate_224 : decode b_M_eliminate 224 = .ok (.putfield 115, 3) := by decide +kernel
theorem d_M_eliminate_227 : decode b_M_eliminate 227 = .ok (.bipush (-3), 2) := by decide +kernel
theorem d_M_eliminate_229 : decode b_M_eliminate 229 = .ok (.ireturn, 1) := by decide +kernel
theorem d_M_eliminate_230 : decode b_M_eliminate 230 = .ok (.iconst 1, 1) := by decide +kernel
theorem d_M_eliminate_231 : decode b_M_eliminate 231 = .ok (.istore 5, 2) := by decide +kernel
theorem d_M_eliminate_233 : decode b_M_eliminate 233 = .ok (.iload 5, 2) := by decide +kernel
theorem d_M_eliminate_235 : decode b_M_eliminate 235 = .ok (.iload_n 3, 1) := by decide +kernel
theorem d_M_eliminate_236 : decode b_M_eliminate 236 = .ok (.if_icmp .gt 37, 3) := by decide +kernel
theorem d_M_eliminate_239 : decode b_M_eliminate 239 = .ok (.aload_n 0, 1) := by decide +kernel
theorem d_M_eliminate_240 : decode b_M_eliminate 240 = .ok (.getfield 7, 3) := by decide +kernel
theorem d_M_eliminate_243 : decode b_M_eliminate 243 = .ok (.iload 5, 2) := by decide +kernel
theorem d_M_eliminate_245 : decode b_M_eliminate 245 = .ok (.iaload, 1) := by decide +kernel
theorem d_M_eliminate_246 : decode b_M_eliminate 246 = .ok (.aload_n 0, 1) := by decide +kernel
theorem d_M_eliminate_247 : decode b_M_eliminate 247 = .ok (.getfield 13, 3) := by decide +kernel
theorem d_M_eliminate_250 : decode b_M_eliminate 250 = .ok (.iload 5, 2) := by decide +kernel
theorem d_M_eliminate_252 : decode b_M_eliminate 252 = .ok (.iaload, 1) := by decide +kernel
theorem d_M_eliminate_253 : decode b_M_eliminate 253 = .ok (.ior, 1) := by decide +kernel
theorem d_M_eliminate_254 : decode b_M_eliminate 254 = .ok (.iload_n 2, 1) := by decide +kernel
theorem d_M_eliminate_255 : decode b_M_eliminate 255 = .ok (.iand, 1) := by decide +kernel
theorem d_M_eliminate_256 : decode b_M_eliminate 256 = .ok (.ifCond .eq 11, 3) := by decide +kernel
theorem d_M_eliminate_259 : decode b_M_eliminate 259 = .ok (.aload_n 0, 1) := by decide +kernel
theorem d_M_eliminate_260 : decode b_M_eliminate 260 = .ok (.getfield 28, 3) := by decide +kernel
theorem d_M_eliminate_263 : decode b_M_eliminate 263 = .ok (.iload 5, 2) := by decide +kernel
theorem d_M_eliminate_265 : decode b_M_eliminate 265 = .ok (.iconst 0, 1) := by decide +kernel
theorem d_M_eliminate_266 : decode b_M_eliminate 266 = .ok (.bastore, 1) := by decide +kernel
theorem d_M_eliminate_267 : decode b_M_eliminate 267 = .ok (.iinc 5 1, 3) := by decide +kernel
theorem d_M_eliminate_270 : decode b_M_eliminate 270 = .ok (.goto (-37), 3) := by decide +kernel
theorem d_M_eliminate_273 : decode b_M_eliminate 273 = .ok (.aload_n 0, 1) := by decide +kernel
theorem d_M_eliminate_274 : decode b_M_eliminate 274 = .ok (.invokevirtual 138, 3) := by decide +kernel
theorem d_M_eliminate_277 : decode b_M_eliminate 277 = .ok (.aload_n 0, 1) := by decide +kernel
theorem d_M_eliminate_278 : decode b_M_eliminate 278 = .ok (.getfield 115, 3) := by decide +kernel
theorem d_M_eliminate_281 : decode b_M_eliminate 281 = .ok (.iload_n 3, 1) := by decide +kernel
theorem d_M_eliminate_282 : decode b_M_eliminate 282 = .ok (.isub, 1) := by decide +kernel
theorem d_M_eliminate_283 : decode b_M_eliminate 283 = .ok (.ireturn, 1) := by decide +kernel
theorem d_M_variablesOf_0 : decode b_M_variablesOf 0 = .ok (.iconst 0, 1) := by decide +kernel
theorem d_M_variablesOf_1 : decode b_M_variablesOf 1 = .ok (.istore_n 3, 1) := by decide +kernel
theorem d_M_variablesOf_2 : decode b_M_variablesOf 2 = .ok (.iconst 1, 1) := by decide +kernel
theorem d_M_variablesOf_3 : decode b_M_variablesOf 3 = .ok (.istore 4, 2) := by decide +kernel
theorem d_M_variablesOf_5 : decode b_M_variablesOf 5 = .ok (.iload 4, 2) := by decide +kernel
theorem d_M_variablesOf_7 : decode b_M_variablesOf 7 = .ok (.aload_n 0, 1) := by decide +kernel
theorem d_M_variablesOf_8 : decode b_M_variablesOf 8 = .ok (.getfield 115, 3) := by decide +kernel
theorem d_M_variablesOf_11 : decode b_M_variablesOf 11 = .ok (.if_icmp .gt 57, 3) := by decide +kernel
theorem d_M_variablesOf_14 : decode b_M_variablesOf 14 = .ok (.aload_n 0, 1) := by decide +kernel
theorem d_M_variablesOf_15 : decode b_M_variablesOf 15 = .ok (.getfield 16, 3) := by decide +kernel
theorem d_M_variablesOf_18 : decode b_M_variablesOf 18 = .ok (.iload 4, 2) := by decide +kernel
theorem d_M_variablesOf_20 : decode b_M_variablesOf 20 = .ok (.iaload, 1) := by decide +kernel
theorem d_M_variablesOf_21 : decode b_M_variablesOf 21 = .ok (.ifCond .le 41, 3) := by decide +kernel
theorem d_M_variablesOf_24 : decode b_M_variablesOf 24 = .ok (.aload_n 0, 1) := by decide +kernel
theorem d_M_variablesOf_25 : decode b_M_variablesOf 25 = .ok (.getfield 16, 3) := by decide +kernel
theorem d_M_variablesOf_28 : decode b_M_variablesOf 28 = .ok (.iload 4, 2) := by decide +kernel
theorem d_M_variablesOf_30 : decode b_M_variablesOf 30 = .ok (.iaload, 1) := by decide +kernel
theorem d_M_variablesOf_31 : decode b_M_variablesOf 31 = .ok (.iload_n 2, 1) := by decide +kernel
theorem d_M_variablesOf_32 : decode b_M_variablesOf 32 = .ok (.if_icmp .le 7, 3) := by decide +kernel
theorem d_M_variablesOf_35 : decode b_M_variablesOf 35 = .ok (.iconst 1, 1) := by decide +kernel
theorem d_M_variablesOf_36 : decode b_M_variablesOf 36 = .ok (.goto 4, 3) := by decide +kernel
theorem d_M_variablesOf_39 : decode b_M_variablesOf 39 = .ok (.iconst 0, 1) := by decide +kernel
theorem d_M_variablesOf_40 : decode b_M_variablesOf 40 = .ok (.iload_n 1, 1) := by decide +kernel
theorem d_M_variablesOf_41 : decode b_M_variablesOf 41 = .ok (.if_icmp .ne 21, 3) := by decide +kernel
theorem d_M_variablesOf_44 : decode b_M_variablesOf 44 = .ok (.iload_n 3, 1) := by decide +kernel
theorem d_M_variablesOf_45 : decode b_M_variablesOf 45 = .ok (.aload_n 0, 1) := by decide +kernel
theorem d_M_variablesOf_46 : decode b_M_variablesOf 46 = .ok (.getfield 7, 3) := by decide +kernel
theorem d_M_variablesOf_49 : decode b_M_variablesOf 49 = .ok (.iload 4, 2) := by decide +kernel
theorem d_M_variablesOf_51 : decode b_M_variablesOf 51 = .ok (.iaload, 1) := by decide +kernel
theorem d_M_variablesOf_52 : decode b_M_variablesOf 52 = .ok (.aload_n 0, 1) := by decide +kernel
theorem d_M_variablesOf_53 : decode b_M_variablesOf 53 = .ok (.getfield 13, 3) := by decide +kernel
theorem d_M_variablesOf_56 : decode b_M_variablesOf 56 = .ok (.iload 4, 2) := by decide +kernel
theorem d_M_variablesOf_58 : decode b_M_variablesOf 58 = .ok (.iaload, 1) := by decide +kernel
theorem d_M_variablesOf_59 : decode b_M_variablesOf 59 = .ok (.ior, 1) := by decide +kernel
theorem d_M_variablesOf_60 : decode b_M_variablesOf 60 = .ok (.ior, 1) := by decide +kernel
theorem d_M_variablesOf_61 : decode b_M_variablesOf 61 = .ok (.istore_n 3, 1) := by decide +kernel
theorem d_M_variablesOf_62 : decode b_M_variablesOf 62 = .ok (.iinc 4 1, 3) := by decide +kernel
theorem d_M_variablesOf_65 : decode b_M_variablesOf 65 = .ok (.goto (-60), 3) := by decide +kernel
theorem d_M_variablesOf_68 : decode b_M_variablesOf 68 = .ok (.iload_n 3, 1) := by decide +kernel
theorem d_M_variablesOf_69 : decode b_M_variablesOf 69 = .ok (.ireturn, 1) := by decide +kernel
theorem d_M_word_0 : decode b_M_word 0 = .ok (.iload_n 0, 1) := by decide +kernel
theorem d_M_word_1 : decode b_M_word 1 = .ok (.tableswitch 63 1 6 #[39, 43, 47, 51, 55, 59], 39) := by decide +kernel
theorem d_M_word_40 : decode b_M_word 40 = .ok (.ldc2_w 156, 3) := by decide +kernel
theorem d_M_word_43 : decode b_M_word 43 = .ok (.lreturn, 1) := by decide +kernel
theorem d_M_word_44 : decode b_M_word 44 = .ok (.ldc2_w 158, 3) := by decide +kernel
theorem d_M_word_47 : decode b_M_word 47 = .ok (.lreturn, 1) := by decide +kernel
theorem d_M_word_48 : decode b_M_word 48 = .ok (.ldc2_w 160, 3) := by decide +kernel
theorem d_M_word_51 : decode b_M_word 51 = .ok (.lreturn, 1) := by decide +kernel
theorem d_M_word_52 : decode b_M_word 52 = .ok (.ldc2_w 162, 3) := by decide +kernel
theorem d_M_word_55 : decode b_M_word 55 = .ok (.lreturn, 1) := by decide +kernel
theorem d_M_word_56 : decode b_M_word 56 = .ok (.ldc2_w 164, 3) := by decide +kernel
theorem d_M_word_59 : decode b_M_word 59 = .ok (.lreturn, 1) := by decide +kernel
theorem d_M_word_60 : decode b_M_word 60 = .ok (.ldc2_w 166, 3) := by decide +kernel
theorem d_M_word_63 : decode b_M_word 63 = .ok (.lreturn, 1) := by decide +kernel
theorem d_M_word_64 : decode b_M_word 64 = .ok (.iload_n 1, 1) := by decide +kernel
theorem d_M_word_65 : decode b_M_word 65 = .ok (.iload_n 0, 1) := by decide +kernel
theorem d_M_word_66 : decode b_M_word 66 = .ok (.bipush 7, 2) := by decide +kernel
theorem d_M_word_68 : decode b_M_word 68 = .ok (.isub, 1) := by decide +kernel
theorem d_M_word_69 : decode b_M_word 69 = .ok (.ishr, 1) := by decide +kernel
theorem d_M_word_70 : decode b_M_word 70 = .ok (.iconst 1, 1) := by decide +kernel
theorem d_M_word_71 : decode b_M_word 71 = .ok (.iand, 1) := by decide +kernel
theorem d_M_word_72 : decode b_M_word 72 = .ok (.ifCond .eq 9, 3) := by decide +kernel
theorem d_M_word_75 : decode b_M_word 75 = .ok (.ldc2_w 168, 3) := by decide +kernel
theorem d_M_word_78 : decode b_M_word 78 = .ok (.goto 4, 3) := by decide +kernel
theorem d_M_word_81 : decode b_M_word 81 = .ok (.lconst 0, 1) := by decide +kernel
theorem d_M_word_82 : decode b_M_word 82 = .ok (.lreturn, 1) := by decide +kernel
theorem d_M_sum_0 : decode b_M_sum 0 = .ok (.lconst 0, 1) := by decide +kernel
theorem d_M_sum_1 : decode b_M_sum 1 = .ok (.lstore 7, 2) := by decide +kernel
theorem d_M_sum_3 : decode b_M_sum 3 = .ok (.iconst 1, 1) := by decide +kernel
theorem d_M_sum_4 : decode b_M_sum 4 = .ok (.istore 9, 2) := by decide +kernel
theorem d_M_sum_6 : decode b_M_sum 6 = .ok (.iload 9, 2) := by decide +kernel
theorem d_M_sum_8 : decode b_M_sum 8 = .ok (.bipush 10, 2) := by decide +kernel
theorem d_M_sum_10 : decode b_M_sum 10 = .ok (.if_icmp .gt 90, 3) := by decide +kernel
theorem d_M_sum_13 : decode b_M_sum 13 = .ok (.iload_n 3, 1) := by decide +kernel
theorem d_M_sum_14 : decode b_M_sum 14 = .ok (.ifCond .eq 22, 3) := by decide +kernel
theorem d_M_sum_17 : decode b_M_sum 17 = .ok (.aload_n 0, 1) := by decide +kernel
theorem d_M_sum_18 : decode b_M_sum 18 = .ok (.iload 9, 2) := by decide +kernel
theorem d_M_sum_20 : decode b_M_sum 20 = .ok (.iload 4, 2) := by decide +kernel
theorem d_M_sum_22 : decode b_M_sum 22 = .ok (.iload 5, 2) := by decide +kernel
theorem d_M_sum_24 : decode b_M_sum 24 = .ok (.iload 6, 2) := by decide +kernel
theorem d_M_sum_26 : decode b_M_sum 26 = .ok (.invokevirtual 170, 3) := by decide +kernel
theorem d_M_sum_29 : decode b_M_sum 29 = .ok (.iload_n 3, 1) := by decide +kernel
theorem d_M_sum_30 : decode b_M_sum 30 = .ok (.if_icmp .eq 6, 3) := by decide +kernel
theorem d_M_sum_33 : decode b_M_sum 33 = .ok (.goto 61, 3) := by decide +kernel
theorem d_M_sum_36 : decode b_M_sum 36 = .ok (.aload_n 0, 1) := by decide +kernel
theorem d_M_sum_37 : decode b_M_sum 37 = .ok (.getfield 7, 3) := by decide +kernel
theorem d_M_sum_40 : decode b_M_sum 40 = .ok (.iload_n 1, 1) := by decide +kernel
theorem d_M_sum_41 : decode b_M_sum 41 = .ok (.iaload, 1) := by decide +kernel
theorem d_M_sum_42 : decode b_M_sum 42 = .ok (.iload 9, 2) := by decide +kernel
theorem d_M_sum_44 : decode b_M_sum 44 = .ok (.iconst 1, 1) := by decide +kernel
theorem d_M_sum_45 : decode b_M_sum 45 = .ok (.isub, 1) := by decide +kernel
theorem d_M_sum_46 : decode b_M_sum 46 = .ok (.ishr, 1) := by decide +kernel
theorem d_M_sum_47 : decode b_M_sum 47 = .ok (.iconst 1, 1) := by decide +kernel
theorem d_M_sum_48 : decode b_M_sum 48 = .ok (.iand, 1) := by decide +kernel
theorem d_M_sum_49 : decode b_M_sum 49 = .ok (.ifCond .eq 14, 3) := by decide +kernel
theorem d_M_sum_52 : decode b_M_sum 52 = .ok (.lload 7, 2) := by decide +kernel
theorem d_M_sum_54 : decode b_M_sum 54 = .ok (.iload 9, 2) := by decide +kernel
theorem d_M_sum_56 : decode b_M_sum 56 = .ok (.iload_n 2, 1) := by decide +kernel
theorem d_M_sum_57 : decode b_M_sum 57 = .ok (.invokestatic 174, 3) := by decide +kernel
theorem d_M_sum_60 : decode b_M_sum 60 = .ok (.lor, 1) := by decide +kernel
theorem d_M_sum_61 : decode b_M_sum 61 = .ok (.lstore 7, 2) := by decide +kernel
theorem d_M_sum_63 : decode b_M_sum 63 = .ok (.aload_n 0, 1) := by decide +kernel
theorem d_M_sum_64 : decode b_M_sum 64 = .ok (.getfield 13, 3) := by decide +kernel
theorem d_M_sum_67 : decode b_M_sum 67 = .ok (.iload_n 1, 1) := by decide +kernel
theorem d_M_sum_68 : decode b_M_sum 68 = .ok (.iaload, 1) := by decide +kernel
theorem d_M_sum_69 : decode b_M_sum 69 = .ok (.iload 9, 2) := by decide +kernel
theorem d_M_sum_71 : decode b_M_sum 71 = .ok (.iconst 1, 1) := by decide +kernel
theorem d_M_sum_72 : decode b_M_sum 72 = .ok (.isub, 1) := by decide +kernel
theorem d_M_sum_73 : decode b_M_sum 73 = .ok (.ishr, 1) := by decide +kernel
theorem d_M_sum_74 : decode b_M_sum 74 = .ok (.iconst 1, 1) := by decide +kernel
theorem d_M_sum_75 : decode b_M_sum 75 = .ok (.iand, 1) := by decide +kernel
theorem d_M_sum_76 : decode b_M_sum 76 = .ok (.ifCond .eq 18, 3) := by decide +kernel
theorem d_M_sum_79 : decode b_M_sum 79 = .ok (.lload 7, 2) := by decide +kernel
theorem d_M_sum_81 : decode b_M_sum 81 = .ok (.iload 9, 2) := by decide +kernel
theorem d_M_sum_83 : decode b_M_sum 83 = .ok (.iload_n 2, 1) := by decide +kernel
theorem d_M_sum_84 : decode b_M_sum 84 = .ok (.invokestatic 174, 3) := by decide +kernel
theorem d_M_sum_87 : decode b_M_sum 87 = .ok (.ldc2_w 168, 3) := by decide +kernel
theorem d_M_sum_90 : decode b_M_sum 90 = .ok (.lxor, 1) := by decide +kernel
theorem d_M_sum_91 : decode b_M_sum 91 = .ok (.lor, 1) := by decide +kernel
theorem d_M_sum_92 : decode b_M_sum 92 = .ok (.lstore 7, 2) := by decide +kernel
theorem d_M_sum_94 : decode b_M_sum 94 = .ok (.iinc 9 1, 3) := by decide +kernel
theorem d_M_sum_97 : decode b_M_sum 97 = .ok (.goto (-91), 3) := by decide +kernel
theorem d_M_sum_100 : decode b_M_sum 100 = .ok (.lload 7, 2) := by decide +kernel
theorem d_M_sum_102 : decode b_M_sum 102 = .ok (.lreturn, 1) := by decide +kernel
theorem d_M_side_0 : decode b_M_side 0 = .ok (.aload_n 0, 1) := by decide +kernel
theorem d_M_side_1 : decode b_M_side 1 = .ok (.getfield 71, 3) := by decide +kernel
theorem d_M_side_4 : decode b_M_side 4 = .ok (.iload_n 1, 1) := by decide +kernel
theorem d_M_side_5 : decode b_M_side 5 = .ok (.iaload, 1) := by decide +kernel
theorem d_M_side_6 : decode b_M_side 6 = .ok (.istore 4, 2) := by decide +kernel
theorem d_M_side_8 : decode b_M_side 8 = .ok (.iload 4, 2) := by decide +kernel
theorem d_M_side_10 : decode b_M_side 10 = .ok (.bipush 6, 2) := by decide +kernel
theorem d_M_side_12 : decode b_M_side 12 = .ok (.if_icmp .le 40, 3) := by decide +kernel
theorem d_M_side_15 : decode b_M_side 15 = .ok (.iconst 1, 1) := by decide +kernel
theorem d_M_side_16 : decode b_M_side 16 = .ok (.iload 4, 2) := by decide +kernel
theorem d_M_side_18 : decode b_M_side 18 = .ok (.bipush 7, 2) := by decide +kernel
theorem d_M_side_20 : decode b_M_side 20 = .ok (.isub, 1) := by decide +kernel
theorem d_M_side_21 : decode b_M_side 21 = .ok (.ishl, 1) := by decide +kernel
theorem d_M_side_22 : decode b_M_side 22 = .ok (.istore 5, 2) := by decide +kernel
theorem d_M_side_24 : decode b_M_side 24 = .ok (.aload_n 0, 1) := by decide +kernel
theorem d_M_side_25 : decode b_M_side 25 = .ok (.getfield 68, 3) := by decide +kernel
theorem d_M_side_28 : decode b_M_side 28 = .ok (.bipush 16, 2) := by decide +kernel
theorem d_M_side_30 : decode b_M_side 30 = .ok (.iload_n 1, 1) := by decide +kernel
theorem d_M_side_31 : decode b_M_side 31 = .ok (.imul, 1) := by decide +kernel
theorem d_M_side_32 : decode b_M_side 32 = .ok (.iload_n 3, 1) := by decide +kernel
theorem d_M_side_33 : decode b_M_side 33 = .ok (.ifCond .eq 10, 3) := by decide +kernel
theorem d_M_side_36 : decode b_M_side 36 = .ok (.iload_n 2, 1) := by decide +kernel
theorem d_M_side_37 : decode b_M_side 37 = .ok (.iload 5, 2) := by decide +kernel
theorem d_M_side_39 : decode b_M_side 39 = .ok (.ior, 1) := by decide +kernel
theorem d_M_side_40 : decode b_M_side 40 = .ok (.goto 9, 3) := by decide +kernel
theorem d_M_side_43 : decode b_M_side 43 = .ok (.iload_n 2, 1) := by decide +kernel
theorem d_M_side_44 : decode b_M_side 44 = .ok (.iload 5, 2) := by decide +kernel
theorem d_M_side_46 : decode b_M_side 46 = .ok (.iconst (-1), 1) := by decide +kernel
theorem d_M_side_47 : decode b_M_side 47 = .ok (.ixor, 1) := by decide +kernel
theorem d_M_side_48 : decode b_M_side 48 = .ok (.iand, 1) := by decide +kernel
theorem d_M_side_49 : decode b_M_side 49 = .ok (.iadd, 1) := by decide +kernel
theorem d_M_side_50 : decode b_M_side 50 = .ok (.laload, 1) := by decide +kernel
theorem d_M_side_51 : decode b_M_side 51 = .ok (.lreturn, 1) := by decide +kernel
theorem d_M_side_52 : decode b_M_side 52 = .ok (.iload 4, 2) := by decide +kernel
theorem d_M_side_54 : decode b_M_side 54 = .ok (.iconst 0, 1) := by decide +kernel
theorem d_M_side_55 : decode b_M_side 55 = .ok (.invokestatic 174, 3) := by decide +kernel
theorem d_M_side_58 : decode b_M_side 58 = .ok (.lstore 5, 2) := by decide +kernel
theorem d_M_side_60 : decode b_M_side 60 = .ok (.iconst 1, 1) := by decide +kernel
theorem d_M_side_61 : decode b_M_side 61 = .ok (.iload 4, 2) := by decide +kernel
theorem d_M_side_63 : decode b_M_side 63 = .ok (.iconst 1, 1) := by decide +kernel
theorem d_M_side_64 : decode b_M_side 64 = .ok (.isub, 1) := by decide +kernel
theorem d_M_side_65 : decode b_M_side 65 = .ok (.ishl, 1) := by decide +kernel
theorem d_M_side_66 : decode b_M_side 66 = .ok (.istore 7, 2) := by decide +kernel
theorem d_M_side_68 : decode b_M_side 68 = .ok (.aload_n 0, 1) := by decide +kernel
theorem d_M_side_69 : decode b_M_side 69 = .ok (.getfield 68, 3) := by decide +kernel
theorem d_M_side_72 : decode b_M_side 72 = .ok (.bipush 16, 2) := by decide +kernel
theorem d_M_side_74 : decode b_M_side 74 = .ok (.iload_n 1, 1) := by decide +kernel
theorem d_M_side_75 : decode b_M_side 75 = .ok (.imul, 1) := by decide +kernel
theorem d_M_side_76 : decode b_M_side 76 = .ok (.iload_n 2, 1) := by decide +kernel
theorem d_M_side_77 : decode b_M_side 77 = .ok (.iadd, 1) := by decide +kernel
theorem d_M_side_78 : decode b_M_side 78 = .ok (.laload, 1) := by decide +kernel
theorem d_M_side_79 : decode b_M_side 79 = .ok (.lstore 8, 2) := by decide +kernel
theorem d_M_side_81 : decode b_M_side 81 = .ok (.iload_n 3, 1) := by decide +kernel
theorem d_M_side_82 : decode b_M_side 82 = .ok (.ifCond .eq 11, 3) := by decide +kernel
theorem d_M_side_85 : decode b_M_side 85 = .ok (.lload 8, 2) := by decide +kernel
theorem d_M_side_87 : decode b_M_side 87 = .ok (.lload 5, 2) := by decide +kernel
theorem d_M_side_89 : decode b_M_side 89 = .ok (.land, 1) := by decide +kernel
theorem d_M_side_90 : decode b_M_side 90 = .ok (.goto 12, 3) := by decide +kernel
theorem d_M_side_93 : decode b_M_side 93 = .ok (.lload 8, 2) := by decide +kernel
theorem d_M_side_95 : decode b_M_side 95 = .ok (.lload 5, 2) := by decide +kernel
theorem d_M_side_97 : decode b_M_side 97 = .ok (.ldc2_w 168, 3) := by decide +kernel
theorem d_M_side_100 : decode b_M_side 100 = .ok (.lxor, 1) := by decide +kernel
theorem d_M_side_101 : decode b_M_side 101 = .ok (.land, 1) := by decide +kernel
theorem d_M_side_102 : decode b_M_side 102 = .ok (.lstore 10, 2) := by decide +kernel
theorem d_M_side_104 : decode b_M_side 104 = .ok (.iload_n 3, 1) := by decide +kernel
theorem d_M_side_105 : decode b_M_side 105 = .ok (.ifCond .eq 14, 3) := by decide +kernel
theorem d_M_side_108 : decode b_M_side 108 = .ok (.lload 10, 2) := by decide +kernel
theorem d_M_side_110 : decode b_M_side 110 = .ok (.lload 10, 2) := by decide +kernel
theorem d_M_side_112 : decode b_M_side 112 = .ok (.iload 7, 2) := by decide +kernel
theorem d_M_side_114 : decode b_M_side 114 = .ok (.lushr, 1) := by decide +kernel
theorem d_M_side_115 : decode b_M_side 115 = .ok (.lor, 1) := by decide +kernel
theorem d_M_side_116 : decode b_M_side 116 = .ok (.goto 11, 3) := by decide +kernel
theorem d_M_side_119 : decode b_M_side 119 = .ok (.lload 10, 2) := by decide +kernel
theorem d_M_side_121 : decode b_M_side 121 = .ok (.lload 10, 2) := by decide +kernel
theorem d_M_side_123 : decode b_M_side 123 = .ok (.iload 7, 2) := by decide +kernel
theorem d_M_side_125 : decode b_M_side 125 = .ok (.lshl, 1) := by decide +kernel
theorem d_M_side_126 : decode b_M_side 126 = .ok (.lor, 1) := by decide +kernel
theorem d_M_side_127 : decode b_M_side 127 = .ok (.lreturn, 1) := by decide +kernel
theorem d_M_nodeOf_0 : decode b_M_nodeOf 0 = .ok (.iconst 1, 1) := by decide +kernel
theorem d_M_nodeOf_1 : decode b_M_nodeOf 1 = .ok (.istore_n 1, 1) := by decide +kernel
theorem d_M_nodeOf_2 : decode b_M_nodeOf 2 = .ok (.iconst 1, 1) := by decide +kernel
theorem d_M_nodeOf_3 : decode b_M_nodeOf 3 = .ok (.istore_n 2, 1) := by decide +kernel
theorem d_M_nodeOf_4 : decode b_M_nodeOf 4 = .ok (.iconst 0, 1) := by decide +kernel
theorem d_M_nodeOf_5 : decode b_M_nodeOf 5 = .ok (.istore_n 3, 1) := by decide +kernel
theorem d_M_nodeOf_6 : decode b_M_nodeOf 6 = .ok (.iload_n 3, 1) := by decide +kernel
theorem d_M_nodeOf_7 : decode b_M_nodeOf 7 = .ok (.bipush 16, 2) := by decide +kernel
theorem d_M_nodeOf_9 : decode b_M_nodeOf 9 = .ok (.if_icmp .ge 53, 3) := by decide +kernel
theorem d_M_nodeOf_12 : decode b_M_nodeOf 12 = .ok (.iload_n 1, 1) := by decide +kernel
theorem d_M_nodeOf_13 : decode b_M_nodeOf 13 = .ok (.ifCond .eq 18, 3) := by decide +kernel
theorem d_M_nodeOf_16 : decode b_M_nodeOf 16 = .ok (.aload_n 0, 1) := by decide +kernel
theorem d_M_nodeOf_17 : decode b_M_nodeOf 17 = .ok (.getfield 65, 3) := by decide +kernel
theorem d_M_nodeOf_20 : decode b_M_nodeOf 20 = .ok (.iload_n 3, 1) := by decide +kernel
theorem d_M_nodeOf_21 : decode b_M_nodeOf 21 = .ok (.laload, 1) := by decide +kernel
theorem d_M_nodeOf_22 : decode b_M_nodeOf 22 = .ok (.lconst 0, 1) := by decide +kernel
theorem d_M_nodeOf_23 : decode b_M_nodeOf 23 = .ok (.lcmp, 1) := by decide +kernel
theorem d_M_nodeOf_24 : decode b_M_nodeOf 24 = .ok (.ifCond .ne 7, 3) := by decide +kernel
theorem d_M_nodeOf_27 : decode b_M_nodeOf 27 = .ok (.iconst 1, 1) := by decide +kernel
theorem d_M_nodeOf_28 : decode b_M_nodeOf 28 = .ok (.goto 4, 3) := by decide +kernel
theorem d_M_nodeOf_31 : decode b_M_nodeOf 31 = .ok (.iconst 0, 1) := by decide +kernel
theorem d_M_nodeOf_32 : decode b_M_nodeOf 32 = .ok (.istore_n 1, 1) := by decide +kernel
theorem d_M_nodeOf_33 : decode b_M_nodeOf 33 = .ok (.iload_n 2, 1) := by decide +kernel
theorem d_M_nodeOf_34 : decode b_M_nodeOf 34 = .ok (.ifCond .eq 20, 3) := by decide +kernel
theorem d_M_nodeOf_37 : decode b_M_nodeOf 37 = .ok (.aload_n 0, 1) := by decide +kernel
theorem d_M_nodeOf_38 : decode b_M_nodeOf 38 = .ok (.getfield 65, 3) := by decide +kernel
theorem d_M_nodeOf_41 : decode b_M_nodeOf 41 = .ok (.iload_n 3, 1) := by decide +kernel
theorem d_M_nodeOf_42 : decode b_M_nodeOf 42 = .ok (.laload, 1) := by decide +kernel
theorem d_M_nodeOf_43 : decode b_M_nodeOf 43 = .ok (.ldc2_w 168, 3) := by decide +kernel
theorem d_M_nodeOf_46 : decode b_M_nodeOf 46 = .ok (.lcmp, 1) := by decide +kernel
theorem d_M_nodeOf_47 : decode b_M_nodeOf 47 = .ok (.ifCond .ne 7, 3) := by decide +kernel
theorem d_M_nodeOf_50 : decode b_M_nodeOf 50 = .ok (.iconst 1, 1) := by decide +kernel
theorem d_M_nodeOf_51 : decode b_M_nodeOf 51 = .ok (.goto 4, 3) := by decide +kernel
theorem d_M_nodeOf_54 : decode b_M_nodeOf 54 = .ok (.iconst 0, 1) := by decide +kernel
theorem d_M_nodeOf_55 : decode b_M_nodeOf 55 = .ok (.istore_n 2, 1) := by decide +kernel
theorem d_M_nodeOf_56 : decode b_M_nodeOf 56 = .ok (.iinc 3 1, 3) := by decide +kernel
theorem d_M_nodeOf_59 : decode b_M_nodeOf 59 = .ok (.goto (-53), 3) := by decide +kernel
theorem d_M_nodeOf_62 : decode b_M_nodeOf 62 = .ok (.iload_n 1, 1) := by decide +kernel
theorem d_M_nodeOf_63 : decode b_M_nodeOf 63 = .ok (.ifCond .ne 7, 3) := by decide +kernel
theorem d_M_nodeOf_66 : decode b_M_nodeOf 66 = .ok (.iload_n 2, 1) := by decide +kernel
theorem d_M_nodeOf_67 : decode b_M_nodeOf 67 = .ok (.ifCond .eq 15, 3) := by decide +kernel
theorem d_M_nodeOf_70 : decode b_M_nodeOf 70 = .ok (.iload_n 1, 1) := by decide +kernel
theorem d_M_nodeOf_71 : decode b_M_nodeOf 71 = .ok (.ifCond .eq 8, 3) := by decide +kernel
theorem d_M_nodeOf_74 : decode b_M_nodeOf 74 = .ok (.bipush (-2), 2) := by decide +kernel
theorem d_M_nodeOf_76 : decode b_M_nodeOf 76 = .ok (.goto 5, 3) := by decide +kernel
theorem d_M_nodeOf_79 : decode b_M_nodeOf 79 = .ok (.bipush (-3), 2) := by decide +kernel
theorem d_M_nodeOf_81 : decode b_M_nodeOf 81 = .ok (.ireturn, 1) := by decide +kernel
theorem d_M_nodeOf_82 : decode b_M_nodeOf 82 = .ok (.iconst 0, 1) := by decide +kernel
theorem d_M_nodeOf_83 : decode b_M_nodeOf 83 = .ok (.istore_n 3, 1) := by decide +kernel
theorem d_M_nodeOf_84 : decode b_M_nodeOf 84 = .ok (.iload_n 3, 1) := by decide +kernel
theorem d_M_nodeOf_85 : decode b_M_nodeOf 85 = .ok (.aload_n 0, 1) := by decide +kernel
theorem d_M_nodeOf_86 : decode b_M_nodeOf 86 = .ok (.getfield 186, 3) := by decide +kernel
theorem d_M_nodeOf_89 : decode b_M_nodeOf 89 = .ok (.if_icmp .ge 70, 3) := by decide +kernel
theorem d_M_nodeOf_92 : decode b_M_nodeOf 92 = .ok (.iconst 1, 1) := by decide +kernel
theorem d_M_nodeOf_93 : decode b_M_nodeOf 93 = .ok (.istore 4, 2) := by decide +kernel
theorem d_M_nodeOf_95 : decode b_M_nodeOf 95 = .ok (.iconst 0, 1) := by decide +kernel
theorem d_M_nodeOf_96 : decode b_M_nodeOf 96 = .ok (.istore 5, 2) := by decide +kernel
theorem d_M_nodeOf_98 : decode b_M_nodeOf 98 = .ok (.iload 5, 2) := by decide +kernel
theorem d_M_nodeOf_100 : decode b_M_nodeOf 100 = .ok (.bipush 16, 2) := by decide +kernel
theorem d_M_nodeOf_102 : decode b_M_nodeOf 102 = .ok (.if_icmp .ge 44, 3) := by decide +kernel
theorem d_M_nodeOf_105 : decode b_M_nodeOf 105 = .ok (.iload 4, 2) := by decide +kernel
theorem d_M_nodeOf_107 : decode b_M_nodeOf 107 = .ok (.ifCond .eq 30, 3) := by decide +kernel
theorem d_M_nodeOf_110 : decode b_M_nodeOf 110 = .ok (.aload_n 0, 1) := by decide +kernel
theorem d_M_nodeOf_111 : decode b_M_nodeOf 111 = .ok (.getfield 68, 3) := by decide +kernel
theorem d_M_nodeOf_114 : decode b_M_nodeOf 114 = .ok (.bipush 16, 2) := by decide +kernel
theorem d_M_nodeOf_116 : decode b_M_nodeOf 116 = .ok (.iload_n 3, 1) := by decide +kernel
theorem d_M_nodeOf_117 : decode b_M_nodeOf 117 = .ok (.imul, 1) := by decide +kernel
theorem d_M_nodeOf_118 : decode b_M_nodeOf 118 = .ok (.iload 5, 2) := by decide +kernel
theorem d_M_nodeOf_120 : decode b_M_nodeOf 120 = .ok (.iadd, 1) := by decide +kernel
theorem d_M_nodeOf_121 : decode b_M_nodeOf 121 = .ok (.laload, 1) := by decide +kernel
theorem d_M_nodeOf_122 : decode b_M_nodeOf 122 = .ok (.aload_n 0, 1) := by decide +kernel
theorem d_M_nodeOf_123 : decode b_M_nodeOf 123 = .ok (.getfield 65, 3) := by decide +kernel
theorem d_M_nodeOf_126 : decode b_M_nodeOf 126 = .ok (.iload 5, 2) := by decide +kernel
theorem d_M_nodeOf_128 : decode b_M_nodeOf 128 = .ok (.laload, 1) := by decide +kernel
theorem d_M_nodeOf_129 : decode b_M_nodeOf 129 = .ok (.lcmp, 1) := by decide +kernel
theorem d_M_nodeOf_130 : decode b_M_nodeOf 130 = .ok (.ifCond .ne 7, 3) := by decide +kernel
theorem d_M_nodeOf_133 : decode b_M_nodeOf 133 = .ok (.iconst 1, 1) := by decide +kernel
theorem d_M_nodeOf_134 : decode b_M_nodeOf 134 = .ok (.goto 4, 3) := by decide +kernel
theorem d_M_nodeOf_137 : decode b_M_nodeOf 137 = .ok (.iconst 0, 1) := by decide +kernel
theorem d_M_nodeOf_138 : decode b_M_nodeOf 138 = .ok (.istore 4, 2) := by decide +kernel
theorem d_M_nodeOf_140 : decode b_M_nodeOf 140 = .ok (.iinc 5 1, 3) := by decide +kernel
theorem d_M_nodeOf_143 : decode b_M_nodeOf 143 = .ok (.goto (-45), 3) := by decide +kernel
theorem d_M_nodeOf_146 : decode b_M_nodeOf 146 = .ok (.iload 4, 2) := by decide +kernel
theorem d_M_nodeOf_148 : decode b_M_nodeOf 148 = .ok (.ifCond .eq 5, 3) := by decide +kernel
theorem d_M_nodeOf_151 : decode b_M_nodeOf 151 = .ok (.iload_n 3, 1) := by decide +kernel
theorem d_M_nodeOf_152 : decode b_M_nodeOf 152 = .ok (.ireturn, 1) := by decide +kernel
theorem d_M_nodeOf_153 : decode b_M_nodeOf 153 = .ok (.iinc 3 1, 3) := by decide +kernel
theorem d_M_nodeOf_156 : decode b_M_nodeOf 156 = .ok (.goto (-72), 3) := by decide +kernel
theorem d_M_nodeOf_159 : decode b_M_nodeOf 159 = .ok (.iconst 0, 1) := by decide +kernel
theorem d_M_nodeOf_160 : decode b_M_nodeOf 160 = .ok (.istore_n 3, 1) := by decide +kernel
theorem d_M_nodeOf_161 : decode b_M_nodeOf 161 = .ok (.iload_n 3, 1) := by decide +kernel
theorem d_M_nodeOf_162 : decode b_M_nodeOf 162 = .ok (.bipush 16, 2) := by decide +kernel
theorem d_M_nodeOf_164 : decode b_M_nodeOf 164 = .ok (.if_icmp .ge 29, 3) := by decide +kernel
theorem d_M_nodeOf_167 : decode b_M_nodeOf 167 = .ok (.aload_n 0, 1) := by decide +kernel
theorem d_M_nodeOf_168 : decode b_M_nodeOf 168 = .ok (.getfield 68, 3) := by decide +kernel
theorem d_M_nodeOf_171 : decode b_M_nodeOf 171 = .ok (.bipush 16, 2) := by decide +kernel
theorem d_M_nodeOf_173 : decode b_M_nodeOf 173 = .ok (.aload_n 0, 1) := by decide +kernel
theorem d_M_nodeOf_174 : decode b_M_nodeOf 174 = .ok (.getfield 186, 3) := by decide +kernel
theorem d_M_nodeOf_177 : decode b_M_nodeOf 177 = .ok (.imul, 1) := by decide +kernel
theorem d_M_nodeOf_178 : decode b_M_nodeOf 178 = .ok (.iload_n 3, 1) := by decide +kernel
theorem d_M_nodeOf_179 : decode b_M_nodeOf 179 = .ok (.iadd, 1) := by decide +kernel
theorem d_M_nodeOf_180 : decode b_M_nodeOf 180 = .ok (.aload_n 0, 1) := by decide +kernel
theorem d_M_nodeOf_181 : decode b_M_nodeOf 181 = .ok (.getfield 65, 3) := by decide +kernel
theorem d_M_nodeOf_184 : decode b_M_nodeOf 184 = .ok (.iload_n 3, 1) := by decide +kernel
theorem d_M_nodeOf_185 : decode b_M_nodeOf 185 = .ok (.laload, 1) := by decide +kernel
theorem d_M_nodeOf_186 : decode b_M_nodeOf 186 = .ok (.lastore, 1) := by decide +kernel
theorem d_M_nodeOf_187 : decode b_M_nodeOf 187 = .ok (.iinc 3 1, 3) := by decide +kernel
theorem d_M_nodeOf_190 : decode b_M_nodeOf 190 = .ok (.goto (-29), 3) := by decide +kernel
theorem d_M_nodeOf_193 : decode b_M_nodeOf 193 = .ok (.aload_n 0, 1) := by decide +kernel
theorem d_M_nodeOf_194 : decode b_M_nodeOf 194 = .ok (.dup, 1) := by decide +kernel
theorem d_M_nodeOf_195 : decode b_M_nodeOf 195 = .ok (.getfield 186, 3) := by decide +kernel
theorem d_M_nodeOf_198 : decode b_M_nodeOf 198 = .ok (.iconst 1, 1) := by decide +kernel
theorem d_M_nodeOf_199 : decode b_M_nodeOf 199 = .ok (.iadd, 1) := by decide +kernel
theorem d_M_nodeOf_200 : decode b_M_nodeOf 200 = .ok (.putfield 186, 3) := by decide +kernel
theorem d_M_nodeOf_203 : decode b_M_nodeOf 203 = .ok (.aload_n 0, 1) := by decide +kernel
theorem d_M_nodeOf_204 : decode b_M_nodeOf 204 = .ok (.aload_n 0, 1) := by decide +kernel
theorem d_M_nodeOf_205 : decode b_M_nodeOf 205 = .ok (.getfield 186, 3) := by decide +kernel
theorem d_M_nodeOf_208 : decode b_M_nodeOf 208 = .ok (.iconst 1, 1) := by decide +kernel
theorem d_M_nodeOf_209 : decode b_M_nodeOf 209 = .ok (.isub, 1) := by decide +kernel
theorem d_M_nodeOf_210 : decode b_M_nodeOf 210 = .ok (.invokevirtual 189, 3) := by decide +kernel
theorem d_M_nodeOf_213 : decode b_M_nodeOf 213 = .ok (.pop, 1) := by decide +kernel
theorem d_M_nodeOf_214 : decode b_M_nodeOf 214 = .ok (.aload_n 0, 1) := by decide +kernel
theorem d_M_nodeOf_215 : decode b_M_nodeOf 215 = .ok (.getfield 186, 3) := by decide +kernel
theorem d_M_nodeOf_218 : decode b_M_nodeOf 218 = .ok (.iconst 1, 1) := by decide +kernel
theorem d_M_nodeOf_219 : decode b_M_nodeOf 219 = .ok (.isub, 1) := by decide +kernel
theorem d_M_nodeOf_220 : decode b_M_nodeOf 220 = .ok (.ireturn, 1) := by decide +kernel
theorem d_M_interpolate_0 : decode b_M_interpolate 0 = .ok (.iload_n 1, 1) := by decide +kernel
theorem d_M_interpolate_1 : decode b_M_interpolate 1 = .ok (.iconst 1, 1) := by decide +kernel
theorem d_M_interpolate_2 : decode b_M_interpolate 2 = .ok (.bipush 7, 2) := by decide +kernel
theorem d_M_interpolate_4 : decode b_M_interpolate 4 = .ok (.invokestatic 144, 3) := by decide +kernel
theorem d_M_interpolate_7 : decode b_M_interpolate 7 = .ok (.ifCond .eq 12, 3) := by decide +kernel
theorem d_M_interpolate_10 : decode b_M_interpolate 10 = .ok (.iload_n 2, 1) := by decide +kernel
theorem d_M_interpolate_11 : decode b_M_interpolate 11 = .ok (.iconst 0, 1) := by decide +kernel
theorem d_M_interpolate_12 : decode b_M_interpolate 12 = .ok (.iconst 3, 1) := by decide +kernel
theorem d_M_interpolate_13 : decode b_M_interpolate 13 = .ok (.invokestatic 144, 3) := by decide +kernel
theorem d_M_interpolate_16 : decode b_M_interpolate 16 = .ok (.ifCond .ne 6, 3) := by decide +kernel
theorem d_M_interpolate_19 : decode b_M_interpolate 19 = .ok (.bipush (-2), 2) := by decide +kernel
theorem d_M_interpolate_21 : decode b_M_interpolate 21 = .ok (.ireturn, 1) := by decide +kernel
theorem d_M_interpolate_22 : decode b_M_interpolate 22 = .ok (.aload_n 0, 1) := by decide +kernel
theorem d_M_interpolate_23 : decode b_M_interpolate 23 = .ok (.getfield 35, 3) := by decide +kernel
theorem d_M_interpolate_26 : decode b_M_interpolate 26 = .ok (.iconst (-1), 1) := by decide +kernel
theorem d_M_interpolate_27 : decode b_M_interpolate 27 = .ok (.if_icmp .ne 5, 3) := by decide +kernel
theorem d_M_interpolate_30 : decode b_M_interpolate 30 = .ok (.iconst (-1), 1) := by decide +kernel
theorem d_M_interpolate_31 : decode b_M_interpolate 31 = .ok (.ireturn, 1) := by decide +kernel
theorem d_M_interpolate_32 : decode b_M_interpolate 32 = .ok (.aload_n 0, 1) := by decide +kernel
theorem d_M_interpolate_33 : decode b_M_interpolate 33 = .ok (.iload_n 1, 1) := by decide +kernel
theorem d_M_interpolate_34 : decode b_M_interpolate 34 = .ok (.iload_n 2, 1) := by decide +kernel
theorem d_M_interpolate_35 : decode b_M_interpolate 35 = .ok (.invokevirtual 196, 3) := by decide +kernel
theorem d_M_interpolate_38 : decode b_M_interpolate 38 = .ok (.iconst 0, 1) := by decide +kernel
theorem d_M_interpolate_39 : decode b_M_interpolate 39 = .ok (.istore_n 3, 1) := by decide +kernel
theorem d_M_interpolate_40 : decode b_M_interpolate 40 = .ok (.iload_n 3, 1) := by decide +kernel
theorem d_M_interpolate_41 : decode b_M_interpolate 41 = .ok (.sipush 202, 3) := by decide +kernel
theorem d_M_interpolate_44 : decode b_M_interpolate 44 = .ok (.if_icmp .ge 77, 3) := by decide +kernel
theorem d_M_interpolate_47 : decode b_M_interpolate 47 = .ok (.aload_n 0, 1) := by decide +kernel
theorem d_M_interpolate_48 : decode b_M_interpolate 48 = .ok (.getfield 56, 3) := by decide +kernel
theorem d_M_interpolate_51 : decode b_M_interpolate 51 = .ok (.iload_n 3, 1) := by decide +kernel
theorem d_M_interpolate_52 : decode b_M_interpolate 52 = .ok (.iload_n 3, 1) := by decide +kernel
theorem d_M_interpolate_53 : decode b_M_interpolate 53 = .ok (.aload_n 0, 1) := by decide +kernel
theorem d_M_interpolate_54 : decode b_M_interpolate 54 = .ok (.getfield 115, 3) := by decide +kernel
theorem d_M_interpolate_57 : decode b_M_interpolate 57 = .ok (.if_icmp .gt 16, 3) := by decide +kernel
theorem d_M_interpolate_60 : decode b_M_interpolate 60 = .ok (.aload_n 0, 1) := by decide +kernel
theorem d_M_interpolate_61 : decode b_M_interpolate 61 = .ok (.getfield 32, 3) := by decide +kernel
theorem d_M_interpolate_64 : decode b_M_interpolate 64 = .ok (.iload_n 3, 1) := by decide +kernel
theorem d_M_interpolate_65 : decode b_M_interpolate 65 = .ok (.baload, 1) := by decide +kernel
theorem d_M_interpolate_66 : decode b_M_interpolate 66 = .ok (.ifCond .eq 7, 3) := by decide +kernel
theorem d_M_interpolate_69 : decode b_M_interpolate 69 = .ok (.iconst 1, 1) := by decide +kernel
theorem d_M_interpolate_70 : decode b_M_interpolate 70 = .ok (.goto 4, 3) := by decide +kernel
theorem d_M_interpolate_73 : decode b_M_interpolate 73 = .ok (.iconst 0, 1) := by decide +kernel
theorem d_M_interpolate_74 : decode b_M_interpolate 74 = .ok (.bastore, 1) := by decide +kernel
theorem d_M_interpolate_75 : decode b_M_interpolate 75 = .ok (.iconst 0, 1) := by decide +kernel
theorem d_M_interpolate_76 : decode b_M_interpolate 76 = .ok (.istore 4, 2) := by decide +kernel
theorem d_M_interpolate_78 : decode b_M_interpolate 78 = .ok (.iload 4, 2) := by decide +kernel
theorem d_M_interpolate_80 : decode b_M_interpolate 80 = .ok (.bipush 16, 2) := by decide +kernel
theorem d_M_interpolate_82 : decode b_M_interpolate 82 = .ok (.if_icmp .ge 33, 3) := by decide +kernel
theorem d_M_interpolate_85 : decode b_M_interpolate 85 = .ok (.aload_n 0, 1) := by decide +kernel
theorem d_M_interpolate_86 : decode b_M_interpolate 86 = .ok (.getfield 53, 3) := by decide +kernel
theorem d_M_interpolate_89 : decode b_M_interpolate 89 = .ok (.bipush 16, 2) := by decide +kernel
theorem d_M_interpolate_91 : decode b_M_interpolate 91 = .ok (.iload_n 3, 1) := by decide +kernel
theorem d_M_interpolate_92 : decode b_M_interpolate 92 = .ok (.imul, 1) := by decide +kernel
theorem d_M_interpolate_93 : decode b_M_interpolate 93 = .ok (.iload 4, 2) := by decide +kernel
theorem d_M_interpolate_95 : decode b_M_interpolate 95 = .ok (.iadd, 1) := by decide +kernel
theorem d_M_interpolate_96 : decode b_M_interpolate 96 = .ok (.aload_n 0, 1) := by decide +kernel
theorem d_M_interpolate_97 : decode b_M_interpolate 97 = .ok (.getfield 49, 3) := by decide +kernel
theorem d_M_interpolate_100 : decode b_M_interpolate 100 = .ok (.bipush 16, 2) := by decide +kernel
theorem d_M_interpolate_102 : decode b_M_interpolate 102 = .ok (.iload_n 3, 1) := by decide +kernel
theorem d_M_interpolate_103 : decode b_M_interpolate 103 = .ok (.imul, 1) := by decide +kernel
theorem d_M_interpolate_104 : decode b_M_interpolate 104 = .ok (.iload 4, 2) := by decide +kernel
theorem d_M_interpolate_106 : decode b_M_interpolate 106 = .ok (.iadd, 1) := by decide +kernel
theorem d_M_interpolate_107 : decode b_M_interpolate 107 = .ok (.laload, 1) := by decide +kernel
theorem d_M_interpolate_108 : decode b_M_interpolate 108 = .ok (.lastore, 1) := by decide +kernel
theorem d_M_interpolate_109 : decode b_M_interpolate 109 = .ok (.iinc 4 1, 3) := by decide +kernel
theorem d_M_interpolate_112 : decode b_M_interpolate 112 = .ok (.goto (-34), 3) := by decide +kernel
theorem d_M_interpolate_115 : decode b_M_interpolate 115 = .ok (.iinc 3 1, 3) := by decide +kernel
theorem d_M_interpolate_118 : decode b_M_interpolate 118 = .ok (.goto (-78), 3) := by decide +kernel
theorem d_M_interpolate_121 : decode b_M_interpolate 121 = .ok (.iconst 0, 1) := by decide +kernel
theorem d_M_interpolate_122 : decode b_M_interpolate 122 = .ok (.istore_n 3, 1) := by decide +kernel
theorem d_M_interpolate_123 : decode b_M_interpolate 123 = .ok (.iload_n 3, 1) := by decide +kernel
theorem d_M_interpolate_124 : decode b_M_interpolate 124 = .ok (.bipush 16, 2) := by decide +kernel
theorem d_M_interpolate_126 : decode b_M_interpolate 126 = .ok (.if_icmp .ge 29, 3) := by decide +kernel
theorem d_M_interpolate_129 : decode b_M_interpolate 129 = .ok (.aload_n 0, 1) := by decide +kernel
theorem d_M_interpolate_130 : decode b_M_interpolate 130 = .ok (.getfield 59, 3) := by decide +kernel
theorem d_M_interpolate_133 : decode b_M_interpolate 133 = .ok (.iload_n 3, 1) := by decide +kernel
theorem d_M_interpolate_134 : decode b_M_interpolate 134 = .ok (.aload_n 0, 1) := by decide +kernel
theorem d_M_interpolate_135 : decode b_M_interpolate 135 = .ok (.getfield 49, 3) := by decide +kernel
theorem d_M_interpolate_138 : decode b_M_interpolate 138 = .ok (.bipush 16, 2) := by decide +kernel
theorem d_M_interpolate_140 : decode b_M_interpolate 140 = .ok (.aload_n 0, 1) := by decide +kernel
theorem d_M_interpolate_141 : decode b_M_interpolate 141 = .ok (.getfield 35, 3) := by decide +kernel
theorem d_M_interpolate_144 : decode b_M_interpolate 144 = .ok (.imul, 1) := by decide +kernel
theorem d_M_interpolate_145 : decode b_M_interpolate 145 = .ok (.iload_n 3, 1) := by decide +kernel
theorem d_M_interpolate_146 : decode b_M_interpolate 146 = .ok (.iadd, 1) := by decide +kernel
theorem d_M_interpolate_147 : decode b_M_interpolate 147 = .ok (.laload, 1) := by decide +kernel
theorem d_M_interpolate_148 : decode b_M_interpolate 148 = .ok (.lastore, 1) := by decide +kernel
theorem d_M_interpolate_149 : decode b_M_interpolate 149 = .ok (.iinc 3 1, 3) := by decide +kernel
theorem d_M_interpolate_152 : decode b_M_interpolate 152 = .ok (.goto (-29), 3) := by decide +kernel
theorem d_M_interpolate_155 : decode b_M_interpolate 155 = .ok (.aload_n 0, 1) := by decide +kernel
theorem d_M_interpolate_156 : decode b_M_interpolate 156 = .ok (.iconst 1, 1) := by decide +kernel
theorem d_M_interpolate_157 : decode b_M_interpolate 157 = .ok (.putfield 200, 3) := by decide +kernel
theorem d_M_interpolate_160 : decode b_M_interpolate 160 = .ok (.aload_n 0, 1) := by decide +kernel
theorem d_M_interpolate_161 : decode b_M_interpolate 161 = .ok (.invokevirtual 204, 3) := by decide +kernel
theorem d_M_interpolate_164 : decode b_M_interpolate 164 = .ok (.aload_n 0, 1) := by decide +kernel
theorem d_M_interpolate_165 : decode b_M_interpolate 165 = .ok (.getfield 186, 3) := by decide +kernel
theorem d_M_interpolate_168 : decode b_M_interpolate 168 = .ok (.ireturn, 1) := by decide +kernel
theorem d_M_prt_0 : decode b_M_prt 0 = .ok (.aload_n 0, 1) := by decide +kernel
theorem d_M_prt_1 : decode b_M_prt 1 = .ok (.getfield 200, 3) := by decide +kernel
theorem d_M_prt_4 : decode b_M_prt 4 = .ok (.ifCond .eq 34, 3) := by decide +kernel
theorem d_M_prt_7 : decode b_M_prt 7 = .ok (.iload_n 1, 1) := by decide +kernel
theorem d_M_prt_8 : decode b_M_prt 8 = .ok (.iconst 1, 1) := by decide +kernel
theorem d_M_prt_9 : decode b_M_prt 9 = .ok (.sipush 201, 3) := by decide +kernel
theorem d_M_prt_12 : decode b_M_prt 12 = .ok (.invokestatic 144, 3) := by decide +kernel
theorem d_M_prt_15 : decode b_M_prt 15 = .ok (.ifCond .eq 23, 3) := by decide +kernel
theorem d_M_prt_18 : decode b_M_prt 18 = .ok (.aload_n 0, 1) := by decide +kernel
theorem d_M_prt_19 : decode b_M_prt 19 = .ok (.getfield 56, 3) := by decide +kernel
theorem d_M_prt_22 : decode b_M_prt 22 = .ok (.iload_n 1, 1) := by decide +kernel
theorem d_M_prt_23 : decode b_M_prt 23 = .ok (.baload, 1) := by decide +kernel
theorem d_M_prt_24 : decode b_M_prt 24 = .ok (.ifCond .eq 14, 3) := by decide +kernel
theorem d_M_prt_27 : decode b_M_prt 27 = .ok (.iload_n 2, 1) := by decide +kernel
theorem d_M_prt_28 : decode b_M_prt 28 = .ok (.iconst 0, 1) := by decide +kernel
theorem d_M_prt_29 : decode b_M_prt 29 = .ok (.sipush 1023, 3) := by decide +kernel
theorem d_M_prt_32 : decode b_M_prt 32 = .ok (.invokestatic 144, 3) := by decide +kernel
theorem d_M_prt_35 : decode b_M_prt 35 = .ok (.ifCond .ne 5, 3) := by decide +kernel
theorem d_M_prt_38 : decode b_M_prt 38 = .ok (.iconst (-1), 1) := by decide +kernel
theorem d_M_prt_39 : decode b_M_prt 39 = .ok (.ireturn, 1) := by decide +kernel
theorem d_M_prt_40 : decode b_M_prt 40 = .ok (.aload_n 0, 1) := by decide +kernel
theorem d_M_prt_41 : decode b_M_prt 41 = .ok (.getfield 53, 3) := by decide +kernel
theorem d_M_prt_44 : decode b_M_prt 44 = .ok (.bipush 16, 2) := by decide +kernel
theorem d_M_prt_46 : decode b_M_prt 46 = .ok (.iload_n 1, 1) := by decide +kernel
theorem d_M_prt_47 : decode b_M_prt 47 = .ok (.imul, 1) := by decide +kernel
theorem d_M_prt_48 : decode b_M_prt 48 = .ok (.iload_n 2, 1) := by decide +kernel
theorem d_M_prt_49 : decode b_M_prt 49 = .ok (.bipush 6, 2) := by decide +kernel
theorem d_M_prt_51 : decode b_M_prt 51 = .ok (.ishr, 1) := by decide +kernel
theorem d_M_prt_52 : decode b_M_prt 52 = .ok (.iadd, 1) := by decide +kernel
theorem d_M_prt_53 : decode b_M_prt 53 = .ok (.laload, 1) := by decide +kernel
theorem d_M_prt_54 : decode b_M_prt 54 = .ok (.iload_n 2, 1) := by decide +kernel
theorem d_M_prt_55 : decode b_M_prt 55 = .ok (.bipush 63, 2) := by decide +kernel
theorem d_M_prt_57 : decode b_M_prt 57 = .ok (.iand, 1) := by decide +kernel
theorem d_M_prt_58 : decode b_M_prt 58 = .ok (.lshr, 1) := by decide +kernel
theorem d_M_prt_59 : decode b_M_prt 59 = .ok (.lconst 1, 1) := by decide +kernel
theorem d_M_prt_60 : decode b_M_prt 60 = .ok (.land, 1) := by decide +kernel
theorem d_M_prt_61 : decode b_M_prt 61 = .ok (.l2i, 1) := by decide +kernel
theorem d_M_prt_62 : decode b_M_prt 62 = .ok (.ireturn, 1) := by decide +kernel
theorem d_M_told_0 : decode b_M_told 0 = .ok (.aload_n 0, 1) := by decide +kernel
theorem d_M_told_1 : decode b_M_told 1 = .ok (.getfield 200, 3) := by decide +kernel
theorem d_M_told_4 : decode b_M_told 4 = .ok (.ifCond .ne 5, 3) := by decide +kernel
theorem d_M_told_7 : decode b_M_told 7 = .ok (.iconst (-1), 1) := by decide +kernel
theorem d_M_told_8 : decode b_M_told 8 = .ok (.ireturn, 1) := by decide +kernel
theorem d_M_told_9 : decode b_M_told 9 = .ok (.iconst 0, 1) := by decide +kernel
theorem d_M_told_10 : decode b_M_told 10 = .ok (.istore_n 2, 1) := by decide +kernel
theorem d_M_told_11 : decode b_M_told 11 = .ok (.iload_n 1, 1) := by decide +kernel
theorem d_M_told_12 : decode b_M_told 12 = .ok (.ifCond .ne 31, 3) := by decide +kernel
theorem d_M_told_15 : decode b_M_told 15 = .ok (.iconst 0, 1) := by decide +kernel
theorem d_M_told_16 : decode b_M_told 16 = .ok (.istore_n 3, 1) := by decide +kernel
theorem d_M_told_17 : decode b_M_told 17 = .ok (.iload_n 3, 1) := by decide +kernel
theorem d_M_told_18 : decode b_M_told 18 = .ok (.bipush 16, 2) := by decide +kernel
theorem d_M_told_20 : decode b_M_told 20 = .ok (.if_icmp .ge 21, 3) := by decide +kernel
theorem d_M_told_23 : decode b_M_told 23 = .ok (.iload_n 2, 1) := by decide +kernel
theorem d_M_told_24 : decode b_M_told 24 = .ok (.aload_n 0, 1) := by decide +kernel
theorem d_M_told_25 : decode b_M_told 25 = .ok (.getfield 59, 3) := by decide +kernel
theorem d_M_told_28 : decode b_M_told 28 = .ok (.iload_n 3, 1) := by decide +kernel
theorem d_M_told_29 : decode b_M_told 29 = .ok (.laload, 1) := by decide +kernel
theorem d_M_told_30 : decode b_M_told 30 = .ok (.invokestatic 207, 3) := by decide +kernel
theorem d_M_told_33 : decode b_M_told 33 = .ok (.iadd, 1) := by decide +kernel
theorem d_M_told_34 : decode b_M_told 34 = .ok (.istore_n 2, 1) := by decide +kernel
theorem d_M_told_35 : decode b_M_told 35 = .ok (.iinc 3 1, 3) := by decide +kernel
theorem d_M_told_38 : decode b_M_told 38 = .ok (.goto (-21), 3) := by decide +kernel
theorem d_M_told_41 : decode b_M_told 41 = .ok (.iload_n 2, 1) := by decide +kernel
theorem d_M_told_42 : decode b_M_told 42 = .ok (.ireturn, 1) := by decide +kernel
theorem d_M_told_43 : decode b_M_told 43 = .ok (.iload_n 1, 1) := by decide +kernel
theorem d_M_told_44 : decode b_M_told 44 = .ok (.iconst 1, 1) := by decide +kernel
theorem d_M_told_45 : decode b_M_told 45 = .ok (.if_icmp .eq 5, 3) := by decide +kernel
theorem d_M_told_48 : decode b_M_told 48 = .ok (.iconst (-1), 1) := by decide +kernel
theorem d_M_told_49 : decode b_M_told 49 = .ok (.ireturn, 1) := by decide +kernel
theorem d_M_told_50 : decode b_M_told 50 = .ok (.iconst 0, 1) := by decide +kernel
theorem d_M_told_51 : decode b_M_told 51 = .ok (.istore_n 3, 1) := by decide +kernel
theorem d_M_told_52 : decode b_M_told 52 = .ok (.iload_n 3, 1) := by decide +kernel
theorem d_M_told_53 : decode b_M_told 53 = .ok (.aload_n 0, 1) := by decide +kernel
theorem d_M_told_54 : decode b_M_told 54 = .ok (.getfield 186, 3) := by decide +kernel
theorem d_M_told_57 : decode b_M_told 57 = .ok (.if_icmp .ge 22, 3) := by decide +kernel
theorem d_M_told_60 : decode b_M_told 60 = .ok (.iload_n 2, 1) := by decide +kernel
theorem d_M_told_61 : decode b_M_told 61 = .ok (.iconst 1, 1) := by decide +kernel
theorem d_M_told_62 : decode b_M_told 62 = .ok (.aload_n 0, 1) := by decide +kernel
theorem d_M_told_63 : decode b_M_told 63 = .ok (.getfield 71, 3) := by decide +kernel
theorem d_M_told_66 : decode b_M_told 66 = .ok (.iload_n 3, 1) := by decide +kernel
theorem d_M_told_67 : decode b_M_told 67 = .ok (.iaload, 1) := by decide +kernel
theorem d_M_told_68 : decode b_M_told 68 = .ok (.iconst 1, 1) := by decide +kernel
theorem d_M_told_69 : decode b_M_told 69 = .ok (.isub, 1) := by decide +kernel
theorem d_M_told_70 : decode b_M_told 70 = .ok (.ishl, 1) := by decide +kernel
theorem d_M_told_71 : decode b_M_told 71 = .ok (.ior, 1) := by decide +kernel
theorem d_M_told_72 : decode b_M_told 72 = .ok (.istore_n 2, 1) := by decide +kernel
theorem d_M_told_73 : decode b_M_told 73 = .ok (.iinc 3 1, 3) := by decide +kernel
theorem d_M_told_76 : decode b_M_told 76 = .ok (.goto (-24), 3) := by decide +kernel
theorem d_M_told_79 : decode b_M_told 79 = .ok (.iload_n 2, 1) := by decide +kernel
theorem d_M_told_80 : decode b_M_told 80 = .ok (.ireturn, 1) := by decide +kernel
theorem d_M_follows_0 : decode b_M_follows 0 = .ok (.iload_n 1, 1) := by decide +kernel
theorem d_M_follows_1 : decode b_M_follows 1 = .ok (.iconst 1, 1) := by decide +kernel
theorem d_M_follows_2 : decode b_M_follows 2 = .ok (.bipush 7, 2) := by decide +kernel
theorem d_M_follows_4 : decode b_M_follows 4 = .ok (.invokestatic 144, 3) := by decide +kernel
theorem d_M_follows_7 : decode b_M_follows 7 = .ok (.ifCond .eq 21, 3) := by decide +kernel
theorem d_M_follows_10 : decode b_M_follows 10 = .ok (.iload_n 2, 1) := by decide +kernel
theorem d_M_follows_11 : decode b_M_follows 11 = .ok (.iconst 0, 1) := by decide +kernel
theorem d_M_follows_12 : decode b_M_follows 12 = .ok (.iconst 3, 1) := by decide +kernel
theorem d_M_follows_13 : decode b_M_follows 13 = .ok (.invokestatic 144, 3) := by decide +kernel
theorem d_M_follows_16 : decode b_M_follows 16 = .ok (.ifCond .eq 12, 3) := by decide +kernel
theorem d_M_follows_19 : decode b_M_follows 19 = .ok (.iload_n 3, 1) := by decide +kernel
theorem d_M_follows_20 : decode b_M_follows 20 = .ok (.iconst 0, 1) := by decide +kernel
theorem d_M_follows_21 : decode b_M_follows 21 = .ok (.iconst 3, 1) := by decide +kernel
theorem d_M_follows_22 : decode b_M_follows 22 = .ok (.invokestatic 144, 3) := by decide +kernel
theorem d_M_follows_25 : decode b_M_follows 25 = .ok (.ifCond .ne 6, 3) := by decide +kernel
theorem d_M_follows_28 : decode b_M_follows 28 = .ok (.bipush (-2), 2) := by decide +kernel
theorem d_M_follows_30 : decode b_M_follows 30 = .ok (.ireturn, 1) := by decide +kernel
theorem d_M_follows_31 : decode b_M_follows 31 = .ok (.aload_n 0, 1) := by decide +kernel
theorem d_M_follows_32 : decode b_M_follows 32 = .ok (.getfield 35, 3) := by decide +kernel
theorem d_M_follows_35 : decode b_M_follows 35 = .ok (.iconst (-1), 1) := by decide +kernel
theorem d_M_follows_36 : decode b_M_follows 36 = .ok (.if_icmp .ne 5, 3) := by decide +kernel
theorem d_M_follows_39 : decode b_M_follows 39 = .ok (.iconst (-1), 1) := by decide +kernel
theorem d_M_follows_40 : decode b_M_follows 40 = .ok (.ireturn, 1) := by decide +kernel
theorem d_M_follows_41 : decode b_M_follows 41 = .ok (.aload_n 0, 1) := by decide +kernel
theorem d_M_follows_42 : decode b_M_follows 42 = .ok (.iload_n 1, 1) := by decide +kernel
theorem d_M_follows_43 : decode b_M_follows 43 = .ok (.iload_n 2, 1) := by decide +kernel
theorem d_M_follows_44 : decode b_M_follows 44 = .ok (.invokevirtual 196, 3) := by decide +kernel
theorem d_M_follows_47 : decode b_M_follows 47 = .ok (.iconst 0, 1) := by decide +kernel
theorem d_M_follows_48 : decode b_M_follows 48 = .ok (.istore 4, 2) := by decide +kernel
theorem d_M_follows_50 : decode b_M_follows 50 = .ok (.iload 4, 2) := by decide +kernel
theorem d_M_follows_52 : decode b_M_follows 52 = .ok (.bipush 16, 2) := by decide +kernel
theorem d_M_follows_54 : decode b_M_follows 54 = .ok (.if_icmp .ge 31, 3) := by decide +kernel
theorem d_M_follows_57 : decode b_M_follows 57 = .ok (.aload_n 0, 1) := by decide +kernel
theorem d_M_follows_58 : decode b_M_follows 58 = .ok (.getfield 62, 3) := by decide +kernel
theorem d_M_follows_61 : decode b_M_follows 61 = .ok (.iload 4, 2) := by decide +kernel
theorem d_M_follows_63 : decode b_M_follows 63 = .ok (.aload_n 0, 1) := by decide +kernel
theorem d_M_follows_64 : decode b_M_follows 64 = .ok (.getfield 49, 3) := by decide +kernel
theorem d_M_follows_67 : decode b_M_follows 67 = .ok (.bipush 16, 2) := by decide +kernel
theorem d_M_follows_69 : decode b_M_follows 69 = .ok (.aload_n 0, 1) := by decide +kernel
theorem d_M_follows_70 : decode b_M_follows 70 = .ok (.getfield 35, 3) := by decide +kernel
theorem d_M_follows_73 : decode b_M_follows 73 = .ok (.imul, 1) := by decide +kernel
theorem d_M_follows_74 : decode b_M_follows 74 = .ok (.iload 4, 2) := by decide +kernel
theorem d_M_follows_76 : decode b_M_follows 76 = .ok (.iadd, 1) := by decide +kernel
theorem d_M_follows_77 : decode b_M_follows 77 = .ok (.laload, 1) := by decide +kernel
theorem d_M_follows_78 : decode b_M_follows 78 = .ok (.lastore, 1) := by decide +kernel
theorem d_M_follows_79 : decode b_M_follows 79 = .ok (.iinc 4 1, 3) := by decide +kernel
theorem d_M_follows_82 : decode b_M_follows 82 = .ok (.goto (-32), 3) := by decide +kernel
theorem d_M_follows_85 : decode b_M_follows 85 = .ok (.aload_n 0, 1) := by decide +kernel
theorem d_M_follows_86 : decode b_M_follows 86 = .ok (.iload_n 1, 1) := by decide +kernel
theorem d_M_follows_87 : decode b_M_follows 87 = .ok (.iload_n 3, 1) := by decide +kernel
theorem d_M_follows_88 : decode b_M_follows 88 = .ok (.invokevirtual 196, 3) := by decide +kernel
theorem d_M_follows_91 : decode b_M_follows 91 = .ok (.iconst 0, 1) := by decide +kernel
theorem d_M_follows_92 : decode b_M_follows 92 = .ok (.istore 4, 2) := by decide +kernel
theorem d_M_follows_94 : decode b_M_follows 94 = .ok (.iload 4, 2) := by decide +kernel
theorem d_M_follows_96 : decode b_M_follows 96 = .ok (.bipush 16, 2) := by decide +kernel
theorem d_M_follows_98 : decode b_M_follows 98 = .ok (.if_icmp .ge 43, 3) := by decide +kernel
theorem d_M_follows_101 : decode b_M_follows 101 = .ok (.aload_n 0, 1) := by decide +kernel
theorem d_M_follows_102 : decode b_M_follows 102 = .ok (.getfield 62, 3) := by decide +kernel
theorem d_M_follows_105 : decode b_M_follows 105 = .ok (.iload 4, 2) := by decide +kernel
theorem d_M_follows_107 : decode b_M_follows 107 = .ok (.laload, 1) := by decide +kernel
theorem d_M_follows_108 : decode b_M_follows 108 = .ok (.aload_n 0, 1) := by decide +kernel
theorem d_M_follows_109 : decode b_M_follows 109 = .ok (.getfield 49, 3) := by decide +kernel
theorem d_M_follows_112 : decode b_M_follows 112 = .ok (.bipush 16, 2) := by decide +kernel
theorem d_M_follows_114 : decode b_M_follows 114 = .ok (.aload_n 0, 1) := by decide +kernel
theorem d_M_follows_115 : decode b_M_follows 115 = .ok (.getfield 35, 3) := by decide +kernel
theorem d_M_follows_118 : decode b_M_follows 118 = .ok (.imul, 1) := by decide +kernel
theorem d_M_follows_119 : decode b_M_follows 119 = .ok (.iload 4, 2) := by decide +kernel
theorem d_M_follows_121 : decode b_M_follows 121 = .ok (.iadd, 1) := by decide +kernel
theorem d_M_follows_122 : decode b_M_follows 122 = .ok (.laload, 1) := by decide +kernel
theorem d_M_follows_123 : decode b_M_follows 123 = .ok (.ldc2_w 168, 3) := by decide +kernel
theorem d_M_follows_126 : decode b_M_follows 126 = .ok (.lxor, 1) := by decide +kernel
theorem d_M_follows_127 : decode b_M_follows 127 = .ok (.land, 1) := by decide +kernel
theorem d_M_follows_128 : decode b_M_follows 128 = .ok (.lconst 0, 1) := by decide +kernel
theorem d_M_follows_129 : decode b_M_follows 129 = .ok (.lcmp, 1) := by decide +kernel
theorem d_M_follows_130 : decode b_M_follows 130 = .ok (.ifCond .eq 5, 3) := by decide +kernel
theorem d_M_follows_133 : decode b_M_follows 133 = .ok (.iconst 0, 1) := by decide +kernel
theorem d_M_follows_134 : decode b_M_follows 134 = .ok (.ireturn, 1) := by decide +kernel
theorem d_M_follows_135 : decode b_M_follows 135 = .ok (.iinc 4 1, 3) := by decide +kernel
theorem d_M_follows_138 : decode b_M_follows 138 = .ok (.goto (-44), 3) := by decide +kernel
theorem d_M_follows_141 : decode b_M_follows 141 = .ok (.iconst 1, 1) := by decide +kernel
theorem d_M_follows_142 : decode b_M_follows 142 = .ok (.ireturn, 1) := by decide +kernel
theorem d_M_gap_0 : decode b_M_gap 0 = .ok (.iload_n 1, 1) := by decide +kernel
theorem d_M_gap_1 : decode b_M_gap 1 = .ok (.iconst 1, 1) := by decide +kernel
theorem d_M_gap_2 : decode b_M_gap 2 = .ok (.bipush 7, 2) := by decide +kernel
theorem d_M_gap_4 : decode b_M_gap 4 = .ok (.invokestatic 144, 3) := by decide +kernel
theorem d_M_gap_7 : decode b_M_gap 7 = .ok (.ifCond .eq 12, 3) := by decide +kernel
theorem d_M_gap_10 : decode b_M_gap 10 = .ok (.iload_n 2, 1) := by decide +kernel
theorem d_M_gap_11 : decode b_M_gap 11 = .ok (.iconst 0, 1) := by decide +kernel
theorem d_M_gap_12 : decode b_M_gap 12 = .ok (.iconst 3, 1) := by decide +kernel
theorem d_M_gap_13 : decode b_M_gap 13 = .ok (.invokestatic 144, 3) := by decide +kernel
theorem d_M_gap_16 : decode b_M_gap 16 = .ok (.ifCond .ne 6, 3) := by decide +kernel
theorem d_M_gap_19 : decode b_M_gap 19 = .ok (.bipush (-2), 2) := by decide +kernel
theorem d_M_gap_21 : decode b_M_gap 21 = .ok (.ireturn, 1) := by decide +kernel
theorem d_M_gap_22 : decode b_M_gap 22 = .ok (.aload_n 0, 1) := by decide +kernel
theorem d_M_gap_23 : decode b_M_gap 23 = .ok (.getfield 35, 3) := by decide +kernel
theorem d_M_gap_26 : decode b_M_gap 26 = .ok (.iconst (-1), 1) := by decide +kernel
theorem d_M_gap_27 : decode b_M_gap 27 = .ok (.if_icmp .eq 12, 3) := by decide +kernel
theorem d_M_gap_30 : decode b_M_gap 30 = .ok (.iload_n 3, 1) := by decide +kernel
theorem d_M_gap_31 : decode b_M_gap 31 = .ok (.iconst 0, 1) := by decide +kernel
theorem d_M_gap_32 : decode b_M_gap 32 = .ok (.iconst 2, 1) := by decide +kernel
theorem d_M_gap_33 : decode b_M_gap 33 = .ok (.invokestatic 144, 3) := by decide +kernel
theorem d_M_gap_36 : decode b_M_gap 36 = .ok (.ifCond .ne 5, 3) := by decide +kernel
theorem d_M_gap_39 : decode b_M_gap 39 = .ok (.iconst (-1), 1) := by decide +kernel
theorem d_M_gap_40 : decode b_M_gap 40 = .ok (.ireturn, 1) := by decide +kernel
theorem d_M_gap_41 : decode b_M_gap 41 = .ok (.iconst 0, 1) := by decide +kernel
theorem d_M_gap_42 : decode b_M_gap 42 = .ok (.istore 4, 2) := by decide +kernel
theorem d_M_gap_44 : decode b_M_gap 44 = .ok (.iload 4, 2) := by decide +kernel
theorem d_M_gap_46 : decode b_M_gap 46 = .ok (.bipush 16, 2) := by decide +kernel
theorem d_M_gap_48 : decode b_M_gap 48 = .ok (.if_icmp .ge 17, 3) := by decide +kernel
theorem d_M_gap_51 : decode b_M_gap 51 = .ok (.aload_n 0, 1) := by decide +kernel
theorem d_M_gap_52 : decode b_M_gap 52 = .ok (.getfield 65, 3) := by decide +kernel
theorem d_M_gap_55 : decode b_M_gap 55 = .ok (.iload 4, 2) := by decide +kernel
theorem d_M_gap_57 : decode b_M_gap 57 = .ok (.lconst 0, 1) := by decide +kernel
theorem d_M_gap_58 : decode b_M_gap 58 = .ok (.lastore, 1) := by decide +kernel
theorem d_M_gap_59 : decode b_M_gap 59 = .ok (.iinc 4 1, 3) := by decide +kernel
theorem d_M_gap_62 : decode b_M_gap 62 = .ok (.goto (-18), 3) := by decide +kernel
theorem d_M_gap_65 : decode b_M_gap 65 = .ok (.iload_n 3, 1) := by decide +kernel
theorem d_M_gap_66 : decode b_M_gap 66 = .ok (.iconst 2, 1) := by decide +kernel
theorem d_M_gap_67 : decode b_M_gap 67 = .ok (.if_icmp .ne 55, 3) := by decide +kernel
theorem d_M_gap_70 : decode b_M_gap 70 = .ok (.iload_n 1, 1) := by decide +kernel
theorem d_M_gap_71 : decode b_M_gap 71 = .ok (.bipush 7, 2) := by decide +kernel
theorem d_M_gap_73 : decode b_M_gap 73 = .ok (.if_icmp .ge 49, 3) := by decide +kernel
theorem d_M_gap_76 : decode b_M_gap 76 = .ok (.aload_n 0, 1) := by decide +kernel
theorem d_M_gap_77 : decode b_M_gap 77 = .ok (.iload_n 1, 1) := by decide +kernel
theorem d_M_gap_78 : decode b_M_gap 78 = .ok (.iconst 1, 1) := by decide +kernel
theorem d_M_gap_79 : decode b_M_gap 79 = .ok (.iadd, 1) := by decide +kernel
theorem d_M_gap_80 : decode b_M_gap 80 = .ok (.iload_n 2, 1) := by decide +kernel
theorem d_M_gap_81 : decode b_M_gap 81 = .ok (.invokevirtual 196, 3) := by decide +kernel
theorem d_M_gap_84 : decode b_M_gap 84 = .ok (.iconst 0, 1) := by decide +kernel
theorem d_M_gap_85 : decode b_M_gap 85 = .ok (.istore 4, 2) := by decide +kernel
theorem d_M_gap_87 : decode b_M_gap 87 = .ok (.iload 4, 2) := by decide +kernel
theorem d_M_gap_89 : decode b_M_gap 89 = .ok (.bipush 16, 2) := by decide +kernel
theorem d_M_gap_91 : decode b_M_gap 91 = .ok (.if_icmp .ge 31, 3) := by decide +kernel
theorem d_M_gap_94 : decode b_M_gap 94 = .ok (.aload_n 0, 1) := by decide +kernel
theorem d_M_gap_95 : decode b_M_gap 95 = .ok (.getfield 65, 3) := by decide +kernel
theorem d_M_gap_98 : decode b_M_gap 98 = .ok (.iload 4, 2) := by decide +kernel
theorem d_M_gap_100 : decode b_M_gap 100 = .ok (.aload_n 0, 1) := by decide +kernel
theorem d_M_gap_101 : decode b_M_gap 101 = .ok (.getfield 49, 3) := by decide +kernel
theorem d_M_gap_104 : decode b_M_gap 104 = .ok (.bipush 16, 2) := by decide +kernel
theorem d_M_gap_106 : decode b_M_gap 106 = .ok (.aload_n 0, 1) := by decide +kernel
theorem d_M_gap_107 : decode b_M_gap 107 = .ok (.getfield 35, 3) := by decide +kernel
theorem d_M_gap_110 : decode b_M_gap 110 = .ok (.imul, 1) := by decide +kernel
theorem d_M_gap_111 : decode b_M_gap 111 = .ok (.iload 4, 2) := by decide +kernel
theorem d_M_gap_113 : decode b_M_gap 113 = .ok (.iadd, 1) := by decide +kernel
theorem d_M_gap_114 : decode b_M_gap 114 = .ok (.laload, 1) := by decide +kernel
theorem d_M_gap_115 : decode b_M_gap 115 = .ok (.lastore, 1) := by decide +kernel
theorem d_M_gap_116 : decode b_M_gap 116 = .ok (.iinc 4 1, 3) := by decide +kernel
theorem d_M_gap_119 : decode b_M_gap 119 = .ok (.goto (-32), 3) := by decide +kernel
theorem d_M_gap_122 : decode b_M_gap 122 = .ok (.aload_n 0, 1) := by decide +kernel
theorem d_M_gap_123 : decode b_M_gap 123 = .ok (.iload_n 1, 1) := by decide +kernel
theorem d_M_gap_124 : decode b_M_gap 124 = .ok (.iload_n 2, 1) := by decide +kernel
theorem d_M_gap_125 : decode b_M_gap 125 = .ok (.invokevirtual 196, 3) := by decide +kernel
theorem d_M_gap_128 : decode b_M_gap 128 = .ok (.iconst 0, 1) := by decide +kernel
theorem d_M_gap_129 : decode b_M_gap 129 = .ok (.istore 4, 2) := by decide +kernel
theorem d_M_gap_131 : decode b_M_gap 131 = .ok (.iconst 0, 1) := by decide +kernel
theorem d_M_gap_132 : decode b_M_gap 132 = .ok (.istore 5, 2) := by decide +kernel
theorem d_M_gap_134 : decode b_M_gap 134 = .ok (.iload 5, 2) := by decide +kernel
theorem d_M_gap_136 : decode b_M_gap 136 = .ok (.bipush 16, 2) := by decide +kernel
theorem d_M_gap_138 : decode b_M_gap 138 = .ok (.if_icmp .ge 121, 3) := by decide +kernel
theorem d_M_gap_141 : decode b_M_gap 141 = .ok (.aload_n 0, 1) := by decide +kernel
theorem d_M_gap_142 : decode b_M_gap 142 = .ok (.getfield 49, 3) := by decide +kernel
theorem d_M_gap_145 : decode b_M_gap 145 = .ok (.bipush 16, 2) := by decide +kernel
theorem d_M_gap_147 : decode b_M_gap 147 = .ok (.aload_n 0, 1) := by decide +kernel
theorem d_M_gap_148 : decode b_M_gap 148 = .ok (.getfield 35, 3) := by decide +kernel
theorem d_M_gap_151 : decode b_M_gap 151 = .ok (.imul, 1) := by decide +kernel
theorem d_M_gap_152 : decode b_M_gap 152 = .ok (.iload 5, 2) := by decide +kernel
theorem d_M_gap_154 : decode b_M_gap 154 = .ok (.iadd, 1) := by decide +kernel
theorem d_M_gap_155 : decode b_M_gap 155 = .ok (.laload, 1) := by decide +kernel
theorem d_M_gap_156 : decode b_M_gap 156 = .ok (.lstore 6, 2) := by decide +kernel
theorem d_M_gap_158 : decode b_M_gap 158 = .ok (.iload_n 3, 1) := by decide +kernel
theorem d_M_gap_159 : decode b_M_gap 159 = .ok (.ifCond .ne 29, 3) := by decide +kernel
theorem d_M_gap_162 : decode b_M_gap 162 = .ok (.iload 4, 2) := by decide +kernel
theorem d_M_gap_164 : decode b_M_gap 164 = .ok (.aload_n 0, 1) := by decide +kernel
theorem d_M_gap_165 : decode b_M_gap 165 = .ok (.iconst 1, 1) := by decide +kernel
theorem d_M_gap_166 : decode b_M_gap 166 = .ok (.iload_n 1, 1) := by decide +kernel
theorem d_M_gap_167 : decode b_M_gap 167 = .ok (.iload 5, 2) := by decide +kernel
theorem d_M_gap_169 : decode b_M_gap 169 = .ok (.invokevirtual 211, 3) := by decide +kernel
theorem d_M_gap_172 : decode b_M_gap 172 = .ok (.lload 6, 2) := by decide +kernel
theorem d_M_gap_174 : decode b_M_gap 174 = .ok (.ldc2_w 168, 3) := by decide +kernel
theorem d_M_gap_177 : decode b_M_gap 177 = .ok (.lxor, 1) := by decide +kernel
theorem d_M_gap_178 : decode b_M_gap 178 = .ok (.land, 1) := by decide +kernel
theorem d_M_gap_179 : decode b_M_gap 179 = .ok (.invokestatic 207, 3) := by decide +kernel
theorem d_M_gap_182 : decode b_M_gap 182 = .ok (.iadd, 1) := by decide +kernel
theorem d_M_gap_183 : decode b_M_gap 183 = .ok (.istore 4, 2) := by decide +kernel
theorem d_M_gap_185 : decode b_M_gap 185 = .ok (.goto 68, 3) := by decide +kernel
theorem d_M_gap_188 : decode b_M_gap 188 = .ok (.iload_n 3, 1) := by decide +kernel
theorem d_M_gap_189 : decode b_M_gap 189 = .ok (.iconst 1, 1) := by decide +kernel
theorem d_M_gap_190 : decode b_M_gap 190 = .ok (.if_icmp .ne 28, 3) := by decide +kernel
theorem d_M_gap_193 : decode b_M_gap 193 = .ok (.iload 4, 2) := by decide +kernel
theorem d_M_gap_195 : decode b_M_gap 195 = .ok (.aload_n 0, 1) := by decide +kernel
theorem d_M_gap_196 : decode b_M_gap 196 = .ok (.iload_n 1, 1) := by decide +kernel
theorem d_M_gap_197 : decode b_M_gap 197 = .ok (.iconst 1, 1) := by decide +kernel
theorem d_M_gap_198 : decode b_M_gap 198 = .ok (.iadd, 1) := by decide +kernel
theorem d_M_gap_199 : decode b_M_gap 199 = .ok (.bipush 8, 2) := by decide +kernel
theorem d_M_gap_201 : decode b_M_gap 201 = .ok (.iload 5, 2) := by decide +kernel
theorem d_M_gap_203 : decode b_M_gap 203 = .ok (.invokevirtual 211, 3) := by decide +kernel
theorem d_M_gap_206 : decode b_M_gap 206 = .ok (.lload 6, 2) := by decide +kernel
theorem d_M_gap_208 : decode b_M_gap 208 = .ok (.land, 1) := by decide +kernel
theorem d_M_gap_209 : decode b_M_gap 209 = .ok (.invokestatic 207, 3) := by decide +kernel
theorem d_M_gap_212 : decode b_M_gap 212 = .ok (.iadd, 1) := by decide +kernel
theorem d_M_gap_213 : decode b_M_gap 213 = .ok (.istore 4, 2) := by decide +kernel
theorem d_M_gap_215 : decode b_M_gap 215 = .ok (.goto 38, 3) := by decide +kernel
theorem d_M_gap_218 : decode b_M_gap 218 = .ok (.iload 4, 2) := by decide +kernel
theorem d_M_gap_220 : decode b_M_gap 220 = .ok (.lload 6, 2) := by decide +kernel
theorem d_M_gap_222 : decode b_M_gap 222 = .ok (.aload_n 0, 1) := by decide +kernel
theorem d_M_gap_223 : decode b_M_gap 223 = .ok (.iload_n 1, 1) := by decide +kernel
theorem d_M_gap_224 : decode b_M_gap 224 = .ok (.iconst 1, 1) := by decide +kernel
theorem d_M_gap_225 : decode b_M_gap 225 = .ok (.iadd, 1) := by decide +kernel
theorem d_M_gap_226 : decode b_M_gap 226 = .ok (.iload_n 1, 1) := by decide +kernel
theorem d_M_gap_227 : decode b_M_gap 227 = .ok (.iconst 1, 1) := by decide +kernel
theorem d_M_gap_228 : decode b_M_gap 228 = .ok (.iadd, 1) := by decide +kernel
theorem d_M_gap_229 : decode b_M_gap 229 = .ok (.iload 5, 2) := by decide +kernel
theorem d_M_gap_231 : decode b_M_gap 231 = .ok (.invokevirtual 211, 3) := by decide +kernel
theorem d_M_gap_234 : decode b_M_gap 234 = .ok (.land, 1) := by decide +kernel
theorem d_M_gap_235 : decode b_M_gap 235 = .ok (.aload_n 0, 1) := by decide +kernel
theorem d_M_gap_236 : decode b_M_gap 236 = .ok (.getfield 65, 3) := by decide +kernel
theorem d_M_gap_239 : decode b_M_gap 239 = .ok (.iload 5, 2) := by decide +kernel
theorem d_M_gap_241 : decode b_M_gap 241 = .ok (.laload, 1) := by decide +kernel
theorem d_M_gap_242 : decode b_M_gap 242 = .ok (.ldc2_w 168, 3) := by decide +kernel
theorem d_M_gap_245 : decode b_M_gap 245 = .ok (.lxor, 1) := by decide +kernel
theorem d_M_gap_246 : decode b_M_gap 246 = .ok (.land, 1) := by decide +kernel
theorem d_M_gap_247 : decode b_M_gap 247 = .ok (.invokestatic 207, 3) := by decide +kernel
theorem d_M_gap_250 : decode b_M_gap 250 = .ok (.iadd, 1) := by decide +kernel
theorem d_M_gap_251 : decode b_M_gap 251 = .ok (.istore 4, 2) := by decide +kernel
theorem d_M_gap_253 : decode b_M_gap 253 = .ok (.iinc 5 1, 3) := by decide +kernel
theorem d_M_gap_256 : decode b_M_gap 256 = .ok (.goto (-122), 3) := by decide +kernel
theorem d_M_gap_259 : decode b_M_gap 259 = .ok (.iload 4, 2) := by decide +kernel
theorem d_M_gap_261 : decode b_M_gap 261 = .ok (.ireturn, 1) := by decide +kernel
