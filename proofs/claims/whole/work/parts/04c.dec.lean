theorem d_B_init_0 : decode b_B_init 0 = .ok (.aload_n 0, 1) := by decide +kernel
theorem d_B_init_1 : decode b_B_init 1 = .ok (.invokespecial 3, 3) := by decide +kernel
theorem d_B_init_4 : decode b_B_init 4 = .ok (.aload_n 0, 1) := by decide +kernel
theorem d_B_init_5 : decode b_B_init 5 = .ok (.new 9, 3) := by decide +kernel
theorem d_B_init_8 : decode b_B_init 8 = .ok (.dup, 1) := by decide +kernel
theorem d_B_init_9 : decode b_B_init 9 = .ok (.invokespecial 11, 3) := by decide +kernel
theorem d_B_init_12 : decode b_B_init 12 = .ok (.putfield 12, 3) := by decide +kernel
theorem d_B_init_15 : decode b_B_init 15 = .ok (.aload_n 0, 1) := by decide +kernel
theorem d_B_init_16 : decode b_B_init 16 = .ok (.new 16, 3) := by decide +kernel
theorem d_B_init_19 : decode b_B_init 19 = .ok (.dup, 1) := by decide +kernel
theorem d_B_init_20 : decode b_B_init 20 = .ok (.invokespecial 18, 3) := by decide +kernel
theorem d_B_init_23 : decode b_B_init 23 = .ok (.putfield 19, 3) := by decide +kernel
theorem d_B_init_26 : decode b_B_init 26 = .ok (.aload_n 0, 1) := by decide +kernel
theorem d_B_init_27 : decode b_B_init 27 = .ok (.new 23, 3) := by decide +kernel
theorem d_B_init_30 : decode b_B_init 30 = .ok (.dup, 1) := by decide +kernel
theorem d_B_init_31 : decode b_B_init 31 = .ok (.aload_n 0, 1) := by decide +kernel
theorem d_B_init_32 : decode b_B_init 32 = .ok (.getfield 12, 3) := by decide +kernel
theorem d_B_init_35 : decode b_B_init 35 = .ok (.aload_n 0, 1) := by decide +kernel
theorem d_B_init_36 : decode b_B_init 36 = .ok (.getfield 19, 3) := by decide +kernel
theorem d_B_init_39 : decode b_B_init 39 = .ok (.invokespecial 25, 3) := by decide +kernel
theorem d_B_init_42 : decode b_B_init 42 = .ok (.putfield 28, 3) := by decide +kernel
theorem d_B_init_45 : decode b_B_init 45 = .ok (.aload_n 0, 1) := by decide +kernel
theorem d_B_init_46 : decode b_B_init 46 = .ok (.new 32, 3) := by decide +kernel
theorem d_B_init_49 : decode b_B_init 49 = .ok (.dup, 1) := by decide +kernel
theorem d_B_init_50 : decode b_B_init 50 = .ok (.invokespecial 34, 3) := by decide +kernel
theorem d_B_init_53 : decode b_B_init 53 = .ok (.putfield 35, 3) := by decide +kernel
theorem d_B_init_56 : decode b_B_init 56 = .ok (.aload_n 0, 1) := by decide +kernel
theorem d_B_init_57 : decode b_B_init 57 = .ok (.new 39, 3) := by decide +kernel
theorem d_B_init_60 : decode b_B_init 60 = .ok (.dup, 1) := by decide +kernel
theorem d_B_init_61 : decode b_B_init 61 = .ok (.aload_n 0, 1) := by decide +kernel
theorem d_B_init_62 : decode b_B_init 62 = .ok (.getfield 19, 3) := by decide +kernel
theorem d_B_init_65 : decode b_B_init 65 = .ok (.aload_n 0, 1) := by decide +kernel
theorem d_B_init_66 : decode b_B_init 66 = .ok (.getfield 35, 3) := by decide +kernel
theorem d_B_init_69 : decode b_B_init 69 = .ok (.invokespecial 41, 3) := by decide +kernel
theorem d_B_init_72 : decode b_B_init 72 = .ok (.putfield 44, 3) := by decide +kernel
theorem d_B_init_75 : decode b_B_init 75 = .ok (.aload_n 0, 1) := by decide +kernel
theorem d_B_init_76 : decode b_B_init 76 = .ok (.new 48, 3) := by decide +kernel
theorem d_B_init_79 : decode b_B_init 79 = .ok (.dup, 1) := by decide +kernel
theorem d_B_init_80 : decode b_B_init 80 = .ok (.invokespecial 50, 3) := by decide +kernel
theorem d_B_init_83 : decode b_B_init 83 = .ok (.putfield 51, 3) := by decide +kernel
theorem d_B_init_86 : decode b_B_init 86 = .ok (.aload_n 0, 1) := by decide +kernel
theorem d_B_init_87 : decode b_B_init 87 = .ok (.bipush 16, 2) := by decide +kernel
theorem d_B_init_89 : decode b_B_init 89 = .ok (.newarray .long, 2) := by decide +kernel
theorem d_B_init_91 : decode b_B_init 91 = .ok (.putfield 55, 3) := by decide +kernel
theorem d_B_init_94 : decode b_B_init 94 = .ok (.aload_n 0, 1) := by decide +kernel
theorem d_B_init_95 : decode b_B_init 95 = .ok (.bipush 16, 2) := by decide +kernel
theorem d_B_init_97 : decode b_B_init 97 = .ok (.newarray .long, 2) := by decide +kernel
theorem d_B_init_99 : decode b_B_init 99 = .ok (.putfield 59, 3) := by decide +kernel
theorem d_B_init_102 : decode b_B_init 102 = .ok (.return_, 1) := by decide +kernel
theorem d_B_feed_0 : decode b_B_feed 0 = .ok (.aload_n 0, 1) := by decide +kernel
theorem d_B_feed_1 : decode b_B_feed 1 = .ok (.getfield 12, 3) := by decide +kernel
theorem d_B_feed_4 : decode b_B_feed 4 = .ok (.getfield 62, 3) := by decide +kernel
theorem d_B_feed_7 : decode b_B_feed 7 = .ok (.sipush 1980, 3) := by decide +kernel
theorem d_B_feed_10 : decode b_B_feed 10 = .ok (.if_icmp .le 6, 3) := by decide +kernel
theorem d_B_feed_13 : decode b_B_feed 13 = .ok (.bipush (-3), 2) := by decide +kernel
theorem d_B_feed_15 : decode b_B_feed 15 = .ok (.ireturn, 1) := by decide +kernel
theorem d_B_feed_16 : decode b_B_feed 16 = .ok (.aload_n 0, 1) := by decide +kernel
theorem d_B_feed_17 : decode b_B_feed 17 = .ok (.getfield 12, 3) := by decide +kernel
theorem d_B_feed_20 : decode b_B_feed 20 = .ok (.iload_n 1, 1) := by decide +kernel
theorem d_B_feed_21 : decode b_B_feed 21 = .ok (.invokevirtual 66, 3) := by decide +kernel
theorem d_B_feed_24 : decode b_B_feed 24 = .ok (.aload_n 0, 1) := by decide +kernel
theorem d_B_feed_25 : decode b_B_feed 25 = .ok (.getfield 12, 3) := by decide +kernel
theorem d_B_feed_28 : decode b_B_feed 28 = .ok (.iload_n 2, 1) := by decide +kernel
theorem d_B_feed_29 : decode b_B_feed 29 = .ok (.invokevirtual 66, 3) := by decide +kernel
theorem d_B_feed_32 : decode b_B_feed 32 = .ok (.aload_n 0, 1) := by decide +kernel
theorem d_B_feed_33 : decode b_B_feed 33 = .ok (.getfield 12, 3) := by decide +kernel
theorem d_B_feed_36 : decode b_B_feed 36 = .ok (.iload_n 3, 1) := by decide +kernel
theorem d_B_feed_37 : decode b_B_feed 37 = .ok (.invokevirtual 66, 3) := by decide +kernel
theorem d_B_feed_40 : decode b_B_feed 40 = .ok (.aload_n 0, 1) := by decide +kernel
theorem d_B_feed_41 : decode b_B_feed 41 = .ok (.getfield 12, 3) := by decide +kernel
theorem d_B_feed_44 : decode b_B_feed 44 = .ok (.iload 4, 2) := by decide +kernel
theorem d_B_feed_46 : decode b_B_feed 46 = .ok (.invokevirtual 66, 3) := by decide +kernel
theorem d_B_feed_49 : decode b_B_feed 49 = .ok (.aload_n 0, 1) := by decide +kernel
theorem d_B_feed_50 : decode b_B_feed 50 = .ok (.getfield 12, 3) := by decide +kernel
theorem d_B_feed_53 : decode b_B_feed 53 = .ok (.iload 5, 2) := by decide +kernel
theorem d_B_feed_55 : decode b_B_feed 55 = .ok (.invokevirtual 66, 3) := by decide +kernel
theorem d_B_feed_58 : decode b_B_feed 58 = .ok (.aload_n 0, 1) := by decide +kernel
theorem d_B_feed_59 : decode b_B_feed 59 = .ok (.getfield 12, 3) := by decide +kernel
theorem d_B_feed_62 : decode b_B_feed 62 = .ok (.getfield 62, 3) := by decide +kernel
theorem d_B_feed_65 : decode b_B_feed 65 = .ok (.ireturn, 1) := by decide +kernel
theorem d_B_end__0 : decode b_B_end_ 0 = .ok (.iload_n 1, 1) := by decide +kernel
theorem d_B_end__1 : decode b_B_end_ 1 = .ok (.ifCond .lt 14, 3) := by decide +kernel
theorem d_B_end__4 : decode b_B_end_ 4 = .ok (.iload_n 1, 1) := by decide +kernel
theorem d_B_end__5 : decode b_B_end_ 5 = .ok (.aload_n 0, 1) := by decide +kernel
theorem d_B_end__6 : decode b_B_end_ 6 = .ok (.getfield 12, 3) := by decide +kernel
theorem d_B_end__9 : decode b_B_end_ 9 = .ok (.getfield 62, 3) := by decide +kernel
theorem d_B_end__12 : decode b_B_end_ 12 = .ok (.if_icmp .le 5, 3) := by decide +kernel
theorem d_B_end__15 : decode b_B_end_ 15 = .ok (.iconst (-1), 1) := by decide +kernel
theorem d_B_end__16 : decode b_B_end_ 16 = .ok (.ireturn, 1) := by decide +kernel
theorem d_B_end__17 : decode b_B_end_ 17 = .ok (.aload_n 0, 1) := by decide +kernel
theorem d_B_end__18 : decode b_B_end_ 18 = .ok (.getfield 12, 3) := by decide +kernel
theorem d_B_end__21 : decode b_B_end_ 21 = .ok (.iload_n 1, 1) := by decide +kernel
theorem d_B_end__22 : decode b_B_end_ 22 = .ok (.putfield 62, 3) := by decide +kernel
theorem d_B_end__25 : decode b_B_end_ 25 = .ok (.iload_n 1, 1) := by decide +kernel
theorem d_B_end__26 : decode b_B_end_ 26 = .ok (.ireturn, 1) := by decide +kernel
theorem d_B_read_0 : decode b_B_read 0 = .ok (.aload_n 0, 1) := by decide +kernel
theorem d_B_read_1 : decode b_B_read 1 = .ok (.getfield 28, 3) := by decide +kernel
theorem d_B_read_4 : decode b_B_read 4 = .ok (.invokevirtual 70, 3) := by decide +kernel
theorem d_B_read_7 : decode b_B_read 7 = .ok (.aload_n 0, 1) := by decide +kernel
theorem d_B_read_8 : decode b_B_read 8 = .ok (.getfield 12, 3) := by decide +kernel
theorem d_B_read_11 : decode b_B_read 11 = .ok (.iconst 0, 1) := by decide +kernel
theorem d_B_read_12 : decode b_B_read 12 = .ok (.putfield 62, 3) := by decide +kernel
theorem d_B_read_15 : decode b_B_read 15 = .ok (.aload_n 0, 1) := by decide +kernel
theorem d_B_read_16 : decode b_B_read 16 = .ok (.getfield 28, 3) := by decide +kernel
theorem d_B_read_19 : decode b_B_read 19 = .ok (.getfield 73, 3) := by decide +kernel
theorem d_B_read_22 : decode b_B_read 22 = .ok (.ifCond .ne 13, 3) := by decide +kernel
theorem d_B_read_25 : decode b_B_read 25 = .ok (.aload_n 0, 1) := by decide +kernel
theorem d_B_read_26 : decode b_B_read 26 = .ok (.getfield 19, 3) := by decide +kernel
theorem d_B_read_29 : decode b_B_read 29 = .ok (.invokevirtual 76, 3) := by decide +kernel
theorem d_B_read_32 : decode b_B_read 32 = .ok (.goto 4, 3) := by decide +kernel
theorem d_B_read_35 : decode b_B_read 35 = .ok (.iconst (-1), 1) := by decide +kernel
theorem d_B_read_36 : decode b_B_read 36 = .ok (.ireturn, 1) := by decide +kernel
theorem d_B_fault_0 : decode b_B_fault 0 = .ok (.iload_n 1, 1) := by decide +kernel
theorem d_B_fault_1 : decode b_B_fault 1 = .ok (.lookupswitch 43 #[(0, 27), (1, 35)], 27) := by decide +kernel
theorem d_B_fault_28 : decode b_B_fault 28 = .ok (.aload_n 0, 1) := by decide +kernel
theorem d_B_fault_29 : decode b_B_fault 29 = .ok (.getfield 28, 3) := by decide +kernel
theorem d_B_fault_32 : decode b_B_fault 32 = .ok (.getfield 73, 3) := by decide +kernel
theorem d_B_fault_35 : decode b_B_fault 35 = .ok (.ireturn, 1) := by decide +kernel
theorem d_B_fault_36 : decode b_B_fault 36 = .ok (.aload_n 0, 1) := by decide +kernel
theorem d_B_fault_37 : decode b_B_fault 37 = .ok (.getfield 28, 3) := by decide +kernel
theorem d_B_fault_40 : decode b_B_fault 40 = .ok (.getfield 80, 3) := by decide +kernel
theorem d_B_fault_43 : decode b_B_fault 43 = .ok (.ireturn, 1) := by decide +kernel
theorem d_B_fault_44 : decode b_B_fault 44 = .ok (.iconst (-1), 1) := by decide +kernel
theorem d_B_fault_45 : decode b_B_fault 45 = .ok (.ireturn, 1) := by decide +kernel
theorem d_B_clear_0 : decode b_B_clear 0 = .ok (.aload_n 0, 1) := by decide +kernel
theorem d_B_clear_1 : decode b_B_clear 1 = .ok (.getfield 19, 3) := by decide +kernel
theorem d_B_clear_4 : decode b_B_clear 4 = .ok (.getfield 83, 3) := by decide +kernel
theorem d_B_clear_7 : decode b_B_clear 7 = .ok (.istore_n 1, 1) := by decide +kernel
theorem d_B_clear_8 : decode b_B_clear 8 = .ok (.aload_n 0, 1) := by decide +kernel
theorem d_B_clear_9 : decode b_B_clear 9 = .ok (.getfield 19, 3) := by decide +kernel
theorem d_B_clear_12 : decode b_B_clear 12 = .ok (.invokevirtual 86, 3) := by decide +kernel
theorem d_B_clear_15 : decode b_B_clear 15 = .ok (.aload_n 0, 1) := by decide +kernel
theorem d_B_clear_16 : decode b_B_clear 16 = .ok (.getfield 35, 3) := by decide +kernel
theorem d_B_clear_19 : decode b_B_clear 19 = .ok (.invokevirtual 89, 3) := by decide +kernel
theorem d_B_clear_22 : decode b_B_clear 22 = .ok (.iload_n 1, 1) := by decide +kernel
theorem d_B_clear_23 : decode b_B_clear 23 = .ok (.ireturn, 1) := by decide +kernel
theorem d_B_clause_0 : decode b_B_clause 0 = .ok (.iload_n 1, 1) := by decide +kernel
theorem d_B_clause_1 : decode b_B_clause 1 = .ok (.iconst 1, 1) := by decide +kernel
theorem d_B_clause_2 : decode b_B_clause 2 = .ok (.if_icmp .lt 14, 3) := by decide +kernel
theorem d_B_clause_5 : decode b_B_clause 5 = .ok (.iload_n 1, 1) := by decide +kernel
theorem d_B_clause_6 : decode b_B_clause 6 = .ok (.aload_n 0, 1) := by decide +kernel
theorem d_B_clause_7 : decode b_B_clause 7 = .ok (.getfield 19, 3) := by decide +kernel
theorem d_B_clause_10 : decode b_B_clause 10 = .ok (.getfield 83, 3) := by decide +kernel
theorem d_B_clause_13 : decode b_B_clause 13 = .ok (.if_icmp .le 5, 3) := by decide +kernel
theorem d_B_clause_16 : decode b_B_clause 16 = .ok (.iconst (-1), 1) := by decide +kernel
theorem d_B_clause_17 : decode b_B_clause 17 = .ok (.ireturn, 1) := by decide +kernel
theorem d_B_clause_18 : decode b_B_clause 18 = .ok (.iload_n 2, 1) := by decide +kernel
theorem d_B_clause_19 : decode b_B_clause 19 = .ok (.tableswitch 129 0 6 #[41, 51, 61, 71, 81, 101, 111], 41) := by decide +kernel
theorem d_B_clause_60 : decode b_B_clause 60 = .ok (.aload_n 0, 1) := by decide +kernel
theorem d_B_clause_61 : decode b_B_clause 61 = .ok (.getfield 19, 3) := by decide +kernel
theorem d_B_clause_64 : decode b_B_clause 64 = .ok (.getfield 92, 3) := by decide +kernel
theorem d_B_clause_67 : decode b_B_clause 67 = .ok (.iload_n 1, 1) := by decide +kernel
theorem d_B_clause_68 : decode b_B_clause 68 = .ok (.iaload, 1) := by decide +kernel
theorem d_B_clause_69 : decode b_B_clause 69 = .ok (.ireturn, 1) := by decide +kernel
theorem d_B_clause_70 : decode b_B_clause 70 = .ok (.aload_n 0, 1) := by decide +kernel
theorem d_B_clause_71 : decode b_B_clause 71 = .ok (.getfield 19, 3) := by decide +kernel
theorem d_B_clause_74 : decode b_B_clause 74 = .ok (.getfield 96, 3) := by decide +kernel
theorem d_B_clause_77 : decode b_B_clause 77 = .ok (.iload_n 1, 1) := by decide +kernel
theorem d_B_clause_78 : decode b_B_clause 78 = .ok (.iaload, 1) := by decide +kernel
theorem d_B_clause_79 : decode b_B_clause 79 = .ok (.ireturn, 1) := by decide +kernel
theorem d_B_clause_80 : decode b_B_clause 80 = .ok (.aload_n 0, 1) := by decide +kernel
theorem d_B_clause_81 : decode b_B_clause 81 = .ok (.getfield 19, 3) := by decide +kernel
theorem d_B_clause_84 : decode b_B_clause 84 = .ok (.getfield 99, 3) := by decide +kernel
theorem d_B_clause_87 : decode b_B_clause 87 = .ok (.iload_n 1, 1) := by decide +kernel
theorem d_B_clause_88 : decode b_B_clause 88 = .ok (.iaload, 1) := by decide +kernel
theorem d_B_clause_89 : decode b_B_clause 89 = .ok (.ireturn, 1) := by decide +kernel
theorem d_B_clause_90 : decode b_B_clause 90 = .ok (.aload_n 0, 1) := by decide +kernel
theorem d_B_clause_91 : decode b_B_clause 91 = .ok (.getfield 19, 3) := by decide +kernel
theorem d_B_clause_94 : decode b_B_clause 94 = .ok (.getfield 102, 3) := by decide +kernel
theorem d_B_clause_97 : decode b_B_clause 97 = .ok (.iload_n 1, 1) := by decide +kernel
theorem d_B_clause_98 : decode b_B_clause 98 = .ok (.iaload, 1) := by decide +kernel
theorem d_B_clause_99 : decode b_B_clause 99 = .ok (.ireturn, 1) := by decide +kernel
theorem d_B_clause_100 : decode b_B_clause 100 = .ok (.aload_n 0, 1) := by decide +kernel
theorem d_B_clause_101 : decode b_B_clause 101 = .ok (.getfield 19, 3) := by decide +kernel
theorem d_B_clause_104 : decode b_B_clause 104 = .ok (.getfield 105, 3) := by decide +kernel
theorem d_B_clause_107 : decode b_B_clause 107 = .ok (.iload_n 1, 1) := by decide +kernel
theorem d_B_clause_108 : decode b_B_clause 108 = .ok (.iaload, 1) := by decide +kernel
theorem d_B_clause_109 : decode b_B_clause 109 = .ok (.aload_n 0, 1) := by decide +kernel
theorem d_B_clause_110 : decode b_B_clause 110 = .ok (.getfield 19, 3) := by decide +kernel
theorem d_B_clause_113 : decode b_B_clause 113 = .ok (.getfield 108, 3) := by decide +kernel
theorem d_B_clause_116 : decode b_B_clause 116 = .ok (.iload_n 1, 1) := by decide +kernel
theorem d_B_clause_117 : decode b_B_clause 117 = .ok (.iaload, 1) := by decide +kernel
theorem d_B_clause_118 : decode b_B_clause 118 = .ok (.ior, 1) := by decide +kernel
theorem d_B_clause_119 : decode b_B_clause 119 = .ok (.ireturn, 1) := by decide +kernel
theorem d_B_clause_120 : decode b_B_clause 120 = .ok (.aload_n 0, 1) := by decide +kernel
theorem d_B_clause_121 : decode b_B_clause 121 = .ok (.getfield 19, 3) := by decide +kernel
theorem d_B_clause_124 : decode b_B_clause 124 = .ok (.getfield 108, 3) := by decide +kernel
theorem d_B_clause_127 : decode b_B_clause 127 = .ok (.iload_n 1, 1) := by decide +kernel
theorem d_B_clause_128 : decode b_B_clause 128 = .ok (.iaload, 1) := by decide +kernel
theorem d_B_clause_129 : decode b_B_clause 129 = .ok (.ireturn, 1) := by decide +kernel
theorem d_B_clause_130 : decode b_B_clause 130 = .ok (.aload_n 0, 1) := by decide +kernel
theorem d_B_clause_131 : decode b_B_clause 131 = .ok (.getfield 19, 3) := by decide +kernel
theorem d_B_clause_134 : decode b_B_clause 134 = .ok (.getfield 111, 3) := by decide +kernel
theorem d_B_clause_137 : decode b_B_clause 137 = .ok (.iload_n 1, 1) := by decide +kernel
theorem d_B_clause_138 : decode b_B_clause 138 = .ok (.baload, 1) := by decide +kernel
theorem d_B_clause_139 : decode b_B_clause 139 = .ok (.ifCond .eq 7, 3) := by decide +kernel
theorem d_B_clause_142 : decode b_B_clause 142 = .ok (.iconst 1, 1) := by decide +kernel
theorem d_B_clause_143 : decode b_B_clause 143 = .ok (.goto 4, 3) := by decide +kernel
theorem d_B_clause_146 : decode b_B_clause 146 = .ok (.iconst 0, 1) := by decide +kernel
theorem d_B_clause_147 : decode b_B_clause 147 = .ok (.ireturn, 1) := by decide +kernel
theorem d_B_clause_148 : decode b_B_clause 148 = .ok (.iconst (-1), 1) := by decide +kernel
theorem d_B_clause_149 : decode b_B_clause 149 = .ok (.ireturn, 1) := by decide +kernel
theorem d_B_refutation_0 : decode b_B_refutation 0 = .ok (.aload_n 0, 1) := by decide +kernel
theorem d_B_refutation_1 : decode b_B_refutation 1 = .ok (.getfield 19, 3) := by decide +kernel
theorem d_B_refutation_4 : decode b_B_refutation 4 = .ok (.getfield 115, 3) := by decide +kernel
theorem d_B_refutation_7 : decode b_B_refutation 7 = .ok (.ifCond .ne 7, 3) := by decide +kernel
theorem d_B_refutation_10 : decode b_B_refutation 10 = .ok (.iconst (-1), 1) := by decide +kernel
theorem d_B_refutation_11 : decode b_B_refutation 11 = .ok (.goto 10, 3) := by decide +kernel
theorem d_B_refutation_14 : decode b_B_refutation 14 = .ok (.aload_n 0, 1) := by decide +kernel
theorem d_B_refutation_15 : decode b_B_refutation 15 = .ok (.getfield 19, 3) := by decide +kernel
theorem d_B_refutation_18 : decode b_B_refutation 18 = .ok (.getfield 115, 3) := by decide +kernel
theorem d_B_refutation_21 : decode b_B_refutation 21 = .ok (.ireturn, 1) := by decide +kernel
theorem d_B_eliminate_0 : decode b_B_eliminate 0 = .ok (.iload_n 1, 1) := by decide +kernel
theorem d_B_eliminate_1 : decode b_B_eliminate 1 = .ok (.invokestatic 118, 3) := by decide +kernel
theorem d_B_eliminate_4 : decode b_B_eliminate 4 = .ok (.ifCond .eq 14, 3) := by decide +kernel
theorem d_B_eliminate_7 : decode b_B_eliminate 7 = .ok (.aload_n 0, 1) := by decide +kernel
theorem d_B_eliminate_8 : decode b_B_eliminate 8 = .ok (.getfield 19, 3) := by decide +kernel
theorem d_B_eliminate_11 : decode b_B_eliminate 11 = .ok (.iload_n 1, 1) := by decide +kernel
theorem d_B_eliminate_12 : decode b_B_eliminate 12 = .ok (.invokevirtual 122, 3) := by decide +kernel
theorem d_B_eliminate_15 : decode b_B_eliminate 15 = .ok (.goto 5, 3) := by decide +kernel
theorem d_B_eliminate_18 : decode b_B_eliminate 18 = .ok (.bipush (-2), 2) := by decide +kernel
theorem d_B_eliminate_20 : decode b_B_eliminate 20 = .ok (.ireturn, 1) := by decide +kernel
theorem d_B_label_0 : decode b_B_label 0 = .ok (.iload_n 1, 1) := by decide +kernel
theorem d_B_label_1 : decode b_B_label 1 = .ok (.invokestatic 118, 3) := by decide +kernel
theorem d_B_label_4 : decode b_B_label 4 = .ok (.ifCond .eq 13, 3) := by decide +kernel
theorem d_B_label_7 : decode b_B_label 7 = .ok (.iload_n 2, 1) := by decide +kernel
theorem d_B_label_8 : decode b_B_label 8 = .ok (.iconst 1, 1) := by decide +kernel
theorem d_B_label_9 : decode b_B_label 9 = .ok (.if_icmp .lt 8, 3) := by decide +kernel
theorem d_B_label_12 : decode b_B_label 12 = .ok (.iload_n 2, 1) := by decide +kernel
theorem d_B_label_13 : decode b_B_label 13 = .ok (.iconst 3, 1) := by decide +kernel
theorem d_B_label_14 : decode b_B_label 14 = .ok (.if_icmp .le 6, 3) := by decide +kernel
theorem d_B_label_17 : decode b_B_label 17 = .ok (.bipush (-2), 2) := by decide +kernel
theorem d_B_label_19 : decode b_B_label 19 = .ok (.ireturn, 1) := by decide +kernel
theorem d_B_label_20 : decode b_B_label 20 = .ok (.aload_n 0, 1) := by decide +kernel
theorem d_B_label_21 : decode b_B_label 21 = .ok (.getfield 35, 3) := by decide +kernel
theorem d_B_label_24 : decode b_B_label 24 = .ok (.iload_n 1, 1) := by decide +kernel
theorem d_B_label_25 : decode b_B_label 25 = .ok (.iload_n 2, 1) := by decide +kernel
theorem d_B_label_26 : decode b_B_label 26 = .ok (.invokevirtual 126, 3) := by decide +kernel
theorem d_B_label_29 : decode b_B_label 29 = .ok (.ireturn, 1) := by decide +kernel
theorem d_B_variables_0 : decode b_B_variables 0 = .ok (.iload_n 1, 1) := by decide +kernel
theorem d_B_variables_1 : decode b_B_variables 1 = .ok (.invokestatic 130, 3) := by decide +kernel
theorem d_B_variables_4 : decode b_B_variables 4 = .ok (.ifCond .ne 6, 3) := by decide +kernel
theorem d_B_variables_7 : decode b_B_variables 7 = .ok (.bipush (-2), 2) := by decide +kernel
theorem d_B_variables_9 : decode b_B_variables 9 = .ok (.ireturn, 1) := by decide +kernel
theorem d_B_variables_10 : decode b_B_variables 10 = .ok (.aload_n 0, 1) := by decide +kernel
theorem d_B_variables_11 : decode b_B_variables 11 = .ok (.getfield 19, 3) := by decide +kernel
theorem d_B_variables_14 : decode b_B_variables 14 = .ok (.iconst 1, 1) := by decide +kernel
theorem d_B_variables_15 : decode b_B_variables 15 = .ok (.iload_n 1, 1) := by decide +kernel
theorem d_B_variables_16 : decode b_B_variables 16 = .ok (.invokevirtual 133, 3) := by decide +kernel
theorem d_B_variables_19 : decode b_B_variables 19 = .ok (.istore_n 3, 1) := by decide +kernel
theorem d_B_variables_20 : decode b_B_variables 20 = .ok (.aload_n 0, 1) := by decide +kernel
theorem d_B_variables_21 : decode b_B_variables 21 = .ok (.getfield 19, 3) := by decide +kernel
theorem d_B_variables_24 : decode b_B_variables 24 = .ok (.iload_n 1, 1) := by decide +kernel
theorem d_B_variables_25 : decode b_B_variables 25 = .ok (.iconst 1, 1) := by decide +kernel
theorem d_B_variables_26 : decode b_B_variables 26 = .ok (.iadd, 1) := by decide +kernel
theorem d_B_variables_27 : decode b_B_variables 27 = .ok (.bipush 8, 2) := by decide +kernel
theorem d_B_variables_29 : decode b_B_variables 29 = .ok (.invokevirtual 133, 3) := by decide +kernel
theorem d_B_variables_32 : decode b_B_variables 32 = .ok (.istore 4, 2) := by decide +kernel
theorem d_B_variables_34 : decode b_B_variables 34 = .ok (.iload_n 2, 1) := by decide +kernel
theorem d_B_variables_35 : decode b_B_variables 35 = .ok (.tableswitch 35 0 2 #[25, 27, 30], 25) := by decide +kernel
theorem d_B_variables_60 : decode b_B_variables 60 = .ok (.iload_n 3, 1) := by decide +kernel
theorem d_B_variables_61 : decode b_B_variables 61 = .ok (.ireturn, 1) := by decide +kernel
theorem d_B_variables_62 : decode b_B_variables 62 = .ok (.iload 4, 2) := by decide +kernel
theorem d_B_variables_64 : decode b_B_variables 64 = .ok (.ireturn, 1) := by decide +kernel
theorem d_B_variables_65 : decode b_B_variables 65 = .ok (.iload_n 3, 1) := by decide +kernel
theorem d_B_variables_66 : decode b_B_variables 66 = .ok (.iload 4, 2) := by decide +kernel
theorem d_B_variables_68 : decode b_B_variables 68 = .ok (.iand, 1) := by decide +kernel
theorem d_B_variables_69 : decode b_B_variables 69 = .ok (.ireturn, 1) := by decide +kernel
theorem d_B_variables_70 : decode b_B_variables 70 = .ok (.iconst (-1), 1) := by decide +kernel
theorem d_B_variables_71 : decode b_B_variables 71 = .ok (.ireturn, 1) := by decide +kernel
theorem d_B_interpolate_0 : decode b_B_interpolate 0 = .ok (.iload_n 1, 1) := by decide +kernel
theorem d_B_interpolate_1 : decode b_B_interpolate 1 = .ok (.invokestatic 130, 3) := by decide +kernel
theorem d_B_interpolate_4 : decode b_B_interpolate 4 = .ok (.ifCond .eq 10, 3) := by decide +kernel
theorem d_B_interpolate_7 : decode b_B_interpolate 7 = .ok (.iload_n 2, 1) := by decide +kernel
theorem d_B_interpolate_8 : decode b_B_interpolate 8 = .ok (.invokestatic 136, 3) := by decide +kernel
theorem d_B_interpolate_11 : decode b_B_interpolate 11 = .ok (.ifCond .ne 6, 3) := by decide +kernel
theorem d_B_interpolate_14 : decode b_B_interpolate 14 = .ok (.bipush (-2), 2) := by decide +kernel
theorem d_B_interpolate_16 : decode b_B_interpolate 16 = .ok (.ireturn, 1) := by decide +kernel
theorem d_B_interpolate_17 : decode b_B_interpolate 17 = .ok (.aload_n 0, 1) := by decide +kernel
theorem d_B_interpolate_18 : decode b_B_interpolate 18 = .ok (.getfield 19, 3) := by decide +kernel
theorem d_B_interpolate_21 : decode b_B_interpolate 21 = .ok (.getfield 115, 3) := by decide +kernel
theorem d_B_interpolate_24 : decode b_B_interpolate 24 = .ok (.ifCond .ne 5, 3) := by decide +kernel
theorem d_B_interpolate_27 : decode b_B_interpolate 27 = .ok (.iconst (-1), 1) := by decide +kernel
theorem d_B_interpolate_28 : decode b_B_interpolate 28 = .ok (.ireturn, 1) := by decide +kernel
theorem d_B_interpolate_29 : decode b_B_interpolate 29 = .ok (.aload_n 0, 1) := by decide +kernel
theorem d_B_interpolate_30 : decode b_B_interpolate 30 = .ok (.getfield 44, 3) := by decide +kernel
theorem d_B_interpolate_33 : decode b_B_interpolate 33 = .ok (.iload_n 1, 1) := by decide +kernel
theorem d_B_interpolate_34 : decode b_B_interpolate 34 = .ok (.iload_n 2, 1) := by decide +kernel
theorem d_B_interpolate_35 : decode b_B_interpolate 35 = .ok (.invokevirtual 139, 3) := by decide +kernel
theorem d_B_interpolate_38 : decode b_B_interpolate 38 = .ok (.aload_n 0, 1) := by decide +kernel
theorem d_B_interpolate_39 : decode b_B_interpolate 39 = .ok (.getfield 51, 3) := by decide +kernel
theorem d_B_interpolate_42 : decode b_B_interpolate 42 = .ok (.aload_n 0, 1) := by decide +kernel
theorem d_B_interpolate_43 : decode b_B_interpolate 43 = .ok (.getfield 44, 3) := by decide +kernel
theorem d_B_interpolate_46 : decode b_B_interpolate 46 = .ok (.aload_n 0, 1) := by decide +kernel
theorem d_B_interpolate_47 : decode b_B_interpolate 47 = .ok (.getfield 19, 3) := by decide +kernel
theorem d_B_interpolate_50 : decode b_B_interpolate 50 = .ok (.invokevirtual 143, 3) := by decide +kernel
theorem d_B_interpolate_53 : decode b_B_interpolate 53 = .ok (.aload_n 0, 1) := by decide +kernel
theorem d_B_interpolate_54 : decode b_B_interpolate 54 = .ok (.getfield 51, 3) := by decide +kernel
theorem d_B_interpolate_57 : decode b_B_interpolate 57 = .ok (.getfield 147, 3) := by decide +kernel
theorem d_B_interpolate_60 : decode b_B_interpolate 60 = .ok (.getfield 151, 3) := by decide +kernel
theorem d_B_interpolate_63 : decode b_B_interpolate 63 = .ok (.ireturn, 1) := by decide +kernel
theorem d_B_value_0 : decode b_B_value 0 = .ok (.aload_n 0, 1) := by decide +kernel
theorem d_B_value_1 : decode b_B_value 1 = .ok (.getfield 51, 3) := by decide +kernel
theorem d_B_value_4 : decode b_B_value 4 = .ok (.aload_n 0, 1) := by decide +kernel
theorem d_B_value_5 : decode b_B_value 5 = .ok (.getfield 51, 3) := by decide +kernel
theorem d_B_value_8 : decode b_B_value 8 = .ok (.getfield 154, 3) := by decide +kernel
theorem d_B_value_11 : decode b_B_value 11 = .ok (.iload_n 1, 1) := by decide +kernel
theorem d_B_value_12 : decode b_B_value 12 = .ok (.invokevirtual 157, 3) := by decide +kernel
theorem d_B_value_15 : decode b_B_value 15 = .ok (.ireturn, 1) := by decide +kernel
theorem d_B_prt_0 : decode b_B_prt 0 = .ok (.aload_n 0, 1) := by decide +kernel
theorem d_B_prt_1 : decode b_B_prt 1 = .ok (.getfield 51, 3) := by decide +kernel
theorem d_B_prt_4 : decode b_B_prt 4 = .ok (.iload_n 1, 1) := by decide +kernel
theorem d_B_prt_5 : decode b_B_prt 5 = .ok (.iload_n 2, 1) := by decide +kernel
theorem d_B_prt_6 : decode b_B_prt 6 = .ok (.invokevirtual 157, 3) := by decide +kernel
theorem d_B_prt_9 : decode b_B_prt 9 = .ok (.ireturn, 1) := by decide +kernel
theorem d_B_told_0 : decode b_B_told 0 = .ok (.aload_n 0, 1) := by decide +kernel
theorem d_B_told_1 : decode b_B_told 1 = .ok (.getfield 51, 3) := by decide +kernel
theorem d_B_told_4 : decode b_B_told 4 = .ok (.getfield 154, 3) := by decide +kernel
theorem d_B_told_7 : decode b_B_told 7 = .ok (.ifCond .ne 5, 3) := by decide +kernel
theorem d_B_told_10 : decode b_B_told 10 = .ok (.iconst (-1), 1) := by decide +kernel
theorem d_B_told_11 : decode b_B_told 11 = .ok (.ireturn, 1) := by decide +kernel
theorem d_B_told_12 : decode b_B_told 12 = .ok (.iload_n 1, 1) := by decide +kernel
theorem d_B_told_13 : decode b_B_told 13 = .ok (.lookupswitch 46 #[(0, 27), (1, 35)], 27) := by decide +kernel
theorem d_B_told_40 : decode b_B_told 40 = .ok (.aload_n 0, 1) := by decide +kernel
theorem d_B_told_41 : decode b_B_told 41 = .ok (.getfield 51, 3) := by decide +kernel
theorem d_B_told_44 : decode b_B_told 44 = .ok (.invokevirtual 160, 3) := by decide +kernel
theorem d_B_told_47 : decode b_B_told 47 = .ok (.ireturn, 1) := by decide +kernel
theorem d_B_told_48 : decode b_B_told 48 = .ok (.aload_n 0, 1) := by decide +kernel
theorem d_B_told_49 : decode b_B_told 49 = .ok (.getfield 51, 3) := by decide +kernel
theorem d_B_told_52 : decode b_B_told 52 = .ok (.getfield 147, 3) := by decide +kernel
theorem d_B_told_55 : decode b_B_told 55 = .ok (.invokevirtual 163, 3) := by decide +kernel
theorem d_B_told_58 : decode b_B_told 58 = .ok (.ireturn, 1) := by decide +kernel
theorem d_B_told_59 : decode b_B_told 59 = .ok (.iconst (-1), 1) := by decide +kernel
theorem d_B_told_60 : decode b_B_told 60 = .ok (.ireturn, 1) := by decide +kernel
theorem d_B_graph_0 : decode b_B_graph 0 = .ok (.aload_n 0, 1) := by decide +kernel
theorem d_B_graph_1 : decode b_B_graph 1 = .ok (.getfield 51, 3) := by decide +kernel
theorem d_B_graph_4 : decode b_B_graph 4 = .ok (.getfield 147, 3) := by decide +kernel
theorem d_B_graph_7 : decode b_B_graph 7 = .ok (.iload_n 1, 1) := by decide +kernel
theorem d_B_graph_8 : decode b_B_graph 8 = .ok (.iload_n 2, 1) := by decide +kernel
theorem d_B_graph_9 : decode b_B_graph 9 = .ok (.invokevirtual 166, 3) := by decide +kernel
theorem d_B_graph_12 : decode b_B_graph 12 = .ok (.ireturn, 1) := by decide +kernel
theorem d_B_follows_0 : decode b_B_follows 0 = .ok (.iload_n 1, 1) := by decide +kernel
theorem d_B_follows_1 : decode b_B_follows 1 = .ok (.invokestatic 130, 3) := by decide +kernel
theorem d_B_follows_4 : decode b_B_follows 4 = .ok (.ifCond .eq 17, 3) := by decide +kernel
theorem d_B_follows_7 : decode b_B_follows 7 = .ok (.iload_n 2, 1) := by decide +kernel
theorem d_B_follows_8 : decode b_B_follows 8 = .ok (.invokestatic 136, 3) := by decide +kernel
theorem d_B_follows_11 : decode b_B_follows 11 = .ok (.ifCond .eq 10, 3) := by decide +kernel
theorem d_B_follows_14 : decode b_B_follows 14 = .ok (.iload_n 3, 1) := by decide +kernel
theorem d_B_follows_15 : decode b_B_follows 15 = .ok (.invokestatic 136, 3) := by decide +kernel
theorem d_B_follows_18 : decode b_B_follows 18 = .ok (.ifCond .ne 6, 3) := by decide +kernel
theorem d_B_follows_21 : decode b_B_follows 21 = .ok (.bipush (-2), 2) := by decide +kernel
theorem d_B_follows_23 : decode b_B_follows 23 = .ok (.ireturn, 1) := by decide +kernel
theorem d_B_follows_24 : decode b_B_follows 24 = .ok (.aload_n 0, 1) := by decide +kernel
theorem d_B_follows_25 : decode b_B_follows 25 = .ok (.getfield 19, 3) := by decide +kernel
theorem d_B_follows_28 : decode b_B_follows 28 = .ok (.getfield 115, 3) := by decide +kernel
theorem d_B_follows_31 : decode b_B_follows 31 = .ok (.ifCond .ne 5, 3) := by decide +kernel
theorem d_B_follows_34 : decode b_B_follows 34 = .ok (.iconst (-1), 1) := by decide +kernel
theorem d_B_follows_35 : decode b_B_follows 35 = .ok (.ireturn, 1) := by decide +kernel
theorem d_B_follows_36 : decode b_B_follows 36 = .ok (.aload_n 0, 1) := by decide +kernel
theorem d_B_follows_37 : decode b_B_follows 37 = .ok (.getfield 44, 3) := by decide +kernel
theorem d_B_follows_40 : decode b_B_follows 40 = .ok (.iload_n 1, 1) := by decide +kernel
theorem d_B_follows_41 : decode b_B_follows 41 = .ok (.iload_n 2, 1) := by decide +kernel
theorem d_B_follows_42 : decode b_B_follows 42 = .ok (.aload_n 0, 1) := by decide +kernel
theorem d_B_follows_43 : decode b_B_follows 43 = .ok (.getfield 55, 3) := by decide +kernel
theorem d_B_follows_46 : decode b_B_follows 46 = .ok (.invokevirtual 169, 3) := by decide +kernel
theorem d_B_follows_49 : decode b_B_follows 49 = .ok (.aload_n 0, 1) := by decide +kernel
theorem d_B_follows_50 : decode b_B_follows 50 = .ok (.getfield 44, 3) := by decide +kernel
theorem d_B_follows_53 : decode b_B_follows 53 = .ok (.iload_n 1, 1) := by decide +kernel
theorem d_B_follows_54 : decode b_B_follows 54 = .ok (.iload_n 3, 1) := by decide +kernel
theorem d_B_follows_55 : decode b_B_follows 55 = .ok (.aload_n 0, 1) := by decide +kernel
theorem d_B_follows_56 : decode b_B_follows 56 = .ok (.getfield 59, 3) := by decide +kernel
theorem d_B_follows_59 : decode b_B_follows 59 = .ok (.invokevirtual 169, 3) := by decide +kernel
theorem d_B_follows_62 : decode b_B_follows 62 = .ok (.iconst 0, 1) := by decide +kernel
theorem d_B_follows_63 : decode b_B_follows 63 = .ok (.istore 4, 2) := by decide +kernel
theorem d_B_follows_65 : decode b_B_follows 65 = .ok (.iload 4, 2) := by decide +kernel
theorem d_B_follows_67 : decode b_B_follows 67 = .ok (.bipush 16, 2) := by decide +kernel
theorem d_B_follows_69 : decode b_B_follows 69 = .ok (.if_icmp .ge 35, 3) := by decide +kernel
theorem d_B_follows_72 : decode b_B_follows 72 = .ok (.aload_n 0, 1) := by decide +kernel
theorem d_B_follows_73 : decode b_B_follows 73 = .ok (.getfield 55, 3) := by decide +kernel
theorem d_B_follows_76 : decode b_B_follows 76 = .ok (.iload 4, 2) := by decide +kernel
theorem d_B_follows_78 : decode b_B_follows 78 = .ok (.laload, 1) := by decide +kernel
theorem d_B_follows_79 : decode b_B_follows 79 = .ok (.aload_n 0, 1) := by decide +kernel
theorem d_B_follows_80 : decode b_B_follows 80 = .ok (.getfield 59, 3) := by decide +kernel
theorem d_B_follows_83 : decode b_B_follows 83 = .ok (.iload 4, 2) := by decide +kernel
theorem d_B_follows_85 : decode b_B_follows 85 = .ok (.laload, 1) := by decide +kernel
theorem d_B_follows_86 : decode b_B_follows 86 = .ok (.ldc2_w 173, 3) := by decide +kernel
theorem d_B_follows_89 : decode b_B_follows 89 = .ok (.lxor, 1) := by decide +kernel
theorem d_B_follows_90 : decode b_B_follows 90 = .ok (.land, 1) := by decide +kernel
theorem d_B_follows_91 : decode b_B_follows 91 = .ok (.lconst 0, 1) := by decide +kernel
theorem d_B_follows_92 : decode b_B_follows 92 = .ok (.lcmp, 1) := by decide +kernel
theorem d_B_follows_93 : decode b_B_follows 93 = .ok (.ifCond .eq 5, 3) := by decide +kernel
theorem d_B_follows_96 : decode b_B_follows 96 = .ok (.iconst 0, 1) := by decide +kernel
theorem d_B_follows_97 : decode b_B_follows 97 = .ok (.ireturn, 1) := by decide +kernel
theorem d_B_follows_98 : decode b_B_follows 98 = .ok (.iinc 4 1, 3) := by decide +kernel
theorem d_B_follows_101 : decode b_B_follows 101 = .ok (.goto (-36), 3) := by decide +kernel
theorem d_B_follows_104 : decode b_B_follows 104 = .ok (.iconst 1, 1) := by decide +kernel
theorem d_B_follows_105 : decode b_B_follows 105 = .ok (.ireturn, 1) := by decide +kernel
theorem d_B_gap_0 : decode b_B_gap 0 = .ok (.iload_n 1, 1) := by decide +kernel
theorem d_B_gap_1 : decode b_B_gap 1 = .ok (.invokestatic 130, 3) := by decide +kernel
theorem d_B_gap_4 : decode b_B_gap 4 = .ok (.ifCond .eq 10, 3) := by decide +kernel
theorem d_B_gap_7 : decode b_B_gap 7 = .ok (.iload_n 2, 1) := by decide +kernel
theorem d_B_gap_8 : decode b_B_gap 8 = .ok (.invokestatic 136, 3) := by decide +kernel
theorem d_B_gap_11 : decode b_B_gap 11 = .ok (.ifCond .ne 6, 3) := by decide +kernel
theorem d_B_gap_14 : decode b_B_gap 14 = .ok (.bipush (-2), 2) := by decide +kernel
theorem d_B_gap_16 : decode b_B_gap 16 = .ok (.ireturn, 1) := by decide +kernel
theorem d_B_gap_17 : decode b_B_gap 17 = .ok (.aload_n 0, 1) := by decide +kernel
theorem d_B_gap_18 : decode b_B_gap 18 = .ok (.getfield 19, 3) := by decide +kernel
theorem d_B_gap_21 : decode b_B_gap 21 = .ok (.getfield 115, 3) := by decide +kernel
theorem d_B_gap_24 : decode b_B_gap 24 = .ok (.ifCond .eq 12, 3) := by decide +kernel
theorem d_B_gap_27 : decode b_B_gap 27 = .ok (.iload_n 3, 1) := by decide +kernel
theorem d_B_gap_28 : decode b_B_gap 28 = .ok (.ifCond .lt 8, 3) := by decide +kernel
theorem d_B_gap_31 : decode b_B_gap 31 = .ok (.iload_n 3, 1) := by decide +kernel
theorem d_B_gap_32 : decode b_B_gap 32 = .ok (.iconst 2, 1) := by decide +kernel
theorem d_B_gap_33 : decode b_B_gap 33 = .ok (.if_icmp .le 5, 3) := by decide +kernel
theorem d_B_gap_36 : decode b_B_gap 36 = .ok (.iconst (-1), 1) := by decide +kernel
theorem d_B_gap_37 : decode b_B_gap 37 = .ok (.ireturn, 1) := by decide +kernel
theorem d_B_gap_38 : decode b_B_gap 38 = .ok (.aload_n 0, 1) := by decide +kernel
theorem d_B_gap_39 : decode b_B_gap 39 = .ok (.getfield 44, 3) := by decide +kernel
theorem d_B_gap_42 : decode b_B_gap 42 = .ok (.iload_n 1, 1) := by decide +kernel
theorem d_B_gap_43 : decode b_B_gap 43 = .ok (.iload_n 2, 1) := by decide +kernel
theorem d_B_gap_44 : decode b_B_gap 44 = .ok (.aload_n 0, 1) := by decide +kernel
theorem d_B_gap_45 : decode b_B_gap 45 = .ok (.getfield 55, 3) := by decide +kernel
theorem d_B_gap_48 : decode b_B_gap 48 = .ok (.invokevirtual 169, 3) := by decide +kernel
theorem d_B_gap_51 : decode b_B_gap 51 = .ok (.iload_n 3, 1) := by decide +kernel
theorem d_B_gap_52 : decode b_B_gap 52 = .ok (.iconst 2, 1) := by decide +kernel
theorem d_B_gap_53 : decode b_B_gap 53 = .ok (.if_icmp .ne 9, 3) := by decide +kernel
theorem d_B_gap_56 : decode b_B_gap 56 = .ok (.aload_n 0, 1) := by decide +kernel
theorem d_B_gap_57 : decode b_B_gap 57 = .ok (.iload_n 1, 1) := by decide +kernel
theorem d_B_gap_58 : decode b_B_gap 58 = .ok (.iload_n 2, 1) := by decide +kernel
theorem d_B_gap_59 : decode b_B_gap 59 = .ok (.invokevirtual 175, 3) := by decide +kernel
theorem d_B_gap_62 : decode b_B_gap 62 = .ok (.iconst 0, 1) := by decide +kernel
theorem d_B_gap_63 : decode b_B_gap 63 = .ok (.istore 4, 2) := by decide +kernel
theorem d_B_gap_65 : decode b_B_gap 65 = .ok (.iconst 0, 1) := by decide +kernel
theorem d_B_gap_66 : decode b_B_gap 66 = .ok (.istore 5, 2) := by decide +kernel
theorem d_B_gap_68 : decode b_B_gap 68 = .ok (.iload 5, 2) := by decide +kernel
theorem d_B_gap_70 : decode b_B_gap 70 = .ok (.bipush 16, 2) := by decide +kernel
theorem d_B_gap_72 : decode b_B_gap 72 = .ok (.if_icmp .ge 25, 3) := by decide +kernel
theorem d_B_gap_75 : decode b_B_gap 75 = .ok (.iload 4, 2) := by decide +kernel
theorem d_B_gap_77 : decode b_B_gap 77 = .ok (.aload_n 0, 1) := by decide +kernel
theorem d_B_gap_78 : decode b_B_gap 78 = .ok (.iload_n 1, 1) := by decide +kernel
theorem d_B_gap_79 : decode b_B_gap 79 = .ok (.iload_n 3, 1) := by decide +kernel
theorem d_B_gap_80 : decode b_B_gap 80 = .ok (.iload 5, 2) := by decide +kernel
theorem d_B_gap_82 : decode b_B_gap 82 = .ok (.invokevirtual 178, 3) := by decide +kernel
theorem d_B_gap_85 : decode b_B_gap 85 = .ok (.invokestatic 182, 3) := by decide +kernel
theorem d_B_gap_88 : decode b_B_gap 88 = .ok (.iadd, 1) := by decide +kernel
theorem d_B_gap_89 : decode b_B_gap 89 = .ok (.istore 4, 2) := by decide +kernel
theorem d_B_gap_91 : decode b_B_gap 91 = .ok (.iinc 5 1, 3) := by decide +kernel
theorem d_B_gap_94 : decode b_B_gap 94 = .ok (.goto (-26), 3) := by decide +kernel
theorem d_B_gap_97 : decode b_B_gap 97 = .ok (.iload 4, 2) := by decide +kernel
theorem d_B_gap_99 : decode b_B_gap 99 = .ok (.ireturn, 1) := by decide +kernel
theorem d_B_count_0 : decode b_B_count 0 = .ok (.iload_n 1, 1) := by decide +kernel
theorem d_B_count_1 : decode b_B_count 1 = .ok (.tableswitch 75 0 4 #[35, 43, 51, 59, 67], 35) := by decide +kernel
theorem d_B_count_36 : decode b_B_count 36 = .ok (.aload_n 0, 1) := by decide +kernel
theorem d_B_count_37 : decode b_B_count 37 = .ok (.getfield 19, 3) := by decide +kernel
theorem d_B_count_40 : decode b_B_count 40 = .ok (.getfield 83, 3) := by decide +kernel
theorem d_B_count_43 : decode b_B_count 43 = .ok (.ireturn, 1) := by decide +kernel
theorem d_B_count_44 : decode b_B_count 44 = .ok (.aload_n 0, 1) := by decide +kernel
theorem d_B_count_45 : decode b_B_count 45 = .ok (.getfield 19, 3) := by decide +kernel
theorem d_B_count_48 : decode b_B_count 48 = .ok (.getfield 188, 3) := by decide +kernel
theorem d_B_count_51 : decode b_B_count 51 = .ok (.ireturn, 1) := by decide +kernel
theorem d_B_count_52 : decode b_B_count 52 = .ok (.aload_n 0, 1) := by decide +kernel
theorem d_B_count_53 : decode b_B_count 53 = .ok (.getfield 19, 3) := by decide +kernel
theorem d_B_count_56 : decode b_B_count 56 = .ok (.invokevirtual 191, 3) := by decide +kernel
theorem d_B_count_59 : decode b_B_count 59 = .ok (.ireturn, 1) := by decide +kernel
theorem d_B_count_60 : decode b_B_count 60 = .ok (.aload_n 0, 1) := by decide +kernel
theorem d_B_count_61 : decode b_B_count 61 = .ok (.getfield 19, 3) := by decide +kernel
theorem d_B_count_64 : decode b_B_count 64 = .ok (.invokevirtual 194, 3) := by decide +kernel
theorem d_B_count_67 : decode b_B_count 67 = .ok (.ireturn, 1) := by decide +kernel
theorem d_B_count_68 : decode b_B_count 68 = .ok (.aload_n 0, 1) := by decide +kernel
theorem d_B_count_69 : decode b_B_count 69 = .ok (.getfield 12, 3) := by decide +kernel
theorem d_B_count_72 : decode b_B_count 72 = .ok (.getfield 62, 3) := by decide +kernel
theorem d_B_count_75 : decode b_B_count 75 = .ok (.ireturn, 1) := by decide +kernel
theorem d_B_count_76 : decode b_B_count 76 = .ok (.iconst (-1), 1) := by decide +kernel
theorem d_B_count_77 : decode b_B_count 77 = .ok (.ireturn, 1) := by decide +kernel
theorem d_B_nextInterpolant_0 : decode b_B_nextInterpolant 0 = .ok (.iload_n 1, 1) := by decide +kernel
theorem d_B_nextInterpolant_1 : decode b_B_nextInterpolant 1 = .ok (.bipush 7, 2) := by decide +kernel
theorem d_B_nextInterpolant_3 : decode b_B_nextInterpolant 3 = .ok (.if_icmp .ge 21, 3) := by decide +kernel
theorem d_B_nextInterpolant_6 : decode b_B_nextInterpolant 6 = .ok (.aload_n 0, 1) := by decide +kernel
theorem d_B_nextInterpolant_7 : decode b_B_nextInterpolant 7 = .ok (.getfield 44, 3) := by decide +kernel
theorem d_B_nextInterpolant_10 : decode b_B_nextInterpolant 10 = .ok (.iload_n 1, 1) := by decide +kernel
theorem d_B_nextInterpolant_11 : decode b_B_nextInterpolant 11 = .ok (.iconst 1, 1) := by decide +kernel
theorem d_B_nextInterpolant_12 : decode b_B_nextInterpolant 12 = .ok (.iadd, 1) := by decide +kernel
theorem d_B_nextInterpolant_13 : decode b_B_nextInterpolant 13 = .ok (.iload_n 2, 1) := by decide +kernel
theorem d_B_nextInterpolant_14 : decode b_B_nextInterpolant 14 = .ok (.aload_n 0, 1) := by decide +kernel
theorem d_B_nextInterpolant_15 : decode b_B_nextInterpolant 15 = .ok (.getfield 59, 3) := by decide +kernel
theorem d_B_nextInterpolant_18 : decode b_B_nextInterpolant 18 = .ok (.invokevirtual 169, 3) := by decide +kernel
theorem d_B_nextInterpolant_21 : decode b_B_nextInterpolant 21 = .ok (.goto 11, 3) := by decide +kernel
theorem d_B_nextInterpolant_24 : decode b_B_nextInterpolant 24 = .ok (.aload_n 0, 1) := by decide +kernel
theorem d_B_nextInterpolant_25 : decode b_B_nextInterpolant 25 = .ok (.getfield 59, 3) := by decide +kernel
theorem d_B_nextInterpolant_28 : decode b_B_nextInterpolant 28 = .ok (.lconst 0, 1) := by decide +kernel
theorem d_B_nextInterpolant_29 : decode b_B_nextInterpolant 29 = .ok (.invokestatic 197, 3) := by decide +kernel
theorem d_B_nextInterpolant_32 : decode b_B_nextInterpolant 32 = .ok (.return_, 1) := by decide +kernel
theorem d_B_gapWord_0 : decode b_B_gapWord 0 = .ok (.iload_n 2, 1) := by decide +kernel
theorem d_B_gapWord_1 : decode b_B_gapWord 1 = .ok (.lookupswitch 70 #[(0, 27), (1, 49)], 27) := by decide +kernel
theorem d_B_gapWord_28 : decode b_B_gapWord 28 = .ok (.aload_n 0, 1) := by decide +kernel
theorem d_B_gapWord_29 : decode b_B_gapWord 29 = .ok (.getfield 19, 3) := by decide +kernel
theorem d_B_gapWord_32 : decode b_B_gapWord 32 = .ok (.iconst 1, 1) := by decide +kernel
theorem d_B_gapWord_33 : decode b_B_gapWord 33 = .ok (.iload_n 1, 1) := by decide +kernel
theorem d_B_gapWord_34 : decode b_B_gapWord 34 = .ok (.iload_n 3, 1) := by decide +kernel
theorem d_B_gapWord_35 : decode b_B_gapWord 35 = .ok (.invokevirtual 203, 3) := by decide +kernel
theorem d_B_gapWord_38 : decode b_B_gapWord 38 = .ok (.aload_n 0, 1) := by decide +kernel
theorem d_B_gapWord_39 : decode b_B_gapWord 39 = .ok (.getfield 55, 3) := by decide +kernel
theorem d_B_gapWord_42 : decode b_B_gapWord 42 = .ok (.iload_n 3, 1) := by decide +kernel
theorem d_B_gapWord_43 : decode b_B_gapWord 43 = .ok (.laload, 1) := by decide +kernel
theorem d_B_gapWord_44 : decode b_B_gapWord 44 = .ok (.ldc2_w 173, 3) := by decide +kernel
theorem d_B_gapWord_47 : decode b_B_gapWord 47 = .ok (.lxor, 1) := by decide +kernel
theorem d_B_gapWord_48 : decode b_B_gapWord 48 = .ok (.land, 1) := by decide +kernel
theorem d_B_gapWord_49 : decode b_B_gapWord 49 = .ok (.lreturn, 1) := by decide +kernel
theorem d_B_gapWord_50 : decode b_B_gapWord 50 = .ok (.aload_n 0, 1) := by decide +kernel
theorem d_B_gapWord_51 : decode b_B_gapWord 51 = .ok (.getfield 19, 3) := by decide +kernel
theorem d_B_gapWord_54 : decode b_B_gapWord 54 = .ok (.iload_n 1, 1) := by decide +kernel
theorem d_B_gapWord_55 : decode b_B_gapWord 55 = .ok (.iconst 1, 1) := by decide +kernel
theorem d_B_gapWord_56 : decode b_B_gapWord 56 = .ok (.iadd, 1) := by decide +kernel
theorem d_B_gapWord_57 : decode b_B_gapWord 57 = .ok (.bipush 8, 2) := by decide +kernel
theorem d_B_gapWord_59 : decode b_B_gapWord 59 = .ok (.iload_n 3, 1) := by decide +kernel
theorem d_B_gapWord_60 : decode b_B_gapWord 60 = .ok (.invokevirtual 203, 3) := by decide +kernel
theorem d_B_gapWord_63 : decode b_B_gapWord 63 = .ok (.aload_n 0, 1) := by decide +kernel
theorem d_B_gapWord_64 : decode b_B_gapWord 64 = .ok (.getfield 55, 3) := by decide +kernel
theorem d_B_gapWord_67 : decode b_B_gapWord 67 = .ok (.iload_n 3, 1) := by decide +kernel
theorem d_B_gapWord_68 : decode b_B_gapWord 68 = .ok (.laload, 1) := by decide +kernel
theorem d_B_gapWord_69 : decode b_B_gapWord 69 = .ok (.land, 1) := by decide +kernel
theorem d_B_gapWord_70 : decode b_B_gapWord 70 = .ok (.lreturn, 1) := by decide +kernel
theorem d_B_gapWord_71 : decode b_B_gapWord 71 = .ok (.aload_n 0, 1) := by decide +kernel
theorem d_B_gapWord_72 : decode b_B_gapWord 72 = .ok (.getfield 19, 3) := by decide +kernel
theorem d_B_gapWord_75 : decode b_B_gapWord 75 = .ok (.iload_n 1, 1) := by decide +kernel
theorem d_B_gapWord_76 : decode b_B_gapWord 76 = .ok (.iconst 1, 1) := by decide +kernel
theorem d_B_gapWord_77 : decode b_B_gapWord 77 = .ok (.iadd, 1) := by decide +kernel
theorem d_B_gapWord_78 : decode b_B_gapWord 78 = .ok (.iload_n 1, 1) := by decide +kernel
theorem d_B_gapWord_79 : decode b_B_gapWord 79 = .ok (.iconst 1, 1) := by decide +kernel
theorem d_B_gapWord_80 : decode b_B_gapWord 80 = .ok (.iadd, 1) := by decide +kernel
theorem d_B_gapWord_81 : decode b_B_gapWord 81 = .ok (.iload_n 3, 1) := by decide +kernel
theorem d_B_gapWord_82 : decode b_B_gapWord 82 = .ok (.invokevirtual 203, 3) := by decide +kernel
theorem d_B_gapWord_85 : decode b_B_gapWord 85 = .ok (.aload_n 0, 1) := by decide +kernel
theorem d_B_gapWord_86 : decode b_B_gapWord 86 = .ok (.getfield 55, 3) := by decide +kernel
theorem d_B_gapWord_89 : decode b_B_gapWord 89 = .ok (.iload_n 3, 1) := by decide +kernel
theorem d_B_gapWord_90 : decode b_B_gapWord 90 = .ok (.laload, 1) := by decide +kernel
theorem d_B_gapWord_91 : decode b_B_gapWord 91 = .ok (.land, 1) := by decide +kernel
theorem d_B_gapWord_92 : decode b_B_gapWord 92 = .ok (.aload_n 0, 1) := by decide +kernel
theorem d_B_gapWord_93 : decode b_B_gapWord 93 = .ok (.getfield 59, 3) := by decide +kernel
theorem d_B_gapWord_96 : decode b_B_gapWord 96 = .ok (.iload_n 3, 1) := by decide +kernel
theorem d_B_gapWord_97 : decode b_B_gapWord 97 = .ok (.laload, 1) := by decide +kernel
theorem d_B_gapWord_98 : decode b_B_gapWord 98 = .ok (.ldc2_w 173, 3) := by decide +kernel
theorem d_B_gapWord_101 : decode b_B_gapWord 101 = .ok (.lxor, 1) := by decide +kernel
theorem d_B_gapWord_102 : decode b_B_gapWord 102 = .ok (.land, 1) := by decide +kernel
theorem d_B_gapWord_103 : decode b_B_gapWord 103 = .ok (.lreturn, 1) := by decide +kernel
theorem d_B_isVariable_0 : decode b_B_isVariable 0 = .ok (.iload_n 0, 1) := by decide +kernel
theorem d_B_isVariable_1 : decode b_B_isVariable 1 = .ok (.iconst 1, 1) := by decide +kernel
theorem d_B_isVariable_2 : decode b_B_isVariable 2 = .ok (.if_icmp .lt 13, 3) := by decide +kernel
theorem d_B_isVariable_5 : decode b_B_isVariable 5 = .ok (.iload_n 0, 1) := by decide +kernel
theorem d_B_isVariable_6 : decode b_B_isVariable 6 = .ok (.bipush 10, 2) := by decide +kernel
theorem d_B_isVariable_8 : decode b_B_isVariable 8 = .ok (.if_icmp .gt 7, 3) := by decide +kernel
theorem d_B_isVariable_11 : decode b_B_isVariable 11 = .ok (.iconst 1, 1) := by decide +kernel
theorem d_B_isVariable_12 : decode b_B_isVariable 12 = .ok (.goto 4, 3) := by decide +kernel
theorem d_B_isVariable_15 : decode b_B_isVariable 15 = .ok (.iconst 0, 1) := by decide +kernel
theorem d_B_isVariable_16 : decode b_B_isVariable 16 = .ok (.ireturn, 1) := by decide +kernel
theorem d_B_isCut_0 : decode b_B_isCut 0 = .ok (.iload_n 0, 1) := by decide +kernel
theorem d_B_isCut_1 : decode b_B_isCut 1 = .ok (.iconst 1, 1) := by decide +kernel
theorem d_B_isCut_2 : decode b_B_isCut 2 = .ok (.if_icmp .lt 13, 3) := by decide +kernel
theorem d_B_isCut_5 : decode b_B_isCut 5 = .ok (.iload_n 0, 1) := by decide +kernel
theorem d_B_isCut_6 : decode b_B_isCut 6 = .ok (.bipush 7, 2) := by decide +kernel
theorem d_B_isCut_8 : decode b_B_isCut 8 = .ok (.if_icmp .gt 7, 3) := by decide +kernel
theorem d_B_isCut_11 : decode b_B_isCut 11 = .ok (.iconst 1, 1) := by decide +kernel
theorem d_B_isCut_12 : decode b_B_isCut 12 = .ok (.goto 4, 3) := by decide +kernel
theorem d_B_isCut_15 : decode b_B_isCut 15 = .ok (.iconst 0, 1) := by decide +kernel
theorem d_B_isCut_16 : decode b_B_isCut 16 = .ok (.ireturn, 1) := by decide +kernel
theorem d_B_isSystem_0 : decode b_B_isSystem 0 = .ok (.iload_n 0, 1) := by decide +kernel
theorem d_B_isSystem_1 : decode b_B_isSystem 1 = .ok (.ifCond .lt 12, 3) := by decide +kernel
theorem d_B_isSystem_4 : decode b_B_isSystem 4 = .ok (.iload_n 0, 1) := by decide +kernel
theorem d_B_isSystem_5 : decode b_B_isSystem 5 = .ok (.iconst 4, 1) := by decide +kernel
theorem d_B_isSystem_6 : decode b_B_isSystem 6 = .ok (.if_icmp .ge 7, 3) := by decide +kernel
theorem d_B_isSystem_9 : decode b_B_isSystem 9 = .ok (.iconst 1, 1) := by decide +kernel
theorem d_B_isSystem_10 : decode b_B_isSystem 10 = .ok (.goto 4, 3) := by decide +kernel
theorem d_B_isSystem_13 : decode b_B_isSystem 13 = .ok (.iconst 0, 1) := by decide +kernel
theorem d_B_isSystem_14 : decode b_B_isSystem 14 = .ok (.ireturn, 1) := by decide +kernel
theorem d_B_bitOf_0 : decode b_B_bitOf 0 = .ok (.iconst 1, 1) := by decide +kernel
theorem d_B_bitOf_1 : decode b_B_bitOf 1 = .ok (.iload_n 0, 1) := by decide +kernel
theorem d_B_bitOf_2 : decode b_B_bitOf 2 = .ok (.iconst 1, 1) := by decide +kernel
theorem d_B_bitOf_3 : decode b_B_bitOf 3 = .ok (.isub, 1) := by decide +kernel
theorem d_B_bitOf_4 : decode b_B_bitOf 4 = .ok (.ishl, 1) := by decide +kernel
theorem d_B_bitOf_5 : decode b_B_bitOf 5 = .ok (.ireturn, 1) := by decide +kernel
theorem d_A_init_0 : decode b_A_init 0 = .ok (.aload_n 0, 1) := by decide +kernel
theorem d_A_init_1 : decode b_A_init 1 = .ok (.invokespecial 3, 3) := by decide +kernel
theorem d_A_init_4 : decode b_A_init 4 = .ok (.aload_n 0, 1) := by decide +kernel
theorem d_A_init_5 : decode b_A_init 5 = .ok (.sipush 3216, 3) := by decide +kernel
theorem d_A_init_8 : decode b_A_init 8 = .ok (.newarray .long, 2) := by decide +kernel
theorem d_A_init_10 : decode b_A_init 10 = .ok (.putfield 9, 3) := by decide +kernel
theorem d_A_init_13 : decode b_A_init 13 = .ok (.aload_n 0, 1) := by decide +kernel
theorem d_A_init_14 : decode b_A_init 14 = .ok (.sipush 201, 3) := by decide +kernel
theorem d_A_init_17 : decode b_A_init 17 = .ok (.newarray .boolean, 2) := by decide +kernel
theorem d_A_init_19 : decode b_A_init 19 = .ok (.putfield 15, 3) := by decide +kernel
theorem d_A_init_22 : decode b_A_init 22 = .ok (.aload_n 0, 1) := by decide +kernel
theorem d_A_init_23 : decode b_A_init 23 = .ok (.new 19, 3) := by decide +kernel
theorem d_A_init_26 : decode b_A_init 26 = .ok (.dup, 1) := by decide +kernel
theorem d_A_init_27 : decode b_A_init 27 = .ok (.invokespecial 21, 3) := by decide +kernel
theorem d_A_init_30 : decode b_A_init 30 = .ok (.putfield 22, 3) := by decide +kernel
theorem d_A_init_33 : decode b_A_init 33 = .ok (.return_, 1) := by decide +kernel
theorem d_A_take_0 : decode b_A_take 0 = .ok (.aload_n 0, 1) := by decide +kernel
theorem d_A_take_1 : decode b_A_take 1 = .ok (.aload_n 2, 1) := by decide +kernel
theorem d_A_take_2 : decode b_A_take 2 = .ok (.getfield 26, 3) := by decide +kernel
theorem d_A_take_5 : decode b_A_take 5 = .ok (.putfield 32, 3) := by decide +kernel
theorem d_A_take_8 : decode b_A_take 8 = .ok (.iconst 1, 1) := by decide +kernel
theorem d_A_take_9 : decode b_A_take 9 = .ok (.istore_n 3, 1) := by decide +kernel
theorem d_A_take_10 : decode b_A_take 10 = .ok (.iload_n 3, 1) := by decide +kernel
theorem d_A_take_11 : decode b_A_take 11 = .ok (.sipush 200, 3) := by decide +kernel
theorem d_A_take_14 : decode b_A_take 14 = .ok (.if_icmp .gt 21, 3) := by decide +kernel
theorem d_A_take_17 : decode b_A_take 17 = .ok (.aload_n 0, 1) := by decide +kernel
theorem d_A_take_18 : decode b_A_take 18 = .ok (.getfield 15, 3) := by decide +kernel
theorem d_A_take_21 : decode b_A_take 21 = .ok (.iload_n 3, 1) := by decide +kernel
theorem d_A_take_22 : decode b_A_take 22 = .ok (.aload_n 2, 1) := by decide +kernel
theorem d_A_take_23 : decode b_A_take 23 = .ok (.getfield 35, 3) := by decide +kernel
theorem d_A_take_26 : decode b_A_take 26 = .ok (.iload_n 3, 1) := by decide +kernel
theorem d_A_take_27 : decode b_A_take 27 = .ok (.baload, 1) := by decide +kernel
theorem d_A_take_28 : decode b_A_take 28 = .ok (.bastore, 1) := by decide +kernel
theorem d_A_take_29 : decode b_A_take 29 = .ok (.iinc 3 1, 3) := by decide +kernel
theorem d_A_take_32 : decode b_A_take 32 = .ok (.goto (-22), 3) := by decide +kernel
theorem d_A_take_35 : decode b_A_take 35 = .ok (.iconst 0, 1) := by decide +kernel
theorem d_A_take_36 : decode b_A_take 36 = .ok (.istore_n 3, 1) := by decide +kernel
theorem d_A_take_37 : decode b_A_take 37 = .ok (.iload_n 3, 1) := by decide +kernel
theorem d_A_take_38 : decode b_A_take 38 = .ok (.bipush 16, 2) := by decide +kernel
theorem d_A_take_40 : decode b_A_take 40 = .ok (.if_icmp .ge 51, 3) := by decide +kernel
theorem d_A_take_43 : decode b_A_take 43 = .ok (.aload_n 1, 1) := by decide +kernel
theorem d_A_take_44 : decode b_A_take 44 = .ok (.iload_n 3, 1) := by decide +kernel
theorem d_A_take_45 : decode b_A_take 45 = .ok (.invokevirtual 38, 3) := by decide +kernel
theorem d_A_take_48 : decode b_A_take 48 = .ok (.iconst 1, 1) := by decide +kernel
theorem d_A_take_49 : decode b_A_take 49 = .ok (.istore 4, 2) := by decide +kernel
theorem d_A_take_51 : decode b_A_take 51 = .ok (.iload 4, 2) := by decide +kernel
theorem d_A_take_53 : decode b_A_take 53 = .ok (.aload_n 0, 1) := by decide +kernel
theorem d_A_take_54 : decode b_A_take 54 = .ok (.getfield 32, 3) := by decide +kernel
theorem d_A_take_57 : decode b_A_take 57 = .ok (.if_icmp .gt 28, 3) := by decide +kernel
theorem d_A_take_60 : decode b_A_take 60 = .ok (.aload_n 0, 1) := by decide +kernel
theorem d_A_take_61 : decode b_A_take 61 = .ok (.getfield 9, 3) := by decide +kernel
theorem d_A_take_64 : decode b_A_take 64 = .ok (.iload 4, 2) := by decide +kernel
theorem d_A_take_66 : decode b_A_take 66 = .ok (.bipush 16, 2) := by decide +kernel
theorem d_A_take_68 : decode b_A_take 68 = .ok (.imul, 1) := by decide +kernel
theorem d_A_take_69 : decode b_A_take 69 = .ok (.iload_n 3, 1) := by decide +kernel
theorem d_A_take_70 : decode b_A_take 70 = .ok (.iadd, 1) := by decide +kernel
theorem d_A_take_71 : decode b_A_take 71 = .ok (.aload_n 1, 1) := by decide +kernel
theorem d_A_take_72 : decode b_A_take 72 = .ok (.getfield 44, 3) := by decide +kernel
theorem d_A_take_75 : decode b_A_take 75 = .ok (.iload 4, 2) := by decide +kernel
theorem d_A_take_77 : decode b_A_take 77 = .ok (.laload, 1) := by decide +kernel
theorem d_A_take_78 : decode b_A_take 78 = .ok (.lastore, 1) := by decide +kernel
theorem d_A_take_79 : decode b_A_take 79 = .ok (.iinc 4 1, 3) := by decide +kernel
theorem d_A_take_82 : decode b_A_take 82 = .ok (.goto (-31), 3) := by decide +kernel
theorem d_A_take_85 : decode b_A_take 85 = .ok (.iinc 3 1, 3) := by decide +kernel
theorem d_A_take_88 : decode b_A_take 88 = .ok (.goto (-51), 3) := by decide +kernel
theorem d_A_take_91 : decode b_A_take 91 = .ok (.aload_n 0, 1) := by decide +kernel
theorem d_A_take_92 : decode b_A_take 92 = .ok (.getfield 22, 3) := by decide +kernel
theorem d_A_take_95 : decode b_A_take 95 = .ok (.aload_n 0, 1) := by decide +kernel
theorem d_A_take_96 : decode b_A_take 96 = .ok (.getfield 9, 3) := by decide +kernel
theorem d_A_take_99 : decode b_A_take 99 = .ok (.aload_n 0, 1) := by decide +kernel
theorem d_A_take_100 : decode b_A_take 100 = .ok (.getfield 32, 3) := by decide +kernel
theorem d_A_take_103 : decode b_A_take 103 = .ok (.bipush 16, 2) := by decide +kernel
theorem d_A_take_105 : decode b_A_take 105 = .ok (.imul, 1) := by decide +kernel
theorem d_A_take_106 : decode b_A_take 106 = .ok (.invokevirtual 47, 3) := by decide +kernel
theorem d_A_take_109 : decode b_A_take 109 = .ok (.return_, 1) := by decide +kernel
theorem d_A_truth_0 : decode b_A_truth 0 = .ok (.iload_n 1, 1) := by decide +kernel
theorem d_A_truth_1 : decode b_A_truth 1 = .ok (.iconst 1, 1) := by decide +kernel
theorem d_A_truth_2 : decode b_A_truth 2 = .ok (.if_icmp .lt 30, 3) := by decide +kernel
theorem d_A_truth_5 : decode b_A_truth 5 = .ok (.iload_n 1, 1) := by decide +kernel
theorem d_A_truth_6 : decode b_A_truth 6 = .ok (.sipush 200, 3) := by decide +kernel
theorem d_A_truth_9 : decode b_A_truth 9 = .ok (.if_icmp .gt 23, 3) := by decide +kernel
theorem d_A_truth_12 : decode b_A_truth 12 = .ok (.aload_n 0, 1) := by decide +kernel
theorem d_A_truth_13 : decode b_A_truth 13 = .ok (.getfield 15, 3) := by decide +kernel
theorem d_A_truth_16 : decode b_A_truth 16 = .ok (.iload_n 1, 1) := by decide +kernel
theorem d_A_truth_17 : decode b_A_truth 17 = .ok (.baload, 1) := by decide +kernel
theorem d_A_truth_18 : decode b_A_truth 18 = .ok (.ifCond .eq 14, 3) := by decide +kernel
theorem d_A_truth_21 : decode b_A_truth 21 = .ok (.iload_n 2, 1) := by decide +kernel
theorem d_A_truth_22 : decode b_A_truth 22 = .ok (.ifCond .lt 10, 3) := by decide +kernel
theorem d_A_truth_25 : decode b_A_truth 25 = .ok (.iload_n 2, 1) := by decide +kernel
theorem d_A_truth_26 : decode b_A_truth 26 = .ok (.sipush 1024, 3) := by decide +kernel
theorem d_A_truth_29 : decode b_A_truth 29 = .ok (.if_icmp .lt 5, 3) := by decide +kernel
theorem d_A_truth_32 : decode b_A_truth 32 = .ok (.iconst (-1), 1) := by decide +kernel
theorem d_A_truth_33 : decode b_A_truth 33 = .ok (.ireturn, 1) := by decide +kernel
theorem d_A_truth_34 : decode b_A_truth 34 = .ok (.aload_n 0, 1) := by decide +kernel
theorem d_A_truth_35 : decode b_A_truth 35 = .ok (.getfield 9, 3) := by decide +kernel
theorem d_A_truth_38 : decode b_A_truth 38 = .ok (.iload_n 1, 1) := by decide +kernel
theorem d_A_truth_39 : decode b_A_truth 39 = .ok (.bipush 16, 2) := by decide +kernel
theorem d_A_truth_41 : decode b_A_truth 41 = .ok (.imul, 1) := by decide +kernel
theorem d_A_truth_42 : decode b_A_truth 42 = .ok (.iload_n 2, 1) := by decide +kernel
theorem d_A_truth_43 : decode b_A_truth 43 = .ok (.invokestatic 51, 3) := by decide +kernel
theorem d_A_truth_46 : decode b_A_truth 46 = .ok (.ireturn, 1) := by decide +kernel
theorem d_A_trueValuations_0 : decode b_A_trueValuations 0 = .ok (.iconst 0, 1) := by decide +kernel
theorem d_A_trueValuations_1 : decode b_A_trueValuations 1 = .ok (.istore_n 1, 1) := by decide +kernel
theorem d_A_trueValuations_2 : decode b_A_trueValuations 2 = .ok (.iconst 0, 1) := by decide +kernel
theorem d_A_trueValuations_3 : decode b_A_trueValuations 3 = .ok (.istore_n 2, 1) := by decide +kernel
theorem d_A_trueValuations_4 : decode b_A_trueValuations 4 = .ok (.iload_n 2, 1) := by decide +kernel
theorem d_A_trueValuations_5 : decode b_A_trueValuations 5 = .ok (.bipush 16, 2) := by decide +kernel
theorem d_A_trueValuations_7 : decode b_A_trueValuations 7 = .ok (.if_icmp .ge 29, 3) := by decide +kernel
theorem d_A_trueValuations_10 : decode b_A_trueValuations 10 = .ok (.iload_n 1, 1) := by decide +kernel
theorem d_A_trueValuations_11 : decode b_A_trueValuations 11 = .ok (.aload_n 0, 1) := by decide +kernel
theorem d_A_trueValuations_12 : decode b_A_trueValuations 12 = .ok (.getfield 9, 3) := by decide +kernel
theorem d_A_trueValuations_15 : decode b_A_trueValuations 15 = .ok (.aload_n 0, 1) := by decide +kernel
theorem d_A_trueValuations_16 : decode b_A_trueValuations 16 = .ok (.getfield 32, 3) := by decide +kernel
theorem d_A_trueValuations_19 : decode b_A_trueValuations 19 = .ok (.bipush 16, 2) := by decide +kernel
theorem d_A_trueValuations_21 : decode b_A_trueValuations 21 = .ok (.imul, 1) := by decide +kernel
theorem d_A_trueValuations_22 : decode b_A_trueValuations 22 = .ok (.iload_n 2, 1) := by decide +kernel
theorem d_A_trueValuations_23 : decode b_A_trueValuations 23 = .ok (.iadd, 1) := by decide +kernel
theorem d_A_trueValuations_24 : decode b_A_trueValuations 24 = .ok (.laload, 1) := by decide +kernel
theorem d_A_trueValuations_25 : decode b_A_trueValuations 25 = .ok (.invokestatic 55, 3) := by decide +kernel
theorem d_A_trueValuations_28 : decode b_A_trueValuations 28 = .ok (.iadd, 1) := by decide +kernel
theorem d_A_trueValuations_29 : decode b_A_trueValuations 29 = .ok (.istore_n 1, 1) := by decide +kernel
theorem d_A_trueValuations_30 : decode b_A_trueValuations 30 = .ok (.iinc 2 1, 3) := by decide +kernel
theorem d_A_trueValuations_33 : decode b_A_trueValuations 33 = .ok (.goto (-29), 3) := by decide +kernel
theorem d_A_trueValuations_36 : decode b_A_trueValuations 36 = .ok (.iload_n 1, 1) := by decide +kernel
theorem d_A_trueValuations_37 : decode b_A_trueValuations 37 = .ok (.ireturn, 1) := by decide +kernel
theorem d_G_init_0 : decode b_G_init 0 = .ok (.aload_n 0, 1) := by decide +kernel
theorem d_G_init_1 : decode b_G_init 1 = .ok (.invokespecial 3, 3) := by decide +kernel
theorem d_G_init_4 : decode b_G_init 4 = .ok (.aload_n 0, 1) := by decide +kernel
theorem d_G_init_5 : decode b_G_init 5 = .ok (.sipush 269, 3) := by decide +kernel
theorem d_G_init_8 : decode b_G_init 8 = .ok (.newarray .int, 2) := by decide +kernel
theorem d_G_init_10 : decode b_G_init 10 = .ok (.putfield 11, 3) := by decide +kernel
theorem d_G_init_13 : decode b_G_init 13 = .ok (.aload_n 0, 1) := by decide +kernel
theorem d_G_init_14 : decode b_G_init 14 = .ok (.sipush 269, 3) := by decide +kernel
theorem d_G_init_17 : decode b_G_init 17 = .ok (.newarray .int, 2) := by decide +kernel
theorem d_G_init_19 : decode b_G_init 19 = .ok (.putfield 15, 3) := by decide +kernel
theorem d_G_init_22 : decode b_G_init 22 = .ok (.aload_n 0, 1) := by decide +kernel
theorem d_G_init_23 : decode b_G_init 23 = .ok (.sipush 269, 3) := by decide +kernel
theorem d_G_init_26 : decode b_G_init 26 = .ok (.newarray .int, 2) := by decide +kernel
theorem d_G_init_28 : decode b_G_init 28 = .ok (.putfield 18, 3) := by decide +kernel
theorem d_G_init_31 : decode b_G_init 31 = .ok (.aload_n 0, 1) := by decide +kernel
theorem d_G_init_32 : decode b_G_init 32 = .ok (.sipush 269, 3) := by decide +kernel
theorem d_G_init_35 : decode b_G_init 35 = .ok (.newarray .int, 2) := by decide +kernel
theorem d_G_init_37 : decode b_G_init 37 = .ok (.putfield 21, 3) := by decide +kernel
theorem d_G_init_40 : decode b_G_init 40 = .ok (.aload_n 0, 1) := by decide +kernel
theorem d_G_init_41 : decode b_G_init 41 = .ok (.sipush 269, 3) := by decide +kernel
theorem d_G_init_44 : decode b_G_init 44 = .ok (.newarray .int, 2) := by decide +kernel
theorem d_G_init_46 : decode b_G_init 46 = .ok (.putfield 24, 3) := by decide +kernel
theorem d_G_init_49 : decode b_G_init 49 = .ok (.aload_n 0, 1) := by decide +kernel
theorem d_G_init_50 : decode b_G_init 50 = .ok (.sipush 1024, 3) := by decide +kernel
theorem d_G_init_53 : decode b_G_init 53 = .ok (.newarray .int, 2) := by decide +kernel
theorem d_G_init_55 : decode b_G_init 55 = .ok (.putfield 27, 3) := by decide +kernel
theorem d_G_init_58 : decode b_G_init 58 = .ok (.aload_n 0, 1) := by decide +kernel
theorem d_G_init_59 : decode b_G_init 59 = .ok (.bipush 12, 2) := by decide +kernel
theorem d_G_init_61 : decode b_G_init 61 = .ok (.newarray .int, 2) := by decide +kernel
theorem d_G_init_63 : decode b_G_init 63 = .ok (.putfield 30, 3) := by decide +kernel
theorem d_G_init_66 : decode b_G_init 66 = .ok (.return_, 1) := by decide +kernel
theorem d_G_bitAt_0 : decode b_G_bitAt 0 = .ok (.iload_n 1, 1) := by decide +kernel
theorem d_G_bitAt_1 : decode b_G_bitAt 1 = .ok (.iload_n 2, 1) := by decide +kernel
theorem d_G_bitAt_2 : decode b_G_bitAt 2 = .ok (.bipush 64, 2) := by decide +kernel
theorem d_G_bitAt_4 : decode b_G_bitAt 4 = .ok (.idiv, 1) := by decide +kernel
theorem d_G_bitAt_5 : decode b_G_bitAt 5 = .ok (.iadd, 1) := by decide +kernel
theorem d_G_bitAt_6 : decode b_G_bitAt 6 = .ok (.istore_n 3, 1) := by decide +kernel
theorem d_G_bitAt_7 : decode b_G_bitAt 7 = .ok (.iload_n 2, 1) := by decide +kernel
theorem d_G_bitAt_8 : decode b_G_bitAt 8 = .ok (.ifCond .lt 13, 3) := by decide +kernel
theorem d_G_bitAt_11 : decode b_G_bitAt 11 = .ok (.iload_n 3, 1) := by decide +kernel
theorem d_G_bitAt_12 : decode b_G_bitAt 12 = .ok (.ifCond .lt 9, 3) := by decide +kernel
theorem d_G_bitAt_15 : decode b_G_bitAt 15 = .ok (.iload_n 3, 1) := by decide +kernel
theorem d_G_bitAt_16 : decode b_G_bitAt 16 = .ok (.aload_n 0, 1) := by decide +kernel
theorem d_G_bitAt_17 : decode b_G_bitAt 17 = .ok (.arraylength, 1) := by decide +kernel
theorem d_G_bitAt_18 : decode b_G_bitAt 18 = .ok (.if_icmp .lt 5, 3) := by decide +kernel
theorem d_G_bitAt_21 : decode b_G_bitAt 21 = .ok (.iconst 0, 1) := by decide +kernel
theorem d_G_bitAt_22 : decode b_G_bitAt 22 = .ok (.ireturn, 1) := by decide +kernel
theorem d_G_bitAt_23 : decode b_G_bitAt 23 = .ok (.aload_n 0, 1) := by decide +kernel
theorem d_G_bitAt_24 : decode b_G_bitAt 24 = .ok (.iload_n 3, 1) := by decide +kernel
theorem d_G_bitAt_25 : decode b_G_bitAt 25 = .ok (.laload, 1) := by decide +kernel
theorem d_G_bitAt_26 : decode b_G_bitAt 26 = .ok (.iload_n 2, 1) := by decide +kernel
theorem d_G_bitAt_27 : decode b_G_bitAt 27 = .ok (.bipush 64, 2) := by decide +kernel
theorem d_G_bitAt_29 : decode b_G_bitAt 29 = .ok (.irem, 1) := by decide +kernel
theorem d_G_bitAt_30 : decode b_G_bitAt 30 = .ok (.lushr, 1) := by decide +kernel
theorem d_G_bitAt_31 : decode b_G_bitAt 31 = .ok (.lconst 1, 1) := by decide +kernel
theorem d_G_bitAt_32 : decode b_G_bitAt 32 = .ok (.land, 1) := by decide +kernel
theorem d_G_bitAt_33 : decode b_G_bitAt 33 = .ok (.l2i, 1) := by decide +kernel
theorem d_G_bitAt_34 : decode b_G_bitAt 34 = .ok (.ireturn, 1) := by decide +kernel
theorem d_G_build_0 : decode b_G_build 0 = .ok (.aload_n 0, 1) := by decide +kernel
theorem d_G_build_1 : decode b_G_build 1 = .ok (.iconst 0, 1) := by decide +kernel
theorem d_G_build_2 : decode b_G_build 2 = .ok (.putfield 33, 3) := by decide +kernel
theorem d_G_build_5 : decode b_G_build 5 = .ok (.iconst 0, 1) := by decide +kernel
theorem d_G_build_6 : decode b_G_build 6 = .ok (.istore_n 3, 1) := by decide +kernel
theorem d_G_build_7 : decode b_G_build 7 = .ok (.iload_n 3, 1) := by decide +kernel
theorem d_G_build_8 : decode b_G_build 8 = .ok (.sipush 1024, 3) := by decide +kernel
theorem d_G_build_11 : decode b_G_build 11 = .ok (.if_icmp .ge 32, 3) := by decide +kernel
theorem d_G_build_14 : decode b_G_build 14 = .ok (.aload_n 0, 1) := by decide +kernel
theorem d_G_build_15 : decode b_G_build 15 = .ok (.getfield 27, 3) := by decide +kernel
theorem d_G_build_18 : decode b_G_build 18 = .ok (.iload_n 3, 1) := by decide +kernel
theorem d_G_build_19 : decode b_G_build 19 = .ok (.aload_n 1, 1) := by decide +kernel
theorem d_G_build_20 : decode b_G_build 20 = .ok (.iload_n 2, 1) := by decide +kernel
theorem d_G_build_21 : decode b_G_build 21 = .ok (.iload_n 3, 1) := by decide +kernel
theorem d_G_build_22 : decode b_G_build 22 = .ok (.invokestatic 37, 3) := by decide +kernel
theorem d_G_build_25 : decode b_G_build 25 = .ok (.iconst 1, 1) := by decide +kernel
theorem d_G_build_26 : decode b_G_build 26 = .ok (.if_icmp .ne 8, 3) := by decide +kernel
theorem d_G_build_29 : decode b_G_build 29 = .ok (.bipush (-3), 2) := by decide +kernel
theorem d_G_build_31 : decode b_G_build 31 = .ok (.goto 5, 3) := by decide +kernel
theorem d_G_build_34 : decode b_G_build 34 = .ok (.bipush (-2), 2) := by decide +kernel
theorem d_G_build_36 : decode b_G_build 36 = .ok (.iastore, 1) := by decide +kernel
theorem d_G_build_37 : decode b_G_build 37 = .ok (.iinc 3 1, 3) := by decide +kernel
theorem d_G_build_40 : decode b_G_build 40 = .ok (.goto (-33), 3) := by decide +kernel
theorem d_G_build_43 : decode b_G_build 43 = .ok (.bipush 10, 2) := by decide +kernel
theorem d_G_build_45 : decode b_G_build 45 = .ok (.istore_n 3, 1) := by decide +kernel
theorem d_G_build_46 : decode b_G_build 46 = .ok (.iload_n 3, 1) := by decide +kernel
theorem d_G_build_47 : decode b_G_build 47 = .ok (.iconst 1, 1) := by decide +kernel
theorem d_G_build_48 : decode b_G_build 48 = .ok (.if_icmp .lt 66, 3) := by decide +kernel
theorem d_G_build_51 : decode b_G_build 51 = .ok (.aload_n 0, 1) := by decide +kernel
theorem d_G_build_52 : decode b_G_build 52 = .ok (.getfield 33, 3) := by decide +kernel
theorem d_G_build_55 : decode b_G_build 55 = .ok (.istore 4, 2) := by decide +kernel
theorem d_G_build_57 : decode b_G_build 57 = .ok (.iconst 0, 1) := by decide +kernel
theorem d_G_build_58 : decode b_G_build 58 = .ok (.istore 5, 2) := by decide +kernel
theorem d_G_build_60 : decode b_G_build 60 = .ok (.iload 5, 2) := by decide +kernel
theorem d_G_build_62 : decode b_G_build 62 = .ok (.iload_n 3, 1) := by decide +kernel
theorem d_G_build_63 : decode b_G_build 63 = .ok (.invokestatic 41, 3) := by decide +kernel
theorem d_G_build_66 : decode b_G_build 66 = .ok (.if_icmp .ge 42, 3) := by decide +kernel
theorem d_G_build_69 : decode b_G_build 69 = .ok (.aload_n 0, 1) := by decide +kernel
theorem d_G_build_70 : decode b_G_build 70 = .ok (.getfield 27, 3) := by decide +kernel
theorem d_G_build_73 : decode b_G_build 73 = .ok (.iload 5, 2) := by decide +kernel
theorem d_G_build_75 : decode b_G_build 75 = .ok (.aload_n 0, 1) := by decide +kernel
theorem d_G_build_76 : decode b_G_build 76 = .ok (.iload_n 3, 1) := by decide +kernel
theorem d_G_build_77 : decode b_G_build 77 = .ok (.aload_n 0, 1) := by decide +kernel
theorem d_G_build_78 : decode b_G_build 78 = .ok (.getfield 27, 3) := by decide +kernel
theorem d_G_build_81 : decode b_G_build 81 = .ok (.iload 5, 2) := by decide +kernel
theorem d_G_build_83 : decode b_G_build 83 = .ok (.iaload, 1) := by decide +kernel
theorem d_G_build_84 : decode b_G_build 84 = .ok (.aload_n 0, 1) := by decide +kernel
theorem d_G_build_85 : decode b_G_build 85 = .ok (.getfield 27, 3) := by decide +kernel
theorem d_G_build_88 : decode b_G_build 88 = .ok (.iload 5, 2) := by decide +kernel
theorem d_G_build_90 : decode b_G_build 90 = .ok (.iload_n 3, 1) := by decide +kernel
theorem d_G_build_91 : decode b_G_build 91 = .ok (.invokestatic 41, 3) := by decide +kernel
theorem d_G_build_94 : decode b_G_build 94 = .ok (.iadd, 1) := by decide +kernel
theorem d_G_build_95 : decode b_G_build 95 = .ok (.iaload, 1) := by decide +kernel
theorem d_G_build_96 : decode b_G_build 96 = .ok (.iload 4, 2) := by decide +kernel
theorem d_G_build_98 : decode b_G_build 98 = .ok (.invokevirtual 45, 3) := by decide +kernel
theorem d_G_build_101 : decode b_G_build 101 = .ok (.iastore, 1) := by decide +kernel
theorem d_G_build_102 : decode b_G_build 102 = .ok (.iinc 5 1, 3) := by decide +kernel
theorem d_G_build_105 : decode b_G_build 105 = .ok (.goto (-45), 3) := by decide +kernel
theorem d_G_build_108 : decode b_G_build 108 = .ok (.iinc 3 (-1), 3) := by decide +kernel
theorem d_G_build_111 : decode b_G_build 111 = .ok (.goto (-65), 3) := by decide +kernel
theorem d_G_build_114 : decode b_G_build 114 = .ok (.aload_n 0, 1) := by decide +kernel
theorem d_G_build_115 : decode b_G_build 115 = .ok (.aload_n 0, 1) := by decide +kernel
theorem d_G_build_116 : decode b_G_build 116 = .ok (.getfield 27, 3) := by decide +kernel
theorem d_G_build_119 : decode b_G_build 119 = .ok (.iconst 0, 1) := by decide +kernel
theorem d_G_build_120 : decode b_G_build 120 = .ok (.iaload, 1) := by decide +kernel
theorem d_G_build_121 : decode b_G_build 121 = .ok (.invokevirtual 49, 3) := by decide +kernel
theorem d_G_build_124 : decode b_G_build 124 = .ok (.return_, 1) := by decide +kernel
theorem d_G_join_0 : decode b_G_join 0 = .ok (.iload_n 2, 1) := by decide +kernel
theorem d_G_join_1 : decode b_G_join 1 = .ok (.iload_n 3, 1) := by decide +kernel
theorem d_G_join_2 : decode b_G_join 2 = .ok (.if_icmp .ne 5, 3) := by decide +kernel
theorem d_G_join_5 : decode b_G_join 5 = .ok (.iload_n 2, 1) := by decide +kernel
theorem d_G_join_6 : decode b_G_join 6 = .ok (.ireturn, 1) := by decide +kernel
theorem d_G_join_7 : decode b_G_join 7 = .ok (.iload 4, 2) := by decide +kernel
theorem d_G_join_9 : decode b_G_join 9 = .ok (.istore 5, 2) := by decide +kernel
theorem d_G_join_11 : decode b_G_join 11 = .ok (.iload 5, 2) := by decide +kernel
theorem d_G_join_13 : decode b_G_join 13 = .ok (.aload_n 0, 1) := by decide +kernel
theorem d_G_join_14 : decode b_G_join 14 = .ok (.getfield 33, 3) := by decide +kernel
theorem d_G_join_17 : decode b_G_join 17 = .ok (.if_icmp .ge 34, 3) := by decide +kernel
theorem d_G_join_20 : decode b_G_join 20 = .ok (.aload_n 0, 1) := by decide +kernel
theorem d_G_join_21 : decode b_G_join 21 = .ok (.getfield 15, 3) := by decide +kernel
theorem d_G_join_24 : decode b_G_join 24 = .ok (.iload 5, 2) := by decide +kernel
theorem d_G_join_26 : decode b_G_join 26 = .ok (.iaload, 1) := by decide +kernel
theorem d_G_join_27 : decode b_G_join 27 = .ok (.iload_n 2, 1) := by decide +kernel
theorem d_G_join_28 : decode b_G_join 28 = .ok (.if_icmp .ne 17, 3) := by decide +kernel
theorem d_G_join_31 : decode b_G_join 31 = .ok (.aload_n 0, 1) := by decide +kernel
theorem d_G_join_32 : decode b_G_join 32 = .ok (.getfield 18, 3) := by decide +kernel
theorem d_G_join_35 : decode b_G_join 35 = .ok (.iload 5, 2) := by decide +kernel
theorem d_G_join_37 : decode b_G_join 37 = .ok (.iaload, 1) := by decide +kernel
theorem d_G_join_38 : decode b_G_join 38 = .ok (.iload_n 3, 1) := by decide +kernel
theorem d_G_join_39 : decode b_G_join 39 = .ok (.if_icmp .ne 6, 3) := by decide +kernel
theorem d_G_join_42 : decode b_G_join 42 = .ok (.iload 5, 2) := by decide +kernel
theorem d_G_join_44 : decode b_G_join 44 = .ok (.ireturn, 1) := by decide +kernel
theorem d_G_join_45 : decode b_G_join 45 = .ok (.iinc 5 1, 3) := by decide +kernel
theorem d_G_join_48 : decode b_G_join 48 = .ok (.goto (-37), 3) := by decide +kernel
theorem d_G_join_51 : decode b_G_join 51 = .ok (.aload_n 0, 1) := by decide +kernel
theorem d_G_join_52 : decode b_G_join 52 = .ok (.getfield 33, 3) := by decide +kernel
theorem d_G_join_55 : decode b_G_join 55 = .ok (.sipush 269, 3) := by decide +kernel
theorem d_G_join_58 : decode b_G_join 58 = .ok (.if_icmp .lt 6, 3) := by decide +kernel
theorem d_G_join_61 : decode b_G_join 61 = .ok (.bipush (-2), 2) := by decide +kernel
theorem d_G_join_63 : decode b_G_join 63 = .ok (.ireturn, 1) := by decide +kernel
theorem d_G_join_64 : decode b_G_join 64 = .ok (.aload_n 0, 1) := by decide +kernel
theorem d_G_join_65 : decode b_G_join 65 = .ok (.getfield 11, 3) := by decide +kernel
theorem d_G_join_68 : decode b_G_join 68 = .ok (.aload_n 0, 1) := by decide +kernel
theorem d_G_join_69 : decode b_G_join 69 = .ok (.getfield 33, 3) := by decide +kernel
theorem d_G_join_72 : decode b_G_join 72 = .ok (.iload_n 1, 1) := by decide +kernel
theorem d_G_join_73 : decode b_G_join 73 = .ok (.iastore, 1) := by decide +kernel
theorem d_G_join_74 : decode b_G_join 74 = .ok (.aload_n 0, 1) := by decide +kernel
theorem d_G_join_75 : decode b_G_join 75 = .ok (.getfield 15, 3) := by decide +kernel
theorem d_G_join_78 : decode b_G_join 78 = .ok (.aload_n 0, 1) := by decide +kernel
theorem d_G_join_79 : decode b_G_join 79 = .ok (.getfield 33, 3) := by decide +kernel
theorem d_G_join_82 : decode b_G_join 82 = .ok (.iload_n 2, 1) := by decide +kernel
theorem d_G_join_83 : decode b_G_join 83 = .ok (.iastore, 1) := by decide +kernel
theorem d_G_join_84 : decode b_G_join 84 = .ok (.aload_n 0, 1) := by decide +kernel
theorem d_G_join_85 : decode b_G_join 85 = .ok (.getfield 18, 3) := by decide +kernel
theorem d_G_join_88 : decode b_G_join 88 = .ok (.aload_n 0, 1) := by decide +kernel
theorem d_G_join_89 : decode b_G_join 89 = .ok (.getfield 33, 3) := by decide +kernel
theorem d_G_join_92 : decode b_G_join 92 = .ok (.iload_n 3, 1) := by decide +kernel
theorem d_G_join_93 : decode b_G_join 93 = .ok (.iastore, 1) := by decide +kernel
theorem d_G_join_94 : decode b_G_join 94 = .ok (.aload_n 0, 1) := by decide +kernel
theorem d_G_join_95 : decode b_G_join 95 = .ok (.getfield 21, 3) := by decide +kernel
theorem d_G_join_98 : decode b_G_join 98 = .ok (.aload_n 0, 1) := by decide +kernel
theorem d_G_join_99 : decode b_G_join 99 = .ok (.getfield 33, 3) := by decide +kernel
theorem d_G_join_102 : decode b_G_join 102 = .ok (.iconst (-1), 1) := by decide +kernel
theorem d_G_join_103 : decode b_G_join 103 = .ok (.iastore, 1) := by decide +kernel
theorem d_G_join_104 : decode b_G_join 104 = .ok (.aload_n 0, 1) := by decide +kernel
theorem d_G_join_105 : decode b_G_join 105 = .ok (.dup, 1) := by decide +kernel
theorem d_G_join_106 : decode b_G_join 106 = .ok (.getfield 33, 3) := by decide +kernel
theorem d_G_join_109 : decode b_G_join 109 = .ok (.iconst 1, 1) := by decide +kernel
theorem d_G_join_110 : decode b_G_join 110 = .ok (.iadd, 1) := by decide +kernel
theorem d_G_join_111 : decode b_G_join 111 = .ok (.putfield 33, 3) := by decide +kernel
theorem d_G_join_114 : decode b_G_join 114 = .ok (.aload_n 0, 1) := by decide +kernel
theorem d_G_join_115 : decode b_G_join 115 = .ok (.getfield 33, 3) := by decide +kernel
theorem d_G_join_118 : decode b_G_join 118 = .ok (.iconst 1, 1) := by decide +kernel
theorem d_G_join_119 : decode b_G_join 119 = .ok (.isub, 1) := by decide +kernel
theorem d_G_join_120 : decode b_G_join 120 = .ok (.ireturn, 1) := by decide +kernel
theorem d_G_numberFrom_0 : decode b_G_numberFrom 0 = .ok (.iconst 0, 1) := by decide +kernel
theorem d_G_numberFrom_1 : decode b_G_numberFrom 1 = .ok (.istore_n 2, 1) := by decide +kernel
theorem d_G_numberFrom_2 : decode b_G_numberFrom 2 = .ok (.iconst 1, 1) := by decide +kernel
theorem d_G_numberFrom_3 : decode b_G_numberFrom 3 = .ok (.istore_n 3, 1) := by decide +kernel
theorem d_G_numberFrom_4 : decode b_G_numberFrom 4 = .ok (.aload_n 0, 1) := by decide +kernel
theorem d_G_numberFrom_5 : decode b_G_numberFrom 5 = .ok (.getfield 30, 3) := by decide +kernel
theorem d_G_numberFrom_8 : decode b_G_numberFrom 8 = .ok (.iconst 0, 1) := by decide +kernel
theorem d_G_numberFrom_9 : decode b_G_numberFrom 9 = .ok (.iload_n 1, 1) := by decide +kernel
theorem d_G_numberFrom_10 : decode b_G_numberFrom 10 = .ok (.iastore, 1) := by decide +kernel
theorem d_G_numberFrom_11 : decode b_G_numberFrom 11 = .ok (.iconst 0, 1) := by decide +kernel
theorem d_G_numberFrom_12 : decode b_G_numberFrom 12 = .ok (.istore 4, 2) := by decide +kernel
theorem d_G_numberFrom_14 : decode b_G_numberFrom 14 = .ok (.iload 4, 2) := by decide +kernel
theorem d_G_numberFrom_16 : decode b_G_numberFrom 16 = .ok (.sipush 538, 3) := by decide +kernel
theorem d_G_numberFrom_19 : decode b_G_numberFrom 19 = .ok (.if_icmp .gt 98, 3) := by decide +kernel
theorem d_G_numberFrom_22 : decode b_G_numberFrom 22 = .ok (.iload_n 3, 1) := by decide +kernel
theorem d_G_numberFrom_23 : decode b_G_numberFrom 23 = .ok (.ifCond .le 94, 3) := by decide +kernel
theorem d_G_numberFrom_26 : decode b_G_numberFrom 26 = .ok (.iinc 3 (-1), 3) := by decide +kernel
theorem d_G_numberFrom_29 : decode b_G_numberFrom 29 = .ok (.aload_n 0, 1) := by decide +kernel
theorem d_G_numberFrom_30 : decode b_G_numberFrom 30 = .ok (.getfield 30, 3) := by decide +kernel
theorem d_G_numberFrom_33 : decode b_G_numberFrom 33 = .ok (.iload_n 3, 1) := by decide +kernel
theorem d_G_numberFrom_34 : decode b_G_numberFrom 34 = .ok (.iaload, 1) := by decide +kernel
theorem d_G_numberFrom_35 : decode b_G_numberFrom 35 = .ok (.istore 5, 2) := by decide +kernel
theorem d_G_numberFrom_37 : decode b_G_numberFrom 37 = .ok (.iload 5, 2) := by decide +kernel
theorem d_G_numberFrom_39 : decode b_G_numberFrom 39 = .ok (.ifCond .lt 72, 3) := by decide +kernel
theorem d_G_numberFrom_42 : decode b_G_numberFrom 42 = .ok (.aload_n 0, 1) := by decide +kernel
theorem d_G_numberFrom_43 : decode b_G_numberFrom 43 = .ok (.getfield 21, 3) := by decide +kernel
theorem d_G_numberFrom_46 : decode b_G_numberFrom 46 = .ok (.iload 5, 2) := by decide +kernel
theorem d_G_numberFrom_48 : decode b_G_numberFrom 48 = .ok (.iaload, 1) := by decide +kernel
theorem d_G_numberFrom_49 : decode b_G_numberFrom 49 = .ok (.iconst (-1), 1) := by decide +kernel
theorem d_G_numberFrom_50 : decode b_G_numberFrom 50 = .ok (.if_icmp .ne 61, 3) := by decide +kernel
theorem d_G_numberFrom_53 : decode b_G_numberFrom 53 = .ok (.iload_n 3, 1) := by decide +kernel
theorem d_G_numberFrom_54 : decode b_G_numberFrom 54 = .ok (.iconst 1, 1) := by decide +kernel
theorem d_G_numberFrom_55 : decode b_G_numberFrom 55 = .ok (.iadd, 1) := by decide +kernel
theorem d_G_numberFrom_56 : decode b_G_numberFrom 56 = .ok (.bipush 12, 2) := by decide +kernel
theorem d_G_numberFrom_58 : decode b_G_numberFrom 58 = .ok (.if_icmp .ge 53, 3) := by decide +kernel
theorem d_G_numberFrom_61 : decode b_G_numberFrom 61 = .ok (.aload_n 0, 1) := by decide +kernel
theorem d_G_numberFrom_62 : decode b_G_numberFrom 62 = .ok (.getfield 21, 3) := by decide +kernel
theorem d_G_numberFrom_65 : decode b_G_numberFrom 65 = .ok (.iload 5, 2) := by decide +kernel
theorem d_G_numberFrom_67 : decode b_G_numberFrom 67 = .ok (.iload_n 2, 1) := by decide +kernel
theorem d_G_numberFrom_68 : decode b_G_numberFrom 68 = .ok (.iastore, 1) := by decide +kernel
theorem d_G_numberFrom_69 : decode b_G_numberFrom 69 = .ok (.aload_n 0, 1) := by decide +kernel
theorem d_G_numberFrom_70 : decode b_G_numberFrom 70 = .ok (.getfield 24, 3) := by decide +kernel
theorem d_G_numberFrom_73 : decode b_G_numberFrom 73 = .ok (.iload_n 2, 1) := by decide +kernel
theorem d_G_numberFrom_74 : decode b_G_numberFrom 74 = .ok (.iload 5, 2) := by decide +kernel
theorem d_G_numberFrom_76 : decode b_G_numberFrom 76 = .ok (.iastore, 1) := by decide +kernel
theorem d_G_numberFrom_77 : decode b_G_numberFrom 77 = .ok (.iinc 2 1, 3) := by decide +kernel
theorem d_G_numberFrom_80 : decode b_G_numberFrom 80 = .ok (.aload_n 0, 1) := by decide +kernel
theorem d_G_numberFrom_81 : decode b_G_numberFrom 81 = .ok (.getfield 30, 3) := by decide +kernel
theorem d_G_numberFrom_84 : decode b_G_numberFrom 84 = .ok (.iload_n 3, 1) := by decide +kernel
theorem d_G_numberFrom_85 : decode b_G_numberFrom 85 = .ok (.aload_n 0, 1) := by decide +kernel
theorem d_G_numberFrom_86 : decode b_G_numberFrom 86 = .ok (.getfield 18, 3) := by decide +kernel
theorem d_G_numberFrom_89 : decode b_G_numberFrom 89 = .ok (.iload 5, 2) := by decide +kernel
theorem d_G_numberFrom_91 : decode b_G_numberFrom 91 = .ok (.iaload, 1) := by decide +kernel
theorem d_G_numberFrom_92 : decode b_G_numberFrom 92 = .ok (.iastore, 1) := by decide +kernel
theorem d_G_numberFrom_93 : decode b_G_numberFrom 93 = .ok (.aload_n 0, 1) := by decide +kernel
theorem d_G_numberFrom_94 : decode b_G_numberFrom 94 = .ok (.getfield 30, 3) := by decide +kernel
theorem d_G_numberFrom_97 : decode b_G_numberFrom 97 = .ok (.iload_n 3, 1) := by decide +kernel
theorem d_G_numberFrom_98 : decode b_G_numberFrom 98 = .ok (.iconst 1, 1) := by decide +kernel
theorem d_G_numberFrom_99 : decode b_G_numberFrom 99 = .ok (.iadd, 1) := by decide +kernel
theorem d_G_numberFrom_100 : decode b_G_numberFrom 100 = .ok (.aload_n 0, 1) := by decide +kernel
theorem d_G_numberFrom_101 : decode b_G_numberFrom 101 = .ok (.getfield 15, 3) := by decide +kernel
theorem d_G_numberFrom_104 : decode b_G_numberFrom 104 = .ok (.iload 5, 2) := by decide +kernel
theorem d_G_numberFrom_106 : decode b_G_numberFrom 106 = .ok (.iaload, 1) := by decide +kernel
theorem d_G_numberFrom_107 : decode b_G_numberFrom 107 = .ok (.iastore, 1) := by decide +kernel
theorem d_G_numberFrom_108 : decode b_G_numberFrom 108 = .ok (.iinc 3 2, 3) := by decide +kernel
theorem d_G_numberFrom_111 : decode b_G_numberFrom 111 = .ok (.iinc 4 1, 3) := by decide +kernel
theorem d_G_numberFrom_114 : decode b_G_numberFrom 114 = .ok (.goto (-100), 3) := by decide +kernel
theorem d_G_numberFrom_117 : decode b_G_numberFrom 117 = .ok (.return_, 1) := by decide +kernel
theorem d_G_support_0 : decode b_G_support 0 = .ok (.iconst 0, 1) := by decide +kernel
theorem d_G_support_1 : decode b_G_support 1 = .ok (.istore_n 1, 1) := by decide +kernel
theorem d_G_support_2 : decode b_G_support 2 = .ok (.iconst 0, 1) := by decide +kernel
theorem d_G_support_3 : decode b_G_support 3 = .ok (.istore_n 2, 1) := by decide +kernel
theorem d_G_support_4 : decode b_G_support 4 = .ok (.iload_n 2, 1) := by decide +kernel
theorem d_G_support_5 : decode b_G_support 5 = .ok (.aload_n 0, 1) := by decide +kernel
theorem d_G_support_6 : decode b_G_support 6 = .ok (.getfield 33, 3) := by decide +kernel
theorem d_G_support_9 : decode b_G_support 9 = .ok (.if_icmp .ge 21, 3) := by decide +kernel
theorem d_G_support_12 : decode b_G_support 12 = .ok (.iload_n 1, 1) := by decide +kernel
theorem d_G_support_13 : decode b_G_support 13 = .ok (.aload_n 0, 1) := by decide +kernel
theorem d_G_support_14 : decode b_G_support 14 = .ok (.getfield 11, 3) := by decide +kernel
theorem d_G_support_17 : decode b_G_support 17 = .ok (.iload_n 2, 1) := by decide +kernel
theorem d_G_support_18 : decode b_G_support 18 = .ok (.iaload, 1) := by decide +kernel
theorem d_G_support_19 : decode b_G_support 19 = .ok (.invokestatic 41, 3) := by decide +kernel
theorem d_G_support_22 : decode b_G_support 22 = .ok (.ior, 1) := by decide +kernel
theorem d_G_support_23 : decode b_G_support 23 = .ok (.istore_n 1, 1) := by decide +kernel
theorem d_G_support_24 : decode b_G_support 24 = .ok (.iinc 2 1, 3) := by decide +kernel
theorem d_G_support_27 : decode b_G_support 27 = .ok (.goto (-23), 3) := by decide +kernel
theorem d_G_support_30 : decode b_G_support 30 = .ok (.iload_n 1, 1) := by decide +kernel
theorem d_G_support_31 : decode b_G_support 31 = .ok (.ireturn, 1) := by decide +kernel
theorem d_G_tell_0 : decode b_G_tell 0 = .ok (.iload_n 1, 1) := by decide +kernel
theorem d_G_tell_1 : decode b_G_tell 1 = .ok (.ifCond .lt 11, 3) := by decide +kernel
theorem d_G_tell_4 : decode b_G_tell 4 = .ok (.iload_n 1, 1) := by decide +kernel
theorem d_G_tell_5 : decode b_G_tell 5 = .ok (.aload_n 0, 1) := by decide +kernel
theorem d_G_tell_6 : decode b_G_tell 6 = .ok (.getfield 33, 3) := by decide +kernel
theorem d_G_tell_9 : decode b_G_tell 9 = .ok (.if_icmp .lt 5, 3) := by decide +kernel
theorem d_G_tell_12 : decode b_G_tell 12 = .ok (.iconst (-1), 1) := by decide +kernel
theorem d_G_tell_13 : decode b_G_tell 13 = .ok (.ireturn, 1) := by decide +kernel
theorem d_G_tell_14 : decode b_G_tell 14 = .ok (.aload_n 0, 1) := by decide +kernel
theorem d_G_tell_15 : decode b_G_tell 15 = .ok (.getfield 24, 3) := by decide +kernel
theorem d_G_tell_18 : decode b_G_tell 18 = .ok (.iload_n 1, 1) := by decide +kernel
theorem d_G_tell_19 : decode b_G_tell 19 = .ok (.iaload, 1) := by decide +kernel
theorem d_G_tell_20 : decode b_G_tell 20 = .ok (.istore_n 3, 1) := by decide +kernel
theorem d_G_tell_21 : decode b_G_tell 21 = .ok (.iload_n 2, 1) := by decide +kernel
theorem d_G_tell_22 : decode b_G_tell 22 = .ok (.tableswitch 55 0 2 #[26, 33, 44], 26) := by decide +kernel
theorem d_G_tell_48 : decode b_G_tell 48 = .ok (.aload_n 0, 1) := by decide +kernel
theorem d_G_tell_49 : decode b_G_tell 49 = .ok (.getfield 11, 3) := by decide +kernel
theorem d_G_tell_52 : decode b_G_tell 52 = .ok (.iload_n 3, 1) := by decide +kernel
theorem d_G_tell_53 : decode b_G_tell 53 = .ok (.iaload, 1) := by decide +kernel
theorem d_G_tell_54 : decode b_G_tell 54 = .ok (.ireturn, 1) := by decide +kernel
theorem d_G_tell_55 : decode b_G_tell 55 = .ok (.aload_n 0, 1) := by decide +kernel
theorem d_G_tell_56 : decode b_G_tell 56 = .ok (.aload_n 0, 1) := by decide +kernel
theorem d_G_tell_57 : decode b_G_tell 57 = .ok (.getfield 15, 3) := by decide +kernel
theorem d_G_tell_60 : decode b_G_tell 60 = .ok (.iload_n 3, 1) := by decide +kernel
theorem d_G_tell_61 : decode b_G_tell 61 = .ok (.iaload, 1) := by decide +kernel
theorem d_G_tell_62 : decode b_G_tell 62 = .ok (.invokevirtual 53, 3) := by decide +kernel
theorem d_G_tell_65 : decode b_G_tell 65 = .ok (.ireturn, 1) := by decide +kernel
theorem d_G_tell_66 : decode b_G_tell 66 = .ok (.aload_n 0, 1) := by decide +kernel
theorem d_G_tell_67 : decode b_G_tell 67 = .ok (.aload_n 0, 1) := by decide +kernel
theorem d_G_tell_68 : decode b_G_tell 68 = .ok (.getfield 18, 3) := by decide +kernel
theorem d_G_tell_71 : decode b_G_tell 71 = .ok (.iload_n 3, 1) := by decide +kernel
theorem d_G_tell_72 : decode b_G_tell 72 = .ok (.iaload, 1) := by decide +kernel
theorem d_G_tell_73 : decode b_G_tell 73 = .ok (.invokevirtual 53, 3) := by decide +kernel
theorem d_G_tell_76 : decode b_G_tell 76 = .ok (.ireturn, 1) := by decide +kernel
theorem d_G_tell_77 : decode b_G_tell 77 = .ok (.iconst (-1), 1) := by decide +kernel
theorem d_G_tell_78 : decode b_G_tell 78 = .ok (.ireturn, 1) := by decide +kernel
theorem d_G_sideNumber_0 : decode b_G_sideNumber 0 = .ok (.iload_n 1, 1) := by decide +kernel
theorem d_G_sideNumber_1 : decode b_G_sideNumber 1 = .ok (.ifCond .ge 7, 3) := by decide +kernel
theorem d_G_sideNumber_4 : decode b_G_sideNumber 4 = .ok (.iload_n 1, 1) := by decide +kernel
theorem d_G_sideNumber_5 : decode b_G_sideNumber 5 = .ok (.goto 9, 3) := by decide +kernel
theorem d_G_sideNumber_8 : decode b_G_sideNumber 8 = .ok (.aload_n 0, 1) := by decide +kernel
theorem d_G_sideNumber_9 : decode b_G_sideNumber 9 = .ok (.getfield 21, 3) := by decide +kernel
theorem d_G_sideNumber_12 : decode b_G_sideNumber 12 = .ok (.iload_n 1, 1) := by decide +kernel
theorem d_G_sideNumber_13 : decode b_G_sideNumber 13 = .ok (.iaload, 1) := by decide +kernel
theorem d_G_sideNumber_14 : decode b_G_sideNumber 14 = .ok (.ireturn, 1) := by decide +kernel
theorem d_K_bitCount_0 : decode b_K_bitCount 0 = .ok (.lload_n 0, 1) := by decide +kernel
theorem d_K_bitCount_1 : decode b_K_bitCount 1 = .ok (.lload_n 0, 1) := by decide +kernel
theorem d_K_bitCount_2 : decode b_K_bitCount 2 = .ok (.iconst 1, 1) := by decide +kernel
theorem d_K_bitCount_3 : decode b_K_bitCount 3 = .ok (.lushr, 1) := by decide +kernel
theorem d_K_bitCount_4 : decode b_K_bitCount 4 = .ok (.ldc2_w 314, 3) := by decide +kernel
theorem d_K_bitCount_7 : decode b_K_bitCount 7 = .ok (.land, 1) := by decide +kernel
theorem d_K_bitCount_8 : decode b_K_bitCount 8 = .ok (.lsub, 1) := by decide +kernel
theorem d_K_bitCount_9 : decode b_K_bitCount 9 = .ok (.lstore_n 0, 1) := by decide +kernel
theorem d_K_bitCount_10 : decode b_K_bitCount 10 = .ok (.lload_n 0, 1) := by decide +kernel
theorem d_K_bitCount_11 : decode b_K_bitCount 11 = .ok (.ldc2_w 316, 3) := by decide +kernel
theorem d_K_bitCount_14 : decode b_K_bitCount 14 = .ok (.land, 1) := by decide +kernel
theorem d_K_bitCount_15 : decode b_K_bitCount 15 = .ok (.lload_n 0, 1) := by decide +kernel
theorem d_K_bitCount_16 : decode b_K_bitCount 16 = .ok (.iconst 2, 1) := by decide +kernel
theorem d_K_bitCount_17 : decode b_K_bitCount 17 = .ok (.lushr, 1) := by decide +kernel
theorem d_K_bitCount_18 : decode b_K_bitCount 18 = .ok (.ldc2_w 316, 3) := by decide +kernel
theorem d_K_bitCount_21 : decode b_K_bitCount 21 = .ok (.land, 1) := by decide +kernel
theorem d_K_bitCount_22 : decode b_K_bitCount 22 = .ok (.ladd, 1) := by decide +kernel
theorem d_K_bitCount_23 : decode b_K_bitCount 23 = .ok (.lstore_n 0, 1) := by decide +kernel
theorem d_K_bitCount_24 : decode b_K_bitCount 24 = .ok (.lload_n 0, 1) := by decide +kernel
theorem d_K_bitCount_25 : decode b_K_bitCount 25 = .ok (.lload_n 0, 1) := by decide +kernel
theorem d_K_bitCount_26 : decode b_K_bitCount 26 = .ok (.iconst 4, 1) := by decide +kernel
theorem d_K_bitCount_27 : decode b_K_bitCount 27 = .ok (.lushr, 1) := by decide +kernel
theorem d_K_bitCount_28 : decode b_K_bitCount 28 = .ok (.ladd, 1) := by decide +kernel
theorem d_K_bitCount_29 : decode b_K_bitCount 29 = .ok (.ldc2_w 318, 3) := by decide +kernel
theorem d_K_bitCount_32 : decode b_K_bitCount 32 = .ok (.land, 1) := by decide +kernel
theorem d_K_bitCount_33 : decode b_K_bitCount 33 = .ok (.lstore_n 0, 1) := by decide +kernel
theorem d_K_bitCount_34 : decode b_K_bitCount 34 = .ok (.lload_n 0, 1) := by decide +kernel
theorem d_K_bitCount_35 : decode b_K_bitCount 35 = .ok (.lload_n 0, 1) := by decide +kernel
theorem d_K_bitCount_36 : decode b_K_bitCount 36 = .ok (.bipush 8, 2) := by decide +kernel
theorem d_K_bitCount_38 : decode b_K_bitCount 38 = .ok (.lushr, 1) := by decide +kernel
theorem d_K_bitCount_39 : decode b_K_bitCount 39 = .ok (.ladd, 1) := by decide +kernel
theorem d_K_bitCount_40 : decode b_K_bitCount 40 = .ok (.lstore_n 0, 1) := by decide +kernel
theorem d_K_bitCount_41 : decode b_K_bitCount 41 = .ok (.lload_n 0, 1) := by decide +kernel
theorem d_K_bitCount_42 : decode b_K_bitCount 42 = .ok (.lload_n 0, 1) := by decide +kernel
theorem d_K_bitCount_43 : decode b_K_bitCount 43 = .ok (.bipush 16, 2) := by decide +kernel
theorem d_K_bitCount_45 : decode b_K_bitCount 45 = .ok (.lushr, 1) := by decide +kernel
theorem d_K_bitCount_46 : decode b_K_bitCount 46 = .ok (.ladd, 1) := by decide +kernel
theorem d_K_bitCount_47 : decode b_K_bitCount 47 = .ok (.lstore_n 0, 1) := by decide +kernel
theorem d_K_bitCount_48 : decode b_K_bitCount 48 = .ok (.lload_n 0, 1) := by decide +kernel
theorem d_K_bitCount_49 : decode b_K_bitCount 49 = .ok (.lload_n 0, 1) := by decide +kernel
theorem d_K_bitCount_50 : decode b_K_bitCount 50 = .ok (.bipush 32, 2) := by decide +kernel
theorem d_K_bitCount_52 : decode b_K_bitCount 52 = .ok (.lushr, 1) := by decide +kernel
theorem d_K_bitCount_53 : decode b_K_bitCount 53 = .ok (.ladd, 1) := by decide +kernel
theorem d_K_bitCount_54 : decode b_K_bitCount 54 = .ok (.lstore_n 0, 1) := by decide +kernel
theorem d_K_bitCount_55 : decode b_K_bitCount 55 = .ok (.lload_n 0, 1) := by decide +kernel
theorem d_K_bitCount_56 : decode b_K_bitCount 56 = .ok (.l2i, 1) := by decide +kernel
theorem d_K_bitCount_57 : decode b_K_bitCount 57 = .ok (.bipush 127, 2) := by decide +kernel
theorem d_K_bitCount_59 : decode b_K_bitCount 59 = .ok (.iand, 1) := by decide +kernel
theorem d_K_bitCount_60 : decode b_K_bitCount 60 = .ok (.ireturn, 1) := by decide +kernel
theorem d_J_fillI_0 : decode b_J_fillI 0 = .ok (.iconst 0, 1) := by decide +kernel
theorem d_J_fillI_1 : decode b_J_fillI 1 = .ok (.istore_n 2, 1) := by decide +kernel
theorem d_J_fillI_2 : decode b_J_fillI 2 = .ok (.aload_n 0, 1) := by decide +kernel
theorem d_J_fillI_3 : decode b_J_fillI 3 = .ok (.arraylength, 1) := by decide +kernel
theorem d_J_fillI_4 : decode b_J_fillI 4 = .ok (.istore_n 3, 1) := by decide +kernel
theorem d_J_fillI_5 : decode b_J_fillI 5 = .ok (.iload_n 2, 1) := by decide +kernel
theorem d_J_fillI_6 : decode b_J_fillI 6 = .ok (.iload_n 3, 1) := by decide +kernel
theorem d_J_fillI_7 : decode b_J_fillI 7 = .ok (.if_icmp .ge 13, 3) := by decide +kernel
theorem d_J_fillI_10 : decode b_J_fillI 10 = .ok (.aload_n 0, 1) := by decide +kernel
theorem d_J_fillI_11 : decode b_J_fillI 11 = .ok (.iload_n 2, 1) := by decide +kernel
theorem d_J_fillI_12 : decode b_J_fillI 12 = .ok (.iload_n 1, 1) := by decide +kernel
theorem d_J_fillI_13 : decode b_J_fillI 13 = .ok (.iastore, 1) := by decide +kernel
theorem d_J_fillI_14 : decode b_J_fillI 14 = .ok (.iinc 2 1, 3) := by decide +kernel
theorem d_J_fillI_17 : decode b_J_fillI 17 = .ok (.goto (-12), 3) := by decide +kernel
theorem d_J_fillI_20 : decode b_J_fillI 20 = .ok (.return_, 1) := by decide +kernel
theorem d_J_fillL_0 : decode b_J_fillL 0 = .ok (.iconst 0, 1) := by decide +kernel
theorem d_J_fillL_1 : decode b_J_fillL 1 = .ok (.istore_n 3, 1) := by decide +kernel
theorem d_J_fillL_2 : decode b_J_fillL 2 = .ok (.aload_n 0, 1) := by decide +kernel
theorem d_J_fillL_3 : decode b_J_fillL 3 = .ok (.arraylength, 1) := by decide +kernel
theorem d_J_fillL_4 : decode b_J_fillL 4 = .ok (.istore 4, 2) := by decide +kernel
theorem d_J_fillL_6 : decode b_J_fillL 6 = .ok (.iload_n 3, 1) := by decide +kernel
theorem d_J_fillL_7 : decode b_J_fillL 7 = .ok (.iload 4, 2) := by decide +kernel
theorem d_J_fillL_9 : decode b_J_fillL 9 = .ok (.if_icmp .ge 13, 3) := by decide +kernel
theorem d_J_fillL_12 : decode b_J_fillL 12 = .ok (.aload_n 0, 1) := by decide +kernel
theorem d_J_fillL_13 : decode b_J_fillL 13 = .ok (.iload_n 3, 1) := by decide +kernel
theorem d_J_fillL_14 : decode b_J_fillL 14 = .ok (.lload_n 1, 1) := by decide +kernel
theorem d_J_fillL_15 : decode b_J_fillL 15 = .ok (.lastore, 1) := by decide +kernel
theorem d_J_fillL_16 : decode b_J_fillL 16 = .ok (.iinc 3 1, 3) := by decide +kernel
theorem d_J_fillL_19 : decode b_J_fillL 19 = .ok (.goto (-13), 3) := by decide +kernel
theorem d_J_fillL_22 : decode b_J_fillL 22 = .ok (.return_, 1) := by decide +kernel
