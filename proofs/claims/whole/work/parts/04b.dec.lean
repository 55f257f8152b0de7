theorem d_F_init_0 : decode b_F_init 0 = .ok (.aload_n 0, 1) := by decide +kernel
theorem d_F_init_1 : decode b_F_init 1 = .ok (.invokespecial 3, 3) := by decide +kernel
theorem d_F_init_4 : decode b_F_init 4 = .ok (.aload_n 0, 1) := by decide +kernel
theorem d_F_init_5 : decode b_F_init 5 = .ok (.sipush 201, 3) := by decide +kernel
theorem d_F_init_8 : decode b_F_init 8 = .ok (.newarray .long, 2) := by decide +kernel
theorem d_F_init_10 : decode b_F_init 10 = .ok (.putfield 9, 3) := by decide +kernel
theorem d_F_init_13 : decode b_F_init 13 = .ok (.aload_n 0, 1) := by decide +kernel
theorem d_F_init_14 : decode b_F_init 14 = .ok (.aload_n 1, 1) := by decide +kernel
theorem d_F_init_15 : decode b_F_init 15 = .ok (.putfield 15, 3) := by decide +kernel
theorem d_F_init_18 : decode b_F_init 18 = .ok (.aload_n 0, 1) := by decide +kernel
theorem d_F_init_19 : decode b_F_init 19 = .ok (.aload_n 2, 1) := by decide +kernel
theorem d_F_init_20 : decode b_F_init 20 = .ok (.putfield 19, 3) := by decide +kernel
theorem d_F_init_23 : decode b_F_init 23 = .ok (.return_, 1) := by decide +kernel
theorem d_F_choose_0 : decode b_F_choose 0 = .ok (.aload_n 0, 1) := by decide +kernel
theorem d_F_choose_1 : decode b_F_choose 1 = .ok (.getfield 15, 3) := by decide +kernel
theorem d_F_choose_4 : decode b_F_choose 4 = .ok (.iconst 1, 1) := by decide +kernel
theorem d_F_choose_5 : decode b_F_choose 5 = .ok (.iload_n 1, 1) := by decide +kernel
theorem d_F_choose_6 : decode b_F_choose 6 = .ok (.invokevirtual 23, 3) := by decide +kernel
theorem d_F_choose_9 : decode b_F_choose 9 = .ok (.istore_n 3, 1) := by decide +kernel
theorem d_F_choose_10 : decode b_F_choose 10 = .ok (.aload_n 0, 1) := by decide +kernel
theorem d_F_choose_11 : decode b_F_choose 11 = .ok (.getfield 15, 3) := by decide +kernel
theorem d_F_choose_14 : decode b_F_choose 14 = .ok (.iload_n 1, 1) := by decide +kernel
theorem d_F_choose_15 : decode b_F_choose 15 = .ok (.iconst 1, 1) := by decide +kernel
theorem d_F_choose_16 : decode b_F_choose 16 = .ok (.iadd, 1) := by decide +kernel
theorem d_F_choose_17 : decode b_F_choose 17 = .ok (.bipush 8, 2) := by decide +kernel
theorem d_F_choose_19 : decode b_F_choose 19 = .ok (.invokevirtual 23, 3) := by decide +kernel
theorem d_F_choose_22 : decode b_F_choose 22 = .ok (.istore 4, 2) := by decide +kernel
theorem d_F_choose_24 : decode b_F_choose 24 = .ok (.iload_n 3, 1) := by decide +kernel
theorem d_F_choose_25 : decode b_F_choose 25 = .ok (.iload 4, 2) := by decide +kernel
theorem d_F_choose_27 : decode b_F_choose 27 = .ok (.iand, 1) := by decide +kernel
theorem d_F_choose_28 : decode b_F_choose 28 = .ok (.istore 5, 2) := by decide +kernel
theorem d_F_choose_30 : decode b_F_choose 30 = .ok (.aload_n 0, 1) := by decide +kernel
theorem d_F_choose_31 : decode b_F_choose 31 = .ok (.iload_n 1, 1) := by decide +kernel
theorem d_F_choose_32 : decode b_F_choose 32 = .ok (.putfield 29, 3) := by decide +kernel
theorem d_F_choose_35 : decode b_F_choose 35 = .ok (.aload_n 0, 1) := by decide +kernel
theorem d_F_choose_36 : decode b_F_choose 36 = .ok (.sipush 1023, 3) := by decide +kernel
theorem d_F_choose_39 : decode b_F_choose 39 = .ok (.iload 4, 2) := by decide +kernel
theorem d_F_choose_41 : decode b_F_choose 41 = .ok (.iconst (-1), 1) := by decide +kernel
theorem d_F_choose_42 : decode b_F_choose 42 = .ok (.ixor, 1) := by decide +kernel
theorem d_F_choose_43 : decode b_F_choose 43 = .ok (.iand, 1) := by decide +kernel
theorem d_F_choose_44 : decode b_F_choose 44 = .ok (.iload 5, 2) := by decide +kernel
theorem d_F_choose_46 : decode b_F_choose 46 = .ok (.aload_n 0, 1) := by decide +kernel
theorem d_F_choose_47 : decode b_F_choose 47 = .ok (.iconst 1, 1) := by decide +kernel
theorem d_F_choose_48 : decode b_F_choose 48 = .ok (.iload_n 2, 1) := by decide +kernel
theorem d_F_choose_49 : decode b_F_choose 49 = .ok (.invokevirtual 33, 3) := by decide +kernel
theorem d_F_choose_52 : decode b_F_choose 52 = .ok (.iand, 1) := by decide +kernel
theorem d_F_choose_53 : decode b_F_choose 53 = .ok (.ior, 1) := by decide +kernel
theorem d_F_choose_54 : decode b_F_choose 54 = .ok (.putfield 36, 3) := by decide +kernel
theorem d_F_choose_57 : decode b_F_choose 57 = .ok (.aload_n 0, 1) := by decide +kernel
theorem d_F_choose_58 : decode b_F_choose 58 = .ok (.iload 4, 2) := by decide +kernel
theorem d_F_choose_60 : decode b_F_choose 60 = .ok (.iload_n 3, 1) := by decide +kernel
theorem d_F_choose_61 : decode b_F_choose 61 = .ok (.iconst (-1), 1) := by decide +kernel
theorem d_F_choose_62 : decode b_F_choose 62 = .ok (.ixor, 1) := by decide +kernel
theorem d_F_choose_63 : decode b_F_choose 63 = .ok (.iand, 1) := by decide +kernel
theorem d_F_choose_64 : decode b_F_choose 64 = .ok (.iload 5, 2) := by decide +kernel
theorem d_F_choose_66 : decode b_F_choose 66 = .ok (.aload_n 0, 1) := by decide +kernel
theorem d_F_choose_67 : decode b_F_choose 67 = .ok (.iconst 2, 1) := by decide +kernel
theorem d_F_choose_68 : decode b_F_choose 68 = .ok (.iload_n 2, 1) := by decide +kernel
theorem d_F_choose_69 : decode b_F_choose 69 = .ok (.invokevirtual 33, 3) := by decide +kernel
theorem d_F_choose_72 : decode b_F_choose 72 = .ok (.iand, 1) := by decide +kernel
theorem d_F_choose_73 : decode b_F_choose 73 = .ok (.ior, 1) := by decide +kernel
theorem d_F_choose_74 : decode b_F_choose 74 = .ok (.putfield 39, 3) := by decide +kernel
theorem d_F_choose_77 : decode b_F_choose 77 = .ok (.return_, 1) := by decide +kernel
theorem d_F_sharedHaving_0 : decode b_F_sharedHaving 0 = .ok (.iload_n 2, 1) := by decide +kernel
theorem d_F_sharedHaving_1 : decode b_F_sharedHaving 1 = .ok (.tableswitch 55 0 2 #[27, 40, 42], 27) := by decide +kernel
theorem d_F_sharedHaving_28 : decode b_F_sharedHaving 28 = .ok (.iload_n 1, 1) := by decide +kernel
theorem d_F_sharedHaving_29 : decode b_F_sharedHaving 29 = .ok (.iconst 2, 1) := by decide +kernel
theorem d_F_sharedHaving_30 : decode b_F_sharedHaving 30 = .ok (.if_icmp .ne 9, 3) := by decide +kernel
theorem d_F_sharedHaving_33 : decode b_F_sharedHaving 33 = .ok (.sipush 1023, 3) := by decide +kernel
theorem d_F_sharedHaving_36 : decode b_F_sharedHaving 36 = .ok (.goto 4, 3) := by decide +kernel
theorem d_F_sharedHaving_39 : decode b_F_sharedHaving 39 = .ok (.iconst 0, 1) := by decide +kernel
theorem d_F_sharedHaving_40 : decode b_F_sharedHaving 40 = .ok (.ireturn, 1) := by decide +kernel
theorem d_F_sharedHaving_41 : decode b_F_sharedHaving 41 = .ok (.iconst 0, 1) := by decide +kernel
theorem d_F_sharedHaving_42 : decode b_F_sharedHaving 42 = .ok (.ireturn, 1) := by decide +kernel
theorem d_F_sharedHaving_43 : decode b_F_sharedHaving 43 = .ok (.iload_n 1, 1) := by decide +kernel
theorem d_F_sharedHaving_44 : decode b_F_sharedHaving 44 = .ok (.iconst 1, 1) := by decide +kernel
theorem d_F_sharedHaving_45 : decode b_F_sharedHaving 45 = .ok (.if_icmp .ne 9, 3) := by decide +kernel
theorem d_F_sharedHaving_48 : decode b_F_sharedHaving 48 = .ok (.sipush 1023, 3) := by decide +kernel
theorem d_F_sharedHaving_51 : decode b_F_sharedHaving 51 = .ok (.goto 4, 3) := by decide +kernel
theorem d_F_sharedHaving_54 : decode b_F_sharedHaving 54 = .ok (.iconst 0, 1) := by decide +kernel
theorem d_F_sharedHaving_55 : decode b_F_sharedHaving 55 = .ok (.ireturn, 1) := by decide +kernel
theorem d_F_sharedHaving_56 : decode b_F_sharedHaving 56 = .ok (.aload_n 0, 1) := by decide +kernel
theorem d_F_sharedHaving_57 : decode b_F_sharedHaving 57 = .ok (.getfield 19, 3) := by decide +kernel
theorem d_F_sharedHaving_60 : decode b_F_sharedHaving 60 = .ok (.iload_n 1, 1) := by decide +kernel
theorem d_F_sharedHaving_61 : decode b_F_sharedHaving 61 = .ok (.invokevirtual 42, 3) := by decide +kernel
theorem d_F_sharedHaving_64 : decode b_F_sharedHaving 64 = .ok (.ireturn, 1) := by decide +kernel
theorem d_F_workOut_0 : decode b_F_workOut 0 = .ok (.iconst 1, 1) := by decide +kernel
theorem d_F_workOut_1 : decode b_F_workOut 1 = .ok (.istore_n 2, 1) := by decide +kernel
theorem d_F_workOut_2 : decode b_F_workOut 2 = .ok (.iload_n 2, 1) := by decide +kernel
theorem d_F_workOut_3 : decode b_F_workOut 3 = .ok (.aload_n 0, 1) := by decide +kernel
theorem d_F_workOut_4 : decode b_F_workOut 4 = .ok (.getfield 15, 3) := by decide +kernel
theorem d_F_workOut_7 : decode b_F_workOut 7 = .ok (.getfield 48, 3) := by decide +kernel
theorem d_F_workOut_10 : decode b_F_workOut 10 = .ok (.if_icmp .gt 54, 3) := by decide +kernel
theorem d_F_workOut_13 : decode b_F_workOut 13 = .ok (.aload_n 0, 1) := by decide +kernel
theorem d_F_workOut_14 : decode b_F_workOut 14 = .ok (.getfield 15, 3) := by decide +kernel
theorem d_F_workOut_17 : decode b_F_workOut 17 = .ok (.getfield 51, 3) := by decide +kernel
theorem d_F_workOut_20 : decode b_F_workOut 20 = .ok (.iload_n 2, 1) := by decide +kernel
theorem d_F_workOut_21 : decode b_F_workOut 21 = .ok (.baload, 1) := by decide +kernel
theorem d_F_workOut_22 : decode b_F_workOut 22 = .ok (.ifCond .eq 36, 3) := by decide +kernel
theorem d_F_workOut_25 : decode b_F_workOut 25 = .ok (.aload_n 0, 1) := by decide +kernel
theorem d_F_workOut_26 : decode b_F_workOut 26 = .ok (.getfield 9, 3) := by decide +kernel
theorem d_F_workOut_29 : decode b_F_workOut 29 = .ok (.iload_n 2, 1) := by decide +kernel
theorem d_F_workOut_30 : decode b_F_workOut 30 = .ok (.aload_n 0, 1) := by decide +kernel
theorem d_F_workOut_31 : decode b_F_workOut 31 = .ok (.getfield 15, 3) := by decide +kernel
theorem d_F_workOut_34 : decode b_F_workOut 34 = .ok (.getfield 55, 3) := by decide +kernel
theorem d_F_workOut_37 : decode b_F_workOut 37 = .ok (.iload_n 2, 1) := by decide +kernel
theorem d_F_workOut_38 : decode b_F_workOut 38 = .ok (.iaload, 1) := by decide +kernel
theorem d_F_workOut_39 : decode b_F_workOut 39 = .ok (.ifCond .ne 12, 3) := by decide +kernel
theorem d_F_workOut_42 : decode b_F_workOut 42 = .ok (.aload_n 0, 1) := by decide +kernel
theorem d_F_workOut_43 : decode b_F_workOut 43 = .ok (.iload_n 2, 1) := by decide +kernel
theorem d_F_workOut_44 : decode b_F_workOut 44 = .ok (.iload_n 1, 1) := by decide +kernel
theorem d_F_workOut_45 : decode b_F_workOut 45 = .ok (.invokevirtual 59, 3) := by decide +kernel
theorem d_F_workOut_48 : decode b_F_workOut 48 = .ok (.goto 9, 3) := by decide +kernel
theorem d_F_workOut_51 : decode b_F_workOut 51 = .ok (.aload_n 0, 1) := by decide +kernel
theorem d_F_workOut_52 : decode b_F_workOut 52 = .ok (.iload_n 2, 1) := by decide +kernel
theorem d_F_workOut_53 : decode b_F_workOut 53 = .ok (.iload_n 1, 1) := by decide +kernel
theorem d_F_workOut_54 : decode b_F_workOut 54 = .ok (.invokevirtual 63, 3) := by decide +kernel
theorem d_F_workOut_57 : decode b_F_workOut 57 = .ok (.lastore, 1) := by decide +kernel
theorem d_F_workOut_58 : decode b_F_workOut 58 = .ok (.iinc 2 1, 3) := by decide +kernel
theorem d_F_workOut_61 : decode b_F_workOut 61 = .ok (.goto (-59), 3) := by decide +kernel
theorem d_F_workOut_64 : decode b_F_workOut 64 = .ok (.return_, 1) := by decide +kernel
theorem d_F_ofGiven_0 : decode b_F_ofGiven 0 = .ok (.aload_n 0, 1) := by decide +kernel
theorem d_F_ofGiven_1 : decode b_F_ofGiven 1 = .ok (.getfield 15, 3) := by decide +kernel
theorem d_F_ofGiven_4 : decode b_F_ofGiven 4 = .ok (.getfield 66, 3) := by decide +kernel
theorem d_F_ofGiven_7 : decode b_F_ofGiven 7 = .ok (.iload_n 1, 1) := by decide +kernel
theorem d_F_ofGiven_8 : decode b_F_ofGiven 8 = .ok (.iaload, 1) := by decide +kernel
theorem d_F_ofGiven_9 : decode b_F_ofGiven 9 = .ok (.istore_n 3, 1) := by decide +kernel
theorem d_F_ofGiven_10 : decode b_F_ofGiven 10 = .ok (.aload_n 0, 1) := by decide +kernel
theorem d_F_ofGiven_11 : decode b_F_ofGiven 11 = .ok (.getfield 15, 3) := by decide +kernel
theorem d_F_ofGiven_14 : decode b_F_ofGiven 14 = .ok (.getfield 69, 3) := by decide +kernel
theorem d_F_ofGiven_17 : decode b_F_ofGiven 17 = .ok (.iload_n 1, 1) := by decide +kernel
theorem d_F_ofGiven_18 : decode b_F_ofGiven 18 = .ok (.iaload, 1) := by decide +kernel
theorem d_F_ofGiven_19 : decode b_F_ofGiven 19 = .ok (.istore 4, 2) := by decide +kernel
theorem d_F_ofGiven_21 : decode b_F_ofGiven 21 = .ok (.aload_n 0, 1) := by decide +kernel
theorem d_F_ofGiven_22 : decode b_F_ofGiven 22 = .ok (.getfield 15, 3) := by decide +kernel
theorem d_F_ofGiven_25 : decode b_F_ofGiven 25 = .ok (.getfield 55, 3) := by decide +kernel
theorem d_F_ofGiven_28 : decode b_F_ofGiven 28 = .ok (.iload_n 1, 1) := by decide +kernel
theorem d_F_ofGiven_29 : decode b_F_ofGiven 29 = .ok (.iaload, 1) := by decide +kernel
theorem d_F_ofGiven_30 : decode b_F_ofGiven 30 = .ok (.aload_n 0, 1) := by decide +kernel
theorem d_F_ofGiven_31 : decode b_F_ofGiven 31 = .ok (.getfield 29, 3) := by decide +kernel
theorem d_F_ofGiven_34 : decode b_F_ofGiven 34 = .ok (.if_icmp .gt 21, 3) := by decide +kernel
theorem d_F_ofGiven_37 : decode b_F_ofGiven 37 = .ok (.iload_n 3, 1) := by decide +kernel
theorem d_F_ofGiven_38 : decode b_F_ofGiven 38 = .ok (.aload_n 0, 1) := by decide +kernel
theorem d_F_ofGiven_39 : decode b_F_ofGiven 39 = .ok (.getfield 39, 3) := by decide +kernel
theorem d_F_ofGiven_42 : decode b_F_ofGiven 42 = .ok (.iand, 1) := by decide +kernel
theorem d_F_ofGiven_43 : decode b_F_ofGiven 43 = .ok (.iload 4, 2) := by decide +kernel
theorem d_F_ofGiven_45 : decode b_F_ofGiven 45 = .ok (.aload_n 0, 1) := by decide +kernel
theorem d_F_ofGiven_46 : decode b_F_ofGiven 46 = .ok (.getfield 39, 3) := by decide +kernel
theorem d_F_ofGiven_49 : decode b_F_ofGiven 49 = .ok (.iand, 1) := by decide +kernel
theorem d_F_ofGiven_50 : decode b_F_ofGiven 50 = .ok (.iload_n 2, 1) := by decide +kernel
theorem d_F_ofGiven_51 : decode b_F_ofGiven 51 = .ok (.invokestatic 72, 3) := by decide +kernel
theorem d_F_ofGiven_54 : decode b_F_ofGiven 54 = .ok (.lreturn, 1) := by decide +kernel
theorem d_F_ofGiven_55 : decode b_F_ofGiven 55 = .ok (.iload_n 3, 1) := by decide +kernel
theorem d_F_ofGiven_56 : decode b_F_ofGiven 56 = .ok (.aload_n 0, 1) := by decide +kernel
theorem d_F_ofGiven_57 : decode b_F_ofGiven 57 = .ok (.getfield 36, 3) := by decide +kernel
theorem d_F_ofGiven_60 : decode b_F_ofGiven 60 = .ok (.iand, 1) := by decide +kernel
theorem d_F_ofGiven_61 : decode b_F_ofGiven 61 = .ok (.iload 4, 2) := by decide +kernel
theorem d_F_ofGiven_63 : decode b_F_ofGiven 63 = .ok (.aload_n 0, 1) := by decide +kernel
theorem d_F_ofGiven_64 : decode b_F_ofGiven 64 = .ok (.getfield 36, 3) := by decide +kernel
theorem d_F_ofGiven_67 : decode b_F_ofGiven 67 = .ok (.iand, 1) := by decide +kernel
theorem d_F_ofGiven_68 : decode b_F_ofGiven 68 = .ok (.iload_n 2, 1) := by decide +kernel
theorem d_F_ofGiven_69 : decode b_F_ofGiven 69 = .ok (.invokestatic 72, 3) := by decide +kernel
theorem d_F_ofGiven_72 : decode b_F_ofGiven 72 = .ok (.ldc2_w 78, 3) := by decide +kernel
theorem d_F_ofGiven_75 : decode b_F_ofGiven 75 = .ok (.lxor, 1) := by decide +kernel
theorem d_F_ofGiven_76 : decode b_F_ofGiven 76 = .ok (.lreturn, 1) := by decide +kernel
theorem d_F_ofResolvent_0 : decode b_F_ofResolvent 0 = .ok (.aload_n 0, 1) := by decide +kernel
theorem d_F_ofResolvent_1 : decode b_F_ofResolvent 1 = .ok (.getfield 9, 3) := by decide +kernel
theorem d_F_ofResolvent_4 : decode b_F_ofResolvent 4 = .ok (.aload_n 0, 1) := by decide +kernel
theorem d_F_ofResolvent_5 : decode b_F_ofResolvent 5 = .ok (.getfield 15, 3) := by decide +kernel
theorem d_F_ofResolvent_8 : decode b_F_ofResolvent 8 = .ok (.getfield 80, 3) := by decide +kernel
theorem d_F_ofResolvent_11 : decode b_F_ofResolvent 11 = .ok (.iload_n 1, 1) := by decide +kernel
theorem d_F_ofResolvent_12 : decode b_F_ofResolvent 12 = .ok (.iaload, 1) := by decide +kernel
theorem d_F_ofResolvent_13 : decode b_F_ofResolvent 13 = .ok (.laload, 1) := by decide +kernel
theorem d_F_ofResolvent_14 : decode b_F_ofResolvent 14 = .ok (.lstore_n 3, 1) := by decide +kernel
theorem d_F_ofResolvent_15 : decode b_F_ofResolvent 15 = .ok (.aload_n 0, 1) := by decide +kernel
theorem d_F_ofResolvent_16 : decode b_F_ofResolvent 16 = .ok (.getfield 9, 3) := by decide +kernel
theorem d_F_ofResolvent_19 : decode b_F_ofResolvent 19 = .ok (.aload_n 0, 1) := by decide +kernel
theorem d_F_ofResolvent_20 : decode b_F_ofResolvent 20 = .ok (.getfield 15, 3) := by decide +kernel
theorem d_F_ofResolvent_23 : decode b_F_ofResolvent 23 = .ok (.getfield 83, 3) := by decide +kernel
theorem d_F_ofResolvent_26 : decode b_F_ofResolvent 26 = .ok (.iload_n 1, 1) := by decide +kernel
theorem d_F_ofResolvent_27 : decode b_F_ofResolvent 27 = .ok (.iaload, 1) := by decide +kernel
theorem d_F_ofResolvent_28 : decode b_F_ofResolvent 28 = .ok (.laload, 1) := by decide +kernel
theorem d_F_ofResolvent_29 : decode b_F_ofResolvent 29 = .ok (.lstore 5, 2) := by decide +kernel
theorem d_F_ofResolvent_31 : decode b_F_ofResolvent 31 = .ok (.aload_n 0, 1) := by decide +kernel
theorem d_F_ofResolvent_32 : decode b_F_ofResolvent 32 = .ok (.getfield 15, 3) := by decide +kernel
theorem d_F_ofResolvent_35 : decode b_F_ofResolvent 35 = .ok (.getfield 86, 3) := by decide +kernel
theorem d_F_ofResolvent_38 : decode b_F_ofResolvent 38 = .ok (.iload_n 1, 1) := by decide +kernel
theorem d_F_ofResolvent_39 : decode b_F_ofResolvent 39 = .ok (.iaload, 1) := by decide +kernel
theorem d_F_ofResolvent_40 : decode b_F_ofResolvent 40 = .ok (.istore 7, 2) := by decide +kernel
theorem d_F_ofResolvent_42 : decode b_F_ofResolvent 42 = .ok (.aload_n 0, 1) := by decide +kernel
theorem d_F_ofResolvent_43 : decode b_F_ofResolvent 43 = .ok (.getfield 36, 3) := by decide +kernel
theorem d_F_ofResolvent_46 : decode b_F_ofResolvent 46 = .ok (.iload 7, 2) := by decide +kernel
theorem d_F_ofResolvent_48 : decode b_F_ofResolvent 48 = .ok (.invokestatic 89, 3) := by decide +kernel
theorem d_F_ofResolvent_51 : decode b_F_ofResolvent 51 = .ok (.iand, 1) := by decide +kernel
theorem d_F_ofResolvent_52 : decode b_F_ofResolvent 52 = .ok (.ifCond .eq 8, 3) := by decide +kernel
theorem d_F_ofResolvent_55 : decode b_F_ofResolvent 55 = .ok (.lload_n 3, 1) := by decide +kernel
theorem d_F_ofResolvent_56 : decode b_F_ofResolvent 56 = .ok (.lload 5, 2) := by decide +kernel
theorem d_F_ofResolvent_58 : decode b_F_ofResolvent 58 = .ok (.lor, 1) := by decide +kernel
theorem d_F_ofResolvent_59 : decode b_F_ofResolvent 59 = .ok (.lreturn, 1) := by decide +kernel
theorem d_F_ofResolvent_60 : decode b_F_ofResolvent 60 = .ok (.aload_n 0, 1) := by decide +kernel
theorem d_F_ofResolvent_61 : decode b_F_ofResolvent 61 = .ok (.getfield 39, 3) := by decide +kernel
theorem d_F_ofResolvent_64 : decode b_F_ofResolvent 64 = .ok (.iload 7, 2) := by decide +kernel
theorem d_F_ofResolvent_66 : decode b_F_ofResolvent 66 = .ok (.invokestatic 89, 3) := by decide +kernel
theorem d_F_ofResolvent_69 : decode b_F_ofResolvent 69 = .ok (.iand, 1) := by decide +kernel
theorem d_F_ofResolvent_70 : decode b_F_ofResolvent 70 = .ok (.ifCond .eq 8, 3) := by decide +kernel
theorem d_F_ofResolvent_73 : decode b_F_ofResolvent 73 = .ok (.lload_n 3, 1) := by decide +kernel
theorem d_F_ofResolvent_74 : decode b_F_ofResolvent 74 = .ok (.lload 5, 2) := by decide +kernel
theorem d_F_ofResolvent_76 : decode b_F_ofResolvent 76 = .ok (.land, 1) := by decide +kernel
theorem d_F_ofResolvent_77 : decode b_F_ofResolvent 77 = .ok (.lreturn, 1) := by decide +kernel
theorem d_F_ofResolvent_78 : decode b_F_ofResolvent 78 = .ok (.iload 7, 2) := by decide +kernel
theorem d_F_ofResolvent_80 : decode b_F_ofResolvent 80 = .ok (.iload_n 2, 1) := by decide +kernel
theorem d_F_ofResolvent_81 : decode b_F_ofResolvent 81 = .ok (.invokestatic 92, 3) := by decide +kernel
theorem d_F_ofResolvent_84 : decode b_F_ofResolvent 84 = .ok (.lstore 8, 2) := by decide +kernel
theorem d_F_ofResolvent_86 : decode b_F_ofResolvent 86 = .ok (.lload 8, 2) := by decide +kernel
theorem d_F_ofResolvent_88 : decode b_F_ofResolvent 88 = .ok (.lload_n 3, 1) := by decide +kernel
theorem d_F_ofResolvent_89 : decode b_F_ofResolvent 89 = .ok (.lor, 1) := by decide +kernel
theorem d_F_ofResolvent_90 : decode b_F_ofResolvent 90 = .ok (.lload 8, 2) := by decide +kernel
theorem d_F_ofResolvent_92 : decode b_F_ofResolvent 92 = .ok (.ldc2_w 78, 3) := by decide +kernel
theorem d_F_ofResolvent_95 : decode b_F_ofResolvent 95 = .ok (.lxor, 1) := by decide +kernel
theorem d_F_ofResolvent_96 : decode b_F_ofResolvent 96 = .ok (.lload 5, 2) := by decide +kernel
theorem d_F_ofResolvent_98 : decode b_F_ofResolvent 98 = .ok (.lor, 1) := by decide +kernel
theorem d_F_ofResolvent_99 : decode b_F_ofResolvent 99 = .ok (.land, 1) := by decide +kernel
theorem d_F_ofResolvent_100 : decode b_F_ofResolvent 100 = .ok (.lreturn, 1) := by decide +kernel
theorem d_F_interpolant_0 : decode b_F_interpolant 0 = .ok (.aload_n 0, 1) := by decide +kernel
theorem d_F_interpolant_1 : decode b_F_interpolant 1 = .ok (.iload_n 1, 1) := by decide +kernel
theorem d_F_interpolant_2 : decode b_F_interpolant 2 = .ok (.iload_n 2, 1) := by decide +kernel
theorem d_F_interpolant_3 : decode b_F_interpolant 3 = .ok (.invokevirtual 95, 3) := by decide +kernel
theorem d_F_interpolant_6 : decode b_F_interpolant 6 = .ok (.iconst 0, 1) := by decide +kernel
theorem d_F_interpolant_7 : decode b_F_interpolant 7 = .ok (.istore 4, 2) := by decide +kernel
theorem d_F_interpolant_9 : decode b_F_interpolant 9 = .ok (.iload 4, 2) := by decide +kernel
theorem d_F_interpolant_11 : decode b_F_interpolant 11 = .ok (.bipush 16, 2) := by decide +kernel
theorem d_F_interpolant_13 : decode b_F_interpolant 13 = .ok (.if_icmp .ge 38, 3) := by decide +kernel
theorem d_F_interpolant_16 : decode b_F_interpolant 16 = .ok (.iload 4, 2) := by decide +kernel
theorem d_F_interpolant_18 : decode b_F_interpolant 18 = .ok (.aload_n 3, 1) := by decide +kernel
theorem d_F_interpolant_19 : decode b_F_interpolant 19 = .ok (.arraylength, 1) := by decide +kernel
theorem d_F_interpolant_20 : decode b_F_interpolant 20 = .ok (.if_icmp .ge 31, 3) := by decide +kernel
theorem d_F_interpolant_23 : decode b_F_interpolant 23 = .ok (.aload_n 0, 1) := by decide +kernel
theorem d_F_interpolant_24 : decode b_F_interpolant 24 = .ok (.iload 4, 2) := by decide +kernel
theorem d_F_interpolant_26 : decode b_F_interpolant 26 = .ok (.invokevirtual 99, 3) := by decide +kernel
theorem d_F_interpolant_29 : decode b_F_interpolant 29 = .ok (.aload_n 3, 1) := by decide +kernel
theorem d_F_interpolant_30 : decode b_F_interpolant 30 = .ok (.iload 4, 2) := by decide +kernel
theorem d_F_interpolant_32 : decode b_F_interpolant 32 = .ok (.aload_n 0, 1) := by decide +kernel
theorem d_F_interpolant_33 : decode b_F_interpolant 33 = .ok (.getfield 9, 3) := by decide +kernel
theorem d_F_interpolant_36 : decode b_F_interpolant 36 = .ok (.aload_n 0, 1) := by decide +kernel
theorem d_F_interpolant_37 : decode b_F_interpolant 37 = .ok (.getfield 15, 3) := by decide +kernel
theorem d_F_interpolant_40 : decode b_F_interpolant 40 = .ok (.getfield 48, 3) := by decide +kernel
theorem d_F_interpolant_43 : decode b_F_interpolant 43 = .ok (.laload, 1) := by decide +kernel
theorem d_F_interpolant_44 : decode b_F_interpolant 44 = .ok (.lastore, 1) := by decide +kernel
theorem d_F_interpolant_45 : decode b_F_interpolant 45 = .ok (.iinc 4 1, 3) := by decide +kernel
theorem d_F_interpolant_48 : decode b_F_interpolant 48 = .ok (.goto (-39), 3) := by decide +kernel
theorem d_F_interpolant_51 : decode b_F_interpolant 51 = .ok (.return_, 1) := by decide +kernel
theorem d_R_init_0 : decode b_R_init 0 = .ok (.aload_n 0, 1) := by decide +kernel
theorem d_R_init_1 : decode b_R_init 1 = .ok (.invokespecial 3, 3) := by decide +kernel
theorem d_R_init_4 : decode b_R_init 4 = .ok (.aload_n 0, 1) := by decide +kernel
theorem d_R_init_5 : decode b_R_init 5 = .ok (.aload_n 1, 1) := by decide +kernel
theorem d_R_init_6 : decode b_R_init 6 = .ok (.putfield 9, 3) := by decide +kernel
theorem d_R_init_9 : decode b_R_init 9 = .ok (.aload_n 0, 1) := by decide +kernel
theorem d_R_init_10 : decode b_R_init 10 = .ok (.aload_n 2, 1) := by decide +kernel
theorem d_R_init_11 : decode b_R_init 11 = .ok (.putfield 15, 3) := by decide +kernel
theorem d_R_init_14 : decode b_R_init 14 = .ok (.aload_n 0, 1) := by decide +kernel
theorem d_R_init_15 : decode b_R_init 15 = .ok (.iconst (-1), 1) := by decide +kernel
theorem d_R_init_16 : decode b_R_init 16 = .ok (.putfield 19, 3) := by decide +kernel
theorem d_R_init_19 : decode b_R_init 19 = .ok (.return_, 1) := by decide +kernel
theorem d_R_readText_0 : decode b_R_readText 0 = .ok (.aload_n 0, 1) := by decide +kernel
theorem d_R_readText_1 : decode b_R_readText 1 = .ok (.getfield 15, 3) := by decide +kernel
theorem d_R_readText_4 : decode b_R_readText 4 = .ok (.invokevirtual 23, 3) := by decide +kernel
theorem d_R_readText_7 : decode b_R_readText 7 = .ok (.aload_n 0, 1) := by decide +kernel
theorem d_R_readText_8 : decode b_R_readText 8 = .ok (.iconst 0, 1) := by decide +kernel
theorem d_R_readText_9 : decode b_R_readText 9 = .ok (.putfield 28, 3) := by decide +kernel
theorem d_R_readText_12 : decode b_R_readText 12 = .ok (.aload_n 0, 1) := by decide +kernel
theorem d_R_readText_13 : decode b_R_readText 13 = .ok (.iconst (-1), 1) := by decide +kernel
theorem d_R_readText_14 : decode b_R_readText 14 = .ok (.putfield 19, 3) := by decide +kernel
theorem d_R_readText_17 : decode b_R_readText 17 = .ok (.aload_n 0, 1) := by decide +kernel
theorem d_R_readText_18 : decode b_R_readText 18 = .ok (.iconst 0, 1) := by decide +kernel
theorem d_R_readText_19 : decode b_R_readText 19 = .ok (.putfield 31, 3) := by decide +kernel
theorem d_R_readText_22 : decode b_R_readText 22 = .ok (.aload_n 0, 1) := by decide +kernel
theorem d_R_readText_23 : decode b_R_readText 23 = .ok (.iconst 0, 1) := by decide +kernel
theorem d_R_readText_24 : decode b_R_readText 24 = .ok (.putfield 34, 3) := by decide +kernel
theorem d_R_readText_27 : decode b_R_readText 27 = .ok (.aload_n 0, 1) := by decide +kernel
theorem d_R_readText_28 : decode b_R_readText 28 = .ok (.bipush (-3), 2) := by decide +kernel
theorem d_R_readText_30 : decode b_R_readText 30 = .ok (.putfield 37, 3) := by decide +kernel
theorem d_R_readText_33 : decode b_R_readText 33 = .ok (.iconst 0, 1) := by decide +kernel
theorem d_R_readText_34 : decode b_R_readText 34 = .ok (.istore_n 1, 1) := by decide +kernel
theorem d_R_readText_35 : decode b_R_readText 35 = .ok (.iload_n 1, 1) := by decide +kernel
theorem d_R_readText_36 : decode b_R_readText 36 = .ok (.sipush 2000, 3) := by decide +kernel
theorem d_R_readText_39 : decode b_R_readText 39 = .ok (.if_icmp .gt 32, 3) := by decide +kernel
theorem d_R_readText_42 : decode b_R_readText 42 = .ok (.aload_n 0, 1) := by decide +kernel
theorem d_R_readText_43 : decode b_R_readText 43 = .ok (.getfield 28, 3) := by decide +kernel
theorem d_R_readText_46 : decode b_R_readText 46 = .ok (.ifCond .ne 25, 3) := by decide +kernel
theorem d_R_readText_49 : decode b_R_readText 49 = .ok (.aload_n 0, 1) := by decide +kernel
theorem d_R_readText_50 : decode b_R_readText 50 = .ok (.getfield 37, 3) := by decide +kernel
theorem d_R_readText_53 : decode b_R_readText 53 = .ok (.iconst (-1), 1) := by decide +kernel
theorem d_R_readText_54 : decode b_R_readText 54 = .ok (.if_icmp .eq 17, 3) := by decide +kernel
theorem d_R_readText_57 : decode b_R_readText 57 = .ok (.aload_n 0, 1) := by decide +kernel
theorem d_R_readText_58 : decode b_R_readText 58 = .ok (.invokevirtual 40, 3) := by decide +kernel
theorem d_R_readText_61 : decode b_R_readText 61 = .ok (.aload_n 0, 1) := by decide +kernel
theorem d_R_readText_62 : decode b_R_readText 62 = .ok (.invokevirtual 43, 3) := by decide +kernel
theorem d_R_readText_65 : decode b_R_readText 65 = .ok (.iinc 1 1, 3) := by decide +kernel
theorem d_R_readText_68 : decode b_R_readText 68 = .ok (.goto (-33), 3) := by decide +kernel
theorem d_R_readText_71 : decode b_R_readText 71 = .ok (.return_, 1) := by decide +kernel
theorem d_R_fail_0 : decode b_R_fail 0 = .ok (.aload_n 0, 1) := by decide +kernel
theorem d_R_fail_1 : decode b_R_fail 1 = .ok (.iload_n 1, 1) := by decide +kernel
theorem d_R_fail_2 : decode b_R_fail 2 = .ok (.putfield 28, 3) := by decide +kernel
theorem d_R_fail_5 : decode b_R_fail 5 = .ok (.aload_n 0, 1) := by decide +kernel
theorem d_R_fail_6 : decode b_R_fail 6 = .ok (.aload_n 0, 1) := by decide +kernel
theorem d_R_fail_7 : decode b_R_fail 7 = .ok (.getfield 46, 3) := by decide +kernel
theorem d_R_fail_10 : decode b_R_fail 10 = .ok (.putfield 19, 3) := by decide +kernel
theorem d_R_fail_13 : decode b_R_fail 13 = .ok (.return_, 1) := by decide +kernel
theorem d_R_nextToken_0 : decode b_R_nextToken 0 = .ok (.aload_n 0, 1) := by decide +kernel
theorem d_R_nextToken_1 : decode b_R_nextToken 1 = .ok (.invokevirtual 49, 3) := by decide +kernel
theorem d_R_nextToken_4 : decode b_R_nextToken 4 = .ok (.aload_n 0, 1) := by decide +kernel
theorem d_R_nextToken_5 : decode b_R_nextToken 5 = .ok (.aload_n 0, 1) := by decide +kernel
theorem d_R_nextToken_6 : decode b_R_nextToken 6 = .ok (.getfield 31, 3) := by decide +kernel
theorem d_R_nextToken_9 : decode b_R_nextToken 9 = .ok (.putfield 46, 3) := by decide +kernel
theorem d_R_nextToken_12 : decode b_R_nextToken 12 = .ok (.aload_n 0, 1) := by decide +kernel
theorem d_R_nextToken_13 : decode b_R_nextToken 13 = .ok (.getfield 9, 3) := by decide +kernel
theorem d_R_nextToken_16 : decode b_R_nextToken 16 = .ok (.aload_n 0, 1) := by decide +kernel
theorem d_R_nextToken_17 : decode b_R_nextToken 17 = .ok (.getfield 31, 3) := by decide +kernel
theorem d_R_nextToken_20 : decode b_R_nextToken 20 = .ok (.invokevirtual 52, 3) := by decide +kernel
theorem d_R_nextToken_23 : decode b_R_nextToken 23 = .ok (.istore_n 1, 1) := by decide +kernel
theorem d_R_nextToken_24 : decode b_R_nextToken 24 = .ok (.iload_n 1, 1) := by decide +kernel
theorem d_R_nextToken_25 : decode b_R_nextToken 25 = .ok (.invokestatic 58, 3) := by decide +kernel
theorem d_R_nextToken_28 : decode b_R_nextToken 28 = .ok (.ifCond .eq 10, 3) := by decide +kernel
theorem d_R_nextToken_31 : decode b_R_nextToken 31 = .ok (.aload_n 0, 1) := by decide +kernel
theorem d_R_nextToken_32 : decode b_R_nextToken 32 = .ok (.invokevirtual 62, 3) := by decide +kernel
theorem d_R_nextToken_35 : decode b_R_nextToken 35 = .ok (.goto 43, 3) := by decide +kernel
theorem d_R_nextToken_38 : decode b_R_nextToken 38 = .ok (.iload_n 1, 1) := by decide +kernel
theorem d_R_nextToken_39 : decode b_R_nextToken 39 = .ok (.iconst (-1), 1) := by decide +kernel
theorem d_R_nextToken_40 : decode b_R_nextToken 40 = .ok (.if_icmp .ne 11, 3) := by decide +kernel
theorem d_R_nextToken_43 : decode b_R_nextToken 43 = .ok (.aload_n 0, 1) := by decide +kernel
theorem d_R_nextToken_44 : decode b_R_nextToken 44 = .ok (.iconst (-1), 1) := by decide +kernel
theorem d_R_nextToken_45 : decode b_R_nextToken 45 = .ok (.putfield 37, 3) := by decide +kernel
theorem d_R_nextToken_48 : decode b_R_nextToken 48 = .ok (.goto 30, 3) := by decide +kernel
theorem d_R_nextToken_51 : decode b_R_nextToken 51 = .ok (.aload_n 0, 1) := by decide +kernel
theorem d_R_nextToken_52 : decode b_R_nextToken 52 = .ok (.iload_n 1, 1) := by decide +kernel
theorem d_R_nextToken_53 : decode b_R_nextToken 53 = .ok (.invokestatic 65, 3) := by decide +kernel
theorem d_R_nextToken_56 : decode b_R_nextToken 56 = .ok (.ifCond .eq 7, 3) := by decide +kernel
theorem d_R_nextToken_59 : decode b_R_nextToken 59 = .ok (.iload_n 1, 1) := by decide +kernel
theorem d_R_nextToken_60 : decode b_R_nextToken 60 = .ok (.goto 5, 3) := by decide +kernel
theorem d_R_nextToken_63 : decode b_R_nextToken 63 = .ok (.bipush (-3), 2) := by decide +kernel
theorem d_R_nextToken_65 : decode b_R_nextToken 65 = .ok (.putfield 37, 3) := by decide +kernel
theorem d_R_nextToken_68 : decode b_R_nextToken 68 = .ok (.aload_n 0, 1) := by decide +kernel
theorem d_R_nextToken_69 : decode b_R_nextToken 69 = .ok (.dup, 1) := by decide +kernel
theorem d_R_nextToken_70 : decode b_R_nextToken 70 = .ok (.getfield 31, 3) := by decide +kernel
theorem d_R_nextToken_73 : decode b_R_nextToken 73 = .ok (.iconst 1, 1) := by decide +kernel
theorem d_R_nextToken_74 : decode b_R_nextToken 74 = .ok (.iadd, 1) := by decide +kernel
theorem d_R_nextToken_75 : decode b_R_nextToken 75 = .ok (.putfield 31, 3) := by decide +kernel
theorem d_R_nextToken_78 : decode b_R_nextToken 78 = .ok (.return_, 1) := by decide +kernel
theorem d_R_skipBlanks_0 : decode b_R_skipBlanks 0 = .ok (.aload_n 0, 1) := by decide +kernel
theorem d_R_skipBlanks_1 : decode b_R_skipBlanks 1 = .ok (.getfield 31, 3) := by decide +kernel
theorem d_R_skipBlanks_4 : decode b_R_skipBlanks 4 = .ok (.aload_n 0, 1) := by decide +kernel
theorem d_R_skipBlanks_5 : decode b_R_skipBlanks 5 = .ok (.getfield 9, 3) := by decide +kernel
theorem d_R_skipBlanks_8 : decode b_R_skipBlanks 8 = .ok (.getfield 68, 3) := by decide +kernel
theorem d_R_skipBlanks_11 : decode b_R_skipBlanks 11 = .ok (.if_icmp .ge 33, 3) := by decide +kernel
theorem d_R_skipBlanks_14 : decode b_R_skipBlanks 14 = .ok (.aload_n 0, 1) := by decide +kernel
theorem d_R_skipBlanks_15 : decode b_R_skipBlanks 15 = .ok (.getfield 9, 3) := by decide +kernel
theorem d_R_skipBlanks_18 : decode b_R_skipBlanks 18 = .ok (.aload_n 0, 1) := by decide +kernel
theorem d_R_skipBlanks_19 : decode b_R_skipBlanks 19 = .ok (.getfield 31, 3) := by decide +kernel
theorem d_R_skipBlanks_22 : decode b_R_skipBlanks 22 = .ok (.invokevirtual 52, 3) := by decide +kernel
theorem d_R_skipBlanks_25 : decode b_R_skipBlanks 25 = .ok (.invokestatic 71, 3) := by decide +kernel
theorem d_R_skipBlanks_28 : decode b_R_skipBlanks 28 = .ok (.ifCond .eq 16, 3) := by decide +kernel
theorem d_R_skipBlanks_31 : decode b_R_skipBlanks 31 = .ok (.aload_n 0, 1) := by decide +kernel
theorem d_R_skipBlanks_32 : decode b_R_skipBlanks 32 = .ok (.dup, 1) := by decide +kernel
theorem d_R_skipBlanks_33 : decode b_R_skipBlanks 33 = .ok (.getfield 31, 3) := by decide +kernel
theorem d_R_skipBlanks_36 : decode b_R_skipBlanks 36 = .ok (.iconst 1, 1) := by decide +kernel
theorem d_R_skipBlanks_37 : decode b_R_skipBlanks 37 = .ok (.iadd, 1) := by decide +kernel
theorem d_R_skipBlanks_38 : decode b_R_skipBlanks 38 = .ok (.putfield 31, 3) := by decide +kernel
theorem d_R_skipBlanks_41 : decode b_R_skipBlanks 41 = .ok (.goto (-41), 3) := by decide +kernel
theorem d_R_skipBlanks_44 : decode b_R_skipBlanks 44 = .ok (.return_, 1) := by decide +kernel
theorem d_R_takeDigits_0 : decode b_R_takeDigits 0 = .ok (.aload_n 0, 1) := by decide +kernel
theorem d_R_takeDigits_1 : decode b_R_takeDigits 1 = .ok (.iconst 0, 1) := by decide +kernel
theorem d_R_takeDigits_2 : decode b_R_takeDigits 2 = .ok (.putfield 74, 3) := by decide +kernel
theorem d_R_takeDigits_5 : decode b_R_takeDigits 5 = .ok (.aload_n 0, 1) := by decide +kernel
theorem d_R_takeDigits_6 : decode b_R_takeDigits 6 = .ok (.getfield 31, 3) := by decide +kernel
theorem d_R_takeDigits_9 : decode b_R_takeDigits 9 = .ok (.aload_n 0, 1) := by decide +kernel
theorem d_R_takeDigits_10 : decode b_R_takeDigits 10 = .ok (.getfield 9, 3) := by decide +kernel
theorem d_R_takeDigits_13 : decode b_R_takeDigits 13 = .ok (.getfield 68, 3) := by decide +kernel
theorem d_R_takeDigits_16 : decode b_R_takeDigits 16 = .ok (.if_icmp .ge 72, 3) := by decide +kernel
theorem d_R_takeDigits_19 : decode b_R_takeDigits 19 = .ok (.aload_n 0, 1) := by decide +kernel
theorem d_R_takeDigits_20 : decode b_R_takeDigits 20 = .ok (.getfield 9, 3) := by decide +kernel
theorem d_R_takeDigits_23 : decode b_R_takeDigits 23 = .ok (.aload_n 0, 1) := by decide +kernel
theorem d_R_takeDigits_24 : decode b_R_takeDigits 24 = .ok (.getfield 31, 3) := by decide +kernel
theorem d_R_takeDigits_27 : decode b_R_takeDigits 27 = .ok (.invokevirtual 52, 3) := by decide +kernel
theorem d_R_takeDigits_30 : decode b_R_takeDigits 30 = .ok (.invokestatic 58, 3) := by decide +kernel
theorem d_R_takeDigits_33 : decode b_R_takeDigits 33 = .ok (.ifCond .eq 55, 3) := by decide +kernel
theorem d_R_takeDigits_36 : decode b_R_takeDigits 36 = .ok (.aload_n 0, 1) := by decide +kernel
theorem d_R_takeDigits_37 : decode b_R_takeDigits 37 = .ok (.getfield 31, 3) := by decide +kernel
theorem d_R_takeDigits_40 : decode b_R_takeDigits 40 = .ok (.aload_n 0, 1) := by decide +kernel
theorem d_R_takeDigits_41 : decode b_R_takeDigits 41 = .ok (.getfield 46, 3) := by decide +kernel
theorem d_R_takeDigits_44 : decode b_R_takeDigits 44 = .ok (.isub, 1) := by decide +kernel
theorem d_R_takeDigits_45 : decode b_R_takeDigits 45 = .ok (.iconst 3, 1) := by decide +kernel
theorem d_R_takeDigits_46 : decode b_R_takeDigits 46 = .ok (.if_icmp .ge 29, 3) := by decide +kernel
theorem d_R_takeDigits_49 : decode b_R_takeDigits 49 = .ok (.aload_n 0, 1) := by decide +kernel
theorem d_R_takeDigits_50 : decode b_R_takeDigits 50 = .ok (.aload_n 0, 1) := by decide +kernel
theorem d_R_takeDigits_51 : decode b_R_takeDigits 51 = .ok (.getfield 74, 3) := by decide +kernel
theorem d_R_takeDigits_54 : decode b_R_takeDigits 54 = .ok (.bipush 10, 2) := by decide +kernel
theorem d_R_takeDigits_56 : decode b_R_takeDigits 56 = .ok (.imul, 1) := by decide +kernel
theorem d_R_takeDigits_57 : decode b_R_takeDigits 57 = .ok (.aload_n 0, 1) := by decide +kernel
theorem d_R_takeDigits_58 : decode b_R_takeDigits 58 = .ok (.getfield 9, 3) := by decide +kernel
theorem d_R_takeDigits_61 : decode b_R_takeDigits 61 = .ok (.aload_n 0, 1) := by decide +kernel
theorem d_R_takeDigits_62 : decode b_R_takeDigits 62 = .ok (.getfield 31, 3) := by decide +kernel
theorem d_R_takeDigits_65 : decode b_R_takeDigits 65 = .ok (.invokevirtual 52, 3) := by decide +kernel
theorem d_R_takeDigits_68 : decode b_R_takeDigits 68 = .ok (.bipush 48, 2) := by decide +kernel
theorem d_R_takeDigits_70 : decode b_R_takeDigits 70 = .ok (.isub, 1) := by decide +kernel
theorem d_R_takeDigits_71 : decode b_R_takeDigits 71 = .ok (.iadd, 1) := by decide +kernel
theorem d_R_takeDigits_72 : decode b_R_takeDigits 72 = .ok (.putfield 74, 3) := by decide +kernel
theorem d_R_takeDigits_75 : decode b_R_takeDigits 75 = .ok (.aload_n 0, 1) := by decide +kernel
theorem d_R_takeDigits_76 : decode b_R_takeDigits 76 = .ok (.dup, 1) := by decide +kernel
theorem d_R_takeDigits_77 : decode b_R_takeDigits 77 = .ok (.getfield 31, 3) := by decide +kernel
theorem d_R_takeDigits_80 : decode b_R_takeDigits 80 = .ok (.iconst 1, 1) := by decide +kernel
theorem d_R_takeDigits_81 : decode b_R_takeDigits 81 = .ok (.iadd, 1) := by decide +kernel
theorem d_R_takeDigits_82 : decode b_R_takeDigits 82 = .ok (.putfield 31, 3) := by decide +kernel
theorem d_R_takeDigits_85 : decode b_R_takeDigits 85 = .ok (.goto (-80), 3) := by decide +kernel
theorem d_R_takeDigits_88 : decode b_R_takeDigits 88 = .ok (.aload_n 0, 1) := by decide +kernel
theorem d_R_takeDigits_89 : decode b_R_takeDigits 89 = .ok (.aload_n 0, 1) := by decide +kernel
theorem d_R_takeDigits_90 : decode b_R_takeDigits 90 = .ok (.getfield 31, 3) := by decide +kernel
theorem d_R_takeDigits_93 : decode b_R_takeDigits 93 = .ok (.aload_n 0, 1) := by decide +kernel
theorem d_R_takeDigits_94 : decode b_R_takeDigits 94 = .ok (.getfield 46, 3) := by decide +kernel
theorem d_R_takeDigits_97 : decode b_R_takeDigits 97 = .ok (.isub, 1) := by decide +kernel
theorem d_R_takeDigits_98 : decode b_R_takeDigits 98 = .ok (.iconst 3, 1) := by decide +kernel
theorem d_R_takeDigits_99 : decode b_R_takeDigits 99 = .ok (.if_icmp .gt 8, 3) := by decide +kernel
theorem d_R_takeDigits_102 : decode b_R_takeDigits 102 = .ok (.bipush (-2), 2) := by decide +kernel
theorem d_R_takeDigits_104 : decode b_R_takeDigits 104 = .ok (.goto 5, 3) := by decide +kernel
theorem d_R_takeDigits_107 : decode b_R_takeDigits 107 = .ok (.bipush (-3), 2) := by decide +kernel
theorem d_R_takeDigits_109 : decode b_R_takeDigits 109 = .ok (.putfield 37, 3) := by decide +kernel
theorem d_R_takeDigits_112 : decode b_R_takeDigits 112 = .ok (.return_, 1) := by decide +kernel
theorem d_R_isBlank_0 : decode b_R_isBlank 0 = .ok (.iload_n 0, 1) := by decide +kernel
theorem d_R_isBlank_1 : decode b_R_isBlank 1 = .ok (.bipush 32, 2) := by decide +kernel
theorem d_R_isBlank_3 : decode b_R_isBlank 3 = .ok (.if_icmp .eq 9, 3) := by decide +kernel
theorem d_R_isBlank_6 : decode b_R_isBlank 6 = .ok (.iload_n 0, 1) := by decide +kernel
theorem d_R_isBlank_7 : decode b_R_isBlank 7 = .ok (.bipush 10, 2) := by decide +kernel
theorem d_R_isBlank_9 : decode b_R_isBlank 9 = .ok (.if_icmp .ne 7, 3) := by decide +kernel
theorem d_R_isBlank_12 : decode b_R_isBlank 12 = .ok (.iconst 1, 1) := by decide +kernel
theorem d_R_isBlank_13 : decode b_R_isBlank 13 = .ok (.goto 4, 3) := by decide +kernel
theorem d_R_isBlank_16 : decode b_R_isBlank 16 = .ok (.iconst 0, 1) := by decide +kernel
theorem d_R_isBlank_17 : decode b_R_isBlank 17 = .ok (.ireturn, 1) := by decide +kernel
theorem d_R_isDigit_0 : decode b_R_isDigit 0 = .ok (.iload_n 0, 1) := by decide +kernel
theorem d_R_isDigit_1 : decode b_R_isDigit 1 = .ok (.bipush 48, 2) := by decide +kernel
theorem d_R_isDigit_3 : decode b_R_isDigit 3 = .ok (.if_icmp .lt 13, 3) := by decide +kernel
theorem d_R_isDigit_6 : decode b_R_isDigit 6 = .ok (.iload_n 0, 1) := by decide +kernel
theorem d_R_isDigit_7 : decode b_R_isDigit 7 = .ok (.bipush 57, 2) := by decide +kernel
theorem d_R_isDigit_9 : decode b_R_isDigit 9 = .ok (.if_icmp .gt 7, 3) := by decide +kernel
theorem d_R_isDigit_12 : decode b_R_isDigit 12 = .ok (.iconst 1, 1) := by decide +kernel
theorem d_R_isDigit_13 : decode b_R_isDigit 13 = .ok (.goto 4, 3) := by decide +kernel
theorem d_R_isDigit_16 : decode b_R_isDigit 16 = .ok (.iconst 0, 1) := by decide +kernel
theorem d_R_isDigit_17 : decode b_R_isDigit 17 = .ok (.ireturn, 1) := by decide +kernel
theorem d_R_isSign_0 : decode b_R_isSign 0 = .ok (.iload_n 0, 1) := by decide +kernel
theorem d_R_isSign_1 : decode b_R_isSign 1 = .ok (.bipush 99, 2) := by decide +kernel
theorem d_R_isSign_3 : decode b_R_isSign 3 = .ok (.if_icmp .eq 27, 3) := by decide +kernel
theorem d_R_isSign_6 : decode b_R_isSign 6 = .ok (.iload_n 0, 1) := by decide +kernel
theorem d_R_isSign_7 : decode b_R_isSign 7 = .ok (.bipush 114, 2) := by decide +kernel
theorem d_R_isSign_9 : decode b_R_isSign 9 = .ok (.if_icmp .eq 21, 3) := by decide +kernel
theorem d_R_isSign_12 : decode b_R_isSign 12 = .ok (.iload_n 0, 1) := by decide +kernel
theorem d_R_isSign_13 : decode b_R_isSign 13 = .ok (.bipush 58, 2) := by decide +kernel
theorem d_R_isSign_15 : decode b_R_isSign 15 = .ok (.if_icmp .eq 15, 3) := by decide +kernel
theorem d_R_isSign_18 : decode b_R_isSign 18 = .ok (.iload_n 0, 1) := by decide +kernel
theorem d_R_isSign_19 : decode b_R_isSign 19 = .ok (.bipush 59, 2) := by decide +kernel
theorem d_R_isSign_21 : decode b_R_isSign 21 = .ok (.if_icmp .eq 9, 3) := by decide +kernel
theorem d_R_isSign_24 : decode b_R_isSign 24 = .ok (.iload_n 0, 1) := by decide +kernel
theorem d_R_isSign_25 : decode b_R_isSign 25 = .ok (.bipush 45, 2) := by decide +kernel
theorem d_R_isSign_27 : decode b_R_isSign 27 = .ok (.if_icmp .ne 7, 3) := by decide +kernel
theorem d_R_isSign_30 : decode b_R_isSign 30 = .ok (.iconst 1, 1) := by decide +kernel
theorem d_R_isSign_31 : decode b_R_isSign 31 = .ok (.goto 4, 3) := by decide +kernel
theorem d_R_isSign_34 : decode b_R_isSign 34 = .ok (.iconst 0, 1) := by decide +kernel
theorem d_R_isSign_35 : decode b_R_isSign 35 = .ok (.ireturn, 1) := by decide +kernel
theorem d_R_takeToken_0 : decode b_R_takeToken 0 = .ok (.aload_n 0, 1) := by decide +kernel
theorem d_R_takeToken_1 : decode b_R_takeToken 1 = .ok (.getfield 34, 3) := by decide +kernel
theorem d_R_takeToken_4 : decode b_R_takeToken 4 = .ok (.tableswitch 80 0 8 #[52, 80, 59, 66, 80, 80, 80, 80, 73], 52) := by decide +kernel
theorem d_R_takeToken_56 : decode b_R_takeToken 56 = .ok (.aload_n 0, 1) := by decide +kernel
theorem d_R_takeToken_57 : decode b_R_takeToken 57 = .ok (.invokevirtual 77, 3) := by decide +kernel
theorem d_R_takeToken_60 : decode b_R_takeToken 60 = .ok (.goto 28, 3) := by decide +kernel
theorem d_R_takeToken_63 : decode b_R_takeToken 63 = .ok (.aload_n 0, 1) := by decide +kernel
theorem d_R_takeToken_64 : decode b_R_takeToken 64 = .ok (.invokevirtual 80, 3) := by decide +kernel
theorem d_R_takeToken_67 : decode b_R_takeToken 67 = .ok (.goto 21, 3) := by decide +kernel
theorem d_R_takeToken_70 : decode b_R_takeToken 70 = .ok (.aload_n 0, 1) := by decide +kernel
theorem d_R_takeToken_71 : decode b_R_takeToken 71 = .ok (.invokevirtual 83, 3) := by decide +kernel
theorem d_R_takeToken_74 : decode b_R_takeToken 74 = .ok (.goto 14, 3) := by decide +kernel
theorem d_R_takeToken_77 : decode b_R_takeToken 77 = .ok (.aload_n 0, 1) := by decide +kernel
theorem d_R_takeToken_78 : decode b_R_takeToken 78 = .ok (.invokevirtual 86, 3) := by decide +kernel
theorem d_R_takeToken_81 : decode b_R_takeToken 81 = .ok (.goto 7, 3) := by decide +kernel
theorem d_R_takeToken_84 : decode b_R_takeToken 84 = .ok (.aload_n 0, 1) := by decide +kernel
theorem d_R_takeToken_85 : decode b_R_takeToken 85 = .ok (.invokevirtual 89, 3) := by decide +kernel
theorem d_R_takeToken_88 : decode b_R_takeToken 88 = .ok (.return_, 1) := by decide +kernel
theorem d_R_takeStart_0 : decode b_R_takeStart 0 = .ok (.aload_n 0, 1) := by decide +kernel
theorem d_R_takeStart_1 : decode b_R_takeStart 1 = .ok (.getfield 37, 3) := by decide +kernel
theorem d_R_takeStart_4 : decode b_R_takeStart 4 = .ok (.bipush 99, 2) := by decide +kernel
theorem d_R_takeStart_6 : decode b_R_takeStart 6 = .ok (.if_icmp .ne 10, 3) := by decide +kernel
theorem d_R_takeStart_9 : decode b_R_takeStart 9 = .ok (.aload_n 0, 1) := by decide +kernel
theorem d_R_takeStart_10 : decode b_R_takeStart 10 = .ok (.invokevirtual 92, 3) := by decide +kernel
theorem d_R_takeStart_13 : decode b_R_takeStart 13 = .ok (.goto 32, 3) := by decide +kernel
theorem d_R_takeStart_16 : decode b_R_takeStart 16 = .ok (.aload_n 0, 1) := by decide +kernel
theorem d_R_takeStart_17 : decode b_R_takeStart 17 = .ok (.getfield 37, 3) := by decide +kernel
theorem d_R_takeStart_20 : decode b_R_takeStart 20 = .ok (.bipush 114, 2) := by decide +kernel
theorem d_R_takeStart_22 : decode b_R_takeStart 22 = .ok (.if_icmp .ne 10, 3) := by decide +kernel
theorem d_R_takeStart_25 : decode b_R_takeStart 25 = .ok (.aload_n 0, 1) := by decide +kernel
theorem d_R_takeStart_26 : decode b_R_takeStart 26 = .ok (.invokevirtual 95, 3) := by decide +kernel
theorem d_R_takeStart_29 : decode b_R_takeStart 29 = .ok (.goto 16, 3) := by decide +kernel
theorem d_R_takeStart_32 : decode b_R_takeStart 32 = .ok (.aload_n 0, 1) := by decide +kernel
theorem d_R_takeStart_33 : decode b_R_takeStart 33 = .ok (.getfield 37, 3) := by decide +kernel
theorem d_R_takeStart_36 : decode b_R_takeStart 36 = .ok (.iconst (-1), 1) := by decide +kernel
theorem d_R_takeStart_37 : decode b_R_takeStart 37 = .ok (.if_icmp .eq 8, 3) := by decide +kernel
theorem d_R_takeStart_40 : decode b_R_takeStart 40 = .ok (.aload_n 0, 1) := by decide +kernel
theorem d_R_takeStart_41 : decode b_R_takeStart 41 = .ok (.iconst 1, 1) := by decide +kernel
theorem d_R_takeStart_42 : decode b_R_takeStart 42 = .ok (.invokevirtual 98, 3) := by decide +kernel
theorem d_R_takeStart_45 : decode b_R_takeStart 45 = .ok (.return_, 1) := by decide +kernel
theorem d_R_openGiven_0 : decode b_R_openGiven 0 = .ok (.aload_n 0, 1) := by decide +kernel
theorem d_R_openGiven_1 : decode b_R_openGiven 1 = .ok (.getfield 15, 3) := by decide +kernel
theorem d_R_openGiven_4 : decode b_R_openGiven 4 = .ok (.invokevirtual 102, 3) := by decide +kernel
theorem d_R_openGiven_7 : decode b_R_openGiven 7 = .ok (.ifCond .eq 11, 3) := by decide +kernel
theorem d_R_openGiven_10 : decode b_R_openGiven 10 = .ok (.aload_n 0, 1) := by decide +kernel
theorem d_R_openGiven_11 : decode b_R_openGiven 11 = .ok (.iconst 1, 1) := by decide +kernel
theorem d_R_openGiven_12 : decode b_R_openGiven 12 = .ok (.putfield 34, 3) := by decide +kernel
theorem d_R_openGiven_15 : decode b_R_openGiven 15 = .ok (.goto 9, 3) := by decide +kernel
theorem d_R_openGiven_18 : decode b_R_openGiven 18 = .ok (.aload_n 0, 1) := by decide +kernel
theorem d_R_openGiven_19 : decode b_R_openGiven 19 = .ok (.bipush 6, 2) := by decide +kernel
theorem d_R_openGiven_21 : decode b_R_openGiven 21 = .ok (.invokevirtual 98, 3) := by decide +kernel
theorem d_R_openGiven_24 : decode b_R_openGiven 24 = .ok (.return_, 1) := by decide +kernel
theorem d_R_openResolvent_0 : decode b_R_openResolvent 0 = .ok (.aload_n 0, 1) := by decide +kernel
theorem d_R_openResolvent_1 : decode b_R_openResolvent 1 = .ok (.getfield 15, 3) := by decide +kernel
theorem d_R_openResolvent_4 : decode b_R_openResolvent 4 = .ok (.invokevirtual 106, 3) := by decide +kernel
theorem d_R_openResolvent_7 : decode b_R_openResolvent 7 = .ok (.ifCond .eq 11, 3) := by decide +kernel
theorem d_R_openResolvent_10 : decode b_R_openResolvent 10 = .ok (.aload_n 0, 1) := by decide +kernel
theorem d_R_openResolvent_11 : decode b_R_openResolvent 11 = .ok (.iconst 5, 1) := by decide +kernel
theorem d_R_openResolvent_12 : decode b_R_openResolvent 12 = .ok (.putfield 34, 3) := by decide +kernel
theorem d_R_openResolvent_15 : decode b_R_openResolvent 15 = .ok (.goto 9, 3) := by decide +kernel
theorem d_R_openResolvent_18 : decode b_R_openResolvent 18 = .ok (.aload_n 0, 1) := by decide +kernel
theorem d_R_openResolvent_19 : decode b_R_openResolvent 19 = .ok (.bipush 6, 2) := by decide +kernel
theorem d_R_openResolvent_21 : decode b_R_openResolvent 21 = .ok (.invokevirtual 98, 3) := by decide +kernel
theorem d_R_openResolvent_24 : decode b_R_openResolvent 24 = .ok (.return_, 1) := by decide +kernel
theorem d_R_takeColon_0 : decode b_R_takeColon 0 = .ok (.aload_n 0, 1) := by decide +kernel
theorem d_R_takeColon_1 : decode b_R_takeColon 1 = .ok (.getfield 37, 3) := by decide +kernel
theorem d_R_takeColon_4 : decode b_R_takeColon 4 = .ok (.bipush 58, 2) := by decide +kernel
theorem d_R_takeColon_6 : decode b_R_takeColon 6 = .ok (.if_icmp .ne 21, 3) := by decide +kernel
theorem d_R_takeColon_9 : decode b_R_takeColon 9 = .ok (.aload_n 0, 1) := by decide +kernel
theorem d_R_takeColon_10 : decode b_R_takeColon 10 = .ok (.iconst 0, 1) := by decide +kernel
theorem d_R_takeColon_11 : decode b_R_takeColon 11 = .ok (.putfield 109, 3) := by decide +kernel
theorem d_R_takeColon_14 : decode b_R_takeColon 14 = .ok (.aload_n 0, 1) := by decide +kernel
theorem d_R_takeColon_15 : decode b_R_takeColon 15 = .ok (.iconst 0, 1) := by decide +kernel
theorem d_R_takeColon_16 : decode b_R_takeColon 16 = .ok (.putfield 112, 3) := by decide +kernel
theorem d_R_takeColon_19 : decode b_R_takeColon 19 = .ok (.aload_n 0, 1) := by decide +kernel
theorem d_R_takeColon_20 : decode b_R_takeColon 20 = .ok (.iconst 3, 1) := by decide +kernel
theorem d_R_takeColon_21 : decode b_R_takeColon 21 = .ok (.putfield 34, 3) := by decide +kernel
theorem d_R_takeColon_24 : decode b_R_takeColon 24 = .ok (.goto 8, 3) := by decide +kernel
theorem d_R_takeColon_27 : decode b_R_takeColon 27 = .ok (.aload_n 0, 1) := by decide +kernel
theorem d_R_takeColon_28 : decode b_R_takeColon 28 = .ok (.iconst 1, 1) := by decide +kernel
theorem d_R_takeColon_29 : decode b_R_takeColon 29 = .ok (.invokevirtual 98, 3) := by decide +kernel
theorem d_R_takeColon_32 : decode b_R_takeColon 32 = .ok (.return_, 1) := by decide +kernel
theorem d_R_takeInsideClause_0 : decode b_R_takeInsideClause 0 = .ok (.aload_n 0, 1) := by decide +kernel
theorem d_R_takeInsideClause_1 : decode b_R_takeInsideClause 1 = .ok (.getfield 37, 3) := by decide +kernel
theorem d_R_takeInsideClause_4 : decode b_R_takeInsideClause 4 = .ok (.bipush 45, 2) := by decide +kernel
theorem d_R_takeInsideClause_6 : decode b_R_takeInsideClause 6 = .ok (.if_icmp .ne 11, 3) := by decide +kernel
theorem d_R_takeInsideClause_9 : decode b_R_takeInsideClause 9 = .ok (.aload_n 0, 1) := by decide +kernel
theorem d_R_takeInsideClause_10 : decode b_R_takeInsideClause 10 = .ok (.iconst 4, 1) := by decide +kernel
theorem d_R_takeInsideClause_11 : decode b_R_takeInsideClause 11 = .ok (.putfield 34, 3) := by decide +kernel
theorem d_R_takeInsideClause_14 : decode b_R_takeInsideClause 14 = .ok (.goto 43, 3) := by decide +kernel
theorem d_R_takeInsideClause_17 : decode b_R_takeInsideClause 17 = .ok (.aload_n 0, 1) := by decide +kernel
theorem d_R_takeInsideClause_18 : decode b_R_takeInsideClause 18 = .ok (.getfield 37, 3) := by decide +kernel
theorem d_R_takeInsideClause_21 : decode b_R_takeInsideClause 21 = .ok (.bipush 59, 2) := by decide +kernel
theorem d_R_takeInsideClause_23 : decode b_R_takeInsideClause 23 = .ok (.if_icmp .ne 30, 3) := by decide +kernel
theorem d_R_takeInsideClause_26 : decode b_R_takeInsideClause 26 = .ok (.aload_n 0, 1) := by decide +kernel
theorem d_R_takeInsideClause_27 : decode b_R_takeInsideClause 27 = .ok (.getfield 15, 3) := by decide +kernel
theorem d_R_takeInsideClause_30 : decode b_R_takeInsideClause 30 = .ok (.aload_n 0, 1) := by decide +kernel
theorem d_R_takeInsideClause_31 : decode b_R_takeInsideClause 31 = .ok (.getfield 115, 3) := by decide +kernel
theorem d_R_takeInsideClause_34 : decode b_R_takeInsideClause 34 = .ok (.aload_n 0, 1) := by decide +kernel
theorem d_R_takeInsideClause_35 : decode b_R_takeInsideClause 35 = .ok (.getfield 109, 3) := by decide +kernel
theorem d_R_takeInsideClause_38 : decode b_R_takeInsideClause 38 = .ok (.aload_n 0, 1) := by decide +kernel
theorem d_R_takeInsideClause_39 : decode b_R_takeInsideClause 39 = .ok (.getfield 112, 3) := by decide +kernel
theorem d_R_takeInsideClause_42 : decode b_R_takeInsideClause 42 = .ok (.invokevirtual 118, 3) := by decide +kernel
theorem d_R_takeInsideClause_45 : decode b_R_takeInsideClause 45 = .ok (.aload_n 0, 1) := by decide +kernel
theorem d_R_takeInsideClause_46 : decode b_R_takeInsideClause 46 = .ok (.iconst 0, 1) := by decide +kernel
theorem d_R_takeInsideClause_47 : decode b_R_takeInsideClause 47 = .ok (.putfield 34, 3) := by decide +kernel
theorem d_R_takeInsideClause_50 : decode b_R_takeInsideClause 50 = .ok (.goto 7, 3) := by decide +kernel
theorem d_R_takeInsideClause_53 : decode b_R_takeInsideClause 53 = .ok (.aload_n 0, 1) := by decide +kernel
theorem d_R_takeInsideClause_54 : decode b_R_takeInsideClause 54 = .ok (.invokevirtual 89, 3) := by decide +kernel
theorem d_R_takeInsideClause_57 : decode b_R_takeInsideClause 57 = .ok (.return_, 1) := by decide +kernel
theorem d_R_takeClose_0 : decode b_R_takeClose 0 = .ok (.aload_n 0, 1) := by decide +kernel
theorem d_R_takeClose_1 : decode b_R_takeClose 1 = .ok (.getfield 37, 3) := by decide +kernel
theorem d_R_takeClose_4 : decode b_R_takeClose 4 = .ok (.bipush 59, 2) := by decide +kernel
theorem d_R_takeClose_6 : decode b_R_takeClose 6 = .ok (.if_icmp .ne 30, 3) := by decide +kernel
theorem d_R_takeClose_9 : decode b_R_takeClose 9 = .ok (.aload_n 0, 1) := by decide +kernel
theorem d_R_takeClose_10 : decode b_R_takeClose 10 = .ok (.getfield 15, 3) := by decide +kernel
theorem d_R_takeClose_13 : decode b_R_takeClose 13 = .ok (.aload_n 0, 1) := by decide +kernel
theorem d_R_takeClose_14 : decode b_R_takeClose 14 = .ok (.getfield 122, 3) := by decide +kernel
theorem d_R_takeClose_17 : decode b_R_takeClose 17 = .ok (.aload_n 0, 1) := by decide +kernel
theorem d_R_takeClose_18 : decode b_R_takeClose 18 = .ok (.getfield 125, 3) := by decide +kernel
theorem d_R_takeClose_21 : decode b_R_takeClose 21 = .ok (.aload_n 0, 1) := by decide +kernel
theorem d_R_takeClose_22 : decode b_R_takeClose 22 = .ok (.getfield 128, 3) := by decide +kernel
theorem d_R_takeClose_25 : decode b_R_takeClose 25 = .ok (.invokevirtual 131, 3) := by decide +kernel
theorem d_R_takeClose_28 : decode b_R_takeClose 28 = .ok (.aload_n 0, 1) := by decide +kernel
theorem d_R_takeClose_29 : decode b_R_takeClose 29 = .ok (.iconst 0, 1) := by decide +kernel
theorem d_R_takeClose_30 : decode b_R_takeClose 30 = .ok (.putfield 34, 3) := by decide +kernel
theorem d_R_takeClose_33 : decode b_R_takeClose 33 = .ok (.goto 8, 3) := by decide +kernel
theorem d_R_takeClose_36 : decode b_R_takeClose 36 = .ok (.aload_n 0, 1) := by decide +kernel
theorem d_R_takeClose_37 : decode b_R_takeClose 37 = .ok (.iconst 1, 1) := by decide +kernel
theorem d_R_takeClose_38 : decode b_R_takeClose 38 = .ok (.invokevirtual 98, 3) := by decide +kernel
theorem d_R_takeClose_41 : decode b_R_takeClose 41 = .ok (.return_, 1) := by decide +kernel
theorem d_R_takeNumber_0 : decode b_R_takeNumber 0 = .ok (.aload_n 0, 1) := by decide +kernel
theorem d_R_takeNumber_1 : decode b_R_takeNumber 1 = .ok (.getfield 37, 3) := by decide +kernel
theorem d_R_takeNumber_4 : decode b_R_takeNumber 4 = .ok (.bipush (-2), 2) := by decide +kernel
theorem d_R_takeNumber_6 : decode b_R_takeNumber 6 = .ok (.if_icmp .eq 9, 3) := by decide +kernel
theorem d_R_takeNumber_9 : decode b_R_takeNumber 9 = .ok (.aload_n 0, 1) := by decide +kernel
theorem d_R_takeNumber_10 : decode b_R_takeNumber 10 = .ok (.iconst 1, 1) := by decide +kernel
theorem d_R_takeNumber_11 : decode b_R_takeNumber 11 = .ok (.invokevirtual 98, 3) := by decide +kernel
theorem d_R_takeNumber_14 : decode b_R_takeNumber 14 = .ok (.return_, 1) := by decide +kernel
theorem d_R_takeNumber_15 : decode b_R_takeNumber 15 = .ok (.aload_n 0, 1) := by decide +kernel
theorem d_R_takeNumber_16 : decode b_R_takeNumber 16 = .ok (.getfield 34, 3) := by decide +kernel
theorem d_R_takeNumber_19 : decode b_R_takeNumber 19 = .ok (.tableswitch 69 1 7 #[41, 69, 69, 69, 48, 55, 62], 41) := by decide +kernel
theorem d_R_takeNumber_60 : decode b_R_takeNumber 60 = .ok (.aload_n 0, 1) := by decide +kernel
theorem d_R_takeNumber_61 : decode b_R_takeNumber 61 = .ok (.invokevirtual 134, 3) := by decide +kernel
theorem d_R_takeNumber_64 : decode b_R_takeNumber 64 = .ok (.goto 28, 3) := by decide +kernel
theorem d_R_takeNumber_67 : decode b_R_takeNumber 67 = .ok (.aload_n 0, 1) := by decide +kernel
theorem d_R_takeNumber_68 : decode b_R_takeNumber 68 = .ok (.invokevirtual 137, 3) := by decide +kernel
theorem d_R_takeNumber_71 : decode b_R_takeNumber 71 = .ok (.goto 21, 3) := by decide +kernel
theorem d_R_takeNumber_74 : decode b_R_takeNumber 74 = .ok (.aload_n 0, 1) := by decide +kernel
theorem d_R_takeNumber_75 : decode b_R_takeNumber 75 = .ok (.invokevirtual 140, 3) := by decide +kernel
theorem d_R_takeNumber_78 : decode b_R_takeNumber 78 = .ok (.goto 14, 3) := by decide +kernel
theorem d_R_takeNumber_81 : decode b_R_takeNumber 81 = .ok (.aload_n 0, 1) := by decide +kernel
theorem d_R_takeNumber_82 : decode b_R_takeNumber 82 = .ok (.invokevirtual 143, 3) := by decide +kernel
theorem d_R_takeNumber_85 : decode b_R_takeNumber 85 = .ok (.goto 7, 3) := by decide +kernel
theorem d_R_takeNumber_88 : decode b_R_takeNumber 88 = .ok (.aload_n 0, 1) := by decide +kernel
theorem d_R_takeNumber_89 : decode b_R_takeNumber 89 = .ok (.invokevirtual 146, 3) := by decide +kernel
theorem d_R_takeNumber_92 : decode b_R_takeNumber 92 = .ok (.return_, 1) := by decide +kernel
theorem d_R_takeBlock_0 : decode b_R_takeBlock 0 = .ok (.aload_n 0, 1) := by decide +kernel
theorem d_R_takeBlock_1 : decode b_R_takeBlock 1 = .ok (.getfield 74, 3) := by decide +kernel
theorem d_R_takeBlock_4 : decode b_R_takeBlock 4 = .ok (.iconst 1, 1) := by decide +kernel
theorem d_R_takeBlock_5 : decode b_R_takeBlock 5 = .ok (.if_icmp .lt 12, 3) := by decide +kernel
theorem d_R_takeBlock_8 : decode b_R_takeBlock 8 = .ok (.aload_n 0, 1) := by decide +kernel
theorem d_R_takeBlock_9 : decode b_R_takeBlock 9 = .ok (.getfield 74, 3) := by decide +kernel
theorem d_R_takeBlock_12 : decode b_R_takeBlock 12 = .ok (.bipush 8, 2) := by decide +kernel
theorem d_R_takeBlock_14 : decode b_R_takeBlock 14 = .ok (.if_icmp .le 9, 3) := by decide +kernel
theorem d_R_takeBlock_17 : decode b_R_takeBlock 17 = .ok (.aload_n 0, 1) := by decide +kernel
theorem d_R_takeBlock_18 : decode b_R_takeBlock 18 = .ok (.iconst 2, 1) := by decide +kernel
theorem d_R_takeBlock_19 : decode b_R_takeBlock 19 = .ok (.invokevirtual 98, 3) := by decide +kernel
theorem d_R_takeBlock_22 : decode b_R_takeBlock 22 = .ok (.return_, 1) := by decide +kernel
theorem d_R_takeBlock_23 : decode b_R_takeBlock 23 = .ok (.aload_n 0, 1) := by decide +kernel
theorem d_R_takeBlock_24 : decode b_R_takeBlock 24 = .ok (.aload_n 0, 1) := by decide +kernel
theorem d_R_takeBlock_25 : decode b_R_takeBlock 25 = .ok (.getfield 74, 3) := by decide +kernel
theorem d_R_takeBlock_28 : decode b_R_takeBlock 28 = .ok (.putfield 115, 3) := by decide +kernel
theorem d_R_takeBlock_31 : decode b_R_takeBlock 31 = .ok (.aload_n 0, 1) := by decide +kernel
theorem d_R_takeBlock_32 : decode b_R_takeBlock 32 = .ok (.iconst 2, 1) := by decide +kernel
theorem d_R_takeBlock_33 : decode b_R_takeBlock 33 = .ok (.putfield 34, 3) := by decide +kernel
theorem d_R_takeBlock_36 : decode b_R_takeBlock 36 = .ok (.return_, 1) := by decide +kernel
theorem d_R_takeLiteral_0 : decode b_R_takeLiteral 0 = .ok (.aload_n 0, 1) := by decide +kernel
theorem d_R_takeLiteral_1 : decode b_R_takeLiteral 1 = .ok (.getfield 74, 3) := by decide +kernel
theorem d_R_takeLiteral_4 : decode b_R_takeLiteral 4 = .ok (.invokestatic 149, 3) := by decide +kernel
theorem d_R_takeLiteral_7 : decode b_R_takeLiteral 7 = .ok (.ifCond .ne 9, 3) := by decide +kernel
theorem d_R_takeLiteral_10 : decode b_R_takeLiteral 10 = .ok (.aload_n 0, 1) := by decide +kernel
theorem d_R_takeLiteral_11 : decode b_R_takeLiteral 11 = .ok (.iconst 2, 1) := by decide +kernel
theorem d_R_takeLiteral_12 : decode b_R_takeLiteral 12 = .ok (.invokevirtual 98, 3) := by decide +kernel
theorem d_R_takeLiteral_15 : decode b_R_takeLiteral 15 = .ok (.return_, 1) := by decide +kernel
theorem d_R_takeLiteral_16 : decode b_R_takeLiteral 16 = .ok (.aload_n 0, 1) := by decide +kernel
theorem d_R_takeLiteral_17 : decode b_R_takeLiteral 17 = .ok (.getfield 74, 3) := by decide +kernel
theorem d_R_takeLiteral_20 : decode b_R_takeLiteral 20 = .ok (.invokestatic 152, 3) := by decide +kernel
theorem d_R_takeLiteral_23 : decode b_R_takeLiteral 23 = .ok (.istore_n 1, 1) := by decide +kernel
theorem d_R_takeLiteral_24 : decode b_R_takeLiteral 24 = .ok (.aload_n 0, 1) := by decide +kernel
theorem d_R_takeLiteral_25 : decode b_R_takeLiteral 25 = .ok (.getfield 109, 3) := by decide +kernel
theorem d_R_takeLiteral_28 : decode b_R_takeLiteral 28 = .ok (.aload_n 0, 1) := by decide +kernel
theorem d_R_takeLiteral_29 : decode b_R_takeLiteral 29 = .ok (.getfield 112, 3) := by decide +kernel
theorem d_R_takeLiteral_32 : decode b_R_takeLiteral 32 = .ok (.ior, 1) := by decide +kernel
theorem d_R_takeLiteral_33 : decode b_R_takeLiteral 33 = .ok (.iload_n 1, 1) := by decide +kernel
theorem d_R_takeLiteral_34 : decode b_R_takeLiteral 34 = .ok (.iand, 1) := by decide +kernel
theorem d_R_takeLiteral_35 : decode b_R_takeLiteral 35 = .ok (.ifCond .eq 11, 3) := by decide +kernel
theorem d_R_takeLiteral_38 : decode b_R_takeLiteral 38 = .ok (.aload_n 0, 1) := by decide +kernel
theorem d_R_takeLiteral_39 : decode b_R_takeLiteral 39 = .ok (.iconst 3, 1) := by decide +kernel
theorem d_R_takeLiteral_40 : decode b_R_takeLiteral 40 = .ok (.invokevirtual 98, 3) := by decide +kernel
theorem d_R_takeLiteral_43 : decode b_R_takeLiteral 43 = .ok (.goto 34, 3) := by decide +kernel
theorem d_R_takeLiteral_46 : decode b_R_takeLiteral 46 = .ok (.aload_n 0, 1) := by decide +kernel
theorem d_R_takeLiteral_47 : decode b_R_takeLiteral 47 = .ok (.getfield 34, 3) := by decide +kernel
theorem d_R_takeLiteral_50 : decode b_R_takeLiteral 50 = .ok (.iconst 4, 1) := by decide +kernel
theorem d_R_takeLiteral_51 : decode b_R_takeLiteral 51 = .ok (.if_icmp .ne 16, 3) := by decide +kernel
theorem d_R_takeLiteral_54 : decode b_R_takeLiteral 54 = .ok (.aload_n 0, 1) := by decide +kernel
theorem d_R_takeLiteral_55 : decode b_R_takeLiteral 55 = .ok (.dup, 1) := by decide +kernel
theorem d_R_takeLiteral_56 : decode b_R_takeLiteral 56 = .ok (.getfield 112, 3) := by decide +kernel
theorem d_R_takeLiteral_59 : decode b_R_takeLiteral 59 = .ok (.iload_n 1, 1) := by decide +kernel
theorem d_R_takeLiteral_60 : decode b_R_takeLiteral 60 = .ok (.ior, 1) := by decide +kernel
theorem d_R_takeLiteral_61 : decode b_R_takeLiteral 61 = .ok (.putfield 112, 3) := by decide +kernel
theorem d_R_takeLiteral_64 : decode b_R_takeLiteral 64 = .ok (.goto 13, 3) := by decide +kernel
theorem d_R_takeLiteral_67 : decode b_R_takeLiteral 67 = .ok (.aload_n 0, 1) := by decide +kernel
theorem d_R_takeLiteral_68 : decode b_R_takeLiteral 68 = .ok (.dup, 1) := by decide +kernel
theorem d_R_takeLiteral_69 : decode b_R_takeLiteral 69 = .ok (.getfield 109, 3) := by decide +kernel
theorem d_R_takeLiteral_72 : decode b_R_takeLiteral 72 = .ok (.iload_n 1, 1) := by decide +kernel
theorem d_R_takeLiteral_73 : decode b_R_takeLiteral 73 = .ok (.ior, 1) := by decide +kernel
theorem d_R_takeLiteral_74 : decode b_R_takeLiteral 74 = .ok (.putfield 109, 3) := by decide +kernel
theorem d_R_takeLiteral_77 : decode b_R_takeLiteral 77 = .ok (.aload_n 0, 1) := by decide +kernel
theorem d_R_takeLiteral_78 : decode b_R_takeLiteral 78 = .ok (.iconst 3, 1) := by decide +kernel
theorem d_R_takeLiteral_79 : decode b_R_takeLiteral 79 = .ok (.putfield 34, 3) := by decide +kernel
theorem d_R_takeLiteral_82 : decode b_R_takeLiteral 82 = .ok (.return_, 1) := by decide +kernel
theorem d_R_takeLeft_0 : decode b_R_takeLeft 0 = .ok (.aload_n 0, 1) := by decide +kernel
theorem d_R_takeLeft_1 : decode b_R_takeLeft 1 = .ok (.getfield 15, 3) := by decide +kernel
theorem d_R_takeLeft_4 : decode b_R_takeLeft 4 = .ok (.aload_n 0, 1) := by decide +kernel
theorem d_R_takeLeft_5 : decode b_R_takeLeft 5 = .ok (.getfield 74, 3) := by decide +kernel
theorem d_R_takeLeft_8 : decode b_R_takeLeft 8 = .ok (.invokevirtual 155, 3) := by decide +kernel
theorem d_R_takeLeft_11 : decode b_R_takeLeft 11 = .ok (.ifCond .ne 9, 3) := by decide +kernel
theorem d_R_takeLeft_14 : decode b_R_takeLeft 14 = .ok (.aload_n 0, 1) := by decide +kernel
theorem d_R_takeLeft_15 : decode b_R_takeLeft 15 = .ok (.iconst 2, 1) := by decide +kernel
theorem d_R_takeLeft_16 : decode b_R_takeLeft 16 = .ok (.invokevirtual 98, 3) := by decide +kernel
theorem d_R_takeLeft_19 : decode b_R_takeLeft 19 = .ok (.return_, 1) := by decide +kernel
theorem d_R_takeLeft_20 : decode b_R_takeLeft 20 = .ok (.aload_n 0, 1) := by decide +kernel
theorem d_R_takeLeft_21 : decode b_R_takeLeft 21 = .ok (.aload_n 0, 1) := by decide +kernel
theorem d_R_takeLeft_22 : decode b_R_takeLeft 22 = .ok (.getfield 74, 3) := by decide +kernel
theorem d_R_takeLeft_25 : decode b_R_takeLeft 25 = .ok (.putfield 122, 3) := by decide +kernel
theorem d_R_takeLeft_28 : decode b_R_takeLeft 28 = .ok (.aload_n 0, 1) := by decide +kernel
theorem d_R_takeLeft_29 : decode b_R_takeLeft 29 = .ok (.bipush 6, 2) := by decide +kernel
theorem d_R_takeLeft_31 : decode b_R_takeLeft 31 = .ok (.putfield 34, 3) := by decide +kernel
theorem d_R_takeLeft_34 : decode b_R_takeLeft 34 = .ok (.return_, 1) := by decide +kernel
theorem d_R_takeRight_0 : decode b_R_takeRight 0 = .ok (.aload_n 0, 1) := by decide +kernel
theorem d_R_takeRight_1 : decode b_R_takeRight 1 = .ok (.getfield 15, 3) := by decide +kernel
theorem d_R_takeRight_4 : decode b_R_takeRight 4 = .ok (.aload_n 0, 1) := by decide +kernel
theorem d_R_takeRight_5 : decode b_R_takeRight 5 = .ok (.getfield 74, 3) := by decide +kernel
theorem d_R_takeRight_8 : decode b_R_takeRight 8 = .ok (.invokevirtual 155, 3) := by decide +kernel
theorem d_R_takeRight_11 : decode b_R_takeRight 11 = .ok (.ifCond .ne 9, 3) := by decide +kernel
theorem d_R_takeRight_14 : decode b_R_takeRight 14 = .ok (.aload_n 0, 1) := by decide +kernel
theorem d_R_takeRight_15 : decode b_R_takeRight 15 = .ok (.iconst 2, 1) := by decide +kernel
theorem d_R_takeRight_16 : decode b_R_takeRight 16 = .ok (.invokevirtual 98, 3) := by decide +kernel
theorem d_R_takeRight_19 : decode b_R_takeRight 19 = .ok (.return_, 1) := by decide +kernel
theorem d_R_takeRight_20 : decode b_R_takeRight 20 = .ok (.aload_n 0, 1) := by decide +kernel
theorem d_R_takeRight_21 : decode b_R_takeRight 21 = .ok (.aload_n 0, 1) := by decide +kernel
theorem d_R_takeRight_22 : decode b_R_takeRight 22 = .ok (.getfield 74, 3) := by decide +kernel
theorem d_R_takeRight_25 : decode b_R_takeRight 25 = .ok (.putfield 125, 3) := by decide +kernel
theorem d_R_takeRight_28 : decode b_R_takeRight 28 = .ok (.aload_n 0, 1) := by decide +kernel
theorem d_R_takeRight_29 : decode b_R_takeRight 29 = .ok (.bipush 7, 2) := by decide +kernel
theorem d_R_takeRight_31 : decode b_R_takeRight 31 = .ok (.putfield 34, 3) := by decide +kernel
theorem d_R_takeRight_34 : decode b_R_takeRight 34 = .ok (.return_, 1) := by decide +kernel
theorem d_R_takePivot_0 : decode b_R_takePivot 0 = .ok (.aload_n 0, 1) := by decide +kernel
theorem d_R_takePivot_1 : decode b_R_takePivot 1 = .ok (.getfield 74, 3) := by decide +kernel
theorem d_R_takePivot_4 : decode b_R_takePivot 4 = .ok (.invokestatic 149, 3) := by decide +kernel
theorem d_R_takePivot_7 : decode b_R_takePivot 7 = .ok (.ifCond .ne 11, 3) := by decide +kernel
theorem d_R_takePivot_10 : decode b_R_takePivot 10 = .ok (.aload_n 0, 1) := by decide +kernel
theorem d_R_takePivot_11 : decode b_R_takePivot 11 = .ok (.iconst 2, 1) := by decide +kernel
theorem d_R_takePivot_12 : decode b_R_takePivot 12 = .ok (.invokevirtual 98, 3) := by decide +kernel
theorem d_R_takePivot_15 : decode b_R_takePivot 15 = .ok (.goto 60, 3) := by decide +kernel
theorem d_R_takePivot_18 : decode b_R_takePivot 18 = .ok (.aload_n 0, 1) := by decide +kernel
theorem d_R_takePivot_19 : decode b_R_takePivot 19 = .ok (.getfield 15, 3) := by decide +kernel
theorem d_R_takePivot_22 : decode b_R_takePivot 22 = .ok (.aload_n 0, 1) := by decide +kernel
theorem d_R_takePivot_23 : decode b_R_takePivot 23 = .ok (.getfield 122, 3) := by decide +kernel
theorem d_R_takePivot_26 : decode b_R_takePivot 26 = .ok (.aload_n 0, 1) := by decide +kernel
theorem d_R_takePivot_27 : decode b_R_takePivot 27 = .ok (.getfield 125, 3) := by decide +kernel
theorem d_R_takePivot_30 : decode b_R_takePivot 30 = .ok (.aload_n 0, 1) := by decide +kernel
theorem d_R_takePivot_31 : decode b_R_takePivot 31 = .ok (.getfield 74, 3) := by decide +kernel
theorem d_R_takePivot_34 : decode b_R_takePivot 34 = .ok (.invokevirtual 158, 3) := by decide +kernel
theorem d_R_takePivot_37 : decode b_R_takePivot 37 = .ok (.ifCond .ne 11, 3) := by decide +kernel
theorem d_R_takePivot_40 : decode b_R_takePivot 40 = .ok (.aload_n 0, 1) := by decide +kernel
theorem d_R_takePivot_41 : decode b_R_takePivot 41 = .ok (.iconst 4, 1) := by decide +kernel
theorem d_R_takePivot_42 : decode b_R_takePivot 42 = .ok (.invokevirtual 98, 3) := by decide +kernel
theorem d_R_takePivot_45 : decode b_R_takePivot 45 = .ok (.goto 30, 3) := by decide +kernel
theorem d_R_takePivot_48 : decode b_R_takePivot 48 = .ok (.aload_n 0, 1) := by decide +kernel
theorem d_R_takePivot_49 : decode b_R_takePivot 49 = .ok (.getfield 15, 3) := by decide +kernel
theorem d_R_takePivot_52 : decode b_R_takePivot 52 = .ok (.aload_n 0, 1) := by decide +kernel
theorem d_R_takePivot_53 : decode b_R_takePivot 53 = .ok (.getfield 122, 3) := by decide +kernel
theorem d_R_takePivot_56 : decode b_R_takePivot 56 = .ok (.aload_n 0, 1) := by decide +kernel
theorem d_R_takePivot_57 : decode b_R_takePivot 57 = .ok (.getfield 125, 3) := by decide +kernel
theorem d_R_takePivot_60 : decode b_R_takePivot 60 = .ok (.aload_n 0, 1) := by decide +kernel
theorem d_R_takePivot_61 : decode b_R_takePivot 61 = .ok (.getfield 74, 3) := by decide +kernel
theorem d_R_takePivot_64 : decode b_R_takePivot 64 = .ok (.invokevirtual 162, 3) := by decide +kernel
theorem d_R_takePivot_67 : decode b_R_takePivot 67 = .ok (.ifCond .eq 8, 3) := by decide +kernel
theorem d_R_takePivot_70 : decode b_R_takePivot 70 = .ok (.aload_n 0, 1) := by decide +kernel
theorem d_R_takePivot_71 : decode b_R_takePivot 71 = .ok (.iconst 5, 1) := by decide +kernel
theorem d_R_takePivot_72 : decode b_R_takePivot 72 = .ok (.invokevirtual 98, 3) := by decide +kernel
theorem d_R_takePivot_75 : decode b_R_takePivot 75 = .ok (.aload_n 0, 1) := by decide +kernel
theorem d_R_takePivot_76 : decode b_R_takePivot 76 = .ok (.aload_n 0, 1) := by decide +kernel
theorem d_R_takePivot_77 : decode b_R_takePivot 77 = .ok (.getfield 74, 3) := by decide +kernel
theorem d_R_takePivot_80 : decode b_R_takePivot 80 = .ok (.putfield 128, 3) := by decide +kernel
theorem d_R_takePivot_83 : decode b_R_takePivot 83 = .ok (.aload_n 0, 1) := by decide +kernel
theorem d_R_takePivot_84 : decode b_R_takePivot 84 = .ok (.bipush 8, 2) := by decide +kernel
theorem d_R_takePivot_86 : decode b_R_takePivot 86 = .ok (.putfield 34, 3) := by decide +kernel
theorem d_R_takePivot_89 : decode b_R_takePivot 89 = .ok (.return_, 1) := by decide +kernel
