theorem d_C_init_0 : decode b_C_init 0 = .ok (.aload_n 0, 1) := by decide +kernel
theorem d_C_init_1 : decode b_C_init 1 = .ok (.invokespecial 3, 3) := by decide +kernel
theorem d_C_init_4 : decode b_C_init 4 = .ok (.aload_n 0, 1) := by decide +kernel
theorem d_C_init_5 : decode b_C_init 5 = .ok (.sipush 201, 3) := by decide +kernel
theorem d_C_init_8 : decode b_C_init 8 = .ok (.newarray .int, 2) := by decide +kernel
theorem d_C_init_10 : decode b_C_init 10 = .ok (.putfield 9, 3) := by decide +kernel
theorem d_C_init_13 : decode b_C_init 13 = .ok (.aload_n 0, 1) := by decide +kernel
theorem d_C_init_14 : decode b_C_init 14 = .ok (.sipush 201, 3) := by decide +kernel
theorem d_C_init_17 : decode b_C_init 17 = .ok (.newarray .int, 2) := by decide +kernel
theorem d_C_init_19 : decode b_C_init 19 = .ok (.putfield 15, 3) := by decide +kernel
theorem d_C_init_22 : decode b_C_init 22 = .ok (.aload_n 0, 1) := by decide +kernel
theorem d_C_init_23 : decode b_C_init 23 = .ok (.sipush 201, 3) := by decide +kernel
theorem d_C_init_26 : decode b_C_init 26 = .ok (.newarray .int, 2) := by decide +kernel
theorem d_C_init_28 : decode b_C_init 28 = .ok (.putfield 18, 3) := by decide +kernel
theorem d_C_init_31 : decode b_C_init 31 = .ok (.aload_n 0, 1) := by decide +kernel
theorem d_C_init_32 : decode b_C_init 32 = .ok (.sipush 201, 3) := by decide +kernel
theorem d_C_init_35 : decode b_C_init 35 = .ok (.newarray .int, 2) := by decide +kernel
theorem d_C_init_37 : decode b_C_init 37 = .ok (.putfield 21, 3) := by decide +kernel
theorem d_C_init_40 : decode b_C_init 40 = .ok (.aload_n 0, 1) := by decide +kernel
theorem d_C_init_41 : decode b_C_init 41 = .ok (.sipush 201, 3) := by decide +kernel
theorem d_C_init_44 : decode b_C_init 44 = .ok (.newarray .int, 2) := by decide +kernel
theorem d_C_init_46 : decode b_C_init 46 = .ok (.putfield 24, 3) := by decide +kernel
theorem d_C_init_49 : decode b_C_init 49 = .ok (.aload_n 0, 1) := by decide +kernel
theorem d_C_init_50 : decode b_C_init 50 = .ok (.sipush 201, 3) := by decide +kernel
theorem d_C_init_53 : decode b_C_init 53 = .ok (.newarray .int, 2) := by decide +kernel
theorem d_C_init_55 : decode b_C_init 55 = .ok (.putfield 27, 3) := by decide +kernel
theorem d_C_init_58 : decode b_C_init 58 = .ok (.aload_n 0, 1) := by decide +kernel
theorem d_C_init_59 : decode b_C_init 59 = .ok (.sipush 201, 3) := by decide +kernel
theorem d_C_init_62 : decode b_C_init 62 = .ok (.newarray .boolean, 2) := by decide +kernel
theorem d_C_init_64 : decode b_C_init 64 = .ok (.putfield 30, 3) := by decide +kernel
theorem d_C_init_67 : decode b_C_init 67 = .ok (.aload_n 0, 1) := by decide +kernel
theorem d_C_init_68 : decode b_C_init 68 = .ok (.sipush 201, 3) := by decide +kernel
theorem d_C_init_71 : decode b_C_init 71 = .ok (.newarray .boolean, 2) := by decide +kernel
theorem d_C_init_73 : decode b_C_init 73 = .ok (.putfield 34, 3) := by decide +kernel
theorem d_C_init_76 : decode b_C_init 76 = .ok (.return_, 1) := by decide +kernel
theorem d_C_startDraft_0 : decode b_C_startDraft 0 = .ok (.aload_n 0, 1) := by decide +kernel
theorem d_C_startDraft_1 : decode b_C_startDraft 1 = .ok (.aload_n 0, 1) := by decide +kernel
theorem d_C_startDraft_2 : decode b_C_startDraft 2 = .ok (.getfield 37, 3) := by decide +kernel
theorem d_C_startDraft_5 : decode b_C_startDraft 5 = .ok (.putfield 41, 3) := by decide +kernel
theorem d_C_startDraft_8 : decode b_C_startDraft 8 = .ok (.aload_n 0, 1) := by decide +kernel
theorem d_C_startDraft_9 : decode b_C_startDraft 9 = .ok (.aload_n 0, 1) := by decide +kernel
theorem d_C_startDraft_10 : decode b_C_startDraft 10 = .ok (.getfield 44, 3) := by decide +kernel
theorem d_C_startDraft_13 : decode b_C_startDraft 13 = .ok (.putfield 47, 3) := by decide +kernel
theorem d_C_startDraft_16 : decode b_C_startDraft 16 = .ok (.return_, 1) := by decide +kernel
theorem d_C_hasRoom_0 : decode b_C_hasRoom 0 = .ok (.aload_n 0, 1) := by decide +kernel
theorem d_C_hasRoom_1 : decode b_C_hasRoom 1 = .ok (.getfield 41, 3) := by decide +kernel
theorem d_C_hasRoom_4 : decode b_C_hasRoom 4 = .ok (.sipush 200, 3) := by decide +kernel
theorem d_C_hasRoom_7 : decode b_C_hasRoom 7 = .ok (.if_icmp .ge 7, 3) := by decide +kernel
theorem d_C_hasRoom_10 : decode b_C_hasRoom 10 = .ok (.iconst 1, 1) := by decide +kernel
theorem d_C_hasRoom_11 : decode b_C_hasRoom 11 = .ok (.goto 4, 3) := by decide +kernel
theorem d_C_hasRoom_14 : decode b_C_hasRoom 14 = .ok (.iconst 0, 1) := by decide +kernel
theorem d_C_hasRoom_15 : decode b_C_hasRoom 15 = .ok (.ireturn, 1) := by decide +kernel
theorem d_C_hasRoomForGiven_0 : decode b_C_hasRoomForGiven 0 = .ok (.aload_n 0, 1) := by decide +kernel
theorem d_C_hasRoomForGiven_1 : decode b_C_hasRoomForGiven 1 = .ok (.invokevirtual 50, 3) := by decide +kernel
theorem d_C_hasRoomForGiven_4 : decode b_C_hasRoomForGiven 4 = .ok (.ifCond .eq 16, 3) := by decide +kernel
theorem d_C_hasRoomForGiven_7 : decode b_C_hasRoomForGiven 7 = .ok (.aload_n 0, 1) := by decide +kernel
theorem d_C_hasRoomForGiven_8 : decode b_C_hasRoomForGiven 8 = .ok (.getfield 47, 3) := by decide +kernel
theorem d_C_hasRoomForGiven_11 : decode b_C_hasRoomForGiven 11 = .ok (.bipush 60, 2) := by decide +kernel
theorem d_C_hasRoomForGiven_13 : decode b_C_hasRoomForGiven 13 = .ok (.if_icmp .ge 7, 3) := by decide +kernel
theorem d_C_hasRoomForGiven_16 : decode b_C_hasRoomForGiven 16 = .ok (.iconst 1, 1) := by decide +kernel
theorem d_C_hasRoomForGiven_17 : decode b_C_hasRoomForGiven 17 = .ok (.goto 4, 3) := by decide +kernel
theorem d_C_hasRoomForGiven_20 : decode b_C_hasRoomForGiven 20 = .ok (.iconst 0, 1) := by decide +kernel
theorem d_C_hasRoomForGiven_21 : decode b_C_hasRoomForGiven 21 = .ok (.ireturn, 1) := by decide +kernel
theorem d_C_isDrafted_0 : decode b_C_isDrafted 0 = .ok (.iload_n 1, 1) := by decide +kernel
theorem d_C_isDrafted_1 : decode b_C_isDrafted 1 = .ok (.iconst 1, 1) := by decide +kernel
theorem d_C_isDrafted_2 : decode b_C_isDrafted 2 = .ok (.if_icmp .lt 22, 3) := by decide +kernel
theorem d_C_isDrafted_5 : decode b_C_isDrafted 5 = .ok (.iload_n 1, 1) := by decide +kernel
theorem d_C_isDrafted_6 : decode b_C_isDrafted 6 = .ok (.aload_n 0, 1) := by decide +kernel
theorem d_C_isDrafted_7 : decode b_C_isDrafted 7 = .ok (.getfield 41, 3) := by decide +kernel
theorem d_C_isDrafted_10 : decode b_C_isDrafted 10 = .ok (.if_icmp .gt 14, 3) := by decide +kernel
theorem d_C_isDrafted_13 : decode b_C_isDrafted 13 = .ok (.iload_n 1, 1) := by decide +kernel
theorem d_C_isDrafted_14 : decode b_C_isDrafted 14 = .ok (.sipush 200, 3) := by decide +kernel
theorem d_C_isDrafted_17 : decode b_C_isDrafted 17 = .ok (.if_icmp .gt 7, 3) := by decide +kernel
theorem d_C_isDrafted_20 : decode b_C_isDrafted 20 = .ok (.iconst 1, 1) := by decide +kernel
theorem d_C_isDrafted_21 : decode b_C_isDrafted 21 = .ok (.goto 4, 3) := by decide +kernel
theorem d_C_isDrafted_24 : decode b_C_isDrafted 24 = .ok (.iconst 0, 1) := by decide +kernel
theorem d_C_isDrafted_25 : decode b_C_isDrafted 25 = .ok (.ireturn, 1) := by decide +kernel
theorem d_C_draftGiven_0 : decode b_C_draftGiven 0 = .ok (.aload_n 0, 1) := by decide +kernel
theorem d_C_draftGiven_1 : decode b_C_draftGiven 1 = .ok (.invokevirtual 54, 3) := by decide +kernel
theorem d_C_draftGiven_4 : decode b_C_draftGiven 4 = .ok (.ifCond .eq 59, 3) := by decide +kernel
theorem d_C_draftGiven_7 : decode b_C_draftGiven 7 = .ok (.aload_n 0, 1) := by decide +kernel
theorem d_C_draftGiven_8 : decode b_C_draftGiven 8 = .ok (.iload_n 2, 1) := by decide +kernel
theorem d_C_draftGiven_9 : decode b_C_draftGiven 9 = .ok (.iload_n 3, 1) := by decide +kernel
theorem d_C_draftGiven_10 : decode b_C_draftGiven 10 = .ok (.invokevirtual 57, 3) := by decide +kernel
theorem d_C_draftGiven_13 : decode b_C_draftGiven 13 = .ok (.aload_n 0, 1) := by decide +kernel
theorem d_C_draftGiven_14 : decode b_C_draftGiven 14 = .ok (.getfield 9, 3) := by decide +kernel
theorem d_C_draftGiven_17 : decode b_C_draftGiven 17 = .ok (.aload_n 0, 1) := by decide +kernel
theorem d_C_draftGiven_18 : decode b_C_draftGiven 18 = .ok (.getfield 41, 3) := by decide +kernel
theorem d_C_draftGiven_21 : decode b_C_draftGiven 21 = .ok (.iload_n 1, 1) := by decide +kernel
theorem d_C_draftGiven_22 : decode b_C_draftGiven 22 = .ok (.iastore, 1) := by decide +kernel
theorem d_C_draftGiven_23 : decode b_C_draftGiven 23 = .ok (.aload_n 0, 1) := by decide +kernel
theorem d_C_draftGiven_24 : decode b_C_draftGiven 24 = .ok (.getfield 15, 3) := by decide +kernel
theorem d_C_draftGiven_27 : decode b_C_draftGiven 27 = .ok (.aload_n 0, 1) := by decide +kernel
theorem d_C_draftGiven_28 : decode b_C_draftGiven 28 = .ok (.getfield 41, 3) := by decide +kernel
theorem d_C_draftGiven_31 : decode b_C_draftGiven 31 = .ok (.iconst 0, 1) := by decide +kernel
theorem d_C_draftGiven_32 : decode b_C_draftGiven 32 = .ok (.iastore, 1) := by decide +kernel
theorem d_C_draftGiven_33 : decode b_C_draftGiven 33 = .ok (.aload_n 0, 1) := by decide +kernel
theorem d_C_draftGiven_34 : decode b_C_draftGiven 34 = .ok (.getfield 18, 3) := by decide +kernel
theorem d_C_draftGiven_37 : decode b_C_draftGiven 37 = .ok (.aload_n 0, 1) := by decide +kernel
theorem d_C_draftGiven_38 : decode b_C_draftGiven 38 = .ok (.getfield 41, 3) := by decide +kernel
theorem d_C_draftGiven_41 : decode b_C_draftGiven 41 = .ok (.iconst 0, 1) := by decide +kernel
theorem d_C_draftGiven_42 : decode b_C_draftGiven 42 = .ok (.iastore, 1) := by decide +kernel
theorem d_C_draftGiven_43 : decode b_C_draftGiven 43 = .ok (.aload_n 0, 1) := by decide +kernel
theorem d_C_draftGiven_44 : decode b_C_draftGiven 44 = .ok (.getfield 21, 3) := by decide +kernel
theorem d_C_draftGiven_47 : decode b_C_draftGiven 47 = .ok (.aload_n 0, 1) := by decide +kernel
theorem d_C_draftGiven_48 : decode b_C_draftGiven 48 = .ok (.getfield 41, 3) := by decide +kernel
theorem d_C_draftGiven_51 : decode b_C_draftGiven 51 = .ok (.iconst 0, 1) := by decide +kernel
theorem d_C_draftGiven_52 : decode b_C_draftGiven 52 = .ok (.iastore, 1) := by decide +kernel
theorem d_C_draftGiven_53 : decode b_C_draftGiven 53 = .ok (.aload_n 0, 1) := by decide +kernel
theorem d_C_draftGiven_54 : decode b_C_draftGiven 54 = .ok (.dup, 1) := by decide +kernel
theorem d_C_draftGiven_55 : decode b_C_draftGiven 55 = .ok (.getfield 47, 3) := by decide +kernel
theorem d_C_draftGiven_58 : decode b_C_draftGiven 58 = .ok (.iconst 1, 1) := by decide +kernel
theorem d_C_draftGiven_59 : decode b_C_draftGiven 59 = .ok (.iadd, 1) := by decide +kernel
theorem d_C_draftGiven_60 : decode b_C_draftGiven 60 = .ok (.putfield 47, 3) := by decide +kernel
theorem d_C_draftGiven_63 : decode b_C_draftGiven 63 = .ok (.return_, 1) := by decide +kernel
theorem d_C_draftResolvent_0 : decode b_C_draftResolvent 0 = .ok (.aload_n 0, 1) := by decide +kernel
theorem d_C_draftResolvent_1 : decode b_C_draftResolvent 1 = .ok (.invokevirtual 50, 3) := by decide +kernel
theorem d_C_draftResolvent_4 : decode b_C_draftResolvent 4 = .ok (.ifCond .eq 77, 3) := by decide +kernel
theorem d_C_draftResolvent_7 : decode b_C_draftResolvent 7 = .ok (.aload_n 0, 1) := by decide +kernel
theorem d_C_draftResolvent_8 : decode b_C_draftResolvent 8 = .ok (.iload_n 1, 1) := by decide +kernel
theorem d_C_draftResolvent_9 : decode b_C_draftResolvent 9 = .ok (.invokevirtual 61, 3) := by decide +kernel
theorem d_C_draftResolvent_12 : decode b_C_draftResolvent 12 = .ok (.ifCond .eq 69, 3) := by decide +kernel
theorem d_C_draftResolvent_15 : decode b_C_draftResolvent 15 = .ok (.aload_n 0, 1) := by decide +kernel
theorem d_C_draftResolvent_16 : decode b_C_draftResolvent 16 = .ok (.iload_n 2, 1) := by decide +kernel
theorem d_C_draftResolvent_17 : decode b_C_draftResolvent 17 = .ok (.invokevirtual 61, 3) := by decide +kernel
theorem d_C_draftResolvent_20 : decode b_C_draftResolvent 20 = .ok (.ifCond .eq 61, 3) := by decide +kernel
theorem d_C_draftResolvent_23 : decode b_C_draftResolvent 23 = .ok (.aload_n 0, 1) := by decide +kernel
theorem d_C_draftResolvent_24 : decode b_C_draftResolvent 24 = .ok (.aload_n 0, 1) := by decide +kernel
theorem d_C_draftResolvent_25 : decode b_C_draftResolvent 25 = .ok (.iload_n 1, 1) := by decide +kernel
theorem d_C_draftResolvent_26 : decode b_C_draftResolvent 26 = .ok (.iload_n 2, 1) := by decide +kernel
theorem d_C_draftResolvent_27 : decode b_C_draftResolvent 27 = .ok (.iload_n 3, 1) := by decide +kernel
theorem d_C_draftResolvent_28 : decode b_C_draftResolvent 28 = .ok (.invokevirtual 65, 3) := by decide +kernel
theorem d_C_draftResolvent_31 : decode b_C_draftResolvent 31 = .ok (.aload_n 0, 1) := by decide +kernel
theorem d_C_draftResolvent_32 : decode b_C_draftResolvent 32 = .ok (.iload_n 1, 1) := by decide +kernel
theorem d_C_draftResolvent_33 : decode b_C_draftResolvent 33 = .ok (.iload_n 2, 1) := by decide +kernel
theorem d_C_draftResolvent_34 : decode b_C_draftResolvent 34 = .ok (.iload_n 3, 1) := by decide +kernel
theorem d_C_draftResolvent_35 : decode b_C_draftResolvent 35 = .ok (.invokevirtual 69, 3) := by decide +kernel
theorem d_C_draftResolvent_38 : decode b_C_draftResolvent 38 = .ok (.invokevirtual 57, 3) := by decide +kernel
theorem d_C_draftResolvent_41 : decode b_C_draftResolvent 41 = .ok (.aload_n 0, 1) := by decide +kernel
theorem d_C_draftResolvent_42 : decode b_C_draftResolvent 42 = .ok (.getfield 9, 3) := by decide +kernel
theorem d_C_draftResolvent_45 : decode b_C_draftResolvent 45 = .ok (.aload_n 0, 1) := by decide +kernel
theorem d_C_draftResolvent_46 : decode b_C_draftResolvent 46 = .ok (.getfield 41, 3) := by decide +kernel
theorem d_C_draftResolvent_49 : decode b_C_draftResolvent 49 = .ok (.iconst 0, 1) := by decide +kernel
theorem d_C_draftResolvent_50 : decode b_C_draftResolvent 50 = .ok (.iastore, 1) := by decide +kernel
theorem d_C_draftResolvent_51 : decode b_C_draftResolvent 51 = .ok (.aload_n 0, 1) := by decide +kernel
theorem d_C_draftResolvent_52 : decode b_C_draftResolvent 52 = .ok (.getfield 15, 3) := by decide +kernel
theorem d_C_draftResolvent_55 : decode b_C_draftResolvent 55 = .ok (.aload_n 0, 1) := by decide +kernel
theorem d_C_draftResolvent_56 : decode b_C_draftResolvent 56 = .ok (.getfield 41, 3) := by decide +kernel
theorem d_C_draftResolvent_59 : decode b_C_draftResolvent 59 = .ok (.iload_n 1, 1) := by decide +kernel
theorem d_C_draftResolvent_60 : decode b_C_draftResolvent 60 = .ok (.iastore, 1) := by decide +kernel
theorem d_C_draftResolvent_61 : decode b_C_draftResolvent 61 = .ok (.aload_n 0, 1) := by decide +kernel
theorem d_C_draftResolvent_62 : decode b_C_draftResolvent 62 = .ok (.getfield 18, 3) := by decide +kernel
theorem d_C_draftResolvent_65 : decode b_C_draftResolvent 65 = .ok (.aload_n 0, 1) := by decide +kernel
theorem d_C_draftResolvent_66 : decode b_C_draftResolvent 66 = .ok (.getfield 41, 3) := by decide +kernel
theorem d_C_draftResolvent_69 : decode b_C_draftResolvent 69 = .ok (.iload_n 2, 1) := by decide +kernel
theorem d_C_draftResolvent_70 : decode b_C_draftResolvent 70 = .ok (.iastore, 1) := by decide +kernel
theorem d_C_draftResolvent_71 : decode b_C_draftResolvent 71 = .ok (.aload_n 0, 1) := by decide +kernel
theorem d_C_draftResolvent_72 : decode b_C_draftResolvent 72 = .ok (.getfield 21, 3) := by decide +kernel
theorem d_C_draftResolvent_75 : decode b_C_draftResolvent 75 = .ok (.aload_n 0, 1) := by decide +kernel
theorem d_C_draftResolvent_76 : decode b_C_draftResolvent 76 = .ok (.getfield 41, 3) := by decide +kernel
theorem d_C_draftResolvent_79 : decode b_C_draftResolvent 79 = .ok (.iload_n 3, 1) := by decide +kernel
theorem d_C_draftResolvent_80 : decode b_C_draftResolvent 80 = .ok (.iastore, 1) := by decide +kernel
theorem d_C_draftResolvent_81 : decode b_C_draftResolvent 81 = .ok (.return_, 1) := by decide +kernel
theorem d_C_draft_0 : decode b_C_draft 0 = .ok (.aload_n 0, 1) := by decide +kernel
theorem d_C_draft_1 : decode b_C_draft 1 = .ok (.dup, 1) := by decide +kernel
theorem d_C_draft_2 : decode b_C_draft 2 = .ok (.getfield 41, 3) := by decide +kernel
theorem d_C_draft_5 : decode b_C_draft 5 = .ok (.iconst 1, 1) := by decide +kernel
theorem d_C_draft_6 : decode b_C_draft 6 = .ok (.iadd, 1) := by decide +kernel
theorem d_C_draft_7 : decode b_C_draft 7 = .ok (.putfield 41, 3) := by decide +kernel
theorem d_C_draft_10 : decode b_C_draft 10 = .ok (.aload_n 0, 1) := by decide +kernel
theorem d_C_draft_11 : decode b_C_draft 11 = .ok (.getfield 24, 3) := by decide +kernel
theorem d_C_draft_14 : decode b_C_draft 14 = .ok (.aload_n 0, 1) := by decide +kernel
theorem d_C_draft_15 : decode b_C_draft 15 = .ok (.getfield 41, 3) := by decide +kernel
theorem d_C_draft_18 : decode b_C_draft 18 = .ok (.iload_n 1, 1) := by decide +kernel
theorem d_C_draft_19 : decode b_C_draft 19 = .ok (.iastore, 1) := by decide +kernel
theorem d_C_draft_20 : decode b_C_draft 20 = .ok (.aload_n 0, 1) := by decide +kernel
theorem d_C_draft_21 : decode b_C_draft 21 = .ok (.getfield 27, 3) := by decide +kernel
theorem d_C_draft_24 : decode b_C_draft 24 = .ok (.aload_n 0, 1) := by decide +kernel
theorem d_C_draft_25 : decode b_C_draft 25 = .ok (.getfield 41, 3) := by decide +kernel
theorem d_C_draft_28 : decode b_C_draft 28 = .ok (.iload_n 2, 1) := by decide +kernel
theorem d_C_draft_29 : decode b_C_draft 29 = .ok (.iastore, 1) := by decide +kernel
theorem d_C_draft_30 : decode b_C_draft 30 = .ok (.aload_n 0, 1) := by decide +kernel
theorem d_C_draft_31 : decode b_C_draft 31 = .ok (.getfield 30, 3) := by decide +kernel
theorem d_C_draft_34 : decode b_C_draft 34 = .ok (.aload_n 0, 1) := by decide +kernel
theorem d_C_draft_35 : decode b_C_draft 35 = .ok (.getfield 41, 3) := by decide +kernel
theorem d_C_draft_38 : decode b_C_draft 38 = .ok (.iconst 1, 1) := by decide +kernel
theorem d_C_draft_39 : decode b_C_draft 39 = .ok (.bastore, 1) := by decide +kernel
theorem d_C_draft_40 : decode b_C_draft 40 = .ok (.return_, 1) := by decide +kernel
theorem d_C_keepDraft_0 : decode b_C_keepDraft 0 = .ok (.aload_n 0, 1) := by decide +kernel
theorem d_C_keepDraft_1 : decode b_C_keepDraft 1 = .ok (.getfield 41, 3) := by decide +kernel
theorem d_C_keepDraft_4 : decode b_C_keepDraft 4 = .ok (.aload_n 0, 1) := by decide +kernel
theorem d_C_keepDraft_5 : decode b_C_keepDraft 5 = .ok (.getfield 37, 3) := by decide +kernel
theorem d_C_keepDraft_8 : decode b_C_keepDraft 8 = .ok (.isub, 1) := by decide +kernel
theorem d_C_keepDraft_9 : decode b_C_keepDraft 9 = .ok (.istore_n 1, 1) := by decide +kernel
theorem d_C_keepDraft_10 : decode b_C_keepDraft 10 = .ok (.aload_n 0, 1) := by decide +kernel
theorem d_C_keepDraft_11 : decode b_C_keepDraft 11 = .ok (.aload_n 0, 1) := by decide +kernel
theorem d_C_keepDraft_12 : decode b_C_keepDraft 12 = .ok (.getfield 41, 3) := by decide +kernel
theorem d_C_keepDraft_15 : decode b_C_keepDraft 15 = .ok (.putfield 37, 3) := by decide +kernel
theorem d_C_keepDraft_18 : decode b_C_keepDraft 18 = .ok (.aload_n 0, 1) := by decide +kernel
theorem d_C_keepDraft_19 : decode b_C_keepDraft 19 = .ok (.aload_n 0, 1) := by decide +kernel
theorem d_C_keepDraft_20 : decode b_C_keepDraft 20 = .ok (.getfield 47, 3) := by decide +kernel
theorem d_C_keepDraft_23 : decode b_C_keepDraft 23 = .ok (.putfield 44, 3) := by decide +kernel
theorem d_C_keepDraft_26 : decode b_C_keepDraft 26 = .ok (.aload_n 0, 1) := by decide +kernel
theorem d_C_keepDraft_27 : decode b_C_keepDraft 27 = .ok (.invokevirtual 72, 3) := by decide +kernel
theorem d_C_keepDraft_30 : decode b_C_keepDraft 30 = .ok (.aload_n 0, 1) := by decide +kernel
theorem d_C_keepDraft_31 : decode b_C_keepDraft 31 = .ok (.invokevirtual 75, 3) := by decide +kernel
theorem d_C_keepDraft_34 : decode b_C_keepDraft 34 = .ok (.iload_n 1, 1) := by decide +kernel
theorem d_C_keepDraft_35 : decode b_C_keepDraft 35 = .ok (.ireturn, 1) := by decide +kernel
theorem d_C_removeAll_0 : decode b_C_removeAll 0 = .ok (.aload_n 0, 1) := by decide +kernel
theorem d_C_removeAll_1 : decode b_C_removeAll 1 = .ok (.iconst 0, 1) := by decide +kernel
theorem d_C_removeAll_2 : decode b_C_removeAll 2 = .ok (.putfield 37, 3) := by decide +kernel
theorem d_C_removeAll_5 : decode b_C_removeAll 5 = .ok (.aload_n 0, 1) := by decide +kernel
theorem d_C_removeAll_6 : decode b_C_removeAll 6 = .ok (.iconst 0, 1) := by decide +kernel
theorem d_C_removeAll_7 : decode b_C_removeAll 7 = .ok (.putfield 44, 3) := by decide +kernel
theorem d_C_removeAll_10 : decode b_C_removeAll 10 = .ok (.aload_n 0, 1) := by decide +kernel
theorem d_C_removeAll_11 : decode b_C_removeAll 11 = .ok (.iconst 0, 1) := by decide +kernel
theorem d_C_removeAll_12 : decode b_C_removeAll 12 = .ok (.putfield 78, 3) := by decide +kernel
theorem d_C_removeAll_15 : decode b_C_removeAll 15 = .ok (.return_, 1) := by decide +kernel
theorem d_C_findEmpty_0 : decode b_C_findEmpty 0 = .ok (.iconst 1, 1) := by decide +kernel
theorem d_C_findEmpty_1 : decode b_C_findEmpty 1 = .ok (.istore_n 1, 1) := by decide +kernel
theorem d_C_findEmpty_2 : decode b_C_findEmpty 2 = .ok (.iload_n 1, 1) := by decide +kernel
theorem d_C_findEmpty_3 : decode b_C_findEmpty 3 = .ok (.aload_n 0, 1) := by decide +kernel
theorem d_C_findEmpty_4 : decode b_C_findEmpty 4 = .ok (.getfield 37, 3) := by decide +kernel
theorem d_C_findEmpty_7 : decode b_C_findEmpty 7 = .ok (.if_icmp .gt 37, 3) := by decide +kernel
theorem d_C_findEmpty_10 : decode b_C_findEmpty 10 = .ok (.aload_n 0, 1) := by decide +kernel
theorem d_C_findEmpty_11 : decode b_C_findEmpty 11 = .ok (.getfield 78, 3) := by decide +kernel
theorem d_C_findEmpty_14 : decode b_C_findEmpty 14 = .ok (.ifCond .ne 30, 3) := by decide +kernel
theorem d_C_findEmpty_17 : decode b_C_findEmpty 17 = .ok (.aload_n 0, 1) := by decide +kernel
theorem d_C_findEmpty_18 : decode b_C_findEmpty 18 = .ok (.getfield 24, 3) := by decide +kernel
theorem d_C_findEmpty_21 : decode b_C_findEmpty 21 = .ok (.iload_n 1, 1) := by decide +kernel
theorem d_C_findEmpty_22 : decode b_C_findEmpty 22 = .ok (.iaload, 1) := by decide +kernel
theorem d_C_findEmpty_23 : decode b_C_findEmpty 23 = .ok (.aload_n 0, 1) := by decide +kernel
theorem d_C_findEmpty_24 : decode b_C_findEmpty 24 = .ok (.getfield 27, 3) := by decide +kernel
theorem d_C_findEmpty_27 : decode b_C_findEmpty 27 = .ok (.iload_n 1, 1) := by decide +kernel
theorem d_C_findEmpty_28 : decode b_C_findEmpty 28 = .ok (.iaload, 1) := by decide +kernel
theorem d_C_findEmpty_29 : decode b_C_findEmpty 29 = .ok (.ior, 1) := by decide +kernel
theorem d_C_findEmpty_30 : decode b_C_findEmpty 30 = .ok (.ifCond .ne 8, 3) := by decide +kernel
theorem d_C_findEmpty_33 : decode b_C_findEmpty 33 = .ok (.aload_n 0, 1) := by decide +kernel
theorem d_C_findEmpty_34 : decode b_C_findEmpty 34 = .ok (.iload_n 1, 1) := by decide +kernel
theorem d_C_findEmpty_35 : decode b_C_findEmpty 35 = .ok (.putfield 78, 3) := by decide +kernel
theorem d_C_findEmpty_38 : decode b_C_findEmpty 38 = .ok (.iinc 1 1, 3) := by decide +kernel
theorem d_C_findEmpty_41 : decode b_C_findEmpty 41 = .ok (.goto (-39), 3) := by decide +kernel
theorem d_C_findEmpty_44 : decode b_C_findEmpty 44 = .ok (.return_, 1) := by decide +kernel
theorem d_C_markNeeded_0 : decode b_C_markNeeded 0 = .ok (.iconst 0, 1) := by decide +kernel
theorem d_C_markNeeded_1 : decode b_C_markNeeded 1 = .ok (.istore_n 1, 1) := by decide +kernel
theorem d_C_markNeeded_2 : decode b_C_markNeeded 2 = .ok (.iload_n 1, 1) := by decide +kernel
theorem d_C_markNeeded_3 : decode b_C_markNeeded 3 = .ok (.sipush 200, 3) := by decide +kernel
theorem d_C_markNeeded_6 : decode b_C_markNeeded 6 = .ok (.if_icmp .gt 32, 3) := by decide +kernel
theorem d_C_markNeeded_9 : decode b_C_markNeeded 9 = .ok (.aload_n 0, 1) := by decide +kernel
theorem d_C_markNeeded_10 : decode b_C_markNeeded 10 = .ok (.getfield 34, 3) := by decide +kernel
theorem d_C_markNeeded_13 : decode b_C_markNeeded 13 = .ok (.iload_n 1, 1) := by decide +kernel
theorem d_C_markNeeded_14 : decode b_C_markNeeded 14 = .ok (.iload_n 1, 1) := by decide +kernel
theorem d_C_markNeeded_15 : decode b_C_markNeeded 15 = .ok (.ifCond .eq 15, 3) := by decide +kernel
theorem d_C_markNeeded_18 : decode b_C_markNeeded 18 = .ok (.iload_n 1, 1) := by decide +kernel
theorem d_C_markNeeded_19 : decode b_C_markNeeded 19 = .ok (.aload_n 0, 1) := by decide +kernel
theorem d_C_markNeeded_20 : decode b_C_markNeeded 20 = .ok (.getfield 78, 3) := by decide +kernel
theorem d_C_markNeeded_23 : decode b_C_markNeeded 23 = .ok (.if_icmp .ne 7, 3) := by decide +kernel
theorem d_C_markNeeded_26 : decode b_C_markNeeded 26 = .ok (.iconst 1, 1) := by decide +kernel
theorem d_C_markNeeded_27 : decode b_C_markNeeded 27 = .ok (.goto 4, 3) := by decide +kernel
theorem d_C_markNeeded_30 : decode b_C_markNeeded 30 = .ok (.iconst 0, 1) := by decide +kernel
theorem d_C_markNeeded_31 : decode b_C_markNeeded 31 = .ok (.bastore, 1) := by decide +kernel
theorem d_C_markNeeded_32 : decode b_C_markNeeded 32 = .ok (.iinc 1 1, 3) := by decide +kernel
theorem d_C_markNeeded_35 : decode b_C_markNeeded 35 = .ok (.goto (-33), 3) := by decide +kernel
theorem d_C_markNeeded_38 : decode b_C_markNeeded 38 = .ok (.aload_n 0, 1) := by decide +kernel
theorem d_C_markNeeded_39 : decode b_C_markNeeded 39 = .ok (.getfield 78, 3) := by decide +kernel
theorem d_C_markNeeded_42 : decode b_C_markNeeded 42 = .ok (.istore_n 1, 1) := by decide +kernel
theorem d_C_markNeeded_43 : decode b_C_markNeeded 43 = .ok (.iload_n 1, 1) := by decide +kernel
theorem d_C_markNeeded_44 : decode b_C_markNeeded 44 = .ok (.iconst 1, 1) := by decide +kernel
theorem d_C_markNeeded_45 : decode b_C_markNeeded 45 = .ok (.if_icmp .lt 51, 3) := by decide +kernel
theorem d_C_markNeeded_48 : decode b_C_markNeeded 48 = .ok (.aload_n 0, 1) := by decide +kernel
theorem d_C_markNeeded_49 : decode b_C_markNeeded 49 = .ok (.getfield 34, 3) := by decide +kernel
theorem d_C_markNeeded_52 : decode b_C_markNeeded 52 = .ok (.iload_n 1, 1) := by decide +kernel
theorem d_C_markNeeded_53 : decode b_C_markNeeded 53 = .ok (.baload, 1) := by decide +kernel
theorem d_C_markNeeded_54 : decode b_C_markNeeded 54 = .ok (.ifCond .eq 36, 3) := by decide +kernel
theorem d_C_markNeeded_57 : decode b_C_markNeeded 57 = .ok (.aload_n 0, 1) := by decide +kernel
theorem d_C_markNeeded_58 : decode b_C_markNeeded 58 = .ok (.getfield 9, 3) := by decide +kernel
theorem d_C_markNeeded_61 : decode b_C_markNeeded 61 = .ok (.iload_n 1, 1) := by decide +kernel
theorem d_C_markNeeded_62 : decode b_C_markNeeded 62 = .ok (.iaload, 1) := by decide +kernel
theorem d_C_markNeeded_63 : decode b_C_markNeeded 63 = .ok (.ifCond .ne 27, 3) := by decide +kernel
theorem d_C_markNeeded_66 : decode b_C_markNeeded 66 = .ok (.aload_n 0, 1) := by decide +kernel
theorem d_C_markNeeded_67 : decode b_C_markNeeded 67 = .ok (.getfield 34, 3) := by decide +kernel
theorem d_C_markNeeded_70 : decode b_C_markNeeded 70 = .ok (.aload_n 0, 1) := by decide +kernel
theorem d_C_markNeeded_71 : decode b_C_markNeeded 71 = .ok (.getfield 15, 3) := by decide +kernel
theorem d_C_markNeeded_74 : decode b_C_markNeeded 74 = .ok (.iload_n 1, 1) := by decide +kernel
theorem d_C_markNeeded_75 : decode b_C_markNeeded 75 = .ok (.iaload, 1) := by decide +kernel
theorem d_C_markNeeded_76 : decode b_C_markNeeded 76 = .ok (.iconst 1, 1) := by decide +kernel
theorem d_C_markNeeded_77 : decode b_C_markNeeded 77 = .ok (.bastore, 1) := by decide +kernel
theorem d_C_markNeeded_78 : decode b_C_markNeeded 78 = .ok (.aload_n 0, 1) := by decide +kernel
theorem d_C_markNeeded_79 : decode b_C_markNeeded 79 = .ok (.getfield 34, 3) := by decide +kernel
theorem d_C_markNeeded_82 : decode b_C_markNeeded 82 = .ok (.aload_n 0, 1) := by decide +kernel
theorem d_C_markNeeded_83 : decode b_C_markNeeded 83 = .ok (.getfield 18, 3) := by decide +kernel
theorem d_C_markNeeded_86 : decode b_C_markNeeded 86 = .ok (.iload_n 1, 1) := by decide +kernel
theorem d_C_markNeeded_87 : decode b_C_markNeeded 87 = .ok (.iaload, 1) := by decide +kernel
theorem d_C_markNeeded_88 : decode b_C_markNeeded 88 = .ok (.iconst 1, 1) := by decide +kernel
theorem d_C_markNeeded_89 : decode b_C_markNeeded 89 = .ok (.bastore, 1) := by decide +kernel
theorem d_C_markNeeded_90 : decode b_C_markNeeded 90 = .ok (.iinc 1 (-1), 3) := by decide +kernel
theorem d_C_markNeeded_93 : decode b_C_markNeeded 93 = .ok (.goto (-50), 3) := by decide +kernel
theorem d_C_markNeeded_96 : decode b_C_markNeeded 96 = .ok (.return_, 1) := by decide +kernel
theorem d_C_resolves_0 : decode b_C_resolves 0 = .ok (.aload_n 0, 1) := by decide +kernel
theorem d_C_resolves_1 : decode b_C_resolves 1 = .ok (.getfield 24, 3) := by decide +kernel
theorem d_C_resolves_4 : decode b_C_resolves 4 = .ok (.iload_n 1, 1) := by decide +kernel
theorem d_C_resolves_5 : decode b_C_resolves 5 = .ok (.iaload, 1) := by decide +kernel
theorem d_C_resolves_6 : decode b_C_resolves 6 = .ok (.iload_n 3, 1) := by decide +kernel
theorem d_C_resolves_7 : decode b_C_resolves 7 = .ok (.invokestatic 81, 3) := by decide +kernel
theorem d_C_resolves_10 : decode b_C_resolves 10 = .ok (.iand, 1) := by decide +kernel
theorem d_C_resolves_11 : decode b_C_resolves 11 = .ok (.ifCond .eq 21, 3) := by decide +kernel
theorem d_C_resolves_14 : decode b_C_resolves 14 = .ok (.aload_n 0, 1) := by decide +kernel
theorem d_C_resolves_15 : decode b_C_resolves 15 = .ok (.getfield 27, 3) := by decide +kernel
theorem d_C_resolves_18 : decode b_C_resolves 18 = .ok (.iload_n 2, 1) := by decide +kernel
theorem d_C_resolves_19 : decode b_C_resolves 19 = .ok (.iaload, 1) := by decide +kernel
theorem d_C_resolves_20 : decode b_C_resolves 20 = .ok (.iload_n 3, 1) := by decide +kernel
theorem d_C_resolves_21 : decode b_C_resolves 21 = .ok (.invokestatic 81, 3) := by decide +kernel
theorem d_C_resolves_24 : decode b_C_resolves 24 = .ok (.iand, 1) := by decide +kernel
theorem d_C_resolves_25 : decode b_C_resolves 25 = .ok (.ifCond .eq 7, 3) := by decide +kernel
theorem d_C_resolves_28 : decode b_C_resolves 28 = .ok (.iconst 1, 1) := by decide +kernel
theorem d_C_resolves_29 : decode b_C_resolves 29 = .ok (.goto 4, 3) := by decide +kernel
theorem d_C_resolves_32 : decode b_C_resolves 32 = .ok (.iconst 0, 1) := by decide +kernel
theorem d_C_resolves_33 : decode b_C_resolves 33 = .ok (.ireturn, 1) := by decide +kernel
theorem d_C_clashes_0 : decode b_C_clashes 0 = .ok (.aload_n 0, 1) := by decide +kernel
theorem d_C_clashes_1 : decode b_C_clashes 1 = .ok (.iload_n 1, 1) := by decide +kernel
theorem d_C_clashes_2 : decode b_C_clashes 2 = .ok (.iload_n 2, 1) := by decide +kernel
theorem d_C_clashes_3 : decode b_C_clashes 3 = .ok (.iload_n 3, 1) := by decide +kernel
theorem d_C_clashes_4 : decode b_C_clashes 4 = .ok (.invokevirtual 65, 3) := by decide +kernel
theorem d_C_clashes_7 : decode b_C_clashes 7 = .ok (.aload_n 0, 1) := by decide +kernel
theorem d_C_clashes_8 : decode b_C_clashes 8 = .ok (.iload_n 1, 1) := by decide +kernel
theorem d_C_clashes_9 : decode b_C_clashes 9 = .ok (.iload_n 2, 1) := by decide +kernel
theorem d_C_clashes_10 : decode b_C_clashes 10 = .ok (.iload_n 3, 1) := by decide +kernel
theorem d_C_clashes_11 : decode b_C_clashes 11 = .ok (.invokevirtual 69, 3) := by decide +kernel
theorem d_C_clashes_14 : decode b_C_clashes 14 = .ok (.iand, 1) := by decide +kernel
theorem d_C_clashes_15 : decode b_C_clashes 15 = .ok (.ifCond .eq 7, 3) := by decide +kernel
theorem d_C_clashes_18 : decode b_C_clashes 18 = .ok (.iconst 1, 1) := by decide +kernel
theorem d_C_clashes_19 : decode b_C_clashes 19 = .ok (.goto 4, 3) := by decide +kernel
theorem d_C_clashes_22 : decode b_C_clashes 22 = .ok (.iconst 0, 1) := by decide +kernel
theorem d_C_clashes_23 : decode b_C_clashes 23 = .ok (.ireturn, 1) := by decide +kernel
theorem d_C_positiveRest_0 : decode b_C_positiveRest 0 = .ok (.aload_n 0, 1) := by decide +kernel
theorem d_C_positiveRest_1 : decode b_C_positiveRest 1 = .ok (.getfield 24, 3) := by decide +kernel
theorem d_C_positiveRest_4 : decode b_C_positiveRest 4 = .ok (.iload_n 1, 1) := by decide +kernel
theorem d_C_positiveRest_5 : decode b_C_positiveRest 5 = .ok (.iaload, 1) := by decide +kernel
theorem d_C_positiveRest_6 : decode b_C_positiveRest 6 = .ok (.aload_n 0, 1) := by decide +kernel
theorem d_C_positiveRest_7 : decode b_C_positiveRest 7 = .ok (.getfield 24, 3) := by decide +kernel
theorem d_C_positiveRest_10 : decode b_C_positiveRest 10 = .ok (.iload_n 2, 1) := by decide +kernel
theorem d_C_positiveRest_11 : decode b_C_positiveRest 11 = .ok (.iaload, 1) := by decide +kernel
theorem d_C_positiveRest_12 : decode b_C_positiveRest 12 = .ok (.ior, 1) := by decide +kernel
theorem d_C_positiveRest_13 : decode b_C_positiveRest 13 = .ok (.iload_n 3, 1) := by decide +kernel
theorem d_C_positiveRest_14 : decode b_C_positiveRest 14 = .ok (.invokestatic 81, 3) := by decide +kernel
theorem d_C_positiveRest_17 : decode b_C_positiveRest 17 = .ok (.iconst (-1), 1) := by decide +kernel
theorem d_C_positiveRest_18 : decode b_C_positiveRest 18 = .ok (.ixor, 1) := by decide +kernel
theorem d_C_positiveRest_19 : decode b_C_positiveRest 19 = .ok (.iand, 1) := by decide +kernel
theorem d_C_positiveRest_20 : decode b_C_positiveRest 20 = .ok (.ireturn, 1) := by decide +kernel
theorem d_C_negativeRest_0 : decode b_C_negativeRest 0 = .ok (.aload_n 0, 1) := by decide +kernel
theorem d_C_negativeRest_1 : decode b_C_negativeRest 1 = .ok (.getfield 27, 3) := by decide +kernel
theorem d_C_negativeRest_4 : decode b_C_negativeRest 4 = .ok (.iload_n 1, 1) := by decide +kernel
theorem d_C_negativeRest_5 : decode b_C_negativeRest 5 = .ok (.iaload, 1) := by decide +kernel
theorem d_C_negativeRest_6 : decode b_C_negativeRest 6 = .ok (.aload_n 0, 1) := by decide +kernel
theorem d_C_negativeRest_7 : decode b_C_negativeRest 7 = .ok (.getfield 27, 3) := by decide +kernel
theorem d_C_negativeRest_10 : decode b_C_negativeRest 10 = .ok (.iload_n 2, 1) := by decide +kernel
theorem d_C_negativeRest_11 : decode b_C_negativeRest 11 = .ok (.iaload, 1) := by decide +kernel
theorem d_C_negativeRest_12 : decode b_C_negativeRest 12 = .ok (.ior, 1) := by decide +kernel
theorem d_C_negativeRest_13 : decode b_C_negativeRest 13 = .ok (.iload_n 3, 1) := by decide +kernel
theorem d_C_negativeRest_14 : decode b_C_negativeRest 14 = .ok (.invokestatic 81, 3) := by decide +kernel
theorem d_C_negativeRest_17 : decode b_C_negativeRest 17 = .ok (.iconst (-1), 1) := by decide +kernel
theorem d_C_negativeRest_18 : decode b_C_negativeRest 18 = .ok (.ixor, 1) := by decide +kernel
theorem d_C_negativeRest_19 : decode b_C_negativeRest 19 = .ok (.iand, 1) := by decide +kernel
theorem d_C_negativeRest_20 : decode b_C_negativeRest 20 = .ok (.ireturn, 1) := by decide +kernel
theorem d_C_resolveAway_0 : decode b_C_resolveAway 0 = .ok (.aload_n 0, 1) := by decide +kernel
theorem d_C_resolveAway_1 : decode b_C_resolveAway 1 = .ok (.invokevirtual 85, 3) := by decide +kernel
theorem d_C_resolveAway_4 : decode b_C_resolveAway 4 = .ok (.iconst 1, 1) := by decide +kernel
theorem d_C_resolveAway_5 : decode b_C_resolveAway 5 = .ok (.istore_n 2, 1) := by decide +kernel
theorem d_C_resolveAway_6 : decode b_C_resolveAway 6 = .ok (.iload_n 2, 1) := by decide +kernel
theorem d_C_resolveAway_7 : decode b_C_resolveAway 7 = .ok (.aload_n 0, 1) := by decide +kernel
theorem d_C_resolveAway_8 : decode b_C_resolveAway 8 = .ok (.getfield 37, 3) := by decide +kernel
theorem d_C_resolveAway_11 : decode b_C_resolveAway 11 = .ok (.if_icmp .gt 80, 3) := by decide +kernel
theorem d_C_resolveAway_14 : decode b_C_resolveAway 14 = .ok (.iconst 1, 1) := by decide +kernel
theorem d_C_resolveAway_15 : decode b_C_resolveAway 15 = .ok (.istore_n 3, 1) := by decide +kernel
theorem d_C_resolveAway_16 : decode b_C_resolveAway 16 = .ok (.iload_n 3, 1) := by decide +kernel
theorem d_C_resolveAway_17 : decode b_C_resolveAway 17 = .ok (.aload_n 0, 1) := by decide +kernel
theorem d_C_resolveAway_18 : decode b_C_resolveAway 18 = .ok (.getfield 37, 3) := by decide +kernel
theorem d_C_resolveAway_21 : decode b_C_resolveAway 21 = .ok (.if_icmp .gt 64, 3) := by decide +kernel
theorem d_C_resolveAway_24 : decode b_C_resolveAway 24 = .ok (.aload_n 0, 1) := by decide +kernel
theorem d_C_resolveAway_25 : decode b_C_resolveAway 25 = .ok (.getfield 30, 3) := by decide +kernel
theorem d_C_resolveAway_28 : decode b_C_resolveAway 28 = .ok (.iload_n 2, 1) := by decide +kernel
theorem d_C_resolveAway_29 : decode b_C_resolveAway 29 = .ok (.baload, 1) := by decide +kernel
theorem d_C_resolveAway_30 : decode b_C_resolveAway 30 = .ok (.ifCond .eq 49, 3) := by decide +kernel
theorem d_C_resolveAway_33 : decode b_C_resolveAway 33 = .ok (.aload_n 0, 1) := by decide +kernel
theorem d_C_resolveAway_34 : decode b_C_resolveAway 34 = .ok (.getfield 30, 3) := by decide +kernel
theorem d_C_resolveAway_37 : decode b_C_resolveAway 37 = .ok (.iload_n 3, 1) := by decide +kernel
theorem d_C_resolveAway_38 : decode b_C_resolveAway 38 = .ok (.baload, 1) := by decide +kernel
theorem d_C_resolveAway_39 : decode b_C_resolveAway 39 = .ok (.ifCond .eq 40, 3) := by decide +kernel
theorem d_C_resolveAway_42 : decode b_C_resolveAway 42 = .ok (.aload_n 0, 1) := by decide +kernel
theorem d_C_resolveAway_43 : decode b_C_resolveAway 43 = .ok (.iload_n 2, 1) := by decide +kernel
theorem d_C_resolveAway_44 : decode b_C_resolveAway 44 = .ok (.iload_n 3, 1) := by decide +kernel
theorem d_C_resolveAway_45 : decode b_C_resolveAway 45 = .ok (.iload_n 1, 1) := by decide +kernel
theorem d_C_resolveAway_46 : decode b_C_resolveAway 46 = .ok (.invokevirtual 88, 3) := by decide +kernel
theorem d_C_resolveAway_49 : decode b_C_resolveAway 49 = .ok (.ifCond .eq 30, 3) := by decide +kernel
theorem d_C_resolveAway_52 : decode b_C_resolveAway 52 = .ok (.aload_n 0, 1) := by decide +kernel
theorem d_C_resolveAway_53 : decode b_C_resolveAway 53 = .ok (.iload_n 2, 1) := by decide +kernel
theorem d_C_resolveAway_54 : decode b_C_resolveAway 54 = .ok (.iload_n 3, 1) := by decide +kernel
theorem d_C_resolveAway_55 : decode b_C_resolveAway 55 = .ok (.iload_n 1, 1) := by decide +kernel
theorem d_C_resolveAway_56 : decode b_C_resolveAway 56 = .ok (.invokevirtual 92, 3) := by decide +kernel
theorem d_C_resolveAway_59 : decode b_C_resolveAway 59 = .ok (.ifCond .eq 20, 3) := by decide +kernel
theorem d_C_resolveAway_62 : decode b_C_resolveAway 62 = .ok (.aload_n 0, 1) := by decide +kernel
theorem d_C_resolveAway_63 : decode b_C_resolveAway 63 = .ok (.invokevirtual 50, 3) := by decide +kernel
theorem d_C_resolveAway_66 : decode b_C_resolveAway 66 = .ok (.ifCond .ne 6, 3) := by decide +kernel
theorem d_C_resolveAway_69 : decode b_C_resolveAway 69 = .ok (.bipush (-3), 2) := by decide +kernel
theorem d_C_resolveAway_71 : decode b_C_resolveAway 71 = .ok (.ireturn, 1) := by decide +kernel
theorem d_C_resolveAway_72 : decode b_C_resolveAway 72 = .ok (.aload_n 0, 1) := by decide +kernel
theorem d_C_resolveAway_73 : decode b_C_resolveAway 73 = .ok (.iload_n 2, 1) := by decide +kernel
theorem d_C_resolveAway_74 : decode b_C_resolveAway 74 = .ok (.iload_n 3, 1) := by decide +kernel
theorem d_C_resolveAway_75 : decode b_C_resolveAway 75 = .ok (.iload_n 1, 1) := by decide +kernel
theorem d_C_resolveAway_76 : decode b_C_resolveAway 76 = .ok (.invokevirtual 95, 3) := by decide +kernel
theorem d_C_resolveAway_79 : decode b_C_resolveAway 79 = .ok (.iinc 3 1, 3) := by decide +kernel
theorem d_C_resolveAway_82 : decode b_C_resolveAway 82 = .ok (.goto (-66), 3) := by decide +kernel
theorem d_C_resolveAway_85 : decode b_C_resolveAway 85 = .ok (.iinc 2 1, 3) := by decide +kernel
theorem d_C_resolveAway_88 : decode b_C_resolveAway 88 = .ok (.goto (-82), 3) := by decide +kernel
theorem d_C_resolveAway_91 : decode b_C_resolveAway 91 = .ok (.aload_n 0, 1) := by decide +kernel
theorem d_C_resolveAway_92 : decode b_C_resolveAway 92 = .ok (.iload_n 1, 1) := by decide +kernel
theorem d_C_resolveAway_93 : decode b_C_resolveAway 93 = .ok (.invokevirtual 99, 3) := by decide +kernel
theorem d_C_resolveAway_96 : decode b_C_resolveAway 96 = .ok (.aload_n 0, 1) := by decide +kernel
theorem d_C_resolveAway_97 : decode b_C_resolveAway 97 = .ok (.invokevirtual 103, 3) := by decide +kernel
theorem d_C_resolveAway_100 : decode b_C_resolveAway 100 = .ok (.ireturn, 1) := by decide +kernel
theorem d_C_isNews_0 : decode b_C_isNews 0 = .ok (.aload_n 0, 1) := by decide +kernel
theorem d_C_isNews_1 : decode b_C_isNews 1 = .ok (.iload_n 1, 1) := by decide +kernel
theorem d_C_isNews_2 : decode b_C_isNews 2 = .ok (.iload_n 2, 1) := by decide +kernel
theorem d_C_isNews_3 : decode b_C_isNews 3 = .ok (.iload_n 3, 1) := by decide +kernel
theorem d_C_isNews_4 : decode b_C_isNews 4 = .ok (.invokevirtual 107, 3) := by decide +kernel
theorem d_C_isNews_7 : decode b_C_isNews 7 = .ok (.ifCond .eq 5, 3) := by decide +kernel
theorem d_C_isNews_10 : decode b_C_isNews 10 = .ok (.iconst 0, 1) := by decide +kernel
theorem d_C_isNews_11 : decode b_C_isNews 11 = .ok (.ireturn, 1) := by decide +kernel
theorem d_C_isNews_12 : decode b_C_isNews 12 = .ok (.aload_n 0, 1) := by decide +kernel
theorem d_C_isNews_13 : decode b_C_isNews 13 = .ok (.iload_n 1, 1) := by decide +kernel
theorem d_C_isNews_14 : decode b_C_isNews 14 = .ok (.iload_n 2, 1) := by decide +kernel
theorem d_C_isNews_15 : decode b_C_isNews 15 = .ok (.iload_n 3, 1) := by decide +kernel
theorem d_C_isNews_16 : decode b_C_isNews 16 = .ok (.invokevirtual 65, 3) := by decide +kernel
theorem d_C_isNews_19 : decode b_C_isNews 19 = .ok (.istore 4, 2) := by decide +kernel
theorem d_C_isNews_21 : decode b_C_isNews 21 = .ok (.aload_n 0, 1) := by decide +kernel
theorem d_C_isNews_22 : decode b_C_isNews 22 = .ok (.iload_n 1, 1) := by decide +kernel
theorem d_C_isNews_23 : decode b_C_isNews 23 = .ok (.iload_n 2, 1) := by decide +kernel
theorem d_C_isNews_24 : decode b_C_isNews 24 = .ok (.iload_n 3, 1) := by decide +kernel
theorem d_C_isNews_25 : decode b_C_isNews 25 = .ok (.invokevirtual 69, 3) := by decide +kernel
theorem d_C_isNews_28 : decode b_C_isNews 28 = .ok (.istore 5, 2) := by decide +kernel
theorem d_C_isNews_30 : decode b_C_isNews 30 = .ok (.iconst 1, 1) := by decide +kernel
theorem d_C_isNews_31 : decode b_C_isNews 31 = .ok (.istore 6, 2) := by decide +kernel
theorem d_C_isNews_33 : decode b_C_isNews 33 = .ok (.iload 6, 2) := by decide +kernel
theorem d_C_isNews_35 : decode b_C_isNews 35 = .ok (.aload_n 0, 1) := by decide +kernel
theorem d_C_isNews_36 : decode b_C_isNews 36 = .ok (.getfield 41, 3) := by decide +kernel
theorem d_C_isNews_39 : decode b_C_isNews 39 = .ok (.if_icmp .gt 35, 3) := by decide +kernel
theorem d_C_isNews_42 : decode b_C_isNews 42 = .ok (.aload_n 0, 1) := by decide +kernel
theorem d_C_isNews_43 : decode b_C_isNews 43 = .ok (.getfield 24, 3) := by decide +kernel
theorem d_C_isNews_46 : decode b_C_isNews 46 = .ok (.iload 6, 2) := by decide +kernel
theorem d_C_isNews_48 : decode b_C_isNews 48 = .ok (.iaload, 1) := by decide +kernel
theorem d_C_isNews_49 : decode b_C_isNews 49 = .ok (.iload 4, 2) := by decide +kernel
theorem d_C_isNews_51 : decode b_C_isNews 51 = .ok (.if_icmp .ne 17, 3) := by decide +kernel
theorem d_C_isNews_54 : decode b_C_isNews 54 = .ok (.aload_n 0, 1) := by decide +kernel
theorem d_C_isNews_55 : decode b_C_isNews 55 = .ok (.getfield 27, 3) := by decide +kernel
theorem d_C_isNews_58 : decode b_C_isNews 58 = .ok (.iload 6, 2) := by decide +kernel
theorem d_C_isNews_60 : decode b_C_isNews 60 = .ok (.iaload, 1) := by decide +kernel
theorem d_C_isNews_61 : decode b_C_isNews 61 = .ok (.iload 5, 2) := by decide +kernel
theorem d_C_isNews_63 : decode b_C_isNews 63 = .ok (.if_icmp .ne 5, 3) := by decide +kernel
theorem d_C_isNews_66 : decode b_C_isNews 66 = .ok (.iconst 0, 1) := by decide +kernel
theorem d_C_isNews_67 : decode b_C_isNews 67 = .ok (.ireturn, 1) := by decide +kernel
theorem d_C_isNews_68 : decode b_C_isNews 68 = .ok (.iinc 6 1, 3) := by decide +kernel
theorem d_C_isNews_71 : decode b_C_isNews 71 = .ok (.goto (-38), 3) := by decide +kernel
theorem d_C_isNews_74 : decode b_C_isNews 74 = .ok (.iconst 1, 1) := by decide +kernel
theorem d_C_isNews_75 : decode b_C_isNews 75 = .ok (.ireturn, 1) := by decide +kernel
theorem d_C_retire_0 : decode b_C_retire 0 = .ok (.iconst 1, 1) := by decide +kernel
theorem d_C_retire_1 : decode b_C_retire 1 = .ok (.istore_n 2, 1) := by decide +kernel
theorem d_C_retire_2 : decode b_C_retire 2 = .ok (.iload_n 2, 1) := by decide +kernel
theorem d_C_retire_3 : decode b_C_retire 3 = .ok (.aload_n 0, 1) := by decide +kernel
theorem d_C_retire_4 : decode b_C_retire 4 = .ok (.getfield 37, 3) := by decide +kernel
theorem d_C_retire_7 : decode b_C_retire 7 = .ok (.if_icmp .gt 37, 3) := by decide +kernel
theorem d_C_retire_10 : decode b_C_retire 10 = .ok (.aload_n 0, 1) := by decide +kernel
theorem d_C_retire_11 : decode b_C_retire 11 = .ok (.getfield 24, 3) := by decide +kernel
theorem d_C_retire_14 : decode b_C_retire 14 = .ok (.iload_n 2, 1) := by decide +kernel
theorem d_C_retire_15 : decode b_C_retire 15 = .ok (.iaload, 1) := by decide +kernel
theorem d_C_retire_16 : decode b_C_retire 16 = .ok (.aload_n 0, 1) := by decide +kernel
theorem d_C_retire_17 : decode b_C_retire 17 = .ok (.getfield 27, 3) := by decide +kernel
theorem d_C_retire_20 : decode b_C_retire 20 = .ok (.iload_n 2, 1) := by decide +kernel
theorem d_C_retire_21 : decode b_C_retire 21 = .ok (.iaload, 1) := by decide +kernel
theorem d_C_retire_22 : decode b_C_retire 22 = .ok (.ior, 1) := by decide +kernel
theorem d_C_retire_23 : decode b_C_retire 23 = .ok (.iload_n 1, 1) := by decide +kernel
theorem d_C_retire_24 : decode b_C_retire 24 = .ok (.invokestatic 81, 3) := by decide +kernel
theorem d_C_retire_27 : decode b_C_retire 27 = .ok (.iand, 1) := by decide +kernel
theorem d_C_retire_28 : decode b_C_retire 28 = .ok (.ifCond .eq 10, 3) := by decide +kernel
theorem d_C_retire_31 : decode b_C_retire 31 = .ok (.aload_n 0, 1) := by decide +kernel
theorem d_C_retire_32 : decode b_C_retire 32 = .ok (.getfield 30, 3) := by decide +kernel
theorem d_C_retire_35 : decode b_C_retire 35 = .ok (.iload_n 2, 1) := by decide +kernel
theorem d_C_retire_36 : decode b_C_retire 36 = .ok (.iconst 0, 1) := by decide +kernel
theorem d_C_retire_37 : decode b_C_retire 37 = .ok (.bastore, 1) := by decide +kernel
theorem d_C_retire_38 : decode b_C_retire 38 = .ok (.iinc 2 1, 3) := by decide +kernel
theorem d_C_retire_41 : decode b_C_retire 41 = .ok (.goto (-39), 3) := by decide +kernel
theorem d_C_retire_44 : decode b_C_retire 44 = .ok (.return_, 1) := by decide +kernel
theorem d_C_isGivenOf_0 : decode b_C_isGivenOf 0 = .ok (.aload_n 0, 1) := by decide +kernel
theorem d_C_isGivenOf_1 : decode b_C_isGivenOf 1 = .ok (.getfield 9, 3) := by decide +kernel
theorem d_C_isGivenOf_4 : decode b_C_isGivenOf 4 = .ok (.iload_n 1, 1) := by decide +kernel
theorem d_C_isGivenOf_5 : decode b_C_isGivenOf 5 = .ok (.iaload, 1) := by decide +kernel
theorem d_C_isGivenOf_6 : decode b_C_isGivenOf 6 = .ok (.ifCond .eq 27, 3) := by decide +kernel
theorem d_C_isGivenOf_9 : decode b_C_isGivenOf 9 = .ok (.aload_n 0, 1) := by decide +kernel
theorem d_C_isGivenOf_10 : decode b_C_isGivenOf 10 = .ok (.getfield 9, 3) := by decide +kernel
theorem d_C_isGivenOf_13 : decode b_C_isGivenOf 13 = .ok (.iload_n 1, 1) := by decide +kernel
theorem d_C_isGivenOf_14 : decode b_C_isGivenOf 14 = .ok (.iaload, 1) := by decide +kernel
theorem d_C_isGivenOf_15 : decode b_C_isGivenOf 15 = .ok (.iload_n 2, 1) := by decide +kernel
theorem d_C_isGivenOf_16 : decode b_C_isGivenOf 16 = .ok (.if_icmp .lt 17, 3) := by decide +kernel
theorem d_C_isGivenOf_19 : decode b_C_isGivenOf 19 = .ok (.aload_n 0, 1) := by decide +kernel
theorem d_C_isGivenOf_20 : decode b_C_isGivenOf 20 = .ok (.getfield 9, 3) := by decide +kernel
theorem d_C_isGivenOf_23 : decode b_C_isGivenOf 23 = .ok (.iload_n 1, 1) := by decide +kernel
theorem d_C_isGivenOf_24 : decode b_C_isGivenOf 24 = .ok (.iaload, 1) := by decide +kernel
theorem d_C_isGivenOf_25 : decode b_C_isGivenOf 25 = .ok (.iload_n 3, 1) := by decide +kernel
theorem d_C_isGivenOf_26 : decode b_C_isGivenOf 26 = .ok (.if_icmp .gt 7, 3) := by decide +kernel
theorem d_C_isGivenOf_29 : decode b_C_isGivenOf 29 = .ok (.iconst 1, 1) := by decide +kernel
theorem d_C_isGivenOf_30 : decode b_C_isGivenOf 30 = .ok (.goto 4, 3) := by decide +kernel
theorem d_C_isGivenOf_33 : decode b_C_isGivenOf 33 = .ok (.iconst 0, 1) := by decide +kernel
theorem d_C_isGivenOf_34 : decode b_C_isGivenOf 34 = .ok (.ireturn, 1) := by decide +kernel
theorem d_C_occurring_0 : decode b_C_occurring 0 = .ok (.iconst 0, 1) := by decide +kernel
theorem d_C_occurring_1 : decode b_C_occurring 1 = .ok (.istore_n 3, 1) := by decide +kernel
theorem d_C_occurring_2 : decode b_C_occurring 2 = .ok (.iconst 1, 1) := by decide +kernel
theorem d_C_occurring_3 : decode b_C_occurring 3 = .ok (.istore 4, 2) := by decide +kernel
theorem d_C_occurring_5 : decode b_C_occurring 5 = .ok (.iload 4, 2) := by decide +kernel
theorem d_C_occurring_7 : decode b_C_occurring 7 = .ok (.aload_n 0, 1) := by decide +kernel
theorem d_C_occurring_8 : decode b_C_occurring 8 = .ok (.getfield 37, 3) := by decide +kernel
theorem d_C_occurring_11 : decode b_C_occurring 11 = .ok (.if_icmp .gt 38, 3) := by decide +kernel
theorem d_C_occurring_14 : decode b_C_occurring 14 = .ok (.aload_n 0, 1) := by decide +kernel
theorem d_C_occurring_15 : decode b_C_occurring 15 = .ok (.iload 4, 2) := by decide +kernel
theorem d_C_occurring_17 : decode b_C_occurring 17 = .ok (.iload_n 1, 1) := by decide +kernel
theorem d_C_occurring_18 : decode b_C_occurring 18 = .ok (.iload_n 2, 1) := by decide +kernel
theorem d_C_occurring_19 : decode b_C_occurring 19 = .ok (.invokevirtual 110, 3) := by decide +kernel
theorem d_C_occurring_22 : decode b_C_occurring 22 = .ok (.ifCond .eq 21, 3) := by decide +kernel
theorem d_C_occurring_25 : decode b_C_occurring 25 = .ok (.iload_n 3, 1) := by decide +kernel
theorem d_C_occurring_26 : decode b_C_occurring 26 = .ok (.aload_n 0, 1) := by decide +kernel
theorem d_C_occurring_27 : decode b_C_occurring 27 = .ok (.getfield 24, 3) := by decide +kernel
theorem d_C_occurring_30 : decode b_C_occurring 30 = .ok (.iload 4, 2) := by decide +kernel
theorem d_C_occurring_32 : decode b_C_occurring 32 = .ok (.iaload, 1) := by decide +kernel
theorem d_C_occurring_33 : decode b_C_occurring 33 = .ok (.aload_n 0, 1) := by decide +kernel
theorem d_C_occurring_34 : decode b_C_occurring 34 = .ok (.getfield 27, 3) := by decide +kernel
theorem d_C_occurring_37 : decode b_C_occurring 37 = .ok (.iload 4, 2) := by decide +kernel
theorem d_C_occurring_39 : decode b_C_occurring 39 = .ok (.iaload, 1) := by decide +kernel
theorem d_C_occurring_40 : decode b_C_occurring 40 = .ok (.ior, 1) := by decide +kernel
theorem d_C_occurring_41 : decode b_C_occurring 41 = .ok (.ior, 1) := by decide +kernel
theorem d_C_occurring_42 : decode b_C_occurring 42 = .ok (.istore_n 3, 1) := by decide +kernel
theorem d_C_occurring_43 : decode b_C_occurring 43 = .ok (.iinc 4 1, 3) := by decide +kernel
theorem d_C_occurring_46 : decode b_C_occurring 46 = .ok (.goto (-41), 3) := by decide +kernel
theorem d_C_occurring_49 : decode b_C_occurring 49 = .ok (.iload_n 3, 1) := by decide +kernel
theorem d_C_occurring_50 : decode b_C_occurring 50 = .ok (.ireturn, 1) := by decide +kernel
theorem d_C_allTrue_0 : decode b_C_allTrue 0 = .ok (.ldc2_w 113, 3) := by decide +kernel
theorem d_C_allTrue_3 : decode b_C_allTrue 3 = .ok (.lstore 4, 2) := by decide +kernel
theorem d_C_allTrue_5 : decode b_C_allTrue 5 = .ok (.iconst 1, 1) := by decide +kernel
theorem d_C_allTrue_6 : decode b_C_allTrue 6 = .ok (.istore 6, 2) := by decide +kernel
theorem d_C_allTrue_8 : decode b_C_allTrue 8 = .ok (.iload 6, 2) := by decide +kernel
theorem d_C_allTrue_10 : decode b_C_allTrue 10 = .ok (.aload_n 0, 1) := by decide +kernel
theorem d_C_allTrue_11 : decode b_C_allTrue 11 = .ok (.getfield 37, 3) := by decide +kernel
theorem d_C_allTrue_14 : decode b_C_allTrue 14 = .ok (.if_icmp .gt 43, 3) := by decide +kernel
theorem d_C_allTrue_17 : decode b_C_allTrue 17 = .ok (.aload_n 0, 1) := by decide +kernel
theorem d_C_allTrue_18 : decode b_C_allTrue 18 = .ok (.iload 6, 2) := by decide +kernel
theorem d_C_allTrue_20 : decode b_C_allTrue 20 = .ok (.iload_n 1, 1) := by decide +kernel
theorem d_C_allTrue_21 : decode b_C_allTrue 21 = .ok (.iload_n 2, 1) := by decide +kernel
theorem d_C_allTrue_22 : decode b_C_allTrue 22 = .ok (.invokevirtual 110, 3) := by decide +kernel
theorem d_C_allTrue_25 : decode b_C_allTrue 25 = .ok (.ifCond .eq 26, 3) := by decide +kernel
theorem d_C_allTrue_28 : decode b_C_allTrue 28 = .ok (.lload 4, 2) := by decide +kernel
theorem d_C_allTrue_30 : decode b_C_allTrue 30 = .ok (.aload_n 0, 1) := by decide +kernel
theorem d_C_allTrue_31 : decode b_C_allTrue 31 = .ok (.getfield 24, 3) := by decide +kernel
theorem d_C_allTrue_34 : decode b_C_allTrue 34 = .ok (.iload 6, 2) := by decide +kernel
theorem d_C_allTrue_36 : decode b_C_allTrue 36 = .ok (.iaload, 1) := by decide +kernel
theorem d_C_allTrue_37 : decode b_C_allTrue 37 = .ok (.aload_n 0, 1) := by decide +kernel
theorem d_C_allTrue_38 : decode b_C_allTrue 38 = .ok (.getfield 27, 3) := by decide +kernel
theorem d_C_allTrue_41 : decode b_C_allTrue 41 = .ok (.iload 6, 2) := by decide +kernel
theorem d_C_allTrue_43 : decode b_C_allTrue 43 = .ok (.iaload, 1) := by decide +kernel
theorem d_C_allTrue_44 : decode b_C_allTrue 44 = .ok (.iload_n 3, 1) := by decide +kernel
theorem d_C_allTrue_45 : decode b_C_allTrue 45 = .ok (.invokestatic 115, 3) := by decide +kernel
theorem d_C_allTrue_48 : decode b_C_allTrue 48 = .ok (.land, 1) := by decide +kernel
theorem d_C_allTrue_49 : decode b_C_allTrue 49 = .ok (.lstore 4, 2) := by decide +kernel
theorem d_C_allTrue_51 : decode b_C_allTrue 51 = .ok (.iinc 6 1, 3) := by decide +kernel
theorem d_C_allTrue_54 : decode b_C_allTrue 54 = .ok (.goto (-46), 3) := by decide +kernel
theorem d_C_allTrue_57 : decode b_C_allTrue 57 = .ok (.lload 4, 2) := by decide +kernel
theorem d_C_allTrue_59 : decode b_C_allTrue 59 = .ok (.lreturn, 1) := by decide +kernel
theorem d_C_liveOnes_0 : decode b_C_liveOnes 0 = .ok (.iconst 0, 1) := by decide +kernel
theorem d_C_liveOnes_1 : decode b_C_liveOnes 1 = .ok (.istore_n 1, 1) := by decide +kernel
theorem d_C_liveOnes_2 : decode b_C_liveOnes 2 = .ok (.iconst 1, 1) := by decide +kernel
theorem d_C_liveOnes_3 : decode b_C_liveOnes 3 = .ok (.istore_n 2, 1) := by decide +kernel
theorem d_C_liveOnes_4 : decode b_C_liveOnes 4 = .ok (.iload_n 2, 1) := by decide +kernel
theorem d_C_liveOnes_5 : decode b_C_liveOnes 5 = .ok (.aload_n 0, 1) := by decide +kernel
theorem d_C_liveOnes_6 : decode b_C_liveOnes 6 = .ok (.getfield 37, 3) := by decide +kernel
theorem d_C_liveOnes_9 : decode b_C_liveOnes 9 = .ok (.if_icmp .gt 26, 3) := by decide +kernel
theorem d_C_liveOnes_12 : decode b_C_liveOnes 12 = .ok (.iload_n 1, 1) := by decide +kernel
theorem d_C_liveOnes_13 : decode b_C_liveOnes 13 = .ok (.aload_n 0, 1) := by decide +kernel
theorem d_C_liveOnes_14 : decode b_C_liveOnes 14 = .ok (.getfield 30, 3) := by decide +kernel
theorem d_C_liveOnes_17 : decode b_C_liveOnes 17 = .ok (.iload_n 2, 1) := by decide +kernel
theorem d_C_liveOnes_18 : decode b_C_liveOnes 18 = .ok (.baload, 1) := by decide +kernel
theorem d_C_liveOnes_19 : decode b_C_liveOnes 19 = .ok (.ifCond .eq 7, 3) := by decide +kernel
theorem d_C_liveOnes_22 : decode b_C_liveOnes 22 = .ok (.iconst 1, 1) := by decide +kernel
theorem d_C_liveOnes_23 : decode b_C_liveOnes 23 = .ok (.goto 4, 3) := by decide +kernel
theorem d_C_liveOnes_26 : decode b_C_liveOnes 26 = .ok (.iconst 0, 1) := by decide +kernel
theorem d_C_liveOnes_27 : decode b_C_liveOnes 27 = .ok (.iadd, 1) := by decide +kernel
theorem d_C_liveOnes_28 : decode b_C_liveOnes 28 = .ok (.istore_n 1, 1) := by decide +kernel
theorem d_C_liveOnes_29 : decode b_C_liveOnes 29 = .ok (.iinc 2 1, 3) := by decide +kernel
theorem d_C_liveOnes_32 : decode b_C_liveOnes 32 = .ok (.goto (-28), 3) := by decide +kernel
theorem d_C_liveOnes_35 : decode b_C_liveOnes 35 = .ok (.iload_n 1, 1) := by decide +kernel
theorem d_C_liveOnes_36 : decode b_C_liveOnes 36 = .ok (.ireturn, 1) := by decide +kernel
theorem d_C_neededOnes_0 : decode b_C_neededOnes 0 = .ok (.iconst 0, 1) := by decide +kernel
theorem d_C_neededOnes_1 : decode b_C_neededOnes 1 = .ok (.istore_n 1, 1) := by decide +kernel
theorem d_C_neededOnes_2 : decode b_C_neededOnes 2 = .ok (.iconst 1, 1) := by decide +kernel
theorem d_C_neededOnes_3 : decode b_C_neededOnes 3 = .ok (.istore_n 2, 1) := by decide +kernel
theorem d_C_neededOnes_4 : decode b_C_neededOnes 4 = .ok (.iload_n 2, 1) := by decide +kernel
theorem d_C_neededOnes_5 : decode b_C_neededOnes 5 = .ok (.aload_n 0, 1) := by decide +kernel
theorem d_C_neededOnes_6 : decode b_C_neededOnes 6 = .ok (.getfield 78, 3) := by decide +kernel
theorem d_C_neededOnes_9 : decode b_C_neededOnes 9 = .ok (.if_icmp .gt 26, 3) := by decide +kernel
theorem d_C_neededOnes_12 : decode b_C_neededOnes 12 = .ok (.iload_n 1, 1) := by decide +kernel
theorem d_C_neededOnes_13 : decode b_C_neededOnes 13 = .ok (.aload_n 0, 1) := by decide +kernel
theorem d_C_neededOnes_14 : decode b_C_neededOnes 14 = .ok (.getfield 34, 3) := by decide +kernel
theorem d_C_neededOnes_17 : decode b_C_neededOnes 17 = .ok (.iload_n 2, 1) := by decide +kernel
theorem d_C_neededOnes_18 : decode b_C_neededOnes 18 = .ok (.baload, 1) := by decide +kernel
theorem d_C_neededOnes_19 : decode b_C_neededOnes 19 = .ok (.ifCond .eq 7, 3) := by decide +kernel
theorem d_C_neededOnes_22 : decode b_C_neededOnes 22 = .ok (.iconst 1, 1) := by decide +kernel
theorem d_C_neededOnes_23 : decode b_C_neededOnes 23 = .ok (.goto 4, 3) := by decide +kernel
theorem d_C_neededOnes_26 : decode b_C_neededOnes 26 = .ok (.iconst 0, 1) := by decide +kernel
theorem d_C_neededOnes_27 : decode b_C_neededOnes 27 = .ok (.iadd, 1) := by decide +kernel
theorem d_C_neededOnes_28 : decode b_C_neededOnes 28 = .ok (.istore_n 1, 1) := by decide +kernel
theorem d_C_neededOnes_29 : decode b_C_neededOnes 29 = .ok (.iinc 2 1, 3) := by decide +kernel
theorem d_C_neededOnes_32 : decode b_C_neededOnes 32 = .ok (.goto (-28), 3) := by decide +kernel
theorem d_C_neededOnes_35 : decode b_C_neededOnes 35 = .ok (.iload_n 1, 1) := by decide +kernel
theorem d_C_neededOnes_36 : decode b_C_neededOnes 36 = .ok (.ireturn, 1) := by decide +kernel
theorem d_L_init_0 : decode b_L_init 0 = .ok (.aload_n 0, 1) := by decide +kernel
theorem d_L_init_1 : decode b_L_init 1 = .ok (.invokespecial 3, 3) := by decide +kernel
theorem d_L_init_4 : decode b_L_init 4 = .ok (.aload_n 0, 1) := by decide +kernel
theorem d_L_init_5 : decode b_L_init 5 = .ok (.bipush 11, 2) := by decide +kernel
theorem d_L_init_7 : decode b_L_init 7 = .ok (.newarray .int, 2) := by decide +kernel
theorem d_L_init_9 : decode b_L_init 9 = .ok (.putfield 9, 3) := by decide +kernel
theorem d_L_init_12 : decode b_L_init 12 = .ok (.aload_n 0, 1) := by decide +kernel
theorem d_L_init_13 : decode b_L_init 13 = .ok (.getfield 9, 3) := by decide +kernel
theorem d_L_init_16 : decode b_L_init 16 = .ok (.iconst 2, 1) := by decide +kernel
theorem d_L_init_17 : decode b_L_init 17 = .ok (.invokestatic 15, 3) := by decide +kernel
theorem d_L_init_20 : decode b_L_init 20 = .ok (.return_, 1) := by decide +kernel
theorem d_L_reset_0 : decode b_L_reset 0 = .ok (.aload_n 0, 1) := by decide +kernel
theorem d_L_reset_1 : decode b_L_reset 1 = .ok (.getfield 9, 3) := by decide +kernel
theorem d_L_reset_4 : decode b_L_reset 4 = .ok (.iconst 2, 1) := by decide +kernel
theorem d_L_reset_5 : decode b_L_reset 5 = .ok (.invokestatic 15, 3) := by decide +kernel
theorem d_L_reset_8 : decode b_L_reset 8 = .ok (.return_, 1) := by decide +kernel
theorem d_L_exchange_0 : decode b_L_exchange 0 = .ok (.aload_n 0, 1) := by decide +kernel
theorem d_L_exchange_1 : decode b_L_exchange 1 = .ok (.getfield 9, 3) := by decide +kernel
theorem d_L_exchange_4 : decode b_L_exchange 4 = .ok (.iload_n 1, 1) := by decide +kernel
theorem d_L_exchange_5 : decode b_L_exchange 5 = .ok (.iaload, 1) := by decide +kernel
theorem d_L_exchange_6 : decode b_L_exchange 6 = .ok (.istore_n 3, 1) := by decide +kernel
theorem d_L_exchange_7 : decode b_L_exchange 7 = .ok (.aload_n 0, 1) := by decide +kernel
theorem d_L_exchange_8 : decode b_L_exchange 8 = .ok (.getfield 9, 3) := by decide +kernel
theorem d_L_exchange_11 : decode b_L_exchange 11 = .ok (.iload_n 1, 1) := by decide +kernel
theorem d_L_exchange_12 : decode b_L_exchange 12 = .ok (.iload_n 2, 1) := by decide +kernel
theorem d_L_exchange_13 : decode b_L_exchange 13 = .ok (.iastore, 1) := by decide +kernel
theorem d_L_exchange_14 : decode b_L_exchange 14 = .ok (.iload_n 3, 1) := by decide +kernel
theorem d_L_exchange_15 : decode b_L_exchange 15 = .ok (.ireturn, 1) := by decide +kernel
theorem d_L_having_0 : decode b_L_having 0 = .ok (.iconst 0, 1) := by decide +kernel
theorem d_L_having_1 : decode b_L_having 1 = .ok (.istore_n 2, 1) := by decide +kernel
theorem d_L_having_2 : decode b_L_having 2 = .ok (.iconst 1, 1) := by decide +kernel
theorem d_L_having_3 : decode b_L_having 3 = .ok (.istore_n 3, 1) := by decide +kernel
theorem d_L_having_4 : decode b_L_having 4 = .ok (.iload_n 3, 1) := by decide +kernel
theorem d_L_having_5 : decode b_L_having 5 = .ok (.bipush 10, 2) := by decide +kernel
theorem d_L_having_7 : decode b_L_having 7 = .ok (.if_icmp .gt 26, 3) := by decide +kernel
theorem d_L_having_10 : decode b_L_having 10 = .ok (.aload_n 0, 1) := by decide +kernel
theorem d_L_having_11 : decode b_L_having 11 = .ok (.getfield 9, 3) := by decide +kernel
theorem d_L_having_14 : decode b_L_having 14 = .ok (.iload_n 3, 1) := by decide +kernel
theorem d_L_having_15 : decode b_L_having 15 = .ok (.iaload, 1) := by decide +kernel
theorem d_L_having_16 : decode b_L_having 16 = .ok (.iload_n 1, 1) := by decide +kernel
theorem d_L_having_17 : decode b_L_having 17 = .ok (.if_icmp .ne 10, 3) := by decide +kernel
theorem d_L_having_20 : decode b_L_having 20 = .ok (.iload_n 2, 1) := by decide +kernel
theorem d_L_having_21 : decode b_L_having 21 = .ok (.iload_n 3, 1) := by decide +kernel
theorem d_L_having_22 : decode b_L_having 22 = .ok (.invokestatic 21, 3) := by decide +kernel
theorem d_L_having_25 : decode b_L_having 25 = .ok (.ior, 1) := by decide +kernel
theorem d_L_having_26 : decode b_L_having 26 = .ok (.istore_n 2, 1) := by decide +kernel
theorem d_L_having_27 : decode b_L_having 27 = .ok (.iinc 3 1, 3) := by decide +kernel
theorem d_L_having_30 : decode b_L_having 30 = .ok (.goto (-26), 3) := by decide +kernel
theorem d_L_having_33 : decode b_L_having 33 = .ok (.iload_n 2, 1) := by decide +kernel
theorem d_L_having_34 : decode b_L_having 34 = .ok (.ireturn, 1) := by decide +kernel
theorem d_T_init_0 : decode b_T_init 0 = .ok (.aload_n 0, 1) := by decide +kernel
theorem d_T_init_1 : decode b_T_init 1 = .ok (.invokespecial 3, 3) := by decide +kernel
theorem d_T_init_4 : decode b_T_init 4 = .ok (.aload_n 0, 1) := by decide +kernel
theorem d_T_init_5 : decode b_T_init 5 = .ok (.sipush 2000, 3) := by decide +kernel
theorem d_T_init_8 : decode b_T_init 8 = .ok (.newarray .byte, 2) := by decide +kernel
theorem d_T_init_10 : decode b_T_init 10 = .ok (.putfield 9, 3) := by decide +kernel
theorem d_T_init_13 : decode b_T_init 13 = .ok (.return_, 1) := by decide +kernel
theorem d_T_append_0 : decode b_T_append 0 = .ok (.bipush 24, 2) := by decide +kernel
theorem d_T_append_2 : decode b_T_append 2 = .ok (.istore_n 2, 1) := by decide +kernel
theorem d_T_append_3 : decode b_T_append 3 = .ok (.iload_n 2, 1) := by decide +kernel
theorem d_T_append_4 : decode b_T_append 4 = .ok (.ifCond .lt 49, 3) := by decide +kernel
theorem d_T_append_7 : decode b_T_append 7 = .ok (.aload_n 0, 1) := by decide +kernel
theorem d_T_append_8 : decode b_T_append 8 = .ok (.getfield 15, 3) := by decide +kernel
theorem d_T_append_11 : decode b_T_append 11 = .ok (.ifCond .lt 36, 3) := by decide +kernel
theorem d_T_append_14 : decode b_T_append 14 = .ok (.aload_n 0, 1) := by decide +kernel
theorem d_T_append_15 : decode b_T_append 15 = .ok (.getfield 15, 3) := by decide +kernel
theorem d_T_append_18 : decode b_T_append 18 = .ok (.sipush 2000, 3) := by decide +kernel
theorem d_T_append_21 : decode b_T_append 21 = .ok (.if_icmp .ge 26, 3) := by decide +kernel
theorem d_T_append_24 : decode b_T_append 24 = .ok (.aload_n 0, 1) := by decide +kernel
theorem d_T_append_25 : decode b_T_append 25 = .ok (.getfield 9, 3) := by decide +kernel
theorem d_T_append_28 : decode b_T_append 28 = .ok (.aload_n 0, 1) := by decide +kernel
theorem d_T_append_29 : decode b_T_append 29 = .ok (.getfield 15, 3) := by decide +kernel
theorem d_T_append_32 : decode b_T_append 32 = .ok (.iload_n 1, 1) := by decide +kernel
theorem d_T_append_33 : decode b_T_append 33 = .ok (.iload_n 2, 1) := by decide +kernel
theorem d_T_append_34 : decode b_T_append 34 = .ok (.iushr, 1) := by decide +kernel
theorem d_T_append_35 : decode b_T_append 35 = .ok (.i2b, 1) := by decide +kernel
theorem d_T_append_36 : decode b_T_append 36 = .ok (.bastore, 1) := by decide +kernel
theorem d_T_append_37 : decode b_T_append 37 = .ok (.aload_n 0, 1) := by decide +kernel
theorem d_T_append_38 : decode b_T_append 38 = .ok (.dup, 1) := by decide +kernel
theorem d_T_append_39 : decode b_T_append 39 = .ok (.getfield 15, 3) := by decide +kernel
theorem d_T_append_42 : decode b_T_append 42 = .ok (.iconst 1, 1) := by decide +kernel
theorem d_T_append_43 : decode b_T_append 43 = .ok (.iadd, 1) := by decide +kernel
theorem d_T_append_44 : decode b_T_append 44 = .ok (.putfield 15, 3) := by decide +kernel
theorem d_T_append_47 : decode b_T_append 47 = .ok (.iinc 2 (-8), 3) := by decide +kernel
theorem d_T_append_50 : decode b_T_append 50 = .ok (.goto (-47), 3) := by decide +kernel
theorem d_T_append_53 : decode b_T_append 53 = .ok (.return_, 1) := by decide +kernel
theorem d_T_byteAt_0 : decode b_T_byteAt 0 = .ok (.iload_n 1, 1) := by decide +kernel
theorem d_T_byteAt_1 : decode b_T_byteAt 1 = .ok (.ifCond .lt 31, 3) := by decide +kernel
theorem d_T_byteAt_4 : decode b_T_byteAt 4 = .ok (.iload_n 1, 1) := by decide +kernel
theorem d_T_byteAt_5 : decode b_T_byteAt 5 = .ok (.aload_n 0, 1) := by decide +kernel
theorem d_T_byteAt_6 : decode b_T_byteAt 6 = .ok (.getfield 15, 3) := by decide +kernel
theorem d_T_byteAt_9 : decode b_T_byteAt 9 = .ok (.if_icmp .ge 23, 3) := by decide +kernel
theorem d_T_byteAt_12 : decode b_T_byteAt 12 = .ok (.iload_n 1, 1) := by decide +kernel
theorem d_T_byteAt_13 : decode b_T_byteAt 13 = .ok (.sipush 2000, 3) := by decide +kernel
theorem d_T_byteAt_16 : decode b_T_byteAt 16 = .ok (.if_icmp .ge 16, 3) := by decide +kernel
theorem d_T_byteAt_19 : decode b_T_byteAt 19 = .ok (.aload_n 0, 1) := by decide +kernel
theorem d_T_byteAt_20 : decode b_T_byteAt 20 = .ok (.getfield 9, 3) := by decide +kernel
theorem d_T_byteAt_23 : decode b_T_byteAt 23 = .ok (.iload_n 1, 1) := by decide +kernel
theorem d_T_byteAt_24 : decode b_T_byteAt 24 = .ok (.baload, 1) := by decide +kernel
theorem d_T_byteAt_25 : decode b_T_byteAt 25 = .ok (.sipush 255, 3) := by decide +kernel
theorem d_T_byteAt_28 : decode b_T_byteAt 28 = .ok (.iand, 1) := by decide +kernel
theorem d_T_byteAt_29 : decode b_T_byteAt 29 = .ok (.goto 4, 3) := by decide +kernel
theorem d_T_byteAt_32 : decode b_T_byteAt 32 = .ok (.iconst (-1), 1) := by decide +kernel
theorem d_T_byteAt_33 : decode b_T_byteAt 33 = .ok (.ireturn, 1) := by decide +kernel
theorem d_U_ofVariable_0 : decode b_U_ofVariable 0 = .ok (.iload_n 0, 1) := by decide +kernel
theorem d_U_ofVariable_1 : decode b_U_ofVariable 1 = .ok (.iconst 1, 1) := by decide +kernel
theorem d_U_ofVariable_2 : decode b_U_ofVariable 2 = .ok (.if_icmp .lt 17, 3) := by decide +kernel
theorem d_U_ofVariable_5 : decode b_U_ofVariable 5 = .ok (.iload_n 0, 1) := by decide +kernel
theorem d_U_ofVariable_6 : decode b_U_ofVariable 6 = .ok (.bipush 6, 2) := by decide +kernel
theorem d_U_ofVariable_8 : decode b_U_ofVariable 8 = .ok (.if_icmp .gt 11, 3) := by decide +kernel
theorem d_U_ofVariable_11 : decode b_U_ofVariable 11 = .ok (.getstatic 11, 3) := by decide +kernel
theorem d_U_ofVariable_14 : decode b_U_ofVariable 14 = .ok (.iload_n 0, 1) := by decide +kernel
theorem d_U_ofVariable_15 : decode b_U_ofVariable 15 = .ok (.iconst 1, 1) := by decide +kernel
theorem d_U_ofVariable_16 : decode b_U_ofVariable 16 = .ok (.isub, 1) := by decide +kernel
theorem d_U_ofVariable_17 : decode b_U_ofVariable 17 = .ok (.laload, 1) := by decide +kernel
theorem d_U_ofVariable_18 : decode b_U_ofVariable 18 = .ok (.lreturn, 1) := by decide +kernel
theorem d_U_ofVariable_19 : decode b_U_ofVariable 19 = .ok (.iload_n 1, 1) := by decide +kernel
theorem d_U_ofVariable_20 : decode b_U_ofVariable 20 = .ok (.iload_n 0, 1) := by decide +kernel
theorem d_U_ofVariable_21 : decode b_U_ofVariable 21 = .ok (.iconst 1, 1) := by decide +kernel
theorem d_U_ofVariable_22 : decode b_U_ofVariable 22 = .ok (.isub, 1) := by decide +kernel
theorem d_U_ofVariable_23 : decode b_U_ofVariable 23 = .ok (.bipush 6, 2) := by decide +kernel
theorem d_U_ofVariable_25 : decode b_U_ofVariable 25 = .ok (.isub, 1) := by decide +kernel
theorem d_U_ofVariable_26 : decode b_U_ofVariable 26 = .ok (.ishr, 1) := by decide +kernel
theorem d_U_ofVariable_27 : decode b_U_ofVariable 27 = .ok (.iconst 1, 1) := by decide +kernel
theorem d_U_ofVariable_28 : decode b_U_ofVariable 28 = .ok (.iand, 1) := by decide +kernel
theorem d_U_ofVariable_29 : decode b_U_ofVariable 29 = .ok (.ifCond .ne 7, 3) := by decide +kernel
theorem d_U_ofVariable_32 : decode b_U_ofVariable 32 = .ok (.lconst 0, 1) := by decide +kernel
theorem d_U_ofVariable_33 : decode b_U_ofVariable 33 = .ok (.goto 6, 3) := by decide +kernel
theorem d_U_ofVariable_36 : decode b_U_ofVariable 36 = .ok (.ldc2_w 15, 3) := by decide +kernel
theorem d_U_ofVariable_39 : decode b_U_ofVariable 39 = .ok (.lreturn, 1) := by decide +kernel
theorem d_U_ofAny_0 : decode b_U_ofAny 0 = .ok (.lconst 0, 1) := by decide +kernel
theorem d_U_ofAny_1 : decode b_U_ofAny 1 = .ok (.lstore_n 3, 1) := by decide +kernel
theorem d_U_ofAny_2 : decode b_U_ofAny 2 = .ok (.iconst 1, 1) := by decide +kernel
theorem d_U_ofAny_3 : decode b_U_ofAny 3 = .ok (.istore 5, 2) := by decide +kernel
theorem d_U_ofAny_5 : decode b_U_ofAny 5 = .ok (.iload 5, 2) := by decide +kernel
theorem d_U_ofAny_7 : decode b_U_ofAny 7 = .ok (.bipush 10, 2) := by decide +kernel
theorem d_U_ofAny_9 : decode b_U_ofAny 9 = .ok (.if_icmp .gt 51, 3) := by decide +kernel
theorem d_U_ofAny_12 : decode b_U_ofAny 12 = .ok (.iload_n 0, 1) := by decide +kernel
theorem d_U_ofAny_13 : decode b_U_ofAny 13 = .ok (.iload 5, 2) := by decide +kernel
theorem d_U_ofAny_15 : decode b_U_ofAny 15 = .ok (.invokestatic 17, 3) := by decide +kernel
theorem d_U_ofAny_18 : decode b_U_ofAny 18 = .ok (.iand, 1) := by decide +kernel
theorem d_U_ofAny_19 : decode b_U_ofAny 19 = .ok (.ifCond .eq 12, 3) := by decide +kernel
theorem d_U_ofAny_22 : decode b_U_ofAny 22 = .ok (.lload_n 3, 1) := by decide +kernel
theorem d_U_ofAny_23 : decode b_U_ofAny 23 = .ok (.iload 5, 2) := by decide +kernel
theorem d_U_ofAny_25 : decode b_U_ofAny 25 = .ok (.iload_n 2, 1) := by decide +kernel
theorem d_U_ofAny_26 : decode b_U_ofAny 26 = .ok (.invokestatic 21, 3) := by decide +kernel
theorem d_U_ofAny_29 : decode b_U_ofAny 29 = .ok (.lor, 1) := by decide +kernel
theorem d_U_ofAny_30 : decode b_U_ofAny 30 = .ok (.lstore_n 3, 1) := by decide +kernel
theorem d_U_ofAny_31 : decode b_U_ofAny 31 = .ok (.iload_n 1, 1) := by decide +kernel
theorem d_U_ofAny_32 : decode b_U_ofAny 32 = .ok (.iload 5, 2) := by decide +kernel
theorem d_U_ofAny_34 : decode b_U_ofAny 34 = .ok (.invokestatic 17, 3) := by decide +kernel
theorem d_U_ofAny_37 : decode b_U_ofAny 37 = .ok (.iand, 1) := by decide +kernel
theorem d_U_ofAny_38 : decode b_U_ofAny 38 = .ok (.ifCond .eq 16, 3) := by decide +kernel
theorem d_U_ofAny_41 : decode b_U_ofAny 41 = .ok (.lload_n 3, 1) := by decide +kernel
theorem d_U_ofAny_42 : decode b_U_ofAny 42 = .ok (.iload 5, 2) := by decide +kernel
theorem d_U_ofAny_44 : decode b_U_ofAny 44 = .ok (.iload_n 2, 1) := by decide +kernel
theorem d_U_ofAny_45 : decode b_U_ofAny 45 = .ok (.invokestatic 21, 3) := by decide +kernel
theorem d_U_ofAny_48 : decode b_U_ofAny 48 = .ok (.ldc2_w 15, 3) := by decide +kernel
theorem d_U_ofAny_51 : decode b_U_ofAny 51 = .ok (.lxor, 1) := by decide +kernel
theorem d_U_ofAny_52 : decode b_U_ofAny 52 = .ok (.lor, 1) := by decide +kernel
theorem d_U_ofAny_53 : decode b_U_ofAny 53 = .ok (.lstore_n 3, 1) := by decide +kernel
theorem d_U_ofAny_54 : decode b_U_ofAny 54 = .ok (.iinc 5 1, 3) := by decide +kernel
theorem d_U_ofAny_57 : decode b_U_ofAny 57 = .ok (.goto (-52), 3) := by decide +kernel
theorem d_U_ofAny_60 : decode b_U_ofAny 60 = .ok (.lload_n 3, 1) := by decide +kernel
theorem d_U_ofAny_61 : decode b_U_ofAny 61 = .ok (.lreturn, 1) := by decide +kernel
