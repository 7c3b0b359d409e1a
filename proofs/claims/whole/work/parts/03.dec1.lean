theorem dX0_init_0 : decode cX0_init 0 = .ok (.aload_n 0, 1) := by decide +kernel
theorem dX0_init_1 : decode cX0_init 1 = .ok (.invokespecial 3, 3) := by decide +kernel
theorem dX0_init_4 : decode cX0_init 4 = .ok (.aload_n 0, 1) := by decide +kernel
theorem dX0_init_5 : decode cX0_init 5 = .ok (.bipush 24, 2) := by decide +kernel
theorem dX0_init_7 : decode cX0_init 7 = .ok (.newarray .int, 2) := by decide +kernel
theorem dX0_init_9 : decode cX0_init 9 = .ok (.putfield 9, 3) := by decide +kernel
theorem dX0_init_12 : decode cX0_init 12 = .ok (.aload_n 0, 1) := by decide +kernel
theorem dX0_init_13 : decode cX0_init 13 = .ok (.new 15, 3) := by decide +kernel
theorem dX0_init_16 : decode cX0_init 16 = .ok (.dup, 1) := by decide +kernel
theorem dX0_init_17 : decode cX0_init 17 = .ok (.bipush 24, 2) := by decide +kernel
theorem dX0_init_19 : decode cX0_init 19 = .ok (.invokespecial 17, 3) := by decide +kernel
theorem dX0_init_22 : decode cX0_init 22 = .ok (.putfield 20, 3) := by decide +kernel
theorem dX0_init_25 : decode cX0_init 25 = .ok (.aload_n 0, 1) := by decide +kernel
theorem dX0_init_26 : decode cX0_init 26 = .ok (.bipush (-4), 2) := by decide +kernel
theorem dX0_init_28 : decode cX0_init 28 = .ok (.putfield 24, 3) := by decide +kernel
theorem dX0_init_31 : decode cX0_init 31 = .ok (.aload_n 0, 1) := by decide +kernel
theorem dX0_init_32 : decode cX0_init 32 = .ok (.new 15, 3) := by decide +kernel
theorem dX0_init_35 : decode cX0_init 35 = .ok (.dup, 1) := by decide +kernel
theorem dX0_init_36 : decode cX0_init 36 = .ok (.bipush 60, 2) := by decide +kernel
theorem dX0_init_38 : decode cX0_init 38 = .ok (.invokespecial 17, 3) := by decide +kernel
theorem dX0_init_41 : decode cX0_init 41 = .ok (.putfield 28, 3) := by decide +kernel
theorem dX0_init_44 : decode cX0_init 44 = .ok (.return_, 1) := by decide +kernel
theorem dX0_waiting_0 : decode cX0_waiting 0 = .ok (.aload_n 0, 1) := by decide +kernel
theorem dX0_waiting_1 : decode cX0_waiting 1 = .ok (.getfield 31, 3) := by decide +kernel
theorem dX0_waiting_4 : decode cX0_waiting 4 = .ok (.aload_n 0, 1) := by decide +kernel
theorem dX0_waiting_5 : decode cX0_waiting 5 = .ok (.getfield 34, 3) := by decide +kernel
theorem dX0_waiting_8 : decode cX0_waiting 8 = .ok (.isub, 1) := by decide +kernel
theorem dX0_waiting_9 : decode cX0_waiting 9 = .ok (.ireturn, 1) := by decide +kernel
theorem dX0_unacked_0 : decode cX0_unacked 0 = .ok (.aload_n 0, 1) := by decide +kernel
theorem dX0_unacked_1 : decode cX0_unacked 1 = .ok (.getfield 34, 3) := by decide +kernel
theorem dX0_unacked_4 : decode cX0_unacked 4 = .ok (.aload_n 0, 1) := by decide +kernel
theorem dX0_unacked_5 : decode cX0_unacked 5 = .ok (.getfield 37, 3) := by decide +kernel
theorem dX0_unacked_8 : decode cX0_unacked 8 = .ok (.isub, 1) := by decide +kernel
theorem dX0_unacked_9 : decode cX0_unacked 9 = .ok (.ireturn, 1) := by decide +kernel
theorem dX0_nextNumber_0 : decode cX0_nextNumber 0 = .ok (.aload_n 0, 1) := by decide +kernel
theorem dX0_nextNumber_1 : decode cX0_nextNumber 1 = .ok (.getfield 34, 3) := by decide +kernel
theorem dX0_nextNumber_4 : decode cX0_nextNumber 4 = .ok (.invokestatic 40, 3) := by decide +kernel
theorem dX0_nextNumber_7 : decode cX0_nextNumber 7 = .ok (.ireturn, 1) := by decide +kernel
theorem dX0_ackedNumber_0 : decode cX0_ackedNumber 0 = .ok (.aload_n 0, 1) := by decide +kernel
theorem dX0_ackedNumber_1 : decode cX0_ackedNumber 1 = .ok (.getfield 37, 3) := by decide +kernel
theorem dX0_ackedNumber_4 : decode cX0_ackedNumber 4 = .ok (.iconst 1, 1) := by decide +kernel
theorem dX0_ackedNumber_5 : decode cX0_ackedNumber 5 = .ok (.isub, 1) := by decide +kernel
theorem dX0_ackedNumber_6 : decode cX0_ackedNumber 6 = .ok (.invokestatic 40, 3) := by decide +kernel
theorem dX0_ackedNumber_9 : decode cX0_ackedNumber 9 = .ok (.ireturn, 1) := by decide +kernel
theorem dX0_keptUp_0 : decode cX0_keptUp 0 = .ok (.aload_n 0, 1) := by decide +kernel
theorem dX0_keptUp_1 : decode cX0_keptUp 1 = .ok (.getfield 44, 3) := by decide +kernel
theorem dX0_keptUp_4 : decode cX0_keptUp 4 = .ok (.bipush 60, 2) := by decide +kernel
theorem dX0_keptUp_6 : decode cX0_keptUp 6 = .ok (.invokestatic 47, 3) := by decide +kernel
theorem dX0_keptUp_9 : decode cX0_keptUp 9 = .ok (.ireturn, 1) := by decide +kernel
theorem dX0_addToDraft_0 : decode cX0_addToDraft 0 = .ok (.iconst 0, 1) := by decide +kernel
theorem dX0_addToDraft_1 : decode cX0_addToDraft 1 = .ok (.istore 4, 2) := by decide +kernel
theorem dX0_addToDraft_3 : decode cX0_addToDraft 3 = .ok (.iload 4, 2) := by decide +kernel
theorem dX0_addToDraft_5 : decode cX0_addToDraft 5 = .ok (.iload_n 1, 1) := by decide +kernel
theorem dX0_addToDraft_6 : decode cX0_addToDraft 6 = .ok (.if_icmp .ge 33, 3) := by decide +kernel
theorem dX0_addToDraft_9 : decode cX0_addToDraft 9 = .ok (.aload_n 0, 1) := by decide +kernel
theorem dX0_addToDraft_10 : decode cX0_addToDraft 10 = .ok (.getfield 9, 3) := by decide +kernel
theorem dX0_addToDraft_13 : decode cX0_addToDraft 13 = .ok (.aload_n 0, 1) := by decide +kernel
theorem dX0_addToDraft_14 : decode cX0_addToDraft 14 = .ok (.getfield 53, 3) := by decide +kernel
theorem dX0_addToDraft_17 : decode cX0_addToDraft 17 = .ok (.iload 4, 2) := by decide +kernel
theorem dX0_addToDraft_19 : decode cX0_addToDraft 19 = .ok (.iadd, 1) := by decide +kernel
theorem dX0_addToDraft_20 : decode cX0_addToDraft 20 = .ok (.lload_n 2, 1) := by decide +kernel
theorem dX0_addToDraft_21 : decode cX0_addToDraft 21 = .ok (.bipush 8, 2) := by decide +kernel
theorem dX0_addToDraft_23 : decode cX0_addToDraft 23 = .ok (.iload 4, 2) := by decide +kernel
theorem dX0_addToDraft_25 : decode cX0_addToDraft 25 = .ok (.imul, 1) := by decide +kernel
theorem dX0_addToDraft_26 : decode cX0_addToDraft 26 = .ok (.lushr, 1) := by decide +kernel
theorem dX0_addToDraft_27 : decode cX0_addToDraft 27 = .ok (.l2i, 1) := by decide +kernel
theorem dX0_addToDraft_28 : decode cX0_addToDraft 28 = .ok (.sipush 255, 3) := by decide +kernel
theorem dX0_addToDraft_31 : decode cX0_addToDraft 31 = .ok (.iand, 1) := by decide +kernel
theorem dX0_addToDraft_32 : decode cX0_addToDraft 32 = .ok (.iastore, 1) := by decide +kernel
theorem dX0_addToDraft_33 : decode cX0_addToDraft 33 = .ok (.iinc 4 1, 3) := by decide +kernel
theorem dX0_addToDraft_36 : decode cX0_addToDraft 36 = .ok (.goto (-33), 3) := by decide +kernel
theorem dX0_addToDraft_39 : decode cX0_addToDraft 39 = .ok (.aload_n 0, 1) := by decide +kernel
theorem dX0_addToDraft_40 : decode cX0_addToDraft 40 = .ok (.dup, 1) := by decide +kernel
theorem dX0_addToDraft_41 : decode cX0_addToDraft 41 = .ok (.getfield 53, 3) := by decide +kernel
theorem dX0_addToDraft_44 : decode cX0_addToDraft 44 = .ok (.iload_n 1, 1) := by decide +kernel
theorem dX0_addToDraft_45 : decode cX0_addToDraft 45 = .ok (.iadd, 1) := by decide +kernel
theorem dX0_addToDraft_46 : decode cX0_addToDraft 46 = .ok (.putfield 53, 3) := by decide +kernel
theorem dX0_addToDraft_49 : decode cX0_addToDraft 49 = .ok (.return_, 1) := by decide +kernel
theorem dX0_turnDraftIntoPacket_0 : decode cX0_turnDraftIntoPacket 0 = .ok (.aload_n 0, 1) := by decide +kernel
theorem dX0_turnDraftIntoPacket_1 : decode cX0_turnDraftIntoPacket 1 = .ok (.getfield 20, 3) := by decide +kernel
theorem dX0_turnDraftIntoPacket_4 : decode cX0_turnDraftIntoPacket 4 = .ok (.aload_n 0, 1) := by decide +kernel
theorem dX0_turnDraftIntoPacket_5 : decode cX0_turnDraftIntoPacket 5 = .ok (.getfield 31, 3) := by decide +kernel
theorem dX0_turnDraftIntoPacket_8 : decode cX0_turnDraftIntoPacket 8 = .ok (.bipush 24, 2) := by decide +kernel
theorem dX0_turnDraftIntoPacket_10 : decode cX0_turnDraftIntoPacket 10 = .ok (.irem, 1) := by decide +kernel
theorem dX0_turnDraftIntoPacket_11 : decode cX0_turnDraftIntoPacket 11 = .ok (.aload_n 0, 1) := by decide +kernel
theorem dX0_turnDraftIntoPacket_12 : decode cX0_turnDraftIntoPacket 12 = .ok (.getfield 9, 3) := by decide +kernel
theorem dX0_turnDraftIntoPacket_15 : decode cX0_turnDraftIntoPacket 15 = .ok (.iconst 0, 1) := by decide +kernel
theorem dX0_turnDraftIntoPacket_16 : decode cX0_turnDraftIntoPacket 16 = .ok (.aload_n 0, 1) := by decide +kernel
theorem dX0_turnDraftIntoPacket_17 : decode cX0_turnDraftIntoPacket 17 = .ok (.getfield 53, 3) := by decide +kernel
theorem dX0_turnDraftIntoPacket_20 : decode cX0_turnDraftIntoPacket 20 = .ok (.invokevirtual 56, 3) := by decide +kernel
theorem dX0_turnDraftIntoPacket_23 : decode cX0_turnDraftIntoPacket 23 = .ok (.aload_n 0, 1) := by decide +kernel
theorem dX0_turnDraftIntoPacket_24 : decode cX0_turnDraftIntoPacket 24 = .ok (.dup, 1) := by decide +kernel
theorem dX0_turnDraftIntoPacket_25 : decode cX0_turnDraftIntoPacket 25 = .ok (.getfield 31, 3) := by decide +kernel
theorem dX0_turnDraftIntoPacket_28 : decode cX0_turnDraftIntoPacket 28 = .ok (.iconst 1, 1) := by decide +kernel
theorem dX0_turnDraftIntoPacket_29 : decode cX0_turnDraftIntoPacket 29 = .ok (.iadd, 1) := by decide +kernel
theorem dX0_turnDraftIntoPacket_30 : decode cX0_turnDraftIntoPacket 30 = .ok (.putfield 31, 3) := by decide +kernel
theorem dX0_turnDraftIntoPacket_33 : decode cX0_turnDraftIntoPacket 33 = .ok (.aload_n 0, 1) := by decide +kernel
theorem dX0_turnDraftIntoPacket_34 : decode cX0_turnDraftIntoPacket 34 = .ok (.iconst 0, 1) := by decide +kernel
theorem dX0_turnDraftIntoPacket_35 : decode cX0_turnDraftIntoPacket 35 = .ok (.putfield 53, 3) := by decide +kernel
theorem dX0_turnDraftIntoPacket_38 : decode cX0_turnDraftIntoPacket 38 = .ok (.return_, 1) := by decide +kernel
theorem dX0_writePacket_0 : decode cX0_writePacket 0 = .ok (.aload_n 1, 1) := by decide +kernel
theorem dX0_writePacket_1 : decode cX0_writePacket 1 = .ok (.iload_n 2, 1) := by decide +kernel
theorem dX0_writePacket_2 : decode cX0_writePacket 2 = .ok (.iload_n 3, 1) := by decide +kernel
theorem dX0_writePacket_3 : decode cX0_writePacket 3 = .ok (.invokestatic 40, 3) := by decide +kernel
theorem dX0_writePacket_6 : decode cX0_writePacket 6 = .ok (.aload_n 0, 1) := by decide +kernel
theorem dX0_writePacket_7 : decode cX0_writePacket 7 = .ok (.getfield 20, 3) := by decide +kernel
theorem dX0_writePacket_10 : decode cX0_writePacket 10 = .ok (.iload_n 3, 1) := by decide +kernel
theorem dX0_writePacket_11 : decode cX0_writePacket 11 = .ok (.bipush 24, 2) := by decide +kernel
theorem dX0_writePacket_13 : decode cX0_writePacket 13 = .ok (.irem, 1) := by decide +kernel
theorem dX0_writePacket_14 : decode cX0_writePacket 14 = .ok (.invokevirtual 60, 3) := by decide +kernel
theorem dX0_writePacket_17 : decode cX0_writePacket 17 = .ok (.return_, 1) := by decide +kernel
theorem dX0_writeWord_0 : decode cX0_writeWord 0 = .ok (.aload_n 1, 1) := by decide +kernel
theorem dX0_writeWord_1 : decode cX0_writeWord 1 = .ok (.iload_n 2, 1) := by decide +kernel
theorem dX0_writeWord_2 : decode cX0_writeWord 2 = .ok (.aload_n 0, 1) := by decide +kernel
theorem dX0_writeWord_3 : decode cX0_writeWord 3 = .ok (.getfield 66, 3) := by decide +kernel
theorem dX0_writeWord_6 : decode cX0_writeWord 6 = .ok (.iconst 1, 1) := by decide +kernel
theorem dX0_writeWord_7 : decode cX0_writeWord 7 = .ok (.isub, 1) := by decide +kernel
theorem dX0_writeWord_8 : decode cX0_writeWord 8 = .ok (.invokestatic 40, 3) := by decide +kernel
theorem dX0_writeWord_11 : decode cX0_writeWord 11 = .ok (.invokevirtual 69, 3) := by decide +kernel
theorem dX0_writeWord_14 : decode cX0_writeWord 14 = .ok (.aload_n 0, 1) := by decide +kernel
theorem dX0_writeWord_15 : decode cX0_writeWord 15 = .ok (.bipush (-4), 2) := by decide +kernel
theorem dX0_writeWord_17 : decode cX0_writeWord 17 = .ok (.putfield 24, 3) := by decide +kernel
theorem dX0_writeWord_20 : decode cX0_writeWord 20 = .ok (.iload_n 2, 1) := by decide +kernel
theorem dX0_writeWord_21 : decode cX0_writeWord 21 = .ok (.iconst 3, 1) := by decide +kernel
theorem dX0_writeWord_22 : decode cX0_writeWord 22 = .ok (.if_icmp .ne 8, 3) := by decide +kernel
theorem dX0_writeWord_25 : decode cX0_writeWord 25 = .ok (.aload_n 0, 1) := by decide +kernel
theorem dX0_writeWord_26 : decode cX0_writeWord 26 = .ok (.iconst 0, 1) := by decide +kernel
theorem dX0_writeWord_27 : decode cX0_writeWord 27 = .ok (.putfield 73, 3) := by decide +kernel
theorem dX0_writeWord_30 : decode cX0_writeWord 30 = .ok (.return_, 1) := by decide +kernel
theorem dX0_takeAcknowledgement_0 : decode cX0_takeAcknowledgement 0 = .ok (.iload_n 1, 1) := by decide +kernel
theorem dX0_takeAcknowledgement_1 : decode cX0_takeAcknowledgement 1 = .ok (.aload_n 0, 1) := by decide +kernel
theorem dX0_takeAcknowledgement_2 : decode cX0_takeAcknowledgement 2 = .ok (.invokevirtual 77, 3) := by decide +kernel
theorem dX0_takeAcknowledgement_5 : decode cX0_takeAcknowledgement 5 = .ok (.isub, 1) := by decide +kernel
theorem dX0_takeAcknowledgement_6 : decode cX0_takeAcknowledgement 6 = .ok (.invokestatic 40, 3) := by decide +kernel
theorem dX0_takeAcknowledgement_9 : decode cX0_takeAcknowledgement 9 = .ok (.istore_n 2, 1) := by decide +kernel
theorem dX0_takeAcknowledgement_10 : decode cX0_takeAcknowledgement 10 = .ok (.iload_n 2, 1) := by decide +kernel
theorem dX0_takeAcknowledgement_11 : decode cX0_takeAcknowledgement 11 = .ok (.iconst 1, 1) := by decide +kernel
theorem dX0_takeAcknowledgement_12 : decode cX0_takeAcknowledgement 12 = .ok (.if_icmp .lt 11, 3) := by decide +kernel
theorem dX0_takeAcknowledgement_15 : decode cX0_takeAcknowledgement 15 = .ok (.iload_n 2, 1) := by decide +kernel
theorem dX0_takeAcknowledgement_16 : decode cX0_takeAcknowledgement 16 = .ok (.aload_n 0, 1) := by decide +kernel
theorem dX0_takeAcknowledgement_17 : decode cX0_takeAcknowledgement 17 = .ok (.invokevirtual 81, 3) := by decide +kernel
theorem dX0_takeAcknowledgement_20 : decode cX0_takeAcknowledgement 20 = .ok (.if_icmp .le 4, 3) := by decide +kernel
theorem dX0_takeAcknowledgement_23 : decode cX0_takeAcknowledgement 23 = .ok (.return_, 1) := by decide +kernel
theorem dX0_takeAcknowledgement_24 : decode cX0_takeAcknowledgement 24 = .ok (.aload_n 0, 1) := by decide +kernel
theorem dX0_takeAcknowledgement_25 : decode cX0_takeAcknowledgement 25 = .ok (.dup, 1) := by decide +kernel
theorem dX0_takeAcknowledgement_26 : decode cX0_takeAcknowledgement 26 = .ok (.getfield 37, 3) := by decide +kernel
theorem dX0_takeAcknowledgement_29 : decode cX0_takeAcknowledgement 29 = .ok (.iload_n 2, 1) := by decide +kernel
theorem dX0_takeAcknowledgement_30 : decode cX0_takeAcknowledgement 30 = .ok (.iadd, 1) := by decide +kernel
theorem dX0_takeAcknowledgement_31 : decode cX0_takeAcknowledgement 31 = .ok (.putfield 37, 3) := by decide +kernel
theorem dX0_takeAcknowledgement_34 : decode cX0_takeAcknowledgement 34 = .ok (.aload_n 0, 1) := by decide +kernel
theorem dX0_takeAcknowledgement_35 : decode cX0_takeAcknowledgement 35 = .ok (.aload_n 0, 1) := by decide +kernel
theorem dX0_takeAcknowledgement_36 : decode cX0_takeAcknowledgement 36 = .ok (.getfield 84, 3) := by decide +kernel
theorem dX0_takeAcknowledgement_39 : decode cX0_takeAcknowledgement 39 = .ok (.aload_n 0, 1) := by decide +kernel
theorem dX0_takeAcknowledgement_40 : decode cX0_takeAcknowledgement 40 = .ok (.invokevirtual 81, 3) := by decide +kernel
theorem dX0_takeAcknowledgement_43 : decode cX0_takeAcknowledgement 43 = .ok (.invokestatic 47, 3) := by decide +kernel
theorem dX0_takeAcknowledgement_46 : decode cX0_takeAcknowledgement 46 = .ok (.putfield 84, 3) := by decide +kernel
theorem dX0_takeAcknowledgement_49 : decode cX0_takeAcknowledgement 49 = .ok (.aload_n 0, 1) := by decide +kernel
theorem dX0_takeAcknowledgement_50 : decode cX0_takeAcknowledgement 50 = .ok (.iconst 0, 1) := by decide +kernel
theorem dX0_takeAcknowledgement_51 : decode cX0_takeAcknowledgement 51 = .ok (.putfield 87, 3) := by decide +kernel
theorem dX0_takeAcknowledgement_54 : decode cX0_takeAcknowledgement 54 = .ok (.aload_n 0, 1) := by decide +kernel
theorem dX0_takeAcknowledgement_55 : decode cX0_takeAcknowledgement 55 = .ok (.iconst 0, 1) := by decide +kernel
theorem dX0_takeAcknowledgement_56 : decode cX0_takeAcknowledgement 56 = .ok (.putfield 90, 3) := by decide +kernel
theorem dX0_takeAcknowledgement_59 : decode cX0_takeAcknowledgement 59 = .ok (.return_, 1) := by decide +kernel
theorem dX0_handUp_0 : decode cX0_handUp 0 = .ok (.aload_n 0, 1) := by decide +kernel
theorem dX0_handUp_1 : decode cX0_handUp 1 = .ok (.getfield 44, 3) := by decide +kernel
theorem dX0_handUp_4 : decode cX0_handUp 4 = .ok (.bipush 60, 2) := by decide +kernel
theorem dX0_handUp_6 : decode cX0_handUp 6 = .ok (.if_icmp .ge 23, 3) := by decide +kernel
theorem dX0_handUp_9 : decode cX0_handUp 9 = .ok (.aload_n 0, 1) := by decide +kernel
theorem dX0_handUp_10 : decode cX0_handUp 10 = .ok (.getfield 28, 3) := by decide +kernel
theorem dX0_handUp_13 : decode cX0_handUp 13 = .ok (.aload_n 0, 1) := by decide +kernel
theorem dX0_handUp_14 : decode cX0_handUp 14 = .ok (.getfield 44, 3) := by decide +kernel
theorem dX0_handUp_17 : decode cX0_handUp 17 = .ok (.aload_n 1, 1) := by decide +kernel
theorem dX0_handUp_18 : decode cX0_handUp 18 = .ok (.getfield 93, 3) := by decide +kernel
theorem dX0_handUp_21 : decode cX0_handUp 21 = .ok (.iconst 3, 1) := by decide +kernel
theorem dX0_handUp_22 : decode cX0_handUp 22 = .ok (.aload_n 1, 1) := by decide +kernel
theorem dX0_handUp_23 : decode cX0_handUp 23 = .ok (.invokevirtual 96, 3) := by decide +kernel
theorem dX0_handUp_26 : decode cX0_handUp 26 = .ok (.invokevirtual 56, 3) := by decide +kernel
theorem dX0_handUp_29 : decode cX0_handUp 29 = .ok (.aload_n 0, 1) := by decide +kernel
theorem dX0_handUp_30 : decode cX0_handUp 30 = .ok (.dup, 1) := by decide +kernel
theorem dX0_handUp_31 : decode cX0_handUp 31 = .ok (.getfield 44, 3) := by decide +kernel
theorem dX0_handUp_34 : decode cX0_handUp 34 = .ok (.iconst 1, 1) := by decide +kernel
theorem dX0_handUp_35 : decode cX0_handUp 35 = .ok (.iadd, 1) := by decide +kernel
theorem dX0_handUp_36 : decode cX0_handUp 36 = .ok (.putfield 44, 3) := by decide +kernel
theorem dX0_handUp_39 : decode cX0_handUp 39 = .ok (.aload_n 0, 1) := by decide +kernel
theorem dX0_handUp_40 : decode cX0_handUp 40 = .ok (.aload_n 0, 1) := by decide +kernel
theorem dX0_handUp_41 : decode cX0_handUp 41 = .ok (.getfield 66, 3) := by decide +kernel
theorem dX0_handUp_44 : decode cX0_handUp 44 = .ok (.iconst 1, 1) := by decide +kernel
theorem dX0_handUp_45 : decode cX0_handUp 45 = .ok (.iadd, 1) := by decide +kernel
theorem dX0_handUp_46 : decode cX0_handUp 46 = .ok (.invokestatic 40, 3) := by decide +kernel
theorem dX0_handUp_49 : decode cX0_handUp 49 = .ok (.putfield 66, 3) := by decide +kernel
theorem dX0_handUp_52 : decode cX0_handUp 52 = .ok (.aload_n 0, 1) := by decide +kernel
theorem dX0_handUp_53 : decode cX0_handUp 53 = .ok (.iconst 0, 1) := by decide +kernel
theorem dX0_handUp_54 : decode cX0_handUp 54 = .ok (.putfield 99, 3) := by decide +kernel
theorem dX0_handUp_57 : decode cX0_handUp 57 = .ok (.return_, 1) := by decide +kernel
theorem dX0_oweAck_0 : decode cX0_oweAck 0 = .ok (.aload_n 0, 1) := by decide +kernel
theorem dX0_oweAck_1 : decode cX0_oweAck 1 = .ok (.getfield 24, 3) := by decide +kernel
theorem dX0_oweAck_4 : decode cX0_oweAck 4 = .ok (.bipush (-4), 2) := by decide +kernel
theorem dX0_oweAck_6 : decode cX0_oweAck 6 = .ok (.if_icmp .ne 8, 3) := by decide +kernel
theorem dX0_oweAck_9 : decode cX0_oweAck 9 = .ok (.aload_n 0, 1) := by decide +kernel
theorem dX0_oweAck_10 : decode cX0_oweAck 10 = .ok (.iload_n 1, 1) := by decide +kernel
theorem dX0_oweAck_11 : decode cX0_oweAck 11 = .ok (.putfield 24, 3) := by decide +kernel
theorem dX0_oweAck_14 : decode cX0_oweAck 14 = .ok (.return_, 1) := by decide +kernel
theorem dX0_oweNak_0 : decode cX0_oweNak 0 = .ok (.aload_n 0, 1) := by decide +kernel
theorem dX0_oweNak_1 : decode cX0_oweNak 1 = .ok (.getfield 99, 3) := by decide +kernel
theorem dX0_oweNak_4 : decode cX0_oweNak 4 = .ok (.ifCond .ne 13, 3) := by decide +kernel
theorem dX0_oweNak_7 : decode cX0_oweNak 7 = .ok (.aload_n 0, 1) := by decide +kernel
theorem dX0_oweNak_8 : decode cX0_oweNak 8 = .ok (.iconst 1, 1) := by decide +kernel
theorem dX0_oweNak_9 : decode cX0_oweNak 9 = .ok (.putfield 99, 3) := by decide +kernel
theorem dX0_oweNak_12 : decode cX0_oweNak 12 = .ok (.aload_n 0, 1) := by decide +kernel
theorem dX0_oweNak_13 : decode cX0_oweNak 13 = .ok (.iconst 1, 1) := by decide +kernel
theorem dX0_oweNak_14 : decode cX0_oweNak 14 = .ok (.putfield 73, 3) := by decide +kernel
theorem dX0_oweNak_17 : decode cX0_oweNak 17 = .ok (.return_, 1) := by decide +kernel
theorem dX0_isQuiet_0 : decode cX0_isQuiet 0 = .ok (.aload_n 0, 1) := by decide +kernel
theorem dX0_isQuiet_1 : decode cX0_isQuiet 1 = .ok (.invokevirtual 102, 3) := by decide +kernel
theorem dX0_isQuiet_4 : decode cX0_isQuiet 4 = .ok (.ifCond .ne 30, 3) := by decide +kernel
theorem dX0_isQuiet_7 : decode cX0_isQuiet 7 = .ok (.aload_n 0, 1) := by decide +kernel
theorem dX0_isQuiet_8 : decode cX0_isQuiet 8 = .ok (.invokevirtual 81, 3) := by decide +kernel
theorem dX0_isQuiet_11 : decode cX0_isQuiet 11 = .ok (.ifCond .ne 23, 3) := by decide +kernel
theorem dX0_isQuiet_14 : decode cX0_isQuiet 14 = .ok (.aload_n 0, 1) := by decide +kernel
theorem dX0_isQuiet_15 : decode cX0_isQuiet 15 = .ok (.getfield 24, 3) := by decide +kernel
theorem dX0_isQuiet_18 : decode cX0_isQuiet 18 = .ok (.bipush (-4), 2) := by decide +kernel
theorem dX0_isQuiet_20 : decode cX0_isQuiet 20 = .ok (.if_icmp .ne 14, 3) := by decide +kernel
theorem dX0_isQuiet_23 : decode cX0_isQuiet 23 = .ok (.aload_n 0, 1) := by decide +kernel
theorem dX0_isQuiet_24 : decode cX0_isQuiet 24 = .ok (.getfield 73, 3) := by decide +kernel
theorem dX0_isQuiet_27 : decode cX0_isQuiet 27 = .ok (.ifCond .ne 7, 3) := by decide +kernel
theorem dX0_isQuiet_30 : decode cX0_isQuiet 30 = .ok (.iconst 1, 1) := by decide +kernel
theorem dX0_isQuiet_31 : decode cX0_isQuiet 31 = .ok (.goto 4, 3) := by decide +kernel
theorem dX0_isQuiet_34 : decode cX0_isQuiet 34 = .ok (.iconst 0, 1) := by decide +kernel
theorem dX0_isQuiet_35 : decode cX0_isQuiet 35 = .ok (.ireturn, 1) := by decide +kernel
theorem dX0_tell_0 : decode cX0_tell 0 = .ok (.iload_n 1, 1) := by decide +kernel
theorem dX0_tell_1 : decode cX0_tell 1 = .ok (.tableswitch 147 0 13 #[71, 76, 81, 86, 91, 96, 101, 106, 111, 119, 124, 132, 137, 142], 71) := by decide +kernel
theorem dX0_tell_72 : decode cX0_tell 72 = .ok (.aload_n 0, 1) := by decide +kernel
theorem dX0_tell_73 : decode cX0_tell 73 = .ok (.invokevirtual 102, 3) := by decide +kernel
theorem dX0_tell_76 : decode cX0_tell 76 = .ok (.ireturn, 1) := by decide +kernel
theorem dX0_tell_77 : decode cX0_tell 77 = .ok (.aload_n 0, 1) := by decide +kernel
theorem dX0_tell_78 : decode cX0_tell 78 = .ok (.invokevirtual 81, 3) := by decide +kernel
theorem dX0_tell_81 : decode cX0_tell 81 = .ok (.ireturn, 1) := by decide +kernel
theorem dX0_tell_82 : decode cX0_tell 82 = .ok (.aload_n 0, 1) := by decide +kernel
theorem dX0_tell_83 : decode cX0_tell 83 = .ok (.invokevirtual 105, 3) := by decide +kernel
theorem dX0_tell_86 : decode cX0_tell 86 = .ok (.ireturn, 1) := by decide +kernel
theorem dX0_tell_87 : decode cX0_tell 87 = .ok (.aload_n 0, 1) := by decide +kernel
theorem dX0_tell_88 : decode cX0_tell 88 = .ok (.invokevirtual 77, 3) := by decide +kernel
theorem dX0_tell_91 : decode cX0_tell 91 = .ok (.ireturn, 1) := by decide +kernel
theorem dX0_tell_92 : decode cX0_tell 92 = .ok (.aload_n 0, 1) := by decide +kernel
theorem dX0_tell_93 : decode cX0_tell 93 = .ok (.getfield 87, 3) := by decide +kernel
theorem dX0_tell_96 : decode cX0_tell 96 = .ok (.ireturn, 1) := by decide +kernel
theorem dX0_tell_97 : decode cX0_tell 97 = .ok (.aload_n 0, 1) := by decide +kernel
theorem dX0_tell_98 : decode cX0_tell 98 = .ok (.getfield 90, 3) := by decide +kernel
theorem dX0_tell_101 : decode cX0_tell 101 = .ok (.ireturn, 1) := by decide +kernel
theorem dX0_tell_102 : decode cX0_tell 102 = .ok (.aload_n 0, 1) := by decide +kernel
theorem dX0_tell_103 : decode cX0_tell 103 = .ok (.getfield 84, 3) := by decide +kernel
theorem dX0_tell_106 : decode cX0_tell 106 = .ok (.ireturn, 1) := by decide +kernel
theorem dX0_tell_107 : decode cX0_tell 107 = .ok (.aload_n 0, 1) := by decide +kernel
theorem dX0_tell_108 : decode cX0_tell 108 = .ok (.getfield 66, 3) := by decide +kernel
theorem dX0_tell_111 : decode cX0_tell 111 = .ok (.ireturn, 1) := by decide +kernel
theorem dX0_tell_112 : decode cX0_tell 112 = .ok (.aload_n 0, 1) := by decide +kernel
theorem dX0_tell_113 : decode cX0_tell 113 = .ok (.getfield 99, 3) := by decide +kernel
theorem dX0_tell_116 : decode cX0_tell 116 = .ok (.invokestatic 108, 3) := by decide +kernel
theorem dX0_tell_119 : decode cX0_tell 119 = .ok (.ireturn, 1) := by decide +kernel
theorem dX0_tell_120 : decode cX0_tell 120 = .ok (.aload_n 0, 1) := by decide +kernel
theorem dX0_tell_121 : decode cX0_tell 121 = .ok (.getfield 24, 3) := by decide +kernel
theorem dX0_tell_124 : decode cX0_tell 124 = .ok (.ireturn, 1) := by decide +kernel
theorem dX0_tell_125 : decode cX0_tell 125 = .ok (.aload_n 0, 1) := by decide +kernel
theorem dX0_tell_126 : decode cX0_tell 126 = .ok (.getfield 73, 3) := by decide +kernel
theorem dX0_tell_129 : decode cX0_tell 129 = .ok (.invokestatic 108, 3) := by decide +kernel
theorem dX0_tell_132 : decode cX0_tell 132 = .ok (.ireturn, 1) := by decide +kernel
theorem dX0_tell_133 : decode cX0_tell 133 = .ok (.aload_n 0, 1) := by decide +kernel
theorem dX0_tell_134 : decode cX0_tell 134 = .ok (.getfield 31, 3) := by decide +kernel
theorem dX0_tell_137 : decode cX0_tell 137 = .ok (.ireturn, 1) := by decide +kernel
theorem dX0_tell_138 : decode cX0_tell 138 = .ok (.aload_n 0, 1) := by decide +kernel
theorem dX0_tell_139 : decode cX0_tell 139 = .ok (.getfield 44, 3) := by decide +kernel
theorem dX0_tell_142 : decode cX0_tell 142 = .ok (.ireturn, 1) := by decide +kernel
theorem dX0_tell_143 : decode cX0_tell 143 = .ok (.aload_n 0, 1) := by decide +kernel
theorem dX0_tell_144 : decode cX0_tell 144 = .ok (.getfield 53, 3) := by decide +kernel
theorem dX0_tell_147 : decode cX0_tell 147 = .ok (.ireturn, 1) := by decide +kernel
theorem dX0_tell_148 : decode cX0_tell 148 = .ok (.iconst (-1), 1) := by decide +kernel
theorem dX0_tell_149 : decode cX0_tell 149 = .ok (.ireturn, 1) := by decide +kernel
theorem dX0_copyFrom_0 : decode cX0_copyFrom 0 = .ok (.aload_n 1, 1) := by decide +kernel
theorem dX0_copyFrom_1 : decode cX0_copyFrom 1 = .ok (.getfield 9, 3) := by decide +kernel
theorem dX0_copyFrom_4 : decode cX0_copyFrom 4 = .ok (.iconst 0, 1) := by decide +kernel
theorem dX0_copyFrom_5 : decode cX0_copyFrom 5 = .ok (.aload_n 0, 1) := by decide +kernel
theorem dX0_copyFrom_6 : decode cX0_copyFrom 6 = .ok (.getfield 9, 3) := by decide +kernel
theorem dX0_copyFrom_9 : decode cX0_copyFrom 9 = .ok (.iconst 0, 1) := by decide +kernel
theorem dX0_copyFrom_10 : decode cX0_copyFrom 10 = .ok (.aload_n 0, 1) := by decide +kernel
theorem dX0_copyFrom_11 : decode cX0_copyFrom 11 = .ok (.getfield 9, 3) := by decide +kernel
theorem dX0_copyFrom_14 : decode cX0_copyFrom 14 = .ok (.arraylength, 1) := by decide +kernel
theorem dX0_copyFrom_15 : decode cX0_copyFrom 15 = .ok (.invokestatic 112, 3) := by decide +kernel
theorem dX0_copyFrom_18 : decode cX0_copyFrom 18 = .ok (.aload_n 0, 1) := by decide +kernel
theorem dX0_copyFrom_19 : decode cX0_copyFrom 19 = .ok (.aload_n 1, 1) := by decide +kernel
theorem dX0_copyFrom_20 : decode cX0_copyFrom 20 = .ok (.getfield 53, 3) := by decide +kernel
theorem dX0_copyFrom_23 : decode cX0_copyFrom 23 = .ok (.putfield 53, 3) := by decide +kernel
theorem dX0_copyFrom_26 : decode cX0_copyFrom 26 = .ok (.aload_n 0, 1) := by decide +kernel
theorem dX0_copyFrom_27 : decode cX0_copyFrom 27 = .ok (.getfield 20, 3) := by decide +kernel
theorem dX0_copyFrom_30 : decode cX0_copyFrom 30 = .ok (.aload_n 1, 1) := by decide +kernel
theorem dX0_copyFrom_31 : decode cX0_copyFrom 31 = .ok (.getfield 20, 3) := by decide +kernel
theorem dX0_copyFrom_34 : decode cX0_copyFrom 34 = .ok (.invokevirtual 118, 3) := by decide +kernel
theorem dX0_copyFrom_37 : decode cX0_copyFrom 37 = .ok (.aload_n 0, 1) := by decide +kernel
theorem dX0_copyFrom_38 : decode cX0_copyFrom 38 = .ok (.aload_n 1, 1) := by decide +kernel
theorem dX0_copyFrom_39 : decode cX0_copyFrom 39 = .ok (.getfield 31, 3) := by decide +kernel
theorem dX0_copyFrom_42 : decode cX0_copyFrom 42 = .ok (.putfield 31, 3) := by decide +kernel
theorem dX0_copyFrom_45 : decode cX0_copyFrom 45 = .ok (.aload_n 0, 1) := by decide +kernel
theorem dX0_copyFrom_46 : decode cX0_copyFrom 46 = .ok (.aload_n 1, 1) := by decide +kernel
theorem dX0_copyFrom_47 : decode cX0_copyFrom 47 = .ok (.getfield 34, 3) := by decide +kernel
theorem dX0_copyFrom_50 : decode cX0_copyFrom 50 = .ok (.putfield 34, 3) := by decide +kernel
theorem dX0_copyFrom_53 : decode cX0_copyFrom 53 = .ok (.aload_n 0, 1) := by decide +kernel
theorem dX0_copyFrom_54 : decode cX0_copyFrom 54 = .ok (.aload_n 1, 1) := by decide +kernel
theorem dX0_copyFrom_55 : decode cX0_copyFrom 55 = .ok (.getfield 37, 3) := by decide +kernel
theorem dX0_copyFrom_58 : decode cX0_copyFrom 58 = .ok (.putfield 37, 3) := by decide +kernel
theorem dX0_copyFrom_61 : decode cX0_copyFrom 61 = .ok (.aload_n 0, 1) := by decide +kernel
theorem dX0_copyFrom_62 : decode cX0_copyFrom 62 = .ok (.aload_n 1, 1) := by decide +kernel
theorem dX0_copyFrom_63 : decode cX0_copyFrom 63 = .ok (.getfield 122, 3) := by decide +kernel
theorem dX0_copyFrom_66 : decode cX0_copyFrom 66 = .ok (.putfield 122, 3) := by decide +kernel
theorem dX0_copyFrom_69 : decode cX0_copyFrom 69 = .ok (.aload_n 0, 1) := by decide +kernel
theorem dX0_copyFrom_70 : decode cX0_copyFrom 70 = .ok (.aload_n 1, 1) := by decide +kernel
theorem dX0_copyFrom_71 : decode cX0_copyFrom 71 = .ok (.getfield 87, 3) := by decide +kernel
theorem dX0_copyFrom_74 : decode cX0_copyFrom 74 = .ok (.putfield 87, 3) := by decide +kernel
theorem dX0_copyFrom_77 : decode cX0_copyFrom 77 = .ok (.aload_n 0, 1) := by decide +kernel
theorem dX0_copyFrom_78 : decode cX0_copyFrom 78 = .ok (.aload_n 1, 1) := by decide +kernel
theorem dX0_copyFrom_79 : decode cX0_copyFrom 79 = .ok (.getfield 90, 3) := by decide +kernel
theorem dX0_copyFrom_82 : decode cX0_copyFrom 82 = .ok (.putfield 90, 3) := by decide +kernel
theorem dX0_copyFrom_85 : decode cX0_copyFrom 85 = .ok (.aload_n 0, 1) := by decide +kernel
theorem dX0_copyFrom_86 : decode cX0_copyFrom 86 = .ok (.aload_n 1, 1) := by decide +kernel
theorem dX0_copyFrom_87 : decode cX0_copyFrom 87 = .ok (.getfield 84, 3) := by decide +kernel
theorem dX0_copyFrom_90 : decode cX0_copyFrom 90 = .ok (.putfield 84, 3) := by decide +kernel
theorem dX0_copyFrom_93 : decode cX0_copyFrom 93 = .ok (.aload_n 0, 1) := by decide +kernel
theorem dX0_copyFrom_94 : decode cX0_copyFrom 94 = .ok (.aload_n 1, 1) := by decide +kernel
theorem dX0_copyFrom_95 : decode cX0_copyFrom 95 = .ok (.getfield 66, 3) := by decide +kernel
theorem dX0_copyFrom_98 : decode cX0_copyFrom 98 = .ok (.putfield 66, 3) := by decide +kernel
theorem dX0_copyFrom_101 : decode cX0_copyFrom 101 = .ok (.aload_n 0, 1) := by decide +kernel
theorem dX0_copyFrom_102 : decode cX0_copyFrom 102 = .ok (.aload_n 1, 1) := by decide +kernel
theorem dX0_copyFrom_103 : decode cX0_copyFrom 103 = .ok (.getfield 99, 3) := by decide +kernel
theorem dX0_copyFrom_106 : decode cX0_copyFrom 106 = .ok (.putfield 99, 3) := by decide +kernel
theorem dX0_copyFrom_109 : decode cX0_copyFrom 109 = .ok (.aload_n 0, 1) := by decide +kernel
theorem dX0_copyFrom_110 : decode cX0_copyFrom 110 = .ok (.aload_n 1, 1) := by decide +kernel
theorem dX0_copyFrom_111 : decode cX0_copyFrom 111 = .ok (.getfield 73, 3) := by decide +kernel
theorem dX0_copyFrom_114 : decode cX0_copyFrom 114 = .ok (.putfield 73, 3) := by decide +kernel
theorem dX0_copyFrom_117 : decode cX0_copyFrom 117 = .ok (.aload_n 0, 1) := by decide +kernel
theorem dX0_copyFrom_118 : decode cX0_copyFrom 118 = .ok (.aload_n 1, 1) := by decide +kernel
theorem dX0_copyFrom_119 : decode cX0_copyFrom 119 = .ok (.getfield 24, 3) := by decide +kernel
theorem dX0_copyFrom_122 : decode cX0_copyFrom 122 = .ok (.putfield 24, 3) := by decide +kernel
theorem dX0_copyFrom_125 : decode cX0_copyFrom 125 = .ok (.aload_n 0, 1) := by decide +kernel
theorem dX0_copyFrom_126 : decode cX0_copyFrom 126 = .ok (.getfield 28, 3) := by decide +kernel
theorem dX0_copyFrom_129 : decode cX0_copyFrom 129 = .ok (.aload_n 1, 1) := by decide +kernel
theorem dX0_copyFrom_130 : decode cX0_copyFrom 130 = .ok (.getfield 28, 3) := by decide +kernel
theorem dX0_copyFrom_133 : decode cX0_copyFrom 133 = .ok (.invokevirtual 118, 3) := by decide +kernel
theorem dX0_copyFrom_136 : decode cX0_copyFrom 136 = .ok (.aload_n 0, 1) := by decide +kernel
theorem dX0_copyFrom_137 : decode cX0_copyFrom 137 = .ok (.aload_n 1, 1) := by decide +kernel
theorem dX0_copyFrom_138 : decode cX0_copyFrom 138 = .ok (.getfield 44, 3) := by decide +kernel
theorem dX0_copyFrom_141 : decode cX0_copyFrom 141 = .ok (.putfield 44, 3) := by decide +kernel
theorem dX0_copyFrom_144 : decode cX0_copyFrom 144 = .ok (.return_, 1) := by decide +kernel
theorem dX1_init_0 : decode cX1_init 0 = .ok (.aload_n 0, 1) := by decide +kernel
theorem dX1_init_1 : decode cX1_init 1 = .ok (.invokespecial 3, 3) := by decide +kernel
theorem dX1_init_4 : decode cX1_init 4 = .ok (.aload_n 0, 1) := by decide +kernel
theorem dX1_init_5 : decode cX1_init 5 = .ok (.bipush 32, 2) := by decide +kernel
theorem dX1_init_7 : decode cX1_init 7 = .ok (.newarray .int, 2) := by decide +kernel
theorem dX1_init_9 : decode cX1_init 9 = .ok (.putfield 9, 3) := by decide +kernel
theorem dX1_init_12 : decode cX1_init 12 = .ok (.return_, 1) := by decide +kernel
theorem dX1_writeWord_0 : decode cX1_writeWord 0 = .ok (.aload_n 0, 1) := by decide +kernel
theorem dX1_writeWord_1 : decode cX1_writeWord 1 = .ok (.getfield 9, 3) := by decide +kernel
theorem dX1_writeWord_4 : decode cX1_writeWord 4 = .ok (.iconst 0, 1) := by decide +kernel
theorem dX1_writeWord_5 : decode cX1_writeWord 5 = .ok (.bipush 92, 2) := by decide +kernel
theorem dX1_writeWord_7 : decode cX1_writeWord 7 = .ok (.iastore, 1) := by decide +kernel
theorem dX1_writeWord_8 : decode cX1_writeWord 8 = .ok (.aload_n 0, 1) := by decide +kernel
theorem dX1_writeWord_9 : decode cX1_writeWord 9 = .ok (.getfield 9, 3) := by decide +kernel
theorem dX1_writeWord_12 : decode cX1_writeWord 12 = .ok (.iconst 1, 1) := by decide +kernel
theorem dX1_writeWord_13 : decode cX1_writeWord 13 = .ok (.iload_n 1, 1) := by decide +kernel
theorem dX1_writeWord_14 : decode cX1_writeWord 14 = .ok (.iconst 3, 1) := by decide +kernel
theorem dX1_writeWord_15 : decode cX1_writeWord 15 = .ok (.if_icmp .ne 8, 3) := by decide +kernel
theorem dX1_writeWord_18 : decode cX1_writeWord 18 = .ok (.bipush 16, 2) := by decide +kernel
theorem dX1_writeWord_20 : decode cX1_writeWord 20 = .ok (.goto 4, 3) := by decide +kernel
theorem dX1_writeWord_23 : decode cX1_writeWord 23 = .ok (.iconst 0, 1) := by decide +kernel
theorem dX1_writeWord_24 : decode cX1_writeWord 24 = .ok (.iastore, 1) := by decide +kernel
theorem dX1_writeWord_25 : decode cX1_writeWord 25 = .ok (.aload_n 0, 1) := by decide +kernel
theorem dX1_writeWord_26 : decode cX1_writeWord 26 = .ok (.getfield 9, 3) := by decide +kernel
theorem dX1_writeWord_29 : decode cX1_writeWord 29 = .ok (.iconst 2, 1) := by decide +kernel
theorem dX1_writeWord_30 : decode cX1_writeWord 30 = .ok (.iload_n 2, 1) := by decide +kernel
theorem dX1_writeWord_31 : decode cX1_writeWord 31 = .ok (.iastore, 1) := by decide +kernel
theorem dX1_writeWord_32 : decode cX1_writeWord 32 = .ok (.aload_n 0, 1) := by decide +kernel
theorem dX1_writeWord_33 : decode cX1_writeWord 33 = .ok (.iconst 3, 1) := by decide +kernel
theorem dX1_writeWord_34 : decode cX1_writeWord 34 = .ok (.iconst 2, 1) := by decide +kernel
theorem dX1_writeWord_35 : decode cX1_writeWord 35 = .ok (.bipush 16, 2) := by decide +kernel
theorem dX1_writeWord_37 : decode cX1_writeWord 37 = .ok (.aload_n 0, 1) := by decide +kernel
theorem dX1_writeWord_38 : decode cX1_writeWord 38 = .ok (.getfield 9, 3) := by decide +kernel
theorem dX1_writeWord_41 : decode cX1_writeWord 41 = .ok (.iconst 1, 1) := by decide +kernel
theorem dX1_writeWord_42 : decode cX1_writeWord 42 = .ok (.iconst 3, 1) := by decide +kernel
theorem dX1_writeWord_43 : decode cX1_writeWord 43 = .ok (.invokestatic 15, 3) := by decide +kernel
theorem dX1_writeWord_46 : decode cX1_writeWord 46 = .ok (.invokevirtual 19, 3) := by decide +kernel
theorem dX1_writeWord_49 : decode cX1_writeWord 49 = .ok (.aload_n 0, 1) := by decide +kernel
theorem dX1_writeWord_50 : decode cX1_writeWord 50 = .ok (.getfield 9, 3) := by decide +kernel
theorem dX1_writeWord_53 : decode cX1_writeWord 53 = .ok (.iconst 5, 1) := by decide +kernel
theorem dX1_writeWord_54 : decode cX1_writeWord 54 = .ok (.sipush 253, 3) := by decide +kernel
theorem dX1_writeWord_57 : decode cX1_writeWord 57 = .ok (.iastore, 1) := by decide +kernel
theorem dX1_writeWord_58 : decode cX1_writeWord 58 = .ok (.aload_n 0, 1) := by decide +kernel
theorem dX1_writeWord_59 : decode cX1_writeWord 59 = .ok (.bipush 6, 2) := by decide +kernel
theorem dX1_writeWord_61 : decode cX1_writeWord 61 = .ok (.putfield 23, 3) := by decide +kernel
theorem dX1_writeWord_64 : decode cX1_writeWord 64 = .ok (.return_, 1) := by decide +kernel
theorem dX1_writePacket_0 : decode cX1_writePacket 0 = .ok (.aload_n 3, 1) := by decide +kernel
theorem dX1_writePacket_1 : decode cX1_writePacket 1 = .ok (.getfield 27, 3) := by decide +kernel
theorem dX1_writePacket_4 : decode cX1_writePacket 4 = .ok (.iload 4, 2) := by decide +kernel
theorem dX1_writePacket_6 : decode cX1_writePacket 6 = .ok (.iaload, 1) := by decide +kernel
theorem dX1_writePacket_7 : decode cX1_writePacket 7 = .ok (.istore 5, 2) := by decide +kernel
theorem dX1_writePacket_9 : decode cX1_writePacket 9 = .ok (.iconst 3, 1) := by decide +kernel
theorem dX1_writePacket_10 : decode cX1_writePacket 10 = .ok (.iload 5, 2) := by decide +kernel
theorem dX1_writePacket_12 : decode cX1_writePacket 12 = .ok (.iadd, 1) := by decide +kernel
theorem dX1_writePacket_13 : decode cX1_writePacket 13 = .ok (.istore 6, 2) := by decide +kernel
theorem dX1_writePacket_15 : decode cX1_writePacket 15 = .ok (.aload_n 0, 1) := by decide +kernel
theorem dX1_writePacket_16 : decode cX1_writePacket 16 = .ok (.getfield 9, 3) := by decide +kernel
theorem dX1_writePacket_19 : decode cX1_writePacket 19 = .ok (.iconst 0, 1) := by decide +kernel
theorem dX1_writePacket_20 : decode cX1_writePacket 20 = .ok (.sipush 251, 3) := by decide +kernel
theorem dX1_writePacket_23 : decode cX1_writePacket 23 = .ok (.iastore, 1) := by decide +kernel
theorem dX1_writePacket_24 : decode cX1_writePacket 24 = .ok (.aload_n 0, 1) := by decide +kernel
theorem dX1_writePacket_25 : decode cX1_writePacket 25 = .ok (.getfield 9, 3) := by decide +kernel
theorem dX1_writePacket_28 : decode cX1_writePacket 28 = .ok (.iconst 1, 1) := by decide +kernel
theorem dX1_writePacket_29 : decode cX1_writePacket 29 = .ok (.iconst 0, 1) := by decide +kernel
theorem dX1_writePacket_30 : decode cX1_writePacket 30 = .ok (.iastore, 1) := by decide +kernel
theorem dX1_writePacket_31 : decode cX1_writePacket 31 = .ok (.aload_n 0, 1) := by decide +kernel
theorem dX1_writePacket_32 : decode cX1_writePacket 32 = .ok (.getfield 9, 3) := by decide +kernel
theorem dX1_writePacket_35 : decode cX1_writePacket 35 = .ok (.iconst 2, 1) := by decide +kernel
theorem dX1_writePacket_36 : decode cX1_writePacket 36 = .ok (.iload_n 2, 1) := by decide +kernel
theorem dX1_writePacket_37 : decode cX1_writePacket 37 = .ok (.iastore, 1) := by decide +kernel
theorem dX1_writePacket_38 : decode cX1_writePacket 38 = .ok (.aload_n 3, 1) := by decide +kernel
theorem dX1_writePacket_39 : decode cX1_writePacket 39 = .ok (.getfield 32, 3) := by decide +kernel
theorem dX1_writePacket_42 : decode cX1_writePacket 42 = .ok (.iload 4, 2) := by decide +kernel
theorem dX1_writePacket_44 : decode cX1_writePacket 44 = .ok (.bipush 24, 2) := by decide +kernel
theorem dX1_writePacket_46 : decode cX1_writePacket 46 = .ok (.imul, 1) := by decide +kernel
theorem dX1_writePacket_47 : decode cX1_writePacket 47 = .ok (.aload_n 0, 1) := by decide +kernel
theorem dX1_writePacket_48 : decode cX1_writePacket 48 = .ok (.getfield 9, 3) := by decide +kernel
theorem dX1_writePacket_51 : decode cX1_writePacket 51 = .ok (.iconst 3, 1) := by decide +kernel
theorem dX1_writePacket_52 : decode cX1_writePacket 52 = .ok (.iload 5, 2) := by decide +kernel
theorem dX1_writePacket_54 : decode cX1_writePacket 54 = .ok (.invokestatic 33, 3) := by decide +kernel
theorem dX1_writePacket_57 : decode cX1_writePacket 57 = .ok (.bipush 32, 2) := by decide +kernel
theorem dX1_writePacket_59 : decode cX1_writePacket 59 = .ok (.aload_n 0, 1) := by decide +kernel
theorem dX1_writePacket_60 : decode cX1_writePacket 60 = .ok (.getfield 9, 3) := by decide +kernel
theorem dX1_writePacket_63 : decode cX1_writePacket 63 = .ok (.iconst 1, 1) := by decide +kernel
theorem dX1_writePacket_64 : decode cX1_writePacket 64 = .ok (.iload 6, 2) := by decide +kernel
theorem dX1_writePacket_66 : decode cX1_writePacket 66 = .ok (.invokestatic 15, 3) := by decide +kernel
theorem dX1_writePacket_69 : decode cX1_writePacket 69 = .ok (.lstore 7, 2) := by decide +kernel
theorem dX1_writePacket_71 : decode cX1_writePacket 71 = .ok (.aload_n 0, 1) := by decide +kernel
theorem dX1_writePacket_72 : decode cX1_writePacket 72 = .ok (.iload 6, 2) := by decide +kernel
theorem dX1_writePacket_74 : decode cX1_writePacket 74 = .ok (.iconst 4, 1) := by decide +kernel
theorem dX1_writePacket_75 : decode cX1_writePacket 75 = .ok (.iload_n 1, 1) := by decide +kernel
theorem dX1_writePacket_76 : decode cX1_writePacket 76 = .ok (.iconst 1, 1) := by decide +kernel
theorem dX1_writePacket_77 : decode cX1_writePacket 77 = .ok (.if_icmp .ne 11, 3) := by decide +kernel
theorem dX1_writePacket_80 : decode cX1_writePacket 80 = .ok (.lload 7, 2) := by decide +kernel
theorem dX1_writePacket_82 : decode cX1_writePacket 82 = .ok (.invokestatic 39, 3) := by decide +kernel
theorem dX1_writePacket_85 : decode cX1_writePacket 85 = .ok (.goto 5, 3) := by decide +kernel
theorem dX1_writePacket_88 : decode cX1_writePacket 88 = .ok (.lload 7, 2) := by decide +kernel
theorem dX1_writePacket_90 : decode cX1_writePacket 90 = .ok (.invokevirtual 19, 3) := by decide +kernel
theorem dX1_writePacket_93 : decode cX1_writePacket 93 = .ok (.aload_n 0, 1) := by decide +kernel
theorem dX1_writePacket_94 : decode cX1_writePacket 94 = .ok (.getfield 9, 3) := by decide +kernel
theorem dX1_writePacket_97 : decode cX1_writePacket 97 = .ok (.iload 6, 2) := by decide +kernel
theorem dX1_writePacket_99 : decode cX1_writePacket 99 = .ok (.iconst 4, 1) := by decide +kernel
theorem dX1_writePacket_100 : decode cX1_writePacket 100 = .ok (.iadd, 1) := by decide +kernel
theorem dX1_writePacket_101 : decode cX1_writePacket 101 = .ok (.iload_n 1, 1) := by decide +kernel
theorem dX1_writePacket_102 : decode cX1_writePacket 102 = .ok (.iconst 1, 1) := by decide +kernel
theorem dX1_writePacket_103 : decode cX1_writePacket 103 = .ok (.if_icmp .ne 9, 3) := by decide +kernel
theorem dX1_writePacket_106 : decode cX1_writePacket 106 = .ok (.sipush 254, 3) := by decide +kernel
theorem dX1_writePacket_109 : decode cX1_writePacket 109 = .ok (.goto 6, 3) := by decide +kernel
theorem dX1_writePacket_112 : decode cX1_writePacket 112 = .ok (.sipush 253, 3) := by decide +kernel
theorem dX1_writePacket_115 : decode cX1_writePacket 115 = .ok (.iastore, 1) := by decide +kernel
theorem dX1_writePacket_116 : decode cX1_writePacket 116 = .ok (.aload_n 0, 1) := by decide +kernel
theorem dX1_writePacket_117 : decode cX1_writePacket 117 = .ok (.iload 6, 2) := by decide +kernel
theorem dX1_writePacket_119 : decode cX1_writePacket 119 = .ok (.iconst 5, 1) := by decide +kernel
theorem dX1_writePacket_120 : decode cX1_writePacket 120 = .ok (.iadd, 1) := by decide +kernel
theorem dX1_writePacket_121 : decode cX1_writePacket 121 = .ok (.putfield 23, 3) := by decide +kernel
theorem dX1_writePacket_124 : decode cX1_writePacket 124 = .ok (.return_, 1) := by decide +kernel
theorem dX1_readAs_0 : decode cX1_readAs 0 = .ok (.aload_n 0, 1) := by decide +kernel
theorem dX1_readAs_1 : decode cX1_readAs 1 = .ok (.getfield 9, 3) := by decide +kernel
theorem dX1_readAs_4 : decode cX1_readAs 4 = .ok (.iconst 0, 1) := by decide +kernel
theorem dX1_readAs_5 : decode cX1_readAs 5 = .ok (.iaload, 1) := by decide +kernel
theorem dX1_readAs_6 : decode cX1_readAs 6 = .ok (.bipush 92, 2) := by decide +kernel
theorem dX1_readAs_8 : decode cX1_readAs 8 = .ok (.if_icmp .ne 10, 3) := by decide +kernel
theorem dX1_readAs_11 : decode cX1_readAs 11 = .ok (.aload_n 0, 1) := by decide +kernel
theorem dX1_readAs_12 : decode cX1_readAs 12 = .ok (.invokevirtual 43, 3) := by decide +kernel
theorem dX1_readAs_15 : decode cX1_readAs 15 = .ok (.goto 7, 3) := by decide +kernel
theorem dX1_readAs_18 : decode cX1_readAs 18 = .ok (.aload_n 0, 1) := by decide +kernel
theorem dX1_readAs_19 : decode cX1_readAs 19 = .ok (.invokevirtual 47, 3) := by decide +kernel
theorem dX1_readAs_22 : decode cX1_readAs 22 = .ok (.ireturn, 1) := by decide +kernel
theorem dX1_number_0 : decode cX1_number 0 = .ok (.aload_n 0, 1) := by decide +kernel
theorem dX1_number_1 : decode cX1_number 1 = .ok (.getfield 9, 3) := by decide +kernel
theorem dX1_number_4 : decode cX1_number 4 = .ok (.iconst 2, 1) := by decide +kernel
theorem dX1_number_5 : decode cX1_number 5 = .ok (.iaload, 1) := by decide +kernel
theorem dX1_number_6 : decode cX1_number 6 = .ok (.ireturn, 1) := by decide +kernel
theorem dX1_packetLength_0 : decode cX1_packetLength 0 = .ok (.aload_n 0, 1) := by decide +kernel
theorem dX1_packetLength_1 : decode cX1_packetLength 1 = .ok (.getfield 23, 3) := by decide +kernel
theorem dX1_packetLength_4 : decode cX1_packetLength 4 = .ok (.iconst 3, 1) := by decide +kernel
theorem dX1_packetLength_5 : decode cX1_packetLength 5 = .ok (.isub, 1) := by decide +kernel
theorem dX1_packetLength_6 : decode cX1_packetLength 6 = .ok (.iconst 5, 1) := by decide +kernel
theorem dX1_packetLength_7 : decode cX1_packetLength 7 = .ok (.isub, 1) := by decide +kernel
theorem dX1_packetLength_8 : decode cX1_packetLength 8 = .ok (.ireturn, 1) := by decide +kernel
theorem dX1_copyFrom_0 : decode cX1_copyFrom 0 = .ok (.aload_n 1, 1) := by decide +kernel
theorem dX1_copyFrom_1 : decode cX1_copyFrom 1 = .ok (.getfield 9, 3) := by decide +kernel
theorem dX1_copyFrom_4 : decode cX1_copyFrom 4 = .ok (.iconst 0, 1) := by decide +kernel
theorem dX1_copyFrom_5 : decode cX1_copyFrom 5 = .ok (.aload_n 0, 1) := by decide +kernel
theorem dX1_copyFrom_6 : decode cX1_copyFrom 6 = .ok (.getfield 9, 3) := by decide +kernel
theorem dX1_copyFrom_9 : decode cX1_copyFrom 9 = .ok (.iconst 0, 1) := by decide +kernel
theorem dX1_copyFrom_10 : decode cX1_copyFrom 10 = .ok (.aload_n 0, 1) := by decide +kernel
theorem dX1_copyFrom_11 : decode cX1_copyFrom 11 = .ok (.getfield 9, 3) := by decide +kernel
theorem dX1_copyFrom_14 : decode cX1_copyFrom 14 = .ok (.arraylength, 1) := by decide +kernel
theorem dX1_copyFrom_15 : decode cX1_copyFrom 15 = .ok (.invokestatic 33, 3) := by decide +kernel
theorem dX1_copyFrom_18 : decode cX1_copyFrom 18 = .ok (.aload_n 0, 1) := by decide +kernel
theorem dX1_copyFrom_19 : decode cX1_copyFrom 19 = .ok (.aload_n 1, 1) := by decide +kernel
theorem dX1_copyFrom_20 : decode cX1_copyFrom 20 = .ok (.getfield 23, 3) := by decide +kernel
theorem dX1_copyFrom_23 : decode cX1_copyFrom 23 = .ok (.putfield 23, 3) := by decide +kernel
theorem dX1_copyFrom_26 : decode cX1_copyFrom 26 = .ok (.aload_n 0, 1) := by decide +kernel
theorem dX1_copyFrom_27 : decode cX1_copyFrom 27 = .ok (.aload_n 1, 1) := by decide +kernel
theorem dX1_copyFrom_28 : decode cX1_copyFrom 28 = .ok (.getfield 50, 3) := by decide +kernel
theorem dX1_copyFrom_31 : decode cX1_copyFrom 31 = .ok (.putfield 50, 3) := by decide +kernel
theorem dX1_copyFrom_34 : decode cX1_copyFrom 34 = .ok (.return_, 1) := by decide +kernel
theorem dX1_readAsWord_0 : decode cX1_readAsWord 0 = .ok (.aload_n 0, 1) := by decide +kernel
theorem dX1_readAsWord_1 : decode cX1_readAsWord 1 = .ok (.getfield 23, 3) := by decide +kernel
theorem dX1_readAsWord_4 : decode cX1_readAsWord 4 = .ok (.bipush 6, 2) := by decide +kernel
theorem dX1_readAsWord_6 : decode cX1_readAsWord 6 = .ok (.if_icmp .ne 45, 3) := by decide +kernel
theorem dX1_readAsWord_9 : decode cX1_readAsWord 9 = .ok (.aload_n 0, 1) := by decide +kernel
theorem dX1_readAsWord_10 : decode cX1_readAsWord 10 = .ok (.getfield 9, 3) := by decide +kernel
theorem dX1_readAsWord_13 : decode cX1_readAsWord 13 = .ok (.iconst 5, 1) := by decide +kernel
theorem dX1_readAsWord_14 : decode cX1_readAsWord 14 = .ok (.iaload, 1) := by decide +kernel
theorem dX1_readAsWord_15 : decode cX1_readAsWord 15 = .ok (.sipush 253, 3) := by decide +kernel
theorem dX1_readAsWord_18 : decode cX1_readAsWord 18 = .ok (.if_icmp .ne 33, 3) := by decide +kernel
theorem dX1_readAsWord_21 : decode cX1_readAsWord 21 = .ok (.aload_n 0, 1) := by decide +kernel
theorem dX1_readAsWord_22 : decode cX1_readAsWord 22 = .ok (.invokevirtual 53, 3) := by decide +kernel
theorem dX1_readAsWord_25 : decode cX1_readAsWord 25 = .ok (.bipush 63, 2) := by decide +kernel
theorem dX1_readAsWord_27 : decode cX1_readAsWord 27 = .ok (.if_icmp .gt 24, 3) := by decide +kernel
theorem dX1_readAsWord_30 : decode cX1_readAsWord 30 = .ok (.aload_n 0, 1) := by decide +kernel
theorem dX1_readAsWord_31 : decode cX1_readAsWord 31 = .ok (.iconst 3, 1) := by decide +kernel
theorem dX1_readAsWord_32 : decode cX1_readAsWord 32 = .ok (.iconst 2, 1) := by decide +kernel
theorem dX1_readAsWord_33 : decode cX1_readAsWord 33 = .ok (.invokevirtual 56, 3) := by decide +kernel
theorem dX1_readAsWord_36 : decode cX1_readAsWord 36 = .ok (.bipush 16, 2) := by decide +kernel
theorem dX1_readAsWord_38 : decode cX1_readAsWord 38 = .ok (.aload_n 0, 1) := by decide +kernel
theorem dX1_readAsWord_39 : decode cX1_readAsWord 39 = .ok (.getfield 9, 3) := by decide +kernel
theorem dX1_readAsWord_42 : decode cX1_readAsWord 42 = .ok (.iconst 1, 1) := by decide +kernel
theorem dX1_readAsWord_43 : decode cX1_readAsWord 43 = .ok (.iconst 3, 1) := by decide +kernel
theorem dX1_readAsWord_44 : decode cX1_readAsWord 44 = .ok (.invokestatic 15, 3) := by decide +kernel
theorem dX1_readAsWord_47 : decode cX1_readAsWord 47 = .ok (.lcmp, 1) := by decide +kernel
theorem dX1_readAsWord_48 : decode cX1_readAsWord 48 = .ok (.ifCond .eq 5, 3) := by decide +kernel
theorem dX1_readAsWord_51 : decode cX1_readAsWord 51 = .ok (.iconst 5, 1) := by decide +kernel
theorem dX1_readAsWord_52 : decode cX1_readAsWord 52 = .ok (.ireturn, 1) := by decide +kernel
theorem dX1_readAsWord_53 : decode cX1_readAsWord 53 = .ok (.aload_n 0, 1) := by decide +kernel
theorem dX1_readAsWord_54 : decode cX1_readAsWord 54 = .ok (.getfield 9, 3) := by decide +kernel
theorem dX1_readAsWord_57 : decode cX1_readAsWord 57 = .ok (.iconst 1, 1) := by decide +kernel
theorem dX1_readAsWord_58 : decode cX1_readAsWord 58 = .ok (.iaload, 1) := by decide +kernel
theorem dX1_readAsWord_59 : decode cX1_readAsWord 59 = .ok (.lookupswitch 29 #[(0, 25), (16, 27)], 25) := by decide +kernel
theorem dX1_readAsWord_84 : decode cX1_readAsWord 84 = .ok (.iconst 2, 1) := by decide +kernel
theorem dX1_readAsWord_85 : decode cX1_readAsWord 85 = .ok (.ireturn, 1) := by decide +kernel
theorem dX1_readAsWord_86 : decode cX1_readAsWord 86 = .ok (.iconst 3, 1) := by decide +kernel
theorem dX1_readAsWord_87 : decode cX1_readAsWord 87 = .ok (.ireturn, 1) := by decide +kernel
theorem dX1_readAsWord_88 : decode cX1_readAsWord 88 = .ok (.iconst 5, 1) := by decide +kernel
theorem dX1_readAsWord_89 : decode cX1_readAsWord 89 = .ok (.ireturn, 1) := by decide +kernel
theorem dX1_readAsPacket_0 : decode cX1_readAsPacket 0 = .ok (.aload_n 0, 1) := by decide +kernel
theorem dX1_readAsPacket_1 : decode cX1_readAsPacket 1 = .ok (.invokevirtual 60, 3) := by decide +kernel
theorem dX1_readAsPacket_4 : decode cX1_readAsPacket 4 = .ok (.iconst 1, 1) := by decide +kernel
theorem dX1_readAsPacket_5 : decode cX1_readAsPacket 5 = .ok (.if_icmp .lt 33, 3) := by decide +kernel
theorem dX1_readAsPacket_8 : decode cX1_readAsPacket 8 = .ok (.aload_n 0, 1) := by decide +kernel
theorem dX1_readAsPacket_9 : decode cX1_readAsPacket 9 = .ok (.getfield 9, 3) := by decide +kernel
theorem dX1_readAsPacket_12 : decode cX1_readAsPacket 12 = .ok (.iconst 0, 1) := by decide +kernel
theorem dX1_readAsPacket_13 : decode cX1_readAsPacket 13 = .ok (.iaload, 1) := by decide +kernel
theorem dX1_readAsPacket_14 : decode cX1_readAsPacket 14 = .ok (.sipush 251, 3) := by decide +kernel
theorem dX1_readAsPacket_17 : decode cX1_readAsPacket 17 = .ok (.if_icmp .ne 21, 3) := by decide +kernel
theorem dX1_readAsPacket_20 : decode cX1_readAsPacket 20 = .ok (.aload_n 0, 1) := by decide +kernel
theorem dX1_readAsPacket_21 : decode cX1_readAsPacket 21 = .ok (.getfield 9, 3) := by decide +kernel
theorem dX1_readAsPacket_24 : decode cX1_readAsPacket 24 = .ok (.iconst 1, 1) := by decide +kernel
theorem dX1_readAsPacket_25 : decode cX1_readAsPacket 25 = .ok (.iaload, 1) := by decide +kernel
theorem dX1_readAsPacket_26 : decode cX1_readAsPacket 26 = .ok (.ifCond .ne 12, 3) := by decide +kernel
theorem dX1_readAsPacket_29 : decode cX1_readAsPacket 29 = .ok (.aload_n 0, 1) := by decide +kernel
theorem dX1_readAsPacket_30 : decode cX1_readAsPacket 30 = .ok (.invokevirtual 53, 3) := by decide +kernel
theorem dX1_readAsPacket_33 : decode cX1_readAsPacket 33 = .ok (.bipush 63, 2) := by decide +kernel
theorem dX1_readAsPacket_35 : decode cX1_readAsPacket 35 = .ok (.if_icmp .le 5, 3) := by decide +kernel
theorem dX1_readAsPacket_38 : decode cX1_readAsPacket 38 = .ok (.iconst 4, 1) := by decide +kernel
theorem dX1_readAsPacket_39 : decode cX1_readAsPacket 39 = .ok (.ireturn, 1) := by decide +kernel
theorem dX1_readAsPacket_40 : decode cX1_readAsPacket 40 = .ok (.aload_n 0, 1) := by decide +kernel
theorem dX1_readAsPacket_41 : decode cX1_readAsPacket 41 = .ok (.getfield 23, 3) := by decide +kernel
theorem dX1_readAsPacket_44 : decode cX1_readAsPacket 44 = .ok (.iconst 5, 1) := by decide +kernel
theorem dX1_readAsPacket_45 : decode cX1_readAsPacket 45 = .ok (.isub, 1) := by decide +kernel
theorem dX1_readAsPacket_46 : decode cX1_readAsPacket 46 = .ok (.istore_n 1, 1) := by decide +kernel
theorem dX1_readAsPacket_47 : decode cX1_readAsPacket 47 = .ok (.aload_n 0, 1) := by decide +kernel
theorem dX1_readAsPacket_48 : decode cX1_readAsPacket 48 = .ok (.iload_n 1, 1) := by decide +kernel
theorem dX1_readAsPacket_49 : decode cX1_readAsPacket 49 = .ok (.iconst 4, 1) := by decide +kernel
theorem dX1_readAsPacket_50 : decode cX1_readAsPacket 50 = .ok (.invokevirtual 56, 3) := by decide +kernel
theorem dX1_readAsPacket_53 : decode cX1_readAsPacket 53 = .ok (.lstore_n 2, 1) := by decide +kernel
theorem dX1_readAsPacket_54 : decode cX1_readAsPacket 54 = .ok (.bipush 32, 2) := by decide +kernel
theorem dX1_readAsPacket_56 : decode cX1_readAsPacket 56 = .ok (.aload_n 0, 1) := by decide +kernel
theorem dX1_readAsPacket_57 : decode cX1_readAsPacket 57 = .ok (.getfield 9, 3) := by decide +kernel
theorem dX1_readAsPacket_60 : decode cX1_readAsPacket 60 = .ok (.iconst 1, 1) := by decide +kernel
theorem dX1_readAsPacket_61 : decode cX1_readAsPacket 61 = .ok (.iload_n 1, 1) := by decide +kernel
theorem dX1_readAsPacket_62 : decode cX1_readAsPacket 62 = .ok (.invokestatic 15, 3) := by decide +kernel
theorem dX1_readAsPacket_65 : decode cX1_readAsPacket 65 = .ok (.lstore 4, 2) := by decide +kernel
theorem dX1_readAsPacket_67 : decode cX1_readAsPacket 67 = .ok (.aload_n 0, 1) := by decide +kernel
theorem dX1_readAsPacket_68 : decode cX1_readAsPacket 68 = .ok (.getfield 9, 3) := by decide +kernel
theorem dX1_readAsPacket_71 : decode cX1_readAsPacket 71 = .ok (.aload_n 0, 1) := by decide +kernel
theorem dX1_readAsPacket_72 : decode cX1_readAsPacket 72 = .ok (.getfield 23, 3) := by decide +kernel
theorem dX1_readAsPacket_75 : decode cX1_readAsPacket 75 = .ok (.iconst 1, 1) := by decide +kernel
theorem dX1_readAsPacket_76 : decode cX1_readAsPacket 76 = .ok (.isub, 1) := by decide +kernel
theorem dX1_readAsPacket_77 : decode cX1_readAsPacket 77 = .ok (.iaload, 1) := by decide +kernel
theorem dX1_readAsPacket_78 : decode cX1_readAsPacket 78 = .ok (.lookupswitch 55 #[(253, 26), (254, 39)], 26) := by decide +kernel
theorem dX1_readAsPacket_104 : decode cX1_readAsPacket 104 = .ok (.lload_n 2, 1) := by decide +kernel
theorem dX1_readAsPacket_105 : decode cX1_readAsPacket 105 = .ok (.lload 4, 2) := by decide +kernel
theorem dX1_readAsPacket_107 : decode cX1_readAsPacket 107 = .ok (.lcmp, 1) := by decide +kernel
theorem dX1_readAsPacket_108 : decode cX1_readAsPacket 108 = .ok (.ifCond .ne 7, 3) := by decide +kernel
theorem dX1_readAsPacket_111 : decode cX1_readAsPacket 111 = .ok (.iconst 0, 1) := by decide +kernel
theorem dX1_readAsPacket_112 : decode cX1_readAsPacket 112 = .ok (.goto 4, 3) := by decide +kernel
theorem dX1_readAsPacket_115 : decode cX1_readAsPacket 115 = .ok (.iconst 4, 1) := by decide +kernel
theorem dX1_readAsPacket_116 : decode cX1_readAsPacket 116 = .ok (.ireturn, 1) := by decide +kernel
theorem dX1_readAsPacket_117 : decode cX1_readAsPacket 117 = .ok (.lload_n 2, 1) := by decide +kernel
theorem dX1_readAsPacket_118 : decode cX1_readAsPacket 118 = .ok (.lload 4, 2) := by decide +kernel
theorem dX1_readAsPacket_120 : decode cX1_readAsPacket 120 = .ok (.invokestatic 39, 3) := by decide +kernel
theorem dX1_readAsPacket_123 : decode cX1_readAsPacket 123 = .ok (.lcmp, 1) := by decide +kernel
theorem dX1_readAsPacket_124 : decode cX1_readAsPacket 124 = .ok (.ifCond .ne 7, 3) := by decide +kernel
theorem dX1_readAsPacket_127 : decode cX1_readAsPacket 127 = .ok (.iconst 1, 1) := by decide +kernel
theorem dX1_readAsPacket_128 : decode cX1_readAsPacket 128 = .ok (.goto 4, 3) := by decide +kernel
theorem dX1_readAsPacket_131 : decode cX1_readAsPacket 131 = .ok (.iconst 4, 1) := by decide +kernel
theorem dX1_readAsPacket_132 : decode cX1_readAsPacket 132 = .ok (.ireturn, 1) := by decide +kernel
theorem dX1_readAsPacket_133 : decode cX1_readAsPacket 133 = .ok (.iconst 4, 1) := by decide +kernel
theorem dX1_readAsPacket_134 : decode cX1_readAsPacket 134 = .ok (.ireturn, 1) := by decide +kernel
theorem dX1_writeLowestFirst_0 : decode cX1_writeLowestFirst 0 = .ok (.iconst 0, 1) := by decide +kernel
theorem dX1_writeLowestFirst_1 : decode cX1_writeLowestFirst 1 = .ok (.istore 5, 2) := by decide +kernel
theorem dX1_writeLowestFirst_3 : decode cX1_writeLowestFirst 3 = .ok (.iload 5, 2) := by decide +kernel
theorem dX1_writeLowestFirst_5 : decode cX1_writeLowestFirst 5 = .ok (.iload_n 2, 1) := by decide +kernel
theorem dX1_writeLowestFirst_6 : decode cX1_writeLowestFirst 6 = .ok (.if_icmp .ge 30, 3) := by decide +kernel
theorem dX1_writeLowestFirst_9 : decode cX1_writeLowestFirst 9 = .ok (.aload_n 0, 1) := by decide +kernel
theorem dX1_writeLowestFirst_10 : decode cX1_writeLowestFirst 10 = .ok (.getfield 9, 3) := by decide +kernel
theorem dX1_writeLowestFirst_13 : decode cX1_writeLowestFirst 13 = .ok (.iload_n 1, 1) := by decide +kernel
theorem dX1_writeLowestFirst_14 : decode cX1_writeLowestFirst 14 = .ok (.iload 5, 2) := by decide +kernel
theorem dX1_writeLowestFirst_16 : decode cX1_writeLowestFirst 16 = .ok (.iadd, 1) := by decide +kernel
theorem dX1_writeLowestFirst_17 : decode cX1_writeLowestFirst 17 = .ok (.lload_n 3, 1) := by decide +kernel
theorem dX1_writeLowestFirst_18 : decode cX1_writeLowestFirst 18 = .ok (.bipush 8, 2) := by decide +kernel
theorem dX1_writeLowestFirst_20 : decode cX1_writeLowestFirst 20 = .ok (.iload 5, 2) := by decide +kernel
theorem dX1_writeLowestFirst_22 : decode cX1_writeLowestFirst 22 = .ok (.imul, 1) := by decide +kernel
theorem dX1_writeLowestFirst_23 : decode cX1_writeLowestFirst 23 = .ok (.lushr, 1) := by decide +kernel
theorem dX1_writeLowestFirst_24 : decode cX1_writeLowestFirst 24 = .ok (.l2i, 1) := by decide +kernel
theorem dX1_writeLowestFirst_25 : decode cX1_writeLowestFirst 25 = .ok (.sipush 255, 3) := by decide +kernel
theorem dX1_writeLowestFirst_28 : decode cX1_writeLowestFirst 28 = .ok (.iand, 1) := by decide +kernel
theorem dX1_writeLowestFirst_29 : decode cX1_writeLowestFirst 29 = .ok (.iastore, 1) := by decide +kernel
theorem dX1_writeLowestFirst_30 : decode cX1_writeLowestFirst 30 = .ok (.iinc 5 1, 3) := by decide +kernel
theorem dX1_writeLowestFirst_33 : decode cX1_writeLowestFirst 33 = .ok (.goto (-30), 3) := by decide +kernel
theorem dX1_writeLowestFirst_36 : decode cX1_writeLowestFirst 36 = .ok (.return_, 1) := by decide +kernel
theorem dX1_readLowestFirst_0 : decode cX1_readLowestFirst 0 = .ok (.lconst 0, 1) := by decide +kernel
theorem dX1_readLowestFirst_1 : decode cX1_readLowestFirst 1 = .ok (.lstore_n 3, 1) := by decide +kernel
theorem dX1_readLowestFirst_2 : decode cX1_readLowestFirst 2 = .ok (.iconst 0, 1) := by decide +kernel
theorem dX1_readLowestFirst_3 : decode cX1_readLowestFirst 3 = .ok (.istore 5, 2) := by decide +kernel
theorem dX1_readLowestFirst_5 : decode cX1_readLowestFirst 5 = .ok (.iload 5, 2) := by decide +kernel
theorem dX1_readLowestFirst_7 : decode cX1_readLowestFirst 7 = .ok (.iload_n 2, 1) := by decide +kernel
theorem dX1_readLowestFirst_8 : decode cX1_readLowestFirst 8 = .ok (.if_icmp .ge 28, 3) := by decide +kernel
theorem dX1_readLowestFirst_11 : decode cX1_readLowestFirst 11 = .ok (.lload_n 3, 1) := by decide +kernel
theorem dX1_readLowestFirst_12 : decode cX1_readLowestFirst 12 = .ok (.aload_n 0, 1) := by decide +kernel
theorem dX1_readLowestFirst_13 : decode cX1_readLowestFirst 13 = .ok (.getfield 9, 3) := by decide +kernel
theorem dX1_readLowestFirst_16 : decode cX1_readLowestFirst 16 = .ok (.iload_n 1, 1) := by decide +kernel
theorem dX1_readLowestFirst_17 : decode cX1_readLowestFirst 17 = .ok (.iload 5, 2) := by decide +kernel
theorem dX1_readLowestFirst_19 : decode cX1_readLowestFirst 19 = .ok (.iadd, 1) := by decide +kernel
theorem dX1_readLowestFirst_20 : decode cX1_readLowestFirst 20 = .ok (.iaload, 1) := by decide +kernel
theorem dX1_readLowestFirst_21 : decode cX1_readLowestFirst 21 = .ok (.i2l, 1) := by decide +kernel
theorem dX1_readLowestFirst_22 : decode cX1_readLowestFirst 22 = .ok (.bipush 8, 2) := by decide +kernel
theorem dX1_readLowestFirst_24 : decode cX1_readLowestFirst 24 = .ok (.iload 5, 2) := by decide +kernel
theorem dX1_readLowestFirst_26 : decode cX1_readLowestFirst 26 = .ok (.imul, 1) := by decide +kernel
theorem dX1_readLowestFirst_27 : decode cX1_readLowestFirst 27 = .ok (.lshl, 1) := by decide +kernel
theorem dX1_readLowestFirst_28 : decode cX1_readLowestFirst 28 = .ok (.lor, 1) := by decide +kernel
theorem dX1_readLowestFirst_29 : decode cX1_readLowestFirst 29 = .ok (.lstore_n 3, 1) := by decide +kernel
theorem dX1_readLowestFirst_30 : decode cX1_readLowestFirst 30 = .ok (.iinc 5 1, 3) := by decide +kernel
theorem dX1_readLowestFirst_33 : decode cX1_readLowestFirst 33 = .ok (.goto (-28), 3) := by decide +kernel
theorem dX1_readLowestFirst_36 : decode cX1_readLowestFirst 36 = .ok (.lload_n 3, 1) := by decide +kernel
theorem dX1_readLowestFirst_37 : decode cX1_readLowestFirst 37 = .ok (.lreturn, 1) := by decide +kernel
theorem dX2_init_0 : decode cX2_init 0 = .ok (.aload_n 0, 1) := by decide +kernel
theorem dX2_init_1 : decode cX2_init 1 = .ok (.invokespecial 3, 3) := by decide +kernel
theorem dX2_init_4 : decode cX2_init 4 = .ok (.aload_n 0, 1) := by decide +kernel
theorem dX2_init_5 : decode cX2_init 5 = .ok (.iconst 2, 1) := by decide +kernel
theorem dX2_init_6 : decode cX2_init 6 = .ok (.anewarray 9, 3) := by decide +kernel
theorem dX2_init_9 : decode cX2_init 9 = .ok (.dup, 1) := by decide +kernel
theorem dX2_init_10 : decode cX2_init 10 = .ok (.iconst 0, 1) := by decide +kernel
theorem dX2_init_11 : decode cX2_init 11 = .ok (.new 9, 3) := by decide +kernel
theorem dX2_init_14 : decode cX2_init 14 = .ok (.dup, 1) := by decide +kernel
theorem dX2_init_15 : decode cX2_init 15 = .ok (.invokespecial 11, 3) := by decide +kernel
theorem dX2_init_18 : decode cX2_init 18 = .ok (.aastore, 1) := by decide +kernel
theorem dX2_init_19 : decode cX2_init 19 = .ok (.dup, 1) := by decide +kernel
theorem dX2_init_20 : decode cX2_init 20 = .ok (.iconst 1, 1) := by decide +kernel
theorem dX2_init_21 : decode cX2_init 21 = .ok (.new 9, 3) := by decide +kernel
theorem dX2_init_24 : decode cX2_init 24 = .ok (.dup, 1) := by decide +kernel
theorem dX2_init_25 : decode cX2_init 25 = .ok (.invokespecial 11, 3) := by decide +kernel
theorem dX2_init_28 : decode cX2_init 28 = .ok (.aastore, 1) := by decide +kernel
theorem dX2_init_29 : decode cX2_init 29 = .ok (.putfield 12, 3) := by decide +kernel
theorem dX2_init_32 : decode cX2_init 32 = .ok (.aload_n 0, 1) := by decide +kernel
theorem dX2_init_33 : decode cX2_init 33 = .ok (.iconst 2, 1) := by decide +kernel
theorem dX2_init_34 : decode cX2_init 34 = .ok (.anewarray 18, 3) := by decide +kernel
theorem dX2_init_37 : decode cX2_init 37 = .ok (.dup, 1) := by decide +kernel
theorem dX2_init_38 : decode cX2_init 38 = .ok (.iconst 0, 1) := by decide +kernel
theorem dX2_init_39 : decode cX2_init 39 = .ok (.new 18, 3) := by decide +kernel
theorem dX2_init_42 : decode cX2_init 42 = .ok (.dup, 1) := by decide +kernel
theorem dX2_init_43 : decode cX2_init 43 = .ok (.invokespecial 20, 3) := by decide +kernel
theorem dX2_init_46 : decode cX2_init 46 = .ok (.aastore, 1) := by decide +kernel
theorem dX2_init_47 : decode cX2_init 47 = .ok (.dup, 1) := by decide +kernel
theorem dX2_init_48 : decode cX2_init 48 = .ok (.iconst 1, 1) := by decide +kernel
theorem dX2_init_49 : decode cX2_init 49 = .ok (.new 18, 3) := by decide +kernel
theorem dX2_init_52 : decode cX2_init 52 = .ok (.dup, 1) := by decide +kernel
theorem dX2_init_53 : decode cX2_init 53 = .ok (.invokespecial 20, 3) := by decide +kernel
theorem dX2_init_56 : decode cX2_init 56 = .ok (.aastore, 1) := by decide +kernel
theorem dX2_init_57 : decode cX2_init 57 = .ok (.putfield 21, 3) := by decide +kernel
theorem dX2_init_60 : decode cX2_init 60 = .ok (.aload_n 0, 1) := by decide +kernel
theorem dX2_init_61 : decode cX2_init 61 = .ok (.bipush 17, 2) := by decide +kernel
theorem dX2_init_63 : decode cX2_init 63 = .ok (.newarray .int, 2) := by decide +kernel
theorem dX2_init_65 : decode cX2_init 65 = .ok (.putfield 25, 3) := by decide +kernel
theorem dX2_init_68 : decode cX2_init 68 = .ok (.aload_n 0, 1) := by decide +kernel
theorem dX2_init_69 : decode cX2_init 69 = .ok (.iconst 1, 1) := by decide +kernel
theorem dX2_init_70 : decode cX2_init 70 = .ok (.putfield 29, 3) := by decide +kernel
theorem dX2_init_73 : decode cX2_init 73 = .ok (.aload_n 0, 1) := by decide +kernel
theorem dX2_init_74 : decode cX2_init 74 = .ok (.bipush 12, 2) := by decide +kernel
theorem dX2_init_76 : decode cX2_init 76 = .ok (.putfield 33, 3) := by decide +kernel
theorem dX2_init_79 : decode cX2_init 79 = .ok (.aload_n 0, 1) := by decide +kernel
theorem dX2_init_80 : decode cX2_init 80 = .ok (.iconst 2, 1) := by decide +kernel
theorem dX2_init_81 : decode cX2_init 81 = .ok (.putfield 36, 3) := by decide +kernel
theorem dX2_init_84 : decode cX2_init 84 = .ok (.return_, 1) := by decide +kernel
theorem dX2_changeDelay_0 : decode cX2_changeDelay 0 = .ok (.aload_n 0, 1) := by decide +kernel
theorem dX2_changeDelay_1 : decode cX2_changeDelay 1 = .ok (.getfield 29, 3) := by decide +kernel
theorem dX2_changeDelay_4 : decode cX2_changeDelay 4 = .ok (.istore_n 2, 1) := by decide +kernel
theorem dX2_changeDelay_5 : decode cX2_changeDelay 5 = .ok (.aload_n 0, 1) := by decide +kernel
theorem dX2_changeDelay_6 : decode cX2_changeDelay 6 = .ok (.iload_n 1, 1) := by decide +kernel
theorem dX2_changeDelay_7 : decode cX2_changeDelay 7 = .ok (.putfield 29, 3) := by decide +kernel
theorem dX2_changeDelay_10 : decode cX2_changeDelay 10 = .ok (.iload_n 2, 1) := by decide +kernel
theorem dX2_changeDelay_11 : decode cX2_changeDelay 11 = .ok (.ireturn, 1) := by decide +kernel
theorem dX2_changePatience_0 : decode cX2_changePatience 0 = .ok (.aload_n 0, 1) := by decide +kernel
theorem dX2_changePatience_1 : decode cX2_changePatience 1 = .ok (.getfield 33, 3) := by decide +kernel
theorem dX2_changePatience_4 : decode cX2_changePatience 4 = .ok (.istore_n 2, 1) := by decide +kernel
theorem dX2_changePatience_5 : decode cX2_changePatience 5 = .ok (.aload_n 0, 1) := by decide +kernel
theorem dX2_changePatience_6 : decode cX2_changePatience 6 = .ok (.iload_n 1, 1) := by decide +kernel
theorem dX2_changePatience_7 : decode cX2_changePatience 7 = .ok (.putfield 33, 3) := by decide +kernel
theorem dX2_changePatience_10 : decode cX2_changePatience 10 = .ok (.iload_n 2, 1) := by decide +kernel
theorem dX2_changePatience_11 : decode cX2_changePatience 11 = .ok (.ireturn, 1) := by decide +kernel
theorem dX2_changeAckDelay_0 : decode cX2_changeAckDelay 0 = .ok (.aload_n 0, 1) := by decide +kernel
theorem dX2_changeAckDelay_1 : decode cX2_changeAckDelay 1 = .ok (.getfield 36, 3) := by decide +kernel
theorem dX2_changeAckDelay_4 : decode cX2_changeAckDelay 4 = .ok (.istore_n 2, 1) := by decide +kernel
theorem dX2_changeAckDelay_5 : decode cX2_changeAckDelay 5 = .ok (.aload_n 0, 1) := by decide +kernel
theorem dX2_changeAckDelay_6 : decode cX2_changeAckDelay 6 = .ok (.iload_n 1, 1) := by decide +kernel
theorem dX2_changeAckDelay_7 : decode cX2_changeAckDelay 7 = .ok (.putfield 36, 3) := by decide +kernel
theorem dX2_changeAckDelay_10 : decode cX2_changeAckDelay 10 = .ok (.iload_n 2, 1) := by decide +kernel
theorem dX2_changeAckDelay_11 : decode cX2_changeAckDelay 11 = .ok (.ireturn, 1) := by decide +kernel
theorem dX2_passTick_0 : decode cX2_passTick 0 = .ok (.aload_n 0, 1) := by decide +kernel
theorem dX2_passTick_1 : decode cX2_passTick 1 = .ok (.dup, 1) := by decide +kernel
theorem dX2_passTick_2 : decode cX2_passTick 2 = .ok (.getfield 39, 3) := by decide +kernel
theorem dX2_passTick_5 : decode cX2_passTick 5 = .ok (.iconst 1, 1) := by decide +kernel
theorem dX2_passTick_6 : decode cX2_passTick 6 = .ok (.iadd, 1) := by decide +kernel
theorem dX2_passTick_7 : decode cX2_passTick 7 = .ok (.putfield 39, 3) := by decide +kernel
theorem dX2_passTick_10 : decode cX2_passTick 10 = .ok (.aload_n 0, 1) := by decide +kernel
theorem dX2_passTick_11 : decode cX2_passTick 11 = .ok (.getfield 42, 3) := by decide +kernel
theorem dX2_passTick_14 : decode cX2_passTick 14 = .ok (.ifCond .le 7, 3) := by decide +kernel
theorem dX2_passTick_17 : decode cX2_passTick 17 = .ok (.iconst 1, 1) := by decide +kernel
theorem dX2_passTick_18 : decode cX2_passTick 18 = .ok (.goto 4, 3) := by decide +kernel
theorem dX2_passTick_21 : decode cX2_passTick 21 = .ok (.iconst 0, 1) := by decide +kernel
theorem dX2_passTick_22 : decode cX2_passTick 22 = .ok (.istore_n 1, 1) := by decide +kernel
theorem dX2_passTick_23 : decode cX2_passTick 23 = .ok (.iload_n 1, 1) := by decide +kernel
theorem dX2_passTick_24 : decode cX2_passTick 24 = .ok (.ifCond .eq 13, 3) := by decide +kernel
theorem dX2_passTick_27 : decode cX2_passTick 27 = .ok (.aload_n 0, 1) := by decide +kernel
theorem dX2_passTick_28 : decode cX2_passTick 28 = .ok (.dup, 1) := by decide +kernel
theorem dX2_passTick_29 : decode cX2_passTick 29 = .ok (.getfield 42, 3) := by decide +kernel
theorem dX2_passTick_32 : decode cX2_passTick 32 = .ok (.iconst 1, 1) := by decide +kernel
theorem dX2_passTick_33 : decode cX2_passTick 33 = .ok (.isub, 1) := by decide +kernel
theorem dX2_passTick_34 : decode cX2_passTick 34 = .ok (.putfield 42, 3) := by decide +kernel
theorem dX2_passTick_37 : decode cX2_passTick 37 = .ok (.iconst 0, 1) := by decide +kernel
theorem dX2_passTick_38 : decode cX2_passTick 38 = .ok (.istore_n 2, 1) := by decide +kernel
theorem dX2_passTick_39 : decode cX2_passTick 39 = .ok (.iconst 0, 1) := by decide +kernel
theorem dX2_passTick_40 : decode cX2_passTick 40 = .ok (.istore_n 3, 1) := by decide +kernel
theorem dX2_passTick_41 : decode cX2_passTick 41 = .ok (.iload_n 3, 1) := by decide +kernel
theorem dX2_passTick_42 : decode cX2_passTick 42 = .ok (.iconst 2, 1) := by decide +kernel
theorem dX2_passTick_43 : decode cX2_passTick 43 = .ok (.if_icmp .ge 30, 3) := by decide +kernel
theorem dX2_passTick_46 : decode cX2_passTick 46 = .ok (.iload_n 2, 1) := by decide +kernel
theorem dX2_passTick_47 : decode cX2_passTick 47 = .ok (.aload_n 0, 1) := by decide +kernel
theorem dX2_passTick_48 : decode cX2_passTick 48 = .ok (.aload_n 0, 1) := by decide +kernel
theorem dX2_passTick_49 : decode cX2_passTick 49 = .ok (.getfield 21, 3) := by decide +kernel
theorem dX2_passTick_52 : decode cX2_passTick 52 = .ok (.iload_n 3, 1) := by decide +kernel
theorem dX2_passTick_53 : decode cX2_passTick 53 = .ok (.aaload, 1) := by decide +kernel
theorem dX2_passTick_54 : decode cX2_passTick 54 = .ok (.aload_n 0, 1) := by decide +kernel
theorem dX2_passTick_55 : decode cX2_passTick 55 = .ok (.getfield 12, 3) := by decide +kernel
theorem dX2_passTick_58 : decode cX2_passTick 58 = .ok (.iconst 1, 1) := by decide +kernel
theorem dX2_passTick_59 : decode cX2_passTick 59 = .ok (.iload_n 3, 1) := by decide +kernel
theorem dX2_passTick_60 : decode cX2_passTick 60 = .ok (.isub, 1) := by decide +kernel
theorem dX2_passTick_61 : decode cX2_passTick 61 = .ok (.aaload, 1) := by decide +kernel
theorem dX2_passTick_62 : decode cX2_passTick 62 = .ok (.invokevirtual 45, 3) := by decide +kernel
theorem dX2_passTick_65 : decode cX2_passTick 65 = .ok (.iadd, 1) := by decide +kernel
theorem dX2_passTick_66 : decode cX2_passTick 66 = .ok (.istore_n 2, 1) := by decide +kernel
theorem dX2_passTick_67 : decode cX2_passTick 67 = .ok (.iinc 3 1, 3) := by decide +kernel
theorem dX2_passTick_70 : decode cX2_passTick 70 = .ok (.goto (-29), 3) := by decide +kernel
theorem dX2_passTick_73 : decode cX2_passTick 73 = .ok (.iload_n 1, 1) := by decide +kernel
theorem dX2_passTick_74 : decode cX2_passTick 74 = .ok (.ifCond .eq 5, 3) := by decide +kernel
theorem dX2_passTick_77 : decode cX2_passTick 77 = .ok (.iload_n 2, 1) := by decide +kernel
theorem dX2_passTick_78 : decode cX2_passTick 78 = .ok (.ireturn, 1) := by decide +kernel
theorem dX2_passTick_79 : decode cX2_passTick 79 = .ok (.iconst 0, 1) := by decide +kernel
theorem dX2_passTick_80 : decode cX2_passTick 80 = .ok (.istore_n 3, 1) := by decide +kernel
theorem dX2_passTick_81 : decode cX2_passTick 81 = .ok (.iload_n 3, 1) := by decide +kernel
theorem dX2_passTick_82 : decode cX2_passTick 82 = .ok (.iconst 2, 1) := by decide +kernel
theorem dX2_passTick_83 : decode cX2_passTick 83 = .ok (.if_icmp .ge 19, 3) := by decide +kernel
theorem dX2_passTick_86 : decode cX2_passTick 86 = .ok (.aload_n 0, 1) := by decide +kernel
theorem dX2_passTick_87 : decode cX2_passTick 87 = .ok (.aload_n 0, 1) := by decide +kernel
theorem dX2_passTick_88 : decode cX2_passTick 88 = .ok (.getfield 12, 3) := by decide +kernel
theorem dX2_passTick_91 : decode cX2_passTick 91 = .ok (.iload_n 3, 1) := by decide +kernel
theorem dX2_passTick_92 : decode cX2_passTick 92 = .ok (.aaload, 1) := by decide +kernel
theorem dX2_passTick_93 : decode cX2_passTick 93 = .ok (.invokevirtual 49, 3) := by decide +kernel
theorem dX2_passTick_96 : decode cX2_passTick 96 = .ok (.iinc 3 1, 3) := by decide +kernel
theorem dX2_passTick_99 : decode cX2_passTick 99 = .ok (.goto (-18), 3) := by decide +kernel
theorem dX2_passTick_102 : decode cX2_passTick 102 = .ok (.iconst 0, 1) := by decide +kernel
theorem dX2_passTick_103 : decode cX2_passTick 103 = .ok (.istore_n 3, 1) := by decide +kernel
theorem dX2_passTick_104 : decode cX2_passTick 104 = .ok (.iload_n 3, 1) := by decide +kernel
theorem dX2_passTick_105 : decode cX2_passTick 105 = .ok (.iconst 2, 1) := by decide +kernel
theorem dX2_passTick_106 : decode cX2_passTick 106 = .ok (.if_icmp .ge 32, 3) := by decide +kernel
theorem dX2_passTick_109 : decode cX2_passTick 109 = .ok (.aload_n 0, 1) := by decide +kernel
theorem dX2_passTick_110 : decode cX2_passTick 110 = .ok (.getfield 42, 3) := by decide +kernel
theorem dX2_passTick_113 : decode cX2_passTick 113 = .ok (.ifCond .ne 25, 3) := by decide +kernel
theorem dX2_passTick_116 : decode cX2_passTick 116 = .ok (.aload_n 0, 1) := by decide +kernel
theorem dX2_passTick_117 : decode cX2_passTick 117 = .ok (.aload_n 0, 1) := by decide +kernel
theorem dX2_passTick_118 : decode cX2_passTick 118 = .ok (.getfield 12, 3) := by decide +kernel
theorem dX2_passTick_121 : decode cX2_passTick 121 = .ok (.iload_n 3, 1) := by decide +kernel
theorem dX2_passTick_122 : decode cX2_passTick 122 = .ok (.aaload, 1) := by decide +kernel
theorem dX2_passTick_123 : decode cX2_passTick 123 = .ok (.aload_n 0, 1) := by decide +kernel
theorem dX2_passTick_124 : decode cX2_passTick 124 = .ok (.getfield 21, 3) := by decide +kernel
theorem dX2_passTick_127 : decode cX2_passTick 127 = .ok (.iload_n 3, 1) := by decide +kernel
theorem dX2_passTick_128 : decode cX2_passTick 128 = .ok (.aaload, 1) := by decide +kernel
theorem dX2_passTick_129 : decode cX2_passTick 129 = .ok (.invokevirtual 53, 3) := by decide +kernel
theorem dX2_passTick_132 : decode cX2_passTick 132 = .ok (.iinc 3 1, 3) := by decide +kernel
theorem dX2_passTick_135 : decode cX2_passTick 135 = .ok (.goto (-31), 3) := by decide +kernel
theorem dX2_passTick_138 : decode cX2_passTick 138 = .ok (.iload_n 2, 1) := by decide +kernel
theorem dX2_passTick_139 : decode cX2_passTick 139 = .ok (.ireturn, 1) := by decide +kernel
theorem dX2_isQuiet_0 : decode cX2_isQuiet 0 = .ok (.aload_n 0, 1) := by decide +kernel
theorem dX2_isQuiet_1 : decode cX2_isQuiet 1 = .ok (.getfield 42, 3) := by decide +kernel
theorem dX2_isQuiet_4 : decode cX2_isQuiet 4 = .ok (.ifCond .ne 55, 3) := by decide +kernel
theorem dX2_isQuiet_7 : decode cX2_isQuiet 7 = .ok (.aload_n 0, 1) := by decide +kernel
theorem dX2_isQuiet_8 : decode cX2_isQuiet 8 = .ok (.getfield 21, 3) := by decide +kernel
theorem dX2_isQuiet_11 : decode cX2_isQuiet 11 = .ok (.iconst 0, 1) := by decide +kernel
theorem dX2_isQuiet_12 : decode cX2_isQuiet 12 = .ok (.aaload, 1) := by decide +kernel
theorem dX2_isQuiet_13 : decode cX2_isQuiet 13 = .ok (.getfield 57, 3) := by decide +kernel
theorem dX2_isQuiet_16 : decode cX2_isQuiet 16 = .ok (.ifCond .ne 43, 3) := by decide +kernel
theorem dX2_isQuiet_19 : decode cX2_isQuiet 19 = .ok (.aload_n 0, 1) := by decide +kernel
theorem dX2_isQuiet_20 : decode cX2_isQuiet 20 = .ok (.getfield 21, 3) := by decide +kernel
theorem dX2_isQuiet_23 : decode cX2_isQuiet 23 = .ok (.iconst 1, 1) := by decide +kernel
theorem dX2_isQuiet_24 : decode cX2_isQuiet 24 = .ok (.aaload, 1) := by decide +kernel
theorem dX2_isQuiet_25 : decode cX2_isQuiet 25 = .ok (.getfield 57, 3) := by decide +kernel
theorem dX2_isQuiet_28 : decode cX2_isQuiet 28 = .ok (.ifCond .ne 31, 3) := by decide +kernel
theorem dX2_isQuiet_31 : decode cX2_isQuiet 31 = .ok (.aload_n 0, 1) := by decide +kernel
theorem dX2_isQuiet_32 : decode cX2_isQuiet 32 = .ok (.getfield 12, 3) := by decide +kernel
theorem dX2_isQuiet_35 : decode cX2_isQuiet 35 = .ok (.iconst 0, 1) := by decide +kernel
theorem dX2_isQuiet_36 : decode cX2_isQuiet 36 = .ok (.aaload, 1) := by decide +kernel
theorem dX2_isQuiet_37 : decode cX2_isQuiet 37 = .ok (.invokevirtual 60, 3) := by decide +kernel
theorem dX2_isQuiet_40 : decode cX2_isQuiet 40 = .ok (.ifCond .eq 19, 3) := by decide +kernel
theorem dX2_isQuiet_43 : decode cX2_isQuiet 43 = .ok (.aload_n 0, 1) := by decide +kernel
theorem dX2_isQuiet_44 : decode cX2_isQuiet 44 = .ok (.getfield 12, 3) := by decide +kernel
theorem dX2_isQuiet_47 : decode cX2_isQuiet 47 = .ok (.iconst 1, 1) := by decide +kernel
theorem dX2_isQuiet_48 : decode cX2_isQuiet 48 = .ok (.aaload, 1) := by decide +kernel
theorem dX2_isQuiet_49 : decode cX2_isQuiet 49 = .ok (.invokevirtual 60, 3) := by decide +kernel
theorem dX2_isQuiet_52 : decode cX2_isQuiet 52 = .ok (.ifCond .eq 7, 3) := by decide +kernel
theorem dX2_isQuiet_55 : decode cX2_isQuiet 55 = .ok (.iconst 1, 1) := by decide +kernel
theorem dX2_isQuiet_56 : decode cX2_isQuiet 56 = .ok (.goto 4, 3) := by decide +kernel
theorem dX2_isQuiet_59 : decode cX2_isQuiet 59 = .ok (.iconst 0, 1) := by decide +kernel
theorem dX2_isQuiet_60 : decode cX2_isQuiet 60 = .ok (.ireturn, 1) := by decide +kernel
theorem dX2_copyFrom_0 : decode cX2_copyFrom 0 = .ok (.iconst 0, 1) := by decide +kernel
theorem dX2_copyFrom_1 : decode cX2_copyFrom 1 = .ok (.istore_n 2, 1) := by decide +kernel
theorem dX2_copyFrom_2 : decode cX2_copyFrom 2 = .ok (.iload_n 2, 1) := by decide +kernel
theorem dX2_copyFrom_3 : decode cX2_copyFrom 3 = .ok (.iconst 2, 1) := by decide +kernel
theorem dX2_copyFrom_4 : decode cX2_copyFrom 4 = .ok (.if_icmp .ge 39, 3) := by decide +kernel
theorem dX2_copyFrom_7 : decode cX2_copyFrom 7 = .ok (.aload_n 0, 1) := by decide +kernel
theorem dX2_copyFrom_8 : decode cX2_copyFrom 8 = .ok (.getfield 12, 3) := by decide +kernel
theorem dX2_copyFrom_11 : decode cX2_copyFrom 11 = .ok (.iload_n 2, 1) := by decide +kernel
theorem dX2_copyFrom_12 : decode cX2_copyFrom 12 = .ok (.aaload, 1) := by decide +kernel
theorem dX2_copyFrom_13 : decode cX2_copyFrom 13 = .ok (.aload_n 1, 1) := by decide +kernel
theorem dX2_copyFrom_14 : decode cX2_copyFrom 14 = .ok (.getfield 12, 3) := by decide +kernel
theorem dX2_copyFrom_17 : decode cX2_copyFrom 17 = .ok (.iload_n 2, 1) := by decide +kernel
theorem dX2_copyFrom_18 : decode cX2_copyFrom 18 = .ok (.aaload, 1) := by decide +kernel
theorem dX2_copyFrom_19 : decode cX2_copyFrom 19 = .ok (.invokevirtual 64, 3) := by decide +kernel
theorem dX2_copyFrom_22 : decode cX2_copyFrom 22 = .ok (.aload_n 0, 1) := by decide +kernel
theorem dX2_copyFrom_23 : decode cX2_copyFrom 23 = .ok (.getfield 21, 3) := by decide +kernel
theorem dX2_copyFrom_26 : decode cX2_copyFrom 26 = .ok (.iload_n 2, 1) := by decide +kernel
theorem dX2_copyFrom_27 : decode cX2_copyFrom 27 = .ok (.aaload, 1) := by decide +kernel
theorem dX2_copyFrom_28 : decode cX2_copyFrom 28 = .ok (.aload_n 1, 1) := by decide +kernel
theorem dX2_copyFrom_29 : decode cX2_copyFrom 29 = .ok (.getfield 21, 3) := by decide +kernel
theorem dX2_copyFrom_32 : decode cX2_copyFrom 32 = .ok (.iload_n 2, 1) := by decide +kernel
theorem dX2_copyFrom_33 : decode cX2_copyFrom 33 = .ok (.aaload, 1) := by decide +kernel
theorem dX2_copyFrom_34 : decode cX2_copyFrom 34 = .ok (.invokevirtual 67, 3) := by decide +kernel
theorem dX2_copyFrom_37 : decode cX2_copyFrom 37 = .ok (.iinc 2 1, 3) := by decide +kernel
theorem dX2_copyFrom_40 : decode cX2_copyFrom 40 = .ok (.goto (-38), 3) := by decide +kernel
theorem dX2_copyFrom_43 : decode cX2_copyFrom 43 = .ok (.aload_n 1, 1) := by decide +kernel
theorem dX2_copyFrom_44 : decode cX2_copyFrom 44 = .ok (.getfield 25, 3) := by decide +kernel
theorem dX2_copyFrom_47 : decode cX2_copyFrom 47 = .ok (.iconst 0, 1) := by decide +kernel
theorem dX2_copyFrom_48 : decode cX2_copyFrom 48 = .ok (.aload_n 0, 1) := by decide +kernel
theorem dX2_copyFrom_49 : decode cX2_copyFrom 49 = .ok (.getfield 25, 3) := by decide +kernel
theorem dX2_copyFrom_52 : decode cX2_copyFrom 52 = .ok (.iconst 0, 1) := by decide +kernel
theorem dX2_copyFrom_53 : decode cX2_copyFrom 53 = .ok (.aload_n 0, 1) := by decide +kernel
theorem dX2_copyFrom_54 : decode cX2_copyFrom 54 = .ok (.getfield 25, 3) := by decide +kernel
theorem dX2_copyFrom_57 : decode cX2_copyFrom 57 = .ok (.arraylength, 1) := by decide +kernel
theorem dX2_copyFrom_58 : decode cX2_copyFrom 58 = .ok (.invokestatic 70, 3) := by decide +kernel
theorem dX2_copyFrom_61 : decode cX2_copyFrom 61 = .ok (.aload_n 0, 1) := by decide +kernel
theorem dX2_copyFrom_62 : decode cX2_copyFrom 62 = .ok (.aload_n 1, 1) := by decide +kernel
theorem dX2_copyFrom_63 : decode cX2_copyFrom 63 = .ok (.getfield 39, 3) := by decide +kernel
theorem dX2_copyFrom_66 : decode cX2_copyFrom 66 = .ok (.putfield 39, 3) := by decide +kernel
theorem dX2_copyFrom_69 : decode cX2_copyFrom 69 = .ok (.aload_n 0, 1) := by decide +kernel
theorem dX2_copyFrom_70 : decode cX2_copyFrom 70 = .ok (.aload_n 1, 1) := by decide +kernel
theorem dX2_copyFrom_71 : decode cX2_copyFrom 71 = .ok (.getfield 42, 3) := by decide +kernel
theorem dX2_copyFrom_74 : decode cX2_copyFrom 74 = .ok (.putfield 42, 3) := by decide +kernel
theorem dX2_copyFrom_77 : decode cX2_copyFrom 77 = .ok (.aload_n 0, 1) := by decide +kernel
theorem dX2_copyFrom_78 : decode cX2_copyFrom 78 = .ok (.aload_n 1, 1) := by decide +kernel
theorem dX2_copyFrom_79 : decode cX2_copyFrom 79 = .ok (.getfield 29, 3) := by decide +kernel
theorem dX2_copyFrom_82 : decode cX2_copyFrom 82 = .ok (.putfield 29, 3) := by decide +kernel
theorem dX2_copyFrom_85 : decode cX2_copyFrom 85 = .ok (.aload_n 0, 1) := by decide +kernel
theorem dX2_copyFrom_86 : decode cX2_copyFrom 86 = .ok (.aload_n 1, 1) := by decide +kernel
theorem dX2_copyFrom_87 : decode cX2_copyFrom 87 = .ok (.getfield 33, 3) := by decide +kernel
theorem dX2_copyFrom_90 : decode cX2_copyFrom 90 = .ok (.putfield 33, 3) := by decide +kernel
theorem dX2_copyFrom_93 : decode cX2_copyFrom 93 = .ok (.aload_n 0, 1) := by decide +kernel
theorem dX2_copyFrom_94 : decode cX2_copyFrom 94 = .ok (.aload_n 1, 1) := by decide +kernel
theorem dX2_copyFrom_95 : decode cX2_copyFrom 95 = .ok (.getfield 36, 3) := by decide +kernel
theorem dX2_copyFrom_98 : decode cX2_copyFrom 98 = .ok (.putfield 36, 3) := by decide +kernel
theorem dX2_copyFrom_101 : decode cX2_copyFrom 101 = .ok (.return_, 1) := by decide +kernel
theorem dX2_receive_0 : decode cX2_receive 0 = .ok (.iconst 0, 1) := by decide +kernel
theorem dX2_receive_1 : decode cX2_receive 1 = .ok (.istore_n 3, 1) := by decide +kernel
theorem dX2_receive_2 : decode cX2_receive 2 = .ok (.iload_n 3, 1) := by decide +kernel
theorem dX2_receive_3 : decode cX2_receive 3 = .ok (.bipush 12, 2) := by decide +kernel
theorem dX2_receive_5 : decode cX2_receive 5 = .ok (.if_icmp .ge 37, 3) := by decide +kernel
theorem dX2_receive_8 : decode cX2_receive 8 = .ok (.aload_n 1, 1) := by decide +kernel
theorem dX2_receive_9 : decode cX2_receive 9 = .ok (.aload_n 0, 1) := by decide +kernel
theorem dX2_receive_10 : decode cX2_receive 10 = .ok (.getfield 39, 3) := by decide +kernel
theorem dX2_receive_13 : decode cX2_receive 13 = .ok (.invokevirtual 76, 3) := by decide +kernel
theorem dX2_receive_16 : decode cX2_receive 16 = .ok (.istore 4, 2) := by decide +kernel
theorem dX2_receive_18 : decode cX2_receive 18 = .ok (.iload 4, 2) := by decide +kernel
theorem dX2_receive_20 : decode cX2_receive 20 = .ok (.ifCond .ge 5, 3) := by decide +kernel
theorem dX2_receive_23 : decode cX2_receive 23 = .ok (.iload_n 3, 1) := by decide +kernel
theorem dX2_receive_24 : decode cX2_receive 24 = .ok (.ireturn, 1) := by decide +kernel
theorem dX2_receive_25 : decode cX2_receive 25 = .ok (.aload_n 0, 1) := by decide +kernel
theorem dX2_receive_26 : decode cX2_receive 26 = .ok (.aload_n 1, 1) := by decide +kernel
theorem dX2_receive_27 : decode cX2_receive 27 = .ok (.iload 4, 2) := by decide +kernel
theorem dX2_receive_29 : decode cX2_receive 29 = .ok (.invokevirtual 80, 3) := by decide +kernel
theorem dX2_receive_32 : decode cX2_receive 32 = .ok (.aload_n 2, 1) := by decide +kernel
theorem dX2_receive_33 : decode cX2_receive 33 = .ok (.invokevirtual 84, 3) := by decide +kernel
theorem dX2_receive_36 : decode cX2_receive 36 = .ok (.iinc 3 1, 3) := by decide +kernel
theorem dX2_receive_39 : decode cX2_receive 39 = .ok (.goto (-37), 3) := by decide +kernel
theorem dX2_receive_42 : decode cX2_receive 42 = .ok (.bipush 12, 2) := by decide +kernel
theorem dX2_receive_44 : decode cX2_receive 44 = .ok (.ireturn, 1) := by decide +kernel
theorem dX2_takeIn_0 : decode cX2_takeIn 0 = .ok (.aload_n 1, 1) := by decide +kernel
theorem dX2_takeIn_1 : decode cX2_takeIn 1 = .ok (.invokevirtual 88, 3) := by decide +kernel
theorem dX2_takeIn_4 : decode cX2_takeIn 4 = .ok (.istore_n 3, 1) := by decide +kernel
theorem dX2_takeIn_5 : decode cX2_takeIn 5 = .ok (.iload_n 3, 1) := by decide +kernel
theorem dX2_takeIn_6 : decode cX2_takeIn 6 = .ok (.tableswitch 88 0 4 #[34, 43, 57, 57, 70], 34) := by decide +kernel
theorem dX2_takeIn_40 : decode cX2_takeIn 40 = .ok (.aload_n 0, 1) := by decide +kernel
theorem dX2_takeIn_41 : decode cX2_takeIn 41 = .ok (.aload_n 1, 1) := by decide +kernel
theorem dX2_takeIn_42 : decode cX2_takeIn 42 = .ok (.aload_n 2, 1) := by decide +kernel
theorem dX2_takeIn_43 : decode cX2_takeIn 43 = .ok (.invokevirtual 94, 3) := by decide +kernel
theorem dX2_takeIn_46 : decode cX2_takeIn 46 = .ok (.goto 59, 3) := by decide +kernel
theorem dX2_takeIn_49 : decode cX2_takeIn 49 = .ok (.aload_n 0, 1) := by decide +kernel
theorem dX2_takeIn_50 : decode cX2_takeIn 50 = .ok (.getfield 25, 3) := by decide +kernel
theorem dX2_takeIn_53 : decode cX2_takeIn 53 = .ok (.bipush 12, 2) := by decide +kernel
theorem dX2_takeIn_55 : decode cX2_takeIn 55 = .ok (.dup2, 1) := by decide +kernel
theorem dX2_takeIn_56 : decode cX2_takeIn 56 = .ok (.iaload, 1) := by decide +kernel
theorem dX2_takeIn_57 : decode cX2_takeIn 57 = .ok (.iconst 1, 1) := by decide +kernel
theorem dX2_takeIn_58 : decode cX2_takeIn 58 = .ok (.iadd, 1) := by decide +kernel
theorem dX2_takeIn_59 : decode cX2_takeIn 59 = .ok (.iastore, 1) := by decide +kernel
theorem dX2_takeIn_60 : decode cX2_takeIn 60 = .ok (.goto 45, 3) := by decide +kernel
theorem dX2_takeIn_63 : decode cX2_takeIn 63 = .ok (.aload_n 0, 1) := by decide +kernel
theorem dX2_takeIn_64 : decode cX2_takeIn 64 = .ok (.iload_n 3, 1) := by decide +kernel
theorem dX2_takeIn_65 : decode cX2_takeIn 65 = .ok (.aload_n 1, 1) := by decide +kernel
theorem dX2_takeIn_66 : decode cX2_takeIn 66 = .ok (.invokevirtual 97, 3) := by decide +kernel
theorem dX2_takeIn_69 : decode cX2_takeIn 69 = .ok (.aload_n 2, 1) := by decide +kernel
theorem dX2_takeIn_70 : decode cX2_takeIn 70 = .ok (.invokevirtual 100, 3) := by decide +kernel
theorem dX2_takeIn_73 : decode cX2_takeIn 73 = .ok (.goto 32, 3) := by decide +kernel
theorem dX2_takeIn_76 : decode cX2_takeIn 76 = .ok (.aload_n 0, 1) := by decide +kernel
theorem dX2_takeIn_77 : decode cX2_takeIn 77 = .ok (.getfield 25, 3) := by decide +kernel
theorem dX2_takeIn_80 : decode cX2_takeIn 80 = .ok (.bipush 15, 2) := by decide +kernel
theorem dX2_takeIn_82 : decode cX2_takeIn 82 = .ok (.dup2, 1) := by decide +kernel
theorem dX2_takeIn_83 : decode cX2_takeIn 83 = .ok (.iaload, 1) := by decide +kernel
theorem dX2_takeIn_84 : decode cX2_takeIn 84 = .ok (.iconst 1, 1) := by decide +kernel
theorem dX2_takeIn_85 : decode cX2_takeIn 85 = .ok (.iadd, 1) := by decide +kernel
theorem dX2_takeIn_86 : decode cX2_takeIn 86 = .ok (.iastore, 1) := by decide +kernel
theorem dX2_takeIn_87 : decode cX2_takeIn 87 = .ok (.aload_n 2, 1) := by decide +kernel
theorem dX2_takeIn_88 : decode cX2_takeIn 88 = .ok (.invokevirtual 104, 3) := by decide +kernel
theorem dX2_takeIn_91 : decode cX2_takeIn 91 = .ok (.goto 14, 3) := by decide +kernel
theorem dX2_takeIn_94 : decode cX2_takeIn 94 = .ok (.aload_n 0, 1) := by decide +kernel
theorem dX2_takeIn_95 : decode cX2_takeIn 95 = .ok (.getfield 25, 3) := by decide +kernel
theorem dX2_takeIn_98 : decode cX2_takeIn 98 = .ok (.bipush 16, 2) := by decide +kernel
theorem dX2_takeIn_100 : decode cX2_takeIn 100 = .ok (.dup2, 1) := by decide +kernel
theorem dX2_takeIn_101 : decode cX2_takeIn 101 = .ok (.iaload, 1) := by decide +kernel
theorem dX2_takeIn_102 : decode cX2_takeIn 102 = .ok (.iconst 1, 1) := by decide +kernel
theorem dX2_takeIn_103 : decode cX2_takeIn 103 = .ok (.iadd, 1) := by decide +kernel
theorem dX2_takeIn_104 : decode cX2_takeIn 104 = .ok (.iastore, 1) := by decide +kernel
theorem dX2_takeIn_105 : decode cX2_takeIn 105 = .ok (.return_, 1) := by decide +kernel
theorem dX2_takeInData_0 : decode cX2_takeInData 0 = .ok (.aload_n 1, 1) := by decide +kernel
theorem dX2_takeInData_1 : decode cX2_takeInData 1 = .ok (.invokevirtual 97, 3) := by decide +kernel
theorem dX2_takeInData_4 : decode cX2_takeInData 4 = .ok (.aload_n 2, 1) := by decide +kernel
theorem dX2_takeInData_5 : decode cX2_takeInData 5 = .ok (.getfield 107, 3) := by decide +kernel
theorem dX2_takeInData_8 : decode cX2_takeInData 8 = .ok (.isub, 1) := by decide +kernel
theorem dX2_takeInData_9 : decode cX2_takeInData 9 = .ok (.invokestatic 110, 3) := by decide +kernel
theorem dX2_takeInData_12 : decode cX2_takeInData 12 = .ok (.istore_n 3, 1) := by decide +kernel
theorem dX2_takeInData_13 : decode cX2_takeInData 13 = .ok (.iload_n 3, 1) := by decide +kernel
theorem dX2_takeInData_14 : decode cX2_takeInData 14 = .ok (.ifCond .ne 30, 3) := by decide +kernel
theorem dX2_takeInData_17 : decode cX2_takeInData 17 = .ok (.aload_n 0, 1) := by decide +kernel
theorem dX2_takeInData_18 : decode cX2_takeInData 18 = .ok (.getfield 25, 3) := by decide +kernel
theorem dX2_takeInData_21 : decode cX2_takeInData 21 = .ok (.bipush 9, 2) := by decide +kernel
theorem dX2_takeInData_23 : decode cX2_takeInData 23 = .ok (.dup2, 1) := by decide +kernel
theorem dX2_takeInData_24 : decode cX2_takeInData 24 = .ok (.iaload, 1) := by decide +kernel
theorem dX2_takeInData_25 : decode cX2_takeInData 25 = .ok (.iconst 1, 1) := by decide +kernel
theorem dX2_takeInData_26 : decode cX2_takeInData 26 = .ok (.iadd, 1) := by decide +kernel
theorem dX2_takeInData_27 : decode cX2_takeInData 27 = .ok (.iastore, 1) := by decide +kernel
theorem dX2_takeInData_28 : decode cX2_takeInData 28 = .ok (.aload_n 2, 1) := by decide +kernel
theorem dX2_takeInData_29 : decode cX2_takeInData 29 = .ok (.aload_n 1, 1) := by decide +kernel
theorem dX2_takeInData_30 : decode cX2_takeInData 30 = .ok (.invokevirtual 113, 3) := by decide +kernel
theorem dX2_takeInData_33 : decode cX2_takeInData 33 = .ok (.aload_n 2, 1) := by decide +kernel
theorem dX2_takeInData_34 : decode cX2_takeInData 34 = .ok (.aload_n 0, 1) := by decide +kernel
theorem dX2_takeInData_35 : decode cX2_takeInData 35 = .ok (.getfield 36, 3) := by decide +kernel
theorem dX2_takeInData_38 : decode cX2_takeInData 38 = .ok (.invokevirtual 117, 3) := by decide +kernel
theorem dX2_takeInData_41 : decode cX2_takeInData 41 = .ok (.goto 46, 3) := by decide +kernel
theorem dX2_takeInData_44 : decode cX2_takeInData 44 = .ok (.iload_n 3, 1) := by decide +kernel
theorem dX2_takeInData_45 : decode cX2_takeInData 45 = .ok (.bipush 32, 2) := by decide +kernel
theorem dX2_takeInData_47 : decode cX2_takeInData 47 = .ok (.if_icmp .lt 25, 3) := by decide +kernel
theorem dX2_takeInData_50 : decode cX2_takeInData 50 = .ok (.aload_n 0, 1) := by decide +kernel
theorem dX2_takeInData_51 : decode cX2_takeInData 51 = .ok (.getfield 25, 3) := by decide +kernel
theorem dX2_takeInData_54 : decode cX2_takeInData 54 = .ok (.bipush 10, 2) := by decide +kernel
theorem dX2_takeInData_56 : decode cX2_takeInData 56 = .ok (.dup2, 1) := by decide +kernel
theorem dX2_takeInData_57 : decode cX2_takeInData 57 = .ok (.iaload, 1) := by decide +kernel
theorem dX2_takeInData_58 : decode cX2_takeInData 58 = .ok (.iconst 1, 1) := by decide +kernel
theorem dX2_takeInData_59 : decode cX2_takeInData 59 = .ok (.iadd, 1) := by decide +kernel
theorem dX2_takeInData_60 : decode cX2_takeInData 60 = .ok (.iastore, 1) := by decide +kernel
theorem dX2_takeInData_61 : decode cX2_takeInData 61 = .ok (.aload_n 2, 1) := by decide +kernel
theorem dX2_takeInData_62 : decode cX2_takeInData 62 = .ok (.aload_n 0, 1) := by decide +kernel
theorem dX2_takeInData_63 : decode cX2_takeInData 63 = .ok (.getfield 36, 3) := by decide +kernel
theorem dX2_takeInData_66 : decode cX2_takeInData 66 = .ok (.invokevirtual 117, 3) := by decide +kernel
theorem dX2_takeInData_69 : decode cX2_takeInData 69 = .ok (.goto 18, 3) := by decide +kernel
theorem dX2_takeInData_72 : decode cX2_takeInData 72 = .ok (.aload_n 0, 1) := by decide +kernel
theorem dX2_takeInData_73 : decode cX2_takeInData 73 = .ok (.getfield 25, 3) := by decide +kernel
theorem dX2_takeInData_76 : decode cX2_takeInData 76 = .ok (.bipush 11, 2) := by decide +kernel
theorem dX2_takeInData_78 : decode cX2_takeInData 78 = .ok (.dup2, 1) := by decide +kernel
theorem dX2_takeInData_79 : decode cX2_takeInData 79 = .ok (.iaload, 1) := by decide +kernel
theorem dX2_takeInData_80 : decode cX2_takeInData 80 = .ok (.iconst 1, 1) := by decide +kernel
theorem dX2_takeInData_81 : decode cX2_takeInData 81 = .ok (.iadd, 1) := by decide +kernel
theorem dX2_takeInData_82 : decode cX2_takeInData 82 = .ok (.iastore, 1) := by decide +kernel
theorem dX2_takeInData_83 : decode cX2_takeInData 83 = .ok (.aload_n 2, 1) := by decide +kernel
theorem dX2_takeInData_84 : decode cX2_takeInData 84 = .ok (.invokevirtual 104, 3) := by decide +kernel
theorem dX2_takeInData_87 : decode cX2_takeInData 87 = .ok (.return_, 1) := by decide +kernel
theorem dX2_takeInWord_0 : decode cX2_takeInWord 0 = .ok (.aload_n 0, 1) := by decide +kernel
theorem dX2_takeInWord_1 : decode cX2_takeInWord 1 = .ok (.getfield 25, 3) := by decide +kernel
theorem dX2_takeInWord_4 : decode cX2_takeInWord 4 = .ok (.bipush 13, 2) := by decide +kernel
theorem dX2_takeInWord_6 : decode cX2_takeInWord 6 = .ok (.dup2, 1) := by decide +kernel
theorem dX2_takeInWord_7 : decode cX2_takeInWord 7 = .ok (.iaload, 1) := by decide +kernel
theorem dX2_takeInWord_8 : decode cX2_takeInWord 8 = .ok (.iconst 1, 1) := by decide +kernel
theorem dX2_takeInWord_9 : decode cX2_takeInWord 9 = .ok (.iadd, 1) := by decide +kernel
theorem dX2_takeInWord_10 : decode cX2_takeInWord 10 = .ok (.iastore, 1) := by decide +kernel
theorem dX2_takeInWord_11 : decode cX2_takeInWord 11 = .ok (.aload_n 3, 1) := by decide +kernel
theorem dX2_takeInWord_12 : decode cX2_takeInWord 12 = .ok (.invokevirtual 121, 3) := by decide +kernel
theorem dX2_takeInWord_15 : decode cX2_takeInWord 15 = .ok (.iconst 1, 1) := by decide +kernel
theorem dX2_takeInWord_16 : decode cX2_takeInWord 16 = .ok (.isub, 1) := by decide +kernel
theorem dX2_takeInWord_17 : decode cX2_takeInWord 17 = .ok (.iload_n 2, 1) := by decide +kernel
theorem dX2_takeInWord_18 : decode cX2_takeInWord 18 = .ok (.isub, 1) := by decide +kernel
theorem dX2_takeInWord_19 : decode cX2_takeInWord 19 = .ok (.invokestatic 110, 3) := by decide +kernel
theorem dX2_takeInWord_22 : decode cX2_takeInWord 22 = .ok (.bipush 32, 2) := by decide +kernel
theorem dX2_takeInWord_24 : decode cX2_takeInWord 24 = .ok (.if_icmp .lt 15, 3) := by decide +kernel
theorem dX2_takeInWord_27 : decode cX2_takeInWord 27 = .ok (.aload_n 0, 1) := by decide +kernel
theorem dX2_takeInWord_28 : decode cX2_takeInWord 28 = .ok (.getfield 25, 3) := by decide +kernel
theorem dX2_takeInWord_31 : decode cX2_takeInWord 31 = .ok (.bipush 14, 2) := by decide +kernel
theorem dX2_takeInWord_33 : decode cX2_takeInWord 33 = .ok (.dup2, 1) := by decide +kernel
theorem dX2_takeInWord_34 : decode cX2_takeInWord 34 = .ok (.iaload, 1) := by decide +kernel
theorem dX2_takeInWord_35 : decode cX2_takeInWord 35 = .ok (.iconst 1, 1) := by decide +kernel
theorem dX2_takeInWord_36 : decode cX2_takeInWord 36 = .ok (.iadd, 1) := by decide +kernel
theorem dX2_takeInWord_37 : decode cX2_takeInWord 37 = .ok (.iastore, 1) := by decide +kernel
theorem dX2_takeInWord_38 : decode cX2_takeInWord 38 = .ok (.return_, 1) := by decide +kernel
theorem dX2_takeInWord_39 : decode cX2_takeInWord 39 = .ok (.aload_n 3, 1) := by decide +kernel
theorem dX2_takeInWord_40 : decode cX2_takeInWord 40 = .ok (.iload_n 2, 1) := by decide +kernel
theorem dX2_takeInWord_41 : decode cX2_takeInWord 41 = .ok (.invokevirtual 124, 3) := by decide +kernel
theorem dX2_takeInWord_44 : decode cX2_takeInWord 44 = .ok (.iload_n 1, 1) := by decide +kernel
theorem dX2_takeInWord_45 : decode cX2_takeInWord 45 = .ok (.iconst 3, 1) := by decide +kernel
theorem dX2_takeInWord_46 : decode cX2_takeInWord 46 = .ok (.if_icmp .ne 15, 3) := by decide +kernel
theorem dX2_takeInWord_49 : decode cX2_takeInWord 49 = .ok (.aload_n 3, 1) := by decide +kernel
theorem dX2_takeInWord_50 : decode cX2_takeInWord 50 = .ok (.invokevirtual 127, 3) := by decide +kernel
theorem dX2_takeInWord_53 : decode cX2_takeInWord 53 = .ok (.ifCond .le 8, 3) := by decide +kernel
theorem dX2_takeInWord_56 : decode cX2_takeInWord 56 = .ok (.aload_n 0, 1) := by decide +kernel
theorem dX2_takeInWord_57 : decode cX2_takeInWord 57 = .ok (.aload_n 3, 1) := by decide +kernel
theorem dX2_takeInWord_58 : decode cX2_takeInWord 58 = .ok (.invokevirtual 130, 3) := by decide +kernel
theorem dX2_takeInWord_61 : decode cX2_takeInWord 61 = .ok (.return_, 1) := by decide +kernel
theorem dX2_runTimers_0 : decode cX2_runTimers 0 = .ok (.aload_n 1, 1) := by decide +kernel
theorem dX2_runTimers_1 : decode cX2_runTimers 1 = .ok (.getfield 133, 3) := by decide +kernel
theorem dX2_runTimers_4 : decode cX2_runTimers 4 = .ok (.ifCond .le 13, 3) := by decide +kernel
theorem dX2_runTimers_7 : decode cX2_runTimers 7 = .ok (.aload_n 1, 1) := by decide +kernel
theorem dX2_runTimers_8 : decode cX2_runTimers 8 = .ok (.dup, 1) := by decide +kernel
theorem dX2_runTimers_9 : decode cX2_runTimers 9 = .ok (.getfield 133, 3) := by decide +kernel
theorem dX2_runTimers_12 : decode cX2_runTimers 12 = .ok (.iconst 1, 1) := by decide +kernel
theorem dX2_runTimers_13 : decode cX2_runTimers 13 = .ok (.isub, 1) := by decide +kernel
theorem dX2_runTimers_14 : decode cX2_runTimers 14 = .ok (.putfield 133, 3) := by decide +kernel
theorem dX2_runTimers_17 : decode cX2_runTimers 17 = .ok (.aload_n 1, 1) := by decide +kernel
theorem dX2_runTimers_18 : decode cX2_runTimers 18 = .ok (.invokevirtual 127, 3) := by decide +kernel
theorem dX2_runTimers_21 : decode cX2_runTimers 21 = .ok (.ifCond .eq 10, 3) := by decide +kernel
theorem dX2_runTimers_24 : decode cX2_runTimers 24 = .ok (.aload_n 1, 1) := by decide +kernel
theorem dX2_runTimers_25 : decode cX2_runTimers 25 = .ok (.getfield 136, 3) := by decide +kernel
theorem dX2_runTimers_28 : decode cX2_runTimers 28 = .ok (.ifCond .le 4, 3) := by decide +kernel
theorem dX2_runTimers_31 : decode cX2_runTimers 31 = .ok (.return_, 1) := by decide +kernel
theorem dX2_runTimers_32 : decode cX2_runTimers 32 = .ok (.aload_n 1, 1) := by decide +kernel
theorem dX2_runTimers_33 : decode cX2_runTimers 33 = .ok (.dup, 1) := by decide +kernel
theorem dX2_runTimers_34 : decode cX2_runTimers 34 = .ok (.getfield 139, 3) := by decide +kernel
theorem dX2_runTimers_37 : decode cX2_runTimers 37 = .ok (.iconst 1, 1) := by decide +kernel
theorem dX2_runTimers_38 : decode cX2_runTimers 38 = .ok (.iadd, 1) := by decide +kernel
theorem dX2_runTimers_39 : decode cX2_runTimers 39 = .ok (.putfield 139, 3) := by decide +kernel
theorem dX2_runTimers_42 : decode cX2_runTimers 42 = .ok (.aload_n 1, 1) := by decide +kernel
theorem dX2_runTimers_43 : decode cX2_runTimers 43 = .ok (.getfield 139, 3) := by decide +kernel
theorem dX2_runTimers_46 : decode cX2_runTimers 46 = .ok (.aload_n 0, 1) := by decide +kernel
theorem dX2_runTimers_47 : decode cX2_runTimers 47 = .ok (.getfield 33, 3) := by decide +kernel
theorem dX2_runTimers_50 : decode cX2_runTimers 50 = .ok (.if_icmp .lt 8, 3) := by decide +kernel
theorem dX2_runTimers_53 : decode cX2_runTimers 53 = .ok (.aload_n 0, 1) := by decide +kernel
theorem dX2_runTimers_54 : decode cX2_runTimers 54 = .ok (.aload_n 1, 1) := by decide +kernel
theorem dX2_runTimers_55 : decode cX2_runTimers 55 = .ok (.invokevirtual 130, 3) := by decide +kernel
theorem dX2_runTimers_58 : decode cX2_runTimers 58 = .ok (.return_, 1) := by decide +kernel
theorem dX2_sendAgain_0 : decode cX2_sendAgain 0 = .ok (.aload_n 0, 1) := by decide +kernel
theorem dX2_sendAgain_1 : decode cX2_sendAgain 1 = .ok (.getfield 25, 3) := by decide +kernel
theorem dX2_sendAgain_4 : decode cX2_sendAgain 4 = .ok (.iconst 3, 1) := by decide +kernel
theorem dX2_sendAgain_5 : decode cX2_sendAgain 5 = .ok (.dup2, 1) := by decide +kernel
theorem dX2_sendAgain_6 : decode cX2_sendAgain 6 = .ok (.iaload, 1) := by decide +kernel
theorem dX2_sendAgain_7 : decode cX2_sendAgain 7 = .ok (.iconst 1, 1) := by decide +kernel
theorem dX2_sendAgain_8 : decode cX2_sendAgain 8 = .ok (.iadd, 1) := by decide +kernel
theorem dX2_sendAgain_9 : decode cX2_sendAgain 9 = .ok (.iastore, 1) := by decide +kernel
theorem dX2_sendAgain_10 : decode cX2_sendAgain 10 = .ok (.aload_n 1, 1) := by decide +kernel
theorem dX2_sendAgain_11 : decode cX2_sendAgain 11 = .ok (.dup, 1) := by decide +kernel
theorem dX2_sendAgain_12 : decode cX2_sendAgain 12 = .ok (.getfield 142, 3) := by decide +kernel
theorem dX2_sendAgain_15 : decode cX2_sendAgain 15 = .ok (.iconst 1, 1) := by decide +kernel
theorem dX2_sendAgain_16 : decode cX2_sendAgain 16 = .ok (.iadd, 1) := by decide +kernel
theorem dX2_sendAgain_17 : decode cX2_sendAgain 17 = .ok (.putfield 142, 3) := by decide +kernel
theorem dX2_sendAgain_20 : decode cX2_sendAgain 20 = .ok (.aload_n 1, 1) := by decide +kernel
theorem dX2_sendAgain_21 : decode cX2_sendAgain 21 = .ok (.iconst 0, 1) := by decide +kernel
theorem dX2_sendAgain_22 : decode cX2_sendAgain 22 = .ok (.putfield 139, 3) := by decide +kernel
theorem dX2_sendAgain_25 : decode cX2_sendAgain 25 = .ok (.aload_n 1, 1) := by decide +kernel
theorem dX2_sendAgain_26 : decode cX2_sendAgain 26 = .ok (.aload_n 1, 1) := by decide +kernel
theorem dX2_sendAgain_27 : decode cX2_sendAgain 27 = .ok (.invokevirtual 127, 3) := by decide +kernel
theorem dX2_sendAgain_30 : decode cX2_sendAgain 30 = .ok (.putfield 136, 3) := by decide +kernel
theorem dX2_sendAgain_33 : decode cX2_sendAgain 33 = .ok (.aload_n 1, 1) := by decide +kernel
theorem dX2_sendAgain_34 : decode cX2_sendAgain 34 = .ok (.getfield 142, 3) := by decide +kernel
theorem dX2_sendAgain_37 : decode cX2_sendAgain 37 = .ok (.iconst 4, 1) := by decide +kernel
theorem dX2_sendAgain_38 : decode cX2_sendAgain 38 = .ok (.if_icmp .lt 12, 3) := by decide +kernel
theorem dX2_sendAgain_41 : decode cX2_sendAgain 41 = .ok (.aload_n 1, 1) := by decide +kernel
theorem dX2_sendAgain_42 : decode cX2_sendAgain 42 = .ok (.iconst 0, 1) := by decide +kernel
theorem dX2_sendAgain_43 : decode cX2_sendAgain 43 = .ok (.putfield 142, 3) := by decide +kernel
theorem dX2_sendAgain_46 : decode cX2_sendAgain 46 = .ok (.aload_n 0, 1) := by decide +kernel
theorem dX2_sendAgain_47 : decode cX2_sendAgain 47 = .ok (.invokevirtual 145, 3) := by decide +kernel
theorem dX2_sendAgain_50 : decode cX2_sendAgain 50 = .ok (.return_, 1) := by decide +kernel
theorem dX2_train_0 : decode cX2_train 0 = .ok (.aload_n 0, 1) := by decide +kernel
theorem dX2_train_1 : decode cX2_train 1 = .ok (.getfield 25, 3) := by decide +kernel
theorem dX2_train_4 : decode cX2_train 4 = .ok (.iconst 2, 1) := by decide +kernel
theorem dX2_train_5 : decode cX2_train 5 = .ok (.dup2, 1) := by decide +kernel
theorem dX2_train_6 : decode cX2_train 6 = .ok (.iaload, 1) := by decide +kernel
theorem dX2_train_7 : decode cX2_train 7 = .ok (.iconst 1, 1) := by decide +kernel
theorem dX2_train_8 : decode cX2_train 8 = .ok (.iadd, 1) := by decide +kernel
theorem dX2_train_9 : decode cX2_train 9 = .ok (.iastore, 1) := by decide +kernel
theorem dX2_train_10 : decode cX2_train 10 = .ok (.aload_n 0, 1) := by decide +kernel
theorem dX2_train_11 : decode cX2_train 11 = .ok (.iconst 5, 1) := by decide +kernel
theorem dX2_train_12 : decode cX2_train 12 = .ok (.putfield 42, 3) := by decide +kernel
theorem dX2_train_15 : decode cX2_train 15 = .ok (.aload_n 0, 1) := by decide +kernel
theorem dX2_train_16 : decode cX2_train 16 = .ok (.getfield 21, 3) := by decide +kernel
theorem dX2_train_19 : decode cX2_train 19 = .ok (.iconst 0, 1) := by decide +kernel
theorem dX2_train_20 : decode cX2_train 20 = .ok (.aaload, 1) := by decide +kernel
theorem dX2_train_21 : decode cX2_train 21 = .ok (.iconst 0, 1) := by decide +kernel
theorem dX2_train_22 : decode cX2_train 22 = .ok (.putfield 57, 3) := by decide +kernel
theorem dX2_train_25 : decode cX2_train 25 = .ok (.aload_n 0, 1) := by decide +kernel
theorem dX2_train_26 : decode cX2_train 26 = .ok (.getfield 21, 3) := by decide +kernel
theorem dX2_train_29 : decode cX2_train 29 = .ok (.iconst 1, 1) := by decide +kernel
theorem dX2_train_30 : decode cX2_train 30 = .ok (.aaload, 1) := by decide +kernel
theorem dX2_train_31 : decode cX2_train 31 = .ok (.iconst 0, 1) := by decide +kernel
theorem dX2_train_32 : decode cX2_train 32 = .ok (.putfield 57, 3) := by decide +kernel
theorem dX2_train_35 : decode cX2_train 35 = .ok (.return_, 1) := by decide +kernel
theorem dX2_layOneFrame_0 : decode cX2_layOneFrame 0 = .ok (.aload_n 1, 1) := by decide +kernel
theorem dX2_layOneFrame_1 : decode cX2_layOneFrame 1 = .ok (.getfield 148, 3) := by decide +kernel
theorem dX2_layOneFrame_4 : decode cX2_layOneFrame 4 = .ok (.ifCond .eq 35, 3) := by decide +kernel
theorem dX2_layOneFrame_7 : decode cX2_layOneFrame 7 = .ok (.aload_n 0, 1) := by decide +kernel
theorem dX2_layOneFrame_8 : decode cX2_layOneFrame 8 = .ok (.getfield 25, 3) := by decide +kernel
theorem dX2_layOneFrame_11 : decode cX2_layOneFrame 11 = .ok (.bipush 8, 2) := by decide +kernel
theorem dX2_layOneFrame_13 : decode cX2_layOneFrame 13 = .ok (.dup2, 1) := by decide +kernel
theorem dX2_layOneFrame_14 : decode cX2_layOneFrame 14 = .ok (.iaload, 1) := by decide +kernel
theorem dX2_layOneFrame_15 : decode cX2_layOneFrame 15 = .ok (.iconst 1, 1) := by decide +kernel
theorem dX2_layOneFrame_16 : decode cX2_layOneFrame 16 = .ok (.iadd, 1) := by decide +kernel
theorem dX2_layOneFrame_17 : decode cX2_layOneFrame 17 = .ok (.iastore, 1) := by decide +kernel
theorem dX2_layOneFrame_18 : decode cX2_layOneFrame 18 = .ok (.aload_n 1, 1) := by decide +kernel
theorem dX2_layOneFrame_19 : decode cX2_layOneFrame 19 = .ok (.aload_n 2, 1) := by decide +kernel
theorem dX2_layOneFrame_20 : decode cX2_layOneFrame 20 = .ok (.aload_n 0, 1) := by decide +kernel
theorem dX2_layOneFrame_21 : decode cX2_layOneFrame 21 = .ok (.getfield 39, 3) := by decide +kernel
theorem dX2_layOneFrame_24 : decode cX2_layOneFrame 24 = .ok (.aload_n 0, 1) := by decide +kernel
theorem dX2_layOneFrame_25 : decode cX2_layOneFrame 25 = .ok (.getfield 29, 3) := by decide +kernel
theorem dX2_layOneFrame_28 : decode cX2_layOneFrame 28 = .ok (.iadd, 1) := by decide +kernel
theorem dX2_layOneFrame_29 : decode cX2_layOneFrame 29 = .ok (.invokevirtual 152, 3) := by decide +kernel
theorem dX2_layOneFrame_32 : decode cX2_layOneFrame 32 = .ok (.iconst 3, 1) := by decide +kernel
theorem dX2_layOneFrame_33 : decode cX2_layOneFrame 33 = .ok (.invokevirtual 155, 3) := by decide +kernel
theorem dX2_layOneFrame_36 : decode cX2_layOneFrame 36 = .ok (.goto 133, 3) := by decide +kernel
theorem dX2_layOneFrame_39 : decode cX2_layOneFrame 39 = .ok (.aload_n 1, 1) := by decide +kernel
theorem dX2_layOneFrame_40 : decode cX2_layOneFrame 40 = .ok (.getfield 133, 3) := by decide +kernel
theorem dX2_layOneFrame_43 : decode cX2_layOneFrame 43 = .ok (.ifCond .ne 35, 3) := by decide +kernel
theorem dX2_layOneFrame_46 : decode cX2_layOneFrame 46 = .ok (.aload_n 0, 1) := by decide +kernel
theorem dX2_layOneFrame_47 : decode cX2_layOneFrame 47 = .ok (.getfield 25, 3) := by decide +kernel
theorem dX2_layOneFrame_50 : decode cX2_layOneFrame 50 = .ok (.bipush 7, 2) := by decide +kernel
theorem dX2_layOneFrame_52 : decode cX2_layOneFrame 52 = .ok (.dup2, 1) := by decide +kernel
theorem dX2_layOneFrame_53 : decode cX2_layOneFrame 53 = .ok (.iaload, 1) := by decide +kernel
theorem dX2_layOneFrame_54 : decode cX2_layOneFrame 54 = .ok (.iconst 1, 1) := by decide +kernel
theorem dX2_layOneFrame_55 : decode cX2_layOneFrame 55 = .ok (.iadd, 1) := by decide +kernel
theorem dX2_layOneFrame_56 : decode cX2_layOneFrame 56 = .ok (.iastore, 1) := by decide +kernel
theorem dX2_layOneFrame_57 : decode cX2_layOneFrame 57 = .ok (.aload_n 1, 1) := by decide +kernel
theorem dX2_layOneFrame_58 : decode cX2_layOneFrame 58 = .ok (.aload_n 2, 1) := by decide +kernel
theorem dX2_layOneFrame_59 : decode cX2_layOneFrame 59 = .ok (.aload_n 0, 1) := by decide +kernel
theorem dX2_layOneFrame_60 : decode cX2_layOneFrame 60 = .ok (.getfield 39, 3) := by decide +kernel
theorem dX2_layOneFrame_63 : decode cX2_layOneFrame 63 = .ok (.aload_n 0, 1) := by decide +kernel
theorem dX2_layOneFrame_64 : decode cX2_layOneFrame 64 = .ok (.getfield 29, 3) := by decide +kernel
theorem dX2_layOneFrame_67 : decode cX2_layOneFrame 67 = .ok (.iadd, 1) := by decide +kernel
theorem dX2_layOneFrame_68 : decode cX2_layOneFrame 68 = .ok (.invokevirtual 152, 3) := by decide +kernel
theorem dX2_layOneFrame_71 : decode cX2_layOneFrame 71 = .ok (.iconst 2, 1) := by decide +kernel
theorem dX2_layOneFrame_72 : decode cX2_layOneFrame 72 = .ok (.invokevirtual 155, 3) := by decide +kernel
theorem dX2_layOneFrame_75 : decode cX2_layOneFrame 75 = .ok (.goto 94, 3) := by decide +kernel
theorem dX2_layOneFrame_78 : decode cX2_layOneFrame 78 = .ok (.aload_n 1, 1) := by decide +kernel
theorem dX2_layOneFrame_79 : decode cX2_layOneFrame 79 = .ok (.getfield 136, 3) := by decide +kernel
theorem dX2_layOneFrame_82 : decode cX2_layOneFrame 82 = .ok (.ifCond .le 53, 3) := by decide +kernel
theorem dX2_layOneFrame_85 : decode cX2_layOneFrame 85 = .ok (.aload_n 0, 1) := by decide +kernel
theorem dX2_layOneFrame_86 : decode cX2_layOneFrame 86 = .ok (.getfield 25, 3) := by decide +kernel
theorem dX2_layOneFrame_89 : decode cX2_layOneFrame 89 = .ok (.iconst 5, 1) := by decide +kernel
theorem dX2_layOneFrame_90 : decode cX2_layOneFrame 90 = .ok (.dup2, 1) := by decide +kernel
theorem dX2_layOneFrame_91 : decode cX2_layOneFrame 91 = .ok (.iaload, 1) := by decide +kernel
theorem dX2_layOneFrame_92 : decode cX2_layOneFrame 92 = .ok (.iconst 1, 1) := by decide +kernel
theorem dX2_layOneFrame_93 : decode cX2_layOneFrame 93 = .ok (.iadd, 1) := by decide +kernel
theorem dX2_layOneFrame_94 : decode cX2_layOneFrame 94 = .ok (.iastore, 1) := by decide +kernel
theorem dX2_layOneFrame_95 : decode cX2_layOneFrame 95 = .ok (.aload_n 1, 1) := by decide +kernel
theorem dX2_layOneFrame_96 : decode cX2_layOneFrame 96 = .ok (.aload_n 2, 1) := by decide +kernel
theorem dX2_layOneFrame_97 : decode cX2_layOneFrame 97 = .ok (.aload_n 0, 1) := by decide +kernel
theorem dX2_layOneFrame_98 : decode cX2_layOneFrame 98 = .ok (.getfield 39, 3) := by decide +kernel
theorem dX2_layOneFrame_101 : decode cX2_layOneFrame 101 = .ok (.aload_n 0, 1) := by decide +kernel
theorem dX2_layOneFrame_102 : decode cX2_layOneFrame 102 = .ok (.getfield 29, 3) := by decide +kernel
theorem dX2_layOneFrame_105 : decode cX2_layOneFrame 105 = .ok (.iadd, 1) := by decide +kernel
theorem dX2_layOneFrame_106 : decode cX2_layOneFrame 106 = .ok (.invokevirtual 152, 3) := by decide +kernel
theorem dX2_layOneFrame_109 : decode cX2_layOneFrame 109 = .ok (.iconst 0, 1) := by decide +kernel
theorem dX2_layOneFrame_110 : decode cX2_layOneFrame 110 = .ok (.aload_n 1, 1) := by decide +kernel
theorem dX2_layOneFrame_111 : decode cX2_layOneFrame 111 = .ok (.getfield 159, 3) := by decide +kernel
theorem dX2_layOneFrame_114 : decode cX2_layOneFrame 114 = .ok (.aload_n 1, 1) := by decide +kernel
theorem dX2_layOneFrame_115 : decode cX2_layOneFrame 115 = .ok (.getfield 136, 3) := by decide +kernel
theorem dX2_layOneFrame_118 : decode cX2_layOneFrame 118 = .ok (.isub, 1) := by decide +kernel
theorem dX2_layOneFrame_119 : decode cX2_layOneFrame 119 = .ok (.invokevirtual 162, 3) := by decide +kernel
theorem dX2_layOneFrame_122 : decode cX2_layOneFrame 122 = .ok (.aload_n 1, 1) := by decide +kernel
theorem dX2_layOneFrame_123 : decode cX2_layOneFrame 123 = .ok (.dup, 1) := by decide +kernel
theorem dX2_layOneFrame_124 : decode cX2_layOneFrame 124 = .ok (.getfield 136, 3) := by decide +kernel
theorem dX2_layOneFrame_127 : decode cX2_layOneFrame 127 = .ok (.iconst 1, 1) := by decide +kernel
theorem dX2_layOneFrame_128 : decode cX2_layOneFrame 128 = .ok (.isub, 1) := by decide +kernel
theorem dX2_layOneFrame_129 : decode cX2_layOneFrame 129 = .ok (.putfield 136, 3) := by decide +kernel
theorem dX2_layOneFrame_132 : decode cX2_layOneFrame 132 = .ok (.goto 37, 3) := by decide +kernel
theorem dX2_layOneFrame_135 : decode cX2_layOneFrame 135 = .ok (.aload_n 1, 1) := by decide +kernel
theorem dX2_layOneFrame_136 : decode cX2_layOneFrame 136 = .ok (.invokevirtual 127, 3) := by decide +kernel
theorem dX2_layOneFrame_139 : decode cX2_layOneFrame 139 = .ok (.bipush 8, 2) := by decide +kernel
theorem dX2_layOneFrame_141 : decode cX2_layOneFrame 141 = .ok (.if_icmp .ge 28, 3) := by decide +kernel
theorem dX2_layOneFrame_144 : decode cX2_layOneFrame 144 = .ok (.aload_n 1, 1) := by decide +kernel
theorem dX2_layOneFrame_145 : decode cX2_layOneFrame 145 = .ok (.invokevirtual 166, 3) := by decide +kernel
theorem dX2_layOneFrame_148 : decode cX2_layOneFrame 148 = .ok (.ifCond .le 21, 3) := by decide +kernel
theorem dX2_layOneFrame_151 : decode cX2_layOneFrame 151 = .ok (.aload_n 0, 1) := by decide +kernel
theorem dX2_layOneFrame_152 : decode cX2_layOneFrame 152 = .ok (.aload_n 1, 1) := by decide +kernel
theorem dX2_layOneFrame_153 : decode cX2_layOneFrame 153 = .ok (.aload_n 2, 1) := by decide +kernel
theorem dX2_layOneFrame_154 : decode cX2_layOneFrame 154 = .ok (.aload_n 0, 1) := by decide +kernel
theorem dX2_layOneFrame_155 : decode cX2_layOneFrame 155 = .ok (.getfield 39, 3) := by decide +kernel
theorem dX2_layOneFrame_158 : decode cX2_layOneFrame 158 = .ok (.aload_n 0, 1) := by decide +kernel
theorem dX2_layOneFrame_159 : decode cX2_layOneFrame 159 = .ok (.getfield 29, 3) := by decide +kernel
theorem dX2_layOneFrame_162 : decode cX2_layOneFrame 162 = .ok (.iadd, 1) := by decide +kernel
theorem dX2_layOneFrame_163 : decode cX2_layOneFrame 163 = .ok (.invokevirtual 152, 3) := by decide +kernel
theorem dX2_layOneFrame_166 : decode cX2_layOneFrame 166 = .ok (.invokevirtual 169, 3) := by decide +kernel
theorem dX2_layOneFrame_169 : decode cX2_layOneFrame 169 = .ok (.return_, 1) := by decide +kernel
theorem dX2_layNewPacket_0 : decode cX2_layNewPacket 0 = .ok (.aload_n 1, 1) := by decide +kernel
theorem dX2_layNewPacket_1 : decode cX2_layNewPacket 1 = .ok (.getfield 173, 3) := by decide +kernel
theorem dX2_layNewPacket_4 : decode cX2_layNewPacket 4 = .ok (.ifCond .eq 30, 3) := by decide +kernel
theorem dX2_layNewPacket_7 : decode cX2_layNewPacket 7 = .ok (.aload_n 0, 1) := by decide +kernel
theorem dX2_layNewPacket_8 : decode cX2_layNewPacket 8 = .ok (.getfield 25, 3) := by decide +kernel
theorem dX2_layNewPacket_11 : decode cX2_layNewPacket 11 = .ok (.bipush 6, 2) := by decide +kernel
theorem dX2_layNewPacket_13 : decode cX2_layNewPacket 13 = .ok (.dup2, 1) := by decide +kernel
theorem dX2_layNewPacket_14 : decode cX2_layNewPacket 14 = .ok (.iaload, 1) := by decide +kernel
theorem dX2_layNewPacket_15 : decode cX2_layNewPacket 15 = .ok (.iconst 1, 1) := by decide +kernel
theorem dX2_layNewPacket_16 : decode cX2_layNewPacket 16 = .ok (.iadd, 1) := by decide +kernel
theorem dX2_layNewPacket_17 : decode cX2_layNewPacket 17 = .ok (.iastore, 1) := by decide +kernel
theorem dX2_layNewPacket_18 : decode cX2_layNewPacket 18 = .ok (.aload_n 1, 1) := by decide +kernel
theorem dX2_layNewPacket_19 : decode cX2_layNewPacket 19 = .ok (.aload_n 2, 1) := by decide +kernel
theorem dX2_layNewPacket_20 : decode cX2_layNewPacket 20 = .ok (.iconst 1, 1) := by decide +kernel
theorem dX2_layNewPacket_21 : decode cX2_layNewPacket 21 = .ok (.aload_n 1, 1) := by decide +kernel
theorem dX2_layNewPacket_22 : decode cX2_layNewPacket 22 = .ok (.getfield 159, 3) := by decide +kernel
theorem dX2_layNewPacket_25 : decode cX2_layNewPacket 25 = .ok (.invokevirtual 162, 3) := by decide +kernel
theorem dX2_layNewPacket_28 : decode cX2_layNewPacket 28 = .ok (.aload_n 1, 1) := by decide +kernel
theorem dX2_layNewPacket_29 : decode cX2_layNewPacket 29 = .ok (.iconst 0, 1) := by decide +kernel
theorem dX2_layNewPacket_30 : decode cX2_layNewPacket 30 = .ok (.putfield 173, 3) := by decide +kernel
theorem dX2_layNewPacket_33 : decode cX2_layNewPacket 33 = .ok (.return_, 1) := by decide +kernel
theorem dX2_layNewPacket_34 : decode cX2_layNewPacket 34 = .ok (.aload_n 0, 1) := by decide +kernel
theorem dX2_layNewPacket_35 : decode cX2_layNewPacket 35 = .ok (.getfield 25, 3) := by decide +kernel
theorem dX2_layNewPacket_38 : decode cX2_layNewPacket 38 = .ok (.iconst 4, 1) := by decide +kernel
theorem dX2_layNewPacket_39 : decode cX2_layNewPacket 39 = .ok (.dup2, 1) := by decide +kernel
theorem dX2_layNewPacket_40 : decode cX2_layNewPacket 40 = .ok (.iaload, 1) := by decide +kernel
theorem dX2_layNewPacket_41 : decode cX2_layNewPacket 41 = .ok (.iconst 1, 1) := by decide +kernel
theorem dX2_layNewPacket_42 : decode cX2_layNewPacket 42 = .ok (.iadd, 1) := by decide +kernel
theorem dX2_layNewPacket_43 : decode cX2_layNewPacket 43 = .ok (.iastore, 1) := by decide +kernel
theorem dX2_layNewPacket_44 : decode cX2_layNewPacket 44 = .ok (.aload_n 1, 1) := by decide +kernel
theorem dX2_layNewPacket_45 : decode cX2_layNewPacket 45 = .ok (.aload_n 2, 1) := by decide +kernel
theorem dX2_layNewPacket_46 : decode cX2_layNewPacket 46 = .ok (.iconst 0, 1) := by decide +kernel
theorem dX2_layNewPacket_47 : decode cX2_layNewPacket 47 = .ok (.aload_n 1, 1) := by decide +kernel
theorem dX2_layNewPacket_48 : decode cX2_layNewPacket 48 = .ok (.getfield 159, 3) := by decide +kernel
theorem dX2_layNewPacket_51 : decode cX2_layNewPacket 51 = .ok (.invokevirtual 162, 3) := by decide +kernel
theorem dX2_layNewPacket_54 : decode cX2_layNewPacket 54 = .ok (.aload_n 1, 1) := by decide +kernel
theorem dX2_layNewPacket_55 : decode cX2_layNewPacket 55 = .ok (.dup, 1) := by decide +kernel
theorem dX2_layNewPacket_56 : decode cX2_layNewPacket 56 = .ok (.getfield 159, 3) := by decide +kernel
theorem dX2_layNewPacket_59 : decode cX2_layNewPacket 59 = .ok (.iconst 1, 1) := by decide +kernel
theorem dX2_layNewPacket_60 : decode cX2_layNewPacket 60 = .ok (.iadd, 1) := by decide +kernel
theorem dX2_layNewPacket_61 : decode cX2_layNewPacket 61 = .ok (.putfield 159, 3) := by decide +kernel
theorem dX2_layNewPacket_64 : decode cX2_layNewPacket 64 = .ok (.return_, 1) := by decide +kernel
theorem dX3_init_0 : decode cX3_init 0 = .ok (.aload_n 0, 1) := by decide +kernel
theorem dX3_init_1 : decode cX3_init 1 = .ok (.invokespecial 3, 3) := by decide +kernel
theorem dX3_init_4 : decode cX3_init 4 = .ok (.aload_n 0, 1) := by decide +kernel
theorem dX3_init_5 : decode cX3_init 5 = .ok (.iload_n 1, 1) := by decide +kernel
theorem dX3_init_6 : decode cX3_init 6 = .ok (.newarray .int, 2) := by decide +kernel
theorem dX3_init_8 : decode cX3_init 8 = .ok (.putfield 9, 3) := by decide +kernel
theorem dX3_init_11 : decode cX3_init 11 = .ok (.aload_n 0, 1) := by decide +kernel
theorem dX3_init_12 : decode cX3_init 12 = .ok (.iload_n 1, 1) := by decide +kernel
theorem dX3_init_13 : decode cX3_init 13 = .ok (.bipush 24, 2) := by decide +kernel
theorem dX3_init_15 : decode cX3_init 15 = .ok (.imul, 1) := by decide +kernel
theorem dX3_init_16 : decode cX3_init 16 = .ok (.newarray .int, 2) := by decide +kernel
theorem dX3_init_18 : decode cX3_init 18 = .ok (.putfield 15, 3) := by decide +kernel
theorem dX3_init_21 : decode cX3_init 21 = .ok (.return_, 1) := by decide +kernel
