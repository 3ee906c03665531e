theorem dX7_init_0 : decode cX7_init 0 = .ok (.aload_n 0, 1) := by decide +kernel
theorem dX7_init_1 : decode cX7_init 1 = .ok (.invokespecial 3, 3) := by decide +kernel
theorem dX7_init_4 : decode cX7_init 4 = .ok (.aload_n 0, 1) := by decide +kernel
theorem dX7_init_5 : decode cX7_init 5 = .ok (.bipush 26, 2) := by decide +kernel
theorem dX7_init_7 : decode cX7_init 7 = .ok (.newarray .int, 2) := by decide +kernel
theorem dX7_init_9 : decode cX7_init 9 = .ok (.putfield 11, 3) := by decide +kernel
theorem dX7_init_12 : decode cX7_init 12 = .ok (.aload_n 0, 1) := by decide +kernel
theorem dX7_init_13 : decode cX7_init 13 = .ok (.sipush 8191, 3) := by decide +kernel
theorem dX7_init_16 : decode cX7_init 16 = .ok (.putfield 15, 3) := by decide +kernel
theorem dX7_init_19 : decode cX7_init 19 = .ok (.iconst 0, 1) := by decide +kernel
theorem dX7_init_20 : decode cX7_init 20 = .ok (.istore_n 1, 1) := by decide +kernel
theorem dX7_init_21 : decode cX7_init 21 = .ok (.iload_n 1, 1) := by decide +kernel
theorem dX7_init_22 : decode cX7_init 22 = .ok (.bipush 25, 2) := by decide +kernel
theorem dX7_init_24 : decode cX7_init 24 = .ok (.if_icmp .gt 43, 3) := by decide +kernel
theorem dX7_init_27 : decode cX7_init 27 = .ok (.iconst 0, 1) := by decide +kernel
theorem dX7_init_28 : decode cX7_init 28 = .ok (.istore_n 2, 1) := by decide +kernel
theorem dX7_init_29 : decode cX7_init 29 = .ok (.iload_n 2, 1) := by decide +kernel
theorem dX7_init_30 : decode cX7_init 30 = .ok (.bipush 10, 2) := by decide +kernel
theorem dX7_init_32 : decode cX7_init 32 = .ok (.if_icmp .gt 29, 3) := by decide +kernel
theorem dX7_init_35 : decode cX7_init 35 = .ok (.iload_n 1, 1) := by decide +kernel
theorem dX7_init_36 : decode cX7_init 36 = .ok (.iload_n 2, 1) := by decide +kernel
theorem dX7_init_37 : decode cX7_init 37 = .ok (.invokestatic 19, 3) := by decide +kernel
theorem dX7_init_40 : decode cX7_init 40 = .ok (.ifCond .ne 15, 3) := by decide +kernel
theorem dX7_init_43 : decode cX7_init 43 = .ok (.aload_n 0, 1) := by decide +kernel
theorem dX7_init_44 : decode cX7_init 44 = .ok (.getfield 11, 3) := by decide +kernel
theorem dX7_init_47 : decode cX7_init 47 = .ok (.iload_n 1, 1) := by decide +kernel
theorem dX7_init_48 : decode cX7_init 48 = .ok (.dup2, 1) := by decide +kernel
theorem dX7_init_49 : decode cX7_init 49 = .ok (.iaload, 1) := by decide +kernel
theorem dX7_init_50 : decode cX7_init 50 = .ok (.iconst 1, 1) := by decide +kernel
theorem dX7_init_51 : decode cX7_init 51 = .ok (.iload_n 2, 1) := by decide +kernel
theorem dX7_init_52 : decode cX7_init 52 = .ok (.ishl, 1) := by decide +kernel
theorem dX7_init_53 : decode cX7_init 53 = .ok (.ior, 1) := by decide +kernel
theorem dX7_init_54 : decode cX7_init 54 = .ok (.iastore, 1) := by decide +kernel
theorem dX7_init_55 : decode cX7_init 55 = .ok (.iinc 2 1, 3) := by decide +kernel
theorem dX7_init_58 : decode cX7_init 58 = .ok (.goto (-29), 3) := by decide +kernel
theorem dX7_init_61 : decode cX7_init 61 = .ok (.iinc 1 1, 3) := by decide +kernel
theorem dX7_init_64 : decode cX7_init 64 = .ok (.goto (-43), 3) := by decide +kernel
theorem dX7_init_67 : decode cX7_init 67 = .ok (.return_, 1) := by decide +kernel
theorem dX7_tried_0 : decode cX7_tried 0 = .ok (.iload_n 0, 1) := by decide +kernel
theorem dX7_tried_1 : decode cX7_tried 1 = .ok (.bipush 9, 2) := by decide +kernel
theorem dX7_tried_3 : decode cX7_tried 3 = .ok (.if_icmp .ge 9, 3) := by decide +kernel
theorem dX7_tried_6 : decode cX7_tried 6 = .ok (.iload_n 1, 1) := by decide +kernel
theorem dX7_tried_7 : decode cX7_tried 7 = .ok (.iload_n 0, 1) := by decide +kernel
theorem dX7_tried_8 : decode cX7_tried 8 = .ok (.invokestatic 23, 3) := by decide +kernel
theorem dX7_tried_11 : decode cX7_tried 11 = .ok (.ireturn, 1) := by decide +kernel
theorem dX7_tried_12 : decode cX7_tried 12 = .ok (.iload_n 0, 1) := by decide +kernel
theorem dX7_tried_13 : decode cX7_tried 13 = .ok (.bipush 17, 2) := by decide +kernel
theorem dX7_tried_15 : decode cX7_tried 15 = .ok (.if_icmp .ge 16, 3) := by decide +kernel
theorem dX7_tried_18 : decode cX7_tried 18 = .ok (.iload_n 0, 1) := by decide +kernel
theorem dX7_tried_19 : decode cX7_tried 19 = .ok (.bipush 9, 2) := by decide +kernel
theorem dX7_tried_21 : decode cX7_tried 21 = .ok (.isub, 1) := by decide +kernel
theorem dX7_tried_22 : decode cX7_tried 22 = .ok (.iload_n 0, 1) := by decide +kernel
theorem dX7_tried_23 : decode cX7_tried 23 = .ok (.bipush 9, 2) := by decide +kernel
theorem dX7_tried_25 : decode cX7_tried 25 = .ok (.isub, 1) := by decide +kernel
theorem dX7_tried_26 : decode cX7_tried 26 = .ok (.iload_n 1, 1) := by decide +kernel
theorem dX7_tried_27 : decode cX7_tried 27 = .ok (.invokestatic 28, 3) := by decide +kernel
theorem dX7_tried_30 : decode cX7_tried 30 = .ok (.ireturn, 1) := by decide +kernel
theorem dX7_tried_31 : decode cX7_tried 31 = .ok (.iload_n 0, 1) := by decide +kernel
theorem dX7_tried_32 : decode cX7_tried 32 = .ok (.bipush 25, 2) := by decide +kernel
theorem dX7_tried_34 : decode cX7_tried 34 = .ok (.if_icmp .ne 8, 3) := by decide +kernel
theorem dX7_tried_37 : decode cX7_tried 37 = .ok (.bipush 9, 2) := by decide +kernel
theorem dX7_tried_39 : decode cX7_tried 39 = .ok (.goto 7, 3) := by decide +kernel
theorem dX7_tried_42 : decode cX7_tried 42 = .ok (.iload_n 0, 1) := by decide +kernel
theorem dX7_tried_43 : decode cX7_tried 43 = .ok (.bipush 17, 2) := by decide +kernel
theorem dX7_tried_45 : decode cX7_tried 45 = .ok (.isub, 1) := by decide +kernel
theorem dX7_tried_46 : decode cX7_tried 46 = .ok (.bipush 8, 2) := by decide +kernel
theorem dX7_tried_48 : decode cX7_tried 48 = .ok (.iload_n 1, 1) := by decide +kernel
theorem dX7_tried_49 : decode cX7_tried 49 = .ok (.invokestatic 28, 3) := by decide +kernel
theorem dX7_tried_52 : decode cX7_tried 52 = .ok (.ireturn, 1) := by decide +kernel
theorem dX7_note_0 : decode cX7_note 0 = .ok (.aload_n 0, 1) := by decide +kernel
theorem dX7_note_1 : decode cX7_note 1 = .ok (.dup, 1) := by decide +kernel
theorem dX7_note_2 : decode cX7_note 2 = .ok (.getfield 15, 3) := by decide +kernel
theorem dX7_note_5 : decode cX7_note 5 = .ok (.aload_n 0, 1) := by decide +kernel
theorem dX7_note_6 : decode cX7_note 6 = .ok (.iload_n 1, 1) := by decide +kernel
theorem dX7_note_7 : decode cX7_note 7 = .ok (.iload_n 2, 1) := by decide +kernel
theorem dX7_note_8 : decode cX7_note 8 = .ok (.invokevirtual 32, 3) := by decide +kernel
theorem dX7_note_11 : decode cX7_note 11 = .ok (.iand, 1) := by decide +kernel
theorem dX7_note_12 : decode cX7_note 12 = .ok (.putfield 15, 3) := by decide +kernel
theorem dX7_note_15 : decode cX7_note 15 = .ok (.aload_n 0, 1) := by decide +kernel
theorem dX7_note_16 : decode cX7_note 16 = .ok (.dup, 1) := by decide +kernel
theorem dX7_note_17 : decode cX7_note 17 = .ok (.getfield 35, 3) := by decide +kernel
theorem dX7_note_20 : decode cX7_note 20 = .ok (.iconst 1, 1) := by decide +kernel
theorem dX7_note_21 : decode cX7_note 21 = .ok (.iadd, 1) := by decide +kernel
theorem dX7_note_22 : decode cX7_note 22 = .ok (.putfield 35, 3) := by decide +kernel
theorem dX7_note_25 : decode cX7_note 25 = .ok (.aload_n 0, 1) := by decide +kernel
theorem dX7_note_26 : decode cX7_note 26 = .ok (.getfield 35, 3) := by decide +kernel
theorem dX7_note_29 : decode cX7_note 29 = .ok (.ireturn, 1) := by decide +kernel
theorem dX7_kindsBy_0 : decode cX7_kindsBy 0 = .ok (.iload_n 2, 1) := by decide +kernel
theorem dX7_kindsBy_1 : decode cX7_kindsBy 1 = .ok (.iconst 1, 1) := by decide +kernel
theorem dX7_kindsBy_2 : decode cX7_kindsBy 2 = .ok (.if_icmp .ne 7, 3) := by decide +kernel
theorem dX7_kindsBy_5 : decode cX7_kindsBy 5 = .ok (.sipush 2048, 3) := by decide +kernel
theorem dX7_kindsBy_8 : decode cX7_kindsBy 8 = .ok (.ireturn, 1) := by decide +kernel
theorem dX7_kindsBy_9 : decode cX7_kindsBy 9 = .ok (.iload_n 2, 1) := by decide +kernel
theorem dX7_kindsBy_10 : decode cX7_kindsBy 10 = .ok (.iconst 2, 1) := by decide +kernel
theorem dX7_kindsBy_11 : decode cX7_kindsBy 11 = .ok (.if_icmp .ne 7, 3) := by decide +kernel
theorem dX7_kindsBy_14 : decode cX7_kindsBy 14 = .ok (.sipush 4096, 3) := by decide +kernel
theorem dX7_kindsBy_17 : decode cX7_kindsBy 17 = .ok (.ireturn, 1) := by decide +kernel
theorem dX7_kindsBy_18 : decode cX7_kindsBy 18 = .ok (.iload_n 2, 1) := by decide +kernel
theorem dX7_kindsBy_19 : decode cX7_kindsBy 19 = .ok (.ifCond .ne 12, 3) := by decide +kernel
theorem dX7_kindsBy_22 : decode cX7_kindsBy 22 = .ok (.aload_n 0, 1) := by decide +kernel
theorem dX7_kindsBy_23 : decode cX7_kindsBy 23 = .ok (.getfield 11, 3) := by decide +kernel
theorem dX7_kindsBy_26 : decode cX7_kindsBy 26 = .ok (.iload_n 1, 1) := by decide +kernel
theorem dX7_kindsBy_27 : decode cX7_kindsBy 27 = .ok (.iaload, 1) := by decide +kernel
theorem dX7_kindsBy_28 : decode cX7_kindsBy 28 = .ok (.goto 15, 3) := by decide +kernel
theorem dX7_kindsBy_31 : decode cX7_kindsBy 31 = .ok (.sipush 2047, 3) := by decide +kernel
theorem dX7_kindsBy_34 : decode cX7_kindsBy 34 = .ok (.aload_n 0, 1) := by decide +kernel
theorem dX7_kindsBy_35 : decode cX7_kindsBy 35 = .ok (.getfield 11, 3) := by decide +kernel
theorem dX7_kindsBy_38 : decode cX7_kindsBy 38 = .ok (.iload_n 1, 1) := by decide +kernel
theorem dX7_kindsBy_39 : decode cX7_kindsBy 39 = .ok (.iaload, 1) := by decide +kernel
theorem dX7_kindsBy_40 : decode cX7_kindsBy 40 = .ok (.iconst (-1), 1) := by decide +kernel
theorem dX7_kindsBy_41 : decode cX7_kindsBy 41 = .ok (.ixor, 1) := by decide +kernel
theorem dX7_kindsBy_42 : decode cX7_kindsBy 42 = .ok (.iand, 1) := by decide +kernel
theorem dX7_kindsBy_43 : decode cX7_kindsBy 43 = .ok (.ireturn, 1) := by decide +kernel
theorem dX7_lose_0 : decode cX7_lose 0 = .ok (.aload_n 0, 1) := by decide +kernel
theorem dX7_lose_1 : decode cX7_lose 1 = .ok (.getfield 35, 3) := by decide +kernel
theorem dX7_lose_4 : decode cX7_lose 4 = .ok (.istore_n 1, 1) := by decide +kernel
theorem dX7_lose_5 : decode cX7_lose 5 = .ok (.aload_n 0, 1) := by decide +kernel
theorem dX7_lose_6 : decode cX7_lose 6 = .ok (.iconst 0, 1) := by decide +kernel
theorem dX7_lose_7 : decode cX7_lose 7 = .ok (.putfield 35, 3) := by decide +kernel
theorem dX7_lose_10 : decode cX7_lose 10 = .ok (.aload_n 0, 1) := by decide +kernel
theorem dX7_lose_11 : decode cX7_lose 11 = .ok (.sipush 8191, 3) := by decide +kernel
theorem dX7_lose_14 : decode cX7_lose 14 = .ok (.putfield 15, 3) := by decide +kernel
theorem dX7_lose_17 : decode cX7_lose 17 = .ok (.iload_n 1, 1) := by decide +kernel
theorem dX7_lose_18 : decode cX7_lose 18 = .ok (.ireturn, 1) := by decide +kernel
theorem dX7_leastTries_0 : decode cX7_leastTries 0 = .ok (.iconst 0, 1) := by decide +kernel
theorem dX7_leastTries_1 : decode cX7_leastTries 1 = .ok (.istore_n 1, 1) := by decide +kernel
theorem dX7_leastTries_2 : decode cX7_leastTries 2 = .ok (.iload_n 1, 1) := by decide +kernel
theorem dX7_leastTries_3 : decode cX7_leastTries 3 = .ok (.bipush 13, 2) := by decide +kernel
theorem dX7_leastTries_5 : decode cX7_leastTries 5 = .ok (.if_icmp .ge 26, 3) := by decide +kernel
theorem dX7_leastTries_8 : decode cX7_leastTries 8 = .ok (.aload_n 0, 1) := by decide +kernel
theorem dX7_leastTries_9 : decode cX7_leastTries 9 = .ok (.getfield 11, 3) := by decide +kernel
theorem dX7_leastTries_12 : decode cX7_leastTries 12 = .ok (.aload_n 0, 1) := by decide +kernel
theorem dX7_leastTries_13 : decode cX7_leastTries 13 = .ok (.getfield 15, 3) := by decide +kernel
theorem dX7_leastTries_16 : decode cX7_leastTries 16 = .ok (.iload_n 1, 1) := by decide +kernel
theorem dX7_leastTries_17 : decode cX7_leastTries 17 = .ok (.invokestatic 38, 3) := by decide +kernel
theorem dX7_leastTries_20 : decode cX7_leastTries 20 = .ok (.ifCond .eq 5, 3) := by decide +kernel
theorem dX7_leastTries_23 : decode cX7_leastTries 23 = .ok (.iload_n 1, 1) := by decide +kernel
theorem dX7_leastTries_24 : decode cX7_leastTries 24 = .ok (.ireturn, 1) := by decide +kernel
theorem dX7_leastTries_25 : decode cX7_leastTries 25 = .ok (.iinc 1 1, 3) := by decide +kernel
theorem dX7_leastTries_28 : decode cX7_leastTries 28 = .ok (.goto (-26), 3) := by decide +kernel
theorem dX7_leastTries_31 : decode cX7_leastTries 31 = .ok (.bipush 13, 2) := by decide +kernel
theorem dX7_leastTries_33 : decode cX7_leastTries 33 = .ok (.ireturn, 1) := by decide +kernel
theorem dX7_firstTry_0 : decode cX7_firstTry 0 = .ok (.aload_n 0, 1) := by decide +kernel
theorem dX7_firstTry_1 : decode cX7_firstTry 1 = .ok (.invokevirtual 42, 3) := by decide +kernel
theorem dX7_firstTry_4 : decode cX7_firstTry 4 = .ok (.istore_n 1, 1) := by decide +kernel
theorem dX7_firstTry_5 : decode cX7_firstTry 5 = .ok (.iload_n 1, 1) := by decide +kernel
theorem dX7_firstTry_6 : decode cX7_firstTry 6 = .ok (.ifCond .ne 8, 3) := by decide +kernel
theorem dX7_firstTry_9 : decode cX7_firstTry 9 = .ok (.bipush (-20), 2) := by decide +kernel
theorem dX7_firstTry_11 : decode cX7_firstTry 11 = .ok (.goto 15, 3) := by decide +kernel
theorem dX7_firstTry_14 : decode cX7_firstTry 14 = .ok (.aload_n 0, 1) := by decide +kernel
theorem dX7_firstTry_15 : decode cX7_firstTry 15 = .ok (.getfield 11, 3) := by decide +kernel
theorem dX7_firstTry_18 : decode cX7_firstTry 18 = .ok (.aload_n 0, 1) := by decide +kernel
theorem dX7_firstTry_19 : decode cX7_firstTry 19 = .ok (.getfield 15, 3) := by decide +kernel
theorem dX7_firstTry_22 : decode cX7_firstTry 22 = .ok (.iload_n 1, 1) := by decide +kernel
theorem dX7_firstTry_23 : decode cX7_firstTry 23 = .ok (.invokestatic 46, 3) := by decide +kernel
theorem dX7_firstTry_26 : decode cX7_firstTry 26 = .ok (.ireturn, 1) := by decide +kernel
theorem dX7_sorts_0 : decode cX7_sorts 0 = .ok (.iload_n 1, 1) := by decide +kernel
theorem dX7_sorts_1 : decode cX7_sorts 1 = .ok (.invokestatic 50, 3) := by decide +kernel
theorem dX7_sorts_4 : decode cX7_sorts 4 = .ok (.iconst 1, 1) := by decide +kernel
theorem dX7_sorts_5 : decode cX7_sorts 5 = .ok (.if_icmp .gt 5, 3) := by decide +kernel
theorem dX7_sorts_8 : decode cX7_sorts 8 = .ok (.iconst 1, 1) := by decide +kernel
theorem dX7_sorts_9 : decode cX7_sorts 9 = .ok (.ireturn, 1) := by decide +kernel
theorem dX7_sorts_10 : decode cX7_sorts 10 = .ok (.iload_n 2, 1) := by decide +kernel
theorem dX7_sorts_11 : decode cX7_sorts 11 = .ok (.ifCond .eq 17, 3) := by decide +kernel
theorem dX7_sorts_14 : decode cX7_sorts 14 = .ok (.iload_n 1, 1) := by decide +kernel
theorem dX7_sorts_15 : decode cX7_sorts 15 = .ok (.sipush 2047, 3) := by decide +kernel
theorem dX7_sorts_18 : decode cX7_sorts 18 = .ok (.iand, 1) := by decide +kernel
theorem dX7_sorts_19 : decode cX7_sorts 19 = .ok (.invokestatic 50, 3) := by decide +kernel
theorem dX7_sorts_22 : decode cX7_sorts 22 = .ok (.iconst 1, 1) := by decide +kernel
theorem dX7_sorts_23 : decode cX7_sorts 23 = .ok (.iload_n 2, 1) := by decide +kernel
theorem dX7_sorts_24 : decode cX7_sorts 24 = .ok (.ishl, 1) := by decide +kernel
theorem dX7_sorts_25 : decode cX7_sorts 25 = .ok (.if_icmp .le 5, 3) := by decide +kernel
theorem dX7_sorts_28 : decode cX7_sorts 28 = .ok (.iconst 0, 1) := by decide +kernel
theorem dX7_sorts_29 : decode cX7_sorts 29 = .ok (.ireturn, 1) := by decide +kernel
theorem dX7_sorts_30 : decode cX7_sorts 30 = .ok (.aload_n 0, 1) := by decide +kernel
theorem dX7_sorts_31 : decode cX7_sorts 31 = .ok (.iload_n 1, 1) := by decide +kernel
theorem dX7_sorts_32 : decode cX7_sorts 32 = .ok (.iload_n 2, 1) := by decide +kernel
theorem dX7_sorts_33 : decode cX7_sorts 33 = .ok (.invokestatic 46, 3) := by decide +kernel
theorem dX7_sorts_36 : decode cX7_sorts 36 = .ok (.bipush (-20), 2) := by decide +kernel
theorem dX7_sorts_38 : decode cX7_sorts 38 = .ok (.if_icmp .eq 7, 3) := by decide +kernel
theorem dX7_sorts_41 : decode cX7_sorts 41 = .ok (.iconst 1, 1) := by decide +kernel
theorem dX7_sorts_42 : decode cX7_sorts 42 = .ok (.goto 4, 3) := by decide +kernel
theorem dX7_sorts_45 : decode cX7_sorts 45 = .ok (.iconst 0, 1) := by decide +kernel
theorem dX7_sorts_46 : decode cX7_sorts 46 = .ok (.ireturn, 1) := by decide +kernel
theorem dX7_beginning_0 : decode cX7_beginning 0 = .ok (.iconst 0, 1) := by decide +kernel
theorem dX7_beginning_1 : decode cX7_beginning 1 = .ok (.istore_n 3, 1) := by decide +kernel
theorem dX7_beginning_2 : decode cX7_beginning 2 = .ok (.iload_n 3, 1) := by decide +kernel
theorem dX7_beginning_3 : decode cX7_beginning 3 = .ok (.bipush 25, 2) := by decide +kernel
theorem dX7_beginning_5 : decode cX7_beginning 5 = .ok (.if_icmp .gt 47, 3) := by decide +kernel
theorem dX7_beginning_8 : decode cX7_beginning 8 = .ok (.aload_n 0, 1) := by decide +kernel
theorem dX7_beginning_9 : decode cX7_beginning 9 = .ok (.iload_n 1, 1) := by decide +kernel
theorem dX7_beginning_10 : decode cX7_beginning 10 = .ok (.aload_n 0, 1) := by decide +kernel
theorem dX7_beginning_11 : decode cX7_beginning 11 = .ok (.iload_n 3, 1) := by decide +kernel
theorem dX7_beginning_12 : decode cX7_beginning 12 = .ok (.iaload, 1) := by decide +kernel
theorem dX7_beginning_13 : decode cX7_beginning 13 = .ok (.iand, 1) := by decide +kernel
theorem dX7_beginning_14 : decode cX7_beginning 14 = .ok (.iload_n 2, 1) := by decide +kernel
theorem dX7_beginning_15 : decode cX7_beginning 15 = .ok (.iconst 1, 1) := by decide +kernel
theorem dX7_beginning_16 : decode cX7_beginning 16 = .ok (.isub, 1) := by decide +kernel
theorem dX7_beginning_17 : decode cX7_beginning 17 = .ok (.invokestatic 38, 3) := by decide +kernel
theorem dX7_beginning_20 : decode cX7_beginning 20 = .ok (.ifCond .eq 26, 3) := by decide +kernel
theorem dX7_beginning_23 : decode cX7_beginning 23 = .ok (.aload_n 0, 1) := by decide +kernel
theorem dX7_beginning_24 : decode cX7_beginning 24 = .ok (.iload_n 1, 1) := by decide +kernel
theorem dX7_beginning_25 : decode cX7_beginning 25 = .ok (.sipush 2047, 3) := by decide +kernel
theorem dX7_beginning_28 : decode cX7_beginning 28 = .ok (.iand, 1) := by decide +kernel
theorem dX7_beginning_29 : decode cX7_beginning 29 = .ok (.aload_n 0, 1) := by decide +kernel
theorem dX7_beginning_30 : decode cX7_beginning 30 = .ok (.iload_n 3, 1) := by decide +kernel
theorem dX7_beginning_31 : decode cX7_beginning 31 = .ok (.iaload, 1) := by decide +kernel
theorem dX7_beginning_32 : decode cX7_beginning 32 = .ok (.iconst (-1), 1) := by decide +kernel
theorem dX7_beginning_33 : decode cX7_beginning 33 = .ok (.ixor, 1) := by decide +kernel
theorem dX7_beginning_34 : decode cX7_beginning 34 = .ok (.iand, 1) := by decide +kernel
theorem dX7_beginning_35 : decode cX7_beginning 35 = .ok (.iload_n 2, 1) := by decide +kernel
theorem dX7_beginning_36 : decode cX7_beginning 36 = .ok (.iconst 1, 1) := by decide +kernel
theorem dX7_beginning_37 : decode cX7_beginning 37 = .ok (.isub, 1) := by decide +kernel
theorem dX7_beginning_38 : decode cX7_beginning 38 = .ok (.invokestatic 38, 3) := by decide +kernel
theorem dX7_beginning_41 : decode cX7_beginning 41 = .ok (.ifCond .eq 5, 3) := by decide +kernel
theorem dX7_beginning_44 : decode cX7_beginning 44 = .ok (.iload_n 3, 1) := by decide +kernel
theorem dX7_beginning_45 : decode cX7_beginning 45 = .ok (.ireturn, 1) := by decide +kernel
theorem dX7_beginning_46 : decode cX7_beginning 46 = .ok (.iinc 3 1, 3) := by decide +kernel
theorem dX7_beginning_49 : decode cX7_beginning 49 = .ok (.goto (-47), 3) := by decide +kernel
theorem dX7_beginning_52 : decode cX7_beginning 52 = .ok (.bipush (-20), 2) := by decide +kernel
theorem dX7_beginning_54 : decode cX7_beginning 54 = .ok (.ireturn, 1) := by decide +kernel
theorem dX8_init_0 : decode cX8_init 0 = .ok (.aload_n 0, 1) := by decide +kernel
theorem dX8_init_1 : decode cX8_init 1 = .ok (.invokespecial 3, 3) := by decide +kernel
theorem dX8_init_4 : decode cX8_init 4 = .ok (.aload_n 0, 1) := by decide +kernel
theorem dX8_init_5 : decode cX8_init 5 = .ok (.bipush 8, 2) := by decide +kernel
theorem dX8_init_7 : decode cX8_init 7 = .ok (.newarray .int, 2) := by decide +kernel
theorem dX8_init_9 : decode cX8_init 9 = .ok (.putfield 9, 3) := by decide +kernel
theorem dX8_init_12 : decode cX8_init 12 = .ok (.aload_n 0, 1) := by decide +kernel
theorem dX8_init_13 : decode cX8_init 13 = .ok (.bipush 8, 2) := by decide +kernel
theorem dX8_init_15 : decode cX8_init 15 = .ok (.newarray .int, 2) := by decide +kernel
theorem dX8_init_17 : decode cX8_init 17 = .ok (.putfield 15, 3) := by decide +kernel
theorem dX8_init_20 : decode cX8_init 20 = .ok (.aload_n 0, 1) := by decide +kernel
theorem dX8_init_21 : decode cX8_init 21 = .ok (.bipush 8, 2) := by decide +kernel
theorem dX8_init_23 : decode cX8_init 23 = .ok (.newarray .int, 2) := by decide +kernel
theorem dX8_init_25 : decode cX8_init 25 = .ok (.putfield 18, 3) := by decide +kernel
theorem dX8_init_28 : decode cX8_init 28 = .ok (.aload_n 0, 1) := by decide +kernel
theorem dX8_init_29 : decode cX8_init 29 = .ok (.bipush 32, 2) := by decide +kernel
theorem dX8_init_31 : decode cX8_init 31 = .ok (.newarray .int, 2) := by decide +kernel
theorem dX8_init_33 : decode cX8_init 33 = .ok (.putfield 21, 3) := by decide +kernel
theorem dX8_init_36 : decode cX8_init 36 = .ok (.aload_n 0, 1) := by decide +kernel
theorem dX8_init_37 : decode cX8_init 37 = .ok (.bipush 8, 2) := by decide +kernel
theorem dX8_init_39 : decode cX8_init 39 = .ok (.newarray .int, 2) := by decide +kernel
theorem dX8_init_41 : decode cX8_init 41 = .ok (.putfield 24, 3) := by decide +kernel
theorem dX8_init_44 : decode cX8_init 44 = .ok (.aload_n 0, 1) := by decide +kernel
theorem dX8_init_45 : decode cX8_init 45 = .ok (.bipush 8, 2) := by decide +kernel
theorem dX8_init_47 : decode cX8_init 47 = .ok (.newarray .int, 2) := by decide +kernel
theorem dX8_init_49 : decode cX8_init 49 = .ok (.putfield 27, 3) := by decide +kernel
theorem dX8_init_52 : decode cX8_init 52 = .ok (.aload_n 0, 1) := by decide +kernel
theorem dX8_init_53 : decode cX8_init 53 = .ok (.bipush 8, 2) := by decide +kernel
theorem dX8_init_55 : decode cX8_init 55 = .ok (.newarray .int, 2) := by decide +kernel
theorem dX8_init_57 : decode cX8_init 57 = .ok (.putfield 30, 3) := by decide +kernel
theorem dX8_init_60 : decode cX8_init 60 = .ok (.aload_n 0, 1) := by decide +kernel
theorem dX8_init_61 : decode cX8_init 61 = .ok (.aload_n 1, 1) := by decide +kernel
theorem dX8_init_62 : decode cX8_init 62 = .ok (.putfield 33, 3) := by decide +kernel
theorem dX8_init_65 : decode cX8_init 65 = .ok (.return_, 1) := by decide +kernel
theorem dX8_has_0 : decode cX8_has 0 = .ok (.iload_n 1, 1) := by decide +kernel
theorem dX8_has_1 : decode cX8_has 1 = .ok (.ifCond .lt 15, 3) := by decide +kernel
theorem dX8_has_4 : decode cX8_has 4 = .ok (.iload_n 1, 1) := by decide +kernel
theorem dX8_has_5 : decode cX8_has 5 = .ok (.aload_n 0, 1) := by decide +kernel
theorem dX8_has_6 : decode cX8_has 6 = .ok (.getfield 37, 3) := by decide +kernel
theorem dX8_has_9 : decode cX8_has 9 = .ok (.if_icmp .ge 7, 3) := by decide +kernel
theorem dX8_has_12 : decode cX8_has 12 = .ok (.iconst 1, 1) := by decide +kernel
theorem dX8_has_13 : decode cX8_has 13 = .ok (.goto 4, 3) := by decide +kernel
theorem dX8_has_16 : decode cX8_has 16 = .ok (.iconst 0, 1) := by decide +kernel
theorem dX8_has_17 : decode cX8_has 17 = .ok (.ireturn, 1) := by decide +kernel
theorem dX8_depthUpon_0 : decode cX8_depthUpon 0 = .ok (.iload_n 1, 1) := by decide +kernel
theorem dX8_depthUpon_1 : decode cX8_depthUpon 1 = .ok (.bipush 10, 2) := by decide +kernel
theorem dX8_depthUpon_3 : decode cX8_depthUpon 3 = .ok (.if_icmp .ge 7, 3) := by decide +kernel
theorem dX8_depthUpon_6 : decode cX8_depthUpon 6 = .ok (.iconst 1, 1) := by decide +kernel
theorem dX8_depthUpon_7 : decode cX8_depthUpon 7 = .ok (.goto 14, 3) := by decide +kernel
theorem dX8_depthUpon_10 : decode cX8_depthUpon 10 = .ok (.aload_n 0, 1) := by decide +kernel
theorem dX8_depthUpon_11 : decode cX8_depthUpon 11 = .ok (.getfield 18, 3) := by decide +kernel
theorem dX8_depthUpon_14 : decode cX8_depthUpon 14 = .ok (.iload_n 1, 1) := by decide +kernel
theorem dX8_depthUpon_15 : decode cX8_depthUpon 15 = .ok (.bipush 10, 2) := by decide +kernel
theorem dX8_depthUpon_17 : decode cX8_depthUpon 17 = .ok (.isub, 1) := by decide +kernel
theorem dX8_depthUpon_18 : decode cX8_depthUpon 18 = .ok (.iaload, 1) := by decide +kernel
theorem dX8_depthUpon_19 : decode cX8_depthUpon 19 = .ok (.iconst 1, 1) := by decide +kernel
theorem dX8_depthUpon_20 : decode cX8_depthUpon 20 = .ok (.iadd, 1) := by decide +kernel
theorem dX8_depthUpon_21 : decode cX8_depthUpon 21 = .ok (.ireturn, 1) := by decide +kernel
theorem dX8_addView_0 : decode cX8_addView 0 = .ok (.aload_n 0, 1) := by decide +kernel
theorem dX8_addView_1 : decode cX8_addView 1 = .ok (.getfield 37, 3) := by decide +kernel
theorem dX8_addView_4 : decode cX8_addView 4 = .ok (.istore 6, 2) := by decide +kernel
theorem dX8_addView_6 : decode cX8_addView 6 = .ok (.aload_n 0, 1) := by decide +kernel
theorem dX8_addView_7 : decode cX8_addView 7 = .ok (.iload_n 1, 1) := by decide +kernel
theorem dX8_addView_8 : decode cX8_addView 8 = .ok (.invokevirtual 41, 3) := by decide +kernel
theorem dX8_addView_11 : decode cX8_addView 11 = .ok (.istore 7, 2) := by decide +kernel
theorem dX8_addView_13 : decode cX8_addView 13 = .ok (.iload_n 1, 1) := by decide +kernel
theorem dX8_addView_14 : decode cX8_addView 14 = .ok (.bipush 10, 2) := by decide +kernel
theorem dX8_addView_16 : decode cX8_addView 16 = .ok (.isub, 1) := by decide +kernel
theorem dX8_addView_17 : decode cX8_addView 17 = .ok (.istore 8, 2) := by decide +kernel
theorem dX8_addView_19 : decode cX8_addView 19 = .ok (.iconst 0, 1) := by decide +kernel
theorem dX8_addView_20 : decode cX8_addView 20 = .ok (.istore 9, 2) := by decide +kernel
theorem dX8_addView_22 : decode cX8_addView 22 = .ok (.iload 9, 2) := by decide +kernel
theorem dX8_addView_24 : decode cX8_addView 24 = .ok (.iload 7, 2) := by decide +kernel
theorem dX8_addView_26 : decode cX8_addView 26 = .ok (.iconst 1, 1) := by decide +kernel
theorem dX8_addView_27 : decode cX8_addView 27 = .ok (.isub, 1) := by decide +kernel
theorem dX8_addView_28 : decode cX8_addView 28 = .ok (.if_icmp .ge 33, 3) := by decide +kernel
theorem dX8_addView_31 : decode cX8_addView 31 = .ok (.aload_n 0, 1) := by decide +kernel
theorem dX8_addView_32 : decode cX8_addView 32 = .ok (.getfield 21, 3) := by decide +kernel
theorem dX8_addView_35 : decode cX8_addView 35 = .ok (.iload 6, 2) := by decide +kernel
theorem dX8_addView_37 : decode cX8_addView 37 = .ok (.iconst 4, 1) := by decide +kernel
theorem dX8_addView_38 : decode cX8_addView 38 = .ok (.imul, 1) := by decide +kernel
theorem dX8_addView_39 : decode cX8_addView 39 = .ok (.iload 9, 2) := by decide +kernel
theorem dX8_addView_41 : decode cX8_addView 41 = .ok (.iadd, 1) := by decide +kernel
theorem dX8_addView_42 : decode cX8_addView 42 = .ok (.aload_n 0, 1) := by decide +kernel
theorem dX8_addView_43 : decode cX8_addView 43 = .ok (.getfield 21, 3) := by decide +kernel
theorem dX8_addView_46 : decode cX8_addView 46 = .ok (.iload 8, 2) := by decide +kernel
theorem dX8_addView_48 : decode cX8_addView 48 = .ok (.iconst 4, 1) := by decide +kernel
theorem dX8_addView_49 : decode cX8_addView 49 = .ok (.imul, 1) := by decide +kernel
theorem dX8_addView_50 : decode cX8_addView 50 = .ok (.iload 9, 2) := by decide +kernel
theorem dX8_addView_52 : decode cX8_addView 52 = .ok (.iadd, 1) := by decide +kernel
theorem dX8_addView_53 : decode cX8_addView 53 = .ok (.iaload, 1) := by decide +kernel
theorem dX8_addView_54 : decode cX8_addView 54 = .ok (.iastore, 1) := by decide +kernel
theorem dX8_addView_55 : decode cX8_addView 55 = .ok (.iinc 9 1, 3) := by decide +kernel
theorem dX8_addView_58 : decode cX8_addView 58 = .ok (.goto (-36), 3) := by decide +kernel
theorem dX8_addView_61 : decode cX8_addView 61 = .ok (.aload_n 0, 1) := by decide +kernel
theorem dX8_addView_62 : decode cX8_addView 62 = .ok (.getfield 21, 3) := by decide +kernel
theorem dX8_addView_65 : decode cX8_addView 65 = .ok (.iload 6, 2) := by decide +kernel
theorem dX8_addView_67 : decode cX8_addView 67 = .ok (.iconst 4, 1) := by decide +kernel
theorem dX8_addView_68 : decode cX8_addView 68 = .ok (.imul, 1) := by decide +kernel
theorem dX8_addView_69 : decode cX8_addView 69 = .ok (.iload 7, 2) := by decide +kernel
theorem dX8_addView_71 : decode cX8_addView 71 = .ok (.iadd, 1) := by decide +kernel
theorem dX8_addView_72 : decode cX8_addView 72 = .ok (.iconst 1, 1) := by decide +kernel
theorem dX8_addView_73 : decode cX8_addView 73 = .ok (.isub, 1) := by decide +kernel
theorem dX8_addView_74 : decode cX8_addView 74 = .ok (.iload 6, 2) := by decide +kernel
theorem dX8_addView_76 : decode cX8_addView 76 = .ok (.iastore, 1) := by decide +kernel
theorem dX8_addView_77 : decode cX8_addView 77 = .ok (.aload_n 0, 1) := by decide +kernel
theorem dX8_addView_78 : decode cX8_addView 78 = .ok (.getfield 30, 3) := by decide +kernel
theorem dX8_addView_81 : decode cX8_addView 81 = .ok (.iload 6, 2) := by decide +kernel
theorem dX8_addView_83 : decode cX8_addView 83 = .ok (.iload 7, 2) := by decide +kernel
theorem dX8_addView_85 : decode cX8_addView 85 = .ok (.iconst 1, 1) := by decide +kernel
theorem dX8_addView_86 : decode cX8_addView 86 = .ok (.if_icmp .ne 7, 3) := by decide +kernel
theorem dX8_addView_89 : decode cX8_addView 89 = .ok (.iload_n 1, 1) := by decide +kernel
theorem dX8_addView_90 : decode cX8_addView 90 = .ok (.goto 10, 3) := by decide +kernel
theorem dX8_addView_93 : decode cX8_addView 93 = .ok (.aload_n 0, 1) := by decide +kernel
theorem dX8_addView_94 : decode cX8_addView 94 = .ok (.getfield 30, 3) := by decide +kernel
theorem dX8_addView_97 : decode cX8_addView 97 = .ok (.iload 8, 2) := by decide +kernel
theorem dX8_addView_99 : decode cX8_addView 99 = .ok (.iaload, 1) := by decide +kernel
theorem dX8_addView_100 : decode cX8_addView 100 = .ok (.iastore, 1) := by decide +kernel
theorem dX8_addView_101 : decode cX8_addView 101 = .ok (.aload_n 0, 1) := by decide +kernel
theorem dX8_addView_102 : decode cX8_addView 102 = .ok (.getfield 18, 3) := by decide +kernel
theorem dX8_addView_105 : decode cX8_addView 105 = .ok (.iload 6, 2) := by decide +kernel
theorem dX8_addView_107 : decode cX8_addView 107 = .ok (.iload 7, 2) := by decide +kernel
theorem dX8_addView_109 : decode cX8_addView 109 = .ok (.iastore, 1) := by decide +kernel
theorem dX8_addView_110 : decode cX8_addView 110 = .ok (.aload_n 0, 1) := by decide +kernel
theorem dX8_addView_111 : decode cX8_addView 111 = .ok (.getfield 9, 3) := by decide +kernel
theorem dX8_addView_114 : decode cX8_addView 114 = .ok (.iload 6, 2) := by decide +kernel
theorem dX8_addView_116 : decode cX8_addView 116 = .ok (.iload_n 2, 1) := by decide +kernel
theorem dX8_addView_117 : decode cX8_addView 117 = .ok (.iastore, 1) := by decide +kernel
theorem dX8_addView_118 : decode cX8_addView 118 = .ok (.aload_n 0, 1) := by decide +kernel
theorem dX8_addView_119 : decode cX8_addView 119 = .ok (.getfield 15, 3) := by decide +kernel
theorem dX8_addView_122 : decode cX8_addView 122 = .ok (.iload 6, 2) := by decide +kernel
theorem dX8_addView_124 : decode cX8_addView 124 = .ok (.iload_n 3, 1) := by decide +kernel
theorem dX8_addView_125 : decode cX8_addView 125 = .ok (.iastore, 1) := by decide +kernel
theorem dX8_addView_126 : decode cX8_addView 126 = .ok (.aload_n 0, 1) := by decide +kernel
theorem dX8_addView_127 : decode cX8_addView 127 = .ok (.getfield 24, 3) := by decide +kernel
theorem dX8_addView_130 : decode cX8_addView 130 = .ok (.iload 6, 2) := by decide +kernel
theorem dX8_addView_132 : decode cX8_addView 132 = .ok (.iload 4, 2) := by decide +kernel
theorem dX8_addView_134 : decode cX8_addView 134 = .ok (.iastore, 1) := by decide +kernel
theorem dX8_addView_135 : decode cX8_addView 135 = .ok (.aload_n 0, 1) := by decide +kernel
theorem dX8_addView_136 : decode cX8_addView 136 = .ok (.getfield 27, 3) := by decide +kernel
theorem dX8_addView_139 : decode cX8_addView 139 = .ok (.iload 6, 2) := by decide +kernel
theorem dX8_addView_141 : decode cX8_addView 141 = .ok (.iload 5, 2) := by decide +kernel
theorem dX8_addView_143 : decode cX8_addView 143 = .ok (.iastore, 1) := by decide +kernel
theorem dX8_addView_144 : decode cX8_addView 144 = .ok (.aload_n 0, 1) := by decide +kernel
theorem dX8_addView_145 : decode cX8_addView 145 = .ok (.iload 6, 2) := by decide +kernel
theorem dX8_addView_147 : decode cX8_addView 147 = .ok (.iconst 1, 1) := by decide +kernel
theorem dX8_addView_148 : decode cX8_addView 148 = .ok (.iadd, 1) := by decide +kernel
theorem dX8_addView_149 : decode cX8_addView 149 = .ok (.putfield 37, 3) := by decide +kernel
theorem dX8_addView_152 : decode cX8_addView 152 = .ok (.iload 6, 2) := by decide +kernel
theorem dX8_addView_154 : decode cX8_addView 154 = .ok (.ireturn, 1) := by decide +kernel
theorem dX8_placeInBank_0 : decode cX8_placeInBank 0 = .ok (.iload_n 2, 1) := by decide +kernel
theorem dX8_placeInBank_1 : decode cX8_placeInBank 1 = .ok (.istore_n 3, 1) := by decide +kernel
theorem dX8_placeInBank_2 : decode cX8_placeInBank 2 = .ok (.aload_n 0, 1) := by decide +kernel
theorem dX8_placeInBank_3 : decode cX8_placeInBank 3 = .ok (.getfield 18, 3) := by decide +kernel
theorem dX8_placeInBank_6 : decode cX8_placeInBank 6 = .ok (.iload_n 1, 1) := by decide +kernel
theorem dX8_placeInBank_7 : decode cX8_placeInBank 7 = .ok (.iaload, 1) := by decide +kernel
theorem dX8_placeInBank_8 : decode cX8_placeInBank 8 = .ok (.iconst 1, 1) := by decide +kernel
theorem dX8_placeInBank_9 : decode cX8_placeInBank 9 = .ok (.isub, 1) := by decide +kernel
theorem dX8_placeInBank_10 : decode cX8_placeInBank 10 = .ok (.istore 4, 2) := by decide +kernel
theorem dX8_placeInBank_12 : decode cX8_placeInBank 12 = .ok (.iload 4, 2) := by decide +kernel
theorem dX8_placeInBank_14 : decode cX8_placeInBank 14 = .ok (.ifCond .lt 59, 3) := by decide +kernel
theorem dX8_placeInBank_17 : decode cX8_placeInBank 17 = .ok (.aload_n 0, 1) := by decide +kernel
theorem dX8_placeInBank_18 : decode cX8_placeInBank 18 = .ok (.getfield 21, 3) := by decide +kernel
theorem dX8_placeInBank_21 : decode cX8_placeInBank 21 = .ok (.iload_n 1, 1) := by decide +kernel
theorem dX8_placeInBank_22 : decode cX8_placeInBank 22 = .ok (.iconst 4, 1) := by decide +kernel
theorem dX8_placeInBank_23 : decode cX8_placeInBank 23 = .ok (.imul, 1) := by decide +kernel
theorem dX8_placeInBank_24 : decode cX8_placeInBank 24 = .ok (.iload 4, 2) := by decide +kernel
theorem dX8_placeInBank_26 : decode cX8_placeInBank 26 = .ok (.iadd, 1) := by decide +kernel
theorem dX8_placeInBank_27 : decode cX8_placeInBank 27 = .ok (.iaload, 1) := by decide +kernel
theorem dX8_placeInBank_28 : decode cX8_placeInBank 28 = .ok (.istore 5, 2) := by decide +kernel
theorem dX8_placeInBank_30 : decode cX8_placeInBank 30 = .ok (.iload_n 3, 1) := by decide +kernel
theorem dX8_placeInBank_31 : decode cX8_placeInBank 31 = .ok (.ifCond .lt 14, 3) := by decide +kernel
theorem dX8_placeInBank_34 : decode cX8_placeInBank 34 = .ok (.iload_n 3, 1) := by decide +kernel
theorem dX8_placeInBank_35 : decode cX8_placeInBank 35 = .ok (.aload_n 0, 1) := by decide +kernel
theorem dX8_placeInBank_36 : decode cX8_placeInBank 36 = .ok (.getfield 24, 3) := by decide +kernel
theorem dX8_placeInBank_39 : decode cX8_placeInBank 39 = .ok (.iload 5, 2) := by decide +kernel
theorem dX8_placeInBank_41 : decode cX8_placeInBank 41 = .ok (.iaload, 1) := by decide +kernel
theorem dX8_placeInBank_42 : decode cX8_placeInBank 42 = .ok (.if_icmp .lt 7, 3) := by decide +kernel
theorem dX8_placeInBank_45 : decode cX8_placeInBank 45 = .ok (.sipush (-1000), 3) := by decide +kernel
theorem dX8_placeInBank_48 : decode cX8_placeInBank 48 = .ok (.ireturn, 1) := by decide +kernel
theorem dX8_placeInBank_49 : decode cX8_placeInBank 49 = .ok (.aload_n 0, 1) := by decide +kernel
theorem dX8_placeInBank_50 : decode cX8_placeInBank 50 = .ok (.getfield 9, 3) := by decide +kernel
theorem dX8_placeInBank_53 : decode cX8_placeInBank 53 = .ok (.iload 5, 2) := by decide +kernel
theorem dX8_placeInBank_55 : decode cX8_placeInBank 55 = .ok (.iaload, 1) := by decide +kernel
theorem dX8_placeInBank_56 : decode cX8_placeInBank 56 = .ok (.aload_n 0, 1) := by decide +kernel
theorem dX8_placeInBank_57 : decode cX8_placeInBank 57 = .ok (.getfield 15, 3) := by decide +kernel
theorem dX8_placeInBank_60 : decode cX8_placeInBank 60 = .ok (.iload 5, 2) := by decide +kernel
theorem dX8_placeInBank_62 : decode cX8_placeInBank 62 = .ok (.iaload, 1) := by decide +kernel
theorem dX8_placeInBank_63 : decode cX8_placeInBank 63 = .ok (.iload_n 3, 1) := by decide +kernel
theorem dX8_placeInBank_64 : decode cX8_placeInBank 64 = .ok (.imul, 1) := by decide +kernel
theorem dX8_placeInBank_65 : decode cX8_placeInBank 65 = .ok (.iadd, 1) := by decide +kernel
theorem dX8_placeInBank_66 : decode cX8_placeInBank 66 = .ok (.istore_n 3, 1) := by decide +kernel
theorem dX8_placeInBank_67 : decode cX8_placeInBank 67 = .ok (.iinc 4 (-1), 3) := by decide +kernel
theorem dX8_placeInBank_70 : decode cX8_placeInBank 70 = .ok (.goto (-58), 3) := by decide +kernel
theorem dX8_placeInBank_73 : decode cX8_placeInBank 73 = .ok (.iload_n 3, 1) := by decide +kernel
theorem dX8_placeInBank_74 : decode cX8_placeInBank 74 = .ok (.ireturn, 1) := by decide +kernel
theorem dX8_cellAt_0 : decode cX8_cellAt 0 = .ok (.aload_n 0, 1) := by decide +kernel
theorem dX8_cellAt_1 : decode cX8_cellAt 1 = .ok (.iload_n 1, 1) := by decide +kernel
theorem dX8_cellAt_2 : decode cX8_cellAt 2 = .ok (.iload_n 2, 1) := by decide +kernel
theorem dX8_cellAt_3 : decode cX8_cellAt 3 = .ok (.invokevirtual 45, 3) := by decide +kernel
theorem dX8_cellAt_6 : decode cX8_cellAt 6 = .ok (.istore_n 3, 1) := by decide +kernel
theorem dX8_cellAt_7 : decode cX8_cellAt 7 = .ok (.iload_n 3, 1) := by decide +kernel
theorem dX8_cellAt_8 : decode cX8_cellAt 8 = .ok (.sipush (-1000), 3) := by decide +kernel
theorem dX8_cellAt_11 : decode cX8_cellAt 11 = .ok (.if_icmp .eq 34, 3) := by decide +kernel
theorem dX8_cellAt_14 : decode cX8_cellAt 14 = .ok (.aload_n 0, 1) := by decide +kernel
theorem dX8_cellAt_15 : decode cX8_cellAt 15 = .ok (.getfield 33, 3) := by decide +kernel
theorem dX8_cellAt_18 : decode cX8_cellAt 18 = .ok (.aload_n 0, 1) := by decide +kernel
theorem dX8_cellAt_19 : decode cX8_cellAt 19 = .ok (.getfield 30, 3) := by decide +kernel
theorem dX8_cellAt_22 : decode cX8_cellAt 22 = .ok (.iload_n 1, 1) := by decide +kernel
theorem dX8_cellAt_23 : decode cX8_cellAt 23 = .ok (.iaload, 1) := by decide +kernel
theorem dX8_cellAt_24 : decode cX8_cellAt 24 = .ok (.iload_n 3, 1) := by decide +kernel
theorem dX8_cellAt_25 : decode cX8_cellAt 25 = .ok (.invokevirtual 49, 3) := by decide +kernel
theorem dX8_cellAt_28 : decode cX8_cellAt 28 = .ok (.ifCond .eq 17, 3) := by decide +kernel
theorem dX8_cellAt_31 : decode cX8_cellAt 31 = .ok (.aload_n 0, 1) := by decide +kernel
theorem dX8_cellAt_32 : decode cX8_cellAt 32 = .ok (.getfield 30, 3) := by decide +kernel
theorem dX8_cellAt_35 : decode cX8_cellAt 35 = .ok (.iload_n 1, 1) := by decide +kernel
theorem dX8_cellAt_36 : decode cX8_cellAt 36 = .ok (.iaload, 1) := by decide +kernel
theorem dX8_cellAt_37 : decode cX8_cellAt 37 = .ok (.bipush 12, 2) := by decide +kernel
theorem dX8_cellAt_39 : decode cX8_cellAt 39 = .ok (.imul, 1) := by decide +kernel
theorem dX8_cellAt_40 : decode cX8_cellAt 40 = .ok (.iload_n 3, 1) := by decide +kernel
theorem dX8_cellAt_41 : decode cX8_cellAt 41 = .ok (.iadd, 1) := by decide +kernel
theorem dX8_cellAt_42 : decode cX8_cellAt 42 = .ok (.goto 4, 3) := by decide +kernel
theorem dX8_cellAt_45 : decode cX8_cellAt 45 = .ok (.iconst (-1), 1) := by decide +kernel
theorem dX8_cellAt_46 : decode cX8_cellAt 46 = .ok (.ireturn, 1) := by decide +kernel
theorem dX8_takenUp_0 : decode cX8_takenUp 0 = .ok (.aload_n 0, 1) := by decide +kernel
theorem dX8_takenUp_1 : decode cX8_takenUp 1 = .ok (.getfield 33, 3) := by decide +kernel
theorem dX8_takenUp_4 : decode cX8_takenUp 4 = .ok (.getfield 55, 3) := by decide +kernel
theorem dX8_takenUp_7 : decode cX8_takenUp 7 = .ok (.aload_n 0, 1) := by decide +kernel
theorem dX8_takenUp_8 : decode cX8_takenUp 8 = .ok (.getfield 30, 3) := by decide +kernel
theorem dX8_takenUp_11 : decode cX8_takenUp 11 = .ok (.iload_n 1, 1) := by decide +kernel
theorem dX8_takenUp_12 : decode cX8_takenUp 12 = .ok (.iaload, 1) := by decide +kernel
theorem dX8_takenUp_13 : decode cX8_takenUp 13 = .ok (.iaload, 1) := by decide +kernel
theorem dX8_takenUp_14 : decode cX8_takenUp 14 = .ok (.istore 4, 2) := by decide +kernel
theorem dX8_takenUp_16 : decode cX8_takenUp 16 = .ok (.iconst 0, 1) := by decide +kernel
theorem dX8_takenUp_17 : decode cX8_takenUp 17 = .ok (.istore 5, 2) := by decide +kernel
theorem dX8_takenUp_19 : decode cX8_takenUp 19 = .ok (.iload 5, 2) := by decide +kernel
theorem dX8_takenUp_21 : decode cX8_takenUp 21 = .ok (.aload_n 0, 1) := by decide +kernel
theorem dX8_takenUp_22 : decode cX8_takenUp 22 = .ok (.getfield 18, 3) := by decide +kernel
theorem dX8_takenUp_25 : decode cX8_takenUp 25 = .ok (.iload_n 1, 1) := by decide +kernel
theorem dX8_takenUp_26 : decode cX8_takenUp 26 = .ok (.iaload, 1) := by decide +kernel
theorem dX8_takenUp_27 : decode cX8_takenUp 27 = .ok (.if_icmp .ge 72, 3) := by decide +kernel
theorem dX8_takenUp_30 : decode cX8_takenUp 30 = .ok (.iload 5, 2) := by decide +kernel
theorem dX8_takenUp_32 : decode cX8_takenUp 32 = .ok (.aload_n 0, 1) := by decide +kernel
theorem dX8_takenUp_33 : decode cX8_takenUp 33 = .ok (.getfield 18, 3) := by decide +kernel
theorem dX8_takenUp_36 : decode cX8_takenUp 36 = .ok (.iload_n 1, 1) := by decide +kernel
theorem dX8_takenUp_37 : decode cX8_takenUp 37 = .ok (.iaload, 1) := by decide +kernel
theorem dX8_takenUp_38 : decode cX8_takenUp 38 = .ok (.iconst 1, 1) := by decide +kernel
theorem dX8_takenUp_39 : decode cX8_takenUp 39 = .ok (.isub, 1) := by decide +kernel
theorem dX8_takenUp_40 : decode cX8_takenUp 40 = .ok (.if_icmp .ne 7, 3) := by decide +kernel
theorem dX8_takenUp_43 : decode cX8_takenUp 43 = .ok (.iload_n 2, 1) := by decide +kernel
theorem dX8_takenUp_44 : decode cX8_takenUp 44 = .ok (.goto 19, 3) := by decide +kernel
theorem dX8_takenUp_47 : decode cX8_takenUp 47 = .ok (.aload_n 0, 1) := by decide +kernel
theorem dX8_takenUp_48 : decode cX8_takenUp 48 = .ok (.getfield 27, 3) := by decide +kernel
theorem dX8_takenUp_51 : decode cX8_takenUp 51 = .ok (.aload_n 0, 1) := by decide +kernel
theorem dX8_takenUp_52 : decode cX8_takenUp 52 = .ok (.getfield 21, 3) := by decide +kernel
theorem dX8_takenUp_55 : decode cX8_takenUp 55 = .ok (.iload_n 1, 1) := by decide +kernel
theorem dX8_takenUp_56 : decode cX8_takenUp 56 = .ok (.iconst 4, 1) := by decide +kernel
theorem dX8_takenUp_57 : decode cX8_takenUp 57 = .ok (.imul, 1) := by decide +kernel
theorem dX8_takenUp_58 : decode cX8_takenUp 58 = .ok (.iload 5, 2) := by decide +kernel
theorem dX8_takenUp_60 : decode cX8_takenUp 60 = .ok (.iadd, 1) := by decide +kernel
theorem dX8_takenUp_61 : decode cX8_takenUp 61 = .ok (.iaload, 1) := by decide +kernel
theorem dX8_takenUp_62 : decode cX8_takenUp 62 = .ok (.iaload, 1) := by decide +kernel
theorem dX8_takenUp_63 : decode cX8_takenUp 63 = .ok (.istore 6, 2) := by decide +kernel
theorem dX8_takenUp_65 : decode cX8_takenUp 65 = .ok (.iload 4, 2) := by decide +kernel
theorem dX8_takenUp_67 : decode cX8_takenUp 67 = .ok (.iload 6, 2) := by decide +kernel
theorem dX8_takenUp_69 : decode cX8_takenUp 69 = .ok (.invokestatic 56, 3) := by decide +kernel
theorem dX8_takenUp_72 : decode cX8_takenUp 72 = .ok (.istore 7, 2) := by decide +kernel
theorem dX8_takenUp_74 : decode cX8_takenUp 74 = .ok (.iload 7, 2) := by decide +kernel
theorem dX8_takenUp_76 : decode cX8_takenUp 76 = .ok (.ifCond .eq 6, 3) := by decide +kernel
theorem dX8_takenUp_79 : decode cX8_takenUp 79 = .ok (.iload 7, 2) := by decide +kernel
theorem dX8_takenUp_81 : decode cX8_takenUp 81 = .ok (.ireturn, 1) := by decide +kernel
theorem dX8_takenUp_82 : decode cX8_takenUp 82 = .ok (.iload_n 3, 1) := by decide +kernel
theorem dX8_takenUp_83 : decode cX8_takenUp 83 = .ok (.ifCond .ne 6, 3) := by decide +kernel
theorem dX8_takenUp_86 : decode cX8_takenUp 86 = .ok (.bipush (-8), 2) := by decide +kernel
theorem dX8_takenUp_88 : decode cX8_takenUp 88 = .ok (.ireturn, 1) := by decide +kernel
theorem dX8_takenUp_89 : decode cX8_takenUp 89 = .ok (.iload 6, 2) := by decide +kernel
theorem dX8_takenUp_91 : decode cX8_takenUp 91 = .ok (.istore 4, 2) := by decide +kernel
theorem dX8_takenUp_93 : decode cX8_takenUp 93 = .ok (.iinc 5 1, 3) := by decide +kernel
theorem dX8_takenUp_96 : decode cX8_takenUp 96 = .ok (.goto (-77), 3) := by decide +kernel
theorem dX8_takenUp_99 : decode cX8_takenUp 99 = .ok (.iconst 0, 1) := by decide +kernel
theorem dX8_takenUp_100 : decode cX8_takenUp 100 = .ok (.ireturn, 1) := by decide +kernel
theorem dX8_handedDown_0 : decode cX8_handedDown 0 = .ok (.iload_n 2, 1) := by decide +kernel
theorem dX8_handedDown_1 : decode cX8_handedDown 1 = .ok (.istore 4, 2) := by decide +kernel
theorem dX8_handedDown_3 : decode cX8_handedDown 3 = .ok (.iload_n 3, 1) := by decide +kernel
theorem dX8_handedDown_4 : decode cX8_handedDown 4 = .ok (.istore 5, 2) := by decide +kernel
theorem dX8_handedDown_6 : decode cX8_handedDown 6 = .ok (.aload_n 0, 1) := by decide +kernel
theorem dX8_handedDown_7 : decode cX8_handedDown 7 = .ok (.getfield 18, 3) := by decide +kernel
theorem dX8_handedDown_10 : decode cX8_handedDown 10 = .ok (.iload_n 1, 1) := by decide +kernel
theorem dX8_handedDown_11 : decode cX8_handedDown 11 = .ok (.iaload, 1) := by decide +kernel
theorem dX8_handedDown_12 : decode cX8_handedDown 12 = .ok (.iconst 1, 1) := by decide +kernel
theorem dX8_handedDown_13 : decode cX8_handedDown 13 = .ok (.isub, 1) := by decide +kernel
theorem dX8_handedDown_14 : decode cX8_handedDown 14 = .ok (.istore 6, 2) := by decide +kernel
theorem dX8_handedDown_16 : decode cX8_handedDown 16 = .ok (.iload 6, 2) := by decide +kernel
theorem dX8_handedDown_18 : decode cX8_handedDown 18 = .ok (.ifCond .lt 66, 3) := by decide +kernel
theorem dX8_handedDown_21 : decode cX8_handedDown 21 = .ok (.aload_n 0, 1) := by decide +kernel
theorem dX8_handedDown_22 : decode cX8_handedDown 22 = .ok (.getfield 27, 3) := by decide +kernel
theorem dX8_handedDown_25 : decode cX8_handedDown 25 = .ok (.aload_n 0, 1) := by decide +kernel
theorem dX8_handedDown_26 : decode cX8_handedDown 26 = .ok (.getfield 21, 3) := by decide +kernel
theorem dX8_handedDown_29 : decode cX8_handedDown 29 = .ok (.iload_n 1, 1) := by decide +kernel
theorem dX8_handedDown_30 : decode cX8_handedDown 30 = .ok (.iconst 4, 1) := by decide +kernel
theorem dX8_handedDown_31 : decode cX8_handedDown 31 = .ok (.imul, 1) := by decide +kernel
theorem dX8_handedDown_32 : decode cX8_handedDown 32 = .ok (.iload 6, 2) := by decide +kernel
theorem dX8_handedDown_34 : decode cX8_handedDown 34 = .ok (.iadd, 1) := by decide +kernel
theorem dX8_handedDown_35 : decode cX8_handedDown 35 = .ok (.iaload, 1) := by decide +kernel
theorem dX8_handedDown_36 : decode cX8_handedDown 36 = .ok (.iaload, 1) := by decide +kernel
theorem dX8_handedDown_37 : decode cX8_handedDown 37 = .ok (.istore 7, 2) := by decide +kernel
theorem dX8_handedDown_39 : decode cX8_handedDown 39 = .ok (.iload 4, 2) := by decide +kernel
theorem dX8_handedDown_41 : decode cX8_handedDown 41 = .ok (.iload 5, 2) := by decide +kernel
theorem dX8_handedDown_43 : decode cX8_handedDown 43 = .ok (.iload 7, 2) := by decide +kernel
theorem dX8_handedDown_45 : decode cX8_handedDown 45 = .ok (.invokestatic 61, 3) := by decide +kernel
theorem dX8_handedDown_48 : decode cX8_handedDown 48 = .ok (.istore 8, 2) := by decide +kernel
theorem dX8_handedDown_50 : decode cX8_handedDown 50 = .ok (.iload 8, 2) := by decide +kernel
theorem dX8_handedDown_52 : decode cX8_handedDown 52 = .ok (.ifCond .eq 6, 3) := by decide +kernel
theorem dX8_handedDown_55 : decode cX8_handedDown 55 = .ok (.iload 8, 2) := by decide +kernel
theorem dX8_handedDown_57 : decode cX8_handedDown 57 = .ok (.ireturn, 1) := by decide +kernel
theorem dX8_handedDown_58 : decode cX8_handedDown 58 = .ok (.iload 7, 2) := by decide +kernel
theorem dX8_handedDown_60 : decode cX8_handedDown 60 = .ok (.bipush 7, 2) := by decide +kernel
theorem dX8_handedDown_62 : decode cX8_handedDown 62 = .ok (.if_icmp .gt 8, 3) := by decide +kernel
theorem dX8_handedDown_65 : decode cX8_handedDown 65 = .ok (.iload 7, 2) := by decide +kernel
theorem dX8_handedDown_67 : decode cX8_handedDown 67 = .ok (.goto 5, 3) := by decide +kernel
theorem dX8_handedDown_70 : decode cX8_handedDown 70 = .ok (.iload 4, 2) := by decide +kernel
theorem dX8_handedDown_72 : decode cX8_handedDown 72 = .ok (.istore 4, 2) := by decide +kernel
theorem dX8_handedDown_74 : decode cX8_handedDown 74 = .ok (.iload 7, 2) := by decide +kernel
theorem dX8_handedDown_76 : decode cX8_handedDown 76 = .ok (.istore 5, 2) := by decide +kernel
theorem dX8_handedDown_78 : decode cX8_handedDown 78 = .ok (.iinc 6 (-1), 3) := by decide +kernel
theorem dX8_handedDown_81 : decode cX8_handedDown 81 = .ok (.goto (-65), 3) := by decide +kernel
theorem dX8_handedDown_84 : decode cX8_handedDown 84 = .ok (.iload 4, 2) := by decide +kernel
theorem dX8_handedDown_86 : decode cX8_handedDown 86 = .ok (.iload 5, 2) := by decide +kernel
theorem dX8_handedDown_88 : decode cX8_handedDown 88 = .ok (.aload_n 0, 1) := by decide +kernel
theorem dX8_handedDown_89 : decode cX8_handedDown 89 = .ok (.getfield 33, 3) := by decide +kernel
theorem dX8_handedDown_92 : decode cX8_handedDown 92 = .ok (.getfield 55, 3) := by decide +kernel
theorem dX8_handedDown_95 : decode cX8_handedDown 95 = .ok (.aload_n 0, 1) := by decide +kernel
theorem dX8_handedDown_96 : decode cX8_handedDown 96 = .ok (.getfield 30, 3) := by decide +kernel
theorem dX8_handedDown_99 : decode cX8_handedDown 99 = .ok (.iload_n 1, 1) := by decide +kernel
theorem dX8_handedDown_100 : decode cX8_handedDown 100 = .ok (.iaload, 1) := by decide +kernel
theorem dX8_handedDown_101 : decode cX8_handedDown 101 = .ok (.iaload, 1) := by decide +kernel
theorem dX8_handedDown_102 : decode cX8_handedDown 102 = .ok (.invokestatic 61, 3) := by decide +kernel
theorem dX8_handedDown_105 : decode cX8_handedDown 105 = .ok (.ireturn, 1) := by decide +kernel
theorem dX8_readRefusal_0 : decode cX8_readRefusal 0 = .ok (.aload_n 0, 1) := by decide +kernel
theorem dX8_readRefusal_1 : decode cX8_readRefusal 1 = .ok (.iload_n 1, 1) := by decide +kernel
theorem dX8_readRefusal_2 : decode cX8_readRefusal 2 = .ok (.iload_n 2, 1) := by decide +kernel
theorem dX8_readRefusal_3 : decode cX8_readRefusal 3 = .ok (.invokevirtual 45, 3) := by decide +kernel
theorem dX8_readRefusal_6 : decode cX8_readRefusal 6 = .ok (.istore_n 3, 1) := by decide +kernel
theorem dX8_readRefusal_7 : decode cX8_readRefusal 7 = .ok (.iload_n 3, 1) := by decide +kernel
theorem dX8_readRefusal_8 : decode cX8_readRefusal 8 = .ok (.sipush (-1000), 3) := by decide +kernel
theorem dX8_readRefusal_11 : decode cX8_readRefusal 11 = .ok (.if_icmp .ne 8, 3) := by decide +kernel
theorem dX8_readRefusal_14 : decode cX8_readRefusal 14 = .ok (.bipush (-4), 2) := by decide +kernel
theorem dX8_readRefusal_16 : decode cX8_readRefusal 16 = .ok (.goto 28, 3) := by decide +kernel
theorem dX8_readRefusal_19 : decode cX8_readRefusal 19 = .ok (.aload_n 0, 1) := by decide +kernel
theorem dX8_readRefusal_20 : decode cX8_readRefusal 20 = .ok (.iload_n 1, 1) := by decide +kernel
theorem dX8_readRefusal_21 : decode cX8_readRefusal 21 = .ok (.aload_n 0, 1) := by decide +kernel
theorem dX8_readRefusal_22 : decode cX8_readRefusal 22 = .ok (.getfield 27, 3) := by decide +kernel
theorem dX8_readRefusal_25 : decode cX8_readRefusal 25 = .ok (.iload_n 1, 1) := by decide +kernel
theorem dX8_readRefusal_26 : decode cX8_readRefusal 26 = .ok (.iaload, 1) := by decide +kernel
theorem dX8_readRefusal_27 : decode cX8_readRefusal 27 = .ok (.aload_n 0, 1) := by decide +kernel
theorem dX8_readRefusal_28 : decode cX8_readRefusal 28 = .ok (.getfield 33, 3) := by decide +kernel
theorem dX8_readRefusal_31 : decode cX8_readRefusal 31 = .ok (.aload_n 0, 1) := by decide +kernel
theorem dX8_readRefusal_32 : decode cX8_readRefusal 32 = .ok (.getfield 30, 3) := by decide +kernel
theorem dX8_readRefusal_35 : decode cX8_readRefusal 35 = .ok (.iload_n 1, 1) := by decide +kernel
theorem dX8_readRefusal_36 : decode cX8_readRefusal 36 = .ok (.iaload, 1) := by decide +kernel
theorem dX8_readRefusal_37 : decode cX8_readRefusal 37 = .ok (.iload_n 3, 1) := by decide +kernel
theorem dX8_readRefusal_38 : decode cX8_readRefusal 38 = .ok (.invokevirtual 49, 3) := by decide +kernel
theorem dX8_readRefusal_41 : decode cX8_readRefusal 41 = .ok (.invokevirtual 65, 3) := by decide +kernel
theorem dX8_readRefusal_44 : decode cX8_readRefusal 44 = .ok (.ireturn, 1) := by decide +kernel
theorem dX8_writeRefusal_0 : decode cX8_writeRefusal 0 = .ok (.aload_n 0, 1) := by decide +kernel
theorem dX8_writeRefusal_1 : decode cX8_writeRefusal 1 = .ok (.iload_n 1, 1) := by decide +kernel
theorem dX8_writeRefusal_2 : decode cX8_writeRefusal 2 = .ok (.iload_n 2, 1) := by decide +kernel
theorem dX8_writeRefusal_3 : decode cX8_writeRefusal 3 = .ok (.invokevirtual 45, 3) := by decide +kernel
theorem dX8_writeRefusal_6 : decode cX8_writeRefusal 6 = .ok (.istore 5, 2) := by decide +kernel
theorem dX8_writeRefusal_8 : decode cX8_writeRefusal 8 = .ok (.iload 5, 2) := by decide +kernel
theorem dX8_writeRefusal_10 : decode cX8_writeRefusal 10 = .ok (.sipush (-1000), 3) := by decide +kernel
theorem dX8_writeRefusal_13 : decode cX8_writeRefusal 13 = .ok (.if_icmp .ne 6, 3) := by decide +kernel
theorem dX8_writeRefusal_16 : decode cX8_writeRefusal 16 = .ok (.bipush (-4), 2) := by decide +kernel
theorem dX8_writeRefusal_18 : decode cX8_writeRefusal 18 = .ok (.ireturn, 1) := by decide +kernel
theorem dX8_writeRefusal_19 : decode cX8_writeRefusal 19 = .ok (.aload_n 0, 1) := by decide +kernel
theorem dX8_writeRefusal_20 : decode cX8_writeRefusal 20 = .ok (.iload_n 1, 1) := by decide +kernel
theorem dX8_writeRefusal_21 : decode cX8_writeRefusal 21 = .ok (.iload_n 3, 1) := by decide +kernel
theorem dX8_writeRefusal_22 : decode cX8_writeRefusal 22 = .ok (.iload 4, 2) := by decide +kernel
theorem dX8_writeRefusal_24 : decode cX8_writeRefusal 24 = .ok (.invokevirtual 69, 3) := by decide +kernel
theorem dX8_writeRefusal_27 : decode cX8_writeRefusal 27 = .ok (.istore 6, 2) := by decide +kernel
theorem dX8_writeRefusal_29 : decode cX8_writeRefusal 29 = .ok (.iload 6, 2) := by decide +kernel
theorem dX8_writeRefusal_31 : decode cX8_writeRefusal 31 = .ok (.ifCond .eq 6, 3) := by decide +kernel
theorem dX8_writeRefusal_34 : decode cX8_writeRefusal 34 = .ok (.iload 6, 2) := by decide +kernel
theorem dX8_writeRefusal_36 : decode cX8_writeRefusal 36 = .ok (.ireturn, 1) := by decide +kernel
theorem dX8_writeRefusal_37 : decode cX8_writeRefusal 37 = .ok (.aload_n 0, 1) := by decide +kernel
theorem dX8_writeRefusal_38 : decode cX8_writeRefusal 38 = .ok (.getfield 33, 3) := by decide +kernel
theorem dX8_writeRefusal_41 : decode cX8_writeRefusal 41 = .ok (.aload_n 0, 1) := by decide +kernel
theorem dX8_writeRefusal_42 : decode cX8_writeRefusal 42 = .ok (.getfield 30, 3) := by decide +kernel
theorem dX8_writeRefusal_45 : decode cX8_writeRefusal 45 = .ok (.iload_n 1, 1) := by decide +kernel
theorem dX8_writeRefusal_46 : decode cX8_writeRefusal 46 = .ok (.iaload, 1) := by decide +kernel
theorem dX8_writeRefusal_47 : decode cX8_writeRefusal 47 = .ok (.iload 5, 2) := by decide +kernel
theorem dX8_writeRefusal_49 : decode cX8_writeRefusal 49 = .ok (.invokevirtual 49, 3) := by decide +kernel
theorem dX8_writeRefusal_52 : decode cX8_writeRefusal 52 = .ok (.ifCond .eq 7, 3) := by decide +kernel
theorem dX8_writeRefusal_55 : decode cX8_writeRefusal 55 = .ok (.iconst 0, 1) := by decide +kernel
theorem dX8_writeRefusal_56 : decode cX8_writeRefusal 56 = .ok (.goto 5, 3) := by decide +kernel
theorem dX8_writeRefusal_59 : decode cX8_writeRefusal 59 = .ok (.bipush (-8), 2) := by decide +kernel
theorem dX8_writeRefusal_61 : decode cX8_writeRefusal 61 = .ok (.ireturn, 1) := by decide +kernel
theorem dX8_readsAnything_0 : decode cX8_readsAnything 0 = .ok (.aload_n 0, 1) := by decide +kernel
theorem dX8_readsAnything_1 : decode cX8_readsAnything 1 = .ok (.getfield 33, 3) := by decide +kernel
theorem dX8_readsAnything_4 : decode cX8_readsAnything 4 = .ok (.getfield 55, 3) := by decide +kernel
theorem dX8_readsAnything_7 : decode cX8_readsAnything 7 = .ok (.aload_n 0, 1) := by decide +kernel
theorem dX8_readsAnything_8 : decode cX8_readsAnything 8 = .ok (.getfield 30, 3) := by decide +kernel
theorem dX8_readsAnything_11 : decode cX8_readsAnything 11 = .ok (.iload_n 1, 1) := by decide +kernel
theorem dX8_readsAnything_12 : decode cX8_readsAnything 12 = .ok (.iaload, 1) := by decide +kernel
theorem dX8_readsAnything_13 : decode cX8_readsAnything 13 = .ok (.iaload, 1) := by decide +kernel
theorem dX8_readsAnything_14 : decode cX8_readsAnything 14 = .ok (.istore_n 2, 1) := by decide +kernel
theorem dX8_readsAnything_15 : decode cX8_readsAnything 15 = .ok (.iload_n 2, 1) := by decide +kernel
theorem dX8_readsAnything_16 : decode cX8_readsAnything 16 = .ok (.bipush 8, 2) := by decide +kernel
theorem dX8_readsAnything_18 : decode cX8_readsAnything 18 = .ok (.if_icmp .lt 13, 3) := by decide +kernel
theorem dX8_readsAnything_21 : decode cX8_readsAnything 21 = .ok (.iload_n 2, 1) := by decide +kernel
theorem dX8_readsAnything_22 : decode cX8_readsAnything 22 = .ok (.bipush 10, 2) := by decide +kernel
theorem dX8_readsAnything_24 : decode cX8_readsAnything 24 = .ok (.if_icmp .gt 7, 3) := by decide +kernel
theorem dX8_readsAnything_27 : decode cX8_readsAnything 27 = .ok (.iconst 1, 1) := by decide +kernel
theorem dX8_readsAnything_28 : decode cX8_readsAnything 28 = .ok (.goto 4, 3) := by decide +kernel
theorem dX8_readsAnything_31 : decode cX8_readsAnything 31 = .ok (.iconst 0, 1) := by decide +kernel
theorem dX8_readsAnything_32 : decode cX8_readsAnything 32 = .ok (.ireturn, 1) := by decide +kernel
theorem dX8_kindRead_0 : decode cX8_kindRead 0 = .ok (.aload_n 0, 1) := by decide +kernel
theorem dX8_kindRead_1 : decode cX8_kindRead 1 = .ok (.getfield 33, 3) := by decide +kernel
theorem dX8_kindRead_4 : decode cX8_kindRead 4 = .ok (.getfield 55, 3) := by decide +kernel
theorem dX8_kindRead_7 : decode cX8_kindRead 7 = .ok (.aload_n 0, 1) := by decide +kernel
theorem dX8_kindRead_8 : decode cX8_kindRead 8 = .ok (.getfield 30, 3) := by decide +kernel
theorem dX8_kindRead_11 : decode cX8_kindRead 11 = .ok (.iload_n 1, 1) := by decide +kernel
theorem dX8_kindRead_12 : decode cX8_kindRead 12 = .ok (.iaload, 1) := by decide +kernel
theorem dX8_kindRead_13 : decode cX8_kindRead 13 = .ok (.iaload, 1) := by decide +kernel
theorem dX8_kindRead_14 : decode cX8_kindRead 14 = .ok (.istore_n 2, 1) := by decide +kernel
theorem dX8_kindRead_15 : decode cX8_kindRead 15 = .ok (.iconst 0, 1) := by decide +kernel
theorem dX8_kindRead_16 : decode cX8_kindRead 16 = .ok (.istore_n 3, 1) := by decide +kernel
theorem dX8_kindRead_17 : decode cX8_kindRead 17 = .ok (.iload_n 3, 1) := by decide +kernel
theorem dX8_kindRead_18 : decode cX8_kindRead 18 = .ok (.aload_n 0, 1) := by decide +kernel
theorem dX8_kindRead_19 : decode cX8_kindRead 19 = .ok (.getfield 18, 3) := by decide +kernel
theorem dX8_kindRead_22 : decode cX8_kindRead 22 = .ok (.iload_n 1, 1) := by decide +kernel
theorem dX8_kindRead_23 : decode cX8_kindRead 23 = .ok (.iaload, 1) := by decide +kernel
theorem dX8_kindRead_24 : decode cX8_kindRead 24 = .ok (.if_icmp .ge 40, 3) := by decide +kernel
theorem dX8_kindRead_27 : decode cX8_kindRead 27 = .ok (.aload_n 0, 1) := by decide +kernel
theorem dX8_kindRead_28 : decode cX8_kindRead 28 = .ok (.getfield 27, 3) := by decide +kernel
theorem dX8_kindRead_31 : decode cX8_kindRead 31 = .ok (.aload_n 0, 1) := by decide +kernel
theorem dX8_kindRead_32 : decode cX8_kindRead 32 = .ok (.getfield 21, 3) := by decide +kernel
theorem dX8_kindRead_35 : decode cX8_kindRead 35 = .ok (.iload_n 1, 1) := by decide +kernel
theorem dX8_kindRead_36 : decode cX8_kindRead 36 = .ok (.iconst 4, 1) := by decide +kernel
theorem dX8_kindRead_37 : decode cX8_kindRead 37 = .ok (.imul, 1) := by decide +kernel
theorem dX8_kindRead_38 : decode cX8_kindRead 38 = .ok (.iload_n 3, 1) := by decide +kernel
theorem dX8_kindRead_39 : decode cX8_kindRead 39 = .ok (.iadd, 1) := by decide +kernel
theorem dX8_kindRead_40 : decode cX8_kindRead 40 = .ok (.iaload, 1) := by decide +kernel
theorem dX8_kindRead_41 : decode cX8_kindRead 41 = .ok (.iaload, 1) := by decide +kernel
theorem dX8_kindRead_42 : decode cX8_kindRead 42 = .ok (.istore 4, 2) := by decide +kernel
theorem dX8_kindRead_44 : decode cX8_kindRead 44 = .ok (.iload 4, 2) := by decide +kernel
theorem dX8_kindRead_46 : decode cX8_kindRead 46 = .ok (.bipush 7, 2) := by decide +kernel
theorem dX8_kindRead_48 : decode cX8_kindRead 48 = .ok (.if_icmp .gt 8, 3) := by decide +kernel
theorem dX8_kindRead_51 : decode cX8_kindRead 51 = .ok (.iload 4, 2) := by decide +kernel
theorem dX8_kindRead_53 : decode cX8_kindRead 53 = .ok (.goto 4, 3) := by decide +kernel
theorem dX8_kindRead_56 : decode cX8_kindRead 56 = .ok (.iload_n 2, 1) := by decide +kernel
theorem dX8_kindRead_57 : decode cX8_kindRead 57 = .ok (.istore_n 2, 1) := by decide +kernel
theorem dX8_kindRead_58 : decode cX8_kindRead 58 = .ok (.iinc 3 1, 3) := by decide +kernel
theorem dX8_kindRead_61 : decode cX8_kindRead 61 = .ok (.goto (-44), 3) := by decide +kernel
theorem dX8_kindRead_64 : decode cX8_kindRead 64 = .ok (.iload_n 2, 1) := by decide +kernel
theorem dX8_kindRead_65 : decode cX8_kindRead 65 = .ok (.ireturn, 1) := by decide +kernel
theorem dX8_comeUp_0 : decode cX8_comeUp 0 = .ok (.iconst 0, 1) := by decide +kernel
theorem dX8_comeUp_1 : decode cX8_comeUp 1 = .ok (.istore_n 3, 1) := by decide +kernel
theorem dX8_comeUp_2 : decode cX8_comeUp 2 = .ok (.iload_n 3, 1) := by decide +kernel
theorem dX8_comeUp_3 : decode cX8_comeUp 3 = .ok (.aload_n 0, 1) := by decide +kernel
theorem dX8_comeUp_4 : decode cX8_comeUp 4 = .ok (.getfield 18, 3) := by decide +kernel
theorem dX8_comeUp_7 : decode cX8_comeUp 7 = .ok (.iload_n 1, 1) := by decide +kernel
theorem dX8_comeUp_8 : decode cX8_comeUp 8 = .ok (.iaload, 1) := by decide +kernel
theorem dX8_comeUp_9 : decode cX8_comeUp 9 = .ok (.if_icmp .ge 28, 3) := by decide +kernel
theorem dX8_comeUp_12 : decode cX8_comeUp 12 = .ok (.aload_n 2, 1) := by decide +kernel
theorem dX8_comeUp_13 : decode cX8_comeUp 13 = .ok (.aload_n 0, 1) := by decide +kernel
theorem dX8_comeUp_14 : decode cX8_comeUp 14 = .ok (.getfield 27, 3) := by decide +kernel
theorem dX8_comeUp_17 : decode cX8_comeUp 17 = .ok (.aload_n 0, 1) := by decide +kernel
theorem dX8_comeUp_18 : decode cX8_comeUp 18 = .ok (.getfield 21, 3) := by decide +kernel
theorem dX8_comeUp_21 : decode cX8_comeUp 21 = .ok (.iload_n 1, 1) := by decide +kernel
theorem dX8_comeUp_22 : decode cX8_comeUp 22 = .ok (.iconst 4, 1) := by decide +kernel
theorem dX8_comeUp_23 : decode cX8_comeUp 23 = .ok (.imul, 1) := by decide +kernel
theorem dX8_comeUp_24 : decode cX8_comeUp 24 = .ok (.iload_n 3, 1) := by decide +kernel
theorem dX8_comeUp_25 : decode cX8_comeUp 25 = .ok (.iadd, 1) := by decide +kernel
theorem dX8_comeUp_26 : decode cX8_comeUp 26 = .ok (.iaload, 1) := by decide +kernel
theorem dX8_comeUp_27 : decode cX8_comeUp 27 = .ok (.iaload, 1) := by decide +kernel
theorem dX8_comeUp_28 : decode cX8_comeUp 28 = .ok (.invokevirtual 72, 3) := by decide +kernel
theorem dX8_comeUp_31 : decode cX8_comeUp 31 = .ok (.iinc 3 1, 3) := by decide +kernel
theorem dX8_comeUp_34 : decode cX8_comeUp 34 = .ok (.goto (-32), 3) := by decide +kernel
theorem dX8_comeUp_37 : decode cX8_comeUp 37 = .ok (.return_, 1) := by decide +kernel
theorem dX8_goDown_0 : decode cX8_goDown 0 = .ok (.aload_n 0, 1) := by decide +kernel
theorem dX8_goDown_1 : decode cX8_goDown 1 = .ok (.getfield 18, 3) := by decide +kernel
theorem dX8_goDown_4 : decode cX8_goDown 4 = .ok (.iload_n 1, 1) := by decide +kernel
theorem dX8_goDown_5 : decode cX8_goDown 5 = .ok (.iaload, 1) := by decide +kernel
theorem dX8_goDown_6 : decode cX8_goDown 6 = .ok (.iconst 1, 1) := by decide +kernel
theorem dX8_goDown_7 : decode cX8_goDown 7 = .ok (.isub, 1) := by decide +kernel
theorem dX8_goDown_8 : decode cX8_goDown 8 = .ok (.istore_n 3, 1) := by decide +kernel
theorem dX8_goDown_9 : decode cX8_goDown 9 = .ok (.iload_n 3, 1) := by decide +kernel
theorem dX8_goDown_10 : decode cX8_goDown 10 = .ok (.ifCond .lt 28, 3) := by decide +kernel
theorem dX8_goDown_13 : decode cX8_goDown 13 = .ok (.aload_n 2, 1) := by decide +kernel
theorem dX8_goDown_14 : decode cX8_goDown 14 = .ok (.aload_n 0, 1) := by decide +kernel
theorem dX8_goDown_15 : decode cX8_goDown 15 = .ok (.getfield 27, 3) := by decide +kernel
theorem dX8_goDown_18 : decode cX8_goDown 18 = .ok (.aload_n 0, 1) := by decide +kernel
theorem dX8_goDown_19 : decode cX8_goDown 19 = .ok (.getfield 21, 3) := by decide +kernel
theorem dX8_goDown_22 : decode cX8_goDown 22 = .ok (.iload_n 1, 1) := by decide +kernel
theorem dX8_goDown_23 : decode cX8_goDown 23 = .ok (.iconst 4, 1) := by decide +kernel
theorem dX8_goDown_24 : decode cX8_goDown 24 = .ok (.imul, 1) := by decide +kernel
theorem dX8_goDown_25 : decode cX8_goDown 25 = .ok (.iload_n 3, 1) := by decide +kernel
theorem dX8_goDown_26 : decode cX8_goDown 26 = .ok (.iadd, 1) := by decide +kernel
theorem dX8_goDown_27 : decode cX8_goDown 27 = .ok (.iaload, 1) := by decide +kernel
theorem dX8_goDown_28 : decode cX8_goDown 28 = .ok (.iaload, 1) := by decide +kernel
theorem dX8_goDown_29 : decode cX8_goDown 29 = .ok (.invokevirtual 72, 3) := by decide +kernel
theorem dX8_goDown_32 : decode cX8_goDown 32 = .ok (.iinc 3 (-1), 3) := by decide +kernel
theorem dX8_goDown_35 : decode cX8_goDown 35 = .ok (.goto (-26), 3) := by decide +kernel
theorem dX8_goDown_38 : decode cX8_goDown 38 = .ok (.return_, 1) := by decide +kernel
theorem dX8_shared_0 : decode cX8_shared 0 = .ok (.iconst 0, 1) := by decide +kernel
theorem dX8_shared_1 : decode cX8_shared 1 = .ok (.istore_n 3, 1) := by decide +kernel
theorem dX8_shared_2 : decode cX8_shared 2 = .ok (.iconst 0, 1) := by decide +kernel
theorem dX8_shared_3 : decode cX8_shared 3 = .ok (.istore 4, 2) := by decide +kernel
theorem dX8_shared_5 : decode cX8_shared 5 = .ok (.iload 4, 2) := by decide +kernel
theorem dX8_shared_7 : decode cX8_shared 7 = .ok (.aload_n 0, 1) := by decide +kernel
theorem dX8_shared_8 : decode cX8_shared 8 = .ok (.getfield 24, 3) := by decide +kernel
theorem dX8_shared_11 : decode cX8_shared 11 = .ok (.iload_n 1, 1) := by decide +kernel
theorem dX8_shared_12 : decode cX8_shared 12 = .ok (.iaload, 1) := by decide +kernel
theorem dX8_shared_13 : decode cX8_shared 13 = .ok (.if_icmp .ge 38, 3) := by decide +kernel
theorem dX8_shared_16 : decode cX8_shared 16 = .ok (.aload_n 0, 1) := by decide +kernel
theorem dX8_shared_17 : decode cX8_shared 17 = .ok (.iload_n 2, 1) := by decide +kernel
theorem dX8_shared_18 : decode cX8_shared 18 = .ok (.iconst 0, 1) := by decide +kernel
theorem dX8_shared_19 : decode cX8_shared 19 = .ok (.aload_n 0, 1) := by decide +kernel
theorem dX8_shared_20 : decode cX8_shared 20 = .ok (.getfield 24, 3) := by decide +kernel
theorem dX8_shared_23 : decode cX8_shared 23 = .ok (.iload_n 2, 1) := by decide +kernel
theorem dX8_shared_24 : decode cX8_shared 24 = .ok (.iaload, 1) := by decide +kernel
theorem dX8_shared_25 : decode cX8_shared 25 = .ok (.aload_n 0, 1) := by decide +kernel
theorem dX8_shared_26 : decode cX8_shared 26 = .ok (.iload_n 1, 1) := by decide +kernel
theorem dX8_shared_27 : decode cX8_shared 27 = .ok (.iload 4, 2) := by decide +kernel
theorem dX8_shared_29 : decode cX8_shared 29 = .ok (.invokevirtual 78, 3) := by decide +kernel
theorem dX8_shared_32 : decode cX8_shared 32 = .ok (.invokevirtual 81, 3) := by decide +kernel
theorem dX8_shared_35 : decode cX8_shared 35 = .ok (.ifCond .eq 10, 3) := by decide +kernel
theorem dX8_shared_38 : decode cX8_shared 38 = .ok (.iload_n 3, 1) := by decide +kernel
theorem dX8_shared_39 : decode cX8_shared 39 = .ok (.iconst 1, 1) := by decide +kernel
theorem dX8_shared_40 : decode cX8_shared 40 = .ok (.iload 4, 2) := by decide +kernel
theorem dX8_shared_42 : decode cX8_shared 42 = .ok (.ishl, 1) := by decide +kernel
theorem dX8_shared_43 : decode cX8_shared 43 = .ok (.ior, 1) := by decide +kernel
theorem dX8_shared_44 : decode cX8_shared 44 = .ok (.istore_n 3, 1) := by decide +kernel
theorem dX8_shared_45 : decode cX8_shared 45 = .ok (.iinc 4 1, 3) := by decide +kernel
theorem dX8_shared_48 : decode cX8_shared 48 = .ok (.goto (-43), 3) := by decide +kernel
theorem dX8_shared_51 : decode cX8_shared 51 = .ok (.iload_n 3, 1) := by decide +kernel
theorem dX8_shared_52 : decode cX8_shared 52 = .ok (.ireturn, 1) := by decide +kernel
theorem dX8_safeUpward_0 : decode cX8_safeUpward 0 = .ok (.aload_n 0, 1) := by decide +kernel
theorem dX8_safeUpward_1 : decode cX8_safeUpward 1 = .ok (.getfield 24, 3) := by decide +kernel
theorem dX8_safeUpward_4 : decode cX8_safeUpward 4 = .ok (.iload_n 1, 1) := by decide +kernel
theorem dX8_safeUpward_5 : decode cX8_safeUpward 5 = .ok (.iaload, 1) := by decide +kernel
theorem dX8_safeUpward_6 : decode cX8_safeUpward 6 = .ok (.aload_n 0, 1) := by decide +kernel
theorem dX8_safeUpward_7 : decode cX8_safeUpward 7 = .ok (.getfield 24, 3) := by decide +kernel
theorem dX8_safeUpward_10 : decode cX8_safeUpward 10 = .ok (.iload_n 2, 1) := by decide +kernel
theorem dX8_safeUpward_11 : decode cX8_safeUpward 11 = .ok (.iaload, 1) := by decide +kernel
theorem dX8_safeUpward_12 : decode cX8_safeUpward 12 = .ok (.invokestatic 85, 3) := by decide +kernel
theorem dX8_safeUpward_15 : decode cX8_safeUpward 15 = .ok (.istore_n 3, 1) := by decide +kernel
theorem dX8_safeUpward_16 : decode cX8_safeUpward 16 = .ok (.iconst 0, 1) := by decide +kernel
theorem dX8_safeUpward_17 : decode cX8_safeUpward 17 = .ok (.istore 4, 2) := by decide +kernel
theorem dX8_safeUpward_19 : decode cX8_safeUpward 19 = .ok (.iload 4, 2) := by decide +kernel
theorem dX8_safeUpward_21 : decode cX8_safeUpward 21 = .ok (.iload_n 3, 1) := by decide +kernel
theorem dX8_safeUpward_22 : decode cX8_safeUpward 22 = .ok (.if_icmp .ge 29, 3) := by decide +kernel
theorem dX8_safeUpward_25 : decode cX8_safeUpward 25 = .ok (.aload_n 0, 1) := by decide +kernel
theorem dX8_safeUpward_26 : decode cX8_safeUpward 26 = .ok (.iload_n 2, 1) := by decide +kernel
theorem dX8_safeUpward_27 : decode cX8_safeUpward 27 = .ok (.iconst 0, 1) := by decide +kernel
theorem dX8_safeUpward_28 : decode cX8_safeUpward 28 = .ok (.iload 4, 2) := by decide +kernel
theorem dX8_safeUpward_30 : decode cX8_safeUpward 30 = .ok (.aload_n 0, 1) := by decide +kernel
theorem dX8_safeUpward_31 : decode cX8_safeUpward 31 = .ok (.iload_n 1, 1) := by decide +kernel
theorem dX8_safeUpward_32 : decode cX8_safeUpward 32 = .ok (.iload 4, 2) := by decide +kernel
theorem dX8_safeUpward_34 : decode cX8_safeUpward 34 = .ok (.invokevirtual 78, 3) := by decide +kernel
theorem dX8_safeUpward_37 : decode cX8_safeUpward 37 = .ok (.invokevirtual 81, 3) := by decide +kernel
theorem dX8_safeUpward_40 : decode cX8_safeUpward 40 = .ok (.ifCond .eq 5, 3) := by decide +kernel
theorem dX8_safeUpward_43 : decode cX8_safeUpward 43 = .ok (.iconst 0, 1) := by decide +kernel
theorem dX8_safeUpward_44 : decode cX8_safeUpward 44 = .ok (.ireturn, 1) := by decide +kernel
theorem dX8_safeUpward_45 : decode cX8_safeUpward 45 = .ok (.iinc 4 1, 3) := by decide +kernel
theorem dX8_safeUpward_48 : decode cX8_safeUpward 48 = .ok (.goto (-29), 3) := by decide +kernel
theorem dX8_safeUpward_51 : decode cX8_safeUpward 51 = .ok (.iconst 1, 1) := by decide +kernel
theorem dX8_safeUpward_52 : decode cX8_safeUpward 52 = .ok (.ireturn, 1) := by decide +kernel
theorem dX8_safeDownward_0 : decode cX8_safeDownward 0 = .ok (.aload_n 0, 1) := by decide +kernel
theorem dX8_safeDownward_1 : decode cX8_safeDownward 1 = .ok (.getfield 24, 3) := by decide +kernel
theorem dX8_safeDownward_4 : decode cX8_safeDownward 4 = .ok (.iload_n 1, 1) := by decide +kernel
theorem dX8_safeDownward_5 : decode cX8_safeDownward 5 = .ok (.iaload, 1) := by decide +kernel
theorem dX8_safeDownward_6 : decode cX8_safeDownward 6 = .ok (.aload_n 0, 1) := by decide +kernel
theorem dX8_safeDownward_7 : decode cX8_safeDownward 7 = .ok (.getfield 24, 3) := by decide +kernel
theorem dX8_safeDownward_10 : decode cX8_safeDownward 10 = .ok (.iload_n 2, 1) := by decide +kernel
theorem dX8_safeDownward_11 : decode cX8_safeDownward 11 = .ok (.iaload, 1) := by decide +kernel
theorem dX8_safeDownward_12 : decode cX8_safeDownward 12 = .ok (.invokestatic 85, 3) := by decide +kernel
theorem dX8_safeDownward_15 : decode cX8_safeDownward 15 = .ok (.istore_n 3, 1) := by decide +kernel
theorem dX8_safeDownward_16 : decode cX8_safeDownward 16 = .ok (.iconst 0, 1) := by decide +kernel
theorem dX8_safeDownward_17 : decode cX8_safeDownward 17 = .ok (.istore 4, 2) := by decide +kernel
theorem dX8_safeDownward_19 : decode cX8_safeDownward 19 = .ok (.iload 4, 2) := by decide +kernel
theorem dX8_safeDownward_21 : decode cX8_safeDownward 21 = .ok (.iload_n 3, 1) := by decide +kernel
theorem dX8_safeDownward_22 : decode cX8_safeDownward 22 = .ok (.if_icmp .ge 51, 3) := by decide +kernel
theorem dX8_safeDownward_25 : decode cX8_safeDownward 25 = .ok (.aload_n 0, 1) := by decide +kernel
theorem dX8_safeDownward_26 : decode cX8_safeDownward 26 = .ok (.iload_n 2, 1) := by decide +kernel
theorem dX8_safeDownward_27 : decode cX8_safeDownward 27 = .ok (.iload 4, 2) := by decide +kernel
theorem dX8_safeDownward_29 : decode cX8_safeDownward 29 = .ok (.iconst 1, 1) := by decide +kernel
theorem dX8_safeDownward_30 : decode cX8_safeDownward 30 = .ok (.iadd, 1) := by decide +kernel
theorem dX8_safeDownward_31 : decode cX8_safeDownward 31 = .ok (.iload_n 3, 1) := by decide +kernel
theorem dX8_safeDownward_32 : decode cX8_safeDownward 32 = .ok (.aload_n 0, 1) := by decide +kernel
theorem dX8_safeDownward_33 : decode cX8_safeDownward 33 = .ok (.iload_n 1, 1) := by decide +kernel
theorem dX8_safeDownward_34 : decode cX8_safeDownward 34 = .ok (.iload 4, 2) := by decide +kernel
theorem dX8_safeDownward_36 : decode cX8_safeDownward 36 = .ok (.invokevirtual 78, 3) := by decide +kernel
theorem dX8_safeDownward_39 : decode cX8_safeDownward 39 = .ok (.invokevirtual 81, 3) := by decide +kernel
theorem dX8_safeDownward_42 : decode cX8_safeDownward 42 = .ok (.ifCond .ne 23, 3) := by decide +kernel
theorem dX8_safeDownward_45 : decode cX8_safeDownward 45 = .ok (.aload_n 0, 1) := by decide +kernel
theorem dX8_safeDownward_46 : decode cX8_safeDownward 46 = .ok (.iload_n 2, 1) := by decide +kernel
theorem dX8_safeDownward_47 : decode cX8_safeDownward 47 = .ok (.iload 4, 2) := by decide +kernel
theorem dX8_safeDownward_49 : decode cX8_safeDownward 49 = .ok (.iconst 1, 1) := by decide +kernel
theorem dX8_safeDownward_50 : decode cX8_safeDownward 50 = .ok (.iadd, 1) := by decide +kernel
theorem dX8_safeDownward_51 : decode cX8_safeDownward 51 = .ok (.iload_n 3, 1) := by decide +kernel
theorem dX8_safeDownward_52 : decode cX8_safeDownward 52 = .ok (.aload_n 0, 1) := by decide +kernel
theorem dX8_safeDownward_53 : decode cX8_safeDownward 53 = .ok (.iload_n 2, 1) := by decide +kernel
theorem dX8_safeDownward_54 : decode cX8_safeDownward 54 = .ok (.iload 4, 2) := by decide +kernel
theorem dX8_safeDownward_56 : decode cX8_safeDownward 56 = .ok (.invokevirtual 78, 3) := by decide +kernel
theorem dX8_safeDownward_59 : decode cX8_safeDownward 59 = .ok (.invokevirtual 81, 3) := by decide +kernel
theorem dX8_safeDownward_62 : decode cX8_safeDownward 62 = .ok (.ifCond .eq 5, 3) := by decide +kernel
theorem dX8_safeDownward_65 : decode cX8_safeDownward 65 = .ok (.iconst 0, 1) := by decide +kernel
theorem dX8_safeDownward_66 : decode cX8_safeDownward 66 = .ok (.ireturn, 1) := by decide +kernel
theorem dX8_safeDownward_67 : decode cX8_safeDownward 67 = .ok (.iinc 4 1, 3) := by decide +kernel
theorem dX8_safeDownward_70 : decode cX8_safeDownward 70 = .ok (.goto (-51), 3) := by decide +kernel
theorem dX8_safeDownward_73 : decode cX8_safeDownward 73 = .ok (.iconst 1, 1) := by decide +kernel
theorem dX8_safeDownward_74 : decode cX8_safeDownward 74 = .ok (.ireturn, 1) := by decide +kernel
theorem dX8_findsCell_0 : decode cX8_findsCell 0 = .ok (.iload 4, 2) := by decide +kernel
theorem dX8_findsCell_2 : decode cX8_findsCell 2 = .ok (.iconst (-1), 1) := by decide +kernel
theorem dX8_findsCell_3 : decode cX8_findsCell 3 = .ok (.if_icmp .ne 5, 3) := by decide +kernel
theorem dX8_findsCell_6 : decode cX8_findsCell 6 = .ok (.iconst 0, 1) := by decide +kernel
theorem dX8_findsCell_7 : decode cX8_findsCell 7 = .ok (.ireturn, 1) := by decide +kernel
theorem dX8_findsCell_8 : decode cX8_findsCell 8 = .ok (.iload_n 2, 1) := by decide +kernel
theorem dX8_findsCell_9 : decode cX8_findsCell 9 = .ok (.istore 5, 2) := by decide +kernel
theorem dX8_findsCell_11 : decode cX8_findsCell 11 = .ok (.iload 5, 2) := by decide +kernel
theorem dX8_findsCell_13 : decode cX8_findsCell 13 = .ok (.iload_n 3, 1) := by decide +kernel
theorem dX8_findsCell_14 : decode cX8_findsCell 14 = .ok (.if_icmp .ge 23, 3) := by decide +kernel
theorem dX8_findsCell_17 : decode cX8_findsCell 17 = .ok (.aload_n 0, 1) := by decide +kernel
theorem dX8_findsCell_18 : decode cX8_findsCell 18 = .ok (.iload_n 1, 1) := by decide +kernel
theorem dX8_findsCell_19 : decode cX8_findsCell 19 = .ok (.iload 5, 2) := by decide +kernel
theorem dX8_findsCell_21 : decode cX8_findsCell 21 = .ok (.invokevirtual 78, 3) := by decide +kernel
theorem dX8_findsCell_24 : decode cX8_findsCell 24 = .ok (.iload 4, 2) := by decide +kernel
theorem dX8_findsCell_26 : decode cX8_findsCell 26 = .ok (.if_icmp .ne 5, 3) := by decide +kernel
theorem dX8_findsCell_29 : decode cX8_findsCell 29 = .ok (.iconst 1, 1) := by decide +kernel
theorem dX8_findsCell_30 : decode cX8_findsCell 30 = .ok (.ireturn, 1) := by decide +kernel
theorem dX8_findsCell_31 : decode cX8_findsCell 31 = .ok (.iinc 5 1, 3) := by decide +kernel
theorem dX8_findsCell_34 : decode cX8_findsCell 34 = .ok (.goto (-23), 3) := by decide +kernel
theorem dX8_findsCell_37 : decode cX8_findsCell 37 = .ok (.iconst 0, 1) := by decide +kernel
theorem dX8_findsCell_38 : decode cX8_findsCell 38 = .ok (.ireturn, 1) := by decide +kernel
theorem dX9_init_0 : decode cX9_init 0 = .ok (.aload_n 0, 1) := by decide +kernel
theorem dX9_init_1 : decode cX9_init 1 = .ok (.invokespecial 3, 3) := by decide +kernel
theorem dX9_init_4 : decode cX9_init 4 = .ok (.aload_n 0, 1) := by decide +kernel
theorem dX9_init_5 : decode cX9_init 5 = .ok (.iconst 3, 1) := by decide +kernel
theorem dX9_init_6 : decode cX9_init 6 = .ok (.newarray .int, 2) := by decide +kernel
theorem dX9_init_8 : decode cX9_init 8 = .ok (.putfield 9, 3) := by decide +kernel
theorem dX9_init_11 : decode cX9_init 11 = .ok (.aload_n 0, 1) := by decide +kernel
theorem dX9_init_12 : decode cX9_init 12 = .ok (.iconst 3, 1) := by decide +kernel
theorem dX9_init_13 : decode cX9_init 13 = .ok (.newarray .int, 2) := by decide +kernel
theorem dX9_init_15 : decode cX9_init 15 = .ok (.putfield 15, 3) := by decide +kernel
theorem dX9_init_18 : decode cX9_init 18 = .ok (.aload_n 0, 1) := by decide +kernel
theorem dX9_init_19 : decode cX9_init 19 = .ok (.aload_n 1, 1) := by decide +kernel
theorem dX9_init_20 : decode cX9_init 20 = .ok (.putfield 18, 3) := by decide +kernel
theorem dX9_init_23 : decode cX9_init 23 = .ok (.return_, 1) := by decide +kernel
theorem dX9_begin_0 : decode cX9_begin 0 = .ok (.aload_n 0, 1) := by decide +kernel
theorem dX9_begin_1 : decode cX9_begin 1 = .ok (.iconst 0, 1) := by decide +kernel
theorem dX9_begin_2 : decode cX9_begin 2 = .ok (.putfield 22, 3) := by decide +kernel
theorem dX9_begin_5 : decode cX9_begin 5 = .ok (.aload_n 0, 1) := by decide +kernel
theorem dX9_begin_6 : decode cX9_begin 6 = .ok (.iconst 0, 1) := by decide +kernel
theorem dX9_begin_7 : decode cX9_begin 7 = .ok (.putfield 26, 3) := by decide +kernel
theorem dX9_begin_10 : decode cX9_begin 10 = .ok (.return_, 1) := by decide +kernel
theorem dX9_nextStep_0 : decode cX9_nextStep 0 = .ok (.iconst 0, 1) := by decide +kernel
theorem dX9_nextStep_1 : decode cX9_nextStep 1 = .ok (.istore_n 1, 1) := by decide +kernel
theorem dX9_nextStep_2 : decode cX9_nextStep 2 = .ok (.iload_n 1, 1) := by decide +kernel
theorem dX9_nextStep_3 : decode cX9_nextStep 3 = .ok (.ldc 29, 2) := by decide +kernel
theorem dX9_nextStep_5 : decode cX9_nextStep 5 = .ok (.if_icmp .ge 72, 3) := by decide +kernel
theorem dX9_nextStep_8 : decode cX9_nextStep 8 = .ok (.aload_n 0, 1) := by decide +kernel
theorem dX9_nextStep_9 : decode cX9_nextStep 9 = .ok (.getfield 22, 3) := by decide +kernel
theorem dX9_nextStep_12 : decode cX9_nextStep 12 = .ok (.aload_n 0, 1) := by decide +kernel
theorem dX9_nextStep_13 : decode cX9_nextStep 13 = .ok (.getfield 18, 3) := by decide +kernel
theorem dX9_nextStep_16 : decode cX9_nextStep 16 = .ok (.getfield 30, 3) := by decide +kernel
theorem dX9_nextStep_19 : decode cX9_nextStep 19 = .ok (.if_icmp .ge 58, 3) := by decide +kernel
theorem dX9_nextStep_22 : decode cX9_nextStep 22 = .ok (.aload_n 0, 1) := by decide +kernel
theorem dX9_nextStep_23 : decode cX9_nextStep 23 = .ok (.getfield 22, 3) := by decide +kernel
theorem dX9_nextStep_26 : decode cX9_nextStep 26 = .ok (.istore_n 2, 1) := by decide +kernel
theorem dX9_nextStep_27 : decode cX9_nextStep 27 = .ok (.aload_n 0, 1) := by decide +kernel
theorem dX9_nextStep_28 : decode cX9_nextStep 28 = .ok (.getfield 18, 3) := by decide +kernel
theorem dX9_nextStep_31 : decode cX9_nextStep 31 = .ok (.iload_n 2, 1) := by decide +kernel
theorem dX9_nextStep_32 : decode cX9_nextStep 32 = .ok (.iconst 0, 1) := by decide +kernel
theorem dX9_nextStep_33 : decode cX9_nextStep 33 = .ok (.invokevirtual 35, 3) := by decide +kernel
theorem dX9_nextStep_36 : decode cX9_nextStep 36 = .ok (.istore_n 3, 1) := by decide +kernel
theorem dX9_nextStep_37 : decode cX9_nextStep 37 = .ok (.iload_n 3, 1) := by decide +kernel
theorem dX9_nextStep_38 : decode cX9_nextStep 38 = .ok (.iconst 5, 1) := by decide +kernel
theorem dX9_nextStep_39 : decode cX9_nextStep 39 = .ok (.if_icmp .ge 15, 3) := by decide +kernel
theorem dX9_nextStep_42 : decode cX9_nextStep 42 = .ok (.aload_n 0, 1) := by decide +kernel
theorem dX9_nextStep_43 : decode cX9_nextStep 43 = .ok (.dup, 1) := by decide +kernel
theorem dX9_nextStep_44 : decode cX9_nextStep 44 = .ok (.getfield 22, 3) := by decide +kernel
theorem dX9_nextStep_47 : decode cX9_nextStep 47 = .ok (.iconst 1, 1) := by decide +kernel
theorem dX9_nextStep_48 : decode cX9_nextStep 48 = .ok (.iadd, 1) := by decide +kernel
theorem dX9_nextStep_49 : decode cX9_nextStep 49 = .ok (.putfield 22, 3) := by decide +kernel
theorem dX9_nextStep_52 : decode cX9_nextStep 52 = .ok (.iload_n 2, 1) := by decide +kernel
theorem dX9_nextStep_53 : decode cX9_nextStep 53 = .ok (.ireturn, 1) := by decide +kernel
theorem dX9_nextStep_54 : decode cX9_nextStep 54 = .ok (.iload_n 3, 1) := by decide +kernel
theorem dX9_nextStep_55 : decode cX9_nextStep 55 = .ok (.iconst 5, 1) := by decide +kernel
theorem dX9_nextStep_56 : decode cX9_nextStep 56 = .ok (.if_icmp .ne 11, 3) := by decide +kernel
theorem dX9_nextStep_59 : decode cX9_nextStep 59 = .ok (.aload_n 0, 1) := by decide +kernel
theorem dX9_nextStep_60 : decode cX9_nextStep 60 = .ok (.iload_n 2, 1) := by decide +kernel
theorem dX9_nextStep_61 : decode cX9_nextStep 61 = .ok (.invokevirtual 39, 3) := by decide +kernel
theorem dX9_nextStep_64 : decode cX9_nextStep 64 = .ok (.goto 7, 3) := by decide +kernel
theorem dX9_nextStep_67 : decode cX9_nextStep 67 = .ok (.aload_n 0, 1) := by decide +kernel
theorem dX9_nextStep_68 : decode cX9_nextStep 68 = .ok (.invokevirtual 43, 3) := by decide +kernel
theorem dX9_nextStep_71 : decode cX9_nextStep 71 = .ok (.iinc 1 1, 3) := by decide +kernel
theorem dX9_nextStep_74 : decode cX9_nextStep 74 = .ok (.goto (-72), 3) := by decide +kernel
theorem dX9_nextStep_77 : decode cX9_nextStep 77 = .ok (.bipush (-20), 2) := by decide +kernel
theorem dX9_nextStep_79 : decode cX9_nextStep 79 = .ok (.ireturn, 1) := by decide +kernel
theorem dX9_enterTurns_0 : decode cX9_enterTurns 0 = .ok (.aload_n 0, 1) := by decide +kernel
theorem dX9_enterTurns_1 : decode cX9_enterTurns 1 = .ok (.getfield 18, 3) := by decide +kernel
theorem dX9_enterTurns_4 : decode cX9_enterTurns 4 = .ok (.iload_n 1, 1) := by decide +kernel
theorem dX9_enterTurns_5 : decode cX9_enterTurns 5 = .ok (.iconst 1, 1) := by decide +kernel
theorem dX9_enterTurns_6 : decode cX9_enterTurns 6 = .ok (.invokevirtual 35, 3) := by decide +kernel
theorem dX9_enterTurns_9 : decode cX9_enterTurns 9 = .ok (.ifCond .eq 11, 3) := by decide +kernel
theorem dX9_enterTurns_12 : decode cX9_enterTurns 12 = .ok (.aload_n 0, 1) := by decide +kernel
theorem dX9_enterTurns_13 : decode cX9_enterTurns 13 = .ok (.getfield 26, 3) := by decide +kernel
theorem dX9_enterTurns_16 : decode cX9_enterTurns 16 = .ok (.iconst 3, 1) := by decide +kernel
theorem dX9_enterTurns_17 : decode cX9_enterTurns 17 = .ok (.if_icmp .ne 18, 3) := by decide +kernel
theorem dX9_enterTurns_20 : decode cX9_enterTurns 20 = .ok (.aload_n 0, 1) := by decide +kernel
theorem dX9_enterTurns_21 : decode cX9_enterTurns 21 = .ok (.aload_n 0, 1) := by decide +kernel
theorem dX9_enterTurns_22 : decode cX9_enterTurns 22 = .ok (.getfield 18, 3) := by decide +kernel
theorem dX9_enterTurns_25 : decode cX9_enterTurns 25 = .ok (.iload_n 1, 1) := by decide +kernel
theorem dX9_enterTurns_26 : decode cX9_enterTurns 26 = .ok (.invokevirtual 46, 3) := by decide +kernel
theorem dX9_enterTurns_29 : decode cX9_enterTurns 29 = .ok (.iconst 1, 1) := by decide +kernel
theorem dX9_enterTurns_30 : decode cX9_enterTurns 30 = .ok (.iadd, 1) := by decide +kernel
theorem dX9_enterTurns_31 : decode cX9_enterTurns 31 = .ok (.putfield 22, 3) := by decide +kernel
theorem dX9_enterTurns_34 : decode cX9_enterTurns 34 = .ok (.return_, 1) := by decide +kernel
theorem dX9_enterTurns_35 : decode cX9_enterTurns 35 = .ok (.aload_n 0, 1) := by decide +kernel
theorem dX9_enterTurns_36 : decode cX9_enterTurns 36 = .ok (.getfield 9, 3) := by decide +kernel
theorem dX9_enterTurns_39 : decode cX9_enterTurns 39 = .ok (.aload_n 0, 1) := by decide +kernel
theorem dX9_enterTurns_40 : decode cX9_enterTurns 40 = .ok (.getfield 26, 3) := by decide +kernel
theorem dX9_enterTurns_43 : decode cX9_enterTurns 43 = .ok (.iload_n 1, 1) := by decide +kernel
theorem dX9_enterTurns_44 : decode cX9_enterTurns 44 = .ok (.iastore, 1) := by decide +kernel
theorem dX9_enterTurns_45 : decode cX9_enterTurns 45 = .ok (.aload_n 0, 1) := by decide +kernel
theorem dX9_enterTurns_46 : decode cX9_enterTurns 46 = .ok (.getfield 15, 3) := by decide +kernel
theorem dX9_enterTurns_49 : decode cX9_enterTurns 49 = .ok (.aload_n 0, 1) := by decide +kernel
theorem dX9_enterTurns_50 : decode cX9_enterTurns 50 = .ok (.getfield 26, 3) := by decide +kernel
theorem dX9_enterTurns_53 : decode cX9_enterTurns 53 = .ok (.iconst 0, 1) := by decide +kernel
theorem dX9_enterTurns_54 : decode cX9_enterTurns 54 = .ok (.iastore, 1) := by decide +kernel
theorem dX9_enterTurns_55 : decode cX9_enterTurns 55 = .ok (.aload_n 0, 1) := by decide +kernel
theorem dX9_enterTurns_56 : decode cX9_enterTurns 56 = .ok (.dup, 1) := by decide +kernel
theorem dX9_enterTurns_57 : decode cX9_enterTurns 57 = .ok (.getfield 26, 3) := by decide +kernel
theorem dX9_enterTurns_60 : decode cX9_enterTurns 60 = .ok (.iconst 1, 1) := by decide +kernel
theorem dX9_enterTurns_61 : decode cX9_enterTurns 61 = .ok (.iadd, 1) := by decide +kernel
theorem dX9_enterTurns_62 : decode cX9_enterTurns 62 = .ok (.putfield 26, 3) := by decide +kernel
theorem dX9_enterTurns_65 : decode cX9_enterTurns 65 = .ok (.aload_n 0, 1) := by decide +kernel
theorem dX9_enterTurns_66 : decode cX9_enterTurns 66 = .ok (.iload_n 1, 1) := by decide +kernel
theorem dX9_enterTurns_67 : decode cX9_enterTurns 67 = .ok (.iconst 1, 1) := by decide +kernel
theorem dX9_enterTurns_68 : decode cX9_enterTurns 68 = .ok (.iadd, 1) := by decide +kernel
theorem dX9_enterTurns_69 : decode cX9_enterTurns 69 = .ok (.putfield 22, 3) := by decide +kernel
theorem dX9_enterTurns_72 : decode cX9_enterTurns 72 = .ok (.return_, 1) := by decide +kernel
theorem dX9_endTurn_0 : decode cX9_endTurn 0 = .ok (.aload_n 0, 1) := by decide +kernel
theorem dX9_endTurn_1 : decode cX9_endTurn 1 = .ok (.getfield 26, 3) := by decide +kernel
theorem dX9_endTurn_4 : decode cX9_endTurn 4 = .ok (.ifCond .ne 14, 3) := by decide +kernel
theorem dX9_endTurn_7 : decode cX9_endTurn 7 = .ok (.aload_n 0, 1) := by decide +kernel
theorem dX9_endTurn_8 : decode cX9_endTurn 8 = .ok (.dup, 1) := by decide +kernel
theorem dX9_endTurn_9 : decode cX9_endTurn 9 = .ok (.getfield 22, 3) := by decide +kernel
theorem dX9_endTurn_12 : decode cX9_endTurn 12 = .ok (.iconst 1, 1) := by decide +kernel
theorem dX9_endTurn_13 : decode cX9_endTurn 13 = .ok (.iadd, 1) := by decide +kernel
theorem dX9_endTurn_14 : decode cX9_endTurn 14 = .ok (.putfield 22, 3) := by decide +kernel
theorem dX9_endTurn_17 : decode cX9_endTurn 17 = .ok (.return_, 1) := by decide +kernel
theorem dX9_endTurn_18 : decode cX9_endTurn 18 = .ok (.aload_n 0, 1) := by decide +kernel
theorem dX9_endTurn_19 : decode cX9_endTurn 19 = .ok (.getfield 15, 3) := by decide +kernel
theorem dX9_endTurn_22 : decode cX9_endTurn 22 = .ok (.aload_n 0, 1) := by decide +kernel
theorem dX9_endTurn_23 : decode cX9_endTurn 23 = .ok (.getfield 26, 3) := by decide +kernel
theorem dX9_endTurn_26 : decode cX9_endTurn 26 = .ok (.iconst 1, 1) := by decide +kernel
theorem dX9_endTurn_27 : decode cX9_endTurn 27 = .ok (.isub, 1) := by decide +kernel
theorem dX9_endTurn_28 : decode cX9_endTurn 28 = .ok (.dup2, 1) := by decide +kernel
theorem dX9_endTurn_29 : decode cX9_endTurn 29 = .ok (.iaload, 1) := by decide +kernel
theorem dX9_endTurn_30 : decode cX9_endTurn 30 = .ok (.iconst 1, 1) := by decide +kernel
theorem dX9_endTurn_31 : decode cX9_endTurn 31 = .ok (.iadd, 1) := by decide +kernel
theorem dX9_endTurn_32 : decode cX9_endTurn 32 = .ok (.iastore, 1) := by decide +kernel
theorem dX9_endTurn_33 : decode cX9_endTurn 33 = .ok (.aload_n 0, 1) := by decide +kernel
theorem dX9_endTurn_34 : decode cX9_endTurn 34 = .ok (.getfield 15, 3) := by decide +kernel
theorem dX9_endTurn_37 : decode cX9_endTurn 37 = .ok (.aload_n 0, 1) := by decide +kernel
theorem dX9_endTurn_38 : decode cX9_endTurn 38 = .ok (.getfield 26, 3) := by decide +kernel
theorem dX9_endTurn_41 : decode cX9_endTurn 41 = .ok (.iconst 1, 1) := by decide +kernel
theorem dX9_endTurn_42 : decode cX9_endTurn 42 = .ok (.isub, 1) := by decide +kernel
theorem dX9_endTurn_43 : decode cX9_endTurn 43 = .ok (.iaload, 1) := by decide +kernel
theorem dX9_endTurn_44 : decode cX9_endTurn 44 = .ok (.aload_n 0, 1) := by decide +kernel
theorem dX9_endTurn_45 : decode cX9_endTurn 45 = .ok (.getfield 18, 3) := by decide +kernel
theorem dX9_endTurn_48 : decode cX9_endTurn 48 = .ok (.aload_n 0, 1) := by decide +kernel
theorem dX9_endTurn_49 : decode cX9_endTurn 49 = .ok (.getfield 9, 3) := by decide +kernel
theorem dX9_endTurn_52 : decode cX9_endTurn 52 = .ok (.aload_n 0, 1) := by decide +kernel
theorem dX9_endTurn_53 : decode cX9_endTurn 53 = .ok (.getfield 26, 3) := by decide +kernel
theorem dX9_endTurn_56 : decode cX9_endTurn 56 = .ok (.iconst 1, 1) := by decide +kernel
theorem dX9_endTurn_57 : decode cX9_endTurn 57 = .ok (.isub, 1) := by decide +kernel
theorem dX9_endTurn_58 : decode cX9_endTurn 58 = .ok (.iaload, 1) := by decide +kernel
theorem dX9_endTurn_59 : decode cX9_endTurn 59 = .ok (.iconst 1, 1) := by decide +kernel
theorem dX9_endTurn_60 : decode cX9_endTurn 60 = .ok (.invokevirtual 35, 3) := by decide +kernel
theorem dX9_endTurn_63 : decode cX9_endTurn 63 = .ok (.if_icmp .ge 23, 3) := by decide +kernel
theorem dX9_endTurn_66 : decode cX9_endTurn 66 = .ok (.aload_n 0, 1) := by decide +kernel
theorem dX9_endTurn_67 : decode cX9_endTurn 67 = .ok (.aload_n 0, 1) := by decide +kernel
theorem dX9_endTurn_68 : decode cX9_endTurn 68 = .ok (.getfield 9, 3) := by decide +kernel
theorem dX9_endTurn_71 : decode cX9_endTurn 71 = .ok (.aload_n 0, 1) := by decide +kernel
theorem dX9_endTurn_72 : decode cX9_endTurn 72 = .ok (.getfield 26, 3) := by decide +kernel
theorem dX9_endTurn_75 : decode cX9_endTurn 75 = .ok (.iconst 1, 1) := by decide +kernel
theorem dX9_endTurn_76 : decode cX9_endTurn 76 = .ok (.isub, 1) := by decide +kernel
theorem dX9_endTurn_77 : decode cX9_endTurn 77 = .ok (.iaload, 1) := by decide +kernel
theorem dX9_endTurn_78 : decode cX9_endTurn 78 = .ok (.iconst 1, 1) := by decide +kernel
theorem dX9_endTurn_79 : decode cX9_endTurn 79 = .ok (.iadd, 1) := by decide +kernel
theorem dX9_endTurn_80 : decode cX9_endTurn 80 = .ok (.putfield 22, 3) := by decide +kernel
theorem dX9_endTurn_83 : decode cX9_endTurn 83 = .ok (.goto 23, 3) := by decide +kernel
theorem dX9_endTurn_86 : decode cX9_endTurn 86 = .ok (.aload_n 0, 1) := by decide +kernel
theorem dX9_endTurn_87 : decode cX9_endTurn 87 = .ok (.dup, 1) := by decide +kernel
theorem dX9_endTurn_88 : decode cX9_endTurn 88 = .ok (.getfield 26, 3) := by decide +kernel
theorem dX9_endTurn_91 : decode cX9_endTurn 91 = .ok (.iconst 1, 1) := by decide +kernel
theorem dX9_endTurn_92 : decode cX9_endTurn 92 = .ok (.isub, 1) := by decide +kernel
theorem dX9_endTurn_93 : decode cX9_endTurn 93 = .ok (.putfield 26, 3) := by decide +kernel
theorem dX9_endTurn_96 : decode cX9_endTurn 96 = .ok (.aload_n 0, 1) := by decide +kernel
theorem dX9_endTurn_97 : decode cX9_endTurn 97 = .ok (.dup, 1) := by decide +kernel
theorem dX9_endTurn_98 : decode cX9_endTurn 98 = .ok (.getfield 22, 3) := by decide +kernel
theorem dX9_endTurn_101 : decode cX9_endTurn 101 = .ok (.iconst 1, 1) := by decide +kernel
theorem dX9_endTurn_102 : decode cX9_endTurn 102 = .ok (.iadd, 1) := by decide +kernel
theorem dX9_endTurn_103 : decode cX9_endTurn 103 = .ok (.putfield 22, 3) := by decide +kernel
theorem dX9_endTurn_106 : decode cX9_endTurn 106 = .ok (.return_, 1) := by decide +kernel
theorem dX9_leave_0 : decode cX9_leave 0 = .ok (.aload_n 0, 1) := by decide +kernel
theorem dX9_leave_1 : decode cX9_leave 1 = .ok (.getfield 26, 3) := by decide +kernel
theorem dX9_leave_4 : decode cX9_leave 4 = .ok (.ifCond .ne 15, 3) := by decide +kernel
theorem dX9_leave_7 : decode cX9_leave 7 = .ok (.aload_n 0, 1) := by decide +kernel
theorem dX9_leave_8 : decode cX9_leave 8 = .ok (.aload_n 0, 1) := by decide +kernel
theorem dX9_leave_9 : decode cX9_leave 9 = .ok (.getfield 18, 3) := by decide +kernel
theorem dX9_leave_12 : decode cX9_leave 12 = .ok (.getfield 30, 3) := by decide +kernel
theorem dX9_leave_15 : decode cX9_leave 15 = .ok (.putfield 22, 3) := by decide +kernel
theorem dX9_leave_18 : decode cX9_leave 18 = .ok (.return_, 1) := by decide +kernel
theorem dX9_leave_19 : decode cX9_leave 19 = .ok (.aload_n 0, 1) := by decide +kernel
theorem dX9_leave_20 : decode cX9_leave 20 = .ok (.dup, 1) := by decide +kernel
theorem dX9_leave_21 : decode cX9_leave 21 = .ok (.getfield 26, 3) := by decide +kernel
theorem dX9_leave_24 : decode cX9_leave 24 = .ok (.iconst 1, 1) := by decide +kernel
theorem dX9_leave_25 : decode cX9_leave 25 = .ok (.isub, 1) := by decide +kernel
theorem dX9_leave_26 : decode cX9_leave 26 = .ok (.putfield 26, 3) := by decide +kernel
theorem dX9_leave_29 : decode cX9_leave 29 = .ok (.aload_n 0, 1) := by decide +kernel
theorem dX9_leave_30 : decode cX9_leave 30 = .ok (.aload_n 0, 1) := by decide +kernel
theorem dX9_leave_31 : decode cX9_leave 31 = .ok (.getfield 18, 3) := by decide +kernel
theorem dX9_leave_34 : decode cX9_leave 34 = .ok (.aload_n 0, 1) := by decide +kernel
theorem dX9_leave_35 : decode cX9_leave 35 = .ok (.getfield 9, 3) := by decide +kernel
theorem dX9_leave_38 : decode cX9_leave 38 = .ok (.aload_n 0, 1) := by decide +kernel
theorem dX9_leave_39 : decode cX9_leave 39 = .ok (.getfield 26, 3) := by decide +kernel
theorem dX9_leave_42 : decode cX9_leave 42 = .ok (.iaload, 1) := by decide +kernel
theorem dX9_leave_43 : decode cX9_leave 43 = .ok (.invokevirtual 46, 3) := by decide +kernel
theorem dX9_leave_46 : decode cX9_leave 46 = .ok (.iconst 1, 1) := by decide +kernel
theorem dX9_leave_47 : decode cX9_leave 47 = .ok (.iadd, 1) := by decide +kernel
theorem dX9_leave_48 : decode cX9_leave 48 = .ok (.putfield 22, 3) := by decide +kernel
theorem dX9_leave_51 : decode cX9_leave 51 = .ok (.return_, 1) := by decide +kernel
theorem dX9_place_0 : decode cX9_place 0 = .ok (.aload_n 0, 1) := by decide +kernel
theorem dX9_place_1 : decode cX9_place 1 = .ok (.getfield 18, 3) := by decide +kernel
theorem dX9_place_4 : decode cX9_place 4 = .ok (.iload_n 1, 1) := by decide +kernel
theorem dX9_place_5 : decode cX9_place 5 = .ok (.iload_n 2, 1) := by decide +kernel
theorem dX9_place_6 : decode cX9_place 6 = .ok (.invokevirtual 35, 3) := by decide +kernel
theorem dX9_place_9 : decode cX9_place 9 = .ok (.istore_n 3, 1) := by decide +kernel
theorem dX9_place_10 : decode cX9_place 10 = .ok (.iload_n 3, 1) := by decide +kernel
theorem dX9_place_11 : decode cX9_place 11 = .ok (.bipush 12, 2) := by decide +kernel
theorem dX9_place_13 : decode cX9_place 13 = .ok (.if_icmp .ge 5, 3) := by decide +kernel
theorem dX9_place_16 : decode cX9_place 16 = .ok (.iload_n 3, 1) := by decide +kernel
theorem dX9_place_17 : decode cX9_place 17 = .ok (.ireturn, 1) := by decide +kernel
theorem dX9_place_18 : decode cX9_place 18 = .ok (.aload_n 0, 1) := by decide +kernel
theorem dX9_place_19 : decode cX9_place 19 = .ok (.getfield 26, 3) := by decide +kernel
theorem dX9_place_22 : decode cX9_place 22 = .ok (.iconst 1, 1) := by decide +kernel
theorem dX9_place_23 : decode cX9_place 23 = .ok (.isub, 1) := by decide +kernel
theorem dX9_place_24 : decode cX9_place 24 = .ok (.iload_n 3, 1) := by decide +kernel
theorem dX9_place_25 : decode cX9_place 25 = .ok (.bipush 12, 2) := by decide +kernel
theorem dX9_place_27 : decode cX9_place 27 = .ok (.isub, 1) := by decide +kernel
theorem dX9_place_28 : decode cX9_place 28 = .ok (.isub, 1) := by decide +kernel
theorem dX9_place_29 : decode cX9_place 29 = .ok (.istore 4, 2) := by decide +kernel
theorem dX9_place_31 : decode cX9_place 31 = .ok (.iload 4, 2) := by decide +kernel
theorem dX9_place_33 : decode cX9_place 33 = .ok (.ifCond .lt 13, 3) := by decide +kernel
theorem dX9_place_36 : decode cX9_place 36 = .ok (.aload_n 0, 1) := by decide +kernel
theorem dX9_place_37 : decode cX9_place 37 = .ok (.getfield 15, 3) := by decide +kernel
theorem dX9_place_40 : decode cX9_place 40 = .ok (.iload 4, 2) := by decide +kernel
theorem dX9_place_42 : decode cX9_place 42 = .ok (.iaload, 1) := by decide +kernel
theorem dX9_place_43 : decode cX9_place 43 = .ok (.goto 4, 3) := by decide +kernel
theorem dX9_place_46 : decode cX9_place 46 = .ok (.iconst 0, 1) := by decide +kernel
theorem dX9_place_47 : decode cX9_place 47 = .ok (.ireturn, 1) := by decide +kernel
theorem dX10_init_0 : decode cX10_init 0 = .ok (.aload_n 0, 1) := by decide +kernel
theorem dX10_init_1 : decode cX10_init 1 = .ok (.invokespecial 3, 3) := by decide +kernel
theorem dX10_init_4 : decode cX10_init 4 = .ok (.aload_n 0, 1) := by decide +kernel
theorem dX10_init_5 : decode cX10_init 5 = .ok (.bipush 16, 2) := by decide +kernel
theorem dX10_init_7 : decode cX10_init 7 = .ok (.newarray .int, 2) := by decide +kernel
theorem dX10_init_9 : decode cX10_init 9 = .ok (.putfield 9, 3) := by decide +kernel
theorem dX10_init_12 : decode cX10_init 12 = .ok (.aload_n 0, 1) := by decide +kernel
theorem dX10_init_13 : decode cX10_init 13 = .ok (.bipush 16, 2) := by decide +kernel
theorem dX10_init_15 : decode cX10_init 15 = .ok (.newarray .int, 2) := by decide +kernel
theorem dX10_init_17 : decode cX10_init 17 = .ok (.putfield 15, 3) := by decide +kernel
theorem dX10_init_20 : decode cX10_init 20 = .ok (.aload_n 0, 1) := by decide +kernel
theorem dX10_init_21 : decode cX10_init 21 = .ok (.bipush 16, 2) := by decide +kernel
theorem dX10_init_23 : decode cX10_init 23 = .ok (.newarray .int, 2) := by decide +kernel
theorem dX10_init_25 : decode cX10_init 25 = .ok (.putfield 18, 3) := by decide +kernel
theorem dX10_init_28 : decode cX10_init 28 = .ok (.aload_n 0, 1) := by decide +kernel
theorem dX10_init_29 : decode cX10_init 29 = .ok (.bipush 16, 2) := by decide +kernel
theorem dX10_init_31 : decode cX10_init 31 = .ok (.newarray .int, 2) := by decide +kernel
theorem dX10_init_33 : decode cX10_init 33 = .ok (.putfield 21, 3) := by decide +kernel
theorem dX10_init_36 : decode cX10_init 36 = .ok (.aload_n 0, 1) := by decide +kernel
theorem dX10_init_37 : decode cX10_init 37 = .ok (.aload_n 1, 1) := by decide +kernel
theorem dX10_init_38 : decode cX10_init 38 = .ok (.putfield 24, 3) := by decide +kernel
theorem dX10_init_41 : decode cX10_init 41 = .ok (.aload_n 0, 1) := by decide +kernel
theorem dX10_init_42 : decode cX10_init 42 = .ok (.aload_n 2, 1) := by decide +kernel
theorem dX10_init_43 : decode cX10_init 43 = .ok (.putfield 28, 3) := by decide +kernel
theorem dX10_init_46 : decode cX10_init 46 = .ok (.return_, 1) := by decide +kernel
theorem dX10_waveOf_0 : decode cX10_waveOf 0 = .ok (.aload_n 0, 1) := by decide +kernel
theorem dX10_waveOf_1 : decode cX10_waveOf 1 = .ok (.getfield 18, 3) := by decide +kernel
theorem dX10_waveOf_4 : decode cX10_waveOf 4 = .ok (.iload_n 1, 1) := by decide +kernel
theorem dX10_waveOf_5 : decode cX10_waveOf 5 = .ok (.iaload, 1) := by decide +kernel
theorem dX10_waveOf_6 : decode cX10_waveOf 6 = .ok (.ireturn, 1) := by decide +kernel
theorem dX10_find_0 : decode cX10_find 0 = .ok (.iconst 0, 1) := by decide +kernel
theorem dX10_find_1 : decode cX10_find 1 = .ok (.istore_n 1, 1) := by decide +kernel
theorem dX10_find_2 : decode cX10_find 2 = .ok (.iload_n 1, 1) := by decide +kernel
theorem dX10_find_3 : decode cX10_find 3 = .ok (.aload_n 0, 1) := by decide +kernel
theorem dX10_find_4 : decode cX10_find 4 = .ok (.getfield 24, 3) := by decide +kernel
theorem dX10_find_7 : decode cX10_find 7 = .ok (.getfield 32, 3) := by decide +kernel
theorem dX10_find_10 : decode cX10_find 10 = .ok (.if_icmp .ge 124, 3) := by decide +kernel
theorem dX10_find_13 : decode cX10_find 13 = .ok (.aload_n 0, 1) := by decide +kernel
theorem dX10_find_14 : decode cX10_find 14 = .ok (.getfield 9, 3) := by decide +kernel
theorem dX10_find_17 : decode cX10_find 17 = .ok (.iload_n 1, 1) := by decide +kernel
theorem dX10_find_18 : decode cX10_find 18 = .ok (.aload_n 0, 1) := by decide +kernel
theorem dX10_find_19 : decode cX10_find 19 = .ok (.getfield 28, 3) := by decide +kernel
theorem dX10_find_22 : decode cX10_find 22 = .ok (.aload_n 0, 1) := by decide +kernel
theorem dX10_find_23 : decode cX10_find 23 = .ok (.getfield 24, 3) := by decide +kernel
theorem dX10_find_26 : decode cX10_find 26 = .ok (.iload_n 1, 1) := by decide +kernel
theorem dX10_find_27 : decode cX10_find 27 = .ok (.iconst 1, 1) := by decide +kernel
theorem dX10_find_28 : decode cX10_find 28 = .ok (.invokevirtual 38, 3) := by decide +kernel
theorem dX10_find_31 : decode cX10_find 31 = .ok (.aload_n 0, 1) := by decide +kernel
theorem dX10_find_32 : decode cX10_find 32 = .ok (.getfield 24, 3) := by decide +kernel
theorem dX10_find_35 : decode cX10_find 35 = .ok (.iload_n 1, 1) := by decide +kernel
theorem dX10_find_36 : decode cX10_find 36 = .ok (.iconst 2, 1) := by decide +kernel
theorem dX10_find_37 : decode cX10_find 37 = .ok (.invokevirtual 38, 3) := by decide +kernel
theorem dX10_find_40 : decode cX10_find 40 = .ok (.invokevirtual 42, 3) := by decide +kernel
theorem dX10_find_43 : decode cX10_find 43 = .ok (.iastore, 1) := by decide +kernel
theorem dX10_find_44 : decode cX10_find 44 = .ok (.aload_n 0, 1) := by decide +kernel
theorem dX10_find_45 : decode cX10_find 45 = .ok (.getfield 15, 3) := by decide +kernel
theorem dX10_find_48 : decode cX10_find 48 = .ok (.iload_n 1, 1) := by decide +kernel
theorem dX10_find_49 : decode cX10_find 49 = .ok (.aload_n 0, 1) := by decide +kernel
theorem dX10_find_50 : decode cX10_find 50 = .ok (.getfield 28, 3) := by decide +kernel
theorem dX10_find_53 : decode cX10_find 53 = .ok (.aload_n 0, 1) := by decide +kernel
theorem dX10_find_54 : decode cX10_find 54 = .ok (.getfield 24, 3) := by decide +kernel
theorem dX10_find_57 : decode cX10_find 57 = .ok (.iload_n 1, 1) := by decide +kernel
theorem dX10_find_58 : decode cX10_find 58 = .ok (.iconst 3, 1) := by decide +kernel
theorem dX10_find_59 : decode cX10_find 59 = .ok (.invokevirtual 38, 3) := by decide +kernel
theorem dX10_find_62 : decode cX10_find 62 = .ok (.aload_n 0, 1) := by decide +kernel
theorem dX10_find_63 : decode cX10_find 63 = .ok (.getfield 24, 3) := by decide +kernel
theorem dX10_find_66 : decode cX10_find 66 = .ok (.iload_n 1, 1) := by decide +kernel
theorem dX10_find_67 : decode cX10_find 67 = .ok (.iconst 4, 1) := by decide +kernel
theorem dX10_find_68 : decode cX10_find 68 = .ok (.invokevirtual 38, 3) := by decide +kernel
theorem dX10_find_71 : decode cX10_find 71 = .ok (.invokevirtual 42, 3) := by decide +kernel
theorem dX10_find_74 : decode cX10_find 74 = .ok (.iastore, 1) := by decide +kernel
theorem dX10_find_75 : decode cX10_find 75 = .ok (.iconst 0, 1) := by decide +kernel
theorem dX10_find_76 : decode cX10_find 76 = .ok (.istore_n 2, 1) := by decide +kernel
theorem dX10_find_77 : decode cX10_find 77 = .ok (.iconst 0, 1) := by decide +kernel
theorem dX10_find_78 : decode cX10_find 78 = .ok (.istore_n 3, 1) := by decide +kernel
theorem dX10_find_79 : decode cX10_find 79 = .ok (.iload_n 3, 1) := by decide +kernel
theorem dX10_find_80 : decode cX10_find 80 = .ok (.iload_n 1, 1) := by decide +kernel
theorem dX10_find_81 : decode cX10_find 81 = .ok (.if_icmp .ge 40, 3) := by decide +kernel
theorem dX10_find_84 : decode cX10_find 84 = .ok (.aload_n 0, 1) := by decide +kernel
theorem dX10_find_85 : decode cX10_find 85 = .ok (.iload_n 3, 1) := by decide +kernel
theorem dX10_find_86 : decode cX10_find 86 = .ok (.iload_n 1, 1) := by decide +kernel
theorem dX10_find_87 : decode cX10_find 87 = .ok (.invokevirtual 47, 3) := by decide +kernel
theorem dX10_find_90 : decode cX10_find 90 = .ok (.ifCond .ne 12, 3) := by decide +kernel
theorem dX10_find_93 : decode cX10_find 93 = .ok (.aload_n 0, 1) := by decide +kernel
theorem dX10_find_94 : decode cX10_find 94 = .ok (.iload_n 1, 1) := by decide +kernel
theorem dX10_find_95 : decode cX10_find 95 = .ok (.iload_n 3, 1) := by decide +kernel
theorem dX10_find_96 : decode cX10_find 96 = .ok (.invokevirtual 47, 3) := by decide +kernel
theorem dX10_find_99 : decode cX10_find 99 = .ok (.ifCond .eq 16, 3) := by decide +kernel
theorem dX10_find_102 : decode cX10_find 102 = .ok (.iload_n 2, 1) := by decide +kernel
theorem dX10_find_103 : decode cX10_find 103 = .ok (.aload_n 0, 1) := by decide +kernel
theorem dX10_find_104 : decode cX10_find 104 = .ok (.getfield 18, 3) := by decide +kernel
theorem dX10_find_107 : decode cX10_find 107 = .ok (.iload_n 3, 1) := by decide +kernel
theorem dX10_find_108 : decode cX10_find 108 = .ok (.iaload, 1) := by decide +kernel
theorem dX10_find_109 : decode cX10_find 109 = .ok (.iconst 1, 1) := by decide +kernel
theorem dX10_find_110 : decode cX10_find 110 = .ok (.iadd, 1) := by decide +kernel
theorem dX10_find_111 : decode cX10_find 111 = .ok (.invokestatic 51, 3) := by decide +kernel
theorem dX10_find_114 : decode cX10_find 114 = .ok (.istore_n 2, 1) := by decide +kernel
theorem dX10_find_115 : decode cX10_find 115 = .ok (.iinc 3 1, 3) := by decide +kernel
theorem dX10_find_118 : decode cX10_find 118 = .ok (.goto (-39), 3) := by decide +kernel
theorem dX10_find_121 : decode cX10_find 121 = .ok (.aload_n 0, 1) := by decide +kernel
theorem dX10_find_122 : decode cX10_find 122 = .ok (.getfield 18, 3) := by decide +kernel
theorem dX10_find_125 : decode cX10_find 125 = .ok (.iload_n 1, 1) := by decide +kernel
theorem dX10_find_126 : decode cX10_find 126 = .ok (.iload_n 2, 1) := by decide +kernel
theorem dX10_find_127 : decode cX10_find 127 = .ok (.iastore, 1) := by decide +kernel
theorem dX10_find_128 : decode cX10_find 128 = .ok (.iinc 1 1, 3) := by decide +kernel
theorem dX10_find_131 : decode cX10_find 131 = .ok (.goto (-129), 3) := by decide +kernel
theorem dX10_find_134 : decode cX10_find 134 = .ok (.return_, 1) := by decide +kernel
theorem dX10_changes_0 : decode cX10_changes 0 = .ok (.aload_n 0, 1) := by decide +kernel
theorem dX10_changes_1 : decode cX10_changes 1 = .ok (.iload_n 2, 1) := by decide +kernel
theorem dX10_changes_2 : decode cX10_changes 2 = .ok (.aload_n 0, 1) := by decide +kernel
theorem dX10_changes_3 : decode cX10_changes 3 = .ok (.getfield 15, 3) := by decide +kernel
theorem dX10_changes_6 : decode cX10_changes 6 = .ok (.iload_n 1, 1) := by decide +kernel
theorem dX10_changes_7 : decode cX10_changes 7 = .ok (.iaload, 1) := by decide +kernel
theorem dX10_changes_8 : decode cX10_changes 8 = .ok (.invokevirtual 56, 3) := by decide +kernel
theorem dX10_changes_11 : decode cX10_changes 11 = .ok (.ifCond .ne 30, 3) := by decide +kernel
theorem dX10_changes_14 : decode cX10_changes 14 = .ok (.aload_n 0, 1) := by decide +kernel
theorem dX10_changes_15 : decode cX10_changes 15 = .ok (.getfield 24, 3) := by decide +kernel
theorem dX10_changes_18 : decode cX10_changes 18 = .ok (.iload_n 1, 1) := by decide +kernel
theorem dX10_changes_19 : decode cX10_changes 19 = .ok (.iconst 0, 1) := by decide +kernel
theorem dX10_changes_20 : decode cX10_changes 20 = .ok (.invokevirtual 38, 3) := by decide +kernel
theorem dX10_changes_23 : decode cX10_changes 23 = .ok (.iconst 4, 1) := by decide +kernel
theorem dX10_changes_24 : decode cX10_changes 24 = .ok (.if_icmp .ne 21, 3) := by decide +kernel
theorem dX10_changes_27 : decode cX10_changes 27 = .ok (.aload_n 0, 1) := by decide +kernel
theorem dX10_changes_28 : decode cX10_changes 28 = .ok (.iload_n 2, 1) := by decide +kernel
theorem dX10_changes_29 : decode cX10_changes 29 = .ok (.aload_n 0, 1) := by decide +kernel
theorem dX10_changes_30 : decode cX10_changes 30 = .ok (.getfield 9, 3) := by decide +kernel
theorem dX10_changes_33 : decode cX10_changes 33 = .ok (.iload_n 1, 1) := by decide +kernel
theorem dX10_changes_34 : decode cX10_changes 34 = .ok (.iaload, 1) := by decide +kernel
theorem dX10_changes_35 : decode cX10_changes 35 = .ok (.invokevirtual 56, 3) := by decide +kernel
theorem dX10_changes_38 : decode cX10_changes 38 = .ok (.ifCond .eq 7, 3) := by decide +kernel
theorem dX10_changes_41 : decode cX10_changes 41 = .ok (.iconst 1, 1) := by decide +kernel
theorem dX10_changes_42 : decode cX10_changes 42 = .ok (.goto 4, 3) := by decide +kernel
theorem dX10_changes_45 : decode cX10_changes 45 = .ok (.iconst 0, 1) := by decide +kernel
theorem dX10_changes_46 : decode cX10_changes 46 = .ok (.ireturn, 1) := by decide +kernel
theorem dX10_touches_0 : decode cX10_touches 0 = .ok (.iload_n 2, 1) := by decide +kernel
theorem dX10_touches_1 : decode cX10_touches 1 = .ok (.iconst (-1), 1) := by decide +kernel
theorem dX10_touches_2 : decode cX10_touches 2 = .ok (.if_icmp .eq 27, 3) := by decide +kernel
theorem dX10_touches_5 : decode cX10_touches 5 = .ok (.aload_n 0, 1) := by decide +kernel
theorem dX10_touches_6 : decode cX10_touches 6 = .ok (.getfield 9, 3) := by decide +kernel
theorem dX10_touches_9 : decode cX10_touches 9 = .ok (.iload_n 1, 1) := by decide +kernel
theorem dX10_touches_10 : decode cX10_touches 10 = .ok (.iaload, 1) := by decide +kernel
theorem dX10_touches_11 : decode cX10_touches 11 = .ok (.iload_n 2, 1) := by decide +kernel
theorem dX10_touches_12 : decode cX10_touches 12 = .ok (.if_icmp .eq 13, 3) := by decide +kernel
theorem dX10_touches_15 : decode cX10_touches 15 = .ok (.aload_n 0, 1) := by decide +kernel
theorem dX10_touches_16 : decode cX10_touches 16 = .ok (.getfield 15, 3) := by decide +kernel
theorem dX10_touches_19 : decode cX10_touches 19 = .ok (.iload_n 1, 1) := by decide +kernel
theorem dX10_touches_20 : decode cX10_touches 20 = .ok (.iaload, 1) := by decide +kernel
theorem dX10_touches_21 : decode cX10_touches 21 = .ok (.iload_n 2, 1) := by decide +kernel
theorem dX10_touches_22 : decode cX10_touches 22 = .ok (.if_icmp .ne 7, 3) := by decide +kernel
theorem dX10_touches_25 : decode cX10_touches 25 = .ok (.iconst 1, 1) := by decide +kernel
theorem dX10_touches_26 : decode cX10_touches 26 = .ok (.goto 4, 3) := by decide +kernel
theorem dX10_touches_29 : decode cX10_touches 29 = .ok (.iconst 0, 1) := by decide +kernel
theorem dX10_touches_30 : decode cX10_touches 30 = .ok (.ireturn, 1) := by decide +kernel
theorem dX10_sortLines_0 : decode cX10_sortLines 0 = .ok (.iconst 0, 1) := by decide +kernel
theorem dX10_sortLines_1 : decode cX10_sortLines 1 = .ok (.istore_n 1, 1) := by decide +kernel
theorem dX10_sortLines_2 : decode cX10_sortLines 2 = .ok (.iconst 0, 1) := by decide +kernel
theorem dX10_sortLines_3 : decode cX10_sortLines 3 = .ok (.istore_n 2, 1) := by decide +kernel
theorem dX10_sortLines_4 : decode cX10_sortLines 4 = .ok (.iconst 0, 1) := by decide +kernel
theorem dX10_sortLines_5 : decode cX10_sortLines 5 = .ok (.istore_n 3, 1) := by decide +kernel
theorem dX10_sortLines_6 : decode cX10_sortLines 6 = .ok (.iload_n 3, 1) := by decide +kernel
theorem dX10_sortLines_7 : decode cX10_sortLines 7 = .ok (.bipush 16, 2) := by decide +kernel
theorem dX10_sortLines_9 : decode cX10_sortLines 9 = .ok (.if_icmp .ge 66, 3) := by decide +kernel
theorem dX10_sortLines_12 : decode cX10_sortLines 12 = .ok (.iconst 0, 1) := by decide +kernel
theorem dX10_sortLines_13 : decode cX10_sortLines 13 = .ok (.istore 4, 2) := by decide +kernel
theorem dX10_sortLines_15 : decode cX10_sortLines 15 = .ok (.iload 4, 2) := by decide +kernel
theorem dX10_sortLines_17 : decode cX10_sortLines 17 = .ok (.aload_n 0, 1) := by decide +kernel
theorem dX10_sortLines_18 : decode cX10_sortLines 18 = .ok (.getfield 24, 3) := by decide +kernel
theorem dX10_sortLines_21 : decode cX10_sortLines 21 = .ok (.getfield 32, 3) := by decide +kernel
theorem dX10_sortLines_24 : decode cX10_sortLines 24 = .ok (.if_icmp .ge 45, 3) := by decide +kernel
theorem dX10_sortLines_27 : decode cX10_sortLines 27 = .ok (.aload_n 0, 1) := by decide +kernel
theorem dX10_sortLines_28 : decode cX10_sortLines 28 = .ok (.getfield 18, 3) := by decide +kernel
theorem dX10_sortLines_31 : decode cX10_sortLines 31 = .ok (.iload 4, 2) := by decide +kernel
theorem dX10_sortLines_33 : decode cX10_sortLines 33 = .ok (.iaload, 1) := by decide +kernel
theorem dX10_sortLines_34 : decode cX10_sortLines 34 = .ok (.iload_n 3, 1) := by decide +kernel
theorem dX10_sortLines_35 : decode cX10_sortLines 35 = .ok (.if_icmp .ne 28, 3) := by decide +kernel
theorem dX10_sortLines_38 : decode cX10_sortLines 38 = .ok (.iload_n 2, 1) := by decide +kernel
theorem dX10_sortLines_39 : decode cX10_sortLines 39 = .ok (.iload 4, 2) := by decide +kernel
theorem dX10_sortLines_41 : decode cX10_sortLines 41 = .ok (.iload_n 1, 1) := by decide +kernel
theorem dX10_sortLines_42 : decode cX10_sortLines 42 = .ok (.if_icmp .ne 7, 3) := by decide +kernel
theorem dX10_sortLines_45 : decode cX10_sortLines 45 = .ok (.iconst 0, 1) := by decide +kernel
theorem dX10_sortLines_46 : decode cX10_sortLines 46 = .ok (.goto 4, 3) := by decide +kernel
theorem dX10_sortLines_49 : decode cX10_sortLines 49 = .ok (.iconst 1, 1) := by decide +kernel
theorem dX10_sortLines_50 : decode cX10_sortLines 50 = .ok (.iadd, 1) := by decide +kernel
theorem dX10_sortLines_51 : decode cX10_sortLines 51 = .ok (.istore_n 2, 1) := by decide +kernel
theorem dX10_sortLines_52 : decode cX10_sortLines 52 = .ok (.aload_n 0, 1) := by decide +kernel
theorem dX10_sortLines_53 : decode cX10_sortLines 53 = .ok (.getfield 21, 3) := by decide +kernel
theorem dX10_sortLines_56 : decode cX10_sortLines 56 = .ok (.iload_n 1, 1) := by decide +kernel
theorem dX10_sortLines_57 : decode cX10_sortLines 57 = .ok (.iload 4, 2) := by decide +kernel
theorem dX10_sortLines_59 : decode cX10_sortLines 59 = .ok (.iastore, 1) := by decide +kernel
theorem dX10_sortLines_60 : decode cX10_sortLines 60 = .ok (.iinc 1 1, 3) := by decide +kernel
theorem dX10_sortLines_63 : decode cX10_sortLines 63 = .ok (.iinc 4 1, 3) := by decide +kernel
theorem dX10_sortLines_66 : decode cX10_sortLines 66 = .ok (.goto (-51), 3) := by decide +kernel
theorem dX10_sortLines_69 : decode cX10_sortLines 69 = .ok (.iinc 3 1, 3) := by decide +kernel
theorem dX10_sortLines_72 : decode cX10_sortLines 72 = .ok (.goto (-66), 3) := by decide +kernel
theorem dX10_sortLines_75 : decode cX10_sortLines 75 = .ok (.aload_n 0, 1) := by decide +kernel
theorem dX10_sortLines_76 : decode cX10_sortLines 76 = .ok (.getfield 24, 3) := by decide +kernel
theorem dX10_sortLines_79 : decode cX10_sortLines 79 = .ok (.aload_n 0, 1) := by decide +kernel
theorem dX10_sortLines_80 : decode cX10_sortLines 80 = .ok (.getfield 21, 3) := by decide +kernel
theorem dX10_sortLines_83 : decode cX10_sortLines 83 = .ok (.invokevirtual 59, 3) := by decide +kernel
theorem dX10_sortLines_86 : decode cX10_sortLines 86 = .ok (.iload_n 2, 1) := by decide +kernel
theorem dX10_sortLines_87 : decode cX10_sortLines 87 = .ok (.ireturn, 1) := by decide +kernel
theorem dX11_init_0 : decode cX11_init 0 = .ok (.aload_n 0, 1) := by decide +kernel
theorem dX11_init_1 : decode cX11_init 1 = .ok (.invokespecial 3, 3) := by decide +kernel
theorem dX11_init_4 : decode cX11_init 4 = .ok (.aload_n 0, 1) := by decide +kernel
theorem dX11_init_5 : decode cX11_init 5 = .ok (.new 9, 3) := by decide +kernel
theorem dX11_init_8 : decode cX11_init 8 = .ok (.dup, 1) := by decide +kernel
theorem dX11_init_9 : decode cX11_init 9 = .ok (.invokespecial 11, 3) := by decide +kernel
theorem dX11_init_12 : decode cX11_init 12 = .ok (.putfield 12, 3) := by decide +kernel
theorem dX11_init_15 : decode cX11_init 15 = .ok (.aload_n 0, 1) := by decide +kernel
theorem dX11_init_16 : decode cX11_init 16 = .ok (.new 16, 3) := by decide +kernel
theorem dX11_init_19 : decode cX11_init 19 = .ok (.dup, 1) := by decide +kernel
theorem dX11_init_20 : decode cX11_init 20 = .ok (.aload_n 0, 1) := by decide +kernel
theorem dX11_init_21 : decode cX11_init 21 = .ok (.getfield 12, 3) := by decide +kernel
theorem dX11_init_24 : decode cX11_init 24 = .ok (.invokespecial 18, 3) := by decide +kernel
theorem dX11_init_27 : decode cX11_init 27 = .ok (.putfield 21, 3) := by decide +kernel
theorem dX11_init_30 : decode cX11_init 30 = .ok (.aload_n 0, 1) := by decide +kernel
theorem dX11_init_31 : decode cX11_init 31 = .ok (.new 25, 3) := by decide +kernel
theorem dX11_init_34 : decode cX11_init 34 = .ok (.dup, 1) := by decide +kernel
theorem dX11_init_35 : decode cX11_init 35 = .ok (.aload_n 0, 1) := by decide +kernel
theorem dX11_init_36 : decode cX11_init 36 = .ok (.getfield 12, 3) := by decide +kernel
theorem dX11_init_39 : decode cX11_init 39 = .ok (.aload_n 0, 1) := by decide +kernel
theorem dX11_init_40 : decode cX11_init 40 = .ok (.getfield 21, 3) := by decide +kernel
theorem dX11_init_43 : decode cX11_init 43 = .ok (.invokespecial 27, 3) := by decide +kernel
theorem dX11_init_46 : decode cX11_init 46 = .ok (.putfield 30, 3) := by decide +kernel
theorem dX11_init_49 : decode cX11_init 49 = .ok (.aload_n 0, 1) := by decide +kernel
theorem dX11_init_50 : decode cX11_init 50 = .ok (.new 34, 3) := by decide +kernel
theorem dX11_init_53 : decode cX11_init 53 = .ok (.dup, 1) := by decide +kernel
theorem dX11_init_54 : decode cX11_init 54 = .ok (.invokespecial 36, 3) := by decide +kernel
theorem dX11_init_57 : decode cX11_init 57 = .ok (.putfield 37, 3) := by decide +kernel
theorem dX11_init_60 : decode cX11_init 60 = .ok (.aload_n 0, 1) := by decide +kernel
theorem dX11_init_61 : decode cX11_init 61 = .ok (.new 41, 3) := by decide +kernel
theorem dX11_init_64 : decode cX11_init 64 = .ok (.dup, 1) := by decide +kernel
theorem dX11_init_65 : decode cX11_init 65 = .ok (.aload_n 0, 1) := by decide +kernel
theorem dX11_init_66 : decode cX11_init 66 = .ok (.getfield 37, 3) := by decide +kernel
theorem dX11_init_69 : decode cX11_init 69 = .ok (.invokespecial 43, 3) := by decide +kernel
theorem dX11_init_72 : decode cX11_init 72 = .ok (.putfield 46, 3) := by decide +kernel
theorem dX11_init_75 : decode cX11_init 75 = .ok (.aload_n 0, 1) := by decide +kernel
theorem dX11_init_76 : decode cX11_init 76 = .ok (.new 50, 3) := by decide +kernel
theorem dX11_init_79 : decode cX11_init 79 = .ok (.dup, 1) := by decide +kernel
theorem dX11_init_80 : decode cX11_init 80 = .ok (.aload_n 0, 1) := by decide +kernel
theorem dX11_init_81 : decode cX11_init 81 = .ok (.getfield 37, 3) := by decide +kernel
theorem dX11_init_84 : decode cX11_init 84 = .ok (.aload_n 0, 1) := by decide +kernel
theorem dX11_init_85 : decode cX11_init 85 = .ok (.getfield 21, 3) := by decide +kernel
theorem dX11_init_88 : decode cX11_init 88 = .ok (.invokespecial 52, 3) := by decide +kernel
theorem dX11_init_91 : decode cX11_init 91 = .ok (.putfield 55, 3) := by decide +kernel
theorem dX11_init_94 : decode cX11_init 94 = .ok (.aload_n 0, 1) := by decide +kernel
theorem dX11_init_95 : decode cX11_init 95 = .ok (.new 59, 3) := by decide +kernel
theorem dX11_init_98 : decode cX11_init 98 = .ok (.dup, 1) := by decide +kernel
theorem dX11_init_99 : decode cX11_init 99 = .ok (.invokespecial 61, 3) := by decide +kernel
theorem dX11_init_102 : decode cX11_init 102 = .ok (.putfield 62, 3) := by decide +kernel
theorem dX11_init_105 : decode cX11_init 105 = .ok (.aload_n 0, 1) := by decide +kernel
theorem dX11_init_106 : decode cX11_init 106 = .ok (.iconst 2, 1) := by decide +kernel
theorem dX11_init_107 : decode cX11_init 107 = .ok (.anewarray 66, 3) := by decide +kernel
theorem dX11_init_110 : decode cX11_init 110 = .ok (.putfield 68, 3) := by decide +kernel
theorem dX11_init_113 : decode cX11_init 113 = .ok (.iconst 0, 1) := by decide +kernel
theorem dX11_init_114 : decode cX11_init 114 = .ok (.istore_n 1, 1) := by decide +kernel
theorem dX11_init_115 : decode cX11_init 115 = .ok (.iload_n 1, 1) := by decide +kernel
theorem dX11_init_116 : decode cX11_init 116 = .ok (.iconst 2, 1) := by decide +kernel
theorem dX11_init_117 : decode cX11_init 117 = .ok (.if_icmp .ge 22, 3) := by decide +kernel
theorem dX11_init_120 : decode cX11_init 120 = .ok (.aload_n 0, 1) := by decide +kernel
theorem dX11_init_121 : decode cX11_init 121 = .ok (.getfield 68, 3) := by decide +kernel
theorem dX11_init_124 : decode cX11_init 124 = .ok (.iload_n 1, 1) := by decide +kernel
theorem dX11_init_125 : decode cX11_init 125 = .ok (.new 66, 3) := by decide +kernel
theorem dX11_init_128 : decode cX11_init 128 = .ok (.dup, 1) := by decide +kernel
theorem dX11_init_129 : decode cX11_init 129 = .ok (.invokespecial 72, 3) := by decide +kernel
theorem dX11_init_132 : decode cX11_init 132 = .ok (.aastore, 1) := by decide +kernel
theorem dX11_init_133 : decode cX11_init 133 = .ok (.iinc 1 1, 3) := by decide +kernel
theorem dX11_init_136 : decode cX11_init 136 = .ok (.goto (-21), 3) := by decide +kernel
theorem dX11_init_139 : decode cX11_init 139 = .ok (.aload_n 0, 1) := by decide +kernel
theorem dX11_init_140 : decode cX11_init 140 = .ok (.new 73, 3) := by decide +kernel
theorem dX11_init_143 : decode cX11_init 143 = .ok (.dup, 1) := by decide +kernel
theorem dX11_init_144 : decode cX11_init 144 = .ok (.invokespecial 75, 3) := by decide +kernel
theorem dX11_init_147 : decode cX11_init 147 = .ok (.putfield 76, 3) := by decide +kernel
theorem dX11_init_150 : decode cX11_init 150 = .ok (.aload_n 0, 1) := by decide +kernel
theorem dX11_init_151 : decode cX11_init 151 = .ok (.new 80, 3) := by decide +kernel
theorem dX11_init_154 : decode cX11_init 154 = .ok (.dup, 1) := by decide +kernel
theorem dX11_init_155 : decode cX11_init 155 = .ok (.invokespecial 82, 3) := by decide +kernel
theorem dX11_init_158 : decode cX11_init 158 = .ok (.putfield 83, 3) := by decide +kernel
theorem dX11_init_161 : decode cX11_init 161 = .ok (.aload_n 0, 1) := by decide +kernel
theorem dX11_init_162 : decode cX11_init 162 = .ok (.new 80, 3) := by decide +kernel
theorem dX11_init_165 : decode cX11_init 165 = .ok (.dup, 1) := by decide +kernel
theorem dX11_init_166 : decode cX11_init 166 = .ok (.invokespecial 82, 3) := by decide +kernel
theorem dX11_init_169 : decode cX11_init 169 = .ok (.putfield 87, 3) := by decide +kernel
theorem dX11_init_172 : decode cX11_init 172 = .ok (.aload_n 0, 1) := by decide +kernel
theorem dX11_init_173 : decode cX11_init 173 = .ok (.bipush 7, 2) := by decide +kernel
theorem dX11_init_175 : decode cX11_init 175 = .ok (.newarray .int, 2) := by decide +kernel
theorem dX11_init_177 : decode cX11_init 177 = .ok (.putfield 90, 3) := by decide +kernel
theorem dX11_init_180 : decode cX11_init 180 = .ok (.aload_n 0, 1) := by decide +kernel
theorem dX11_init_181 : decode cX11_init 181 = .ok (.bipush 7, 2) := by decide +kernel
theorem dX11_init_183 : decode cX11_init 183 = .ok (.newarray .int, 2) := by decide +kernel
theorem dX11_init_185 : decode cX11_init 185 = .ok (.putfield 94, 3) := by decide +kernel
theorem dX11_init_188 : decode cX11_init 188 = .ok (.aload_n 0, 1) := by decide +kernel
theorem dX11_init_189 : decode cX11_init 189 = .ok (.bipush 7, 2) := by decide +kernel
theorem dX11_init_191 : decode cX11_init 191 = .ok (.newarray .int, 2) := by decide +kernel
theorem dX11_init_193 : decode cX11_init 193 = .ok (.putfield 97, 3) := by decide +kernel
theorem dX11_init_196 : decode cX11_init 196 = .ok (.return_, 1) := by decide +kernel
theorem dX11_bank_0 : decode cX11_bank 0 = .ok (.iload_n 1, 1) := by decide +kernel
theorem dX11_bank_1 : decode cX11_bank 1 = .ok (.iconst 0, 1) := by decide +kernel
theorem dX11_bank_2 : decode cX11_bank 2 = .ok (.bipush 12, 2) := by decide +kernel
theorem dX11_bank_4 : decode cX11_bank 4 = .ok (.invokestatic 100, 3) := by decide +kernel
theorem dX11_bank_7 : decode cX11_bank 7 = .ok (.ifCond .eq 13, 3) := by decide +kernel
theorem dX11_bank_10 : decode cX11_bank 10 = .ok (.iload_n 2, 1) := by decide +kernel
theorem dX11_bank_11 : decode cX11_bank 11 = .ok (.iconst 1, 1) := by decide +kernel
theorem dX11_bank_12 : decode cX11_bank 12 = .ok (.bipush 12, 2) := by decide +kernel
theorem dX11_bank_14 : decode cX11_bank 14 = .ok (.invokestatic 100, 3) := by decide +kernel
theorem dX11_bank_17 : decode cX11_bank 17 = .ok (.ifCond .ne 5, 3) := by decide +kernel
theorem dX11_bank_20 : decode cX11_bank 20 = .ok (.iconst (-1), 1) := by decide +kernel
theorem dX11_bank_21 : decode cX11_bank 21 = .ok (.ireturn, 1) := by decide +kernel
theorem dX11_bank_22 : decode cX11_bank 22 = .ok (.aload_n 0, 1) := by decide +kernel
theorem dX11_bank_23 : decode cX11_bank 23 = .ok (.getfield 12, 3) := by decide +kernel
theorem dX11_bank_26 : decode cX11_bank 26 = .ok (.getfield 104, 3) := by decide +kernel
theorem dX11_bank_29 : decode cX11_bank 29 = .ok (.bipush 6, 2) := by decide +kernel
theorem dX11_bank_31 : decode cX11_bank 31 = .ok (.if_icmp .ne 6, 3) := by decide +kernel
theorem dX11_bank_34 : decode cX11_bank 34 = .ok (.bipush (-3), 2) := by decide +kernel
theorem dX11_bank_36 : decode cX11_bank 36 = .ok (.ireturn, 1) := by decide +kernel
theorem dX11_bank_37 : decode cX11_bank 37 = .ok (.aload_n 0, 1) := by decide +kernel
theorem dX11_bank_38 : decode cX11_bank 38 = .ok (.getfield 12, 3) := by decide +kernel
theorem dX11_bank_41 : decode cX11_bank 41 = .ok (.iload_n 1, 1) := by decide +kernel
theorem dX11_bank_42 : decode cX11_bank 42 = .ok (.iload_n 2, 1) := by decide +kernel
theorem dX11_bank_43 : decode cX11_bank 43 = .ok (.invokevirtual 108, 3) := by decide +kernel
theorem dX11_bank_46 : decode cX11_bank 46 = .ok (.ireturn, 1) := by decide +kernel
