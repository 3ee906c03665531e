theorem dX0_init_0 : decode cX0_init 0 = .ok (.aload_n 0, 1) := by decide +kernel
theorem dX0_init_1 : decode cX0_init 1 = .ok (.invokespecial 3, 3) := by decide +kernel
theorem dX0_init_4 : decode cX0_init 4 = .ok (.aload_n 0, 1) := by decide +kernel
theorem dX0_init_5 : decode cX0_init 5 = .ok (.bipush 6, 2) := by decide +kernel
theorem dX0_init_7 : decode cX0_init 7 = .ok (.newarray .int, 2) := by decide +kernel
theorem dX0_init_9 : decode cX0_init 9 = .ok (.putfield 9, 3) := by decide +kernel
theorem dX0_init_12 : decode cX0_init 12 = .ok (.aload_n 0, 1) := by decide +kernel
theorem dX0_init_13 : decode cX0_init 13 = .ok (.bipush 72, 2) := by decide +kernel
theorem dX0_init_15 : decode cX0_init 15 = .ok (.newarray .int, 2) := by decide +kernel
theorem dX0_init_17 : decode cX0_init 17 = .ok (.putfield 15, 3) := by decide +kernel
theorem dX0_init_20 : decode cX0_init 20 = .ok (.aload_n 0, 1) := by decide +kernel
theorem dX0_init_21 : decode cX0_init 21 = .ok (.bipush 72, 2) := by decide +kernel
theorem dX0_init_23 : decode cX0_init 23 = .ok (.newarray .long, 2) := by decide +kernel
theorem dX0_init_25 : decode cX0_init 25 = .ok (.putfield 18, 3) := by decide +kernel
theorem dX0_init_28 : decode cX0_init 28 = .ok (.aload_n 0, 1) := by decide +kernel
theorem dX0_init_29 : decode cX0_init 29 = .ok (.bipush 6, 2) := by decide +kernel
theorem dX0_init_31 : decode cX0_init 31 = .ok (.newarray .int, 2) := by decide +kernel
theorem dX0_init_33 : decode cX0_init 33 = .ok (.putfield 22, 3) := by decide +kernel
theorem dX0_init_36 : decode cX0_init 36 = .ok (.return_, 1) := by decide +kernel
theorem dX0_hasBank_0 : decode cX0_hasBank 0 = .ok (.iload_n 1, 1) := by decide +kernel
theorem dX0_hasBank_1 : decode cX0_hasBank 1 = .ok (.ifCond .lt 15, 3) := by decide +kernel
theorem dX0_hasBank_4 : decode cX0_hasBank 4 = .ok (.iload_n 1, 1) := by decide +kernel
theorem dX0_hasBank_5 : decode cX0_hasBank 5 = .ok (.aload_n 0, 1) := by decide +kernel
theorem dX0_hasBank_6 : decode cX0_hasBank 6 = .ok (.getfield 25, 3) := by decide +kernel
theorem dX0_hasBank_9 : decode cX0_hasBank 9 = .ok (.if_icmp .ge 7, 3) := by decide +kernel
theorem dX0_hasBank_12 : decode cX0_hasBank 12 = .ok (.iconst 1, 1) := by decide +kernel
theorem dX0_hasBank_13 : decode cX0_hasBank 13 = .ok (.goto 4, 3) := by decide +kernel
theorem dX0_hasBank_16 : decode cX0_hasBank 16 = .ok (.iconst 0, 1) := by decide +kernel
theorem dX0_hasBank_17 : decode cX0_hasBank 17 = .ok (.ireturn, 1) := by decide +kernel
theorem dX0_hasCell_0 : decode cX0_hasCell 0 = .ok (.iload_n 2, 1) := by decide +kernel
theorem dX0_hasCell_1 : decode cX0_hasCell 1 = .ok (.ifCond .lt 17, 3) := by decide +kernel
theorem dX0_hasCell_4 : decode cX0_hasCell 4 = .ok (.iload_n 2, 1) := by decide +kernel
theorem dX0_hasCell_5 : decode cX0_hasCell 5 = .ok (.aload_n 0, 1) := by decide +kernel
theorem dX0_hasCell_6 : decode cX0_hasCell 6 = .ok (.getfield 22, 3) := by decide +kernel
theorem dX0_hasCell_9 : decode cX0_hasCell 9 = .ok (.iload_n 1, 1) := by decide +kernel
theorem dX0_hasCell_10 : decode cX0_hasCell 10 = .ok (.iaload, 1) := by decide +kernel
theorem dX0_hasCell_11 : decode cX0_hasCell 11 = .ok (.if_icmp .ge 7, 3) := by decide +kernel
theorem dX0_hasCell_14 : decode cX0_hasCell 14 = .ok (.iconst 1, 1) := by decide +kernel
theorem dX0_hasCell_15 : decode cX0_hasCell 15 = .ok (.goto 4, 3) := by decide +kernel
theorem dX0_hasCell_18 : decode cX0_hasCell 18 = .ok (.iconst 0, 1) := by decide +kernel
theorem dX0_hasCell_19 : decode cX0_hasCell 19 = .ok (.ireturn, 1) := by decide +kernel
theorem dX0_addBank_0 : decode cX0_addBank 0 = .ok (.aload_n 0, 1) := by decide +kernel
theorem dX0_addBank_1 : decode cX0_addBank 1 = .ok (.getfield 25, 3) := by decide +kernel
theorem dX0_addBank_4 : decode cX0_addBank 4 = .ok (.istore_n 3, 1) := by decide +kernel
theorem dX0_addBank_5 : decode cX0_addBank 5 = .ok (.aload_n 0, 1) := by decide +kernel
theorem dX0_addBank_6 : decode cX0_addBank 6 = .ok (.getfield 9, 3) := by decide +kernel
theorem dX0_addBank_9 : decode cX0_addBank 9 = .ok (.iload_n 3, 1) := by decide +kernel
theorem dX0_addBank_10 : decode cX0_addBank 10 = .ok (.iload_n 1, 1) := by decide +kernel
theorem dX0_addBank_11 : decode cX0_addBank 11 = .ok (.iastore, 1) := by decide +kernel
theorem dX0_addBank_12 : decode cX0_addBank 12 = .ok (.aload_n 0, 1) := by decide +kernel
theorem dX0_addBank_13 : decode cX0_addBank 13 = .ok (.getfield 22, 3) := by decide +kernel
theorem dX0_addBank_16 : decode cX0_addBank 16 = .ok (.iload_n 3, 1) := by decide +kernel
theorem dX0_addBank_17 : decode cX0_addBank 17 = .ok (.iload_n 1, 1) := by decide +kernel
theorem dX0_addBank_18 : decode cX0_addBank 18 = .ok (.bipush 11, 2) := by decide +kernel
theorem dX0_addBank_20 : decode cX0_addBank 20 = .ok (.if_icmp .lt 7, 3) := by decide +kernel
theorem dX0_addBank_23 : decode cX0_addBank 23 = .ok (.iconst 0, 1) := by decide +kernel
theorem dX0_addBank_24 : decode cX0_addBank 24 = .ok (.goto 4, 3) := by decide +kernel
theorem dX0_addBank_27 : decode cX0_addBank 27 = .ok (.iload_n 2, 1) := by decide +kernel
theorem dX0_addBank_28 : decode cX0_addBank 28 = .ok (.iastore, 1) := by decide +kernel
theorem dX0_addBank_29 : decode cX0_addBank 29 = .ok (.iconst 0, 1) := by decide +kernel
theorem dX0_addBank_30 : decode cX0_addBank 30 = .ok (.istore 4, 2) := by decide +kernel
theorem dX0_addBank_32 : decode cX0_addBank 32 = .ok (.iload 4, 2) := by decide +kernel
theorem dX0_addBank_34 : decode cX0_addBank 34 = .ok (.bipush 12, 2) := by decide +kernel
theorem dX0_addBank_36 : decode cX0_addBank 36 = .ok (.if_icmp .ge 46, 3) := by decide +kernel
theorem dX0_addBank_39 : decode cX0_addBank 39 = .ok (.aload_n 0, 1) := by decide +kernel
theorem dX0_addBank_40 : decode cX0_addBank 40 = .ok (.getfield 15, 3) := by decide +kernel
theorem dX0_addBank_43 : decode cX0_addBank 43 = .ok (.iload_n 3, 1) := by decide +kernel
theorem dX0_addBank_44 : decode cX0_addBank 44 = .ok (.bipush 12, 2) := by decide +kernel
theorem dX0_addBank_46 : decode cX0_addBank 46 = .ok (.imul, 1) := by decide +kernel
theorem dX0_addBank_47 : decode cX0_addBank 47 = .ok (.iload 4, 2) := by decide +kernel
theorem dX0_addBank_49 : decode cX0_addBank 49 = .ok (.iadd, 1) := by decide +kernel
theorem dX0_addBank_50 : decode cX0_addBank 50 = .ok (.iload_n 1, 1) := by decide +kernel
theorem dX0_addBank_51 : decode cX0_addBank 51 = .ok (.bipush 7, 2) := by decide +kernel
theorem dX0_addBank_53 : decode cX0_addBank 53 = .ok (.if_icmp .gt 7, 3) := by decide +kernel
theorem dX0_addBank_56 : decode cX0_addBank 56 = .ok (.iload_n 1, 1) := by decide +kernel
theorem dX0_addBank_57 : decode cX0_addBank 57 = .ok (.goto 5, 3) := by decide +kernel
theorem dX0_addBank_60 : decode cX0_addBank 60 = .ok (.bipush 10, 2) := by decide +kernel
theorem dX0_addBank_62 : decode cX0_addBank 62 = .ok (.iastore, 1) := by decide +kernel
theorem dX0_addBank_63 : decode cX0_addBank 63 = .ok (.aload_n 0, 1) := by decide +kernel
theorem dX0_addBank_64 : decode cX0_addBank 64 = .ok (.getfield 18, 3) := by decide +kernel
theorem dX0_addBank_67 : decode cX0_addBank 67 = .ok (.iload_n 3, 1) := by decide +kernel
theorem dX0_addBank_68 : decode cX0_addBank 68 = .ok (.bipush 12, 2) := by decide +kernel
theorem dX0_addBank_70 : decode cX0_addBank 70 = .ok (.imul, 1) := by decide +kernel
theorem dX0_addBank_71 : decode cX0_addBank 71 = .ok (.iload 4, 2) := by decide +kernel
theorem dX0_addBank_73 : decode cX0_addBank 73 = .ok (.iadd, 1) := by decide +kernel
theorem dX0_addBank_74 : decode cX0_addBank 74 = .ok (.lconst 0, 1) := by decide +kernel
theorem dX0_addBank_75 : decode cX0_addBank 75 = .ok (.lastore, 1) := by decide +kernel
theorem dX0_addBank_76 : decode cX0_addBank 76 = .ok (.iinc 4 1, 3) := by decide +kernel
theorem dX0_addBank_79 : decode cX0_addBank 79 = .ok (.goto (-47), 3) := by decide +kernel
theorem dX0_addBank_82 : decode cX0_addBank 82 = .ok (.aload_n 0, 1) := by decide +kernel
theorem dX0_addBank_83 : decode cX0_addBank 83 = .ok (.iload_n 3, 1) := by decide +kernel
theorem dX0_addBank_84 : decode cX0_addBank 84 = .ok (.iconst 1, 1) := by decide +kernel
theorem dX0_addBank_85 : decode cX0_addBank 85 = .ok (.iadd, 1) := by decide +kernel
theorem dX0_addBank_86 : decode cX0_addBank 86 = .ok (.putfield 25, 3) := by decide +kernel
theorem dX0_addBank_89 : decode cX0_addBank 89 = .ok (.iload_n 3, 1) := by decide +kernel
theorem dX0_addBank_90 : decode cX0_addBank 90 = .ok (.ireturn, 1) := by decide +kernel
theorem dX0_fetch_0 : decode cX0_fetch 0 = .ok (.aload_n 3, 1) := by decide +kernel
theorem dX0_fetch_1 : decode cX0_fetch 1 = .ok (.aload_n 0, 1) := by decide +kernel
theorem dX0_fetch_2 : decode cX0_fetch 2 = .ok (.getfield 15, 3) := by decide +kernel
theorem dX0_fetch_5 : decode cX0_fetch 5 = .ok (.iload_n 1, 1) := by decide +kernel
theorem dX0_fetch_6 : decode cX0_fetch 6 = .ok (.bipush 12, 2) := by decide +kernel
theorem dX0_fetch_8 : decode cX0_fetch 8 = .ok (.imul, 1) := by decide +kernel
theorem dX0_fetch_9 : decode cX0_fetch 9 = .ok (.iload_n 2, 1) := by decide +kernel
theorem dX0_fetch_10 : decode cX0_fetch 10 = .ok (.iadd, 1) := by decide +kernel
theorem dX0_fetch_11 : decode cX0_fetch 11 = .ok (.iaload, 1) := by decide +kernel
theorem dX0_fetch_12 : decode cX0_fetch 12 = .ok (.aload_n 0, 1) := by decide +kernel
theorem dX0_fetch_13 : decode cX0_fetch 13 = .ok (.getfield 18, 3) := by decide +kernel
theorem dX0_fetch_16 : decode cX0_fetch 16 = .ok (.iload_n 1, 1) := by decide +kernel
theorem dX0_fetch_17 : decode cX0_fetch 17 = .ok (.bipush 12, 2) := by decide +kernel
theorem dX0_fetch_19 : decode cX0_fetch 19 = .ok (.imul, 1) := by decide +kernel
theorem dX0_fetch_20 : decode cX0_fetch 20 = .ok (.iload_n 2, 1) := by decide +kernel
theorem dX0_fetch_21 : decode cX0_fetch 21 = .ok (.iadd, 1) := by decide +kernel
theorem dX0_fetch_22 : decode cX0_fetch 22 = .ok (.laload, 1) := by decide +kernel
theorem dX0_fetch_23 : decode cX0_fetch 23 = .ok (.invokevirtual 29, 3) := by decide +kernel
theorem dX0_fetch_26 : decode cX0_fetch 26 = .ok (.return_, 1) := by decide +kernel
theorem dX0_store_0 : decode cX0_store 0 = .ok (.aload_n 3, 1) := by decide +kernel
theorem dX0_store_1 : decode cX0_store 1 = .ok (.aload_n 0, 1) := by decide +kernel
theorem dX0_store_2 : decode cX0_store 2 = .ok (.getfield 9, 3) := by decide +kernel
theorem dX0_store_5 : decode cX0_store 5 = .ok (.iload_n 1, 1) := by decide +kernel
theorem dX0_store_6 : decode cX0_store 6 = .ok (.iaload, 1) := by decide +kernel
theorem dX0_store_7 : decode cX0_store 7 = .ok (.invokevirtual 35, 3) := by decide +kernel
theorem dX0_store_10 : decode cX0_store 10 = .ok (.aload_n 0, 1) := by decide +kernel
theorem dX0_store_11 : decode cX0_store 11 = .ok (.getfield 15, 3) := by decide +kernel
theorem dX0_store_14 : decode cX0_store 14 = .ok (.iload_n 1, 1) := by decide +kernel
theorem dX0_store_15 : decode cX0_store 15 = .ok (.bipush 12, 2) := by decide +kernel
theorem dX0_store_17 : decode cX0_store 17 = .ok (.imul, 1) := by decide +kernel
theorem dX0_store_18 : decode cX0_store 18 = .ok (.iload_n 2, 1) := by decide +kernel
theorem dX0_store_19 : decode cX0_store 19 = .ok (.iadd, 1) := by decide +kernel
theorem dX0_store_20 : decode cX0_store 20 = .ok (.aload_n 3, 1) := by decide +kernel
theorem dX0_store_21 : decode cX0_store 21 = .ok (.getfield 39, 3) := by decide +kernel
theorem dX0_store_24 : decode cX0_store 24 = .ok (.iastore, 1) := by decide +kernel
theorem dX0_store_25 : decode cX0_store 25 = .ok (.aload_n 0, 1) := by decide +kernel
theorem dX0_store_26 : decode cX0_store 26 = .ok (.getfield 18, 3) := by decide +kernel
theorem dX0_store_29 : decode cX0_store 29 = .ok (.iload_n 1, 1) := by decide +kernel
theorem dX0_store_30 : decode cX0_store 30 = .ok (.bipush 12, 2) := by decide +kernel
theorem dX0_store_32 : decode cX0_store 32 = .ok (.imul, 1) := by decide +kernel
theorem dX0_store_33 : decode cX0_store 33 = .ok (.iload_n 2, 1) := by decide +kernel
theorem dX0_store_34 : decode cX0_store 34 = .ok (.iadd, 1) := by decide +kernel
theorem dX0_store_35 : decode cX0_store 35 = .ok (.aload_n 3, 1) := by decide +kernel
theorem dX0_store_36 : decode cX0_store 36 = .ok (.getfield 42, 3) := by decide +kernel
theorem dX0_store_39 : decode cX0_store 39 = .ok (.lastore, 1) := by decide +kernel
theorem dX0_store_40 : decode cX0_store 40 = .ok (.return_, 1) := by decide +kernel
theorem dX1_init_0 : decode cX1_init 0 = .ok (.aload_n 0, 1) := by decide +kernel
theorem dX1_init_1 : decode cX1_init 1 = .ok (.invokespecial 3, 3) := by decide +kernel
theorem dX1_init_4 : decode cX1_init 4 = .ok (.aload_n 0, 1) := by decide +kernel
theorem dX1_init_5 : decode cX1_init 5 = .ok (.bipush 10, 2) := by decide +kernel
theorem dX1_init_7 : decode cX1_init 7 = .ok (.anewarray 9, 3) := by decide +kernel
theorem dX1_init_10 : decode cX1_init 10 = .ok (.putfield 11, 3) := by decide +kernel
theorem dX1_init_13 : decode cX1_init 13 = .ok (.aload_n 0, 1) := by decide +kernel
theorem dX1_init_14 : decode cX1_init 14 = .ok (.new 9, 3) := by decide +kernel
theorem dX1_init_17 : decode cX1_init 17 = .ok (.dup, 1) := by decide +kernel
theorem dX1_init_18 : decode cX1_init 18 = .ok (.invokespecial 17, 3) := by decide +kernel
theorem dX1_init_21 : decode cX1_init 21 = .ok (.putfield 18, 3) := by decide +kernel
theorem dX1_init_24 : decode cX1_init 24 = .ok (.iconst 0, 1) := by decide +kernel
theorem dX1_init_25 : decode cX1_init 25 = .ok (.istore_n 1, 1) := by decide +kernel
theorem dX1_init_26 : decode cX1_init 26 = .ok (.iload_n 1, 1) := by decide +kernel
theorem dX1_init_27 : decode cX1_init 27 = .ok (.bipush 10, 2) := by decide +kernel
theorem dX1_init_29 : decode cX1_init 29 = .ok (.if_icmp .ge 22, 3) := by decide +kernel
theorem dX1_init_32 : decode cX1_init 32 = .ok (.aload_n 0, 1) := by decide +kernel
theorem dX1_init_33 : decode cX1_init 33 = .ok (.getfield 11, 3) := by decide +kernel
theorem dX1_init_36 : decode cX1_init 36 = .ok (.iload_n 1, 1) := by decide +kernel
theorem dX1_init_37 : decode cX1_init 37 = .ok (.new 9, 3) := by decide +kernel
theorem dX1_init_40 : decode cX1_init 40 = .ok (.dup, 1) := by decide +kernel
theorem dX1_init_41 : decode cX1_init 41 = .ok (.invokespecial 17, 3) := by decide +kernel
theorem dX1_init_44 : decode cX1_init 44 = .ok (.aastore, 1) := by decide +kernel
theorem dX1_init_45 : decode cX1_init 45 = .ok (.iinc 1 1, 3) := by decide +kernel
theorem dX1_init_48 : decode cX1_init 48 = .ok (.goto (-22), 3) := by decide +kernel
theorem dX1_init_51 : decode cX1_init 51 = .ok (.return_, 1) := by decide +kernel
theorem dX1_lose_0 : decode cX1_lose 0 = .ok (.aload_n 0, 1) := by decide +kernel
theorem dX1_lose_1 : decode cX1_lose 1 = .ok (.iconst 0, 1) := by decide +kernel
theorem dX1_lose_2 : decode cX1_lose 2 = .ok (.putfield 22, 3) := by decide +kernel
theorem dX1_lose_5 : decode cX1_lose 5 = .ok (.return_, 1) := by decide +kernel
theorem dX1_mark_0 : decode cX1_mark 0 = .ok (.aload_n 0, 1) := by decide +kernel
theorem dX1_mark_1 : decode cX1_mark 1 = .ok (.getfield 18, 3) := by decide +kernel
theorem dX1_mark_4 : decode cX1_mark 4 = .ok (.aload_n 1, 1) := by decide +kernel
theorem dX1_mark_5 : decode cX1_mark 5 = .ok (.invokevirtual 26, 3) := by decide +kernel
theorem dX1_mark_8 : decode cX1_mark 8 = .ok (.return_, 1) := by decide +kernel
theorem dX1_keepMark_0 : decode cX1_keepMark 0 = .ok (.aload_n 0, 1) := by decide +kernel
theorem dX1_keepMark_1 : decode cX1_keepMark 1 = .ok (.getfield 11, 3) := by decide +kernel
theorem dX1_keepMark_4 : decode cX1_keepMark 4 = .ok (.aload_n 0, 1) := by decide +kernel
theorem dX1_keepMark_5 : decode cX1_keepMark 5 = .ok (.getfield 30, 3) := by decide +kernel
theorem dX1_keepMark_8 : decode cX1_keepMark 8 = .ok (.aaload, 1) := by decide +kernel
theorem dX1_keepMark_9 : decode cX1_keepMark 9 = .ok (.astore_n 1, 1) := by decide +kernel
theorem dX1_keepMark_10 : decode cX1_keepMark 10 = .ok (.aload_n 0, 1) := by decide +kernel
theorem dX1_keepMark_11 : decode cX1_keepMark 11 = .ok (.getfield 11, 3) := by decide +kernel
theorem dX1_keepMark_14 : decode cX1_keepMark 14 = .ok (.aload_n 0, 1) := by decide +kernel
theorem dX1_keepMark_15 : decode cX1_keepMark 15 = .ok (.getfield 30, 3) := by decide +kernel
theorem dX1_keepMark_18 : decode cX1_keepMark 18 = .ok (.aload_n 0, 1) := by decide +kernel
theorem dX1_keepMark_19 : decode cX1_keepMark 19 = .ok (.getfield 18, 3) := by decide +kernel
theorem dX1_keepMark_22 : decode cX1_keepMark 22 = .ok (.aastore, 1) := by decide +kernel
theorem dX1_keepMark_23 : decode cX1_keepMark 23 = .ok (.aload_n 0, 1) := by decide +kernel
theorem dX1_keepMark_24 : decode cX1_keepMark 24 = .ok (.aload_n 1, 1) := by decide +kernel
theorem dX1_keepMark_25 : decode cX1_keepMark 25 = .ok (.putfield 18, 3) := by decide +kernel
theorem dX1_keepMark_28 : decode cX1_keepMark 28 = .ok (.aload_n 0, 1) := by decide +kernel
theorem dX1_keepMark_29 : decode cX1_keepMark 29 = .ok (.aload_n 0, 1) := by decide +kernel
theorem dX1_keepMark_30 : decode cX1_keepMark 30 = .ok (.getfield 30, 3) := by decide +kernel
theorem dX1_keepMark_33 : decode cX1_keepMark 33 = .ok (.iconst 1, 1) := by decide +kernel
theorem dX1_keepMark_34 : decode cX1_keepMark 34 = .ok (.iadd, 1) := by decide +kernel
theorem dX1_keepMark_35 : decode cX1_keepMark 35 = .ok (.bipush 10, 2) := by decide +kernel
theorem dX1_keepMark_37 : decode cX1_keepMark 37 = .ok (.irem, 1) := by decide +kernel
theorem dX1_keepMark_38 : decode cX1_keepMark 38 = .ok (.putfield 30, 3) := by decide +kernel
theorem dX1_keepMark_41 : decode cX1_keepMark 41 = .ok (.aload_n 0, 1) := by decide +kernel
theorem dX1_keepMark_42 : decode cX1_keepMark 42 = .ok (.aload_n 0, 1) := by decide +kernel
theorem dX1_keepMark_43 : decode cX1_keepMark 43 = .ok (.getfield 22, 3) := by decide +kernel
theorem dX1_keepMark_46 : decode cX1_keepMark 46 = .ok (.iconst 1, 1) := by decide +kernel
theorem dX1_keepMark_47 : decode cX1_keepMark 47 = .ok (.iadd, 1) := by decide +kernel
theorem dX1_keepMark_48 : decode cX1_keepMark 48 = .ok (.bipush 10, 2) := by decide +kernel
theorem dX1_keepMark_50 : decode cX1_keepMark 50 = .ok (.invokestatic 33, 3) := by decide +kernel
theorem dX1_keepMark_53 : decode cX1_keepMark 53 = .ok (.putfield 22, 3) := by decide +kernel
theorem dX1_keepMark_56 : decode cX1_keepMark 56 = .ok (.return_, 1) := by decide +kernel
theorem dX1_returnToMark_0 : decode cX1_returnToMark 0 = .ok (.aload_n 0, 1) := by decide +kernel
theorem dX1_returnToMark_1 : decode cX1_returnToMark 1 = .ok (.getfield 18, 3) := by decide +kernel
theorem dX1_returnToMark_4 : decode cX1_returnToMark 4 = .ok (.aload_n 1, 1) := by decide +kernel
theorem dX1_returnToMark_5 : decode cX1_returnToMark 5 = .ok (.invokevirtual 39, 3) := by decide +kernel
theorem dX1_returnToMark_8 : decode cX1_returnToMark 8 = .ok (.return_, 1) := by decide +kernel
theorem dX1_stepBack_0 : decode cX1_stepBack 0 = .ok (.aload_n 0, 1) := by decide +kernel
theorem dX1_stepBack_1 : decode cX1_stepBack 1 = .ok (.aload_n 0, 1) := by decide +kernel
theorem dX1_stepBack_2 : decode cX1_stepBack 2 = .ok (.getfield 30, 3) := by decide +kernel
theorem dX1_stepBack_5 : decode cX1_stepBack 5 = .ok (.bipush 10, 2) := by decide +kernel
theorem dX1_stepBack_7 : decode cX1_stepBack 7 = .ok (.iadd, 1) := by decide +kernel
theorem dX1_stepBack_8 : decode cX1_stepBack 8 = .ok (.iconst 1, 1) := by decide +kernel
theorem dX1_stepBack_9 : decode cX1_stepBack 9 = .ok (.isub, 1) := by decide +kernel
theorem dX1_stepBack_10 : decode cX1_stepBack 10 = .ok (.bipush 10, 2) := by decide +kernel
theorem dX1_stepBack_12 : decode cX1_stepBack 12 = .ok (.irem, 1) := by decide +kernel
theorem dX1_stepBack_13 : decode cX1_stepBack 13 = .ok (.putfield 30, 3) := by decide +kernel
theorem dX1_stepBack_16 : decode cX1_stepBack 16 = .ok (.aload_n 0, 1) := by decide +kernel
theorem dX1_stepBack_17 : decode cX1_stepBack 17 = .ok (.getfield 11, 3) := by decide +kernel
theorem dX1_stepBack_20 : decode cX1_stepBack 20 = .ok (.aload_n 0, 1) := by decide +kernel
theorem dX1_stepBack_21 : decode cX1_stepBack 21 = .ok (.getfield 30, 3) := by decide +kernel
theorem dX1_stepBack_24 : decode cX1_stepBack 24 = .ok (.aaload, 1) := by decide +kernel
theorem dX1_stepBack_25 : decode cX1_stepBack 25 = .ok (.aload_n 1, 1) := by decide +kernel
theorem dX1_stepBack_26 : decode cX1_stepBack 26 = .ok (.invokevirtual 39, 3) := by decide +kernel
theorem dX1_stepBack_29 : decode cX1_stepBack 29 = .ok (.aload_n 0, 1) := by decide +kernel
theorem dX1_stepBack_30 : decode cX1_stepBack 30 = .ok (.dup, 1) := by decide +kernel
theorem dX1_stepBack_31 : decode cX1_stepBack 31 = .ok (.getfield 22, 3) := by decide +kernel
theorem dX1_stepBack_34 : decode cX1_stepBack 34 = .ok (.iconst 1, 1) := by decide +kernel
theorem dX1_stepBack_35 : decode cX1_stepBack 35 = .ok (.isub, 1) := by decide +kernel
theorem dX1_stepBack_36 : decode cX1_stepBack 36 = .ok (.putfield 22, 3) := by decide +kernel
theorem dX1_stepBack_39 : decode cX1_stepBack 39 = .ok (.return_, 1) := by decide +kernel
theorem dX2_init_0 : decode cX2_init 0 = .ok (.aload_n 0, 1) := by decide +kernel
theorem dX2_init_1 : decode cX2_init 1 = .ok (.invokespecial 3, 3) := by decide +kernel
theorem dX2_init_4 : decode cX2_init 4 = .ok (.aload_n 0, 1) := by decide +kernel
theorem dX2_init_5 : decode cX2_init 5 = .ok (.bipush 72, 2) := by decide +kernel
theorem dX2_init_7 : decode cX2_init 7 = .ok (.newarray .int, 2) := by decide +kernel
theorem dX2_init_9 : decode cX2_init 9 = .ok (.putfield 9, 3) := by decide +kernel
theorem dX2_init_12 : decode cX2_init 12 = .ok (.aload_n 0, 1) := by decide +kernel
theorem dX2_init_13 : decode cX2_init 13 = .ok (.bipush 72, 2) := by decide +kernel
theorem dX2_init_15 : decode cX2_init 15 = .ok (.newarray .long, 2) := by decide +kernel
theorem dX2_init_17 : decode cX2_init 17 = .ok (.putfield 15, 3) := by decide +kernel
theorem dX2_init_20 : decode cX2_init 20 = .ok (.aload_n 0, 1) := by decide +kernel
theorem dX2_init_21 : decode cX2_init 21 = .ok (.bipush (-20), 2) := by decide +kernel
theorem dX2_init_23 : decode cX2_init 23 = .ok (.putfield 19, 3) := by decide +kernel
theorem dX2_init_26 : decode cX2_init 26 = .ok (.return_, 1) := by decide +kernel
theorem dX2_lose_0 : decode cX2_lose 0 = .ok (.aload_n 0, 1) := by decide +kernel
theorem dX2_lose_1 : decode cX2_lose 1 = .ok (.bipush (-20), 2) := by decide +kernel
theorem dX2_lose_3 : decode cX2_lose 3 = .ok (.putfield 19, 3) := by decide +kernel
theorem dX2_lose_6 : decode cX2_lose 6 = .ok (.return_, 1) := by decide +kernel
theorem dX2_record_0 : decode cX2_record 0 = .ok (.aload_n 0, 1) := by decide +kernel
theorem dX2_record_1 : decode cX2_record 1 = .ok (.aload_n 1, 1) := by decide +kernel
theorem dX2_record_2 : decode cX2_record 2 = .ok (.getfield 23, 3) := by decide +kernel
theorem dX2_record_5 : decode cX2_record 5 = .ok (.putfield 19, 3) := by decide +kernel
theorem dX2_record_8 : decode cX2_record 8 = .ok (.aload_n 1, 1) := by decide +kernel
theorem dX2_record_9 : decode cX2_record 9 = .ok (.getfield 26, 3) := by decide +kernel
theorem dX2_record_12 : decode cX2_record 12 = .ok (.iconst 0, 1) := by decide +kernel
theorem dX2_record_13 : decode cX2_record 13 = .ok (.aload_n 0, 1) := by decide +kernel
theorem dX2_record_14 : decode cX2_record 14 = .ok (.getfield 9, 3) := by decide +kernel
theorem dX2_record_17 : decode cX2_record 17 = .ok (.iconst 0, 1) := by decide +kernel
theorem dX2_record_18 : decode cX2_record 18 = .ok (.aload_n 0, 1) := by decide +kernel
theorem dX2_record_19 : decode cX2_record 19 = .ok (.getfield 19, 3) := by decide +kernel
theorem dX2_record_22 : decode cX2_record 22 = .ok (.bipush 12, 2) := by decide +kernel
theorem dX2_record_24 : decode cX2_record 24 = .ok (.imul, 1) := by decide +kernel
theorem dX2_record_25 : decode cX2_record 25 = .ok (.invokestatic 27, 3) := by decide +kernel
theorem dX2_record_28 : decode cX2_record 28 = .ok (.aload_n 1, 1) := by decide +kernel
theorem dX2_record_29 : decode cX2_record 29 = .ok (.getfield 33, 3) := by decide +kernel
theorem dX2_record_32 : decode cX2_record 32 = .ok (.iconst 0, 1) := by decide +kernel
theorem dX2_record_33 : decode cX2_record 33 = .ok (.aload_n 0, 1) := by decide +kernel
theorem dX2_record_34 : decode cX2_record 34 = .ok (.getfield 15, 3) := by decide +kernel
theorem dX2_record_37 : decode cX2_record 37 = .ok (.iconst 0, 1) := by decide +kernel
theorem dX2_record_38 : decode cX2_record 38 = .ok (.aload_n 0, 1) := by decide +kernel
theorem dX2_record_39 : decode cX2_record 39 = .ok (.getfield 19, 3) := by decide +kernel
theorem dX2_record_42 : decode cX2_record 42 = .ok (.bipush 12, 2) := by decide +kernel
theorem dX2_record_44 : decode cX2_record 44 = .ok (.imul, 1) := by decide +kernel
theorem dX2_record_45 : decode cX2_record 45 = .ok (.invokestatic 27, 3) := by decide +kernel
theorem dX2_record_48 : decode cX2_record 48 = .ok (.return_, 1) := by decide +kernel
theorem dX2_restore_0 : decode cX2_restore 0 = .ok (.iconst 0, 1) := by decide +kernel
theorem dX2_restore_1 : decode cX2_restore 1 = .ok (.aload_n 0, 1) := by decide +kernel
theorem dX2_restore_2 : decode cX2_restore 2 = .ok (.getfield 19, 3) := by decide +kernel
theorem dX2_restore_5 : decode cX2_restore 5 = .ok (.invokestatic 34, 3) := by decide +kernel
theorem dX2_restore_8 : decode cX2_restore 8 = .ok (.istore_n 2, 1) := by decide +kernel
theorem dX2_restore_9 : decode cX2_restore 9 = .ok (.aload_n 0, 1) := by decide +kernel
theorem dX2_restore_10 : decode cX2_restore 10 = .ok (.getfield 9, 3) := by decide +kernel
theorem dX2_restore_13 : decode cX2_restore 13 = .ok (.iconst 0, 1) := by decide +kernel
theorem dX2_restore_14 : decode cX2_restore 14 = .ok (.aload_n 1, 1) := by decide +kernel
theorem dX2_restore_15 : decode cX2_restore 15 = .ok (.getfield 26, 3) := by decide +kernel
theorem dX2_restore_18 : decode cX2_restore 18 = .ok (.iconst 0, 1) := by decide +kernel
theorem dX2_restore_19 : decode cX2_restore 19 = .ok (.iload_n 2, 1) := by decide +kernel
theorem dX2_restore_20 : decode cX2_restore 20 = .ok (.bipush 12, 2) := by decide +kernel
theorem dX2_restore_22 : decode cX2_restore 22 = .ok (.imul, 1) := by decide +kernel
theorem dX2_restore_23 : decode cX2_restore 23 = .ok (.invokestatic 27, 3) := by decide +kernel
theorem dX2_restore_26 : decode cX2_restore 26 = .ok (.aload_n 0, 1) := by decide +kernel
theorem dX2_restore_27 : decode cX2_restore 27 = .ok (.getfield 15, 3) := by decide +kernel
theorem dX2_restore_30 : decode cX2_restore 30 = .ok (.iconst 0, 1) := by decide +kernel
theorem dX2_restore_31 : decode cX2_restore 31 = .ok (.aload_n 1, 1) := by decide +kernel
theorem dX2_restore_32 : decode cX2_restore 32 = .ok (.getfield 33, 3) := by decide +kernel
theorem dX2_restore_35 : decode cX2_restore 35 = .ok (.iconst 0, 1) := by decide +kernel
theorem dX2_restore_36 : decode cX2_restore 36 = .ok (.iload_n 2, 1) := by decide +kernel
theorem dX2_restore_37 : decode cX2_restore 37 = .ok (.bipush 12, 2) := by decide +kernel
theorem dX2_restore_39 : decode cX2_restore 39 = .ok (.imul, 1) := by decide +kernel
theorem dX2_restore_40 : decode cX2_restore 40 = .ok (.invokestatic 27, 3) := by decide +kernel
theorem dX2_restore_43 : decode cX2_restore 43 = .ok (.return_, 1) := by decide +kernel
theorem dX3_isThing_0 : decode cX3_isThing 0 = .ok (.iload_n 0, 1) := by decide +kernel
theorem dX3_isThing_1 : decode cX3_isThing 1 = .ok (.bipush 10, 2) := by decide +kernel
theorem dX3_isThing_3 : decode cX3_isThing 3 = .ok (.if_icmp .ne 5, 3) := by decide +kernel
theorem dX3_isThing_6 : decode cX3_isThing 6 = .ok (.iconst 1, 1) := by decide +kernel
theorem dX3_isThing_7 : decode cX3_isThing 7 = .ok (.ireturn, 1) := by decide +kernel
theorem dX3_isThing_8 : decode cX3_isThing 8 = .ok (.iload_n 0, 1) := by decide +kernel
theorem dX3_isThing_9 : decode cX3_isThing 9 = .ok (.bipush 9, 2) := by decide +kernel
theorem dX3_isThing_11 : decode cX3_isThing 11 = .ok (.if_icmp .ne 23, 3) := by decide +kernel
theorem dX3_isThing_14 : decode cX3_isThing 14 = .ok (.lload_n 1, 1) := by decide +kernel
theorem dX3_isThing_15 : decode cX3_isThing 15 = .ok (.lconst 0, 1) := by decide +kernel
theorem dX3_isThing_16 : decode cX3_isThing 16 = .ok (.lcmp, 1) := by decide +kernel
theorem dX3_isThing_17 : decode cX3_isThing 17 = .ok (.ifCond .lt 15, 3) := by decide +kernel
theorem dX3_isThing_20 : decode cX3_isThing 20 = .ok (.lload_n 1, 1) := by decide +kernel
theorem dX3_isThing_21 : decode cX3_isThing 21 = .ok (.ldc2_w 9, 3) := by decide +kernel
theorem dX3_isThing_24 : decode cX3_isThing 24 = .ok (.lcmp, 1) := by decide +kernel
theorem dX3_isThing_25 : decode cX3_isThing 25 = .ok (.ifCond .gt 7, 3) := by decide +kernel
theorem dX3_isThing_28 : decode cX3_isThing 28 = .ok (.iconst 1, 1) := by decide +kernel
theorem dX3_isThing_29 : decode cX3_isThing 29 = .ok (.goto 4, 3) := by decide +kernel
theorem dX3_isThing_32 : decode cX3_isThing 32 = .ok (.iconst 0, 1) := by decide +kernel
theorem dX3_isThing_33 : decode cX3_isThing 33 = .ok (.ireturn, 1) := by decide +kernel
theorem dX3_isThing_34 : decode cX3_isThing 34 = .ok (.iload_n 0, 1) := by decide +kernel
theorem dX3_isThing_35 : decode cX3_isThing 35 = .ok (.ifCond .lt 33, 3) := by decide +kernel
theorem dX3_isThing_38 : decode cX3_isThing 38 = .ok (.iload_n 0, 1) := by decide +kernel
theorem dX3_isThing_39 : decode cX3_isThing 39 = .ok (.bipush 7, 2) := by decide +kernel
theorem dX3_isThing_41 : decode cX3_isThing 41 = .ok (.if_icmp .gt 27, 3) := by decide +kernel
theorem dX3_isThing_44 : decode cX3_isThing 44 = .ok (.lload_n 1, 1) := by decide +kernel
theorem dX3_isThing_45 : decode cX3_isThing 45 = .ok (.getstatic 11, 3) := by decide +kernel
theorem dX3_isThing_48 : decode cX3_isThing 48 = .ok (.iload_n 0, 1) := by decide +kernel
theorem dX3_isThing_49 : decode cX3_isThing 49 = .ok (.laload, 1) := by decide +kernel
theorem dX3_isThing_50 : decode cX3_isThing 50 = .ok (.lcmp, 1) := by decide +kernel
theorem dX3_isThing_51 : decode cX3_isThing 51 = .ok (.ifCond .lt 17, 3) := by decide +kernel
theorem dX3_isThing_54 : decode cX3_isThing 54 = .ok (.lload_n 1, 1) := by decide +kernel
theorem dX3_isThing_55 : decode cX3_isThing 55 = .ok (.getstatic 17, 3) := by decide +kernel
theorem dX3_isThing_58 : decode cX3_isThing 58 = .ok (.iload_n 0, 1) := by decide +kernel
theorem dX3_isThing_59 : decode cX3_isThing 59 = .ok (.laload, 1) := by decide +kernel
theorem dX3_isThing_60 : decode cX3_isThing 60 = .ok (.lcmp, 1) := by decide +kernel
theorem dX3_isThing_61 : decode cX3_isThing 61 = .ok (.ifCond .gt 7, 3) := by decide +kernel
theorem dX3_isThing_64 : decode cX3_isThing 64 = .ok (.iconst 1, 1) := by decide +kernel
theorem dX3_isThing_65 : decode cX3_isThing 65 = .ok (.goto 4, 3) := by decide +kernel
theorem dX3_isThing_68 : decode cX3_isThing 68 = .ok (.iconst 0, 1) := by decide +kernel
theorem dX3_isThing_69 : decode cX3_isThing 69 = .ok (.ireturn, 1) := by decide +kernel
theorem dX3_rounded_0 : decode cX3_rounded 0 = .ok (.iload_n 2, 1) := by decide +kernel
theorem dX3_rounded_1 : decode cX3_rounded 1 = .ok (.bipush 6, 2) := by decide +kernel
theorem dX3_rounded_3 : decode cX3_rounded 3 = .ok (.if_icmp .eq 11, 3) := by decide +kernel
theorem dX3_rounded_6 : decode cX3_rounded 6 = .ok (.iload_n 2, 1) := by decide +kernel
theorem dX3_rounded_7 : decode cX3_rounded 7 = .ok (.bipush 7, 2) := by decide +kernel
theorem dX3_rounded_9 : decode cX3_rounded 9 = .ok (.if_icmp .eq 5, 3) := by decide +kernel
theorem dX3_rounded_12 : decode cX3_rounded 12 = .ok (.lload_n 0, 1) := by decide +kernel
theorem dX3_rounded_13 : decode cX3_rounded 13 = .ok (.lreturn, 1) := by decide +kernel
theorem dX3_rounded_14 : decode cX3_rounded 14 = .ok (.lload_n 0, 1) := by decide +kernel
theorem dX3_rounded_15 : decode cX3_rounded 15 = .ok (.invokestatic 20, 3) := by decide +kernel
theorem dX3_rounded_18 : decode cX3_rounded 18 = .ok (.lstore_n 3, 1) := by decide +kernel
theorem dX3_rounded_19 : decode cX3_rounded 19 = .ok (.lconst 1, 1) := by decide +kernel
theorem dX3_rounded_20 : decode cX3_rounded 20 = .ok (.iload_n 2, 1) := by decide +kernel
theorem dX3_rounded_21 : decode cX3_rounded 21 = .ok (.bipush 6, 2) := by decide +kernel
theorem dX3_rounded_23 : decode cX3_rounded 23 = .ok (.if_icmp .ne 8, 3) := by decide +kernel
theorem dX3_rounded_26 : decode cX3_rounded 26 = .ok (.bipush 24, 2) := by decide +kernel
theorem dX3_rounded_28 : decode cX3_rounded 28 = .ok (.goto 5, 3) := by decide +kernel
theorem dX3_rounded_31 : decode cX3_rounded 31 = .ok (.bipush 53, 2) := by decide +kernel
theorem dX3_rounded_33 : decode cX3_rounded 33 = .ok (.lshl, 1) := by decide +kernel
theorem dX3_rounded_34 : decode cX3_rounded 34 = .ok (.lstore 5, 2) := by decide +kernel
theorem dX3_rounded_36 : decode cX3_rounded 36 = .ok (.iconst 0, 1) := by decide +kernel
theorem dX3_rounded_37 : decode cX3_rounded 37 = .ok (.istore 7, 2) := by decide +kernel
theorem dX3_rounded_39 : decode cX3_rounded 39 = .ok (.iload 7, 2) := by decide +kernel
theorem dX3_rounded_41 : decode cX3_rounded 41 = .ok (.bipush 63, 2) := by decide +kernel
theorem dX3_rounded_43 : decode cX3_rounded 43 = .ok (.if_icmp .ge 19, 3) := by decide +kernel
theorem dX3_rounded_46 : decode cX3_rounded 46 = .ok (.lload_n 3, 1) := by decide +kernel
theorem dX3_rounded_47 : decode cX3_rounded 47 = .ok (.iload 7, 2) := by decide +kernel
theorem dX3_rounded_49 : decode cX3_rounded 49 = .ok (.lshr, 1) := by decide +kernel
theorem dX3_rounded_50 : decode cX3_rounded 50 = .ok (.lload 5, 2) := by decide +kernel
theorem dX3_rounded_52 : decode cX3_rounded 52 = .ok (.lcmp, 1) := by decide +kernel
theorem dX3_rounded_53 : decode cX3_rounded 53 = .ok (.ifCond .lt 9, 3) := by decide +kernel
theorem dX3_rounded_56 : decode cX3_rounded 56 = .ok (.iinc 7 1, 3) := by decide +kernel
theorem dX3_rounded_59 : decode cX3_rounded 59 = .ok (.goto (-20), 3) := by decide +kernel
theorem dX3_rounded_62 : decode cX3_rounded 62 = .ok (.iload 7, 2) := by decide +kernel
theorem dX3_rounded_64 : decode cX3_rounded 64 = .ok (.ifCond .ne 5, 3) := by decide +kernel
theorem dX3_rounded_67 : decode cX3_rounded 67 = .ok (.lload_n 0, 1) := by decide +kernel
theorem dX3_rounded_68 : decode cX3_rounded 68 = .ok (.lreturn, 1) := by decide +kernel
theorem dX3_rounded_69 : decode cX3_rounded 69 = .ok (.lconst 1, 1) := by decide +kernel
theorem dX3_rounded_70 : decode cX3_rounded 70 = .ok (.iload 7, 2) := by decide +kernel
theorem dX3_rounded_72 : decode cX3_rounded 72 = .ok (.lshl, 1) := by decide +kernel
theorem dX3_rounded_73 : decode cX3_rounded 73 = .ok (.lstore 8, 2) := by decide +kernel
theorem dX3_rounded_75 : decode cX3_rounded 75 = .ok (.lload_n 3, 1) := by decide +kernel
theorem dX3_rounded_76 : decode cX3_rounded 76 = .ok (.lload 8, 2) := by decide +kernel
theorem dX3_rounded_78 : decode cX3_rounded 78 = .ok (.lconst 1, 1) := by decide +kernel
theorem dX3_rounded_79 : decode cX3_rounded 79 = .ok (.lsub, 1) := by decide +kernel
theorem dX3_rounded_80 : decode cX3_rounded 80 = .ok (.land, 1) := by decide +kernel
theorem dX3_rounded_81 : decode cX3_rounded 81 = .ok (.lstore 10, 2) := by decide +kernel
theorem dX3_rounded_83 : decode cX3_rounded 83 = .ok (.lload_n 3, 1) := by decide +kernel
theorem dX3_rounded_84 : decode cX3_rounded 84 = .ok (.lload 10, 2) := by decide +kernel
theorem dX3_rounded_86 : decode cX3_rounded 86 = .ok (.lsub, 1) := by decide +kernel
theorem dX3_rounded_87 : decode cX3_rounded 87 = .ok (.lstore 12, 2) := by decide +kernel
theorem dX3_rounded_89 : decode cX3_rounded 89 = .ok (.lload 8, 2) := by decide +kernel
theorem dX3_rounded_91 : decode cX3_rounded 91 = .ok (.iconst 1, 1) := by decide +kernel
theorem dX3_rounded_92 : decode cX3_rounded 92 = .ok (.lshr, 1) := by decide +kernel
theorem dX3_rounded_93 : decode cX3_rounded 93 = .ok (.lstore 14, 2) := by decide +kernel
theorem dX3_rounded_95 : decode cX3_rounded 95 = .ok (.lload 10, 2) := by decide +kernel
theorem dX3_rounded_97 : decode cX3_rounded 97 = .ok (.lload 14, 2) := by decide +kernel
theorem dX3_rounded_99 : decode cX3_rounded 99 = .ok (.lcmp, 1) := by decide +kernel
theorem dX3_rounded_100 : decode cX3_rounded 100 = .ok (.ifCond .gt 21, 3) := by decide +kernel
theorem dX3_rounded_103 : decode cX3_rounded 103 = .ok (.lload 10, 2) := by decide +kernel
theorem dX3_rounded_105 : decode cX3_rounded 105 = .ok (.lload 14, 2) := by decide +kernel
theorem dX3_rounded_107 : decode cX3_rounded 107 = .ok (.lcmp, 1) := by decide +kernel
theorem dX3_rounded_108 : decode cX3_rounded 108 = .ok (.ifCond .ne 20, 3) := by decide +kernel
theorem dX3_rounded_111 : decode cX3_rounded 111 = .ok (.lload 12, 2) := by decide +kernel
theorem dX3_rounded_113 : decode cX3_rounded 113 = .ok (.lload 8, 2) := by decide +kernel
theorem dX3_rounded_115 : decode cX3_rounded 115 = .ok (.land, 1) := by decide +kernel
theorem dX3_rounded_116 : decode cX3_rounded 116 = .ok (.lconst 0, 1) := by decide +kernel
theorem dX3_rounded_117 : decode cX3_rounded 117 = .ok (.lcmp, 1) := by decide +kernel
theorem dX3_rounded_118 : decode cX3_rounded 118 = .ok (.ifCond .eq 10, 3) := by decide +kernel
theorem dX3_rounded_121 : decode cX3_rounded 121 = .ok (.lload 12, 2) := by decide +kernel
theorem dX3_rounded_123 : decode cX3_rounded 123 = .ok (.lload 8, 2) := by decide +kernel
theorem dX3_rounded_125 : decode cX3_rounded 125 = .ok (.ladd, 1) := by decide +kernel
theorem dX3_rounded_126 : decode cX3_rounded 126 = .ok (.lstore 12, 2) := by decide +kernel
theorem dX3_rounded_128 : decode cX3_rounded 128 = .ok (.lload_n 0, 1) := by decide +kernel
theorem dX3_rounded_129 : decode cX3_rounded 129 = .ok (.lconst 0, 1) := by decide +kernel
theorem dX3_rounded_130 : decode cX3_rounded 130 = .ok (.lcmp, 1) := by decide +kernel
theorem dX3_rounded_131 : decode cX3_rounded 131 = .ok (.ifCond .ge 9, 3) := by decide +kernel
theorem dX3_rounded_134 : decode cX3_rounded 134 = .ok (.lload 12, 2) := by decide +kernel
theorem dX3_rounded_136 : decode cX3_rounded 136 = .ok (.lneg, 1) := by decide +kernel
theorem dX3_rounded_137 : decode cX3_rounded 137 = .ok (.goto 5, 3) := by decide +kernel
theorem dX3_rounded_140 : decode cX3_rounded 140 = .ok (.lload 12, 2) := by decide +kernel
theorem dX3_rounded_142 : decode cX3_rounded 142 = .ok (.lreturn, 1) := by decide +kernel
theorem dX3_taken_0 : decode cX3_taken 0 = .ok (.iload_n 0, 1) := by decide +kernel
theorem dX3_taken_1 : decode cX3_taken 1 = .ok (.bipush 11, 2) := by decide +kernel
theorem dX3_taken_3 : decode cX3_taken 3 = .ok (.if_icmp .ne 6, 3) := by decide +kernel
theorem dX3_taken_6 : decode cX3_taken 6 = .ok (.bipush (-5), 2) := by decide +kernel
theorem dX3_taken_8 : decode cX3_taken 8 = .ok (.ireturn, 1) := by decide +kernel
theorem dX3_taken_9 : decode cX3_taken 9 = .ok (.iload_n 0, 1) := by decide +kernel
theorem dX3_taken_10 : decode cX3_taken 10 = .ok (.bipush 12, 2) := by decide +kernel
theorem dX3_taken_12 : decode cX3_taken 12 = .ok (.if_icmp .ne 6, 3) := by decide +kernel
theorem dX3_taken_15 : decode cX3_taken 15 = .ok (.bipush (-6), 2) := by decide +kernel
theorem dX3_taken_17 : decode cX3_taken 17 = .ok (.ireturn, 1) := by decide +kernel
theorem dX3_taken_18 : decode cX3_taken 18 = .ok (.iload_n 1, 1) := by decide +kernel
theorem dX3_taken_19 : decode cX3_taken 19 = .ok (.bipush 8, 2) := by decide +kernel
theorem dX3_taken_21 : decode cX3_taken 21 = .ok (.if_icmp .ne 5, 3) := by decide +kernel
theorem dX3_taken_24 : decode cX3_taken 24 = .ok (.iconst 0, 1) := by decide +kernel
theorem dX3_taken_25 : decode cX3_taken 25 = .ok (.ireturn, 1) := by decide +kernel
theorem dX3_taken_26 : decode cX3_taken 26 = .ok (.iload_n 0, 1) := by decide +kernel
theorem dX3_taken_27 : decode cX3_taken 27 = .ok (.bipush 7, 2) := by decide +kernel
theorem dX3_taken_29 : decode cX3_taken 29 = .ok (.if_icmp .gt 20, 3) := by decide +kernel
theorem dX3_taken_32 : decode cX3_taken 32 = .ok (.getstatic 26, 3) := by decide +kernel
theorem dX3_taken_35 : decode cX3_taken 35 = .ok (.iload_n 0, 1) := by decide +kernel
theorem dX3_taken_36 : decode cX3_taken 36 = .ok (.iaload, 1) := by decide +kernel
theorem dX3_taken_37 : decode cX3_taken 37 = .ok (.iload_n 1, 1) := by decide +kernel
theorem dX3_taken_38 : decode cX3_taken 38 = .ok (.ishr, 1) := by decide +kernel
theorem dX3_taken_39 : decode cX3_taken 39 = .ok (.iconst 1, 1) := by decide +kernel
theorem dX3_taken_40 : decode cX3_taken 40 = .ok (.iand, 1) := by decide +kernel
theorem dX3_taken_41 : decode cX3_taken 41 = .ok (.iconst 1, 1) := by decide +kernel
theorem dX3_taken_42 : decode cX3_taken 42 = .ok (.if_icmp .ne 7, 3) := by decide +kernel
theorem dX3_taken_45 : decode cX3_taken 45 = .ok (.iconst 0, 1) := by decide +kernel
theorem dX3_taken_46 : decode cX3_taken 46 = .ok (.goto 5, 3) := by decide +kernel
theorem dX3_taken_49 : decode cX3_taken 49 = .ok (.bipush (-7), 2) := by decide +kernel
theorem dX3_taken_51 : decode cX3_taken 51 = .ok (.ireturn, 1) := by decide +kernel
theorem dX3_handed_0 : decode cX3_handed 0 = .ok (.iload_n 2, 1) := by decide +kernel
theorem dX3_handed_1 : decode cX3_handed 1 = .ok (.bipush 11, 2) := by decide +kernel
theorem dX3_handed_3 : decode cX3_handed 3 = .ok (.if_icmp .ne 6, 3) := by decide +kernel
theorem dX3_handed_6 : decode cX3_handed 6 = .ok (.bipush (-5), 2) := by decide +kernel
theorem dX3_handed_8 : decode cX3_handed 8 = .ok (.ireturn, 1) := by decide +kernel
theorem dX3_handed_9 : decode cX3_handed 9 = .ok (.iload_n 2, 1) := by decide +kernel
theorem dX3_handed_10 : decode cX3_handed 10 = .ok (.bipush 12, 2) := by decide +kernel
theorem dX3_handed_12 : decode cX3_handed 12 = .ok (.if_icmp .ne 6, 3) := by decide +kernel
theorem dX3_handed_15 : decode cX3_handed 15 = .ok (.bipush (-6), 2) := by decide +kernel
theorem dX3_handed_17 : decode cX3_handed 17 = .ok (.ireturn, 1) := by decide +kernel
theorem dX3_handed_18 : decode cX3_handed 18 = .ok (.iload_n 1, 1) := by decide +kernel
theorem dX3_handed_19 : decode cX3_handed 19 = .ok (.bipush 8, 2) := by decide +kernel
theorem dX3_handed_21 : decode cX3_handed 21 = .ok (.if_icmp .eq 12, 3) := by decide +kernel
theorem dX3_handed_24 : decode cX3_handed 24 = .ok (.iload_n 2, 1) := by decide +kernel
theorem dX3_handed_25 : decode cX3_handed 25 = .ok (.bipush 7, 2) := by decide +kernel
theorem dX3_handed_27 : decode cX3_handed 27 = .ok (.if_icmp .le 6, 3) := by decide +kernel
theorem dX3_handed_30 : decode cX3_handed 30 = .ok (.bipush (-7), 2) := by decide +kernel
theorem dX3_handed_32 : decode cX3_handed 32 = .ok (.ireturn, 1) := by decide +kernel
theorem dX3_handed_33 : decode cX3_handed 33 = .ok (.iload_n 2, 1) := by decide +kernel
theorem dX3_handed_34 : decode cX3_handed 34 = .ok (.bipush 8, 2) := by decide +kernel
theorem dX3_handed_36 : decode cX3_handed 36 = .ok (.if_icmp .ne 5, 3) := by decide +kernel
theorem dX3_handed_39 : decode cX3_handed 39 = .ok (.iconst 0, 1) := by decide +kernel
theorem dX3_handed_40 : decode cX3_handed 40 = .ok (.ireturn, 1) := by decide +kernel
theorem dX3_handed_41 : decode cX3_handed 41 = .ok (.iload_n 2, 1) := by decide +kernel
theorem dX3_handed_42 : decode cX3_handed 42 = .ok (.bipush 9, 2) := by decide +kernel
theorem dX3_handed_44 : decode cX3_handed 44 = .ok (.if_icmp .ne 22, 3) := by decide +kernel
theorem dX3_handed_47 : decode cX3_handed 47 = .ok (.iload_n 0, 1) := by decide +kernel
theorem dX3_handed_48 : decode cX3_handed 48 = .ok (.bipush 9, 2) := by decide +kernel
theorem dX3_handed_50 : decode cX3_handed 50 = .ok (.if_icmp .eq 9, 3) := by decide +kernel
theorem dX3_handed_53 : decode cX3_handed 53 = .ok (.iload_n 0, 1) := by decide +kernel
theorem dX3_handed_54 : decode cX3_handed 54 = .ok (.bipush 10, 2) := by decide +kernel
theorem dX3_handed_56 : decode cX3_handed 56 = .ok (.if_icmp .ne 7, 3) := by decide +kernel
theorem dX3_handed_59 : decode cX3_handed 59 = .ok (.iconst 0, 1) := by decide +kernel
theorem dX3_handed_60 : decode cX3_handed 60 = .ok (.goto 5, 3) := by decide +kernel
theorem dX3_handed_63 : decode cX3_handed 63 = .ok (.bipush (-7), 2) := by decide +kernel
theorem dX3_handed_65 : decode cX3_handed 65 = .ok (.ireturn, 1) := by decide +kernel
theorem dX3_handed_66 : decode cX3_handed 66 = .ok (.iload_n 2, 1) := by decide +kernel
theorem dX3_handed_67 : decode cX3_handed 67 = .ok (.bipush 10, 2) := by decide +kernel
theorem dX3_handed_69 : decode cX3_handed 69 = .ok (.if_icmp .ne 21, 3) := by decide +kernel
theorem dX3_handed_72 : decode cX3_handed 72 = .ok (.iload_n 0, 1) := by decide +kernel
theorem dX3_handed_73 : decode cX3_handed 73 = .ok (.iconst 4, 1) := by decide +kernel
theorem dX3_handed_74 : decode cX3_handed 74 = .ok (.if_icmp .eq 9, 3) := by decide +kernel
theorem dX3_handed_77 : decode cX3_handed 77 = .ok (.iload_n 0, 1) := by decide +kernel
theorem dX3_handed_78 : decode cX3_handed 78 = .ok (.bipush 10, 2) := by decide +kernel
theorem dX3_handed_80 : decode cX3_handed 80 = .ok (.if_icmp .ne 7, 3) := by decide +kernel
theorem dX3_handed_83 : decode cX3_handed 83 = .ok (.iconst 0, 1) := by decide +kernel
theorem dX3_handed_84 : decode cX3_handed 84 = .ok (.goto 5, 3) := by decide +kernel
theorem dX3_handed_87 : decode cX3_handed 87 = .ok (.bipush (-7), 2) := by decide +kernel
theorem dX3_handed_89 : decode cX3_handed 89 = .ok (.ireturn, 1) := by decide +kernel
theorem dX3_handed_90 : decode cX3_handed 90 = .ok (.iload_n 0, 1) := by decide +kernel
theorem dX3_handed_91 : decode cX3_handed 91 = .ok (.bipush 10, 2) := by decide +kernel
theorem dX3_handed_93 : decode cX3_handed 93 = .ok (.if_icmp .ne 6, 3) := by decide +kernel
theorem dX3_handed_96 : decode cX3_handed 96 = .ok (.bipush (-9), 2) := by decide +kernel
theorem dX3_handed_98 : decode cX3_handed 98 = .ok (.ireturn, 1) := by decide +kernel
theorem dX3_handed_99 : decode cX3_handed 99 = .ok (.iload_n 0, 1) := by decide +kernel
theorem dX3_handed_100 : decode cX3_handed 100 = .ok (.bipush 7, 2) := by decide +kernel
theorem dX3_handed_102 : decode cX3_handed 102 = .ok (.if_icmp .gt 20, 3) := by decide +kernel
theorem dX3_handed_105 : decode cX3_handed 105 = .ok (.getstatic 26, 3) := by decide +kernel
theorem dX3_handed_108 : decode cX3_handed 108 = .ok (.iload_n 0, 1) := by decide +kernel
theorem dX3_handed_109 : decode cX3_handed 109 = .ok (.iaload, 1) := by decide +kernel
theorem dX3_handed_110 : decode cX3_handed 110 = .ok (.iload_n 2, 1) := by decide +kernel
theorem dX3_handed_111 : decode cX3_handed 111 = .ok (.ishr, 1) := by decide +kernel
theorem dX3_handed_112 : decode cX3_handed 112 = .ok (.iconst 1, 1) := by decide +kernel
theorem dX3_handed_113 : decode cX3_handed 113 = .ok (.iand, 1) := by decide +kernel
theorem dX3_handed_114 : decode cX3_handed 114 = .ok (.iconst 1, 1) := by decide +kernel
theorem dX3_handed_115 : decode cX3_handed 115 = .ok (.if_icmp .ne 7, 3) := by decide +kernel
theorem dX3_handed_118 : decode cX3_handed 118 = .ok (.iconst 0, 1) := by decide +kernel
theorem dX3_handed_119 : decode cX3_handed 119 = .ok (.goto 5, 3) := by decide +kernel
theorem dX3_handed_122 : decode cX3_handed 122 = .ok (.bipush (-7), 2) := by decide +kernel
theorem dX3_handed_124 : decode cX3_handed 124 = .ok (.ireturn, 1) := by decide +kernel
theorem dX3_joined_0 : decode cX3_joined 0 = .ok (.iload_n 0, 1) := by decide +kernel
theorem dX3_joined_1 : decode cX3_joined 1 = .ok (.bipush 7, 2) := by decide +kernel
theorem dX3_joined_3 : decode cX3_joined 3 = .ok (.if_icmp .gt 9, 3) := by decide +kernel
theorem dX3_joined_6 : decode cX3_joined 6 = .ok (.iload_n 1, 1) := by decide +kernel
theorem dX3_joined_7 : decode cX3_joined 7 = .ok (.bipush 7, 2) := by decide +kernel
theorem dX3_joined_9 : decode cX3_joined 9 = .ok (.if_icmp .le 6, 3) := by decide +kernel
theorem dX3_joined_12 : decode cX3_joined 12 = .ok (.bipush (-20), 2) := by decide +kernel
theorem dX3_joined_14 : decode cX3_joined 14 = .ok (.ireturn, 1) := by decide +kernel
theorem dX3_joined_15 : decode cX3_joined 15 = .ok (.getstatic 26, 3) := by decide +kernel
theorem dX3_joined_18 : decode cX3_joined 18 = .ok (.iload_n 0, 1) := by decide +kernel
theorem dX3_joined_19 : decode cX3_joined 19 = .ok (.iaload, 1) := by decide +kernel
theorem dX3_joined_20 : decode cX3_joined 20 = .ok (.getstatic 26, 3) := by decide +kernel
theorem dX3_joined_23 : decode cX3_joined 23 = .ok (.iload_n 1, 1) := by decide +kernel
theorem dX3_joined_24 : decode cX3_joined 24 = .ok (.iaload, 1) := by decide +kernel
theorem dX3_joined_25 : decode cX3_joined 25 = .ok (.iand, 1) := by decide +kernel
theorem dX3_joined_26 : decode cX3_joined 26 = .ok (.istore_n 2, 1) := by decide +kernel
theorem dX3_joined_27 : decode cX3_joined 27 = .ok (.iconst 0, 1) := by decide +kernel
theorem dX3_joined_28 : decode cX3_joined 28 = .ok (.istore_n 3, 1) := by decide +kernel
theorem dX3_joined_29 : decode cX3_joined 29 = .ok (.iload_n 3, 1) := by decide +kernel
theorem dX3_joined_30 : decode cX3_joined 30 = .ok (.bipush 7, 2) := by decide +kernel
theorem dX3_joined_32 : decode cX3_joined 32 = .ok (.if_icmp .gt 31, 3) := by decide +kernel
theorem dX3_joined_35 : decode cX3_joined 35 = .ok (.iload_n 2, 1) := by decide +kernel
theorem dX3_joined_36 : decode cX3_joined 36 = .ok (.iload_n 3, 1) := by decide +kernel
theorem dX3_joined_37 : decode cX3_joined 37 = .ok (.ishr, 1) := by decide +kernel
theorem dX3_joined_38 : decode cX3_joined 38 = .ok (.iconst 1, 1) := by decide +kernel
theorem dX3_joined_39 : decode cX3_joined 39 = .ok (.iand, 1) := by decide +kernel
theorem dX3_joined_40 : decode cX3_joined 40 = .ok (.iconst 1, 1) := by decide +kernel
theorem dX3_joined_41 : decode cX3_joined 41 = .ok (.if_icmp .ne 16, 3) := by decide +kernel
theorem dX3_joined_44 : decode cX3_joined 44 = .ok (.getstatic 26, 3) := by decide +kernel
theorem dX3_joined_47 : decode cX3_joined 47 = .ok (.iload_n 3, 1) := by decide +kernel
theorem dX3_joined_48 : decode cX3_joined 48 = .ok (.iaload, 1) := by decide +kernel
theorem dX3_joined_49 : decode cX3_joined 49 = .ok (.iload_n 2, 1) := by decide +kernel
theorem dX3_joined_50 : decode cX3_joined 50 = .ok (.iand, 1) := by decide +kernel
theorem dX3_joined_51 : decode cX3_joined 51 = .ok (.iload_n 2, 1) := by decide +kernel
theorem dX3_joined_52 : decode cX3_joined 52 = .ok (.if_icmp .ne 5, 3) := by decide +kernel
theorem dX3_joined_55 : decode cX3_joined 55 = .ok (.iload_n 3, 1) := by decide +kernel
theorem dX3_joined_56 : decode cX3_joined 56 = .ok (.ireturn, 1) := by decide +kernel
theorem dX3_joined_57 : decode cX3_joined 57 = .ok (.iinc 3 1, 3) := by decide +kernel
theorem dX3_joined_60 : decode cX3_joined 60 = .ok (.goto (-31), 3) := by decide +kernel
theorem dX3_joined_63 : decode cX3_joined 63 = .ok (.bipush (-20), 2) := by decide +kernel
theorem dX3_joined_65 : decode cX3_joined 65 = .ok (.ireturn, 1) := by decide +kernel
theorem dX4_init_0 : decode cX4_init 0 = .ok (.aload_n 0, 1) := by decide +kernel
theorem dX4_init_1 : decode cX4_init 1 = .ok (.invokespecial 3, 3) := by decide +kernel
theorem dX4_init_4 : decode cX4_init 4 = .ok (.aload_n 0, 1) := by decide +kernel
theorem dX4_init_5 : decode cX4_init 5 = .ok (.bipush 80, 2) := by decide +kernel
theorem dX4_init_7 : decode cX4_init 7 = .ok (.newarray .int, 2) := by decide +kernel
theorem dX4_init_9 : decode cX4_init 9 = .ok (.putfield 11, 3) := by decide +kernel
theorem dX4_init_12 : decode cX4_init 12 = .ok (.aload_n 0, 1) := by decide +kernel
theorem dX4_init_13 : decode cX4_init 13 = .ok (.bipush 80, 2) := by decide +kernel
theorem dX4_init_15 : decode cX4_init 15 = .ok (.newarray .int, 2) := by decide +kernel
theorem dX4_init_17 : decode cX4_init 17 = .ok (.putfield 15, 3) := by decide +kernel
theorem dX4_init_20 : decode cX4_init 20 = .ok (.return_, 1) := by decide +kernel
theorem dX4_empty_0 : decode cX4_empty 0 = .ok (.aload_n 0, 1) := by decide +kernel
theorem dX4_empty_1 : decode cX4_empty 1 = .ok (.iconst 0, 1) := by decide +kernel
theorem dX4_empty_2 : decode cX4_empty 2 = .ok (.putfield 18, 3) := by decide +kernel
theorem dX4_empty_5 : decode cX4_empty 5 = .ok (.aload_n 0, 1) := by decide +kernel
theorem dX4_empty_6 : decode cX4_empty 6 = .ok (.iconst 0, 1) := by decide +kernel
theorem dX4_empty_7 : decode cX4_empty 7 = .ok (.putfield 22, 3) := by decide +kernel
theorem dX4_empty_10 : decode cX4_empty 10 = .ok (.return_, 1) := by decide +kernel
theorem dX4_has_0 : decode cX4_has 0 = .ok (.iload_n 1, 1) := by decide +kernel
theorem dX4_has_1 : decode cX4_has 1 = .ok (.ifCond .lt 15, 3) := by decide +kernel
theorem dX4_has_4 : decode cX4_has 4 = .ok (.iload_n 1, 1) := by decide +kernel
theorem dX4_has_5 : decode cX4_has 5 = .ok (.aload_n 0, 1) := by decide +kernel
theorem dX4_has_6 : decode cX4_has 6 = .ok (.getfield 18, 3) := by decide +kernel
theorem dX4_has_9 : decode cX4_has 9 = .ok (.if_icmp .ge 7, 3) := by decide +kernel
theorem dX4_has_12 : decode cX4_has 12 = .ok (.iconst 1, 1) := by decide +kernel
theorem dX4_has_13 : decode cX4_has 13 = .ok (.goto 4, 3) := by decide +kernel
theorem dX4_has_16 : decode cX4_has 16 = .ok (.iconst 0, 1) := by decide +kernel
theorem dX4_has_17 : decode cX4_has 17 = .ok (.ireturn, 1) := by decide +kernel
theorem dX4_part_0 : decode cX4_part 0 = .ok (.aload_n 0, 1) := by decide +kernel
theorem dX4_part_1 : decode cX4_part 1 = .ok (.getfield 11, 3) := by decide +kernel
theorem dX4_part_4 : decode cX4_part 4 = .ok (.iload_n 1, 1) := by decide +kernel
theorem dX4_part_5 : decode cX4_part 5 = .ok (.iconst 5, 1) := by decide +kernel
theorem dX4_part_6 : decode cX4_part 6 = .ok (.imul, 1) := by decide +kernel
theorem dX4_part_7 : decode cX4_part 7 = .ok (.iload_n 2, 1) := by decide +kernel
theorem dX4_part_8 : decode cX4_part 8 = .ok (.iadd, 1) := by decide +kernel
theorem dX4_part_9 : decode cX4_part 9 = .ok (.iaload, 1) := by decide +kernel
theorem dX4_part_10 : decode cX4_part 10 = .ok (.ireturn, 1) := by decide +kernel
theorem dX4_append_0 : decode cX4_append 0 = .ok (.aload_n 0, 1) := by decide +kernel
theorem dX4_append_1 : decode cX4_append 1 = .ok (.getfield 18, 3) := by decide +kernel
theorem dX4_append_4 : decode cX4_append 4 = .ok (.iconst 5, 1) := by decide +kernel
theorem dX4_append_5 : decode cX4_append 5 = .ok (.imul, 1) := by decide +kernel
theorem dX4_append_6 : decode cX4_append 6 = .ok (.istore 6, 2) := by decide +kernel
theorem dX4_append_8 : decode cX4_append 8 = .ok (.aload_n 0, 1) := by decide +kernel
theorem dX4_append_9 : decode cX4_append 9 = .ok (.getfield 11, 3) := by decide +kernel
theorem dX4_append_12 : decode cX4_append 12 = .ok (.iload 6, 2) := by decide +kernel
theorem dX4_append_14 : decode cX4_append 14 = .ok (.iconst 0, 1) := by decide +kernel
theorem dX4_append_15 : decode cX4_append 15 = .ok (.iadd, 1) := by decide +kernel
theorem dX4_append_16 : decode cX4_append 16 = .ok (.iload_n 1, 1) := by decide +kernel
theorem dX4_append_17 : decode cX4_append 17 = .ok (.iastore, 1) := by decide +kernel
theorem dX4_append_18 : decode cX4_append 18 = .ok (.aload_n 0, 1) := by decide +kernel
theorem dX4_append_19 : decode cX4_append 19 = .ok (.getfield 11, 3) := by decide +kernel
theorem dX4_append_22 : decode cX4_append 22 = .ok (.iload 6, 2) := by decide +kernel
theorem dX4_append_24 : decode cX4_append 24 = .ok (.iconst 1, 1) := by decide +kernel
theorem dX4_append_25 : decode cX4_append 25 = .ok (.iadd, 1) := by decide +kernel
theorem dX4_append_26 : decode cX4_append 26 = .ok (.iload_n 2, 1) := by decide +kernel
theorem dX4_append_27 : decode cX4_append 27 = .ok (.iastore, 1) := by decide +kernel
theorem dX4_append_28 : decode cX4_append 28 = .ok (.aload_n 0, 1) := by decide +kernel
theorem dX4_append_29 : decode cX4_append 29 = .ok (.getfield 11, 3) := by decide +kernel
theorem dX4_append_32 : decode cX4_append 32 = .ok (.iload 6, 2) := by decide +kernel
theorem dX4_append_34 : decode cX4_append 34 = .ok (.iconst 2, 1) := by decide +kernel
theorem dX4_append_35 : decode cX4_append 35 = .ok (.iadd, 1) := by decide +kernel
theorem dX4_append_36 : decode cX4_append 36 = .ok (.iload_n 3, 1) := by decide +kernel
theorem dX4_append_37 : decode cX4_append 37 = .ok (.iastore, 1) := by decide +kernel
theorem dX4_append_38 : decode cX4_append 38 = .ok (.aload_n 0, 1) := by decide +kernel
theorem dX4_append_39 : decode cX4_append 39 = .ok (.getfield 11, 3) := by decide +kernel
theorem dX4_append_42 : decode cX4_append 42 = .ok (.iload 6, 2) := by decide +kernel
theorem dX4_append_44 : decode cX4_append 44 = .ok (.iconst 3, 1) := by decide +kernel
theorem dX4_append_45 : decode cX4_append 45 = .ok (.iadd, 1) := by decide +kernel
theorem dX4_append_46 : decode cX4_append 46 = .ok (.iload 4, 2) := by decide +kernel
theorem dX4_append_48 : decode cX4_append 48 = .ok (.iastore, 1) := by decide +kernel
theorem dX4_append_49 : decode cX4_append 49 = .ok (.aload_n 0, 1) := by decide +kernel
theorem dX4_append_50 : decode cX4_append 50 = .ok (.getfield 11, 3) := by decide +kernel
theorem dX4_append_53 : decode cX4_append 53 = .ok (.iload 6, 2) := by decide +kernel
theorem dX4_append_55 : decode cX4_append 55 = .ok (.iconst 4, 1) := by decide +kernel
theorem dX4_append_56 : decode cX4_append 56 = .ok (.iadd, 1) := by decide +kernel
theorem dX4_append_57 : decode cX4_append 57 = .ok (.iload 5, 2) := by decide +kernel
theorem dX4_append_59 : decode cX4_append 59 = .ok (.iastore, 1) := by decide +kernel
theorem dX4_append_60 : decode cX4_append 60 = .ok (.aload_n 0, 1) := by decide +kernel
theorem dX4_append_61 : decode cX4_append 61 = .ok (.dup, 1) := by decide +kernel
theorem dX4_append_62 : decode cX4_append 62 = .ok (.getfield 18, 3) := by decide +kernel
theorem dX4_append_65 : decode cX4_append 65 = .ok (.iconst 1, 1) := by decide +kernel
theorem dX4_append_66 : decode cX4_append 66 = .ok (.iadd, 1) := by decide +kernel
theorem dX4_append_67 : decode cX4_append 67 = .ok (.putfield 18, 3) := by decide +kernel
theorem dX4_append_70 : decode cX4_append 70 = .ok (.aload_n 0, 1) := by decide +kernel
theorem dX4_append_71 : decode cX4_append 71 = .ok (.dup, 1) := by decide +kernel
theorem dX4_append_72 : decode cX4_append 72 = .ok (.getfield 22, 3) := by decide +kernel
theorem dX4_append_75 : decode cX4_append 75 = .ok (.iload_n 1, 1) := by decide +kernel
theorem dX4_append_76 : decode cX4_append 76 = .ok (.invokestatic 25, 3) := by decide +kernel
theorem dX4_append_79 : decode cX4_append 79 = .ok (.iadd, 1) := by decide +kernel
theorem dX4_append_80 : decode cX4_append 80 = .ok (.putfield 22, 3) := by decide +kernel
theorem dX4_append_83 : decode cX4_append 83 = .ok (.aload_n 0, 1) := by decide +kernel
theorem dX4_append_84 : decode cX4_append 84 = .ok (.getfield 18, 3) := by decide +kernel
theorem dX4_append_87 : decode cX4_append 87 = .ok (.ireturn, 1) := by decide +kernel
theorem dX4_dropLast_0 : decode cX4_dropLast 0 = .ok (.aload_n 0, 1) := by decide +kernel
theorem dX4_dropLast_1 : decode cX4_dropLast 1 = .ok (.dup, 1) := by decide +kernel
theorem dX4_dropLast_2 : decode cX4_dropLast 2 = .ok (.getfield 18, 3) := by decide +kernel
theorem dX4_dropLast_5 : decode cX4_dropLast 5 = .ok (.iconst 1, 1) := by decide +kernel
theorem dX4_dropLast_6 : decode cX4_dropLast 6 = .ok (.isub, 1) := by decide +kernel
theorem dX4_dropLast_7 : decode cX4_dropLast 7 = .ok (.putfield 18, 3) := by decide +kernel
theorem dX4_dropLast_10 : decode cX4_dropLast 10 = .ok (.aload_n 0, 1) := by decide +kernel
theorem dX4_dropLast_11 : decode cX4_dropLast 11 = .ok (.dup, 1) := by decide +kernel
theorem dX4_dropLast_12 : decode cX4_dropLast 12 = .ok (.getfield 22, 3) := by decide +kernel
theorem dX4_dropLast_15 : decode cX4_dropLast 15 = .ok (.aload_n 0, 1) := by decide +kernel
theorem dX4_dropLast_16 : decode cX4_dropLast 16 = .ok (.aload_n 0, 1) := by decide +kernel
theorem dX4_dropLast_17 : decode cX4_dropLast 17 = .ok (.getfield 18, 3) := by decide +kernel
theorem dX4_dropLast_20 : decode cX4_dropLast 20 = .ok (.iconst 0, 1) := by decide +kernel
theorem dX4_dropLast_21 : decode cX4_dropLast 21 = .ok (.invokevirtual 29, 3) := by decide +kernel
theorem dX4_dropLast_24 : decode cX4_dropLast 24 = .ok (.invokestatic 25, 3) := by decide +kernel
theorem dX4_dropLast_27 : decode cX4_dropLast 27 = .ok (.isub, 1) := by decide +kernel
theorem dX4_dropLast_28 : decode cX4_dropLast 28 = .ok (.putfield 22, 3) := by decide +kernel
theorem dX4_dropLast_31 : decode cX4_dropLast 31 = .ok (.aload_n 0, 1) := by decide +kernel
theorem dX4_dropLast_32 : decode cX4_dropLast 32 = .ok (.getfield 18, 3) := by decide +kernel
theorem dX4_dropLast_35 : decode cX4_dropLast 35 = .ok (.ireturn, 1) := by decide +kernel
theorem dX4_opens_0 : decode cX4_opens 0 = .ok (.iload_n 0, 1) := by decide +kernel
theorem dX4_opens_1 : decode cX4_opens 1 = .ok (.iconst 5, 1) := by decide +kernel
theorem dX4_opens_2 : decode cX4_opens 2 = .ok (.if_icmp .ne 7, 3) := by decide +kernel
theorem dX4_opens_5 : decode cX4_opens 5 = .ok (.iconst 1, 1) := by decide +kernel
theorem dX4_opens_6 : decode cX4_opens 6 = .ok (.goto 14, 3) := by decide +kernel
theorem dX4_opens_9 : decode cX4_opens 9 = .ok (.iload_n 0, 1) := by decide +kernel
theorem dX4_opens_10 : decode cX4_opens 10 = .ok (.bipush 6, 2) := by decide +kernel
theorem dX4_opens_12 : decode cX4_opens 12 = .ok (.if_icmp .ne 7, 3) := by decide +kernel
theorem dX4_opens_15 : decode cX4_opens 15 = .ok (.iconst (-1), 1) := by decide +kernel
theorem dX4_opens_16 : decode cX4_opens 16 = .ok (.goto 4, 3) := by decide +kernel
theorem dX4_opens_19 : decode cX4_opens 19 = .ok (.iconst 0, 1) := by decide +kernel
theorem dX4_opens_20 : decode cX4_opens 20 = .ok (.ireturn, 1) := by decide +kernel
theorem dX4_endOf_0 : decode cX4_endOf 0 = .ok (.iconst 0, 1) := by decide +kernel
theorem dX4_endOf_1 : decode cX4_endOf 1 = .ok (.istore_n 2, 1) := by decide +kernel
theorem dX4_endOf_2 : decode cX4_endOf 2 = .ok (.iload_n 1, 1) := by decide +kernel
theorem dX4_endOf_3 : decode cX4_endOf 3 = .ok (.istore_n 3, 1) := by decide +kernel
theorem dX4_endOf_4 : decode cX4_endOf 4 = .ok (.iload_n 3, 1) := by decide +kernel
theorem dX4_endOf_5 : decode cX4_endOf 5 = .ok (.aload_n 0, 1) := by decide +kernel
theorem dX4_endOf_6 : decode cX4_endOf 6 = .ok (.getfield 18, 3) := by decide +kernel
theorem dX4_endOf_9 : decode cX4_endOf 9 = .ok (.if_icmp .ge 27, 3) := by decide +kernel
theorem dX4_endOf_12 : decode cX4_endOf 12 = .ok (.iload_n 2, 1) := by decide +kernel
theorem dX4_endOf_13 : decode cX4_endOf 13 = .ok (.aload_n 0, 1) := by decide +kernel
theorem dX4_endOf_14 : decode cX4_endOf 14 = .ok (.iload_n 3, 1) := by decide +kernel
theorem dX4_endOf_15 : decode cX4_endOf 15 = .ok (.iconst 0, 1) := by decide +kernel
theorem dX4_endOf_16 : decode cX4_endOf 16 = .ok (.invokevirtual 29, 3) := by decide +kernel
theorem dX4_endOf_19 : decode cX4_endOf 19 = .ok (.invokestatic 25, 3) := by decide +kernel
theorem dX4_endOf_22 : decode cX4_endOf 22 = .ok (.iadd, 1) := by decide +kernel
theorem dX4_endOf_23 : decode cX4_endOf 23 = .ok (.istore_n 2, 1) := by decide +kernel
theorem dX4_endOf_24 : decode cX4_endOf 24 = .ok (.iload_n 2, 1) := by decide +kernel
theorem dX4_endOf_25 : decode cX4_endOf 25 = .ok (.ifCond .ne 5, 3) := by decide +kernel
theorem dX4_endOf_28 : decode cX4_endOf 28 = .ok (.iload_n 3, 1) := by decide +kernel
theorem dX4_endOf_29 : decode cX4_endOf 29 = .ok (.ireturn, 1) := by decide +kernel
theorem dX4_endOf_30 : decode cX4_endOf 30 = .ok (.iinc 3 1, 3) := by decide +kernel
theorem dX4_endOf_33 : decode cX4_endOf 33 = .ok (.goto (-29), 3) := by decide +kernel
theorem dX4_endOf_36 : decode cX4_endOf 36 = .ok (.aload_n 0, 1) := by decide +kernel
theorem dX4_endOf_37 : decode cX4_endOf 37 = .ok (.getfield 18, 3) := by decide +kernel
theorem dX4_endOf_40 : decode cX4_endOf 40 = .ok (.ireturn, 1) := by decide +kernel
theorem dX4_turnAnywhere_0 : decode cX4_turnAnywhere 0 = .ok (.iconst 0, 1) := by decide +kernel
theorem dX4_turnAnywhere_1 : decode cX4_turnAnywhere 1 = .ok (.istore_n 1, 1) := by decide +kernel
theorem dX4_turnAnywhere_2 : decode cX4_turnAnywhere 2 = .ok (.iload_n 1, 1) := by decide +kernel
theorem dX4_turnAnywhere_3 : decode cX4_turnAnywhere 3 = .ok (.aload_n 0, 1) := by decide +kernel
theorem dX4_turnAnywhere_4 : decode cX4_turnAnywhere 4 = .ok (.getfield 18, 3) := by decide +kernel
theorem dX4_turnAnywhere_7 : decode cX4_turnAnywhere 7 = .ok (.if_icmp .ge 43, 3) := by decide +kernel
theorem dX4_turnAnywhere_10 : decode cX4_turnAnywhere 10 = .ok (.aload_n 0, 1) := by decide +kernel
theorem dX4_turnAnywhere_11 : decode cX4_turnAnywhere 11 = .ok (.iload_n 1, 1) := by decide +kernel
theorem dX4_turnAnywhere_12 : decode cX4_turnAnywhere 12 = .ok (.iconst 0, 1) := by decide +kernel
theorem dX4_turnAnywhere_13 : decode cX4_turnAnywhere 13 = .ok (.invokevirtual 29, 3) := by decide +kernel
theorem dX4_turnAnywhere_16 : decode cX4_turnAnywhere 16 = .ok (.iconst 5, 1) := by decide +kernel
theorem dX4_turnAnywhere_17 : decode cX4_turnAnywhere 17 = .ok (.if_icmp .ge 25, 3) := by decide +kernel
theorem dX4_turnAnywhere_20 : decode cX4_turnAnywhere 20 = .ok (.aload_n 0, 1) := by decide +kernel
theorem dX4_turnAnywhere_21 : decode cX4_turnAnywhere 21 = .ok (.iload_n 1, 1) := by decide +kernel
theorem dX4_turnAnywhere_22 : decode cX4_turnAnywhere 22 = .ok (.iconst 2, 1) := by decide +kernel
theorem dX4_turnAnywhere_23 : decode cX4_turnAnywhere 23 = .ok (.invokevirtual 29, 3) := by decide +kernel
theorem dX4_turnAnywhere_26 : decode cX4_turnAnywhere 26 = .ok (.bipush 12, 2) := by decide +kernel
theorem dX4_turnAnywhere_28 : decode cX4_turnAnywhere 28 = .ok (.if_icmp .ge 14, 3) := by decide +kernel
theorem dX4_turnAnywhere_31 : decode cX4_turnAnywhere 31 = .ok (.aload_n 0, 1) := by decide +kernel
theorem dX4_turnAnywhere_32 : decode cX4_turnAnywhere 32 = .ok (.iload_n 1, 1) := by decide +kernel
theorem dX4_turnAnywhere_33 : decode cX4_turnAnywhere 33 = .ok (.iconst 4, 1) := by decide +kernel
theorem dX4_turnAnywhere_34 : decode cX4_turnAnywhere 34 = .ok (.invokevirtual 29, 3) := by decide +kernel
theorem dX4_turnAnywhere_37 : decode cX4_turnAnywhere 37 = .ok (.bipush 12, 2) := by decide +kernel
theorem dX4_turnAnywhere_39 : decode cX4_turnAnywhere 39 = .ok (.if_icmp .lt 5, 3) := by decide +kernel
theorem dX4_turnAnywhere_42 : decode cX4_turnAnywhere 42 = .ok (.iconst 1, 1) := by decide +kernel
theorem dX4_turnAnywhere_43 : decode cX4_turnAnywhere 43 = .ok (.ireturn, 1) := by decide +kernel
theorem dX4_turnAnywhere_44 : decode cX4_turnAnywhere 44 = .ok (.iinc 1 1, 3) := by decide +kernel
theorem dX4_turnAnywhere_47 : decode cX4_turnAnywhere 47 = .ok (.goto (-45), 3) := by decide +kernel
theorem dX4_turnAnywhere_50 : decode cX4_turnAnywhere 50 = .ok (.iconst 0, 1) := by decide +kernel
theorem dX4_turnAnywhere_51 : decode cX4_turnAnywhere 51 = .ok (.ireturn, 1) := by decide +kernel
theorem dX4_lieAs_0 : decode cX4_lieAs 0 = .ok (.iconst 0, 1) := by decide +kernel
theorem dX4_lieAs_1 : decode cX4_lieAs 1 = .ok (.istore_n 2, 1) := by decide +kernel
theorem dX4_lieAs_2 : decode cX4_lieAs 2 = .ok (.iload_n 2, 1) := by decide +kernel
theorem dX4_lieAs_3 : decode cX4_lieAs 3 = .ok (.aload_n 0, 1) := by decide +kernel
theorem dX4_lieAs_4 : decode cX4_lieAs 4 = .ok (.getfield 18, 3) := by decide +kernel
theorem dX4_lieAs_7 : decode cX4_lieAs 7 = .ok (.if_icmp .ge 29, 3) := by decide +kernel
theorem dX4_lieAs_10 : decode cX4_lieAs 10 = .ok (.aload_n 0, 1) := by decide +kernel
theorem dX4_lieAs_11 : decode cX4_lieAs 11 = .ok (.getfield 11, 3) := by decide +kernel
theorem dX4_lieAs_14 : decode cX4_lieAs 14 = .ok (.aload_n 1, 1) := by decide +kernel
theorem dX4_lieAs_15 : decode cX4_lieAs 15 = .ok (.iload_n 2, 1) := by decide +kernel
theorem dX4_lieAs_16 : decode cX4_lieAs 16 = .ok (.iaload, 1) := by decide +kernel
theorem dX4_lieAs_17 : decode cX4_lieAs 17 = .ok (.iconst 5, 1) := by decide +kernel
theorem dX4_lieAs_18 : decode cX4_lieAs 18 = .ok (.imul, 1) := by decide +kernel
theorem dX4_lieAs_19 : decode cX4_lieAs 19 = .ok (.aload_n 0, 1) := by decide +kernel
theorem dX4_lieAs_20 : decode cX4_lieAs 20 = .ok (.getfield 15, 3) := by decide +kernel
theorem dX4_lieAs_23 : decode cX4_lieAs 23 = .ok (.iload_n 2, 1) := by decide +kernel
theorem dX4_lieAs_24 : decode cX4_lieAs 24 = .ok (.iconst 5, 1) := by decide +kernel
theorem dX4_lieAs_25 : decode cX4_lieAs 25 = .ok (.imul, 1) := by decide +kernel
theorem dX4_lieAs_26 : decode cX4_lieAs 26 = .ok (.iconst 5, 1) := by decide +kernel
theorem dX4_lieAs_27 : decode cX4_lieAs 27 = .ok (.invokestatic 33, 3) := by decide +kernel
theorem dX4_lieAs_30 : decode cX4_lieAs 30 = .ok (.iinc 2 1, 3) := by decide +kernel
theorem dX4_lieAs_33 : decode cX4_lieAs 33 = .ok (.goto (-31), 3) := by decide +kernel
theorem dX4_lieAs_36 : decode cX4_lieAs 36 = .ok (.aload_n 0, 1) := by decide +kernel
theorem dX4_lieAs_37 : decode cX4_lieAs 37 = .ok (.getfield 15, 3) := by decide +kernel
theorem dX4_lieAs_40 : decode cX4_lieAs 40 = .ok (.iconst 0, 1) := by decide +kernel
theorem dX4_lieAs_41 : decode cX4_lieAs 41 = .ok (.aload_n 0, 1) := by decide +kernel
theorem dX4_lieAs_42 : decode cX4_lieAs 42 = .ok (.getfield 11, 3) := by decide +kernel
theorem dX4_lieAs_45 : decode cX4_lieAs 45 = .ok (.iconst 0, 1) := by decide +kernel
theorem dX4_lieAs_46 : decode cX4_lieAs 46 = .ok (.aload_n 0, 1) := by decide +kernel
theorem dX4_lieAs_47 : decode cX4_lieAs 47 = .ok (.getfield 18, 3) := by decide +kernel
theorem dX4_lieAs_50 : decode cX4_lieAs 50 = .ok (.iconst 5, 1) := by decide +kernel
theorem dX4_lieAs_51 : decode cX4_lieAs 51 = .ok (.imul, 1) := by decide +kernel
theorem dX4_lieAs_52 : decode cX4_lieAs 52 = .ok (.invokestatic 33, 3) := by decide +kernel
theorem dX4_lieAs_55 : decode cX4_lieAs 55 = .ok (.return_, 1) := by decide +kernel
theorem dX5_init_0 : decode cX5_init 0 = .ok (.aload_n 0, 1) := by decide +kernel
theorem dX5_init_1 : decode cX5_init 1 = .ok (.invokespecial 3, 3) := by decide +kernel
theorem dX5_init_4 : decode cX5_init 4 = .ok (.aload_n 0, 1) := by decide +kernel
theorem dX5_init_5 : decode cX5_init 5 = .ok (.new 9, 3) := by decide +kernel
theorem dX5_init_8 : decode cX5_init 8 = .ok (.dup, 1) := by decide +kernel
theorem dX5_init_9 : decode cX5_init 9 = .ok (.invokespecial 11, 3) := by decide +kernel
theorem dX5_init_12 : decode cX5_init 12 = .ok (.putfield 12, 3) := by decide +kernel
theorem dX5_init_15 : decode cX5_init 15 = .ok (.aload_n 0, 1) := by decide +kernel
theorem dX5_init_16 : decode cX5_init 16 = .ok (.new 9, 3) := by decide +kernel
theorem dX5_init_19 : decode cX5_init 19 = .ok (.dup, 1) := by decide +kernel
theorem dX5_init_20 : decode cX5_init 20 = .ok (.invokespecial 11, 3) := by decide +kernel
theorem dX5_init_23 : decode cX5_init 23 = .ok (.putfield 18, 3) := by decide +kernel
theorem dX5_init_26 : decode cX5_init 26 = .ok (.aload_n 0, 1) := by decide +kernel
theorem dX5_init_27 : decode cX5_init 27 = .ok (.bipush 12, 2) := by decide +kernel
theorem dX5_init_29 : decode cX5_init 29 = .ok (.anewarray 9, 3) := by decide +kernel
theorem dX5_init_32 : decode cX5_init 32 = .ok (.putfield 21, 3) := by decide +kernel
theorem dX5_init_35 : decode cX5_init 35 = .ok (.aload_n 0, 1) := by decide +kernel
theorem dX5_init_36 : decode cX5_init 36 = .ok (.aload_n 1, 1) := by decide +kernel
theorem dX5_init_37 : decode cX5_init 37 = .ok (.putfield 25, 3) := by decide +kernel
theorem dX5_init_40 : decode cX5_init 40 = .ok (.aload_n 0, 1) := by decide +kernel
theorem dX5_init_41 : decode cX5_init 41 = .ok (.aload_n 2, 1) := by decide +kernel
theorem dX5_init_42 : decode cX5_init 42 = .ok (.putfield 29, 3) := by decide +kernel
theorem dX5_init_45 : decode cX5_init 45 = .ok (.iconst 0, 1) := by decide +kernel
theorem dX5_init_46 : decode cX5_init 46 = .ok (.istore_n 3, 1) := by decide +kernel
theorem dX5_init_47 : decode cX5_init 47 = .ok (.iload_n 3, 1) := by decide +kernel
theorem dX5_init_48 : decode cX5_init 48 = .ok (.bipush 12, 2) := by decide +kernel
theorem dX5_init_50 : decode cX5_init 50 = .ok (.if_icmp .ge 22, 3) := by decide +kernel
theorem dX5_init_53 : decode cX5_init 53 = .ok (.aload_n 0, 1) := by decide +kernel
theorem dX5_init_54 : decode cX5_init 54 = .ok (.getfield 21, 3) := by decide +kernel
theorem dX5_init_57 : decode cX5_init 57 = .ok (.iload_n 3, 1) := by decide +kernel
theorem dX5_init_58 : decode cX5_init 58 = .ok (.new 9, 3) := by decide +kernel
theorem dX5_init_61 : decode cX5_init 61 = .ok (.dup, 1) := by decide +kernel
theorem dX5_init_62 : decode cX5_init 62 = .ok (.invokespecial 11, 3) := by decide +kernel
theorem dX5_init_65 : decode cX5_init 65 = .ok (.aastore, 1) := by decide +kernel
theorem dX5_init_66 : decode cX5_init 66 = .ok (.iinc 3 1, 3) := by decide +kernel
theorem dX5_init_69 : decode cX5_init 69 = .ok (.goto (-22), 3) := by decide +kernel
theorem dX5_init_72 : decode cX5_init 72 = .ok (.return_, 1) := by decide +kernel
theorem dX5_take_0 : decode cX5_take 0 = .ok (.aload_n 0, 1) := by decide +kernel
theorem dX5_take_1 : decode cX5_take 1 = .ok (.getfield 29, 3) := by decide +kernel
theorem dX5_take_4 : decode cX5_take 4 = .ok (.iload_n 1, 1) := by decide +kernel
theorem dX5_take_5 : decode cX5_take 5 = .ok (.iload_n 2, 1) := by decide +kernel
theorem dX5_take_6 : decode cX5_take 6 = .ok (.invokevirtual 33, 3) := by decide +kernel
theorem dX5_take_9 : decode cX5_take 9 = .ok (.istore 4, 2) := by decide +kernel
theorem dX5_take_11 : decode cX5_take 11 = .ok (.iload 4, 2) := by decide +kernel
theorem dX5_take_13 : decode cX5_take 13 = .ok (.ifCond .ne 38, 3) := by decide +kernel
theorem dX5_take_16 : decode cX5_take 16 = .ok (.aload_n 0, 1) := by decide +kernel
theorem dX5_take_17 : decode cX5_take 17 = .ok (.getfield 25, 3) := by decide +kernel
theorem dX5_take_20 : decode cX5_take 20 = .ok (.aload_n 0, 1) := by decide +kernel
theorem dX5_take_21 : decode cX5_take 21 = .ok (.getfield 29, 3) := by decide +kernel
theorem dX5_take_24 : decode cX5_take 24 = .ok (.getfield 39, 3) := by decide +kernel
theorem dX5_take_27 : decode cX5_take 27 = .ok (.iload_n 1, 1) := by decide +kernel
theorem dX5_take_28 : decode cX5_take 28 = .ok (.iaload, 1) := by decide +kernel
theorem dX5_take_29 : decode cX5_take 29 = .ok (.aload_n 0, 1) := by decide +kernel
theorem dX5_take_30 : decode cX5_take 30 = .ok (.getfield 29, 3) := by decide +kernel
theorem dX5_take_33 : decode cX5_take 33 = .ok (.iload_n 1, 1) := by decide +kernel
theorem dX5_take_34 : decode cX5_take 34 = .ok (.iload_n 2, 1) := by decide +kernel
theorem dX5_take_35 : decode cX5_take 35 = .ok (.invokevirtual 43, 3) := by decide +kernel
theorem dX5_take_38 : decode cX5_take 38 = .ok (.aload_n 3, 1) := by decide +kernel
theorem dX5_take_39 : decode cX5_take 39 = .ok (.invokevirtual 46, 3) := by decide +kernel
theorem dX5_take_42 : decode cX5_take 42 = .ok (.aload_n 0, 1) := by decide +kernel
theorem dX5_take_43 : decode cX5_take 43 = .ok (.getfield 29, 3) := by decide +kernel
theorem dX5_take_46 : decode cX5_take 46 = .ok (.iload_n 1, 1) := by decide +kernel
theorem dX5_take_47 : decode cX5_take 47 = .ok (.aload_n 3, 1) := by decide +kernel
theorem dX5_take_48 : decode cX5_take 48 = .ok (.invokevirtual 52, 3) := by decide +kernel
theorem dX5_take_51 : decode cX5_take 51 = .ok (.iload 4, 2) := by decide +kernel
theorem dX5_take_53 : decode cX5_take 53 = .ok (.ireturn, 1) := by decide +kernel
theorem dX5_put_0 : decode cX5_put 0 = .ok (.aload_n 0, 1) := by decide +kernel
theorem dX5_put_1 : decode cX5_put 1 = .ok (.getfield 29, 3) := by decide +kernel
theorem dX5_put_4 : decode cX5_put 4 = .ok (.iload_n 1, 1) := by decide +kernel
theorem dX5_put_5 : decode cX5_put 5 = .ok (.iload_n 2, 1) := by decide +kernel
theorem dX5_put_6 : decode cX5_put 6 = .ok (.aload_n 3, 1) := by decide +kernel
theorem dX5_put_7 : decode cX5_put 7 = .ok (.getfield 56, 3) := by decide +kernel
theorem dX5_put_10 : decode cX5_put 10 = .ok (.iload 4, 2) := by decide +kernel
theorem dX5_put_12 : decode cX5_put 12 = .ok (.invokevirtual 60, 3) := by decide +kernel
theorem dX5_put_15 : decode cX5_put 15 = .ok (.istore 5, 2) := by decide +kernel
theorem dX5_put_17 : decode cX5_put 17 = .ok (.iload 5, 2) := by decide +kernel
theorem dX5_put_19 : decode cX5_put 19 = .ok (.ifCond .ne 38, 3) := by decide +kernel
theorem dX5_put_22 : decode cX5_put 22 = .ok (.aload_n 0, 1) := by decide +kernel
theorem dX5_put_23 : decode cX5_put 23 = .ok (.getfield 29, 3) := by decide +kernel
theorem dX5_put_26 : decode cX5_put 26 = .ok (.iload_n 1, 1) := by decide +kernel
theorem dX5_put_27 : decode cX5_put 27 = .ok (.aload_n 3, 1) := by decide +kernel
theorem dX5_put_28 : decode cX5_put 28 = .ok (.invokevirtual 64, 3) := by decide +kernel
theorem dX5_put_31 : decode cX5_put 31 = .ok (.aload_n 0, 1) := by decide +kernel
theorem dX5_put_32 : decode cX5_put 32 = .ok (.getfield 25, 3) := by decide +kernel
theorem dX5_put_35 : decode cX5_put 35 = .ok (.aload_n 0, 1) := by decide +kernel
theorem dX5_put_36 : decode cX5_put 36 = .ok (.getfield 29, 3) := by decide +kernel
theorem dX5_put_39 : decode cX5_put 39 = .ok (.getfield 39, 3) := by decide +kernel
theorem dX5_put_42 : decode cX5_put 42 = .ok (.iload_n 1, 1) := by decide +kernel
theorem dX5_put_43 : decode cX5_put 43 = .ok (.iaload, 1) := by decide +kernel
theorem dX5_put_44 : decode cX5_put 44 = .ok (.aload_n 0, 1) := by decide +kernel
theorem dX5_put_45 : decode cX5_put 45 = .ok (.getfield 29, 3) := by decide +kernel
theorem dX5_put_48 : decode cX5_put 48 = .ok (.iload_n 1, 1) := by decide +kernel
theorem dX5_put_49 : decode cX5_put 49 = .ok (.iload_n 2, 1) := by decide +kernel
theorem dX5_put_50 : decode cX5_put 50 = .ok (.invokevirtual 43, 3) := by decide +kernel
theorem dX5_put_53 : decode cX5_put 53 = .ok (.aload_n 3, 1) := by decide +kernel
theorem dX5_put_54 : decode cX5_put 54 = .ok (.invokevirtual 67, 3) := by decide +kernel
theorem dX5_put_57 : decode cX5_put 57 = .ok (.iload 5, 2) := by decide +kernel
theorem dX5_put_59 : decode cX5_put 59 = .ok (.ireturn, 1) := by decide +kernel
theorem dX5_perform_0 : decode cX5_perform 0 = .ok (.aload_n 0, 1) := by decide +kernel
theorem dX5_perform_1 : decode cX5_perform 1 = .ok (.iload_n 2, 1) := by decide +kernel
theorem dX5_perform_2 : decode cX5_perform 2 = .ok (.iload_n 3, 1) := by decide +kernel
theorem dX5_perform_3 : decode cX5_perform 3 = .ok (.aload_n 0, 1) := by decide +kernel
theorem dX5_perform_4 : decode cX5_perform 4 = .ok (.getfield 12, 3) := by decide +kernel
theorem dX5_perform_7 : decode cX5_perform 7 = .ok (.invokevirtual 70, 3) := by decide +kernel
theorem dX5_perform_10 : decode cX5_perform 10 = .ok (.istore 6, 2) := by decide +kernel
theorem dX5_perform_12 : decode cX5_perform 12 = .ok (.iload 6, 2) := by decide +kernel
theorem dX5_perform_14 : decode cX5_perform 14 = .ok (.ifCond .eq 6, 3) := by decide +kernel
theorem dX5_perform_17 : decode cX5_perform 17 = .ok (.iload 6, 2) := by decide +kernel
theorem dX5_perform_19 : decode cX5_perform 19 = .ok (.ireturn, 1) := by decide +kernel
theorem dX5_perform_20 : decode cX5_perform 20 = .ok (.iload_n 1, 1) := by decide +kernel
theorem dX5_perform_21 : decode cX5_perform 21 = .ok (.ifCond .ne 25, 3) := by decide +kernel
theorem dX5_perform_24 : decode cX5_perform 24 = .ok (.aload_n 0, 1) := by decide +kernel
theorem dX5_perform_25 : decode cX5_perform 25 = .ok (.iload 4, 2) := by decide +kernel
theorem dX5_perform_27 : decode cX5_perform 27 = .ok (.iload 5, 2) := by decide +kernel
theorem dX5_perform_29 : decode cX5_perform 29 = .ok (.aload_n 0, 1) := by decide +kernel
theorem dX5_perform_30 : decode cX5_perform 30 = .ok (.getfield 12, 3) := by decide +kernel
theorem dX5_perform_33 : decode cX5_perform 33 = .ok (.aload_n 0, 1) := by decide +kernel
theorem dX5_perform_34 : decode cX5_perform 34 = .ok (.getfield 29, 3) := by decide +kernel
theorem dX5_perform_37 : decode cX5_perform 37 = .ok (.getfield 74, 3) := by decide +kernel
theorem dX5_perform_40 : decode cX5_perform 40 = .ok (.iload_n 2, 1) := by decide +kernel
theorem dX5_perform_41 : decode cX5_perform 41 = .ok (.iaload, 1) := by decide +kernel
theorem dX5_perform_42 : decode cX5_perform 42 = .ok (.invokevirtual 77, 3) := by decide +kernel
theorem dX5_perform_45 : decode cX5_perform 45 = .ok (.ireturn, 1) := by decide +kernel
theorem dX5_perform_46 : decode cX5_perform 46 = .ok (.aload_n 0, 1) := by decide +kernel
theorem dX5_perform_47 : decode cX5_perform 47 = .ok (.iload 4, 2) := by decide +kernel
theorem dX5_perform_49 : decode cX5_perform 49 = .ok (.iload 5, 2) := by decide +kernel
theorem dX5_perform_51 : decode cX5_perform 51 = .ok (.aload_n 0, 1) := by decide +kernel
theorem dX5_perform_52 : decode cX5_perform 52 = .ok (.getfield 18, 3) := by decide +kernel
theorem dX5_perform_55 : decode cX5_perform 55 = .ok (.invokevirtual 70, 3) := by decide +kernel
theorem dX5_perform_58 : decode cX5_perform 58 = .ok (.istore 6, 2) := by decide +kernel
theorem dX5_perform_60 : decode cX5_perform 60 = .ok (.iload 6, 2) := by decide +kernel
theorem dX5_perform_62 : decode cX5_perform 62 = .ok (.ifCond .eq 6, 3) := by decide +kernel
theorem dX5_perform_65 : decode cX5_perform 65 = .ok (.iload 6, 2) := by decide +kernel
theorem dX5_perform_67 : decode cX5_perform 67 = .ok (.ireturn, 1) := by decide +kernel
theorem dX5_perform_68 : decode cX5_perform 68 = .ok (.iload_n 1, 1) := by decide +kernel
theorem dX5_perform_69 : decode cX5_perform 69 = .ok (.iconst 4, 1) := by decide +kernel
theorem dX5_perform_70 : decode cX5_perform 70 = .ok (.if_icmp .ne 16, 3) := by decide +kernel
theorem dX5_perform_73 : decode cX5_perform 73 = .ok (.aload_n 0, 1) := by decide +kernel
theorem dX5_perform_74 : decode cX5_perform 74 = .ok (.iload_n 2, 1) := by decide +kernel
theorem dX5_perform_75 : decode cX5_perform 75 = .ok (.iload_n 3, 1) := by decide +kernel
theorem dX5_perform_76 : decode cX5_perform 76 = .ok (.iload 4, 2) := by decide +kernel
theorem dX5_perform_78 : decode cX5_perform 78 = .ok (.iload 5, 2) := by decide +kernel
theorem dX5_perform_80 : decode cX5_perform 80 = .ok (.invokevirtual 81, 3) := by decide +kernel
theorem dX5_perform_83 : decode cX5_perform 83 = .ok (.goto 12, 3) := by decide +kernel
theorem dX5_perform_86 : decode cX5_perform 86 = .ok (.aload_n 0, 1) := by decide +kernel
theorem dX5_perform_87 : decode cX5_perform 87 = .ok (.iload_n 1, 1) := by decide +kernel
theorem dX5_perform_88 : decode cX5_perform 88 = .ok (.iload 4, 2) := by decide +kernel
theorem dX5_perform_90 : decode cX5_perform 90 = .ok (.iload 5, 2) := by decide +kernel
theorem dX5_perform_92 : decode cX5_perform 92 = .ok (.invokevirtual 84, 3) := by decide +kernel
theorem dX5_perform_95 : decode cX5_perform 95 = .ok (.ireturn, 1) := by decide +kernel
theorem dX5_swap_0 : decode cX5_swap 0 = .ok (.aload_n 0, 1) := by decide +kernel
theorem dX5_swap_1 : decode cX5_swap 1 = .ok (.iload_n 1, 1) := by decide +kernel
theorem dX5_swap_2 : decode cX5_swap 2 = .ok (.iload_n 2, 1) := by decide +kernel
theorem dX5_swap_3 : decode cX5_swap 3 = .ok (.aload_n 0, 1) := by decide +kernel
theorem dX5_swap_4 : decode cX5_swap 4 = .ok (.getfield 12, 3) := by decide +kernel
theorem dX5_swap_7 : decode cX5_swap 7 = .ok (.getfield 56, 3) := by decide +kernel
theorem dX5_swap_10 : decode cX5_swap 10 = .ok (.iload_n 3, 1) := by decide +kernel
theorem dX5_swap_11 : decode cX5_swap 11 = .ok (.iload 4, 2) := by decide +kernel
theorem dX5_swap_13 : decode cX5_swap 13 = .ok (.aload_n 0, 1) := by decide +kernel
theorem dX5_swap_14 : decode cX5_swap 14 = .ok (.getfield 18, 3) := by decide +kernel
theorem dX5_swap_17 : decode cX5_swap 17 = .ok (.getfield 56, 3) := by decide +kernel
theorem dX5_swap_20 : decode cX5_swap 20 = .ok (.invokevirtual 88, 3) := by decide +kernel
theorem dX5_swap_23 : decode cX5_swap 23 = .ok (.istore 5, 2) := by decide +kernel
theorem dX5_swap_25 : decode cX5_swap 25 = .ok (.iload 5, 2) := by decide +kernel
theorem dX5_swap_27 : decode cX5_swap 27 = .ok (.ifCond .eq 6, 3) := by decide +kernel
theorem dX5_swap_30 : decode cX5_swap 30 = .ok (.iload 5, 2) := by decide +kernel
theorem dX5_swap_32 : decode cX5_swap 32 = .ok (.ireturn, 1) := by decide +kernel
theorem dX5_swap_33 : decode cX5_swap 33 = .ok (.aload_n 0, 1) := by decide +kernel
theorem dX5_swap_34 : decode cX5_swap 34 = .ok (.iload_n 3, 1) := by decide +kernel
theorem dX5_swap_35 : decode cX5_swap 35 = .ok (.iload 4, 2) := by decide +kernel
theorem dX5_swap_37 : decode cX5_swap 37 = .ok (.aload_n 0, 1) := by decide +kernel
theorem dX5_swap_38 : decode cX5_swap 38 = .ok (.getfield 12, 3) := by decide +kernel
theorem dX5_swap_41 : decode cX5_swap 41 = .ok (.aload_n 0, 1) := by decide +kernel
theorem dX5_swap_42 : decode cX5_swap 42 = .ok (.getfield 29, 3) := by decide +kernel
theorem dX5_swap_45 : decode cX5_swap 45 = .ok (.getfield 74, 3) := by decide +kernel
theorem dX5_swap_48 : decode cX5_swap 48 = .ok (.iload_n 1, 1) := by decide +kernel
theorem dX5_swap_49 : decode cX5_swap 49 = .ok (.iaload, 1) := by decide +kernel
theorem dX5_swap_50 : decode cX5_swap 50 = .ok (.invokevirtual 77, 3) := by decide +kernel
theorem dX5_swap_53 : decode cX5_swap 53 = .ok (.pop, 1) := by decide +kernel
theorem dX5_swap_54 : decode cX5_swap 54 = .ok (.aload_n 0, 1) := by decide +kernel
theorem dX5_swap_55 : decode cX5_swap 55 = .ok (.iload_n 1, 1) := by decide +kernel
theorem dX5_swap_56 : decode cX5_swap 56 = .ok (.iload_n 2, 1) := by decide +kernel
theorem dX5_swap_57 : decode cX5_swap 57 = .ok (.aload_n 0, 1) := by decide +kernel
theorem dX5_swap_58 : decode cX5_swap 58 = .ok (.getfield 18, 3) := by decide +kernel
theorem dX5_swap_61 : decode cX5_swap 61 = .ok (.aload_n 0, 1) := by decide +kernel
theorem dX5_swap_62 : decode cX5_swap 62 = .ok (.getfield 29, 3) := by decide +kernel
theorem dX5_swap_65 : decode cX5_swap 65 = .ok (.getfield 74, 3) := by decide +kernel
theorem dX5_swap_68 : decode cX5_swap 68 = .ok (.iload_n 3, 1) := by decide +kernel
theorem dX5_swap_69 : decode cX5_swap 69 = .ok (.iaload, 1) := by decide +kernel
theorem dX5_swap_70 : decode cX5_swap 70 = .ok (.invokevirtual 77, 3) := by decide +kernel
theorem dX5_swap_73 : decode cX5_swap 73 = .ok (.ireturn, 1) := by decide +kernel
theorem dX5_reckon_0 : decode cX5_reckon 0 = .ok (.aload_n 0, 1) := by decide +kernel
theorem dX5_reckon_1 : decode cX5_reckon 1 = .ok (.getfield 12, 3) := by decide +kernel
theorem dX5_reckon_4 : decode cX5_reckon 4 = .ok (.getfield 56, 3) := by decide +kernel
theorem dX5_reckon_7 : decode cX5_reckon 7 = .ok (.invokestatic 92, 3) := by decide +kernel
theorem dX5_reckon_10 : decode cX5_reckon 10 = .ok (.istore 4, 2) := by decide +kernel
theorem dX5_reckon_12 : decode cX5_reckon 12 = .ok (.iload 4, 2) := by decide +kernel
theorem dX5_reckon_14 : decode cX5_reckon 14 = .ok (.ifCond .ne 15, 3) := by decide +kernel
theorem dX5_reckon_17 : decode cX5_reckon 17 = .ok (.aload_n 0, 1) := by decide +kernel
theorem dX5_reckon_18 : decode cX5_reckon 18 = .ok (.getfield 18, 3) := by decide +kernel
theorem dX5_reckon_21 : decode cX5_reckon 21 = .ok (.getfield 56, 3) := by decide +kernel
theorem dX5_reckon_24 : decode cX5_reckon 24 = .ok (.invokestatic 92, 3) := by decide +kernel
theorem dX5_reckon_27 : decode cX5_reckon 27 = .ok (.istore 4, 2) := by decide +kernel
theorem dX5_reckon_29 : decode cX5_reckon 29 = .ok (.iload 4, 2) := by decide +kernel
theorem dX5_reckon_31 : decode cX5_reckon 31 = .ok (.ifCond .eq 6, 3) := by decide +kernel
theorem dX5_reckon_34 : decode cX5_reckon 34 = .ok (.iload 4, 2) := by decide +kernel
theorem dX5_reckon_36 : decode cX5_reckon 36 = .ok (.ireturn, 1) := by decide +kernel
theorem dX5_reckon_37 : decode cX5_reckon 37 = .ok (.aload_n 0, 1) := by decide +kernel
theorem dX5_reckon_38 : decode cX5_reckon 38 = .ok (.getfield 12, 3) := by decide +kernel
theorem dX5_reckon_41 : decode cX5_reckon 41 = .ok (.getfield 56, 3) := by decide +kernel
theorem dX5_reckon_44 : decode cX5_reckon 44 = .ok (.aload_n 0, 1) := by decide +kernel
theorem dX5_reckon_45 : decode cX5_reckon 45 = .ok (.getfield 18, 3) := by decide +kernel
theorem dX5_reckon_48 : decode cX5_reckon 48 = .ok (.getfield 56, 3) := by decide +kernel
theorem dX5_reckon_51 : decode cX5_reckon 51 = .ok (.invokestatic 96, 3) := by decide +kernel
theorem dX5_reckon_54 : decode cX5_reckon 54 = .ok (.istore 5, 2) := by decide +kernel
theorem dX5_reckon_56 : decode cX5_reckon 56 = .ok (.aload_n 0, 1) := by decide +kernel
theorem dX5_reckon_57 : decode cX5_reckon 57 = .ok (.getfield 12, 3) := by decide +kernel
theorem dX5_reckon_60 : decode cX5_reckon 60 = .ok (.iload 5, 2) := by decide +kernel
theorem dX5_reckon_62 : decode cX5_reckon 62 = .ok (.invokevirtual 99, 3) := by decide +kernel
theorem dX5_reckon_65 : decode cX5_reckon 65 = .ok (.aload_n 0, 1) := by decide +kernel
theorem dX5_reckon_66 : decode cX5_reckon 66 = .ok (.getfield 18, 3) := by decide +kernel
theorem dX5_reckon_69 : decode cX5_reckon 69 = .ok (.iload 5, 2) := by decide +kernel
theorem dX5_reckon_71 : decode cX5_reckon 71 = .ok (.invokevirtual 99, 3) := by decide +kernel
theorem dX5_reckon_74 : decode cX5_reckon 74 = .ok (.iload_n 1, 1) := by decide +kernel
theorem dX5_reckon_75 : decode cX5_reckon 75 = .ok (.aload_n 0, 1) := by decide +kernel
theorem dX5_reckon_76 : decode cX5_reckon 76 = .ok (.getfield 12, 3) := by decide +kernel
theorem dX5_reckon_79 : decode cX5_reckon 79 = .ok (.getfield 103, 3) := by decide +kernel
theorem dX5_reckon_82 : decode cX5_reckon 82 = .ok (.aload_n 0, 1) := by decide +kernel
theorem dX5_reckon_83 : decode cX5_reckon 83 = .ok (.getfield 18, 3) := by decide +kernel
theorem dX5_reckon_86 : decode cX5_reckon 86 = .ok (.getfield 103, 3) := by decide +kernel
theorem dX5_reckon_89 : decode cX5_reckon 89 = .ok (.invokestatic 107, 3) := by decide +kernel
theorem dX5_reckon_92 : decode cX5_reckon 92 = .ok (.iload 5, 2) := by decide +kernel
theorem dX5_reckon_94 : decode cX5_reckon 94 = .ok (.invokestatic 111, 3) := by decide +kernel
theorem dX5_reckon_97 : decode cX5_reckon 97 = .ok (.lstore 6, 2) := by decide +kernel
theorem dX5_reckon_99 : decode cX5_reckon 99 = .ok (.iload 5, 2) := by decide +kernel
theorem dX5_reckon_101 : decode cX5_reckon 101 = .ok (.iconst 4, 1) := by decide +kernel
theorem dX5_reckon_102 : decode cX5_reckon 102 = .ok (.if_icmp .ne 12, 3) := by decide +kernel
theorem dX5_reckon_105 : decode cX5_reckon 105 = .ok (.lload 6, 2) := by decide +kernel
theorem dX5_reckon_107 : decode cX5_reckon 107 = .ok (.l2i, 1) := by decide +kernel
theorem dX5_reckon_108 : decode cX5_reckon 108 = .ok (.i2l, 1) := by decide +kernel
theorem dX5_reckon_109 : decode cX5_reckon 109 = .ok (.lstore 6, 2) := by decide +kernel
theorem dX5_reckon_111 : decode cX5_reckon 111 = .ok (.goto 24, 3) := by decide +kernel
theorem dX5_reckon_114 : decode cX5_reckon 114 = .ok (.lload 6, 2) := by decide +kernel
theorem dX5_reckon_116 : decode cX5_reckon 116 = .ok (.ldc2_w 117, 3) := by decide +kernel
theorem dX5_reckon_119 : decode cX5_reckon 119 = .ok (.lcmp, 1) := by decide +kernel
theorem dX5_reckon_120 : decode cX5_reckon 120 = .ok (.ifCond .lt 12, 3) := by decide +kernel
theorem dX5_reckon_123 : decode cX5_reckon 123 = .ok (.lload 6, 2) := by decide +kernel
theorem dX5_reckon_125 : decode cX5_reckon 125 = .ok (.ldc2_w 119, 3) := by decide +kernel
theorem dX5_reckon_128 : decode cX5_reckon 128 = .ok (.lcmp, 1) := by decide +kernel
theorem dX5_reckon_129 : decode cX5_reckon 129 = .ok (.ifCond .le 6, 3) := by decide +kernel
theorem dX5_reckon_132 : decode cX5_reckon 132 = .ok (.bipush (-10), 2) := by decide +kernel
theorem dX5_reckon_134 : decode cX5_reckon 134 = .ok (.ireturn, 1) := by decide +kernel
theorem dX5_reckon_135 : decode cX5_reckon 135 = .ok (.aload_n 0, 1) := by decide +kernel
theorem dX5_reckon_136 : decode cX5_reckon 136 = .ok (.getfield 12, 3) := by decide +kernel
theorem dX5_reckon_139 : decode cX5_reckon 139 = .ok (.iload 5, 2) := by decide +kernel
theorem dX5_reckon_141 : decode cX5_reckon 141 = .ok (.lload 6, 2) := by decide +kernel
theorem dX5_reckon_143 : decode cX5_reckon 143 = .ok (.invokevirtual 121, 3) := by decide +kernel
theorem dX5_reckon_146 : decode cX5_reckon 146 = .ok (.aload_n 0, 1) := by decide +kernel
theorem dX5_reckon_147 : decode cX5_reckon 147 = .ok (.iload_n 2, 1) := by decide +kernel
theorem dX5_reckon_148 : decode cX5_reckon 148 = .ok (.iload_n 3, 1) := by decide +kernel
theorem dX5_reckon_149 : decode cX5_reckon 149 = .ok (.aload_n 0, 1) := by decide +kernel
theorem dX5_reckon_150 : decode cX5_reckon 150 = .ok (.getfield 12, 3) := by decide +kernel
theorem dX5_reckon_153 : decode cX5_reckon 153 = .ok (.aload_n 0, 1) := by decide +kernel
theorem dX5_reckon_154 : decode cX5_reckon 154 = .ok (.iload_n 2, 1) := by decide +kernel
theorem dX5_reckon_155 : decode cX5_reckon 155 = .ok (.iload 5, 2) := by decide +kernel
theorem dX5_reckon_157 : decode cX5_reckon 157 = .ok (.invokevirtual 125, 3) := by decide +kernel
theorem dX5_reckon_160 : decode cX5_reckon 160 = .ok (.invokevirtual 77, 3) := by decide +kernel
theorem dX5_reckon_163 : decode cX5_reckon 163 = .ok (.ireturn, 1) := by decide +kernel
theorem dX5_noTerm_0 : decode cX5_noTerm 0 = .ok (.iload_n 0, 1) := by decide +kernel
theorem dX5_noTerm_1 : decode cX5_noTerm 1 = .ok (.bipush 10, 2) := by decide +kernel
theorem dX5_noTerm_3 : decode cX5_noTerm 3 = .ok (.if_icmp .ne 6, 3) := by decide +kernel
theorem dX5_noTerm_6 : decode cX5_noTerm 6 = .ok (.bipush (-9), 2) := by decide +kernel
theorem dX5_noTerm_8 : decode cX5_noTerm 8 = .ok (.ireturn, 1) := by decide +kernel
theorem dX5_noTerm_9 : decode cX5_noTerm 9 = .ok (.iload_n 0, 1) := by decide +kernel
theorem dX5_noTerm_10 : decode cX5_noTerm 10 = .ok (.bipush 9, 2) := by decide +kernel
theorem dX5_noTerm_12 : decode cX5_noTerm 12 = .ok (.if_icmp .eq 7, 3) := by decide +kernel
theorem dX5_noTerm_15 : decode cX5_noTerm 15 = .ok (.iload_n 0, 1) := by decide +kernel
theorem dX5_noTerm_16 : decode cX5_noTerm 16 = .ok (.ifCond .ne 8, 3) := by decide +kernel
theorem dX5_noTerm_19 : decode cX5_noTerm 19 = .ok (.bipush (-7), 2) := by decide +kernel
theorem dX5_noTerm_21 : decode cX5_noTerm 21 = .ok (.goto 4, 3) := by decide +kernel
theorem dX5_noTerm_24 : decode cX5_noTerm 24 = .ok (.iconst 0, 1) := by decide +kernel
theorem dX5_noTerm_25 : decode cX5_noTerm 25 = .ok (.ireturn, 1) := by decide +kernel
theorem dX5_widerKind_0 : decode cX5_widerKind 0 = .ok (.iconst 4, 1) := by decide +kernel
theorem dX5_widerKind_1 : decode cX5_widerKind 1 = .ok (.iload_n 0, 1) := by decide +kernel
theorem dX5_widerKind_2 : decode cX5_widerKind 2 = .ok (.iload_n 1, 1) := by decide +kernel
theorem dX5_widerKind_3 : decode cX5_widerKind 3 = .ok (.invokestatic 128, 3) := by decide +kernel
theorem dX5_widerKind_6 : decode cX5_widerKind 6 = .ok (.invokestatic 128, 3) := by decide +kernel
theorem dX5_widerKind_9 : decode cX5_widerKind 9 = .ok (.ireturn, 1) := by decide +kernel
theorem dX5_combined_0 : decode cX5_combined 0 = .ok (.iload_n 0, 1) := by decide +kernel
theorem dX5_combined_1 : decode cX5_combined 1 = .ok (.iconst 1, 1) := by decide +kernel
theorem dX5_combined_2 : decode cX5_combined 2 = .ok (.if_icmp .ne 7, 3) := by decide +kernel
theorem dX5_combined_5 : decode cX5_combined 5 = .ok (.lload_n 1, 1) := by decide +kernel
theorem dX5_combined_6 : decode cX5_combined 6 = .ok (.lload_n 3, 1) := by decide +kernel
theorem dX5_combined_7 : decode cX5_combined 7 = .ok (.ladd, 1) := by decide +kernel
theorem dX5_combined_8 : decode cX5_combined 8 = .ok (.lreturn, 1) := by decide +kernel
theorem dX5_combined_9 : decode cX5_combined 9 = .ok (.iload_n 0, 1) := by decide +kernel
theorem dX5_combined_10 : decode cX5_combined 10 = .ok (.iconst 2, 1) := by decide +kernel
theorem dX5_combined_11 : decode cX5_combined 11 = .ok (.if_icmp .ne 9, 3) := by decide +kernel
theorem dX5_combined_14 : decode cX5_combined 14 = .ok (.lload_n 3, 1) := by decide +kernel
theorem dX5_combined_15 : decode cX5_combined 15 = .ok (.lload_n 1, 1) := by decide +kernel
theorem dX5_combined_16 : decode cX5_combined 16 = .ok (.lsub, 1) := by decide +kernel
theorem dX5_combined_17 : decode cX5_combined 17 = .ok (.goto 8, 3) := by decide +kernel
theorem dX5_combined_20 : decode cX5_combined 20 = .ok (.lload_n 1, 1) := by decide +kernel
theorem dX5_combined_21 : decode cX5_combined 21 = .ok (.lload_n 3, 1) := by decide +kernel
theorem dX5_combined_22 : decode cX5_combined 22 = .ok (.invokestatic 133, 3) := by decide +kernel
theorem dX5_combined_25 : decode cX5_combined 25 = .ok (.lreturn, 1) := by decide +kernel
theorem dX5_byOfResult_0 : decode cX5_byOfResult 0 = .ok (.aload_n 0, 1) := by decide +kernel
theorem dX5_byOfResult_1 : decode cX5_byOfResult 1 = .ok (.getfield 29, 3) := by decide +kernel
theorem dX5_byOfResult_4 : decode cX5_byOfResult 4 = .ok (.getfield 74, 3) := by decide +kernel
theorem dX5_byOfResult_7 : decode cX5_byOfResult 7 = .ok (.iload_n 1, 1) := by decide +kernel
theorem dX5_byOfResult_8 : decode cX5_byOfResult 8 = .ok (.iaload, 1) := by decide +kernel
theorem dX5_byOfResult_9 : decode cX5_byOfResult 9 = .ok (.bipush 8, 2) := by decide +kernel
theorem dX5_byOfResult_11 : decode cX5_byOfResult 11 = .ok (.if_icmp .ne 8, 3) := by decide +kernel
theorem dX5_byOfResult_14 : decode cX5_byOfResult 14 = .ok (.bipush 8, 2) := by decide +kernel
theorem dX5_byOfResult_16 : decode cX5_byOfResult 16 = .ok (.goto 4, 3) := by decide +kernel
theorem dX5_byOfResult_19 : decode cX5_byOfResult 19 = .ok (.iload_n 2, 1) := by decide +kernel
theorem dX5_byOfResult_20 : decode cX5_byOfResult 20 = .ok (.ireturn, 1) := by decide +kernel
theorem dX5_foretell_0 : decode cX5_foretell 0 = .ok (.aload_n 0, 1) := by decide +kernel
theorem dX5_foretell_1 : decode cX5_foretell 1 = .ok (.getfield 29, 3) := by decide +kernel
theorem dX5_foretell_4 : decode cX5_foretell 4 = .ok (.iload_n 2, 1) := by decide +kernel
theorem dX5_foretell_5 : decode cX5_foretell 5 = .ok (.iload_n 3, 1) := by decide +kernel
theorem dX5_foretell_6 : decode cX5_foretell 6 = .ok (.invokevirtual 33, 3) := by decide +kernel
theorem dX5_foretell_9 : decode cX5_foretell 9 = .ok (.istore 6, 2) := by decide +kernel
theorem dX5_foretell_11 : decode cX5_foretell 11 = .ok (.iload 6, 2) := by decide +kernel
theorem dX5_foretell_13 : decode cX5_foretell 13 = .ok (.ifCond .eq 9, 3) := by decide +kernel
theorem dX5_foretell_16 : decode cX5_foretell 16 = .ok (.bipush (-4), 2) := by decide +kernel
theorem dX5_foretell_18 : decode cX5_foretell 18 = .ok (.iload 6, 2) := by decide +kernel
theorem dX5_foretell_20 : decode cX5_foretell 20 = .ok (.isub, 1) := by decide +kernel
theorem dX5_foretell_21 : decode cX5_foretell 21 = .ok (.ireturn, 1) := by decide +kernel
theorem dX5_foretell_22 : decode cX5_foretell 22 = .ok (.aload_n 0, 1) := by decide +kernel
theorem dX5_foretell_23 : decode cX5_foretell 23 = .ok (.getfield 29, 3) := by decide +kernel
theorem dX5_foretell_26 : decode cX5_foretell 26 = .ok (.iload_n 2, 1) := by decide +kernel
theorem dX5_foretell_27 : decode cX5_foretell 27 = .ok (.invokevirtual 136, 3) := by decide +kernel
theorem dX5_foretell_30 : decode cX5_foretell 30 = .ok (.ifCond .eq 5, 3) := by decide +kernel
theorem dX5_foretell_33 : decode cX5_foretell 33 = .ok (.iconst 5, 1) := by decide +kernel
theorem dX5_foretell_34 : decode cX5_foretell 34 = .ok (.ireturn, 1) := by decide +kernel
theorem dX5_foretell_35 : decode cX5_foretell 35 = .ok (.iload_n 1, 1) := by decide +kernel
theorem dX5_foretell_36 : decode cX5_foretell 36 = .ok (.ifCond .ne 35, 3) := by decide +kernel
theorem dX5_foretell_39 : decode cX5_foretell 39 = .ok (.aload_n 0, 1) := by decide +kernel
theorem dX5_foretell_40 : decode cX5_foretell 40 = .ok (.getfield 29, 3) := by decide +kernel
theorem dX5_foretell_43 : decode cX5_foretell 43 = .ok (.iload 4, 2) := by decide +kernel
theorem dX5_foretell_45 : decode cX5_foretell 45 = .ok (.iload 5, 2) := by decide +kernel
theorem dX5_foretell_47 : decode cX5_foretell 47 = .ok (.aload_n 0, 1) := by decide +kernel
theorem dX5_foretell_48 : decode cX5_foretell 48 = .ok (.getfield 29, 3) := by decide +kernel
theorem dX5_foretell_51 : decode cX5_foretell 51 = .ok (.iload_n 2, 1) := by decide +kernel
theorem dX5_foretell_52 : decode cX5_foretell 52 = .ok (.invokevirtual 140, 3) := by decide +kernel
theorem dX5_foretell_55 : decode cX5_foretell 55 = .ok (.aload_n 0, 1) := by decide +kernel
theorem dX5_foretell_56 : decode cX5_foretell 56 = .ok (.getfield 29, 3) := by decide +kernel
theorem dX5_foretell_59 : decode cX5_foretell 59 = .ok (.getfield 74, 3) := by decide +kernel
theorem dX5_foretell_62 : decode cX5_foretell 62 = .ok (.iload_n 2, 1) := by decide +kernel
theorem dX5_foretell_63 : decode cX5_foretell 63 = .ok (.iaload, 1) := by decide +kernel
theorem dX5_foretell_64 : decode cX5_foretell 64 = .ok (.invokevirtual 60, 3) := by decide +kernel
theorem dX5_foretell_67 : decode cX5_foretell 67 = .ok (.invokestatic 143, 3) := by decide +kernel
theorem dX5_foretell_70 : decode cX5_foretell 70 = .ok (.ireturn, 1) := by decide +kernel
theorem dX5_foretell_71 : decode cX5_foretell 71 = .ok (.aload_n 0, 1) := by decide +kernel
theorem dX5_foretell_72 : decode cX5_foretell 72 = .ok (.getfield 29, 3) := by decide +kernel
theorem dX5_foretell_75 : decode cX5_foretell 75 = .ok (.iload 4, 2) := by decide +kernel
theorem dX5_foretell_77 : decode cX5_foretell 77 = .ok (.iload 5, 2) := by decide +kernel
theorem dX5_foretell_79 : decode cX5_foretell 79 = .ok (.invokevirtual 33, 3) := by decide +kernel
theorem dX5_foretell_82 : decode cX5_foretell 82 = .ok (.istore 6, 2) := by decide +kernel
theorem dX5_foretell_84 : decode cX5_foretell 84 = .ok (.iload 6, 2) := by decide +kernel
theorem dX5_foretell_86 : decode cX5_foretell 86 = .ok (.ifCond .eq 9, 3) := by decide +kernel
theorem dX5_foretell_89 : decode cX5_foretell 89 = .ok (.bipush (-4), 2) := by decide +kernel
theorem dX5_foretell_91 : decode cX5_foretell 91 = .ok (.iload 6, 2) := by decide +kernel
theorem dX5_foretell_93 : decode cX5_foretell 93 = .ok (.isub, 1) := by decide +kernel
theorem dX5_foretell_94 : decode cX5_foretell 94 = .ok (.ireturn, 1) := by decide +kernel
theorem dX5_foretell_95 : decode cX5_foretell 95 = .ok (.aload_n 0, 1) := by decide +kernel
theorem dX5_foretell_96 : decode cX5_foretell 96 = .ok (.getfield 29, 3) := by decide +kernel
theorem dX5_foretell_99 : decode cX5_foretell 99 = .ok (.iload 4, 2) := by decide +kernel
theorem dX5_foretell_101 : decode cX5_foretell 101 = .ok (.invokevirtual 136, 3) := by decide +kernel
theorem dX5_foretell_104 : decode cX5_foretell 104 = .ok (.ifCond .eq 5, 3) := by decide +kernel
theorem dX5_foretell_107 : decode cX5_foretell 107 = .ok (.iconst 5, 1) := by decide +kernel
theorem dX5_foretell_108 : decode cX5_foretell 108 = .ok (.ireturn, 1) := by decide +kernel
theorem dX5_foretell_109 : decode cX5_foretell 109 = .ok (.iload_n 1, 1) := by decide +kernel
theorem dX5_foretell_110 : decode cX5_foretell 110 = .ok (.iconst 4, 1) := by decide +kernel
theorem dX5_foretell_111 : decode cX5_foretell 111 = .ok (.if_icmp .ne 34, 3) := by decide +kernel
theorem dX5_foretell_114 : decode cX5_foretell 114 = .ok (.aload_n 0, 1) := by decide +kernel
theorem dX5_foretell_115 : decode cX5_foretell 115 = .ok (.iload_n 2, 1) := by decide +kernel
theorem dX5_foretell_116 : decode cX5_foretell 116 = .ok (.iload_n 3, 1) := by decide +kernel
theorem dX5_foretell_117 : decode cX5_foretell 117 = .ok (.aload_n 0, 1) := by decide +kernel
theorem dX5_foretell_118 : decode cX5_foretell 118 = .ok (.getfield 29, 3) := by decide +kernel
theorem dX5_foretell_121 : decode cX5_foretell 121 = .ok (.iload_n 2, 1) := by decide +kernel
theorem dX5_foretell_122 : decode cX5_foretell 122 = .ok (.invokevirtual 140, 3) := by decide +kernel
theorem dX5_foretell_125 : decode cX5_foretell 125 = .ok (.iload 4, 2) := by decide +kernel
theorem dX5_foretell_127 : decode cX5_foretell 127 = .ok (.iload 5, 2) := by decide +kernel
theorem dX5_foretell_129 : decode cX5_foretell 129 = .ok (.aload_n 0, 1) := by decide +kernel
theorem dX5_foretell_130 : decode cX5_foretell 130 = .ok (.getfield 29, 3) := by decide +kernel
theorem dX5_foretell_133 : decode cX5_foretell 133 = .ok (.iload 4, 2) := by decide +kernel
theorem dX5_foretell_135 : decode cX5_foretell 135 = .ok (.invokevirtual 140, 3) := by decide +kernel
theorem dX5_foretell_138 : decode cX5_foretell 138 = .ok (.invokevirtual 88, 3) := by decide +kernel
theorem dX5_foretell_141 : decode cX5_foretell 141 = .ok (.invokestatic 143, 3) := by decide +kernel
theorem dX5_foretell_144 : decode cX5_foretell 144 = .ok (.ireturn, 1) := by decide +kernel
theorem dX5_foretell_145 : decode cX5_foretell 145 = .ok (.aload_n 0, 1) := by decide +kernel
theorem dX5_foretell_146 : decode cX5_foretell 146 = .ok (.iload_n 2, 1) := by decide +kernel
theorem dX5_foretell_147 : decode cX5_foretell 147 = .ok (.iload 4, 2) := by decide +kernel
theorem dX5_foretell_149 : decode cX5_foretell 149 = .ok (.iload 5, 2) := by decide +kernel
theorem dX5_foretell_151 : decode cX5_foretell 151 = .ok (.invokevirtual 146, 3) := by decide +kernel
theorem dX5_foretell_154 : decode cX5_foretell 154 = .ok (.invokestatic 143, 3) := by decide +kernel
theorem dX5_foretell_157 : decode cX5_foretell 157 = .ok (.ireturn, 1) := by decide +kernel
theorem dX5_foretoldAs_0 : decode cX5_foretoldAs 0 = .ok (.iload_n 0, 1) := by decide +kernel
theorem dX5_foretoldAs_1 : decode cX5_foretoldAs 1 = .ok (.ifCond .ne 8, 3) := by decide +kernel
theorem dX5_foretoldAs_4 : decode cX5_foretoldAs 4 = .ok (.bipush 6, 2) := by decide +kernel
theorem dX5_foretoldAs_6 : decode cX5_foretoldAs 6 = .ok (.goto 7, 3) := by decide +kernel
theorem dX5_foretoldAs_9 : decode cX5_foretoldAs 9 = .ok (.bipush (-4), 2) := by decide +kernel
theorem dX5_foretoldAs_11 : decode cX5_foretoldAs 11 = .ok (.iload_n 0, 1) := by decide +kernel
theorem dX5_foretoldAs_12 : decode cX5_foretoldAs 12 = .ok (.isub, 1) := by decide +kernel
theorem dX5_foretoldAs_13 : decode cX5_foretoldAs 13 = .ok (.ireturn, 1) := by decide +kernel
theorem dX5_swapRefusal_0 : decode cX5_swapRefusal 0 = .ok (.aload_n 0, 1) := by decide +kernel
theorem dX5_swapRefusal_1 : decode cX5_swapRefusal 1 = .ok (.getfield 29, 3) := by decide +kernel
theorem dX5_swapRefusal_4 : decode cX5_swapRefusal 4 = .ok (.iload 4, 2) := by decide +kernel
theorem dX5_swapRefusal_6 : decode cX5_swapRefusal 6 = .ok (.iload 5, 2) := by decide +kernel
theorem dX5_swapRefusal_8 : decode cX5_swapRefusal 8 = .ok (.iload_n 3, 1) := by decide +kernel
theorem dX5_swapRefusal_9 : decode cX5_swapRefusal 9 = .ok (.aload_n 0, 1) := by decide +kernel
theorem dX5_swapRefusal_10 : decode cX5_swapRefusal 10 = .ok (.getfield 29, 3) := by decide +kernel
theorem dX5_swapRefusal_13 : decode cX5_swapRefusal 13 = .ok (.getfield 74, 3) := by decide +kernel
theorem dX5_swapRefusal_16 : decode cX5_swapRefusal 16 = .ok (.iload_n 1, 1) := by decide +kernel
theorem dX5_swapRefusal_17 : decode cX5_swapRefusal 17 = .ok (.iaload, 1) := by decide +kernel
theorem dX5_swapRefusal_18 : decode cX5_swapRefusal 18 = .ok (.invokevirtual 60, 3) := by decide +kernel
theorem dX5_swapRefusal_21 : decode cX5_swapRefusal 21 = .ok (.istore 7, 2) := by decide +kernel
theorem dX5_swapRefusal_23 : decode cX5_swapRefusal 23 = .ok (.iload 7, 2) := by decide +kernel
theorem dX5_swapRefusal_25 : decode cX5_swapRefusal 25 = .ok (.ifCond .eq 8, 3) := by decide +kernel
theorem dX5_swapRefusal_28 : decode cX5_swapRefusal 28 = .ok (.iload 7, 2) := by decide +kernel
theorem dX5_swapRefusal_30 : decode cX5_swapRefusal 30 = .ok (.goto 24, 3) := by decide +kernel
theorem dX5_swapRefusal_33 : decode cX5_swapRefusal 33 = .ok (.aload_n 0, 1) := by decide +kernel
theorem dX5_swapRefusal_34 : decode cX5_swapRefusal 34 = .ok (.getfield 29, 3) := by decide +kernel
theorem dX5_swapRefusal_37 : decode cX5_swapRefusal 37 = .ok (.iload_n 1, 1) := by decide +kernel
theorem dX5_swapRefusal_38 : decode cX5_swapRefusal 38 = .ok (.iload_n 2, 1) := by decide +kernel
theorem dX5_swapRefusal_39 : decode cX5_swapRefusal 39 = .ok (.iload 6, 2) := by decide +kernel
theorem dX5_swapRefusal_41 : decode cX5_swapRefusal 41 = .ok (.aload_n 0, 1) := by decide +kernel
theorem dX5_swapRefusal_42 : decode cX5_swapRefusal 42 = .ok (.getfield 29, 3) := by decide +kernel
theorem dX5_swapRefusal_45 : decode cX5_swapRefusal 45 = .ok (.getfield 74, 3) := by decide +kernel
theorem dX5_swapRefusal_48 : decode cX5_swapRefusal 48 = .ok (.iload 4, 2) := by decide +kernel
theorem dX5_swapRefusal_50 : decode cX5_swapRefusal 50 = .ok (.iaload, 1) := by decide +kernel
theorem dX5_swapRefusal_51 : decode cX5_swapRefusal 51 = .ok (.invokevirtual 60, 3) := by decide +kernel
theorem dX5_swapRefusal_54 : decode cX5_swapRefusal 54 = .ok (.ireturn, 1) := by decide +kernel
theorem dX5_reckonRefusal_0 : decode cX5_reckonRefusal 0 = .ok (.aload_n 0, 1) := by decide +kernel
theorem dX5_reckonRefusal_1 : decode cX5_reckonRefusal 1 = .ok (.getfield 29, 3) := by decide +kernel
theorem dX5_reckonRefusal_4 : decode cX5_reckonRefusal 4 = .ok (.iload_n 1, 1) := by decide +kernel
theorem dX5_reckonRefusal_5 : decode cX5_reckonRefusal 5 = .ok (.invokevirtual 140, 3) := by decide +kernel
theorem dX5_reckonRefusal_8 : decode cX5_reckonRefusal 8 = .ok (.istore 4, 2) := by decide +kernel
theorem dX5_reckonRefusal_10 : decode cX5_reckonRefusal 10 = .ok (.aload_n 0, 1) := by decide +kernel
theorem dX5_reckonRefusal_11 : decode cX5_reckonRefusal 11 = .ok (.getfield 29, 3) := by decide +kernel
theorem dX5_reckonRefusal_14 : decode cX5_reckonRefusal 14 = .ok (.iload_n 2, 1) := by decide +kernel
theorem dX5_reckonRefusal_15 : decode cX5_reckonRefusal 15 = .ok (.invokevirtual 140, 3) := by decide +kernel
theorem dX5_reckonRefusal_18 : decode cX5_reckonRefusal 18 = .ok (.istore 5, 2) := by decide +kernel
theorem dX5_reckonRefusal_20 : decode cX5_reckonRefusal 20 = .ok (.iload 4, 2) := by decide +kernel
theorem dX5_reckonRefusal_22 : decode cX5_reckonRefusal 22 = .ok (.invokestatic 92, 3) := by decide +kernel
theorem dX5_reckonRefusal_25 : decode cX5_reckonRefusal 25 = .ok (.ifCond .ne 11, 3) := by decide +kernel
theorem dX5_reckonRefusal_28 : decode cX5_reckonRefusal 28 = .ok (.iload 5, 2) := by decide +kernel
theorem dX5_reckonRefusal_30 : decode cX5_reckonRefusal 30 = .ok (.invokestatic 92, 3) := by decide +kernel
theorem dX5_reckonRefusal_33 : decode cX5_reckonRefusal 33 = .ok (.ifCond .eq 6, 3) := by decide +kernel
theorem dX5_reckonRefusal_36 : decode cX5_reckonRefusal 36 = .ok (.bipush (-7), 2) := by decide +kernel
theorem dX5_reckonRefusal_38 : decode cX5_reckonRefusal 38 = .ok (.ireturn, 1) := by decide +kernel
theorem dX5_reckonRefusal_39 : decode cX5_reckonRefusal 39 = .ok (.iload 4, 2) := by decide +kernel
theorem dX5_reckonRefusal_41 : decode cX5_reckonRefusal 41 = .ok (.iload 5, 2) := by decide +kernel
theorem dX5_reckonRefusal_43 : decode cX5_reckonRefusal 43 = .ok (.invokestatic 96, 3) := by decide +kernel
theorem dX5_reckonRefusal_46 : decode cX5_reckonRefusal 46 = .ok (.istore 6, 2) := by decide +kernel
theorem dX5_reckonRefusal_48 : decode cX5_reckonRefusal 48 = .ok (.aload_n 0, 1) := by decide +kernel
theorem dX5_reckonRefusal_49 : decode cX5_reckonRefusal 49 = .ok (.getfield 29, 3) := by decide +kernel
theorem dX5_reckonRefusal_52 : decode cX5_reckonRefusal 52 = .ok (.iload_n 2, 1) := by decide +kernel
theorem dX5_reckonRefusal_53 : decode cX5_reckonRefusal 53 = .ok (.iload_n 3, 1) := by decide +kernel
theorem dX5_reckonRefusal_54 : decode cX5_reckonRefusal 54 = .ok (.iload 6, 2) := by decide +kernel
theorem dX5_reckonRefusal_56 : decode cX5_reckonRefusal 56 = .ok (.aload_n 0, 1) := by decide +kernel
theorem dX5_reckonRefusal_57 : decode cX5_reckonRefusal 57 = .ok (.iload_n 2, 1) := by decide +kernel
theorem dX5_reckonRefusal_58 : decode cX5_reckonRefusal 58 = .ok (.iload 6, 2) := by decide +kernel
theorem dX5_reckonRefusal_60 : decode cX5_reckonRefusal 60 = .ok (.invokevirtual 125, 3) := by decide +kernel
theorem dX5_reckonRefusal_63 : decode cX5_reckonRefusal 63 = .ok (.invokevirtual 60, 3) := by decide +kernel
theorem dX5_reckonRefusal_66 : decode cX5_reckonRefusal 66 = .ok (.ireturn, 1) := by decide +kernel
theorem dX5_copyInOrder_0 : decode cX5_copyInOrder 0 = .ok (.aload_n 0, 1) := by decide +kernel
theorem dX5_copyInOrder_1 : decode cX5_copyInOrder 1 = .ok (.getfield 29, 3) := by decide +kernel
theorem dX5_copyInOrder_4 : decode cX5_copyInOrder 4 = .ok (.getfield 149, 3) := by decide +kernel
theorem dX5_copyInOrder_7 : decode cX5_copyInOrder 7 = .ok (.iload_n 1, 1) := by decide +kernel
theorem dX5_copyInOrder_8 : decode cX5_copyInOrder 8 = .ok (.iaload, 1) := by decide +kernel
theorem dX5_copyInOrder_9 : decode cX5_copyInOrder 9 = .ok (.aload_n 0, 1) := by decide +kernel
theorem dX5_copyInOrder_10 : decode cX5_copyInOrder 10 = .ok (.getfield 29, 3) := by decide +kernel
theorem dX5_copyInOrder_13 : decode cX5_copyInOrder 13 = .ok (.getfield 149, 3) := by decide +kernel
theorem dX5_copyInOrder_16 : decode cX5_copyInOrder 16 = .ok (.iload_n 2, 1) := by decide +kernel
theorem dX5_copyInOrder_17 : decode cX5_copyInOrder 17 = .ok (.iaload, 1) := by decide +kernel
theorem dX5_copyInOrder_18 : decode cX5_copyInOrder 18 = .ok (.invokestatic 152, 3) := by decide +kernel
theorem dX5_copyInOrder_21 : decode cX5_copyInOrder 21 = .ok (.istore 4, 2) := by decide +kernel
theorem dX5_copyInOrder_23 : decode cX5_copyInOrder 23 = .ok (.iconst 0, 1) := by decide +kernel
theorem dX5_copyInOrder_24 : decode cX5_copyInOrder 24 = .ok (.istore 5, 2) := by decide +kernel
theorem dX5_copyInOrder_26 : decode cX5_copyInOrder 26 = .ok (.iconst 0, 1) := by decide +kernel
theorem dX5_copyInOrder_27 : decode cX5_copyInOrder 27 = .ok (.istore 6, 2) := by decide +kernel
theorem dX5_copyInOrder_29 : decode cX5_copyInOrder 29 = .ok (.iload 6, 2) := by decide +kernel
theorem dX5_copyInOrder_31 : decode cX5_copyInOrder 31 = .ok (.iload 4, 2) := by decide +kernel
theorem dX5_copyInOrder_33 : decode cX5_copyInOrder 33 = .ok (.if_icmp .ge 50, 3) := by decide +kernel
theorem dX5_copyInOrder_36 : decode cX5_copyInOrder 36 = .ok (.iload_n 3, 1) := by decide +kernel
theorem dX5_copyInOrder_37 : decode cX5_copyInOrder 37 = .ok (.ifCond .eq 13, 3) := by decide +kernel
theorem dX5_copyInOrder_40 : decode cX5_copyInOrder 40 = .ok (.iload 4, 2) := by decide +kernel
theorem dX5_copyInOrder_42 : decode cX5_copyInOrder 42 = .ok (.iconst 1, 1) := by decide +kernel
theorem dX5_copyInOrder_43 : decode cX5_copyInOrder 43 = .ok (.isub, 1) := by decide +kernel
theorem dX5_copyInOrder_44 : decode cX5_copyInOrder 44 = .ok (.iload 6, 2) := by decide +kernel
theorem dX5_copyInOrder_46 : decode cX5_copyInOrder 46 = .ok (.isub, 1) := by decide +kernel
theorem dX5_copyInOrder_47 : decode cX5_copyInOrder 47 = .ok (.goto 5, 3) := by decide +kernel
theorem dX5_copyInOrder_50 : decode cX5_copyInOrder 50 = .ok (.iload 6, 2) := by decide +kernel
theorem dX5_copyInOrder_52 : decode cX5_copyInOrder 52 = .ok (.istore 7, 2) := by decide +kernel
theorem dX5_copyInOrder_54 : decode cX5_copyInOrder 54 = .ok (.aload_n 0, 1) := by decide +kernel
theorem dX5_copyInOrder_55 : decode cX5_copyInOrder 55 = .ok (.iconst 0, 1) := by decide +kernel
theorem dX5_copyInOrder_56 : decode cX5_copyInOrder 56 = .ok (.iload_n 1, 1) := by decide +kernel
theorem dX5_copyInOrder_57 : decode cX5_copyInOrder 57 = .ok (.iload 7, 2) := by decide +kernel
theorem dX5_copyInOrder_59 : decode cX5_copyInOrder 59 = .ok (.iload_n 2, 1) := by decide +kernel
theorem dX5_copyInOrder_60 : decode cX5_copyInOrder 60 = .ok (.iload 7, 2) := by decide +kernel
theorem dX5_copyInOrder_62 : decode cX5_copyInOrder 62 = .ok (.invokevirtual 155, 3) := by decide +kernel
theorem dX5_copyInOrder_65 : decode cX5_copyInOrder 65 = .ok (.ifCond .eq 12, 3) := by decide +kernel
theorem dX5_copyInOrder_68 : decode cX5_copyInOrder 68 = .ok (.iload 5, 2) := by decide +kernel
theorem dX5_copyInOrder_70 : decode cX5_copyInOrder 70 = .ok (.iconst 1, 1) := by decide +kernel
theorem dX5_copyInOrder_71 : decode cX5_copyInOrder 71 = .ok (.iload 7, 2) := by decide +kernel
theorem dX5_copyInOrder_73 : decode cX5_copyInOrder 73 = .ok (.ishl, 1) := by decide +kernel
theorem dX5_copyInOrder_74 : decode cX5_copyInOrder 74 = .ok (.ior, 1) := by decide +kernel
theorem dX5_copyInOrder_75 : decode cX5_copyInOrder 75 = .ok (.istore 5, 2) := by decide +kernel
theorem dX5_copyInOrder_77 : decode cX5_copyInOrder 77 = .ok (.iinc 6 1, 3) := by decide +kernel
theorem dX5_copyInOrder_80 : decode cX5_copyInOrder 80 = .ok (.goto (-51), 3) := by decide +kernel
theorem dX5_copyInOrder_83 : decode cX5_copyInOrder 83 = .ok (.iload 5, 2) := by decide +kernel
theorem dX5_copyInOrder_85 : decode cX5_copyInOrder 85 = .ok (.ireturn, 1) := by decide +kernel
theorem dX5_copyAtOnce_0 : decode cX5_copyAtOnce 0 = .ok (.aload_n 0, 1) := by decide +kernel
theorem dX5_copyAtOnce_1 : decode cX5_copyAtOnce 1 = .ok (.getfield 29, 3) := by decide +kernel
theorem dX5_copyAtOnce_4 : decode cX5_copyAtOnce 4 = .ok (.getfield 149, 3) := by decide +kernel
theorem dX5_copyAtOnce_7 : decode cX5_copyAtOnce 7 = .ok (.iload_n 1, 1) := by decide +kernel
theorem dX5_copyAtOnce_8 : decode cX5_copyAtOnce 8 = .ok (.iaload, 1) := by decide +kernel
theorem dX5_copyAtOnce_9 : decode cX5_copyAtOnce 9 = .ok (.aload_n 0, 1) := by decide +kernel
theorem dX5_copyAtOnce_10 : decode cX5_copyAtOnce 10 = .ok (.getfield 29, 3) := by decide +kernel
theorem dX5_copyAtOnce_13 : decode cX5_copyAtOnce 13 = .ok (.getfield 149, 3) := by decide +kernel
theorem dX5_copyAtOnce_16 : decode cX5_copyAtOnce 16 = .ok (.iload_n 2, 1) := by decide +kernel
theorem dX5_copyAtOnce_17 : decode cX5_copyAtOnce 17 = .ok (.iaload, 1) := by decide +kernel
theorem dX5_copyAtOnce_18 : decode cX5_copyAtOnce 18 = .ok (.invokestatic 152, 3) := by decide +kernel
theorem dX5_copyAtOnce_21 : decode cX5_copyAtOnce 21 = .ok (.istore_n 3, 1) := by decide +kernel
theorem dX5_copyAtOnce_22 : decode cX5_copyAtOnce 22 = .ok (.iconst 0, 1) := by decide +kernel
theorem dX5_copyAtOnce_23 : decode cX5_copyAtOnce 23 = .ok (.istore 4, 2) := by decide +kernel
theorem dX5_copyAtOnce_25 : decode cX5_copyAtOnce 25 = .ok (.iconst 0, 1) := by decide +kernel
theorem dX5_copyAtOnce_26 : decode cX5_copyAtOnce 26 = .ok (.istore 5, 2) := by decide +kernel
theorem dX5_copyAtOnce_28 : decode cX5_copyAtOnce 28 = .ok (.iload 5, 2) := by decide +kernel
theorem dX5_copyAtOnce_30 : decode cX5_copyAtOnce 30 = .ok (.iload_n 3, 1) := by decide +kernel
theorem dX5_copyAtOnce_31 : decode cX5_copyAtOnce 31 = .ok (.if_icmp .ge 35, 3) := by decide +kernel
theorem dX5_copyAtOnce_34 : decode cX5_copyAtOnce 34 = .ok (.aload_n 0, 1) := by decide +kernel
theorem dX5_copyAtOnce_35 : decode cX5_copyAtOnce 35 = .ok (.iload_n 1, 1) := by decide +kernel
theorem dX5_copyAtOnce_36 : decode cX5_copyAtOnce 36 = .ok (.iload 5, 2) := by decide +kernel
theorem dX5_copyAtOnce_38 : decode cX5_copyAtOnce 38 = .ok (.aload_n 0, 1) := by decide +kernel
theorem dX5_copyAtOnce_39 : decode cX5_copyAtOnce 39 = .ok (.getfield 21, 3) := by decide +kernel
theorem dX5_copyAtOnce_42 : decode cX5_copyAtOnce 42 = .ok (.iload 5, 2) := by decide +kernel
theorem dX5_copyAtOnce_44 : decode cX5_copyAtOnce 44 = .ok (.aaload, 1) := by decide +kernel
theorem dX5_copyAtOnce_45 : decode cX5_copyAtOnce 45 = .ok (.invokevirtual 70, 3) := by decide +kernel
theorem dX5_copyAtOnce_48 : decode cX5_copyAtOnce 48 = .ok (.ifCond .eq 12, 3) := by decide +kernel
theorem dX5_copyAtOnce_51 : decode cX5_copyAtOnce 51 = .ok (.iload 4, 2) := by decide +kernel
theorem dX5_copyAtOnce_53 : decode cX5_copyAtOnce 53 = .ok (.iconst 1, 1) := by decide +kernel
theorem dX5_copyAtOnce_54 : decode cX5_copyAtOnce 54 = .ok (.iload 5, 2) := by decide +kernel
theorem dX5_copyAtOnce_56 : decode cX5_copyAtOnce 56 = .ok (.ishl, 1) := by decide +kernel
theorem dX5_copyAtOnce_57 : decode cX5_copyAtOnce 57 = .ok (.ior, 1) := by decide +kernel
theorem dX5_copyAtOnce_58 : decode cX5_copyAtOnce 58 = .ok (.istore 4, 2) := by decide +kernel
theorem dX5_copyAtOnce_60 : decode cX5_copyAtOnce 60 = .ok (.iinc 5 1, 3) := by decide +kernel
theorem dX5_copyAtOnce_63 : decode cX5_copyAtOnce 63 = .ok (.goto (-35), 3) := by decide +kernel
theorem dX5_copyAtOnce_66 : decode cX5_copyAtOnce 66 = .ok (.iconst 0, 1) := by decide +kernel
theorem dX5_copyAtOnce_67 : decode cX5_copyAtOnce 67 = .ok (.istore 5, 2) := by decide +kernel
theorem dX5_copyAtOnce_69 : decode cX5_copyAtOnce 69 = .ok (.iload 5, 2) := by decide +kernel
theorem dX5_copyAtOnce_71 : decode cX5_copyAtOnce 71 = .ok (.iload_n 3, 1) := by decide +kernel
theorem dX5_copyAtOnce_72 : decode cX5_copyAtOnce 72 = .ok (.if_icmp .ge 54, 3) := by decide +kernel
theorem dX5_copyAtOnce_75 : decode cX5_copyAtOnce 75 = .ok (.iload 4, 2) := by decide +kernel
theorem dX5_copyAtOnce_77 : decode cX5_copyAtOnce 77 = .ok (.iload 5, 2) := by decide +kernel
theorem dX5_copyAtOnce_79 : decode cX5_copyAtOnce 79 = .ok (.ishr, 1) := by decide +kernel
theorem dX5_copyAtOnce_80 : decode cX5_copyAtOnce 80 = .ok (.iconst 1, 1) := by decide +kernel
theorem dX5_copyAtOnce_81 : decode cX5_copyAtOnce 81 = .ok (.iand, 1) := by decide +kernel
theorem dX5_copyAtOnce_82 : decode cX5_copyAtOnce 82 = .ok (.ifCond .ne 38, 3) := by decide +kernel
theorem dX5_copyAtOnce_85 : decode cX5_copyAtOnce 85 = .ok (.aload_n 0, 1) := by decide +kernel
theorem dX5_copyAtOnce_86 : decode cX5_copyAtOnce 86 = .ok (.iload_n 2, 1) := by decide +kernel
theorem dX5_copyAtOnce_87 : decode cX5_copyAtOnce 87 = .ok (.iload 5, 2) := by decide +kernel
theorem dX5_copyAtOnce_89 : decode cX5_copyAtOnce 89 = .ok (.aload_n 0, 1) := by decide +kernel
theorem dX5_copyAtOnce_90 : decode cX5_copyAtOnce 90 = .ok (.getfield 21, 3) := by decide +kernel
theorem dX5_copyAtOnce_93 : decode cX5_copyAtOnce 93 = .ok (.iload 5, 2) := by decide +kernel
theorem dX5_copyAtOnce_95 : decode cX5_copyAtOnce 95 = .ok (.aaload, 1) := by decide +kernel
theorem dX5_copyAtOnce_96 : decode cX5_copyAtOnce 96 = .ok (.aload_n 0, 1) := by decide +kernel
theorem dX5_copyAtOnce_97 : decode cX5_copyAtOnce 97 = .ok (.getfield 29, 3) := by decide +kernel
theorem dX5_copyAtOnce_100 : decode cX5_copyAtOnce 100 = .ok (.getfield 74, 3) := by decide +kernel
theorem dX5_copyAtOnce_103 : decode cX5_copyAtOnce 103 = .ok (.iload_n 1, 1) := by decide +kernel
theorem dX5_copyAtOnce_104 : decode cX5_copyAtOnce 104 = .ok (.iaload, 1) := by decide +kernel
theorem dX5_copyAtOnce_105 : decode cX5_copyAtOnce 105 = .ok (.invokevirtual 77, 3) := by decide +kernel
theorem dX5_copyAtOnce_108 : decode cX5_copyAtOnce 108 = .ok (.ifCond .eq 12, 3) := by decide +kernel
theorem dX5_copyAtOnce_111 : decode cX5_copyAtOnce 111 = .ok (.iload 4, 2) := by decide +kernel
theorem dX5_copyAtOnce_113 : decode cX5_copyAtOnce 113 = .ok (.iconst 1, 1) := by decide +kernel
theorem dX5_copyAtOnce_114 : decode cX5_copyAtOnce 114 = .ok (.iload 5, 2) := by decide +kernel
theorem dX5_copyAtOnce_116 : decode cX5_copyAtOnce 116 = .ok (.ishl, 1) := by decide +kernel
theorem dX5_copyAtOnce_117 : decode cX5_copyAtOnce 117 = .ok (.ior, 1) := by decide +kernel
theorem dX5_copyAtOnce_118 : decode cX5_copyAtOnce 118 = .ok (.istore 4, 2) := by decide +kernel
theorem dX5_copyAtOnce_120 : decode cX5_copyAtOnce 120 = .ok (.iinc 5 1, 3) := by decide +kernel
theorem dX5_copyAtOnce_123 : decode cX5_copyAtOnce 123 = .ok (.goto (-54), 3) := by decide +kernel
theorem dX5_copyAtOnce_126 : decode cX5_copyAtOnce 126 = .ok (.iload 4, 2) := by decide +kernel
theorem dX5_copyAtOnce_128 : decode cX5_copyAtOnce 128 = .ok (.ireturn, 1) := by decide +kernel
theorem dX6_init_0 : decode cX6_init 0 = .ok (.aload_n 0, 1) := by decide +kernel
theorem dX6_init_1 : decode cX6_init 1 = .ok (.invokespecial 3, 3) := by decide +kernel
theorem dX6_init_4 : decode cX6_init 4 = .ok (.aload_n 0, 1) := by decide +kernel
theorem dX6_init_5 : decode cX6_init 5 = .ok (.bipush 10, 2) := by decide +kernel
theorem dX6_init_7 : decode cX6_init 7 = .ok (.putfield 9, 3) := by decide +kernel
theorem dX6_init_10 : decode cX6_init 10 = .ok (.return_, 1) := by decide +kernel
theorem dX6_become_0 : decode cX6_become 0 = .ok (.aload_n 0, 1) := by decide +kernel
theorem dX6_become_1 : decode cX6_become 1 = .ok (.iload_n 1, 1) := by decide +kernel
theorem dX6_become_2 : decode cX6_become 2 = .ok (.putfield 9, 3) := by decide +kernel
theorem dX6_become_5 : decode cX6_become 5 = .ok (.aload_n 0, 1) := by decide +kernel
theorem dX6_become_6 : decode cX6_become 6 = .ok (.lload_n 2, 1) := by decide +kernel
theorem dX6_become_7 : decode cX6_become 7 = .ok (.iload_n 1, 1) := by decide +kernel
theorem dX6_become_8 : decode cX6_become 8 = .ok (.invokestatic 15, 3) := by decide +kernel
theorem dX6_become_11 : decode cX6_become 11 = .ok (.putfield 21, 3) := by decide +kernel
theorem dX6_become_14 : decode cX6_become 14 = .ok (.return_, 1) := by decide +kernel
theorem dX6_enter_0 : decode cX6_enter 0 = .ok (.iload_n 1, 1) := by decide +kernel
theorem dX6_enter_1 : decode cX6_enter 1 = .ok (.bipush 7, 2) := by decide +kernel
theorem dX6_enter_3 : decode cX6_enter 3 = .ok (.if_icmp .gt 20, 3) := by decide +kernel
theorem dX6_enter_6 : decode cX6_enter 6 = .ok (.aload_n 0, 1) := by decide +kernel
theorem dX6_enter_7 : decode cX6_enter 7 = .ok (.iload_n 1, 1) := by decide +kernel
theorem dX6_enter_8 : decode cX6_enter 8 = .ok (.putfield 9, 3) := by decide +kernel
theorem dX6_enter_11 : decode cX6_enter 11 = .ok (.aload_n 0, 1) := by decide +kernel
theorem dX6_enter_12 : decode cX6_enter 12 = .ok (.aload_n 0, 1) := by decide +kernel
theorem dX6_enter_13 : decode cX6_enter 13 = .ok (.getfield 21, 3) := by decide +kernel
theorem dX6_enter_16 : decode cX6_enter 16 = .ok (.iload_n 1, 1) := by decide +kernel
theorem dX6_enter_17 : decode cX6_enter 17 = .ok (.invokestatic 15, 3) := by decide +kernel
theorem dX6_enter_20 : decode cX6_enter 20 = .ok (.putfield 21, 3) := by decide +kernel
theorem dX6_enter_23 : decode cX6_enter 23 = .ok (.return_, 1) := by decide +kernel
