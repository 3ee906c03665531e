theorem dX12_shares_0 : decode cX12_shares 0 = .ok (.aload_n 0, 1) := by decide +kernel
theorem dX12_shares_1 : decode cX12_shares 1 = .ok (.iconst 0, 1) := by decide +kernel
theorem dX12_shares_2 : decode cX12_shares 2 = .ok (.putfield 109, 3) := by decide +kernel
theorem dX12_shares_5 : decode cX12_shares 5 = .ok (.aload_n 0, 1) := by decide +kernel
theorem dX12_shares_6 : decode cX12_shares 6 = .ok (.iload_n 1, 1) := by decide +kernel
theorem dX12_shares_7 : decode cX12_shares 7 = .ok (.invokevirtual 152, 3) := by decide +kernel
theorem dX12_shares_10 : decode cX12_shares 10 = .ok (.ifCond .eq 11, 3) := by decide +kernel
theorem dX12_shares_13 : decode cX12_shares 13 = .ok (.aload_n 0, 1) := by decide +kernel
theorem dX12_shares_14 : decode cX12_shares 14 = .ok (.iload_n 2, 1) := by decide +kernel
theorem dX12_shares_15 : decode cX12_shares 15 = .ok (.invokevirtual 152, 3) := by decide +kernel
theorem dX12_shares_18 : decode cX12_shares 18 = .ok (.ifCond .ne 5, 3) := by decide +kernel
theorem dX12_shares_21 : decode cX12_shares 21 = .ok (.iconst (-1), 1) := by decide +kernel
theorem dX12_shares_22 : decode cX12_shares 22 = .ok (.ireturn, 1) := by decide +kernel
theorem dX12_shares_23 : decode cX12_shares 23 = .ok (.iconst 0, 1) := by decide +kernel
theorem dX12_shares_24 : decode cX12_shares 24 = .ok (.istore_n 3, 1) := by decide +kernel
theorem dX12_shares_25 : decode cX12_shares 25 = .ok (.iconst 0, 1) := by decide +kernel
theorem dX12_shares_26 : decode cX12_shares 26 = .ok (.istore 4, 2) := by decide +kernel
theorem dX12_shares_28 : decode cX12_shares 28 = .ok (.iload 4, 2) := by decide +kernel
theorem dX12_shares_30 : decode cX12_shares 30 = .ok (.aload_n 0, 1) := by decide +kernel
theorem dX12_shares_31 : decode cX12_shares 31 = .ok (.getfield 32, 3) := by decide +kernel
theorem dX12_shares_34 : decode cX12_shares 34 = .ok (.iload_n 1, 1) := by decide +kernel
theorem dX12_shares_35 : decode cX12_shares 35 = .ok (.iaload, 1) := by decide +kernel
theorem dX12_shares_36 : decode cX12_shares 36 = .ok (.if_icmp .ge 70, 3) := by decide +kernel
theorem dX12_shares_39 : decode cX12_shares 39 = .ok (.iconst 0, 1) := by decide +kernel
theorem dX12_shares_40 : decode cX12_shares 40 = .ok (.istore 5, 2) := by decide +kernel
theorem dX12_shares_42 : decode cX12_shares 42 = .ok (.iload 5, 2) := by decide +kernel
theorem dX12_shares_44 : decode cX12_shares 44 = .ok (.aload_n 0, 1) := by decide +kernel
theorem dX12_shares_45 : decode cX12_shares 45 = .ok (.getfield 32, 3) := by decide +kernel
theorem dX12_shares_48 : decode cX12_shares 48 = .ok (.iload_n 2, 1) := by decide +kernel
theorem dX12_shares_49 : decode cX12_shares 49 = .ok (.iaload, 1) := by decide +kernel
theorem dX12_shares_50 : decode cX12_shares 50 = .ok (.if_icmp .ge 50, 3) := by decide +kernel
theorem dX12_shares_53 : decode cX12_shares 53 = .ok (.iload_n 3, 1) := by decide +kernel
theorem dX12_shares_54 : decode cX12_shares 54 = .ok (.aload_n 0, 1) := by decide +kernel
theorem dX12_shares_55 : decode cX12_shares 55 = .ok (.iload_n 1, 1) := by decide +kernel
theorem dX12_shares_56 : decode cX12_shares 56 = .ok (.iload 4, 2) := by decide +kernel
theorem dX12_shares_58 : decode cX12_shares 58 = .ok (.invokevirtual 334, 3) := by decide +kernel
theorem dX12_shares_61 : decode cX12_shares 61 = .ok (.sipush (-1000), 3) := by decide +kernel
theorem dX12_shares_64 : decode cX12_shares 64 = .ok (.if_icmp .eq 27, 3) := by decide +kernel
theorem dX12_shares_67 : decode cX12_shares 67 = .ok (.aload_n 0, 1) := by decide +kernel
theorem dX12_shares_68 : decode cX12_shares 68 = .ok (.iload_n 1, 1) := by decide +kernel
theorem dX12_shares_69 : decode cX12_shares 69 = .ok (.iload 4, 2) := by decide +kernel
theorem dX12_shares_71 : decode cX12_shares 71 = .ok (.invokevirtual 334, 3) := by decide +kernel
theorem dX12_shares_74 : decode cX12_shares 74 = .ok (.aload_n 0, 1) := by decide +kernel
theorem dX12_shares_75 : decode cX12_shares 75 = .ok (.iload_n 2, 1) := by decide +kernel
theorem dX12_shares_76 : decode cX12_shares 76 = .ok (.iload 5, 2) := by decide +kernel
theorem dX12_shares_78 : decode cX12_shares 78 = .ok (.invokevirtual 334, 3) := by decide +kernel
theorem dX12_shares_81 : decode cX12_shares 81 = .ok (.if_icmp .ne 10, 3) := by decide +kernel
theorem dX12_shares_84 : decode cX12_shares 84 = .ok (.iconst 1, 1) := by decide +kernel
theorem dX12_shares_85 : decode cX12_shares 85 = .ok (.iload 4, 2) := by decide +kernel
theorem dX12_shares_87 : decode cX12_shares 87 = .ok (.ishl, 1) := by decide +kernel
theorem dX12_shares_88 : decode cX12_shares 88 = .ok (.goto 4, 3) := by decide +kernel
theorem dX12_shares_91 : decode cX12_shares 91 = .ok (.iconst 0, 1) := by decide +kernel
theorem dX12_shares_92 : decode cX12_shares 92 = .ok (.ior, 1) := by decide +kernel
theorem dX12_shares_93 : decode cX12_shares 93 = .ok (.istore_n 3, 1) := by decide +kernel
theorem dX12_shares_94 : decode cX12_shares 94 = .ok (.iinc 5 1, 3) := by decide +kernel
theorem dX12_shares_97 : decode cX12_shares 97 = .ok (.goto (-55), 3) := by decide +kernel
theorem dX12_shares_100 : decode cX12_shares 100 = .ok (.iinc 4 1, 3) := by decide +kernel
theorem dX12_shares_103 : decode cX12_shares 103 = .ok (.goto (-75), 3) := by decide +kernel
theorem dX12_shares_106 : decode cX12_shares 106 = .ok (.iload_n 3, 1) := by decide +kernel
theorem dX12_shares_107 : decode cX12_shares 107 = .ok (.ireturn, 1) := by decide +kernel
theorem dX12_areOne_0 : decode cX12_areOne 0 = .ok (.aload_n 0, 1) := by decide +kernel
theorem dX12_areOne_1 : decode cX12_areOne 1 = .ok (.iload_n 1, 1) := by decide +kernel
theorem dX12_areOne_2 : decode cX12_areOne 2 = .ok (.iload_n 2, 1) := by decide +kernel
theorem dX12_areOne_3 : decode cX12_areOne 3 = .ok (.invokevirtual 334, 3) := by decide +kernel
theorem dX12_areOne_6 : decode cX12_areOne 6 = .ok (.sipush (-1000), 3) := by decide +kernel
theorem dX12_areOne_9 : decode cX12_areOne 9 = .ok (.if_icmp .eq 23, 3) := by decide +kernel
theorem dX12_areOne_12 : decode cX12_areOne 12 = .ok (.aload_n 0, 1) := by decide +kernel
theorem dX12_areOne_13 : decode cX12_areOne 13 = .ok (.iload_n 1, 1) := by decide +kernel
theorem dX12_areOne_14 : decode cX12_areOne 14 = .ok (.iload_n 2, 1) := by decide +kernel
theorem dX12_areOne_15 : decode cX12_areOne 15 = .ok (.invokevirtual 334, 3) := by decide +kernel
theorem dX12_areOne_18 : decode cX12_areOne 18 = .ok (.aload_n 0, 1) := by decide +kernel
theorem dX12_areOne_19 : decode cX12_areOne 19 = .ok (.iload_n 3, 1) := by decide +kernel
theorem dX12_areOne_20 : decode cX12_areOne 20 = .ok (.iload 4, 2) := by decide +kernel
theorem dX12_areOne_22 : decode cX12_areOne 22 = .ok (.invokevirtual 334, 3) := by decide +kernel
theorem dX12_areOne_25 : decode cX12_areOne 25 = .ok (.if_icmp .ne 7, 3) := by decide +kernel
theorem dX12_areOne_28 : decode cX12_areOne 28 = .ok (.iconst 1, 1) := by decide +kernel
theorem dX12_areOne_29 : decode cX12_areOne 29 = .ok (.goto 4, 3) := by decide +kernel
theorem dX12_areOne_32 : decode cX12_areOne 32 = .ok (.iconst 0, 1) := by decide +kernel
theorem dX12_areOne_33 : decode cX12_areOne 33 = .ok (.ireturn, 1) := by decide +kernel
theorem dX12_safe_0 : decode cX12_safe 0 = .ok (.aload_n 0, 1) := by decide +kernel
theorem dX12_safe_1 : decode cX12_safe 1 = .ok (.iconst 0, 1) := by decide +kernel
theorem dX12_safe_2 : decode cX12_safe 2 = .ok (.putfield 109, 3) := by decide +kernel
theorem dX12_safe_5 : decode cX12_safe 5 = .ok (.aload_n 0, 1) := by decide +kernel
theorem dX12_safe_6 : decode cX12_safe 6 = .ok (.iload_n 1, 1) := by decide +kernel
theorem dX12_safe_7 : decode cX12_safe 7 = .ok (.invokevirtual 152, 3) := by decide +kernel
theorem dX12_safe_10 : decode cX12_safe 10 = .ok (.ifCond .eq 11, 3) := by decide +kernel
theorem dX12_safe_13 : decode cX12_safe 13 = .ok (.aload_n 0, 1) := by decide +kernel
theorem dX12_safe_14 : decode cX12_safe 14 = .ok (.iload_n 2, 1) := by decide +kernel
theorem dX12_safe_15 : decode cX12_safe 15 = .ok (.invokevirtual 152, 3) := by decide +kernel
theorem dX12_safe_18 : decode cX12_safe 18 = .ok (.ifCond .ne 5, 3) := by decide +kernel
theorem dX12_safe_21 : decode cX12_safe 21 = .ok (.iconst (-1), 1) := by decide +kernel
theorem dX12_safe_22 : decode cX12_safe 22 = .ok (.ireturn, 1) := by decide +kernel
theorem dX12_safe_23 : decode cX12_safe 23 = .ok (.iconst 1, 1) := by decide +kernel
theorem dX12_safe_24 : decode cX12_safe 24 = .ok (.istore_n 3, 1) := by decide +kernel
theorem dX12_safe_25 : decode cX12_safe 25 = .ok (.iconst 1, 1) := by decide +kernel
theorem dX12_safe_26 : decode cX12_safe 26 = .ok (.istore 4, 2) := by decide +kernel
theorem dX12_safe_28 : decode cX12_safe 28 = .ok (.iconst 0, 1) := by decide +kernel
theorem dX12_safe_29 : decode cX12_safe 29 = .ok (.istore 5, 2) := by decide +kernel
theorem dX12_safe_31 : decode cX12_safe 31 = .ok (.iload 5, 2) := by decide +kernel
theorem dX12_safe_33 : decode cX12_safe 33 = .ok (.aload_n 0, 1) := by decide +kernel
theorem dX12_safe_34 : decode cX12_safe 34 = .ok (.iload_n 1, 1) := by decide +kernel
theorem dX12_safe_35 : decode cX12_safe 35 = .ok (.iload_n 2, 1) := by decide +kernel
theorem dX12_safe_36 : decode cX12_safe 36 = .ok (.invokevirtual 284, 3) := by decide +kernel
theorem dX12_safe_39 : decode cX12_safe 39 = .ok (.if_icmp .ge 86, 3) := by decide +kernel
theorem dX12_safe_42 : decode cX12_safe 42 = .ok (.iconst 0, 1) := by decide +kernel
theorem dX12_safe_43 : decode cX12_safe 43 = .ok (.istore 6, 2) := by decide +kernel
theorem dX12_safe_45 : decode cX12_safe 45 = .ok (.iload 6, 2) := by decide +kernel
theorem dX12_safe_47 : decode cX12_safe 47 = .ok (.iload 5, 2) := by decide +kernel
theorem dX12_safe_49 : decode cX12_safe 49 = .ok (.if_icmp .ge 70, 3) := by decide +kernel
theorem dX12_safe_52 : decode cX12_safe 52 = .ok (.iload_n 3, 1) := by decide +kernel
theorem dX12_safe_53 : decode cX12_safe 53 = .ok (.ifCond .eq 20, 3) := by decide +kernel
theorem dX12_safe_56 : decode cX12_safe 56 = .ok (.aload_n 0, 1) := by decide +kernel
theorem dX12_safe_57 : decode cX12_safe 57 = .ok (.iload_n 1, 1) := by decide +kernel
theorem dX12_safe_58 : decode cX12_safe 58 = .ok (.iload 5, 2) := by decide +kernel
theorem dX12_safe_60 : decode cX12_safe 60 = .ok (.iload_n 2, 1) := by decide +kernel
theorem dX12_safe_61 : decode cX12_safe 61 = .ok (.iload 6, 2) := by decide +kernel
theorem dX12_safe_63 : decode cX12_safe 63 = .ok (.invokevirtual 352, 3) := by decide +kernel
theorem dX12_safe_66 : decode cX12_safe 66 = .ok (.ifCond .ne 7, 3) := by decide +kernel
theorem dX12_safe_69 : decode cX12_safe 69 = .ok (.iconst 1, 1) := by decide +kernel
theorem dX12_safe_70 : decode cX12_safe 70 = .ok (.goto 4, 3) := by decide +kernel
theorem dX12_safe_73 : decode cX12_safe 73 = .ok (.iconst 0, 1) := by decide +kernel
theorem dX12_safe_74 : decode cX12_safe 74 = .ok (.istore_n 3, 1) := by decide +kernel
theorem dX12_safe_75 : decode cX12_safe 75 = .ok (.iload 4, 2) := by decide +kernel
theorem dX12_safe_77 : decode cX12_safe 77 = .ok (.ifCond .eq 33, 3) := by decide +kernel
theorem dX12_safe_80 : decode cX12_safe 80 = .ok (.aload_n 0, 1) := by decide +kernel
theorem dX12_safe_81 : decode cX12_safe 81 = .ok (.iload_n 1, 1) := by decide +kernel
theorem dX12_safe_82 : decode cX12_safe 82 = .ok (.iload 6, 2) := by decide +kernel
theorem dX12_safe_84 : decode cX12_safe 84 = .ok (.iload_n 2, 1) := by decide +kernel
theorem dX12_safe_85 : decode cX12_safe 85 = .ok (.iload 5, 2) := by decide +kernel
theorem dX12_safe_87 : decode cX12_safe 87 = .ok (.invokevirtual 352, 3) := by decide +kernel
theorem dX12_safe_90 : decode cX12_safe 90 = .ok (.ifCond .ne 20, 3) := by decide +kernel
theorem dX12_safe_93 : decode cX12_safe 93 = .ok (.aload_n 0, 1) := by decide +kernel
theorem dX12_safe_94 : decode cX12_safe 94 = .ok (.iload_n 2, 1) := by decide +kernel
theorem dX12_safe_95 : decode cX12_safe 95 = .ok (.iload 5, 2) := by decide +kernel
theorem dX12_safe_97 : decode cX12_safe 97 = .ok (.iload_n 2, 1) := by decide +kernel
theorem dX12_safe_98 : decode cX12_safe 98 = .ok (.iload 6, 2) := by decide +kernel
theorem dX12_safe_100 : decode cX12_safe 100 = .ok (.invokevirtual 352, 3) := by decide +kernel
theorem dX12_safe_103 : decode cX12_safe 103 = .ok (.ifCond .ne 7, 3) := by decide +kernel
theorem dX12_safe_106 : decode cX12_safe 106 = .ok (.iconst 1, 1) := by decide +kernel
theorem dX12_safe_107 : decode cX12_safe 107 = .ok (.goto 4, 3) := by decide +kernel
theorem dX12_safe_110 : decode cX12_safe 110 = .ok (.iconst 0, 1) := by decide +kernel
theorem dX12_safe_111 : decode cX12_safe 111 = .ok (.istore 4, 2) := by decide +kernel
theorem dX12_safe_113 : decode cX12_safe 113 = .ok (.iinc 6 1, 3) := by decide +kernel
theorem dX12_safe_116 : decode cX12_safe 116 = .ok (.goto (-71), 3) := by decide +kernel
theorem dX12_safe_119 : decode cX12_safe 119 = .ok (.iinc 5 1, 3) := by decide +kernel
theorem dX12_safe_122 : decode cX12_safe 122 = .ok (.goto (-91), 3) := by decide +kernel
theorem dX12_safe_125 : decode cX12_safe 125 = .ok (.iload_n 3, 1) := by decide +kernel
theorem dX12_safe_126 : decode cX12_safe 126 = .ok (.ifCond .eq 7, 3) := by decide +kernel
theorem dX12_safe_129 : decode cX12_safe 129 = .ok (.iconst 1, 1) := by decide +kernel
theorem dX12_safe_130 : decode cX12_safe 130 = .ok (.goto 4, 3) := by decide +kernel
theorem dX12_safe_133 : decode cX12_safe 133 = .ok (.iconst 0, 1) := by decide +kernel
theorem dX12_safe_134 : decode cX12_safe 134 = .ok (.iload 4, 2) := by decide +kernel
theorem dX12_safe_136 : decode cX12_safe 136 = .ok (.ifCond .eq 7, 3) := by decide +kernel
theorem dX12_safe_139 : decode cX12_safe 139 = .ok (.iconst 2, 1) := by decide +kernel
theorem dX12_safe_140 : decode cX12_safe 140 = .ok (.goto 4, 3) := by decide +kernel
theorem dX12_safe_143 : decode cX12_safe 143 = .ok (.iconst 0, 1) := by decide +kernel
theorem dX12_safe_144 : decode cX12_safe 144 = .ok (.iadd, 1) := by decide +kernel
theorem dX12_safe_145 : decode cX12_safe 145 = .ok (.ireturn, 1) := by decide +kernel
theorem dX12_came_0 : decode cX12_came 0 = .ok (.iload_n 1, 1) := by decide +kernel
theorem dX12_came_1 : decode cX12_came 1 = .ok (.bipush 10, 2) := by decide +kernel
theorem dX12_came_3 : decode cX12_came 3 = .ok (.if_icmp .le 15, 3) := by decide +kernel
theorem dX12_came_6 : decode cX12_came 6 = .ok (.iload_n 1, 1) := by decide +kernel
theorem dX12_came_7 : decode cX12_came 7 = .ok (.bipush 11, 2) := by decide +kernel
theorem dX12_came_9 : decode cX12_came 9 = .ok (.if_icmp .ne 7, 3) := by decide +kernel
theorem dX12_came_12 : decode cX12_came 12 = .ok (.iconst 1, 1) := by decide +kernel
theorem dX12_came_13 : decode cX12_came 13 = .ok (.goto 4, 3) := by decide +kernel
theorem dX12_came_16 : decode cX12_came 16 = .ok (.iconst 2, 1) := by decide +kernel
theorem dX12_came_17 : decode cX12_came 17 = .ok (.ireturn, 1) := by decide +kernel
theorem dX12_came_18 : decode cX12_came 18 = .ok (.iload_n 2, 1) := by decide +kernel
theorem dX12_came_19 : decode cX12_came 19 = .ok (.bipush 9, 2) := by decide +kernel
theorem dX12_came_21 : decode cX12_came 21 = .ok (.if_icmp .ge 23, 3) := by decide +kernel
theorem dX12_came_24 : decode cX12_came 24 = .ok (.iload_n 2, 1) := by decide +kernel
theorem dX12_came_25 : decode cX12_came 25 = .ok (.bipush 8, 2) := by decide +kernel
theorem dX12_came_27 : decode cX12_came 27 = .ok (.if_icmp .eq 11, 3) := by decide +kernel
theorem dX12_came_30 : decode cX12_came 30 = .ok (.iload_n 1, 1) := by decide +kernel
theorem dX12_came_31 : decode cX12_came 31 = .ok (.iload_n 2, 1) := by decide +kernel
theorem dX12_came_32 : decode cX12_came 32 = .ok (.invokestatic 178, 3) := by decide +kernel
theorem dX12_came_35 : decode cX12_came 35 = .ok (.ifCond .eq 7, 3) := by decide +kernel
theorem dX12_came_38 : decode cX12_came 38 = .ok (.iconst 0, 1) := by decide +kernel
theorem dX12_came_39 : decode cX12_came 39 = .ok (.goto 4, 3) := by decide +kernel
theorem dX12_came_42 : decode cX12_came 42 = .ok (.iconst 3, 1) := by decide +kernel
theorem dX12_came_43 : decode cX12_came 43 = .ok (.ireturn, 1) := by decide +kernel
theorem dX12_came_44 : decode cX12_came 44 = .ok (.aload_n 0, 1) := by decide +kernel
theorem dX12_came_45 : decode cX12_came 45 = .ok (.iload_n 2, 1) := by decide +kernel
theorem dX12_came_46 : decode cX12_came 46 = .ok (.bipush 25, 2) := by decide +kernel
theorem dX12_came_48 : decode cX12_came 48 = .ok (.if_icmp .ne 8, 3) := by decide +kernel
theorem dX12_came_51 : decode cX12_came 51 = .ok (.bipush 9, 2) := by decide +kernel
theorem dX12_came_53 : decode cX12_came 53 = .ok (.goto 10, 3) := by decide +kernel
theorem dX12_came_56 : decode cX12_came 56 = .ok (.iload_n 2, 1) := by decide +kernel
theorem dX12_came_57 : decode cX12_came 57 = .ok (.bipush 9, 2) := by decide +kernel
theorem dX12_came_59 : decode cX12_came 59 = .ok (.isub, 1) := by decide +kernel
theorem dX12_came_60 : decode cX12_came 60 = .ok (.bipush 8, 2) := by decide +kernel
theorem dX12_came_62 : decode cX12_came 62 = .ok (.irem, 1) := by decide +kernel
theorem dX12_came_63 : decode cX12_came 63 = .ok (.putfield 182, 3) := by decide +kernel
theorem dX12_came_66 : decode cX12_came 66 = .ok (.aload_n 0, 1) := by decide +kernel
theorem dX12_came_67 : decode cX12_came 67 = .ok (.lconst 0, 1) := by decide +kernel
theorem dX12_came_68 : decode cX12_came 68 = .ok (.putfield 185, 3) := by decide +kernel
theorem dX12_came_71 : decode cX12_came 71 = .ok (.aload_n 0, 1) := by decide +kernel
theorem dX12_came_72 : decode cX12_came 72 = .ok (.iload_n 2, 1) := by decide +kernel
theorem dX12_came_73 : decode cX12_came 73 = .ok (.bipush 17, 2) := by decide +kernel
theorem dX12_came_75 : decode cX12_came 75 = .ok (.if_icmp .ge 10, 3) := by decide +kernel
theorem dX12_came_78 : decode cX12_came 78 = .ok (.iload_n 2, 1) := by decide +kernel
theorem dX12_came_79 : decode cX12_came 79 = .ok (.bipush 9, 2) := by decide +kernel
theorem dX12_came_81 : decode cX12_came 81 = .ok (.isub, 1) := by decide +kernel
theorem dX12_came_82 : decode cX12_came 82 = .ok (.goto 5, 3) := by decide +kernel
theorem dX12_came_85 : decode cX12_came 85 = .ok (.bipush 8, 2) := by decide +kernel
theorem dX12_came_87 : decode cX12_came 87 = .ok (.iload_n 1, 1) := by decide +kernel
theorem dX12_came_88 : decode cX12_came 88 = .ok (.invokevirtual 216, 3) := by decide +kernel
theorem dX12_came_91 : decode cX12_came 91 = .ok (.ifCond .ne 7, 3) := by decide +kernel
theorem dX12_came_94 : decode cX12_came 94 = .ok (.iconst 0, 1) := by decide +kernel
theorem dX12_came_95 : decode cX12_came 95 = .ok (.goto 4, 3) := by decide +kernel
theorem dX12_came_98 : decode cX12_came 98 = .ok (.iconst 3, 1) := by decide +kernel
theorem dX12_came_99 : decode cX12_came 99 = .ok (.ireturn, 1) := by decide +kernel
theorem dX12_sees_0 : decode cX12_sees 0 = .ok (.aload_n 0, 1) := by decide +kernel
theorem dX12_sees_1 : decode cX12_sees 1 = .ok (.iconst 0, 1) := by decide +kernel
theorem dX12_sees_2 : decode cX12_sees 2 = .ok (.putfield 109, 3) := by decide +kernel
theorem dX12_sees_5 : decode cX12_sees 5 = .ok (.iload_n 1, 1) := by decide +kernel
theorem dX12_sees_6 : decode cX12_sees 6 = .ok (.i2l, 1) := by decide +kernel
theorem dX12_sees_7 : decode cX12_sees 7 = .ok (.lconst 0, 1) := by decide +kernel
theorem dX12_sees_8 : decode cX12_sees 8 = .ok (.ldc2_w 356, 3) := by decide +kernel
theorem dX12_sees_11 : decode cX12_sees 11 = .ok (.invokestatic 118, 3) := by decide +kernel
theorem dX12_sees_14 : decode cX12_sees 14 = .ok (.ifCond .eq 15, 3) := by decide +kernel
theorem dX12_sees_17 : decode cX12_sees 17 = .ok (.iload_n 2, 1) := by decide +kernel
theorem dX12_sees_18 : decode cX12_sees 18 = .ok (.i2l, 1) := by decide +kernel
theorem dX12_sees_19 : decode cX12_sees 19 = .ok (.lconst 0, 1) := by decide +kernel
theorem dX12_sees_20 : decode cX12_sees 20 = .ok (.ldc2_w 161, 3) := by decide +kernel
theorem dX12_sees_23 : decode cX12_sees 23 = .ok (.invokestatic 118, 3) := by decide +kernel
theorem dX12_sees_26 : decode cX12_sees 26 = .ok (.ifCond .ne 5, 3) := by decide +kernel
theorem dX12_sees_29 : decode cX12_sees 29 = .ok (.iconst (-1), 1) := by decide +kernel
theorem dX12_sees_30 : decode cX12_sees 30 = .ok (.ireturn, 1) := by decide +kernel
theorem dX12_sees_31 : decode cX12_sees 31 = .ok (.aload_n 0, 1) := by decide +kernel
theorem dX12_sees_32 : decode cX12_sees 32 = .ok (.getfield 175, 3) := by decide +kernel
theorem dX12_sees_35 : decode cX12_sees 35 = .ok (.bipush 6, 2) := by decide +kernel
theorem dX12_sees_37 : decode cX12_sees 37 = .ok (.if_icmp .ne 6, 3) := by decide +kernel
theorem dX12_sees_40 : decode cX12_sees 40 = .ok (.bipush (-3), 2) := by decide +kernel
theorem dX12_sees_42 : decode cX12_sees 42 = .ok (.ireturn, 1) := by decide +kernel
theorem dX12_sees_43 : decode cX12_sees 43 = .ok (.aload_n 0, 1) := by decide +kernel
theorem dX12_sees_44 : decode cX12_sees 44 = .ok (.getfield 72, 3) := by decide +kernel
theorem dX12_sees_47 : decode cX12_sees 47 = .ok (.aload_n 0, 1) := by decide +kernel
theorem dX12_sees_48 : decode cX12_sees 48 = .ok (.getfield 175, 3) := by decide +kernel
theorem dX12_sees_51 : decode cX12_sees 51 = .ok (.iload_n 1, 1) := by decide +kernel
theorem dX12_sees_52 : decode cX12_sees 52 = .ok (.iastore, 1) := by decide +kernel
theorem dX12_sees_53 : decode cX12_sees 53 = .ok (.aload_n 0, 1) := by decide +kernel
theorem dX12_sees_54 : decode cX12_sees 54 = .ok (.getfield 75, 3) := by decide +kernel
theorem dX12_sees_57 : decode cX12_sees 57 = .ok (.aload_n 0, 1) := by decide +kernel
theorem dX12_sees_58 : decode cX12_sees 58 = .ok (.getfield 175, 3) := by decide +kernel
theorem dX12_sees_61 : decode cX12_sees 61 = .ok (.iload_n 2, 1) := by decide +kernel
theorem dX12_sees_62 : decode cX12_sees 62 = .ok (.iastore, 1) := by decide +kernel
theorem dX12_sees_63 : decode cX12_sees 63 = .ok (.aload_n 0, 1) := by decide +kernel
theorem dX12_sees_64 : decode cX12_sees 64 = .ok (.dup, 1) := by decide +kernel
theorem dX12_sees_65 : decode cX12_sees 65 = .ok (.getfield 175, 3) := by decide +kernel
theorem dX12_sees_68 : decode cX12_sees 68 = .ok (.iconst 1, 1) := by decide +kernel
theorem dX12_sees_69 : decode cX12_sees 69 = .ok (.iadd, 1) := by decide +kernel
theorem dX12_sees_70 : decode cX12_sees 70 = .ok (.putfield 175, 3) := by decide +kernel
theorem dX12_sees_73 : decode cX12_sees 73 = .ok (.aload_n 0, 1) := by decide +kernel
theorem dX12_sees_74 : decode cX12_sees 74 = .ok (.getfield 175, 3) := by decide +kernel
theorem dX12_sees_77 : decode cX12_sees 77 = .ok (.ireturn, 1) := by decide +kernel
theorem dX12_forget_0 : decode cX12_forget 0 = .ok (.aload_n 0, 1) := by decide +kernel
theorem dX12_forget_1 : decode cX12_forget 1 = .ok (.iconst 0, 1) := by decide +kernel
theorem dX12_forget_2 : decode cX12_forget 2 = .ok (.putfield 109, 3) := by decide +kernel
theorem dX12_forget_5 : decode cX12_forget 5 = .ok (.aload_n 0, 1) := by decide +kernel
theorem dX12_forget_6 : decode cX12_forget 6 = .ok (.getfield 175, 3) := by decide +kernel
theorem dX12_forget_9 : decode cX12_forget 9 = .ok (.istore_n 1, 1) := by decide +kernel
theorem dX12_forget_10 : decode cX12_forget 10 = .ok (.aload_n 0, 1) := by decide +kernel
theorem dX12_forget_11 : decode cX12_forget 11 = .ok (.iconst 0, 1) := by decide +kernel
theorem dX12_forget_12 : decode cX12_forget 12 = .ok (.putfield 175, 3) := by decide +kernel
theorem dX12_forget_15 : decode cX12_forget 15 = .ok (.iload_n 1, 1) := by decide +kernel
theorem dX12_forget_16 : decode cX12_forget 16 = .ok (.ireturn, 1) := by decide +kernel
theorem dX12_left_0 : decode cX12_left 0 = .ok (.iconst 0, 1) := by decide +kernel
theorem dX12_left_1 : decode cX12_left 1 = .ok (.istore_n 1, 1) := by decide +kernel
theorem dX12_left_2 : decode cX12_left 2 = .ok (.iconst 0, 1) := by decide +kernel
theorem dX12_left_3 : decode cX12_left 3 = .ok (.istore_n 2, 1) := by decide +kernel
theorem dX12_left_4 : decode cX12_left 4 = .ok (.iload_n 2, 1) := by decide +kernel
theorem dX12_left_5 : decode cX12_left 5 = .ok (.bipush 13, 2) := by decide +kernel
theorem dX12_left_7 : decode cX12_left 7 = .ok (.if_icmp .ge 75, 3) := by decide +kernel
theorem dX12_left_10 : decode cX12_left 10 = .ok (.iconst 1, 1) := by decide +kernel
theorem dX12_left_11 : decode cX12_left 11 = .ok (.istore_n 3, 1) := by decide +kernel
theorem dX12_left_12 : decode cX12_left 12 = .ok (.iconst 0, 1) := by decide +kernel
theorem dX12_left_13 : decode cX12_left 13 = .ok (.istore 4, 2) := by decide +kernel
theorem dX12_left_15 : decode cX12_left 15 = .ok (.iload 4, 2) := by decide +kernel
theorem dX12_left_17 : decode cX12_left 17 = .ok (.aload_n 0, 1) := by decide +kernel
theorem dX12_left_18 : decode cX12_left 18 = .ok (.getfield 175, 3) := by decide +kernel
theorem dX12_left_21 : decode cX12_left 21 = .ok (.if_icmp .ge 41, 3) := by decide +kernel
theorem dX12_left_24 : decode cX12_left 24 = .ok (.iload_n 3, 1) := by decide +kernel
theorem dX12_left_25 : decode cX12_left 25 = .ok (.ifCond .eq 29, 3) := by decide +kernel
theorem dX12_left_28 : decode cX12_left 28 = .ok (.aload_n 0, 1) := by decide +kernel
theorem dX12_left_29 : decode cX12_left 29 = .ok (.iload_n 2, 1) := by decide +kernel
theorem dX12_left_30 : decode cX12_left 30 = .ok (.aload_n 0, 1) := by decide +kernel
theorem dX12_left_31 : decode cX12_left 31 = .ok (.getfield 72, 3) := by decide +kernel
theorem dX12_left_34 : decode cX12_left 34 = .ok (.iload 4, 2) := by decide +kernel
theorem dX12_left_36 : decode cX12_left 36 = .ok (.iaload, 1) := by decide +kernel
theorem dX12_left_37 : decode cX12_left 37 = .ok (.invokevirtual 358, 3) := by decide +kernel
theorem dX12_left_40 : decode cX12_left 40 = .ok (.aload_n 0, 1) := by decide +kernel
theorem dX12_left_41 : decode cX12_left 41 = .ok (.getfield 75, 3) := by decide +kernel
theorem dX12_left_44 : decode cX12_left 44 = .ok (.iload 4, 2) := by decide +kernel
theorem dX12_left_46 : decode cX12_left 46 = .ok (.iaload, 1) := by decide +kernel
theorem dX12_left_47 : decode cX12_left 47 = .ok (.if_icmp .ne 7, 3) := by decide +kernel
theorem dX12_left_50 : decode cX12_left 50 = .ok (.iconst 1, 1) := by decide +kernel
theorem dX12_left_51 : decode cX12_left 51 = .ok (.goto 4, 3) := by decide +kernel
theorem dX12_left_54 : decode cX12_left 54 = .ok (.iconst 0, 1) := by decide +kernel
theorem dX12_left_55 : decode cX12_left 55 = .ok (.istore_n 3, 1) := by decide +kernel
theorem dX12_left_56 : decode cX12_left 56 = .ok (.iinc 4 1, 3) := by decide +kernel
theorem dX12_left_59 : decode cX12_left 59 = .ok (.goto (-44), 3) := by decide +kernel
theorem dX12_left_62 : decode cX12_left 62 = .ok (.iload_n 1, 1) := by decide +kernel
theorem dX12_left_63 : decode cX12_left 63 = .ok (.iload_n 3, 1) := by decide +kernel
theorem dX12_left_64 : decode cX12_left 64 = .ok (.ifCond .eq 9, 3) := by decide +kernel
theorem dX12_left_67 : decode cX12_left 67 = .ok (.iconst 1, 1) := by decide +kernel
theorem dX12_left_68 : decode cX12_left 68 = .ok (.iload_n 2, 1) := by decide +kernel
theorem dX12_left_69 : decode cX12_left 69 = .ok (.ishl, 1) := by decide +kernel
theorem dX12_left_70 : decode cX12_left 70 = .ok (.goto 4, 3) := by decide +kernel
theorem dX12_left_73 : decode cX12_left 73 = .ok (.iconst 0, 1) := by decide +kernel
theorem dX12_left_74 : decode cX12_left 74 = .ok (.ior, 1) := by decide +kernel
theorem dX12_left_75 : decode cX12_left 75 = .ok (.istore_n 1, 1) := by decide +kernel
theorem dX12_left_76 : decode cX12_left 76 = .ok (.iinc 2 1, 3) := by decide +kernel
theorem dX12_left_79 : decode cX12_left 79 = .ok (.goto (-75), 3) := by decide +kernel
theorem dX12_left_82 : decode cX12_left 82 = .ok (.iload_n 1, 1) := by decide +kernel
theorem dX12_left_83 : decode cX12_left 83 = .ok (.ireturn, 1) := by decide +kernel
theorem dX12_ones_0 : decode cX12_ones 0 = .ok (.iconst 0, 1) := by decide +kernel
theorem dX12_ones_1 : decode cX12_ones 1 = .ok (.istore_n 1, 1) := by decide +kernel
theorem dX12_ones_2 : decode cX12_ones 2 = .ok (.iconst 0, 1) := by decide +kernel
theorem dX12_ones_3 : decode cX12_ones 3 = .ok (.istore_n 2, 1) := by decide +kernel
theorem dX12_ones_4 : decode cX12_ones 4 = .ok (.iload_n 2, 1) := by decide +kernel
theorem dX12_ones_5 : decode cX12_ones 5 = .ok (.bipush 13, 2) := by decide +kernel
theorem dX12_ones_7 : decode cX12_ones 7 = .ok (.if_icmp .ge 17, 3) := by decide +kernel
theorem dX12_ones_10 : decode cX12_ones 10 = .ok (.iload_n 1, 1) := by decide +kernel
theorem dX12_ones_11 : decode cX12_ones 11 = .ok (.iload_n 0, 1) := by decide +kernel
theorem dX12_ones_12 : decode cX12_ones 12 = .ok (.iload_n 2, 1) := by decide +kernel
theorem dX12_ones_13 : decode cX12_ones 13 = .ok (.ishr, 1) := by decide +kernel
theorem dX12_ones_14 : decode cX12_ones 14 = .ok (.iconst 1, 1) := by decide +kernel
theorem dX12_ones_15 : decode cX12_ones 15 = .ok (.iand, 1) := by decide +kernel
theorem dX12_ones_16 : decode cX12_ones 16 = .ok (.iadd, 1) := by decide +kernel
theorem dX12_ones_17 : decode cX12_ones 17 = .ok (.istore_n 1, 1) := by decide +kernel
theorem dX12_ones_18 : decode cX12_ones 18 = .ok (.iinc 2 1, 3) := by decide +kernel
theorem dX12_ones_21 : decode cX12_ones 21 = .ok (.goto (-17), 3) := by decide +kernel
theorem dX12_ones_24 : decode cX12_ones 24 = .ok (.iload_n 1, 1) := by decide +kernel
theorem dX12_ones_25 : decode cX12_ones 25 = .ok (.ireturn, 1) := by decide +kernel
theorem dX12_unseen_0 : decode cX12_unseen 0 = .ok (.aload_n 0, 1) := by decide +kernel
theorem dX12_unseen_1 : decode cX12_unseen 1 = .ok (.iconst 0, 1) := by decide +kernel
theorem dX12_unseen_2 : decode cX12_unseen 2 = .ok (.putfield 109, 3) := by decide +kernel
theorem dX12_unseen_5 : decode cX12_unseen 5 = .ok (.iload_n 1, 1) := by decide +kernel
theorem dX12_unseen_6 : decode cX12_unseen 6 = .ok (.i2l, 1) := by decide +kernel
theorem dX12_unseen_7 : decode cX12_unseen 7 = .ok (.lconst 0, 1) := by decide +kernel
theorem dX12_unseen_8 : decode cX12_unseen 8 = .ok (.lconst 1, 1) := by decide +kernel
theorem dX12_unseen_9 : decode cX12_unseen 9 = .ok (.invokestatic 118, 3) := by decide +kernel
theorem dX12_unseen_12 : decode cX12_unseen 12 = .ok (.ifCond .ne 5, 3) := by decide +kernel
theorem dX12_unseen_15 : decode cX12_unseen 15 = .ok (.iconst (-1), 1) := by decide +kernel
theorem dX12_unseen_16 : decode cX12_unseen 16 = .ok (.ireturn, 1) := by decide +kernel
theorem dX12_unseen_17 : decode cX12_unseen 17 = .ok (.iload_n 1, 1) := by decide +kernel
theorem dX12_unseen_18 : decode cX12_unseen 18 = .ok (.ifCond .ne 13, 3) := by decide +kernel
theorem dX12_unseen_21 : decode cX12_unseen 21 = .ok (.aload_n 0, 1) := by decide +kernel
theorem dX12_unseen_22 : decode cX12_unseen 22 = .ok (.invokevirtual 361, 3) := by decide +kernel
theorem dX12_unseen_25 : decode cX12_unseen 25 = .ok (.invokestatic 364, 3) := by decide +kernel
theorem dX12_unseen_28 : decode cX12_unseen 28 = .ok (.goto 7, 3) := by decide +kernel
theorem dX12_unseen_31 : decode cX12_unseen 31 = .ok (.aload_n 0, 1) := by decide +kernel
theorem dX12_unseen_32 : decode cX12_unseen 32 = .ok (.invokevirtual 361, 3) := by decide +kernel
theorem dX12_unseen_35 : decode cX12_unseen 35 = .ok (.ireturn, 1) := by decide +kernel
theorem dX12_worstBehind_0 : decode cX12_worstBehind 0 = .ok (.iconst 0, 1) := by decide +kernel
theorem dX12_worstBehind_1 : decode cX12_worstBehind 1 = .ok (.istore_n 3, 1) := by decide +kernel
theorem dX12_worstBehind_2 : decode cX12_worstBehind 2 = .ok (.iconst 4, 1) := by decide +kernel
theorem dX12_worstBehind_3 : decode cX12_worstBehind 3 = .ok (.iload_n 2, 1) := by decide +kernel
theorem dX12_worstBehind_4 : decode cX12_worstBehind 4 = .ok (.imul, 1) := by decide +kernel
theorem dX12_worstBehind_5 : decode cX12_worstBehind 5 = .ok (.istore 4, 2) := by decide +kernel
theorem dX12_worstBehind_7 : decode cX12_worstBehind 7 = .ok (.iload 4, 2) := by decide +kernel
theorem dX12_worstBehind_9 : decode cX12_worstBehind 9 = .ok (.iconst 4, 1) := by decide +kernel
theorem dX12_worstBehind_10 : decode cX12_worstBehind 10 = .ok (.iload_n 2, 1) := by decide +kernel
theorem dX12_worstBehind_11 : decode cX12_worstBehind 11 = .ok (.imul, 1) := by decide +kernel
theorem dX12_worstBehind_12 : decode cX12_worstBehind 12 = .ok (.iconst 4, 1) := by decide +kernel
theorem dX12_worstBehind_13 : decode cX12_worstBehind 13 = .ok (.iadd, 1) := by decide +kernel
theorem dX12_worstBehind_14 : decode cX12_worstBehind 14 = .ok (.if_icmp .ge 52, 3) := by decide +kernel
theorem dX12_worstBehind_17 : decode cX12_worstBehind 17 = .ok (.iload_n 1, 1) := by decide +kernel
theorem dX12_worstBehind_18 : decode cX12_worstBehind 18 = .ok (.aload_n 0, 1) := by decide +kernel
theorem dX12_worstBehind_19 : decode cX12_worstBehind 19 = .ok (.getfield 106, 3) := by decide +kernel
theorem dX12_worstBehind_22 : decode cX12_worstBehind 22 = .ok (.iload 4, 2) := by decide +kernel
theorem dX12_worstBehind_24 : decode cX12_worstBehind 24 = .ok (.iaload, 1) := by decide +kernel
theorem dX12_worstBehind_25 : decode cX12_worstBehind 25 = .ok (.iand, 1) := by decide +kernel
theorem dX12_worstBehind_26 : decode cX12_worstBehind 26 = .ok (.istore 5, 2) := by decide +kernel
theorem dX12_worstBehind_28 : decode cX12_worstBehind 28 = .ok (.iload 5, 2) := by decide +kernel
theorem dX12_worstBehind_30 : decode cX12_worstBehind 30 = .ok (.iload_n 1, 1) := by decide +kernel
theorem dX12_worstBehind_31 : decode cX12_worstBehind 31 = .ok (.if_icmp .ne 6, 3) := by decide +kernel
theorem dX12_worstBehind_34 : decode cX12_worstBehind 34 = .ok (.bipush 99, 2) := by decide +kernel
theorem dX12_worstBehind_36 : decode cX12_worstBehind 36 = .ok (.ireturn, 1) := by decide +kernel
theorem dX12_worstBehind_37 : decode cX12_worstBehind 37 = .ok (.aload_n 0, 1) := by decide +kernel
theorem dX12_worstBehind_38 : decode cX12_worstBehind 38 = .ok (.getfield 78, 3) := by decide +kernel
theorem dX12_worstBehind_41 : decode cX12_worstBehind 41 = .ok (.iload 5, 2) := by decide +kernel
theorem dX12_worstBehind_43 : decode cX12_worstBehind 43 = .ok (.baload, 1) := by decide +kernel
theorem dX12_worstBehind_44 : decode cX12_worstBehind 44 = .ok (.iload_n 3, 1) := by decide +kernel
theorem dX12_worstBehind_45 : decode cX12_worstBehind 45 = .ok (.if_icmp .le 13, 3) := by decide +kernel
theorem dX12_worstBehind_48 : decode cX12_worstBehind 48 = .ok (.aload_n 0, 1) := by decide +kernel
theorem dX12_worstBehind_49 : decode cX12_worstBehind 49 = .ok (.getfield 78, 3) := by decide +kernel
theorem dX12_worstBehind_52 : decode cX12_worstBehind 52 = .ok (.iload 5, 2) := by decide +kernel
theorem dX12_worstBehind_54 : decode cX12_worstBehind 54 = .ok (.baload, 1) := by decide +kernel
theorem dX12_worstBehind_55 : decode cX12_worstBehind 55 = .ok (.goto 4, 3) := by decide +kernel
theorem dX12_worstBehind_58 : decode cX12_worstBehind 58 = .ok (.iload_n 3, 1) := by decide +kernel
theorem dX12_worstBehind_59 : decode cX12_worstBehind 59 = .ok (.istore_n 3, 1) := by decide +kernel
theorem dX12_worstBehind_60 : decode cX12_worstBehind 60 = .ok (.iinc 4 1, 3) := by decide +kernel
theorem dX12_worstBehind_63 : decode cX12_worstBehind 63 = .ok (.goto (-56), 3) := by decide +kernel
theorem dX12_worstBehind_66 : decode cX12_worstBehind 66 = .ok (.iload_n 3, 1) := by decide +kernel
theorem dX12_worstBehind_67 : decode cX12_worstBehind 67 = .ok (.ireturn, 1) := by decide +kernel
theorem dX12_fewestOf_0 : decode cX12_fewestOf 0 = .ok (.bipush 99, 2) := by decide +kernel
theorem dX12_fewestOf_2 : decode cX12_fewestOf 2 = .ok (.istore_n 2, 1) := by decide +kernel
theorem dX12_fewestOf_3 : decode cX12_fewestOf 3 = .ok (.iconst 0, 1) := by decide +kernel
theorem dX12_fewestOf_4 : decode cX12_fewestOf 4 = .ok (.istore_n 3, 1) := by decide +kernel
theorem dX12_fewestOf_5 : decode cX12_fewestOf 5 = .ok (.iload_n 3, 1) := by decide +kernel
theorem dX12_fewestOf_6 : decode cX12_fewestOf 6 = .ok (.bipush 26, 2) := by decide +kernel
theorem dX12_fewestOf_8 : decode cX12_fewestOf 8 = .ok (.if_icmp .ge 32, 3) := by decide +kernel
theorem dX12_fewestOf_11 : decode cX12_fewestOf 11 = .ok (.iconst 1, 1) := by decide +kernel
theorem dX12_fewestOf_12 : decode cX12_fewestOf 12 = .ok (.aload_n 0, 1) := by decide +kernel
theorem dX12_fewestOf_13 : decode cX12_fewestOf 13 = .ok (.iload_n 1, 1) := by decide +kernel
theorem dX12_fewestOf_14 : decode cX12_fewestOf 14 = .ok (.iload_n 3, 1) := by decide +kernel
theorem dX12_fewestOf_15 : decode cX12_fewestOf 15 = .ok (.invokevirtual 367, 3) := by decide +kernel
theorem dX12_fewestOf_18 : decode cX12_fewestOf 18 = .ok (.iadd, 1) := by decide +kernel
theorem dX12_fewestOf_19 : decode cX12_fewestOf 19 = .ok (.istore 4, 2) := by decide +kernel
theorem dX12_fewestOf_21 : decode cX12_fewestOf 21 = .ok (.iload 4, 2) := by decide +kernel
theorem dX12_fewestOf_23 : decode cX12_fewestOf 23 = .ok (.iload_n 2, 1) := by decide +kernel
theorem dX12_fewestOf_24 : decode cX12_fewestOf 24 = .ok (.if_icmp .ge 8, 3) := by decide +kernel
theorem dX12_fewestOf_27 : decode cX12_fewestOf 27 = .ok (.iload 4, 2) := by decide +kernel
theorem dX12_fewestOf_29 : decode cX12_fewestOf 29 = .ok (.goto 4, 3) := by decide +kernel
theorem dX12_fewestOf_32 : decode cX12_fewestOf 32 = .ok (.iload_n 2, 1) := by decide +kernel
theorem dX12_fewestOf_33 : decode cX12_fewestOf 33 = .ok (.istore_n 2, 1) := by decide +kernel
theorem dX12_fewestOf_34 : decode cX12_fewestOf 34 = .ok (.iinc 3 1, 3) := by decide +kernel
theorem dX12_fewestOf_37 : decode cX12_fewestOf 37 = .ok (.goto (-32), 3) := by decide +kernel
theorem dX12_fewestOf_40 : decode cX12_fewestOf 40 = .ok (.iload_n 2, 1) := by decide +kernel
theorem dX12_fewestOf_41 : decode cX12_fewestOf 41 = .ok (.ireturn, 1) := by decide +kernel
theorem dX12_part_0 : decode cX12_part 0 = .ok (.aload_n 0, 1) := by decide +kernel
theorem dX12_part_1 : decode cX12_part 1 = .ok (.getfield 370, 3) := by decide +kernel
theorem dX12_part_4 : decode cX12_part 4 = .ok (.ifCond .eq 4, 3) := by decide +kernel
theorem dX12_part_7 : decode cX12_part 7 = .ok (.return_, 1) := by decide +kernel
theorem dX12_part_8 : decode cX12_part 8 = .ok (.aload_n 0, 1) := by decide +kernel
theorem dX12_part_9 : decode cX12_part 9 = .ok (.iconst 1, 1) := by decide +kernel
theorem dX12_part_10 : decode cX12_part 10 = .ok (.putfield 370, 3) := by decide +kernel
theorem dX12_part_13 : decode cX12_part 13 = .ok (.iconst 0, 1) := by decide +kernel
theorem dX12_part_14 : decode cX12_part 14 = .ok (.istore_n 1, 1) := by decide +kernel
theorem dX12_part_15 : decode cX12_part 15 = .ok (.iload_n 1, 1) := by decide +kernel
theorem dX12_part_16 : decode cX12_part 16 = .ok (.bipush 26, 2) := by decide +kernel
theorem dX12_part_18 : decode cX12_part 18 = .ok (.if_icmp .ge 44, 3) := by decide +kernel
theorem dX12_part_21 : decode cX12_part 21 = .ok (.iconst 0, 1) := by decide +kernel
theorem dX12_part_22 : decode cX12_part 22 = .ok (.istore_n 2, 1) := by decide +kernel
theorem dX12_part_23 : decode cX12_part 23 = .ok (.iload_n 2, 1) := by decide +kernel
theorem dX12_part_24 : decode cX12_part 24 = .ok (.bipush 13, 2) := by decide +kernel
theorem dX12_part_26 : decode cX12_part 26 = .ok (.if_icmp .ge 30, 3) := by decide +kernel
theorem dX12_part_29 : decode cX12_part 29 = .ok (.aload_n 0, 1) := by decide +kernel
theorem dX12_part_30 : decode cX12_part 30 = .ok (.getfield 106, 3) := by decide +kernel
theorem dX12_part_33 : decode cX12_part 33 = .ok (.iconst 4, 1) := by decide +kernel
theorem dX12_part_34 : decode cX12_part 34 = .ok (.iload_n 1, 1) := by decide +kernel
theorem dX12_part_35 : decode cX12_part 35 = .ok (.imul, 1) := by decide +kernel
theorem dX12_part_36 : decode cX12_part 36 = .ok (.aload_n 0, 1) := by decide +kernel
theorem dX12_part_37 : decode cX12_part 37 = .ok (.iload_n 2, 1) := by decide +kernel
theorem dX12_part_38 : decode cX12_part 38 = .ok (.iload_n 1, 1) := by decide +kernel
theorem dX12_part_39 : decode cX12_part 39 = .ok (.invokevirtual 358, 3) := by decide +kernel
theorem dX12_part_42 : decode cX12_part 42 = .ok (.iadd, 1) := by decide +kernel
theorem dX12_part_43 : decode cX12_part 43 = .ok (.dup2, 1) := by decide +kernel
theorem dX12_part_44 : decode cX12_part 44 = .ok (.iaload, 1) := by decide +kernel
theorem dX12_part_45 : decode cX12_part 45 = .ok (.iconst 1, 1) := by decide +kernel
theorem dX12_part_46 : decode cX12_part 46 = .ok (.iload_n 2, 1) := by decide +kernel
theorem dX12_part_47 : decode cX12_part 47 = .ok (.ishl, 1) := by decide +kernel
theorem dX12_part_48 : decode cX12_part 48 = .ok (.ior, 1) := by decide +kernel
theorem dX12_part_49 : decode cX12_part 49 = .ok (.iastore, 1) := by decide +kernel
theorem dX12_part_50 : decode cX12_part 50 = .ok (.iinc 2 1, 3) := by decide +kernel
theorem dX12_part_53 : decode cX12_part 53 = .ok (.goto (-30), 3) := by decide +kernel
theorem dX12_part_56 : decode cX12_part 56 = .ok (.iinc 1 1, 3) := by decide +kernel
theorem dX12_part_59 : decode cX12_part 59 = .ok (.goto (-44), 3) := by decide +kernel
theorem dX12_part_62 : decode cX12_part 62 = .ok (.iconst 0, 1) := by decide +kernel
theorem dX12_part_63 : decode cX12_part 63 = .ok (.istore_n 1, 1) := by decide +kernel
theorem dX12_part_64 : decode cX12_part 64 = .ok (.iload_n 1, 1) := by decide +kernel
theorem dX12_part_65 : decode cX12_part 65 = .ok (.sipush 8192, 3) := by decide +kernel
theorem dX12_part_68 : decode cX12_part 68 = .ok (.if_icmp .ge 33, 3) := by decide +kernel
theorem dX12_part_71 : decode cX12_part 71 = .ok (.aload_n 0, 1) := by decide +kernel
theorem dX12_part_72 : decode cX12_part 72 = .ok (.getfield 78, 3) := by decide +kernel
theorem dX12_part_75 : decode cX12_part 75 = .ok (.iload_n 1, 1) := by decide +kernel
theorem dX12_part_76 : decode cX12_part 76 = .ok (.iload_n 1, 1) := by decide +kernel
theorem dX12_part_77 : decode cX12_part 77 = .ok (.invokestatic 364, 3) := by decide +kernel
theorem dX12_part_80 : decode cX12_part 80 = .ok (.iconst 2, 1) := by decide +kernel
theorem dX12_part_81 : decode cX12_part 81 = .ok (.if_icmp .ge 7, 3) := by decide +kernel
theorem dX12_part_84 : decode cX12_part 84 = .ok (.iconst 0, 1) := by decide +kernel
theorem dX12_part_85 : decode cX12_part 85 = .ok (.goto 8, 3) := by decide +kernel
theorem dX12_part_88 : decode cX12_part 88 = .ok (.aload_n 0, 1) := by decide +kernel
theorem dX12_part_89 : decode cX12_part 89 = .ok (.iload_n 1, 1) := by decide +kernel
theorem dX12_part_90 : decode cX12_part 90 = .ok (.invokevirtual 374, 3) := by decide +kernel
theorem dX12_part_93 : decode cX12_part 93 = .ok (.i2b, 1) := by decide +kernel
theorem dX12_part_94 : decode cX12_part 94 = .ok (.bastore, 1) := by decide +kernel
theorem dX12_part_95 : decode cX12_part 95 = .ok (.iinc 1 1, 3) := by decide +kernel
theorem dX12_part_98 : decode cX12_part 98 = .ok (.goto (-34), 3) := by decide +kernel
theorem dX12_part_101 : decode cX12_part 101 = .ok (.return_, 1) := by decide +kernel
theorem dX12_fewest_0 : decode cX12_fewest 0 = .ok (.aload_n 0, 1) := by decide +kernel
theorem dX12_fewest_1 : decode cX12_fewest 1 = .ok (.iconst 0, 1) := by decide +kernel
theorem dX12_fewest_2 : decode cX12_fewest 2 = .ok (.putfield 109, 3) := by decide +kernel
theorem dX12_fewest_5 : decode cX12_fewest 5 = .ok (.iload_n 1, 1) := by decide +kernel
theorem dX12_fewest_6 : decode cX12_fewest 6 = .ok (.i2l, 1) := by decide +kernel
theorem dX12_fewest_7 : decode cX12_fewest 7 = .ok (.lconst 0, 1) := by decide +kernel
theorem dX12_fewest_8 : decode cX12_fewest 8 = .ok (.lconst 1, 1) := by decide +kernel
theorem dX12_fewest_9 : decode cX12_fewest 9 = .ok (.invokestatic 118, 3) := by decide +kernel
theorem dX12_fewest_12 : decode cX12_fewest 12 = .ok (.ifCond .ne 5, 3) := by decide +kernel
theorem dX12_fewest_15 : decode cX12_fewest 15 = .ok (.iconst (-1), 1) := by decide +kernel
theorem dX12_fewest_16 : decode cX12_fewest 16 = .ok (.ireturn, 1) := by decide +kernel
theorem dX12_fewest_17 : decode cX12_fewest 17 = .ok (.aload_n 0, 1) := by decide +kernel
theorem dX12_fewest_18 : decode cX12_fewest 18 = .ok (.invokevirtual 377, 3) := by decide +kernel
theorem dX12_fewest_21 : decode cX12_fewest 21 = .ok (.aload_n 0, 1) := by decide +kernel
theorem dX12_fewest_22 : decode cX12_fewest 22 = .ok (.invokevirtual 361, 3) := by decide +kernel
theorem dX12_fewest_25 : decode cX12_fewest 25 = .ok (.istore_n 2, 1) := by decide +kernel
theorem dX12_fewest_26 : decode cX12_fewest 26 = .ok (.iload_n 1, 1) := by decide +kernel
theorem dX12_fewest_27 : decode cX12_fewest 27 = .ok (.ifCond .eq 11, 3) := by decide +kernel
theorem dX12_fewest_30 : decode cX12_fewest 30 = .ok (.iload_n 2, 1) := by decide +kernel
theorem dX12_fewest_31 : decode cX12_fewest 31 = .ok (.invokestatic 364, 3) := by decide +kernel
theorem dX12_fewest_34 : decode cX12_fewest 34 = .ok (.iconst 2, 1) := by decide +kernel
theorem dX12_fewest_35 : decode cX12_fewest 35 = .ok (.if_icmp .ge 19, 3) := by decide +kernel
theorem dX12_fewest_38 : decode cX12_fewest 38 = .ok (.iload_n 1, 1) := by decide +kernel
theorem dX12_fewest_39 : decode cX12_fewest 39 = .ok (.ifCond .ne 12, 3) := by decide +kernel
theorem dX12_fewest_42 : decode cX12_fewest 42 = .ok (.aload_n 0, 1) := by decide +kernel
theorem dX12_fewest_43 : decode cX12_fewest 43 = .ok (.getfield 78, 3) := by decide +kernel
theorem dX12_fewest_46 : decode cX12_fewest 46 = .ok (.iload_n 2, 1) := by decide +kernel
theorem dX12_fewest_47 : decode cX12_fewest 47 = .ok (.baload, 1) := by decide +kernel
theorem dX12_fewest_48 : decode cX12_fewest 48 = .ok (.goto 5, 3) := by decide +kernel
theorem dX12_fewest_51 : decode cX12_fewest 51 = .ok (.bipush (-20), 2) := by decide +kernel
theorem dX12_fewest_53 : decode cX12_fewest 53 = .ok (.ireturn, 1) := by decide +kernel
theorem dX12_fewest_54 : decode cX12_fewest 54 = .ok (.iconst 0, 1) := by decide +kernel
theorem dX12_fewest_55 : decode cX12_fewest 55 = .ok (.istore_n 3, 1) := by decide +kernel
theorem dX12_fewest_56 : decode cX12_fewest 56 = .ok (.iconst 1, 1) := by decide +kernel
theorem dX12_fewest_57 : decode cX12_fewest 57 = .ok (.aload_n 0, 1) := by decide +kernel
theorem dX12_fewest_58 : decode cX12_fewest 58 = .ok (.iload_n 2, 1) := by decide +kernel
theorem dX12_fewest_59 : decode cX12_fewest 59 = .ok (.iload_n 3, 1) := by decide +kernel
theorem dX12_fewest_60 : decode cX12_fewest 60 = .ok (.invokevirtual 367, 3) := by decide +kernel
theorem dX12_fewest_63 : decode cX12_fewest 63 = .ok (.iadd, 1) := by decide +kernel
theorem dX12_fewest_64 : decode cX12_fewest 64 = .ok (.aload_n 0, 1) := by decide +kernel
theorem dX12_fewest_65 : decode cX12_fewest 65 = .ok (.getfield 78, 3) := by decide +kernel
theorem dX12_fewest_68 : decode cX12_fewest 68 = .ok (.iload_n 2, 1) := by decide +kernel
theorem dX12_fewest_69 : decode cX12_fewest 69 = .ok (.baload, 1) := by decide +kernel
theorem dX12_fewest_70 : decode cX12_fewest 70 = .ok (.if_icmp .eq 9, 3) := by decide +kernel
theorem dX12_fewest_73 : decode cX12_fewest 73 = .ok (.iinc 3 1, 3) := by decide +kernel
theorem dX12_fewest_76 : decode cX12_fewest 76 = .ok (.goto (-20), 3) := by decide +kernel
theorem dX12_fewest_79 : decode cX12_fewest 79 = .ok (.iload_n 3, 1) := by decide +kernel
theorem dX12_fewest_80 : decode cX12_fewest 80 = .ok (.ireturn, 1) := by decide +kernel
theorem dX12_keep_0 : decode cX12_keep 0 = .ok (.aload_n 0, 1) := by decide +kernel
theorem dX12_keep_1 : decode cX12_keep 1 = .ok (.iconst 0, 1) := by decide +kernel
theorem dX12_keep_2 : decode cX12_keep 2 = .ok (.putfield 109, 3) := by decide +kernel
theorem dX12_keep_5 : decode cX12_keep 5 = .ok (.iload_n 1, 1) := by decide +kernel
theorem dX12_keep_6 : decode cX12_keep 6 = .ok (.i2l, 1) := by decide +kernel
theorem dX12_keep_7 : decode cX12_keep 7 = .ok (.lconst 0, 1) := by decide +kernel
theorem dX12_keep_8 : decode cX12_keep 8 = .ok (.lconst 1, 1) := by decide +kernel
theorem dX12_keep_9 : decode cX12_keep 9 = .ok (.invokestatic 118, 3) := by decide +kernel
theorem dX12_keep_12 : decode cX12_keep 12 = .ok (.ifCond .ne 5, 3) := by decide +kernel
theorem dX12_keep_15 : decode cX12_keep 15 = .ok (.iconst (-1), 1) := by decide +kernel
theorem dX12_keep_16 : decode cX12_keep 16 = .ok (.ireturn, 1) := by decide +kernel
theorem dX12_keep_17 : decode cX12_keep 17 = .ok (.aload_n 0, 1) := by decide +kernel
theorem dX12_keep_18 : decode cX12_keep 18 = .ok (.aload_n 0, 1) := by decide +kernel
theorem dX12_keep_19 : decode cX12_keep 19 = .ok (.getfield 54, 3) := by decide +kernel
theorem dX12_keep_22 : decode cX12_keep 22 = .ok (.aload_n 0, 1) := by decide +kernel
theorem dX12_keep_23 : decode cX12_keep 23 = .ok (.getfield 57, 3) := by decide +kernel
theorem dX12_keep_26 : decode cX12_keep 26 = .ok (.bipush 72, 2) := by decide +kernel
theorem dX12_keep_28 : decode cX12_keep 28 = .ok (.iload_n 1, 1) := by decide +kernel
theorem dX12_keep_29 : decode cX12_keep 29 = .ok (.imul, 1) := by decide +kernel
theorem dX12_keep_30 : decode cX12_keep 30 = .ok (.invokevirtual 248, 3) := by decide +kernel
theorem dX12_keep_33 : decode cX12_keep 33 = .ok (.aload_n 0, 1) := by decide +kernel
theorem dX12_keep_34 : decode cX12_keep 34 = .ok (.getfield 60, 3) := by decide +kernel
theorem dX12_keep_37 : decode cX12_keep 37 = .ok (.iload_n 1, 1) := by decide +kernel
theorem dX12_keep_38 : decode cX12_keep 38 = .ok (.aload_n 0, 1) := by decide +kernel
theorem dX12_keep_39 : decode cX12_keep 39 = .ok (.getfield 140, 3) := by decide +kernel
theorem dX12_keep_42 : decode cX12_keep 42 = .ok (.iastore, 1) := by decide +kernel
theorem dX12_keep_43 : decode cX12_keep 43 = .ok (.aload_n 0, 1) := by decide +kernel
theorem dX12_keep_44 : decode cX12_keep 44 = .ok (.getfield 140, 3) := by decide +kernel
theorem dX12_keep_47 : decode cX12_keep 47 = .ok (.ireturn, 1) := by decide +kernel
theorem dX12_back_0 : decode cX12_back 0 = .ok (.aload_n 0, 1) := by decide +kernel
theorem dX12_back_1 : decode cX12_back 1 = .ok (.iconst 0, 1) := by decide +kernel
theorem dX12_back_2 : decode cX12_back 2 = .ok (.putfield 109, 3) := by decide +kernel
theorem dX12_back_5 : decode cX12_back 5 = .ok (.iload_n 1, 1) := by decide +kernel
theorem dX12_back_6 : decode cX12_back 6 = .ok (.i2l, 1) := by decide +kernel
theorem dX12_back_7 : decode cX12_back 7 = .ok (.lconst 0, 1) := by decide +kernel
theorem dX12_back_8 : decode cX12_back 8 = .ok (.lconst 1, 1) := by decide +kernel
theorem dX12_back_9 : decode cX12_back 9 = .ok (.invokestatic 118, 3) := by decide +kernel
theorem dX12_back_12 : decode cX12_back 12 = .ok (.ifCond .ne 5, 3) := by decide +kernel
theorem dX12_back_15 : decode cX12_back 15 = .ok (.iconst (-1), 1) := by decide +kernel
theorem dX12_back_16 : decode cX12_back 16 = .ok (.ireturn, 1) := by decide +kernel
theorem dX12_back_17 : decode cX12_back 17 = .ok (.aload_n 0, 1) := by decide +kernel
theorem dX12_back_18 : decode cX12_back 18 = .ok (.getfield 60, 3) := by decide +kernel
theorem dX12_back_21 : decode cX12_back 21 = .ok (.iload_n 1, 1) := by decide +kernel
theorem dX12_back_22 : decode cX12_back 22 = .ok (.iaload, 1) := by decide +kernel
theorem dX12_back_23 : decode cX12_back 23 = .ok (.bipush (-20), 2) := by decide +kernel
theorem dX12_back_25 : decode cX12_back 25 = .ok (.if_icmp .ne 6, 3) := by decide +kernel
theorem dX12_back_28 : decode cX12_back 28 = .ok (.bipush (-2), 2) := by decide +kernel
theorem dX12_back_30 : decode cX12_back 30 = .ok (.ireturn, 1) := by decide +kernel
theorem dX12_back_31 : decode cX12_back 31 = .ok (.aload_n 0, 1) := by decide +kernel
theorem dX12_back_32 : decode cX12_back 32 = .ok (.aload_n 0, 1) := by decide +kernel
theorem dX12_back_33 : decode cX12_back 33 = .ok (.getfield 54, 3) := by decide +kernel
theorem dX12_back_36 : decode cX12_back 36 = .ok (.aload_n 0, 1) := by decide +kernel
theorem dX12_back_37 : decode cX12_back 37 = .ok (.getfield 57, 3) := by decide +kernel
theorem dX12_back_40 : decode cX12_back 40 = .ok (.bipush 72, 2) := by decide +kernel
theorem dX12_back_42 : decode cX12_back 42 = .ok (.iload_n 1, 1) := by decide +kernel
theorem dX12_back_43 : decode cX12_back 43 = .ok (.imul, 1) := by decide +kernel
theorem dX12_back_44 : decode cX12_back 44 = .ok (.bipush 12, 2) := by decide +kernel
theorem dX12_back_46 : decode cX12_back 46 = .ok (.aload_n 0, 1) := by decide +kernel
theorem dX12_back_47 : decode cX12_back 47 = .ok (.getfield 60, 3) := by decide +kernel
theorem dX12_back_50 : decode cX12_back 50 = .ok (.iload_n 1, 1) := by decide +kernel
theorem dX12_back_51 : decode cX12_back 51 = .ok (.iaload, 1) := by decide +kernel
theorem dX12_back_52 : decode cX12_back 52 = .ok (.imul, 1) := by decide +kernel
theorem dX12_back_53 : decode cX12_back 53 = .ok (.invokevirtual 290, 3) := by decide +kernel
theorem dX12_back_56 : decode cX12_back 56 = .ok (.aload_n 0, 1) := by decide +kernel
theorem dX12_back_57 : decode cX12_back 57 = .ok (.iconst 0, 1) := by decide +kernel
theorem dX12_back_58 : decode cX12_back 58 = .ok (.putfield 169, 3) := by decide +kernel
theorem dX12_back_61 : decode cX12_back 61 = .ok (.aload_n 0, 1) := by decide +kernel
theorem dX12_back_62 : decode cX12_back 62 = .ok (.getfield 60, 3) := by decide +kernel
theorem dX12_back_65 : decode cX12_back 65 = .ok (.iload_n 1, 1) := by decide +kernel
theorem dX12_back_66 : decode cX12_back 66 = .ok (.iaload, 1) := by decide +kernel
theorem dX12_back_67 : decode cX12_back 67 = .ok (.ireturn, 1) := by decide +kernel
theorem dX12_count_0 : decode cX12_count 0 = .ok (.aload_n 0, 1) := by decide +kernel
theorem dX12_count_1 : decode cX12_count 1 = .ok (.iconst 0, 1) := by decide +kernel
theorem dX12_count_2 : decode cX12_count 2 = .ok (.putfield 109, 3) := by decide +kernel
theorem dX12_count_5 : decode cX12_count 5 = .ok (.iload_n 1, 1) := by decide +kernel
theorem dX12_count_6 : decode cX12_count 6 = .ok (.i2l, 1) := by decide +kernel
theorem dX12_count_7 : decode cX12_count 7 = .ok (.lconst 0, 1) := by decide +kernel
theorem dX12_count_8 : decode cX12_count 8 = .ok (.ldc2_w 380, 3) := by decide +kernel
theorem dX12_count_11 : decode cX12_count 11 = .ok (.invokestatic 118, 3) := by decide +kernel
theorem dX12_count_14 : decode cX12_count 14 = .ok (.ifCond .ne 5, 3) := by decide +kernel
theorem dX12_count_17 : decode cX12_count 17 = .ok (.iconst (-1), 1) := by decide +kernel
theorem dX12_count_18 : decode cX12_count 18 = .ok (.ireturn, 1) := by decide +kernel
theorem dX12_count_19 : decode cX12_count 19 = .ok (.iload_n 1, 1) := by decide +kernel
theorem dX12_count_20 : decode cX12_count 20 = .ok (.iconst 3, 1) := by decide +kernel
theorem dX12_count_21 : decode cX12_count 21 = .ok (.if_icmp .ge 31, 3) := by decide +kernel
theorem dX12_count_24 : decode cX12_count 24 = .ok (.iload_n 1, 1) := by decide +kernel
theorem dX12_count_25 : decode cX12_count 25 = .ok (.ifCond .ne 10, 3) := by decide +kernel
theorem dX12_count_28 : decode cX12_count 28 = .ok (.aload_n 0, 1) := by decide +kernel
theorem dX12_count_29 : decode cX12_count 29 = .ok (.getfield 140, 3) := by decide +kernel
theorem dX12_count_32 : decode cX12_count 32 = .ok (.goto 19, 3) := by decide +kernel
theorem dX12_count_35 : decode cX12_count 35 = .ok (.iload_n 1, 1) := by decide +kernel
theorem dX12_count_36 : decode cX12_count 36 = .ok (.iconst 1, 1) := by decide +kernel
theorem dX12_count_37 : decode cX12_count 37 = .ok (.if_icmp .ne 10, 3) := by decide +kernel
theorem dX12_count_40 : decode cX12_count 40 = .ok (.aload_n 0, 1) := by decide +kernel
theorem dX12_count_41 : decode cX12_count 41 = .ok (.getfield 143, 3) := by decide +kernel
theorem dX12_count_44 : decode cX12_count 44 = .ok (.goto 7, 3) := by decide +kernel
theorem dX12_count_47 : decode cX12_count 47 = .ok (.aload_n 0, 1) := by decide +kernel
theorem dX12_count_48 : decode cX12_count 48 = .ok (.getfield 172, 3) := by decide +kernel
theorem dX12_count_51 : decode cX12_count 51 = .ok (.ireturn, 1) := by decide +kernel
theorem dX12_count_52 : decode cX12_count 52 = .ok (.iload_n 1, 1) := by decide +kernel
theorem dX12_count_53 : decode cX12_count 53 = .ok (.iconst 3, 1) := by decide +kernel
theorem dX12_count_54 : decode cX12_count 54 = .ok (.if_icmp .ne 10, 3) := by decide +kernel
theorem dX12_count_57 : decode cX12_count 57 = .ok (.aload_n 0, 1) := by decide +kernel
theorem dX12_count_58 : decode cX12_count 58 = .ok (.invokevirtual 300, 3) := by decide +kernel
theorem dX12_count_61 : decode cX12_count 61 = .ok (.goto 19, 3) := by decide +kernel
theorem dX12_count_64 : decode cX12_count 64 = .ok (.iload_n 1, 1) := by decide +kernel
theorem dX12_count_65 : decode cX12_count 65 = .ok (.iconst 4, 1) := by decide +kernel
theorem dX12_count_66 : decode cX12_count 66 = .ok (.if_icmp .ne 10, 3) := by decide +kernel
theorem dX12_count_69 : decode cX12_count 69 = .ok (.aload_n 0, 1) := by decide +kernel
theorem dX12_count_70 : decode cX12_count 70 = .ok (.getfield 175, 3) := by decide +kernel
theorem dX12_count_73 : decode cX12_count 73 = .ok (.goto 7, 3) := by decide +kernel
theorem dX12_count_76 : decode cX12_count 76 = .ok (.aload_n 0, 1) := by decide +kernel
theorem dX12_count_77 : decode cX12_count 77 = .ok (.getfield 169, 3) := by decide +kernel
theorem dX12_count_80 : decode cX12_count 80 = .ok (.ireturn, 1) := by decide +kernel
theorem dJ6_bitCount_0f7a4_0 : decode cJ6_bitCount_0f7a4 0 = .ok (.iload_n 0, 1) := by decide +kernel
theorem dJ6_bitCount_0f7a4_1 : decode cJ6_bitCount_0f7a4 1 = .ok (.iload_n 0, 1) := by decide +kernel
theorem dJ6_bitCount_0f7a4_2 : decode cJ6_bitCount_0f7a4 2 = .ok (.iconst 1, 1) := by decide +kernel
theorem dJ6_bitCount_0f7a4_3 : decode cJ6_bitCount_0f7a4 3 = .ok (.iushr, 1) := by decide +kernel
theorem dJ6_bitCount_0f7a4_4 : decode cJ6_bitCount_0f7a4 4 = .ok (.ldc_w 265, 3) := by decide +kernel
theorem dJ6_bitCount_0f7a4_7 : decode cJ6_bitCount_0f7a4 7 = .ok (.iand, 1) := by decide +kernel
theorem dJ6_bitCount_0f7a4_8 : decode cJ6_bitCount_0f7a4 8 = .ok (.isub, 1) := by decide +kernel
theorem dJ6_bitCount_0f7a4_9 : decode cJ6_bitCount_0f7a4 9 = .ok (.istore_n 0, 1) := by decide +kernel
theorem dJ6_bitCount_0f7a4_10 : decode cJ6_bitCount_0f7a4 10 = .ok (.iload_n 0, 1) := by decide +kernel
theorem dJ6_bitCount_0f7a4_11 : decode cJ6_bitCount_0f7a4 11 = .ok (.ldc_w 266, 3) := by decide +kernel
theorem dJ6_bitCount_0f7a4_14 : decode cJ6_bitCount_0f7a4 14 = .ok (.iand, 1) := by decide +kernel
theorem dJ6_bitCount_0f7a4_15 : decode cJ6_bitCount_0f7a4 15 = .ok (.iload_n 0, 1) := by decide +kernel
theorem dJ6_bitCount_0f7a4_16 : decode cJ6_bitCount_0f7a4 16 = .ok (.iconst 2, 1) := by decide +kernel
theorem dJ6_bitCount_0f7a4_17 : decode cJ6_bitCount_0f7a4 17 = .ok (.iushr, 1) := by decide +kernel
theorem dJ6_bitCount_0f7a4_18 : decode cJ6_bitCount_0f7a4 18 = .ok (.ldc_w 266, 3) := by decide +kernel
theorem dJ6_bitCount_0f7a4_21 : decode cJ6_bitCount_0f7a4 21 = .ok (.iand, 1) := by decide +kernel
theorem dJ6_bitCount_0f7a4_22 : decode cJ6_bitCount_0f7a4 22 = .ok (.iadd, 1) := by decide +kernel
theorem dJ6_bitCount_0f7a4_23 : decode cJ6_bitCount_0f7a4 23 = .ok (.istore_n 0, 1) := by decide +kernel
theorem dJ6_bitCount_0f7a4_24 : decode cJ6_bitCount_0f7a4 24 = .ok (.iload_n 0, 1) := by decide +kernel
theorem dJ6_bitCount_0f7a4_25 : decode cJ6_bitCount_0f7a4 25 = .ok (.iload_n 0, 1) := by decide +kernel
theorem dJ6_bitCount_0f7a4_26 : decode cJ6_bitCount_0f7a4 26 = .ok (.iconst 4, 1) := by decide +kernel
theorem dJ6_bitCount_0f7a4_27 : decode cJ6_bitCount_0f7a4 27 = .ok (.iushr, 1) := by decide +kernel
theorem dJ6_bitCount_0f7a4_28 : decode cJ6_bitCount_0f7a4 28 = .ok (.iadd, 1) := by decide +kernel
theorem dJ6_bitCount_0f7a4_29 : decode cJ6_bitCount_0f7a4 29 = .ok (.ldc_w 267, 3) := by decide +kernel
theorem dJ6_bitCount_0f7a4_32 : decode cJ6_bitCount_0f7a4 32 = .ok (.iand, 1) := by decide +kernel
theorem dJ6_bitCount_0f7a4_33 : decode cJ6_bitCount_0f7a4 33 = .ok (.istore_n 0, 1) := by decide +kernel
theorem dJ6_bitCount_0f7a4_34 : decode cJ6_bitCount_0f7a4 34 = .ok (.iload_n 0, 1) := by decide +kernel
theorem dJ6_bitCount_0f7a4_35 : decode cJ6_bitCount_0f7a4 35 = .ok (.iload_n 0, 1) := by decide +kernel
theorem dJ6_bitCount_0f7a4_36 : decode cJ6_bitCount_0f7a4 36 = .ok (.bipush 8, 2) := by decide +kernel
theorem dJ6_bitCount_0f7a4_38 : decode cJ6_bitCount_0f7a4 38 = .ok (.iushr, 1) := by decide +kernel
theorem dJ6_bitCount_0f7a4_39 : decode cJ6_bitCount_0f7a4 39 = .ok (.iadd, 1) := by decide +kernel
theorem dJ6_bitCount_0f7a4_40 : decode cJ6_bitCount_0f7a4 40 = .ok (.istore_n 0, 1) := by decide +kernel
theorem dJ6_bitCount_0f7a4_41 : decode cJ6_bitCount_0f7a4 41 = .ok (.iload_n 0, 1) := by decide +kernel
theorem dJ6_bitCount_0f7a4_42 : decode cJ6_bitCount_0f7a4 42 = .ok (.iload_n 0, 1) := by decide +kernel
theorem dJ6_bitCount_0f7a4_43 : decode cJ6_bitCount_0f7a4 43 = .ok (.bipush 16, 2) := by decide +kernel
theorem dJ6_bitCount_0f7a4_45 : decode cJ6_bitCount_0f7a4 45 = .ok (.iushr, 1) := by decide +kernel
theorem dJ6_bitCount_0f7a4_46 : decode cJ6_bitCount_0f7a4 46 = .ok (.iadd, 1) := by decide +kernel
theorem dJ6_bitCount_0f7a4_47 : decode cJ6_bitCount_0f7a4 47 = .ok (.istore_n 0, 1) := by decide +kernel
theorem dJ6_bitCount_0f7a4_48 : decode cJ6_bitCount_0f7a4 48 = .ok (.iload_n 0, 1) := by decide +kernel
theorem dJ6_bitCount_0f7a4_49 : decode cJ6_bitCount_0f7a4 49 = .ok (.bipush 63, 2) := by decide +kernel
theorem dJ6_bitCount_0f7a4_51 : decode cJ6_bitCount_0f7a4 51 = .ok (.iand, 1) := by decide +kernel
theorem dJ6_bitCount_0f7a4_52 : decode cJ6_bitCount_0f7a4 52 = .ok (.ireturn, 1) := by decide +kernel
theorem dJ9_abs_067f4_0 : decode cJ9_abs_067f4 0 = .ok (.lload_n 0, 1) := by decide +kernel
theorem dJ9_abs_067f4_1 : decode cJ9_abs_067f4 1 = .ok (.lconst 0, 1) := by decide +kernel
theorem dJ9_abs_067f4_2 : decode cJ9_abs_067f4 2 = .ok (.lcmp, 1) := by decide +kernel
theorem dJ9_abs_067f4_3 : decode cJ9_abs_067f4 3 = .ok (.ifCond .ge 8, 3) := by decide +kernel
theorem dJ9_abs_067f4_6 : decode cJ9_abs_067f4 6 = .ok (.lload_n 0, 1) := by decide +kernel
theorem dJ9_abs_067f4_7 : decode cJ9_abs_067f4 7 = .ok (.lneg, 1) := by decide +kernel
theorem dJ9_abs_067f4_8 : decode cJ9_abs_067f4 8 = .ok (.goto 4, 3) := by decide +kernel
theorem dJ9_abs_067f4_11 : decode cJ9_abs_067f4 11 = .ok (.lload_n 0, 1) := by decide +kernel
theorem dJ9_abs_067f4_12 : decode cJ9_abs_067f4 12 = .ok (.lreturn, 1) := by decide +kernel
theorem dJ9_max_7cf53_0 : decode cJ9_max_7cf53 0 = .ok (.iload_n 0, 1) := by decide +kernel
theorem dJ9_max_7cf53_1 : decode cJ9_max_7cf53 1 = .ok (.iload_n 1, 1) := by decide +kernel
theorem dJ9_max_7cf53_2 : decode cJ9_max_7cf53 2 = .ok (.if_icmp .lt 7, 3) := by decide +kernel
theorem dJ9_max_7cf53_5 : decode cJ9_max_7cf53 5 = .ok (.iload_n 0, 1) := by decide +kernel
theorem dJ9_max_7cf53_6 : decode cJ9_max_7cf53 6 = .ok (.goto 4, 3) := by decide +kernel
theorem dJ9_max_7cf53_9 : decode cJ9_max_7cf53 9 = .ok (.iload_n 1, 1) := by decide +kernel
theorem dJ9_max_7cf53_10 : decode cJ9_max_7cf53 10 = .ok (.ireturn, 1) := by decide +kernel
theorem dJ9_max_f86c9_0 : decode cJ9_max_f86c9 0 = .ok (.lload_n 0, 1) := by decide +kernel
theorem dJ9_max_f86c9_1 : decode cJ9_max_f86c9 1 = .ok (.lload_n 2, 1) := by decide +kernel
theorem dJ9_max_f86c9_2 : decode cJ9_max_f86c9 2 = .ok (.lcmp, 1) := by decide +kernel
theorem dJ9_max_f86c9_3 : decode cJ9_max_f86c9 3 = .ok (.ifCond .lt 7, 3) := by decide +kernel
theorem dJ9_max_f86c9_6 : decode cJ9_max_f86c9 6 = .ok (.lload_n 0, 1) := by decide +kernel
theorem dJ9_max_f86c9_7 : decode cJ9_max_f86c9 7 = .ok (.goto 4, 3) := by decide +kernel
theorem dJ9_max_f86c9_10 : decode cJ9_max_f86c9 10 = .ok (.lload_n 2, 1) := by decide +kernel
theorem dJ9_max_f86c9_11 : decode cJ9_max_f86c9 11 = .ok (.lreturn, 1) := by decide +kernel
theorem dJ9_min_7cf53_0 : decode cJ9_min_7cf53 0 = .ok (.iload_n 0, 1) := by decide +kernel
theorem dJ9_min_7cf53_1 : decode cJ9_min_7cf53 1 = .ok (.iload_n 1, 1) := by decide +kernel
theorem dJ9_min_7cf53_2 : decode cJ9_min_7cf53 2 = .ok (.if_icmp .gt 7, 3) := by decide +kernel
theorem dJ9_min_7cf53_5 : decode cJ9_min_7cf53 5 = .ok (.iload_n 0, 1) := by decide +kernel
theorem dJ9_min_7cf53_6 : decode cJ9_min_7cf53 6 = .ok (.goto 4, 3) := by decide +kernel
theorem dJ9_min_7cf53_9 : decode cJ9_min_7cf53 9 = .ok (.iload_n 1, 1) := by decide +kernel
theorem dJ9_min_7cf53_10 : decode cJ9_min_7cf53 10 = .ok (.ireturn, 1) := by decide +kernel
theorem dL_law_0 : decode cL_law 0 = .ok (.new 7, 3) := by decide +kernel
theorem dL_law_3 : decode cL_law 3 = .ok (.dup, 1) := by decide +kernel
theorem dL_law_4 : decode cL_law 4 = .ok (.invokespecial 9, 3) := by decide +kernel
theorem dL_law_7 : decode cL_law 7 = .ok (.astore_n 1, 1) := by decide +kernel
theorem dL_law_8 : decode cL_law 8 = .ok (.new 10, 3) := by decide +kernel
theorem dL_law_11 : decode cL_law 11 = .ok (.dup, 1) := by decide +kernel
theorem dL_law_12 : decode cL_law 12 = .ok (.invokespecial 12, 3) := by decide +kernel
theorem dL_law_15 : decode cL_law 15 = .ok (.astore_n 2, 1) := by decide +kernel
theorem dL_law_16 : decode cL_law 16 = .ok (.iconst 0, 1) := by decide +kernel
theorem dL_law_17 : decode cL_law 17 = .ok (.istore_n 3, 1) := by decide +kernel
theorem dL_law_18 : decode cL_law 18 = .ok (.iload_n 3, 1) := by decide +kernel
theorem dL_law_19 : decode cL_law 19 = .ok (.aload_n 0, 1) := by decide +kernel
theorem dL_law_20 : decode cL_law 20 = .ok (.arraylength, 1) := by decide +kernel
theorem dL_law_21 : decode cL_law 21 = .ok (.bipush 7, 2) := by decide +kernel
theorem dL_law_23 : decode cL_law 23 = .ok (.isub, 1) := by decide +kernel
theorem dL_law_24 : decode cL_law 24 = .ok (.if_icmp .gt 1110, 3) := by decide +kernel
theorem dL_law_27 : decode cL_law 27 = .ok (.aload_n 0, 1) := by decide +kernel
theorem dL_law_28 : decode cL_law 28 = .ok (.iload_n 3, 1) := by decide +kernel
theorem dL_law_29 : decode cL_law 29 = .ok (.iaload, 1) := by decide +kernel
theorem dL_law_30 : decode cL_law 30 = .ok (.bipush 31, 2) := by decide +kernel
theorem dL_law_32 : decode cL_law 32 = .ok (.iand, 1) := by decide +kernel
theorem dL_law_33 : decode cL_law 33 = .ok (.tableswitch 1095 0 30 #[139, 172, 235, 248, 281, 314, 328, 341, 436, 499, 542, 555, 618, 631, 664, 677, 710, 733, 756, 779, 792, 825, 868, 901, 934, 967, 980, 1003, 1026, 1049, 1072], 139) := by decide +kernel
theorem dL_law_172 : decode cL_law 172 = .ok (.aload_n 1, 1) := by decide +kernel
theorem dL_law_173 : decode cL_law 173 = .ok (.aload_n 0, 1) := by decide +kernel
theorem dL_law_174 : decode cL_law 174 = .ok (.iload_n 3, 1) := by decide +kernel
theorem dL_law_175 : decode cL_law 175 = .ok (.iconst 1, 1) := by decide +kernel
theorem dL_law_176 : decode cL_law 176 = .ok (.iadd, 1) := by decide +kernel
theorem dL_law_177 : decode cL_law 177 = .ok (.iaload, 1) := by decide +kernel
theorem dL_law_178 : decode cL_law 178 = .ok (.aload_n 0, 1) := by decide +kernel
theorem dL_law_179 : decode cL_law 179 = .ok (.iload_n 3, 1) := by decide +kernel
theorem dL_law_180 : decode cL_law 180 = .ok (.iconst 2, 1) := by decide +kernel
theorem dL_law_181 : decode cL_law 181 = .ok (.iadd, 1) := by decide +kernel
theorem dL_law_182 : decode cL_law 182 = .ok (.iaload, 1) := by decide +kernel
theorem dL_law_183 : decode cL_law 183 = .ok (.invokevirtual 13, 3) := by decide +kernel
theorem dL_law_186 : decode cL_law 186 = .ok (.aload_n 2, 1) := by decide +kernel
theorem dL_law_187 : decode cL_law 187 = .ok (.aload_n 0, 1) := by decide +kernel
theorem dL_law_188 : decode cL_law 188 = .ok (.iload_n 3, 1) := by decide +kernel
theorem dL_law_189 : decode cL_law 189 = .ok (.iconst 1, 1) := by decide +kernel
theorem dL_law_190 : decode cL_law 190 = .ok (.iadd, 1) := by decide +kernel
theorem dL_law_191 : decode cL_law 191 = .ok (.iaload, 1) := by decide +kernel
theorem dL_law_192 : decode cL_law 192 = .ok (.aload_n 0, 1) := by decide +kernel
theorem dL_law_193 : decode cL_law 193 = .ok (.iload_n 3, 1) := by decide +kernel
theorem dL_law_194 : decode cL_law 194 = .ok (.iconst 2, 1) := by decide +kernel
theorem dL_law_195 : decode cL_law 195 = .ok (.iadd, 1) := by decide +kernel
theorem dL_law_196 : decode cL_law 196 = .ok (.iaload, 1) := by decide +kernel
theorem dL_law_197 : decode cL_law 197 = .ok (.invokevirtual 17, 3) := by decide +kernel
theorem dL_law_200 : decode cL_law 200 = .ok (.if_icmp .eq 928, 3) := by decide +kernel
theorem dL_law_203 : decode cL_law 203 = .ok (.iconst 0, 1) := by decide +kernel
theorem dL_law_204 : decode cL_law 204 = .ok (.ireturn, 1) := by decide +kernel
theorem dL_law_205 : decode cL_law 205 = .ok (.aload_n 1, 1) := by decide +kernel
theorem dL_law_206 : decode cL_law 206 = .ok (.aload_n 0, 1) := by decide +kernel
theorem dL_law_207 : decode cL_law 207 = .ok (.iload_n 3, 1) := by decide +kernel
theorem dL_law_208 : decode cL_law 208 = .ok (.iconst 1, 1) := by decide +kernel
theorem dL_law_209 : decode cL_law 209 = .ok (.iadd, 1) := by decide +kernel
theorem dL_law_210 : decode cL_law 210 = .ok (.iaload, 1) := by decide +kernel
theorem dL_law_211 : decode cL_law 211 = .ok (.aload_n 0, 1) := by decide +kernel
theorem dL_law_212 : decode cL_law 212 = .ok (.iload_n 3, 1) := by decide +kernel
theorem dL_law_213 : decode cL_law 213 = .ok (.iconst 2, 1) := by decide +kernel
theorem dL_law_214 : decode cL_law 214 = .ok (.iadd, 1) := by decide +kernel
theorem dL_law_215 : decode cL_law 215 = .ok (.iaload, 1) := by decide +kernel
theorem dL_law_216 : decode cL_law 216 = .ok (.aload_n 0, 1) := by decide +kernel
theorem dL_law_217 : decode cL_law 217 = .ok (.iload_n 3, 1) := by decide +kernel
theorem dL_law_218 : decode cL_law 218 = .ok (.iconst 3, 1) := by decide +kernel
theorem dL_law_219 : decode cL_law 219 = .ok (.iadd, 1) := by decide +kernel
theorem dL_law_220 : decode cL_law 220 = .ok (.iaload, 1) := by decide +kernel
theorem dL_law_221 : decode cL_law 221 = .ok (.aload_n 0, 1) := by decide +kernel
theorem dL_law_222 : decode cL_law 222 = .ok (.iload_n 3, 1) := by decide +kernel
theorem dL_law_223 : decode cL_law 223 = .ok (.iconst 4, 1) := by decide +kernel
theorem dL_law_224 : decode cL_law 224 = .ok (.iadd, 1) := by decide +kernel
theorem dL_law_225 : decode cL_law 225 = .ok (.iaload, 1) := by decide +kernel
theorem dL_law_226 : decode cL_law 226 = .ok (.aload_n 0, 1) := by decide +kernel
theorem dL_law_227 : decode cL_law 227 = .ok (.iload_n 3, 1) := by decide +kernel
theorem dL_law_228 : decode cL_law 228 = .ok (.iconst 5, 1) := by decide +kernel
theorem dL_law_229 : decode cL_law 229 = .ok (.iadd, 1) := by decide +kernel
theorem dL_law_230 : decode cL_law 230 = .ok (.iaload, 1) := by decide +kernel
theorem dL_law_231 : decode cL_law 231 = .ok (.invokevirtual 18, 3) := by decide +kernel
theorem dL_law_234 : decode cL_law 234 = .ok (.aload_n 2, 1) := by decide +kernel
theorem dL_law_235 : decode cL_law 235 = .ok (.aload_n 0, 1) := by decide +kernel
theorem dL_law_236 : decode cL_law 236 = .ok (.iload_n 3, 1) := by decide +kernel
theorem dL_law_237 : decode cL_law 237 = .ok (.iconst 1, 1) := by decide +kernel
theorem dL_law_238 : decode cL_law 238 = .ok (.iadd, 1) := by decide +kernel
theorem dL_law_239 : decode cL_law 239 = .ok (.iaload, 1) := by decide +kernel
theorem dL_law_240 : decode cL_law 240 = .ok (.aload_n 0, 1) := by decide +kernel
theorem dL_law_241 : decode cL_law 241 = .ok (.iload_n 3, 1) := by decide +kernel
theorem dL_law_242 : decode cL_law 242 = .ok (.iconst 2, 1) := by decide +kernel
theorem dL_law_243 : decode cL_law 243 = .ok (.iadd, 1) := by decide +kernel
theorem dL_law_244 : decode cL_law 244 = .ok (.iaload, 1) := by decide +kernel
theorem dL_law_245 : decode cL_law 245 = .ok (.aload_n 0, 1) := by decide +kernel
theorem dL_law_246 : decode cL_law 246 = .ok (.iload_n 3, 1) := by decide +kernel
theorem dL_law_247 : decode cL_law 247 = .ok (.iconst 3, 1) := by decide +kernel
theorem dL_law_248 : decode cL_law 248 = .ok (.iadd, 1) := by decide +kernel
theorem dL_law_249 : decode cL_law 249 = .ok (.iaload, 1) := by decide +kernel
theorem dL_law_250 : decode cL_law 250 = .ok (.aload_n 0, 1) := by decide +kernel
theorem dL_law_251 : decode cL_law 251 = .ok (.iload_n 3, 1) := by decide +kernel
theorem dL_law_252 : decode cL_law 252 = .ok (.iconst 4, 1) := by decide +kernel
theorem dL_law_253 : decode cL_law 253 = .ok (.iadd, 1) := by decide +kernel
theorem dL_law_254 : decode cL_law 254 = .ok (.iaload, 1) := by decide +kernel
theorem dL_law_255 : decode cL_law 255 = .ok (.aload_n 0, 1) := by decide +kernel
theorem dL_law_256 : decode cL_law 256 = .ok (.iload_n 3, 1) := by decide +kernel
theorem dL_law_257 : decode cL_law 257 = .ok (.iconst 5, 1) := by decide +kernel
theorem dL_law_258 : decode cL_law 258 = .ok (.iadd, 1) := by decide +kernel
theorem dL_law_259 : decode cL_law 259 = .ok (.iaload, 1) := by decide +kernel
theorem dL_law_260 : decode cL_law 260 = .ok (.invokevirtual 22, 3) := by decide +kernel
theorem dL_law_263 : decode cL_law 263 = .ok (.if_icmp .eq 865, 3) := by decide +kernel
theorem dL_law_266 : decode cL_law 266 = .ok (.iconst 0, 1) := by decide +kernel
theorem dL_law_267 : decode cL_law 267 = .ok (.ireturn, 1) := by decide +kernel
theorem dL_law_268 : decode cL_law 268 = .ok (.aload_n 1, 1) := by decide +kernel
theorem dL_law_269 : decode cL_law 269 = .ok (.invokevirtual 23, 3) := by decide +kernel
theorem dL_law_272 : decode cL_law 272 = .ok (.aload_n 2, 1) := by decide +kernel
theorem dL_law_273 : decode cL_law 273 = .ok (.invokevirtual 27, 3) := by decide +kernel
theorem dL_law_276 : decode cL_law 276 = .ok (.if_icmp .eq 852, 3) := by decide +kernel
theorem dL_law_279 : decode cL_law 279 = .ok (.iconst 0, 1) := by decide +kernel
theorem dL_law_280 : decode cL_law 280 = .ok (.ireturn, 1) := by decide +kernel
theorem dL_law_281 : decode cL_law 281 = .ok (.aload_n 1, 1) := by decide +kernel
theorem dL_law_282 : decode cL_law 282 = .ok (.aload_n 0, 1) := by decide +kernel
theorem dL_law_283 : decode cL_law 283 = .ok (.iload_n 3, 1) := by decide +kernel
theorem dL_law_284 : decode cL_law 284 = .ok (.iconst 1, 1) := by decide +kernel
theorem dL_law_285 : decode cL_law 285 = .ok (.iadd, 1) := by decide +kernel
theorem dL_law_286 : decode cL_law 286 = .ok (.iaload, 1) := by decide +kernel
theorem dL_law_287 : decode cL_law 287 = .ok (.aload_n 0, 1) := by decide +kernel
theorem dL_law_288 : decode cL_law 288 = .ok (.iload_n 3, 1) := by decide +kernel
theorem dL_law_289 : decode cL_law 289 = .ok (.iconst 2, 1) := by decide +kernel
theorem dL_law_290 : decode cL_law 290 = .ok (.iadd, 1) := by decide +kernel
theorem dL_law_291 : decode cL_law 291 = .ok (.iaload, 1) := by decide +kernel
theorem dL_law_292 : decode cL_law 292 = .ok (.invokevirtual 28, 3) := by decide +kernel
theorem dL_law_295 : decode cL_law 295 = .ok (.aload_n 2, 1) := by decide +kernel
theorem dL_law_296 : decode cL_law 296 = .ok (.aload_n 0, 1) := by decide +kernel
theorem dL_law_297 : decode cL_law 297 = .ok (.iload_n 3, 1) := by decide +kernel
theorem dL_law_298 : decode cL_law 298 = .ok (.iconst 1, 1) := by decide +kernel
theorem dL_law_299 : decode cL_law 299 = .ok (.iadd, 1) := by decide +kernel
theorem dL_law_300 : decode cL_law 300 = .ok (.iaload, 1) := by decide +kernel
theorem dL_law_301 : decode cL_law 301 = .ok (.aload_n 0, 1) := by decide +kernel
theorem dL_law_302 : decode cL_law 302 = .ok (.iload_n 3, 1) := by decide +kernel
theorem dL_law_303 : decode cL_law 303 = .ok (.iconst 2, 1) := by decide +kernel
theorem dL_law_304 : decode cL_law 304 = .ok (.iadd, 1) := by decide +kernel
theorem dL_law_305 : decode cL_law 305 = .ok (.iaload, 1) := by decide +kernel
theorem dL_law_306 : decode cL_law 306 = .ok (.invokevirtual 31, 3) := by decide +kernel
theorem dL_law_309 : decode cL_law 309 = .ok (.if_icmp .eq 819, 3) := by decide +kernel
theorem dL_law_312 : decode cL_law 312 = .ok (.iconst 0, 1) := by decide +kernel
theorem dL_law_313 : decode cL_law 313 = .ok (.ireturn, 1) := by decide +kernel
theorem dL_law_314 : decode cL_law 314 = .ok (.aload_n 1, 1) := by decide +kernel
theorem dL_law_315 : decode cL_law 315 = .ok (.aload_n 0, 1) := by decide +kernel
theorem dL_law_316 : decode cL_law 316 = .ok (.iload_n 3, 1) := by decide +kernel
theorem dL_law_317 : decode cL_law 317 = .ok (.iconst 1, 1) := by decide +kernel
theorem dL_law_318 : decode cL_law 318 = .ok (.iadd, 1) := by decide +kernel
theorem dL_law_319 : decode cL_law 319 = .ok (.iaload, 1) := by decide +kernel
theorem dL_law_320 : decode cL_law 320 = .ok (.aload_n 0, 1) := by decide +kernel
theorem dL_law_321 : decode cL_law 321 = .ok (.iload_n 3, 1) := by decide +kernel
theorem dL_law_322 : decode cL_law 322 = .ok (.iconst 2, 1) := by decide +kernel
theorem dL_law_323 : decode cL_law 323 = .ok (.iadd, 1) := by decide +kernel
theorem dL_law_324 : decode cL_law 324 = .ok (.iaload, 1) := by decide +kernel
theorem dL_law_325 : decode cL_law 325 = .ok (.invokevirtual 32, 3) := by decide +kernel
theorem dL_law_328 : decode cL_law 328 = .ok (.aload_n 2, 1) := by decide +kernel
theorem dL_law_329 : decode cL_law 329 = .ok (.aload_n 0, 1) := by decide +kernel
theorem dL_law_330 : decode cL_law 330 = .ok (.iload_n 3, 1) := by decide +kernel
theorem dL_law_331 : decode cL_law 331 = .ok (.iconst 1, 1) := by decide +kernel
theorem dL_law_332 : decode cL_law 332 = .ok (.iadd, 1) := by decide +kernel
theorem dL_law_333 : decode cL_law 333 = .ok (.iaload, 1) := by decide +kernel
theorem dL_law_334 : decode cL_law 334 = .ok (.aload_n 0, 1) := by decide +kernel
theorem dL_law_335 : decode cL_law 335 = .ok (.iload_n 3, 1) := by decide +kernel
theorem dL_law_336 : decode cL_law 336 = .ok (.iconst 2, 1) := by decide +kernel
theorem dL_law_337 : decode cL_law 337 = .ok (.iadd, 1) := by decide +kernel
theorem dL_law_338 : decode cL_law 338 = .ok (.iaload, 1) := by decide +kernel
theorem dL_law_339 : decode cL_law 339 = .ok (.invokevirtual 35, 3) := by decide +kernel
theorem dL_law_342 : decode cL_law 342 = .ok (.if_icmp .eq 786, 3) := by decide +kernel
theorem dL_law_345 : decode cL_law 345 = .ok (.iconst 0, 1) := by decide +kernel
theorem dL_law_346 : decode cL_law 346 = .ok (.ireturn, 1) := by decide +kernel
theorem dL_law_347 : decode cL_law 347 = .ok (.aload_n 1, 1) := by decide +kernel
theorem dL_law_348 : decode cL_law 348 = .ok (.invokevirtual 36, 3) := by decide +kernel
theorem dL_law_351 : decode cL_law 351 = .ok (.aload_n 2, 1) := by decide +kernel
theorem dL_law_352 : decode cL_law 352 = .ok (.invokevirtual 40, 3) := by decide +kernel
theorem dL_law_355 : decode cL_law 355 = .ok (.lcmp, 1) := by decide +kernel
theorem dL_law_356 : decode cL_law 356 = .ok (.ifCond .eq 772, 3) := by decide +kernel
theorem dL_law_359 : decode cL_law 359 = .ok (.iconst 0, 1) := by decide +kernel
theorem dL_law_360 : decode cL_law 360 = .ok (.ireturn, 1) := by decide +kernel
theorem dL_law_361 : decode cL_law 361 = .ok (.aload_n 1, 1) := by decide +kernel
theorem dL_law_362 : decode cL_law 362 = .ok (.invokevirtual 41, 3) := by decide +kernel
theorem dL_law_365 : decode cL_law 365 = .ok (.aload_n 2, 1) := by decide +kernel
theorem dL_law_366 : decode cL_law 366 = .ok (.invokevirtual 44, 3) := by decide +kernel
theorem dL_law_369 : decode cL_law 369 = .ok (.if_icmp .eq 759, 3) := by decide +kernel
theorem dL_law_372 : decode cL_law 372 = .ok (.iconst 0, 1) := by decide +kernel
theorem dL_law_373 : decode cL_law 373 = .ok (.ireturn, 1) := by decide +kernel
theorem dL_law_374 : decode cL_law 374 = .ok (.aload_n 1, 1) := by decide +kernel
theorem dL_law_375 : decode cL_law 375 = .ok (.aload_n 0, 1) := by decide +kernel
theorem dL_law_376 : decode cL_law 376 = .ok (.iload_n 3, 1) := by decide +kernel
theorem dL_law_377 : decode cL_law 377 = .ok (.iconst 1, 1) := by decide +kernel
theorem dL_law_378 : decode cL_law 378 = .ok (.iadd, 1) := by decide +kernel
theorem dL_law_379 : decode cL_law 379 = .ok (.iaload, 1) := by decide +kernel
theorem dL_law_380 : decode cL_law 380 = .ok (.aload_n 0, 1) := by decide +kernel
theorem dL_law_381 : decode cL_law 381 = .ok (.iload_n 3, 1) := by decide +kernel
theorem dL_law_382 : decode cL_law 382 = .ok (.iconst 2, 1) := by decide +kernel
theorem dL_law_383 : decode cL_law 383 = .ok (.iadd, 1) := by decide +kernel
theorem dL_law_384 : decode cL_law 384 = .ok (.iaload, 1) := by decide +kernel
theorem dL_law_385 : decode cL_law 385 = .ok (.aload_n 0, 1) := by decide +kernel
theorem dL_law_386 : decode cL_law 386 = .ok (.iload_n 3, 1) := by decide +kernel
theorem dL_law_387 : decode cL_law 387 = .ok (.iconst 3, 1) := by decide +kernel
theorem dL_law_388 : decode cL_law 388 = .ok (.iadd, 1) := by decide +kernel
theorem dL_law_389 : decode cL_law 389 = .ok (.iaload, 1) := by decide +kernel
theorem dL_law_390 : decode cL_law 390 = .ok (.aload_n 0, 1) := by decide +kernel
theorem dL_law_391 : decode cL_law 391 = .ok (.iload_n 3, 1) := by decide +kernel
theorem dL_law_392 : decode cL_law 392 = .ok (.iconst 4, 1) := by decide +kernel
theorem dL_law_393 : decode cL_law 393 = .ok (.iadd, 1) := by decide +kernel
theorem dL_law_394 : decode cL_law 394 = .ok (.iaload, 1) := by decide +kernel
theorem dL_law_395 : decode cL_law 395 = .ok (.aload_n 0, 1) := by decide +kernel
theorem dL_law_396 : decode cL_law 396 = .ok (.iload_n 3, 1) := by decide +kernel
theorem dL_law_397 : decode cL_law 397 = .ok (.iconst 5, 1) := by decide +kernel
theorem dL_law_398 : decode cL_law 398 = .ok (.iadd, 1) := by decide +kernel
theorem dL_law_399 : decode cL_law 399 = .ok (.iaload, 1) := by decide +kernel
theorem dL_law_400 : decode cL_law 400 = .ok (.i2l, 1) := by decide +kernel
theorem dL_law_401 : decode cL_law 401 = .ok (.bipush 32, 2) := by decide +kernel
theorem dL_law_403 : decode cL_law 403 = .ok (.lshl, 1) := by decide +kernel
theorem dL_law_404 : decode cL_law 404 = .ok (.aload_n 0, 1) := by decide +kernel
theorem dL_law_405 : decode cL_law 405 = .ok (.iload_n 3, 1) := by decide +kernel
theorem dL_law_406 : decode cL_law 406 = .ok (.bipush 6, 2) := by decide +kernel
theorem dL_law_408 : decode cL_law 408 = .ok (.iadd, 1) := by decide +kernel
theorem dL_law_409 : decode cL_law 409 = .ok (.iaload, 1) := by decide +kernel
theorem dL_law_410 : decode cL_law 410 = .ok (.i2l, 1) := by decide +kernel
theorem dL_law_411 : decode cL_law 411 = .ok (.ldc2_w 45, 3) := by decide +kernel
theorem dL_law_414 : decode cL_law 414 = .ok (.land, 1) := by decide +kernel
theorem dL_law_415 : decode cL_law 415 = .ok (.lor, 1) := by decide +kernel
theorem dL_law_416 : decode cL_law 416 = .ok (.invokevirtual 47, 3) := by decide +kernel
theorem dL_law_419 : decode cL_law 419 = .ok (.aload_n 2, 1) := by decide +kernel
theorem dL_law_420 : decode cL_law 420 = .ok (.aload_n 0, 1) := by decide +kernel
theorem dL_law_421 : decode cL_law 421 = .ok (.iload_n 3, 1) := by decide +kernel
theorem dL_law_422 : decode cL_law 422 = .ok (.iconst 1, 1) := by decide +kernel
theorem dL_law_423 : decode cL_law 423 = .ok (.iadd, 1) := by decide +kernel
theorem dL_law_424 : decode cL_law 424 = .ok (.iaload, 1) := by decide +kernel
theorem dL_law_425 : decode cL_law 425 = .ok (.aload_n 0, 1) := by decide +kernel
theorem dL_law_426 : decode cL_law 426 = .ok (.iload_n 3, 1) := by decide +kernel
theorem dL_law_427 : decode cL_law 427 = .ok (.iconst 2, 1) := by decide +kernel
theorem dL_law_428 : decode cL_law 428 = .ok (.iadd, 1) := by decide +kernel
theorem dL_law_429 : decode cL_law 429 = .ok (.iaload, 1) := by decide +kernel
theorem dL_law_430 : decode cL_law 430 = .ok (.aload_n 0, 1) := by decide +kernel
theorem dL_law_431 : decode cL_law 431 = .ok (.iload_n 3, 1) := by decide +kernel
theorem dL_law_432 : decode cL_law 432 = .ok (.iconst 3, 1) := by decide +kernel
theorem dL_law_433 : decode cL_law 433 = .ok (.iadd, 1) := by decide +kernel
theorem dL_law_434 : decode cL_law 434 = .ok (.iaload, 1) := by decide +kernel
theorem dL_law_435 : decode cL_law 435 = .ok (.aload_n 0, 1) := by decide +kernel
theorem dL_law_436 : decode cL_law 436 = .ok (.iload_n 3, 1) := by decide +kernel
theorem dL_law_437 : decode cL_law 437 = .ok (.iconst 4, 1) := by decide +kernel
theorem dL_law_438 : decode cL_law 438 = .ok (.iadd, 1) := by decide +kernel
theorem dL_law_439 : decode cL_law 439 = .ok (.iaload, 1) := by decide +kernel
theorem dL_law_440 : decode cL_law 440 = .ok (.aload_n 0, 1) := by decide +kernel
theorem dL_law_441 : decode cL_law 441 = .ok (.iload_n 3, 1) := by decide +kernel
theorem dL_law_442 : decode cL_law 442 = .ok (.iconst 5, 1) := by decide +kernel
theorem dL_law_443 : decode cL_law 443 = .ok (.iadd, 1) := by decide +kernel
theorem dL_law_444 : decode cL_law 444 = .ok (.iaload, 1) := by decide +kernel
theorem dL_law_445 : decode cL_law 445 = .ok (.i2l, 1) := by decide +kernel
theorem dL_law_446 : decode cL_law 446 = .ok (.bipush 32, 2) := by decide +kernel
theorem dL_law_448 : decode cL_law 448 = .ok (.lshl, 1) := by decide +kernel
theorem dL_law_449 : decode cL_law 449 = .ok (.aload_n 0, 1) := by decide +kernel
theorem dL_law_450 : decode cL_law 450 = .ok (.iload_n 3, 1) := by decide +kernel
theorem dL_law_451 : decode cL_law 451 = .ok (.bipush 6, 2) := by decide +kernel
theorem dL_law_453 : decode cL_law 453 = .ok (.iadd, 1) := by decide +kernel
theorem dL_law_454 : decode cL_law 454 = .ok (.iaload, 1) := by decide +kernel
theorem dL_law_455 : decode cL_law 455 = .ok (.i2l, 1) := by decide +kernel
theorem dL_law_456 : decode cL_law 456 = .ok (.ldc2_w 45, 3) := by decide +kernel
theorem dL_law_459 : decode cL_law 459 = .ok (.land, 1) := by decide +kernel
theorem dL_law_460 : decode cL_law 460 = .ok (.lor, 1) := by decide +kernel
theorem dL_law_461 : decode cL_law 461 = .ok (.invokevirtual 51, 3) := by decide +kernel
theorem dL_law_464 : decode cL_law 464 = .ok (.if_icmp .eq 664, 3) := by decide +kernel
theorem dL_law_467 : decode cL_law 467 = .ok (.iconst 0, 1) := by decide +kernel
theorem dL_law_468 : decode cL_law 468 = .ok (.ireturn, 1) := by decide +kernel
theorem dL_law_469 : decode cL_law 469 = .ok (.aload_n 1, 1) := by decide +kernel
theorem dL_law_470 : decode cL_law 470 = .ok (.aload_n 0, 1) := by decide +kernel
theorem dL_law_471 : decode cL_law 471 = .ok (.iload_n 3, 1) := by decide +kernel
theorem dL_law_472 : decode cL_law 472 = .ok (.iconst 1, 1) := by decide +kernel
theorem dL_law_473 : decode cL_law 473 = .ok (.iadd, 1) := by decide +kernel
theorem dL_law_474 : decode cL_law 474 = .ok (.iaload, 1) := by decide +kernel
theorem dL_law_475 : decode cL_law 475 = .ok (.aload_n 0, 1) := by decide +kernel
theorem dL_law_476 : decode cL_law 476 = .ok (.iload_n 3, 1) := by decide +kernel
theorem dL_law_477 : decode cL_law 477 = .ok (.iconst 2, 1) := by decide +kernel
theorem dL_law_478 : decode cL_law 478 = .ok (.iadd, 1) := by decide +kernel
theorem dL_law_479 : decode cL_law 479 = .ok (.iaload, 1) := by decide +kernel
theorem dL_law_480 : decode cL_law 480 = .ok (.aload_n 0, 1) := by decide +kernel
theorem dL_law_481 : decode cL_law 481 = .ok (.iload_n 3, 1) := by decide +kernel
theorem dL_law_482 : decode cL_law 482 = .ok (.iconst 3, 1) := by decide +kernel
theorem dL_law_483 : decode cL_law 483 = .ok (.iadd, 1) := by decide +kernel
theorem dL_law_484 : decode cL_law 484 = .ok (.iaload, 1) := by decide +kernel
theorem dL_law_485 : decode cL_law 485 = .ok (.aload_n 0, 1) := by decide +kernel
theorem dL_law_486 : decode cL_law 486 = .ok (.iload_n 3, 1) := by decide +kernel
theorem dL_law_487 : decode cL_law 487 = .ok (.iconst 4, 1) := by decide +kernel
theorem dL_law_488 : decode cL_law 488 = .ok (.iadd, 1) := by decide +kernel
theorem dL_law_489 : decode cL_law 489 = .ok (.iaload, 1) := by decide +kernel
theorem dL_law_490 : decode cL_law 490 = .ok (.aload_n 0, 1) := by decide +kernel
theorem dL_law_491 : decode cL_law 491 = .ok (.iload_n 3, 1) := by decide +kernel
theorem dL_law_492 : decode cL_law 492 = .ok (.iconst 5, 1) := by decide +kernel
theorem dL_law_493 : decode cL_law 493 = .ok (.iadd, 1) := by decide +kernel
theorem dL_law_494 : decode cL_law 494 = .ok (.iaload, 1) := by decide +kernel
theorem dL_law_495 : decode cL_law 495 = .ok (.invokevirtual 52, 3) := by decide +kernel
theorem dL_law_498 : decode cL_law 498 = .ok (.aload_n 2, 1) := by decide +kernel
theorem dL_law_499 : decode cL_law 499 = .ok (.aload_n 0, 1) := by decide +kernel
theorem dL_law_500 : decode cL_law 500 = .ok (.iload_n 3, 1) := by decide +kernel
theorem dL_law_501 : decode cL_law 501 = .ok (.iconst 1, 1) := by decide +kernel
theorem dL_law_502 : decode cL_law 502 = .ok (.iadd, 1) := by decide +kernel
theorem dL_law_503 : decode cL_law 503 = .ok (.iaload, 1) := by decide +kernel
theorem dL_law_504 : decode cL_law 504 = .ok (.aload_n 0, 1) := by decide +kernel
theorem dL_law_505 : decode cL_law 505 = .ok (.iload_n 3, 1) := by decide +kernel
theorem dL_law_506 : decode cL_law 506 = .ok (.iconst 2, 1) := by decide +kernel
theorem dL_law_507 : decode cL_law 507 = .ok (.iadd, 1) := by decide +kernel
theorem dL_law_508 : decode cL_law 508 = .ok (.iaload, 1) := by decide +kernel
theorem dL_law_509 : decode cL_law 509 = .ok (.aload_n 0, 1) := by decide +kernel
theorem dL_law_510 : decode cL_law 510 = .ok (.iload_n 3, 1) := by decide +kernel
theorem dL_law_511 : decode cL_law 511 = .ok (.iconst 3, 1) := by decide +kernel
theorem dL_law_512 : decode cL_law 512 = .ok (.iadd, 1) := by decide +kernel
theorem dL_law_513 : decode cL_law 513 = .ok (.iaload, 1) := by decide +kernel
theorem dL_law_514 : decode cL_law 514 = .ok (.aload_n 0, 1) := by decide +kernel
theorem dL_law_515 : decode cL_law 515 = .ok (.iload_n 3, 1) := by decide +kernel
theorem dL_law_516 : decode cL_law 516 = .ok (.iconst 4, 1) := by decide +kernel
theorem dL_law_517 : decode cL_law 517 = .ok (.iadd, 1) := by decide +kernel
theorem dL_law_518 : decode cL_law 518 = .ok (.iaload, 1) := by decide +kernel
theorem dL_law_519 : decode cL_law 519 = .ok (.aload_n 0, 1) := by decide +kernel
theorem dL_law_520 : decode cL_law 520 = .ok (.iload_n 3, 1) := by decide +kernel
theorem dL_law_521 : decode cL_law 521 = .ok (.iconst 5, 1) := by decide +kernel
theorem dL_law_522 : decode cL_law 522 = .ok (.iadd, 1) := by decide +kernel
theorem dL_law_523 : decode cL_law 523 = .ok (.iaload, 1) := by decide +kernel
theorem dL_law_524 : decode cL_law 524 = .ok (.invokevirtual 55, 3) := by decide +kernel
theorem dL_law_527 : decode cL_law 527 = .ok (.if_icmp .eq 601, 3) := by decide +kernel
theorem dL_law_530 : decode cL_law 530 = .ok (.iconst 0, 1) := by decide +kernel
theorem dL_law_531 : decode cL_law 531 = .ok (.ireturn, 1) := by decide +kernel
theorem dL_law_532 : decode cL_law 532 = .ok (.aload_n 1, 1) := by decide +kernel
theorem dL_law_533 : decode cL_law 533 = .ok (.aload_n 0, 1) := by decide +kernel
theorem dL_law_534 : decode cL_law 534 = .ok (.iload_n 3, 1) := by decide +kernel
theorem dL_law_535 : decode cL_law 535 = .ok (.iconst 1, 1) := by decide +kernel
theorem dL_law_536 : decode cL_law 536 = .ok (.iadd, 1) := by decide +kernel
theorem dL_law_537 : decode cL_law 537 = .ok (.iaload, 1) := by decide +kernel
theorem dL_law_538 : decode cL_law 538 = .ok (.aload_n 0, 1) := by decide +kernel
theorem dL_law_539 : decode cL_law 539 = .ok (.iload_n 3, 1) := by decide +kernel
theorem dL_law_540 : decode cL_law 540 = .ok (.iconst 2, 1) := by decide +kernel
theorem dL_law_541 : decode cL_law 541 = .ok (.iadd, 1) := by decide +kernel
theorem dL_law_542 : decode cL_law 542 = .ok (.iaload, 1) := by decide +kernel
theorem dL_law_543 : decode cL_law 543 = .ok (.aload_n 0, 1) := by decide +kernel
theorem dL_law_544 : decode cL_law 544 = .ok (.iload_n 3, 1) := by decide +kernel
theorem dL_law_545 : decode cL_law 545 = .ok (.iconst 3, 1) := by decide +kernel
theorem dL_law_546 : decode cL_law 546 = .ok (.iadd, 1) := by decide +kernel
theorem dL_law_547 : decode cL_law 547 = .ok (.iaload, 1) := by decide +kernel
theorem dL_law_548 : decode cL_law 548 = .ok (.invokevirtual 56, 3) := by decide +kernel
theorem dL_law_551 : decode cL_law 551 = .ok (.aload_n 2, 1) := by decide +kernel
theorem dL_law_552 : decode cL_law 552 = .ok (.aload_n 0, 1) := by decide +kernel
theorem dL_law_553 : decode cL_law 553 = .ok (.iload_n 3, 1) := by decide +kernel
theorem dL_law_554 : decode cL_law 554 = .ok (.iconst 1, 1) := by decide +kernel
theorem dL_law_555 : decode cL_law 555 = .ok (.iadd, 1) := by decide +kernel
theorem dL_law_556 : decode cL_law 556 = .ok (.iaload, 1) := by decide +kernel
theorem dL_law_557 : decode cL_law 557 = .ok (.aload_n 0, 1) := by decide +kernel
theorem dL_law_558 : decode cL_law 558 = .ok (.iload_n 3, 1) := by decide +kernel
theorem dL_law_559 : decode cL_law 559 = .ok (.iconst 2, 1) := by decide +kernel
theorem dL_law_560 : decode cL_law 560 = .ok (.iadd, 1) := by decide +kernel
theorem dL_law_561 : decode cL_law 561 = .ok (.iaload, 1) := by decide +kernel
theorem dL_law_562 : decode cL_law 562 = .ok (.aload_n 0, 1) := by decide +kernel
theorem dL_law_563 : decode cL_law 563 = .ok (.iload_n 3, 1) := by decide +kernel
theorem dL_law_564 : decode cL_law 564 = .ok (.iconst 3, 1) := by decide +kernel
theorem dL_law_565 : decode cL_law 565 = .ok (.iadd, 1) := by decide +kernel
theorem dL_law_566 : decode cL_law 566 = .ok (.iaload, 1) := by decide +kernel
theorem dL_law_567 : decode cL_law 567 = .ok (.invokevirtual 60, 3) := by decide +kernel
theorem dL_law_570 : decode cL_law 570 = .ok (.if_icmp .eq 558, 3) := by decide +kernel
theorem dL_law_573 : decode cL_law 573 = .ok (.iconst 0, 1) := by decide +kernel
theorem dL_law_574 : decode cL_law 574 = .ok (.ireturn, 1) := by decide +kernel
theorem dL_law_575 : decode cL_law 575 = .ok (.aload_n 1, 1) := by decide +kernel
theorem dL_law_576 : decode cL_law 576 = .ok (.invokevirtual 61, 3) := by decide +kernel
theorem dL_law_579 : decode cL_law 579 = .ok (.aload_n 2, 1) := by decide +kernel
theorem dL_law_580 : decode cL_law 580 = .ok (.invokevirtual 64, 3) := by decide +kernel
theorem dL_law_583 : decode cL_law 583 = .ok (.if_icmp .eq 545, 3) := by decide +kernel
theorem dL_law_586 : decode cL_law 586 = .ok (.iconst 0, 1) := by decide +kernel
theorem dL_law_587 : decode cL_law 587 = .ok (.ireturn, 1) := by decide +kernel
theorem dL_law_588 : decode cL_law 588 = .ok (.aload_n 1, 1) := by decide +kernel
theorem dL_law_589 : decode cL_law 589 = .ok (.aload_n 0, 1) := by decide +kernel
theorem dL_law_590 : decode cL_law 590 = .ok (.iload_n 3, 1) := by decide +kernel
theorem dL_law_591 : decode cL_law 591 = .ok (.iconst 1, 1) := by decide +kernel
theorem dL_law_592 : decode cL_law 592 = .ok (.iadd, 1) := by decide +kernel
theorem dL_law_593 : decode cL_law 593 = .ok (.iaload, 1) := by decide +kernel
theorem dL_law_594 : decode cL_law 594 = .ok (.aload_n 0, 1) := by decide +kernel
theorem dL_law_595 : decode cL_law 595 = .ok (.iload_n 3, 1) := by decide +kernel
theorem dL_law_596 : decode cL_law 596 = .ok (.iconst 2, 1) := by decide +kernel
theorem dL_law_597 : decode cL_law 597 = .ok (.iadd, 1) := by decide +kernel
theorem dL_law_598 : decode cL_law 598 = .ok (.iaload, 1) := by decide +kernel
theorem dL_law_599 : decode cL_law 599 = .ok (.aload_n 0, 1) := by decide +kernel
theorem dL_law_600 : decode cL_law 600 = .ok (.iload_n 3, 1) := by decide +kernel
theorem dL_law_601 : decode cL_law 601 = .ok (.iconst 3, 1) := by decide +kernel
theorem dL_law_602 : decode cL_law 602 = .ok (.iadd, 1) := by decide +kernel
theorem dL_law_603 : decode cL_law 603 = .ok (.iaload, 1) := by decide +kernel
theorem dL_law_604 : decode cL_law 604 = .ok (.aload_n 0, 1) := by decide +kernel
theorem dL_law_605 : decode cL_law 605 = .ok (.iload_n 3, 1) := by decide +kernel
theorem dL_law_606 : decode cL_law 606 = .ok (.iconst 4, 1) := by decide +kernel
theorem dL_law_607 : decode cL_law 607 = .ok (.iadd, 1) := by decide +kernel
theorem dL_law_608 : decode cL_law 608 = .ok (.iaload, 1) := by decide +kernel
theorem dL_law_609 : decode cL_law 609 = .ok (.aload_n 0, 1) := by decide +kernel
theorem dL_law_610 : decode cL_law 610 = .ok (.iload_n 3, 1) := by decide +kernel
theorem dL_law_611 : decode cL_law 611 = .ok (.iconst 5, 1) := by decide +kernel
theorem dL_law_612 : decode cL_law 612 = .ok (.iadd, 1) := by decide +kernel
theorem dL_law_613 : decode cL_law 613 = .ok (.iaload, 1) := by decide +kernel
theorem dL_law_614 : decode cL_law 614 = .ok (.invokevirtual 65, 3) := by decide +kernel
theorem dL_law_617 : decode cL_law 617 = .ok (.aload_n 2, 1) := by decide +kernel
theorem dL_law_618 : decode cL_law 618 = .ok (.aload_n 0, 1) := by decide +kernel
theorem dL_law_619 : decode cL_law 619 = .ok (.iload_n 3, 1) := by decide +kernel
theorem dL_law_620 : decode cL_law 620 = .ok (.iconst 1, 1) := by decide +kernel
theorem dL_law_621 : decode cL_law 621 = .ok (.iadd, 1) := by decide +kernel
theorem dL_law_622 : decode cL_law 622 = .ok (.iaload, 1) := by decide +kernel
theorem dL_law_623 : decode cL_law 623 = .ok (.aload_n 0, 1) := by decide +kernel
theorem dL_law_624 : decode cL_law 624 = .ok (.iload_n 3, 1) := by decide +kernel
theorem dL_law_625 : decode cL_law 625 = .ok (.iconst 2, 1) := by decide +kernel
theorem dL_law_626 : decode cL_law 626 = .ok (.iadd, 1) := by decide +kernel
theorem dL_law_627 : decode cL_law 627 = .ok (.iaload, 1) := by decide +kernel
theorem dL_law_628 : decode cL_law 628 = .ok (.aload_n 0, 1) := by decide +kernel
theorem dL_law_629 : decode cL_law 629 = .ok (.iload_n 3, 1) := by decide +kernel
theorem dL_law_630 : decode cL_law 630 = .ok (.iconst 3, 1) := by decide +kernel
theorem dL_law_631 : decode cL_law 631 = .ok (.iadd, 1) := by decide +kernel
theorem dL_law_632 : decode cL_law 632 = .ok (.iaload, 1) := by decide +kernel
theorem dL_law_633 : decode cL_law 633 = .ok (.aload_n 0, 1) := by decide +kernel
theorem dL_law_634 : decode cL_law 634 = .ok (.iload_n 3, 1) := by decide +kernel
theorem dL_law_635 : decode cL_law 635 = .ok (.iconst 4, 1) := by decide +kernel
theorem dL_law_636 : decode cL_law 636 = .ok (.iadd, 1) := by decide +kernel
theorem dL_law_637 : decode cL_law 637 = .ok (.iaload, 1) := by decide +kernel
theorem dL_law_638 : decode cL_law 638 = .ok (.aload_n 0, 1) := by decide +kernel
theorem dL_law_639 : decode cL_law 639 = .ok (.iload_n 3, 1) := by decide +kernel
theorem dL_law_640 : decode cL_law 640 = .ok (.iconst 5, 1) := by decide +kernel
theorem dL_law_641 : decode cL_law 641 = .ok (.iadd, 1) := by decide +kernel
theorem dL_law_642 : decode cL_law 642 = .ok (.iaload, 1) := by decide +kernel
theorem dL_law_643 : decode cL_law 643 = .ok (.invokevirtual 68, 3) := by decide +kernel
theorem dL_law_646 : decode cL_law 646 = .ok (.if_icmp .eq 482, 3) := by decide +kernel
theorem dL_law_649 : decode cL_law 649 = .ok (.iconst 0, 1) := by decide +kernel
theorem dL_law_650 : decode cL_law 650 = .ok (.ireturn, 1) := by decide +kernel
theorem dL_law_651 : decode cL_law 651 = .ok (.aload_n 1, 1) := by decide +kernel
theorem dL_law_652 : decode cL_law 652 = .ok (.invokevirtual 69, 3) := by decide +kernel
theorem dL_law_655 : decode cL_law 655 = .ok (.aload_n 2, 1) := by decide +kernel
theorem dL_law_656 : decode cL_law 656 = .ok (.invokevirtual 72, 3) := by decide +kernel
theorem dL_law_659 : decode cL_law 659 = .ok (.if_icmp .eq 469, 3) := by decide +kernel
theorem dL_law_662 : decode cL_law 662 = .ok (.iconst 0, 1) := by decide +kernel
theorem dL_law_663 : decode cL_law 663 = .ok (.ireturn, 1) := by decide +kernel
theorem dL_law_664 : decode cL_law 664 = .ok (.aload_n 1, 1) := by decide +kernel
theorem dL_law_665 : decode cL_law 665 = .ok (.aload_n 0, 1) := by decide +kernel
theorem dL_law_666 : decode cL_law 666 = .ok (.iload_n 3, 1) := by decide +kernel
theorem dL_law_667 : decode cL_law 667 = .ok (.iconst 1, 1) := by decide +kernel
theorem dL_law_668 : decode cL_law 668 = .ok (.iadd, 1) := by decide +kernel
theorem dL_law_669 : decode cL_law 669 = .ok (.iaload, 1) := by decide +kernel
theorem dL_law_670 : decode cL_law 670 = .ok (.aload_n 0, 1) := by decide +kernel
theorem dL_law_671 : decode cL_law 671 = .ok (.iload_n 3, 1) := by decide +kernel
theorem dL_law_672 : decode cL_law 672 = .ok (.iconst 2, 1) := by decide +kernel
theorem dL_law_673 : decode cL_law 673 = .ok (.iadd, 1) := by decide +kernel
theorem dL_law_674 : decode cL_law 674 = .ok (.iaload, 1) := by decide +kernel
theorem dL_law_675 : decode cL_law 675 = .ok (.invokevirtual 73, 3) := by decide +kernel
theorem dL_law_678 : decode cL_law 678 = .ok (.aload_n 2, 1) := by decide +kernel
theorem dL_law_679 : decode cL_law 679 = .ok (.aload_n 0, 1) := by decide +kernel
theorem dL_law_680 : decode cL_law 680 = .ok (.iload_n 3, 1) := by decide +kernel
theorem dL_law_681 : decode cL_law 681 = .ok (.iconst 1, 1) := by decide +kernel
theorem dL_law_682 : decode cL_law 682 = .ok (.iadd, 1) := by decide +kernel
theorem dL_law_683 : decode cL_law 683 = .ok (.iaload, 1) := by decide +kernel
theorem dL_law_684 : decode cL_law 684 = .ok (.aload_n 0, 1) := by decide +kernel
theorem dL_law_685 : decode cL_law 685 = .ok (.iload_n 3, 1) := by decide +kernel
theorem dL_law_686 : decode cL_law 686 = .ok (.iconst 2, 1) := by decide +kernel
theorem dL_law_687 : decode cL_law 687 = .ok (.iadd, 1) := by decide +kernel
theorem dL_law_688 : decode cL_law 688 = .ok (.iaload, 1) := by decide +kernel
theorem dL_law_689 : decode cL_law 689 = .ok (.invokevirtual 76, 3) := by decide +kernel
theorem dL_law_692 : decode cL_law 692 = .ok (.if_icmp .eq 436, 3) := by decide +kernel
theorem dL_law_695 : decode cL_law 695 = .ok (.iconst 0, 1) := by decide +kernel
theorem dL_law_696 : decode cL_law 696 = .ok (.ireturn, 1) := by decide +kernel
theorem dL_law_697 : decode cL_law 697 = .ok (.aload_n 1, 1) := by decide +kernel
theorem dL_law_698 : decode cL_law 698 = .ok (.invokevirtual 77, 3) := by decide +kernel
theorem dL_law_701 : decode cL_law 701 = .ok (.aload_n 2, 1) := by decide +kernel
theorem dL_law_702 : decode cL_law 702 = .ok (.invokevirtual 80, 3) := by decide +kernel
theorem dL_law_705 : decode cL_law 705 = .ok (.if_icmp .eq 423, 3) := by decide +kernel
theorem dL_law_708 : decode cL_law 708 = .ok (.iconst 0, 1) := by decide +kernel
theorem dL_law_709 : decode cL_law 709 = .ok (.ireturn, 1) := by decide +kernel
theorem dL_law_710 : decode cL_law 710 = .ok (.aload_n 1, 1) := by decide +kernel
theorem dL_law_711 : decode cL_law 711 = .ok (.aload_n 0, 1) := by decide +kernel
theorem dL_law_712 : decode cL_law 712 = .ok (.iload_n 3, 1) := by decide +kernel
theorem dL_law_713 : decode cL_law 713 = .ok (.iconst 1, 1) := by decide +kernel
theorem dL_law_714 : decode cL_law 714 = .ok (.iadd, 1) := by decide +kernel
theorem dL_law_715 : decode cL_law 715 = .ok (.iaload, 1) := by decide +kernel
theorem dL_law_716 : decode cL_law 716 = .ok (.aload_n 0, 1) := by decide +kernel
theorem dL_law_717 : decode cL_law 717 = .ok (.iload_n 3, 1) := by decide +kernel
theorem dL_law_718 : decode cL_law 718 = .ok (.iconst 2, 1) := by decide +kernel
theorem dL_law_719 : decode cL_law 719 = .ok (.iadd, 1) := by decide +kernel
theorem dL_law_720 : decode cL_law 720 = .ok (.iaload, 1) := by decide +kernel
theorem dL_law_721 : decode cL_law 721 = .ok (.invokevirtual 81, 3) := by decide +kernel
theorem dL_law_724 : decode cL_law 724 = .ok (.aload_n 2, 1) := by decide +kernel
theorem dL_law_725 : decode cL_law 725 = .ok (.aload_n 0, 1) := by decide +kernel
theorem dL_law_726 : decode cL_law 726 = .ok (.iload_n 3, 1) := by decide +kernel
theorem dL_law_727 : decode cL_law 727 = .ok (.iconst 1, 1) := by decide +kernel
theorem dL_law_728 : decode cL_law 728 = .ok (.iadd, 1) := by decide +kernel
theorem dL_law_729 : decode cL_law 729 = .ok (.iaload, 1) := by decide +kernel
theorem dL_law_730 : decode cL_law 730 = .ok (.aload_n 0, 1) := by decide +kernel
theorem dL_law_731 : decode cL_law 731 = .ok (.iload_n 3, 1) := by decide +kernel
theorem dL_law_732 : decode cL_law 732 = .ok (.iconst 2, 1) := by decide +kernel
theorem dL_law_733 : decode cL_law 733 = .ok (.iadd, 1) := by decide +kernel
theorem dL_law_734 : decode cL_law 734 = .ok (.iaload, 1) := by decide +kernel
theorem dL_law_735 : decode cL_law 735 = .ok (.invokevirtual 84, 3) := by decide +kernel
theorem dL_law_738 : decode cL_law 738 = .ok (.if_icmp .eq 390, 3) := by decide +kernel
theorem dL_law_741 : decode cL_law 741 = .ok (.iconst 0, 1) := by decide +kernel
theorem dL_law_742 : decode cL_law 742 = .ok (.ireturn, 1) := by decide +kernel
theorem dL_law_743 : decode cL_law 743 = .ok (.aload_n 1, 1) := by decide +kernel
theorem dL_law_744 : decode cL_law 744 = .ok (.aload_n 0, 1) := by decide +kernel
theorem dL_law_745 : decode cL_law 745 = .ok (.iload_n 3, 1) := by decide +kernel
theorem dL_law_746 : decode cL_law 746 = .ok (.iconst 1, 1) := by decide +kernel
theorem dL_law_747 : decode cL_law 747 = .ok (.iadd, 1) := by decide +kernel
theorem dL_law_748 : decode cL_law 748 = .ok (.iaload, 1) := by decide +kernel
theorem dL_law_749 : decode cL_law 749 = .ok (.invokevirtual 85, 3) := by decide +kernel
theorem dL_law_752 : decode cL_law 752 = .ok (.aload_n 2, 1) := by decide +kernel
theorem dL_law_753 : decode cL_law 753 = .ok (.aload_n 0, 1) := by decide +kernel
theorem dL_law_754 : decode cL_law 754 = .ok (.iload_n 3, 1) := by decide +kernel
theorem dL_law_755 : decode cL_law 755 = .ok (.iconst 1, 1) := by decide +kernel
theorem dL_law_756 : decode cL_law 756 = .ok (.iadd, 1) := by decide +kernel
theorem dL_law_757 : decode cL_law 757 = .ok (.iaload, 1) := by decide +kernel
theorem dL_law_758 : decode cL_law 758 = .ok (.invokevirtual 89, 3) := by decide +kernel
theorem dL_law_761 : decode cL_law 761 = .ok (.if_icmp .eq 367, 3) := by decide +kernel
theorem dL_law_764 : decode cL_law 764 = .ok (.iconst 0, 1) := by decide +kernel
theorem dL_law_765 : decode cL_law 765 = .ok (.ireturn, 1) := by decide +kernel
theorem dL_law_766 : decode cL_law 766 = .ok (.aload_n 1, 1) := by decide +kernel
theorem dL_law_767 : decode cL_law 767 = .ok (.aload_n 0, 1) := by decide +kernel
theorem dL_law_768 : decode cL_law 768 = .ok (.iload_n 3, 1) := by decide +kernel
theorem dL_law_769 : decode cL_law 769 = .ok (.iconst 1, 1) := by decide +kernel
theorem dL_law_770 : decode cL_law 770 = .ok (.iadd, 1) := by decide +kernel
theorem dL_law_771 : decode cL_law 771 = .ok (.iaload, 1) := by decide +kernel
theorem dL_law_772 : decode cL_law 772 = .ok (.invokevirtual 90, 3) := by decide +kernel
theorem dL_law_775 : decode cL_law 775 = .ok (.aload_n 2, 1) := by decide +kernel
theorem dL_law_776 : decode cL_law 776 = .ok (.aload_n 0, 1) := by decide +kernel
theorem dL_law_777 : decode cL_law 777 = .ok (.iload_n 3, 1) := by decide +kernel
theorem dL_law_778 : decode cL_law 778 = .ok (.iconst 1, 1) := by decide +kernel
theorem dL_law_779 : decode cL_law 779 = .ok (.iadd, 1) := by decide +kernel
theorem dL_law_780 : decode cL_law 780 = .ok (.iaload, 1) := by decide +kernel
theorem dL_law_781 : decode cL_law 781 = .ok (.invokevirtual 93, 3) := by decide +kernel
theorem dL_law_784 : decode cL_law 784 = .ok (.if_icmp .eq 344, 3) := by decide +kernel
theorem dL_law_787 : decode cL_law 787 = .ok (.iconst 0, 1) := by decide +kernel
theorem dL_law_788 : decode cL_law 788 = .ok (.ireturn, 1) := by decide +kernel
theorem dL_law_789 : decode cL_law 789 = .ok (.aload_n 1, 1) := by decide +kernel
theorem dL_law_790 : decode cL_law 790 = .ok (.aload_n 0, 1) := by decide +kernel
theorem dL_law_791 : decode cL_law 791 = .ok (.iload_n 3, 1) := by decide +kernel
theorem dL_law_792 : decode cL_law 792 = .ok (.iconst 1, 1) := by decide +kernel
theorem dL_law_793 : decode cL_law 793 = .ok (.iadd, 1) := by decide +kernel
theorem dL_law_794 : decode cL_law 794 = .ok (.iaload, 1) := by decide +kernel
theorem dL_law_795 : decode cL_law 795 = .ok (.invokevirtual 94, 3) := by decide +kernel
theorem dL_law_798 : decode cL_law 798 = .ok (.aload_n 2, 1) := by decide +kernel
theorem dL_law_799 : decode cL_law 799 = .ok (.aload_n 0, 1) := by decide +kernel
theorem dL_law_800 : decode cL_law 800 = .ok (.iload_n 3, 1) := by decide +kernel
theorem dL_law_801 : decode cL_law 801 = .ok (.iconst 1, 1) := by decide +kernel
theorem dL_law_802 : decode cL_law 802 = .ok (.iadd, 1) := by decide +kernel
theorem dL_law_803 : decode cL_law 803 = .ok (.iaload, 1) := by decide +kernel
theorem dL_law_804 : decode cL_law 804 = .ok (.invokevirtual 97, 3) := by decide +kernel
theorem dL_law_807 : decode cL_law 807 = .ok (.if_icmp .eq 321, 3) := by decide +kernel
theorem dL_law_810 : decode cL_law 810 = .ok (.iconst 0, 1) := by decide +kernel
theorem dL_law_811 : decode cL_law 811 = .ok (.ireturn, 1) := by decide +kernel
theorem dL_law_812 : decode cL_law 812 = .ok (.aload_n 1, 1) := by decide +kernel
theorem dL_law_813 : decode cL_law 813 = .ok (.invokevirtual 98, 3) := by decide +kernel
theorem dL_law_816 : decode cL_law 816 = .ok (.aload_n 2, 1) := by decide +kernel
theorem dL_law_817 : decode cL_law 817 = .ok (.invokevirtual 101, 3) := by decide +kernel
theorem dL_law_820 : decode cL_law 820 = .ok (.if_icmp .eq 308, 3) := by decide +kernel
theorem dL_law_823 : decode cL_law 823 = .ok (.iconst 0, 1) := by decide +kernel
theorem dL_law_824 : decode cL_law 824 = .ok (.ireturn, 1) := by decide +kernel
theorem dL_law_825 : decode cL_law 825 = .ok (.aload_n 1, 1) := by decide +kernel
theorem dL_law_826 : decode cL_law 826 = .ok (.aload_n 0, 1) := by decide +kernel
theorem dL_law_827 : decode cL_law 827 = .ok (.iload_n 3, 1) := by decide +kernel
theorem dL_law_828 : decode cL_law 828 = .ok (.iconst 1, 1) := by decide +kernel
theorem dL_law_829 : decode cL_law 829 = .ok (.iadd, 1) := by decide +kernel
theorem dL_law_830 : decode cL_law 830 = .ok (.iaload, 1) := by decide +kernel
theorem dL_law_831 : decode cL_law 831 = .ok (.aload_n 0, 1) := by decide +kernel
theorem dL_law_832 : decode cL_law 832 = .ok (.iload_n 3, 1) := by decide +kernel
theorem dL_law_833 : decode cL_law 833 = .ok (.iconst 2, 1) := by decide +kernel
theorem dL_law_834 : decode cL_law 834 = .ok (.iadd, 1) := by decide +kernel
theorem dL_law_835 : decode cL_law 835 = .ok (.iaload, 1) := by decide +kernel
theorem dL_law_836 : decode cL_law 836 = .ok (.invokevirtual 102, 3) := by decide +kernel
theorem dL_law_839 : decode cL_law 839 = .ok (.aload_n 2, 1) := by decide +kernel
theorem dL_law_840 : decode cL_law 840 = .ok (.aload_n 0, 1) := by decide +kernel
theorem dL_law_841 : decode cL_law 841 = .ok (.iload_n 3, 1) := by decide +kernel
theorem dL_law_842 : decode cL_law 842 = .ok (.iconst 1, 1) := by decide +kernel
theorem dL_law_843 : decode cL_law 843 = .ok (.iadd, 1) := by decide +kernel
theorem dL_law_844 : decode cL_law 844 = .ok (.iaload, 1) := by decide +kernel
theorem dL_law_845 : decode cL_law 845 = .ok (.aload_n 0, 1) := by decide +kernel
theorem dL_law_846 : decode cL_law 846 = .ok (.iload_n 3, 1) := by decide +kernel
theorem dL_law_847 : decode cL_law 847 = .ok (.iconst 2, 1) := by decide +kernel
theorem dL_law_848 : decode cL_law 848 = .ok (.iadd, 1) := by decide +kernel
theorem dL_law_849 : decode cL_law 849 = .ok (.iaload, 1) := by decide +kernel
theorem dL_law_850 : decode cL_law 850 = .ok (.invokevirtual 105, 3) := by decide +kernel
theorem dL_law_853 : decode cL_law 853 = .ok (.if_icmp .eq 275, 3) := by decide +kernel
theorem dL_law_856 : decode cL_law 856 = .ok (.iconst 0, 1) := by decide +kernel
theorem dL_law_857 : decode cL_law 857 = .ok (.ireturn, 1) := by decide +kernel
theorem dL_law_858 : decode cL_law 858 = .ok (.aload_n 1, 1) := by decide +kernel
theorem dL_law_859 : decode cL_law 859 = .ok (.aload_n 0, 1) := by decide +kernel
theorem dL_law_860 : decode cL_law 860 = .ok (.iload_n 3, 1) := by decide +kernel
theorem dL_law_861 : decode cL_law 861 = .ok (.iconst 1, 1) := by decide +kernel
theorem dL_law_862 : decode cL_law 862 = .ok (.iadd, 1) := by decide +kernel
theorem dL_law_863 : decode cL_law 863 = .ok (.iaload, 1) := by decide +kernel
theorem dL_law_864 : decode cL_law 864 = .ok (.aload_n 0, 1) := by decide +kernel
theorem dL_law_865 : decode cL_law 865 = .ok (.iload_n 3, 1) := by decide +kernel
theorem dL_law_866 : decode cL_law 866 = .ok (.iconst 2, 1) := by decide +kernel
theorem dL_law_867 : decode cL_law 867 = .ok (.iadd, 1) := by decide +kernel
theorem dL_law_868 : decode cL_law 868 = .ok (.iaload, 1) := by decide +kernel
theorem dL_law_869 : decode cL_law 869 = .ok (.aload_n 0, 1) := by decide +kernel
theorem dL_law_870 : decode cL_law 870 = .ok (.iload_n 3, 1) := by decide +kernel
theorem dL_law_871 : decode cL_law 871 = .ok (.iconst 3, 1) := by decide +kernel
theorem dL_law_872 : decode cL_law 872 = .ok (.iadd, 1) := by decide +kernel
theorem dL_law_873 : decode cL_law 873 = .ok (.iaload, 1) := by decide +kernel
theorem dL_law_874 : decode cL_law 874 = .ok (.invokevirtual 106, 3) := by decide +kernel
theorem dL_law_877 : decode cL_law 877 = .ok (.aload_n 2, 1) := by decide +kernel
theorem dL_law_878 : decode cL_law 878 = .ok (.aload_n 0, 1) := by decide +kernel
theorem dL_law_879 : decode cL_law 879 = .ok (.iload_n 3, 1) := by decide +kernel
theorem dL_law_880 : decode cL_law 880 = .ok (.iconst 1, 1) := by decide +kernel
theorem dL_law_881 : decode cL_law 881 = .ok (.iadd, 1) := by decide +kernel
theorem dL_law_882 : decode cL_law 882 = .ok (.iaload, 1) := by decide +kernel
theorem dL_law_883 : decode cL_law 883 = .ok (.aload_n 0, 1) := by decide +kernel
theorem dL_law_884 : decode cL_law 884 = .ok (.iload_n 3, 1) := by decide +kernel
theorem dL_law_885 : decode cL_law 885 = .ok (.iconst 2, 1) := by decide +kernel
theorem dL_law_886 : decode cL_law 886 = .ok (.iadd, 1) := by decide +kernel
theorem dL_law_887 : decode cL_law 887 = .ok (.iaload, 1) := by decide +kernel
theorem dL_law_888 : decode cL_law 888 = .ok (.aload_n 0, 1) := by decide +kernel
theorem dL_law_889 : decode cL_law 889 = .ok (.iload_n 3, 1) := by decide +kernel
theorem dL_law_890 : decode cL_law 890 = .ok (.iconst 3, 1) := by decide +kernel
theorem dL_law_891 : decode cL_law 891 = .ok (.iadd, 1) := by decide +kernel
theorem dL_law_892 : decode cL_law 892 = .ok (.iaload, 1) := by decide +kernel
theorem dL_law_893 : decode cL_law 893 = .ok (.invokevirtual 109, 3) := by decide +kernel
theorem dL_law_896 : decode cL_law 896 = .ok (.if_icmp .eq 232, 3) := by decide +kernel
theorem dL_law_899 : decode cL_law 899 = .ok (.iconst 0, 1) := by decide +kernel
theorem dL_law_900 : decode cL_law 900 = .ok (.ireturn, 1) := by decide +kernel
theorem dL_law_901 : decode cL_law 901 = .ok (.aload_n 1, 1) := by decide +kernel
theorem dL_law_902 : decode cL_law 902 = .ok (.aload_n 0, 1) := by decide +kernel
theorem dL_law_903 : decode cL_law 903 = .ok (.iload_n 3, 1) := by decide +kernel
theorem dL_law_904 : decode cL_law 904 = .ok (.iconst 1, 1) := by decide +kernel
theorem dL_law_905 : decode cL_law 905 = .ok (.iadd, 1) := by decide +kernel
theorem dL_law_906 : decode cL_law 906 = .ok (.iaload, 1) := by decide +kernel
theorem dL_law_907 : decode cL_law 907 = .ok (.aload_n 0, 1) := by decide +kernel
theorem dL_law_908 : decode cL_law 908 = .ok (.iload_n 3, 1) := by decide +kernel
theorem dL_law_909 : decode cL_law 909 = .ok (.iconst 2, 1) := by decide +kernel
theorem dL_law_910 : decode cL_law 910 = .ok (.iadd, 1) := by decide +kernel
theorem dL_law_911 : decode cL_law 911 = .ok (.iaload, 1) := by decide +kernel
theorem dL_law_912 : decode cL_law 912 = .ok (.invokevirtual 110, 3) := by decide +kernel
theorem dL_law_915 : decode cL_law 915 = .ok (.aload_n 2, 1) := by decide +kernel
theorem dL_law_916 : decode cL_law 916 = .ok (.aload_n 0, 1) := by decide +kernel
theorem dL_law_917 : decode cL_law 917 = .ok (.iload_n 3, 1) := by decide +kernel
theorem dL_law_918 : decode cL_law 918 = .ok (.iconst 1, 1) := by decide +kernel
theorem dL_law_919 : decode cL_law 919 = .ok (.iadd, 1) := by decide +kernel
theorem dL_law_920 : decode cL_law 920 = .ok (.iaload, 1) := by decide +kernel
theorem dL_law_921 : decode cL_law 921 = .ok (.aload_n 0, 1) := by decide +kernel
theorem dL_law_922 : decode cL_law 922 = .ok (.iload_n 3, 1) := by decide +kernel
theorem dL_law_923 : decode cL_law 923 = .ok (.iconst 2, 1) := by decide +kernel
theorem dL_law_924 : decode cL_law 924 = .ok (.iadd, 1) := by decide +kernel
theorem dL_law_925 : decode cL_law 925 = .ok (.iaload, 1) := by decide +kernel
theorem dL_law_926 : decode cL_law 926 = .ok (.invokevirtual 113, 3) := by decide +kernel
theorem dL_law_929 : decode cL_law 929 = .ok (.if_icmp .eq 199, 3) := by decide +kernel
theorem dL_law_932 : decode cL_law 932 = .ok (.iconst 0, 1) := by decide +kernel
theorem dL_law_933 : decode cL_law 933 = .ok (.ireturn, 1) := by decide +kernel
theorem dL_law_934 : decode cL_law 934 = .ok (.aload_n 1, 1) := by decide +kernel
theorem dL_law_935 : decode cL_law 935 = .ok (.aload_n 0, 1) := by decide +kernel
theorem dL_law_936 : decode cL_law 936 = .ok (.iload_n 3, 1) := by decide +kernel
theorem dL_law_937 : decode cL_law 937 = .ok (.iconst 1, 1) := by decide +kernel
theorem dL_law_938 : decode cL_law 938 = .ok (.iadd, 1) := by decide +kernel
theorem dL_law_939 : decode cL_law 939 = .ok (.iaload, 1) := by decide +kernel
theorem dL_law_940 : decode cL_law 940 = .ok (.aload_n 0, 1) := by decide +kernel
theorem dL_law_941 : decode cL_law 941 = .ok (.iload_n 3, 1) := by decide +kernel
theorem dL_law_942 : decode cL_law 942 = .ok (.iconst 2, 1) := by decide +kernel
theorem dL_law_943 : decode cL_law 943 = .ok (.iadd, 1) := by decide +kernel
theorem dL_law_944 : decode cL_law 944 = .ok (.iaload, 1) := by decide +kernel
theorem dL_law_945 : decode cL_law 945 = .ok (.invokevirtual 114, 3) := by decide +kernel
theorem dL_law_948 : decode cL_law 948 = .ok (.aload_n 2, 1) := by decide +kernel
theorem dL_law_949 : decode cL_law 949 = .ok (.aload_n 0, 1) := by decide +kernel
theorem dL_law_950 : decode cL_law 950 = .ok (.iload_n 3, 1) := by decide +kernel
theorem dL_law_951 : decode cL_law 951 = .ok (.iconst 1, 1) := by decide +kernel
theorem dL_law_952 : decode cL_law 952 = .ok (.iadd, 1) := by decide +kernel
theorem dL_law_953 : decode cL_law 953 = .ok (.iaload, 1) := by decide +kernel
theorem dL_law_954 : decode cL_law 954 = .ok (.aload_n 0, 1) := by decide +kernel
theorem dL_law_955 : decode cL_law 955 = .ok (.iload_n 3, 1) := by decide +kernel
theorem dL_law_956 : decode cL_law 956 = .ok (.iconst 2, 1) := by decide +kernel
theorem dL_law_957 : decode cL_law 957 = .ok (.iadd, 1) := by decide +kernel
theorem dL_law_958 : decode cL_law 958 = .ok (.iaload, 1) := by decide +kernel
theorem dL_law_959 : decode cL_law 959 = .ok (.invokevirtual 117, 3) := by decide +kernel
theorem dL_law_962 : decode cL_law 962 = .ok (.if_icmp .eq 166, 3) := by decide +kernel
theorem dL_law_965 : decode cL_law 965 = .ok (.iconst 0, 1) := by decide +kernel
theorem dL_law_966 : decode cL_law 966 = .ok (.ireturn, 1) := by decide +kernel
theorem dL_law_967 : decode cL_law 967 = .ok (.aload_n 1, 1) := by decide +kernel
theorem dL_law_968 : decode cL_law 968 = .ok (.aload_n 0, 1) := by decide +kernel
theorem dL_law_969 : decode cL_law 969 = .ok (.iload_n 3, 1) := by decide +kernel
theorem dL_law_970 : decode cL_law 970 = .ok (.iconst 1, 1) := by decide +kernel
theorem dL_law_971 : decode cL_law 971 = .ok (.iadd, 1) := by decide +kernel
theorem dL_law_972 : decode cL_law 972 = .ok (.iaload, 1) := by decide +kernel
theorem dL_law_973 : decode cL_law 973 = .ok (.aload_n 0, 1) := by decide +kernel
theorem dL_law_974 : decode cL_law 974 = .ok (.iload_n 3, 1) := by decide +kernel
theorem dL_law_975 : decode cL_law 975 = .ok (.iconst 2, 1) := by decide +kernel
theorem dL_law_976 : decode cL_law 976 = .ok (.iadd, 1) := by decide +kernel
theorem dL_law_977 : decode cL_law 977 = .ok (.iaload, 1) := by decide +kernel
theorem dL_law_978 : decode cL_law 978 = .ok (.invokevirtual 118, 3) := by decide +kernel
theorem dL_law_981 : decode cL_law 981 = .ok (.aload_n 2, 1) := by decide +kernel
theorem dL_law_982 : decode cL_law 982 = .ok (.aload_n 0, 1) := by decide +kernel
theorem dL_law_983 : decode cL_law 983 = .ok (.iload_n 3, 1) := by decide +kernel
theorem dL_law_984 : decode cL_law 984 = .ok (.iconst 1, 1) := by decide +kernel
theorem dL_law_985 : decode cL_law 985 = .ok (.iadd, 1) := by decide +kernel
theorem dL_law_986 : decode cL_law 986 = .ok (.iaload, 1) := by decide +kernel
theorem dL_law_987 : decode cL_law 987 = .ok (.aload_n 0, 1) := by decide +kernel
theorem dL_law_988 : decode cL_law 988 = .ok (.iload_n 3, 1) := by decide +kernel
theorem dL_law_989 : decode cL_law 989 = .ok (.iconst 2, 1) := by decide +kernel
theorem dL_law_990 : decode cL_law 990 = .ok (.iadd, 1) := by decide +kernel
theorem dL_law_991 : decode cL_law 991 = .ok (.iaload, 1) := by decide +kernel
theorem dL_law_992 : decode cL_law 992 = .ok (.invokevirtual 121, 3) := by decide +kernel
theorem dL_law_995 : decode cL_law 995 = .ok (.if_icmp .eq 133, 3) := by decide +kernel
theorem dL_law_998 : decode cL_law 998 = .ok (.iconst 0, 1) := by decide +kernel
theorem dL_law_999 : decode cL_law 999 = .ok (.ireturn, 1) := by decide +kernel
theorem dL_law_1000 : decode cL_law 1000 = .ok (.aload_n 1, 1) := by decide +kernel
theorem dL_law_1001 : decode cL_law 1001 = .ok (.invokevirtual 122, 3) := by decide +kernel
theorem dL_law_1004 : decode cL_law 1004 = .ok (.aload_n 2, 1) := by decide +kernel
theorem dL_law_1005 : decode cL_law 1005 = .ok (.invokevirtual 125, 3) := by decide +kernel
theorem dL_law_1008 : decode cL_law 1008 = .ok (.if_icmp .eq 120, 3) := by decide +kernel
theorem dL_law_1011 : decode cL_law 1011 = .ok (.iconst 0, 1) := by decide +kernel
theorem dL_law_1012 : decode cL_law 1012 = .ok (.ireturn, 1) := by decide +kernel
theorem dL_law_1013 : decode cL_law 1013 = .ok (.aload_n 1, 1) := by decide +kernel
theorem dL_law_1014 : decode cL_law 1014 = .ok (.aload_n 0, 1) := by decide +kernel
theorem dL_law_1015 : decode cL_law 1015 = .ok (.iload_n 3, 1) := by decide +kernel
theorem dL_law_1016 : decode cL_law 1016 = .ok (.iconst 1, 1) := by decide +kernel
theorem dL_law_1017 : decode cL_law 1017 = .ok (.iadd, 1) := by decide +kernel
theorem dL_law_1018 : decode cL_law 1018 = .ok (.iaload, 1) := by decide +kernel
theorem dL_law_1019 : decode cL_law 1019 = .ok (.invokevirtual 126, 3) := by decide +kernel
theorem dL_law_1022 : decode cL_law 1022 = .ok (.aload_n 2, 1) := by decide +kernel
theorem dL_law_1023 : decode cL_law 1023 = .ok (.aload_n 0, 1) := by decide +kernel
theorem dL_law_1024 : decode cL_law 1024 = .ok (.iload_n 3, 1) := by decide +kernel
theorem dL_law_1025 : decode cL_law 1025 = .ok (.iconst 1, 1) := by decide +kernel
theorem dL_law_1026 : decode cL_law 1026 = .ok (.iadd, 1) := by decide +kernel
theorem dL_law_1027 : decode cL_law 1027 = .ok (.iaload, 1) := by decide +kernel
theorem dL_law_1028 : decode cL_law 1028 = .ok (.invokevirtual 129, 3) := by decide +kernel
theorem dL_law_1031 : decode cL_law 1031 = .ok (.if_icmp .eq 97, 3) := by decide +kernel
theorem dL_law_1034 : decode cL_law 1034 = .ok (.iconst 0, 1) := by decide +kernel
theorem dL_law_1035 : decode cL_law 1035 = .ok (.ireturn, 1) := by decide +kernel
theorem dL_law_1036 : decode cL_law 1036 = .ok (.aload_n 1, 1) := by decide +kernel
theorem dL_law_1037 : decode cL_law 1037 = .ok (.aload_n 0, 1) := by decide +kernel
theorem dL_law_1038 : decode cL_law 1038 = .ok (.iload_n 3, 1) := by decide +kernel
theorem dL_law_1039 : decode cL_law 1039 = .ok (.iconst 1, 1) := by decide +kernel
theorem dL_law_1040 : decode cL_law 1040 = .ok (.iadd, 1) := by decide +kernel
theorem dL_law_1041 : decode cL_law 1041 = .ok (.iaload, 1) := by decide +kernel
theorem dL_law_1042 : decode cL_law 1042 = .ok (.invokevirtual 130, 3) := by decide +kernel
theorem dL_law_1045 : decode cL_law 1045 = .ok (.aload_n 2, 1) := by decide +kernel
theorem dL_law_1046 : decode cL_law 1046 = .ok (.aload_n 0, 1) := by decide +kernel
theorem dL_law_1047 : decode cL_law 1047 = .ok (.iload_n 3, 1) := by decide +kernel
theorem dL_law_1048 : decode cL_law 1048 = .ok (.iconst 1, 1) := by decide +kernel
theorem dL_law_1049 : decode cL_law 1049 = .ok (.iadd, 1) := by decide +kernel
theorem dL_law_1050 : decode cL_law 1050 = .ok (.iaload, 1) := by decide +kernel
theorem dL_law_1051 : decode cL_law 1051 = .ok (.invokevirtual 133, 3) := by decide +kernel
theorem dL_law_1054 : decode cL_law 1054 = .ok (.if_icmp .eq 74, 3) := by decide +kernel
theorem dL_law_1057 : decode cL_law 1057 = .ok (.iconst 0, 1) := by decide +kernel
theorem dL_law_1058 : decode cL_law 1058 = .ok (.ireturn, 1) := by decide +kernel
theorem dL_law_1059 : decode cL_law 1059 = .ok (.aload_n 1, 1) := by decide +kernel
theorem dL_law_1060 : decode cL_law 1060 = .ok (.aload_n 0, 1) := by decide +kernel
theorem dL_law_1061 : decode cL_law 1061 = .ok (.iload_n 3, 1) := by decide +kernel
theorem dL_law_1062 : decode cL_law 1062 = .ok (.iconst 1, 1) := by decide +kernel
theorem dL_law_1063 : decode cL_law 1063 = .ok (.iadd, 1) := by decide +kernel
theorem dL_law_1064 : decode cL_law 1064 = .ok (.iaload, 1) := by decide +kernel
theorem dL_law_1065 : decode cL_law 1065 = .ok (.invokevirtual 134, 3) := by decide +kernel
theorem dL_law_1068 : decode cL_law 1068 = .ok (.aload_n 2, 1) := by decide +kernel
theorem dL_law_1069 : decode cL_law 1069 = .ok (.aload_n 0, 1) := by decide +kernel
theorem dL_law_1070 : decode cL_law 1070 = .ok (.iload_n 3, 1) := by decide +kernel
theorem dL_law_1071 : decode cL_law 1071 = .ok (.iconst 1, 1) := by decide +kernel
theorem dL_law_1072 : decode cL_law 1072 = .ok (.iadd, 1) := by decide +kernel
theorem dL_law_1073 : decode cL_law 1073 = .ok (.iaload, 1) := by decide +kernel
theorem dL_law_1074 : decode cL_law 1074 = .ok (.invokevirtual 137, 3) := by decide +kernel
theorem dL_law_1077 : decode cL_law 1077 = .ok (.if_icmp .eq 51, 3) := by decide +kernel
theorem dL_law_1080 : decode cL_law 1080 = .ok (.iconst 0, 1) := by decide +kernel
theorem dL_law_1081 : decode cL_law 1081 = .ok (.ireturn, 1) := by decide +kernel
theorem dL_law_1082 : decode cL_law 1082 = .ok (.aload_n 1, 1) := by decide +kernel
theorem dL_law_1083 : decode cL_law 1083 = .ok (.aload_n 0, 1) := by decide +kernel
theorem dL_law_1084 : decode cL_law 1084 = .ok (.iload_n 3, 1) := by decide +kernel
theorem dL_law_1085 : decode cL_law 1085 = .ok (.iconst 1, 1) := by decide +kernel
theorem dL_law_1086 : decode cL_law 1086 = .ok (.iadd, 1) := by decide +kernel
theorem dL_law_1087 : decode cL_law 1087 = .ok (.iaload, 1) := by decide +kernel
theorem dL_law_1088 : decode cL_law 1088 = .ok (.invokevirtual 138, 3) := by decide +kernel
theorem dL_law_1091 : decode cL_law 1091 = .ok (.aload_n 2, 1) := by decide +kernel
theorem dL_law_1092 : decode cL_law 1092 = .ok (.aload_n 0, 1) := by decide +kernel
theorem dL_law_1093 : decode cL_law 1093 = .ok (.iload_n 3, 1) := by decide +kernel
theorem dL_law_1094 : decode cL_law 1094 = .ok (.iconst 1, 1) := by decide +kernel
theorem dL_law_1095 : decode cL_law 1095 = .ok (.iadd, 1) := by decide +kernel
theorem dL_law_1096 : decode cL_law 1096 = .ok (.iaload, 1) := by decide +kernel
theorem dL_law_1097 : decode cL_law 1097 = .ok (.invokevirtual 141, 3) := by decide +kernel
theorem dL_law_1100 : decode cL_law 1100 = .ok (.if_icmp .eq 28, 3) := by decide +kernel
theorem dL_law_1103 : decode cL_law 1103 = .ok (.iconst 0, 1) := by decide +kernel
theorem dL_law_1104 : decode cL_law 1104 = .ok (.ireturn, 1) := by decide +kernel
theorem dL_law_1105 : decode cL_law 1105 = .ok (.aload_n 1, 1) := by decide +kernel
theorem dL_law_1106 : decode cL_law 1106 = .ok (.aload_n 0, 1) := by decide +kernel
theorem dL_law_1107 : decode cL_law 1107 = .ok (.iload_n 3, 1) := by decide +kernel
theorem dL_law_1108 : decode cL_law 1108 = .ok (.iconst 1, 1) := by decide +kernel
theorem dL_law_1109 : decode cL_law 1109 = .ok (.iadd, 1) := by decide +kernel
theorem dL_law_1110 : decode cL_law 1110 = .ok (.iaload, 1) := by decide +kernel
theorem dL_law_1111 : decode cL_law 1111 = .ok (.invokevirtual 142, 3) := by decide +kernel
theorem dL_law_1114 : decode cL_law 1114 = .ok (.aload_n 2, 1) := by decide +kernel
theorem dL_law_1115 : decode cL_law 1115 = .ok (.aload_n 0, 1) := by decide +kernel
theorem dL_law_1116 : decode cL_law 1116 = .ok (.iload_n 3, 1) := by decide +kernel
theorem dL_law_1117 : decode cL_law 1117 = .ok (.iconst 1, 1) := by decide +kernel
theorem dL_law_1118 : decode cL_law 1118 = .ok (.iadd, 1) := by decide +kernel
theorem dL_law_1119 : decode cL_law 1119 = .ok (.iaload, 1) := by decide +kernel
theorem dL_law_1120 : decode cL_law 1120 = .ok (.invokevirtual 145, 3) := by decide +kernel
theorem dL_law_1123 : decode cL_law 1123 = .ok (.if_icmp .eq 5, 3) := by decide +kernel
theorem dL_law_1126 : decode cL_law 1126 = .ok (.iconst 0, 1) := by decide +kernel
theorem dL_law_1127 : decode cL_law 1127 = .ok (.ireturn, 1) := by decide +kernel
theorem dL_law_1128 : decode cL_law 1128 = .ok (.iinc 3 7, 3) := by decide +kernel
theorem dL_law_1131 : decode cL_law 1131 = .ok (.goto (-1113), 3) := by decide +kernel
theorem dL_law_1134 : decode cL_law 1134 = .ok (.iconst 1, 1) := by decide +kernel
theorem dL_law_1135 : decode cL_law 1135 = .ok (.ireturn, 1) := by decide +kernel
