theorem dX12_lesser_0 : decode cX12_lesser 0 = .ok (.aload_n 0, 1) := by decide +kernel
theorem dX12_lesser_1 : decode cX12_lesser 1 = .ok (.getfield 32, 3) := by decide +kernel
theorem dX12_lesser_4 : decode cX12_lesser 4 = .ok (.iload_n 1, 1) := by decide +kernel
theorem dX12_lesser_5 : decode cX12_lesser 5 = .ok (.iaload, 1) := by decide +kernel
theorem dX12_lesser_6 : decode cX12_lesser 6 = .ok (.aload_n 0, 1) := by decide +kernel
theorem dX12_lesser_7 : decode cX12_lesser 7 = .ok (.getfield 32, 3) := by decide +kernel
theorem dX12_lesser_10 : decode cX12_lesser 10 = .ok (.iload_n 2, 1) := by decide +kernel
theorem dX12_lesser_11 : decode cX12_lesser 11 = .ok (.iaload, 1) := by decide +kernel
theorem dX12_lesser_12 : decode cX12_lesser 12 = .ok (.if_icmp .ge 12, 3) := by decide +kernel
theorem dX12_lesser_15 : decode cX12_lesser 15 = .ok (.aload_n 0, 1) := by decide +kernel
theorem dX12_lesser_16 : decode cX12_lesser 16 = .ok (.getfield 32, 3) := by decide +kernel
theorem dX12_lesser_19 : decode cX12_lesser 19 = .ok (.iload_n 1, 1) := by decide +kernel
theorem dX12_lesser_20 : decode cX12_lesser 20 = .ok (.iaload, 1) := by decide +kernel
theorem dX12_lesser_21 : decode cX12_lesser 21 = .ok (.goto 9, 3) := by decide +kernel
theorem dX12_lesser_24 : decode cX12_lesser 24 = .ok (.aload_n 0, 1) := by decide +kernel
theorem dX12_lesser_25 : decode cX12_lesser 25 = .ok (.getfield 32, 3) := by decide +kernel
theorem dX12_lesser_28 : decode cX12_lesser 28 = .ok (.iload_n 2, 1) := by decide +kernel
theorem dX12_lesser_29 : decode cX12_lesser 29 = .ok (.iaload, 1) := by decide +kernel
theorem dX12_lesser_30 : decode cX12_lesser 30 = .ok (.ireturn, 1) := by decide +kernel
theorem dX12_copiesAll_0 : decode cX12_copiesAll 0 = .ok (.iconst 0, 1) := by decide +kernel
theorem dX12_copiesAll_1 : decode cX12_copiesAll 1 = .ok (.istore 4, 2) := by decide +kernel
theorem dX12_copiesAll_3 : decode cX12_copiesAll 3 = .ok (.iconst 0, 1) := by decide +kernel
theorem dX12_copiesAll_4 : decode cX12_copiesAll 4 = .ok (.istore 5, 2) := by decide +kernel
theorem dX12_copiesAll_6 : decode cX12_copiesAll 6 = .ok (.iload 5, 2) := by decide +kernel
theorem dX12_copiesAll_8 : decode cX12_copiesAll 8 = .ok (.iload_n 3, 1) := by decide +kernel
theorem dX12_copiesAll_9 : decode cX12_copiesAll 9 = .ok (.if_icmp .ge 54, 3) := by decide +kernel
theorem dX12_copiesAll_12 : decode cX12_copiesAll 12 = .ok (.iload 4, 2) := by decide +kernel
theorem dX12_copiesAll_14 : decode cX12_copiesAll 14 = .ok (.aload_n 0, 1) := by decide +kernel
theorem dX12_copiesAll_15 : decode cX12_copiesAll 15 = .ok (.iload_n 1, 1) := by decide +kernel
theorem dX12_copiesAll_16 : decode cX12_copiesAll 16 = .ok (.iload 5, 2) := by decide +kernel
theorem dX12_copiesAll_18 : decode cX12_copiesAll 18 = .ok (.invokevirtual 227, 3) := by decide +kernel
theorem dX12_copiesAll_21 : decode cX12_copiesAll 21 = .ok (.ifCond .eq 10, 3) := by decide +kernel
theorem dX12_copiesAll_24 : decode cX12_copiesAll 24 = .ok (.iconst 1, 1) := by decide +kernel
theorem dX12_copiesAll_25 : decode cX12_copiesAll 25 = .ok (.iload 5, 2) := by decide +kernel
theorem dX12_copiesAll_27 : decode cX12_copiesAll 27 = .ok (.ishl, 1) := by decide +kernel
theorem dX12_copiesAll_28 : decode cX12_copiesAll 28 = .ok (.goto 4, 3) := by decide +kernel
theorem dX12_copiesAll_31 : decode cX12_copiesAll 31 = .ok (.iconst 0, 1) := by decide +kernel
theorem dX12_copiesAll_32 : decode cX12_copiesAll 32 = .ok (.ior, 1) := by decide +kernel
theorem dX12_copiesAll_33 : decode cX12_copiesAll 33 = .ok (.istore 4, 2) := by decide +kernel
theorem dX12_copiesAll_35 : decode cX12_copiesAll 35 = .ok (.aload_n 0, 1) := by decide +kernel
theorem dX12_copiesAll_36 : decode cX12_copiesAll 36 = .ok (.getfield 88, 3) := by decide +kernel
theorem dX12_copiesAll_39 : decode cX12_copiesAll 39 = .ok (.iload 5, 2) := by decide +kernel
theorem dX12_copiesAll_41 : decode cX12_copiesAll 41 = .ok (.aload_n 0, 1) := by decide +kernel
theorem dX12_copiesAll_42 : decode cX12_copiesAll 42 = .ok (.getfield 182, 3) := by decide +kernel
theorem dX12_copiesAll_45 : decode cX12_copiesAll 45 = .ok (.iastore, 1) := by decide +kernel
theorem dX12_copiesAll_46 : decode cX12_copiesAll 46 = .ok (.aload_n 0, 1) := by decide +kernel
theorem dX12_copiesAll_47 : decode cX12_copiesAll 47 = .ok (.getfield 91, 3) := by decide +kernel
theorem dX12_copiesAll_50 : decode cX12_copiesAll 50 = .ok (.iload 5, 2) := by decide +kernel
theorem dX12_copiesAll_52 : decode cX12_copiesAll 52 = .ok (.aload_n 0, 1) := by decide +kernel
theorem dX12_copiesAll_53 : decode cX12_copiesAll 53 = .ok (.getfield 185, 3) := by decide +kernel
theorem dX12_copiesAll_56 : decode cX12_copiesAll 56 = .ok (.lastore, 1) := by decide +kernel
theorem dX12_copiesAll_57 : decode cX12_copiesAll 57 = .ok (.iinc 5 1, 3) := by decide +kernel
theorem dX12_copiesAll_60 : decode cX12_copiesAll 60 = .ok (.goto (-54), 3) := by decide +kernel
theorem dX12_copiesAll_63 : decode cX12_copiesAll 63 = .ok (.iconst 0, 1) := by decide +kernel
theorem dX12_copiesAll_64 : decode cX12_copiesAll 64 = .ok (.istore 5, 2) := by decide +kernel
theorem dX12_copiesAll_66 : decode cX12_copiesAll 66 = .ok (.iload 5, 2) := by decide +kernel
theorem dX12_copiesAll_68 : decode cX12_copiesAll 68 = .ok (.iload_n 3, 1) := by decide +kernel
theorem dX12_copiesAll_69 : decode cX12_copiesAll 69 = .ok (.if_icmp .ge 67, 3) := by decide +kernel
theorem dX12_copiesAll_72 : decode cX12_copiesAll 72 = .ok (.aload_n 0, 1) := by decide +kernel
theorem dX12_copiesAll_73 : decode cX12_copiesAll 73 = .ok (.aload_n 0, 1) := by decide +kernel
theorem dX12_copiesAll_74 : decode cX12_copiesAll 74 = .ok (.getfield 88, 3) := by decide +kernel
theorem dX12_copiesAll_77 : decode cX12_copiesAll 77 = .ok (.iload 5, 2) := by decide +kernel
theorem dX12_copiesAll_79 : decode cX12_copiesAll 79 = .ok (.iaload, 1) := by decide +kernel
theorem dX12_copiesAll_80 : decode cX12_copiesAll 80 = .ok (.putfield 182, 3) := by decide +kernel
theorem dX12_copiesAll_83 : decode cX12_copiesAll 83 = .ok (.aload_n 0, 1) := by decide +kernel
theorem dX12_copiesAll_84 : decode cX12_copiesAll 84 = .ok (.aload_n 0, 1) := by decide +kernel
theorem dX12_copiesAll_85 : decode cX12_copiesAll 85 = .ok (.getfield 91, 3) := by decide +kernel
theorem dX12_copiesAll_88 : decode cX12_copiesAll 88 = .ok (.iload 5, 2) := by decide +kernel
theorem dX12_copiesAll_90 : decode cX12_copiesAll 90 = .ok (.laload, 1) := by decide +kernel
theorem dX12_copiesAll_91 : decode cX12_copiesAll 91 = .ok (.putfield 185, 3) := by decide +kernel
theorem dX12_copiesAll_94 : decode cX12_copiesAll 94 = .ok (.iload 4, 2) := by decide +kernel
theorem dX12_copiesAll_96 : decode cX12_copiesAll 96 = .ok (.iload 5, 2) := by decide +kernel
theorem dX12_copiesAll_98 : decode cX12_copiesAll 98 = .ok (.invokestatic 281, 3) := by decide +kernel
theorem dX12_copiesAll_101 : decode cX12_copiesAll 101 = .ok (.ifCond .ne 29, 3) := by decide +kernel
theorem dX12_copiesAll_104 : decode cX12_copiesAll 104 = .ok (.aload_n 0, 1) := by decide +kernel
theorem dX12_copiesAll_105 : decode cX12_copiesAll 105 = .ok (.iload_n 2, 1) := by decide +kernel
theorem dX12_copiesAll_106 : decode cX12_copiesAll 106 = .ok (.iload 5, 2) := by decide +kernel
theorem dX12_copiesAll_108 : decode cX12_copiesAll 108 = .ok (.aload_n 0, 1) := by decide +kernel
theorem dX12_copiesAll_109 : decode cX12_copiesAll 109 = .ok (.getfield 35, 3) := by decide +kernel
theorem dX12_copiesAll_112 : decode cX12_copiesAll 112 = .ok (.iload_n 1, 1) := by decide +kernel
theorem dX12_copiesAll_113 : decode cX12_copiesAll 113 = .ok (.iaload, 1) := by decide +kernel
theorem dX12_copiesAll_114 : decode cX12_copiesAll 114 = .ok (.iconst 0, 1) := by decide +kernel
theorem dX12_copiesAll_115 : decode cX12_copiesAll 115 = .ok (.invokevirtual 259, 3) := by decide +kernel
theorem dX12_copiesAll_118 : decode cX12_copiesAll 118 = .ok (.ifCond .eq 12, 3) := by decide +kernel
theorem dX12_copiesAll_121 : decode cX12_copiesAll 121 = .ok (.iload 4, 2) := by decide +kernel
theorem dX12_copiesAll_123 : decode cX12_copiesAll 123 = .ok (.iconst 1, 1) := by decide +kernel
theorem dX12_copiesAll_124 : decode cX12_copiesAll 124 = .ok (.iload 5, 2) := by decide +kernel
theorem dX12_copiesAll_126 : decode cX12_copiesAll 126 = .ok (.ishl, 1) := by decide +kernel
theorem dX12_copiesAll_127 : decode cX12_copiesAll 127 = .ok (.ior, 1) := by decide +kernel
theorem dX12_copiesAll_128 : decode cX12_copiesAll 128 = .ok (.istore 4, 2) := by decide +kernel
theorem dX12_copiesAll_130 : decode cX12_copiesAll 130 = .ok (.iinc 5 1, 3) := by decide +kernel
theorem dX12_copiesAll_133 : decode cX12_copiesAll 133 = .ok (.goto (-67), 3) := by decide +kernel
theorem dX12_copiesAll_136 : decode cX12_copiesAll 136 = .ok (.iload 4, 2) := by decide +kernel
theorem dX12_copiesAll_138 : decode cX12_copiesAll 138 = .ok (.ireturn, 1) := by decide +kernel
theorem dX12_copies_0 : decode cX12_copies 0 = .ok (.aload_n 0, 1) := by decide +kernel
theorem dX12_copies_1 : decode cX12_copies 1 = .ok (.iconst 0, 1) := by decide +kernel
theorem dX12_copies_2 : decode cX12_copies 2 = .ok (.putfield 109, 3) := by decide +kernel
theorem dX12_copies_5 : decode cX12_copies 5 = .ok (.aload_n 0, 1) := by decide +kernel
theorem dX12_copies_6 : decode cX12_copies 6 = .ok (.iload_n 1, 1) := by decide +kernel
theorem dX12_copies_7 : decode cX12_copies 7 = .ok (.invokevirtual 152, 3) := by decide +kernel
theorem dX12_copies_10 : decode cX12_copies 10 = .ok (.ifCond .eq 23, 3) := by decide +kernel
theorem dX12_copies_13 : decode cX12_copies 13 = .ok (.aload_n 0, 1) := by decide +kernel
theorem dX12_copies_14 : decode cX12_copies 14 = .ok (.iload_n 2, 1) := by decide +kernel
theorem dX12_copies_15 : decode cX12_copies 15 = .ok (.invokevirtual 152, 3) := by decide +kernel
theorem dX12_copies_18 : decode cX12_copies 18 = .ok (.ifCond .eq 15, 3) := by decide +kernel
theorem dX12_copies_21 : decode cX12_copies 21 = .ok (.iload_n 3, 1) := by decide +kernel
theorem dX12_copies_22 : decode cX12_copies 22 = .ok (.i2l, 1) := by decide +kernel
theorem dX12_copies_23 : decode cX12_copies 23 = .ok (.lconst 0, 1) := by decide +kernel
theorem dX12_copies_24 : decode cX12_copies 24 = .ok (.ldc2_w 112, 3) := by decide +kernel
theorem dX12_copies_27 : decode cX12_copies 27 = .ok (.invokestatic 118, 3) := by decide +kernel
theorem dX12_copies_30 : decode cX12_copies 30 = .ok (.ifCond .ne 5, 3) := by decide +kernel
theorem dX12_copies_33 : decode cX12_copies 33 = .ok (.iconst (-1), 1) := by decide +kernel
theorem dX12_copies_34 : decode cX12_copies 34 = .ok (.ireturn, 1) := by decide +kernel
theorem dX12_copies_35 : decode cX12_copies 35 = .ok (.aload_n 0, 1) := by decide +kernel
theorem dX12_copies_36 : decode cX12_copies 36 = .ok (.aload_n 0, 1) := by decide +kernel
theorem dX12_copies_37 : decode cX12_copies 37 = .ok (.getfield 82, 3) := by decide +kernel
theorem dX12_copies_40 : decode cX12_copies 40 = .ok (.aload_n 0, 1) := by decide +kernel
theorem dX12_copies_41 : decode cX12_copies 41 = .ok (.getfield 85, 3) := by decide +kernel
theorem dX12_copies_44 : decode cX12_copies 44 = .ok (.iconst 0, 1) := by decide +kernel
theorem dX12_copies_45 : decode cX12_copies 45 = .ok (.invokevirtual 248, 3) := by decide +kernel
theorem dX12_copies_48 : decode cX12_copies 48 = .ok (.aload_n 0, 1) := by decide +kernel
theorem dX12_copies_49 : decode cX12_copies 49 = .ok (.invokevirtual 252, 3) := by decide +kernel
theorem dX12_copies_52 : decode cX12_copies 52 = .ok (.aload_n 0, 1) := by decide +kernel
theorem dX12_copies_53 : decode cX12_copies 53 = .ok (.iload_n 1, 1) := by decide +kernel
theorem dX12_copies_54 : decode cX12_copies 54 = .ok (.iload_n 2, 1) := by decide +kernel
theorem dX12_copies_55 : decode cX12_copies 55 = .ok (.invokevirtual 284, 3) := by decide +kernel
theorem dX12_copies_58 : decode cX12_copies 58 = .ok (.istore 4, 2) := by decide +kernel
theorem dX12_copies_60 : decode cX12_copies 60 = .ok (.iload_n 3, 1) := by decide +kernel
theorem dX12_copies_61 : decode cX12_copies 61 = .ok (.iconst 2, 1) := by decide +kernel
theorem dX12_copies_62 : decode cX12_copies 62 = .ok (.if_icmp .ne 12, 3) := by decide +kernel
theorem dX12_copies_65 : decode cX12_copies 65 = .ok (.aload_n 0, 1) := by decide +kernel
theorem dX12_copies_66 : decode cX12_copies 66 = .ok (.iload_n 1, 1) := by decide +kernel
theorem dX12_copies_67 : decode cX12_copies 67 = .ok (.iload_n 2, 1) := by decide +kernel
theorem dX12_copies_68 : decode cX12_copies 68 = .ok (.iload 4, 2) := by decide +kernel
theorem dX12_copies_70 : decode cX12_copies 70 = .ok (.invokevirtual 287, 3) := by decide +kernel
theorem dX12_copies_73 : decode cX12_copies 73 = .ok (.ireturn, 1) := by decide +kernel
theorem dX12_copies_74 : decode cX12_copies 74 = .ok (.iconst 0, 1) := by decide +kernel
theorem dX12_copies_75 : decode cX12_copies 75 = .ok (.istore 5, 2) := by decide +kernel
theorem dX12_copies_77 : decode cX12_copies 77 = .ok (.iconst 0, 1) := by decide +kernel
theorem dX12_copies_78 : decode cX12_copies 78 = .ok (.istore 6, 2) := by decide +kernel
theorem dX12_copies_80 : decode cX12_copies 80 = .ok (.iload 6, 2) := by decide +kernel
theorem dX12_copies_82 : decode cX12_copies 82 = .ok (.iload 4, 2) := by decide +kernel
theorem dX12_copies_84 : decode cX12_copies 84 = .ok (.if_icmp .ge 55, 3) := by decide +kernel
theorem dX12_copies_87 : decode cX12_copies 87 = .ok (.iload_n 3, 1) := by decide +kernel
theorem dX12_copies_88 : decode cX12_copies 88 = .ok (.ifCond .ne 8, 3) := by decide +kernel
theorem dX12_copies_91 : decode cX12_copies 91 = .ok (.iload 6, 2) := by decide +kernel
theorem dX12_copies_93 : decode cX12_copies 93 = .ok (.goto 10, 3) := by decide +kernel
theorem dX12_copies_96 : decode cX12_copies 96 = .ok (.iload 4, 2) := by decide +kernel
theorem dX12_copies_98 : decode cX12_copies 98 = .ok (.iconst 1, 1) := by decide +kernel
theorem dX12_copies_99 : decode cX12_copies 99 = .ok (.isub, 1) := by decide +kernel
theorem dX12_copies_100 : decode cX12_copies 100 = .ok (.iload 6, 2) := by decide +kernel
theorem dX12_copies_102 : decode cX12_copies 102 = .ok (.isub, 1) := by decide +kernel
theorem dX12_copies_103 : decode cX12_copies 103 = .ok (.istore 7, 2) := by decide +kernel
theorem dX12_copies_105 : decode cX12_copies 105 = .ok (.iload 5, 2) := by decide +kernel
theorem dX12_copies_107 : decode cX12_copies 107 = .ok (.aload_n 0, 1) := by decide +kernel
theorem dX12_copies_108 : decode cX12_copies 108 = .ok (.iconst 0, 1) := by decide +kernel
theorem dX12_copies_109 : decode cX12_copies 109 = .ok (.iload_n 1, 1) := by decide +kernel
theorem dX12_copies_110 : decode cX12_copies 110 = .ok (.iload 7, 2) := by decide +kernel
theorem dX12_copies_112 : decode cX12_copies 112 = .ok (.iload_n 2, 1) := by decide +kernel
theorem dX12_copies_113 : decode cX12_copies 113 = .ok (.iload 7, 2) := by decide +kernel
theorem dX12_copies_115 : decode cX12_copies 115 = .ok (.iconst 0, 1) := by decide +kernel
theorem dX12_copies_116 : decode cX12_copies 116 = .ok (.invokevirtual 277, 3) := by decide +kernel
theorem dX12_copies_119 : decode cX12_copies 119 = .ok (.ifCond .eq 10, 3) := by decide +kernel
theorem dX12_copies_122 : decode cX12_copies 122 = .ok (.iconst 1, 1) := by decide +kernel
theorem dX12_copies_123 : decode cX12_copies 123 = .ok (.iload 7, 2) := by decide +kernel
theorem dX12_copies_125 : decode cX12_copies 125 = .ok (.ishl, 1) := by decide +kernel
theorem dX12_copies_126 : decode cX12_copies 126 = .ok (.goto 4, 3) := by decide +kernel
theorem dX12_copies_129 : decode cX12_copies 129 = .ok (.iconst 0, 1) := by decide +kernel
theorem dX12_copies_130 : decode cX12_copies 130 = .ok (.ior, 1) := by decide +kernel
theorem dX12_copies_131 : decode cX12_copies 131 = .ok (.istore 5, 2) := by decide +kernel
theorem dX12_copies_133 : decode cX12_copies 133 = .ok (.iinc 6 1, 3) := by decide +kernel
theorem dX12_copies_136 : decode cX12_copies 136 = .ok (.goto (-56), 3) := by decide +kernel
theorem dX12_copies_139 : decode cX12_copies 139 = .ok (.iload 5, 2) := by decide +kernel
theorem dX12_copies_141 : decode cX12_copies 141 = .ok (.ireturn, 1) := by decide +kernel
theorem dX12_undo_0 : decode cX12_undo 0 = .ok (.aload_n 0, 1) := by decide +kernel
theorem dX12_undo_1 : decode cX12_undo 1 = .ok (.iconst 0, 1) := by decide +kernel
theorem dX12_undo_2 : decode cX12_undo 2 = .ok (.putfield 109, 3) := by decide +kernel
theorem dX12_undo_5 : decode cX12_undo 5 = .ok (.aload_n 0, 1) := by decide +kernel
theorem dX12_undo_6 : decode cX12_undo 6 = .ok (.getfield 169, 3) := by decide +kernel
theorem dX12_undo_9 : decode cX12_undo 9 = .ok (.ifCond .ne 6, 3) := by decide +kernel
theorem dX12_undo_12 : decode cX12_undo 12 = .ok (.bipush (-2), 2) := by decide +kernel
theorem dX12_undo_14 : decode cX12_undo 14 = .ok (.ireturn, 1) := by decide +kernel
theorem dX12_undo_15 : decode cX12_undo 15 = .ok (.aload_n 0, 1) := by decide +kernel
theorem dX12_undo_16 : decode cX12_undo 16 = .ok (.dup, 1) := by decide +kernel
theorem dX12_undo_17 : decode cX12_undo 17 = .ok (.getfield 169, 3) := by decide +kernel
theorem dX12_undo_20 : decode cX12_undo 20 = .ok (.iconst 1, 1) := by decide +kernel
theorem dX12_undo_21 : decode cX12_undo 21 = .ok (.isub, 1) := by decide +kernel
theorem dX12_undo_22 : decode cX12_undo 22 = .ok (.putfield 169, 3) := by decide +kernel
theorem dX12_undo_25 : decode cX12_undo 25 = .ok (.aload_n 0, 1) := by decide +kernel
theorem dX12_undo_26 : decode cX12_undo 26 = .ok (.aload_n 0, 1) := by decide +kernel
theorem dX12_undo_27 : decode cX12_undo 27 = .ok (.getfield 48, 3) := by decide +kernel
theorem dX12_undo_30 : decode cX12_undo 30 = .ok (.aload_n 0, 1) := by decide +kernel
theorem dX12_undo_31 : decode cX12_undo 31 = .ok (.getfield 51, 3) := by decide +kernel
theorem dX12_undo_34 : decode cX12_undo 34 = .ok (.bipush 72, 2) := by decide +kernel
theorem dX12_undo_36 : decode cX12_undo 36 = .ok (.aload_n 0, 1) := by decide +kernel
theorem dX12_undo_37 : decode cX12_undo 37 = .ok (.getfield 169, 3) := by decide +kernel
theorem dX12_undo_40 : decode cX12_undo 40 = .ok (.imul, 1) := by decide +kernel
theorem dX12_undo_41 : decode cX12_undo 41 = .ok (.bipush 12, 2) := by decide +kernel
theorem dX12_undo_43 : decode cX12_undo 43 = .ok (.aload_n 0, 1) := by decide +kernel
theorem dX12_undo_44 : decode cX12_undo 44 = .ok (.getfield 45, 3) := by decide +kernel
theorem dX12_undo_47 : decode cX12_undo 47 = .ok (.aload_n 0, 1) := by decide +kernel
theorem dX12_undo_48 : decode cX12_undo 48 = .ok (.getfield 169, 3) := by decide +kernel
theorem dX12_undo_51 : decode cX12_undo 51 = .ok (.iaload, 1) := by decide +kernel
theorem dX12_undo_52 : decode cX12_undo 52 = .ok (.imul, 1) := by decide +kernel
theorem dX12_undo_53 : decode cX12_undo 53 = .ok (.invokevirtual 290, 3) := by decide +kernel
theorem dX12_undo_56 : decode cX12_undo 56 = .ok (.aload_n 0, 1) := by decide +kernel
theorem dX12_undo_57 : decode cX12_undo 57 = .ok (.getfield 169, 3) := by decide +kernel
theorem dX12_undo_60 : decode cX12_undo 60 = .ok (.ireturn, 1) := by decide +kernel
theorem dX12_open_0 : decode cX12_open 0 = .ok (.iconst 0, 1) := by decide +kernel
theorem dX12_open_1 : decode cX12_open 1 = .ok (.istore_n 1, 1) := by decide +kernel
theorem dX12_open_2 : decode cX12_open 2 = .ok (.iconst 0, 1) := by decide +kernel
theorem dX12_open_3 : decode cX12_open 3 = .ok (.istore_n 2, 1) := by decide +kernel
theorem dX12_open_4 : decode cX12_open 4 = .ok (.iload_n 2, 1) := by decide +kernel
theorem dX12_open_5 : decode cX12_open 5 = .ok (.aload_n 0, 1) := by decide +kernel
theorem dX12_open_6 : decode cX12_open 6 = .ok (.getfield 172, 3) := by decide +kernel
theorem dX12_open_9 : decode cX12_open 9 = .ok (.if_icmp .ge 46, 3) := by decide +kernel
theorem dX12_open_12 : decode cX12_open 12 = .ok (.iload_n 1, 1) := by decide +kernel
theorem dX12_open_13 : decode cX12_open 13 = .ok (.aload_n 0, 1) := by decide +kernel
theorem dX12_open_14 : decode cX12_open 14 = .ok (.getfield 63, 3) := by decide +kernel
theorem dX12_open_17 : decode cX12_open 17 = .ok (.iconst 5, 1) := by decide +kernel
theorem dX12_open_18 : decode cX12_open 18 = .ok (.iload_n 2, 1) := by decide +kernel
theorem dX12_open_19 : decode cX12_open 19 = .ok (.imul, 1) := by decide +kernel
theorem dX12_open_20 : decode cX12_open 20 = .ok (.iaload, 1) := by decide +kernel
theorem dX12_open_21 : decode cX12_open 21 = .ok (.iconst 5, 1) := by decide +kernel
theorem dX12_open_22 : decode cX12_open 22 = .ok (.if_icmp .ne 7, 3) := by decide +kernel
theorem dX12_open_25 : decode cX12_open 25 = .ok (.iconst 1, 1) := by decide +kernel
theorem dX12_open_26 : decode cX12_open 26 = .ok (.goto 21, 3) := by decide +kernel
theorem dX12_open_29 : decode cX12_open 29 = .ok (.aload_n 0, 1) := by decide +kernel
theorem dX12_open_30 : decode cX12_open 30 = .ok (.getfield 63, 3) := by decide +kernel
theorem dX12_open_33 : decode cX12_open 33 = .ok (.iconst 5, 1) := by decide +kernel
theorem dX12_open_34 : decode cX12_open 34 = .ok (.iload_n 2, 1) := by decide +kernel
theorem dX12_open_35 : decode cX12_open 35 = .ok (.imul, 1) := by decide +kernel
theorem dX12_open_36 : decode cX12_open 36 = .ok (.iaload, 1) := by decide +kernel
theorem dX12_open_37 : decode cX12_open 37 = .ok (.bipush 6, 2) := by decide +kernel
theorem dX12_open_39 : decode cX12_open 39 = .ok (.if_icmp .ne 7, 3) := by decide +kernel
theorem dX12_open_42 : decode cX12_open 42 = .ok (.iconst (-1), 1) := by decide +kernel
theorem dX12_open_43 : decode cX12_open 43 = .ok (.goto 4, 3) := by decide +kernel
theorem dX12_open_46 : decode cX12_open 46 = .ok (.iconst 0, 1) := by decide +kernel
theorem dX12_open_47 : decode cX12_open 47 = .ok (.iadd, 1) := by decide +kernel
theorem dX12_open_48 : decode cX12_open 48 = .ok (.istore_n 1, 1) := by decide +kernel
theorem dX12_open_49 : decode cX12_open 49 = .ok (.iinc 2 1, 3) := by decide +kernel
theorem dX12_open_52 : decode cX12_open 52 = .ok (.goto (-48), 3) := by decide +kernel
theorem dX12_open_55 : decode cX12_open 55 = .ok (.iload_n 1, 1) := by decide +kernel
theorem dX12_open_56 : decode cX12_open 56 = .ok (.ireturn, 1) := by decide +kernel
theorem dX12_isLine_0 : decode cX12_isLine 0 = .ok (.iload_n 1, 1) := by decide +kernel
theorem dX12_isLine_1 : decode cX12_isLine 1 = .ok (.iconst 5, 1) := by decide +kernel
theorem dX12_isLine_2 : decode cX12_isLine 2 = .ok (.if_icmp .ge 63, 3) := by decide +kernel
theorem dX12_isLine_5 : decode cX12_isLine 5 = .ok (.iload_n 1, 1) := by decide +kernel
theorem dX12_isLine_6 : decode cX12_isLine 6 = .ok (.i2l, 1) := by decide +kernel
theorem dX12_isLine_7 : decode cX12_isLine 7 = .ok (.lconst 0, 1) := by decide +kernel
theorem dX12_isLine_8 : decode cX12_isLine 8 = .ok (.ldc2_w 275, 3) := by decide +kernel
theorem dX12_isLine_11 : decode cX12_isLine 11 = .ok (.invokestatic 118, 3) := by decide +kernel
theorem dX12_isLine_14 : decode cX12_isLine 14 = .ok (.ifCond .eq 49, 3) := by decide +kernel
theorem dX12_isLine_17 : decode cX12_isLine 17 = .ok (.aload_n 0, 1) := by decide +kernel
theorem dX12_isLine_18 : decode cX12_isLine 18 = .ok (.iload_n 2, 1) := by decide +kernel
theorem dX12_isLine_19 : decode cX12_isLine 19 = .ok (.invokevirtual 152, 3) := by decide +kernel
theorem dX12_isLine_22 : decode cX12_isLine 22 = .ok (.ifCond .eq 41, 3) := by decide +kernel
theorem dX12_isLine_25 : decode cX12_isLine 25 = .ok (.aload_n 0, 1) := by decide +kernel
theorem dX12_isLine_26 : decode cX12_isLine 26 = .ok (.iload 4, 2) := by decide +kernel
theorem dX12_isLine_28 : decode cX12_isLine 28 = .ok (.invokevirtual 152, 3) := by decide +kernel
theorem dX12_isLine_31 : decode cX12_isLine 31 = .ok (.ifCond .eq 32, 3) := by decide +kernel
theorem dX12_isLine_34 : decode cX12_isLine 34 = .ok (.iload_n 3, 1) := by decide +kernel
theorem dX12_isLine_35 : decode cX12_isLine 35 = .ok (.i2l, 1) := by decide +kernel
theorem dX12_isLine_36 : decode cX12_isLine 36 = .ok (.lconst 0, 1) := by decide +kernel
theorem dX12_isLine_37 : decode cX12_isLine 37 = .ok (.ldc2_w 294, 3) := by decide +kernel
theorem dX12_isLine_40 : decode cX12_isLine 40 = .ok (.invokestatic 118, 3) := by decide +kernel
theorem dX12_isLine_43 : decode cX12_isLine 43 = .ok (.ifCond .eq 20, 3) := by decide +kernel
theorem dX12_isLine_46 : decode cX12_isLine 46 = .ok (.iload 5, 2) := by decide +kernel
theorem dX12_isLine_48 : decode cX12_isLine 48 = .ok (.i2l, 1) := by decide +kernel
theorem dX12_isLine_49 : decode cX12_isLine 49 = .ok (.lconst 0, 1) := by decide +kernel
theorem dX12_isLine_50 : decode cX12_isLine 50 = .ok (.ldc2_w 294, 3) := by decide +kernel
theorem dX12_isLine_53 : decode cX12_isLine 53 = .ok (.invokestatic 118, 3) := by decide +kernel
theorem dX12_isLine_56 : decode cX12_isLine 56 = .ok (.ifCond .eq 7, 3) := by decide +kernel
theorem dX12_isLine_59 : decode cX12_isLine 59 = .ok (.iconst 1, 1) := by decide +kernel
theorem dX12_isLine_60 : decode cX12_isLine 60 = .ok (.goto 4, 3) := by decide +kernel
theorem dX12_isLine_63 : decode cX12_isLine 63 = .ok (.iconst 0, 1) := by decide +kernel
theorem dX12_isLine_64 : decode cX12_isLine 64 = .ok (.ireturn, 1) := by decide +kernel
theorem dX12_isLine_65 : decode cX12_isLine 65 = .ok (.iload_n 1, 1) := by decide +kernel
theorem dX12_isLine_66 : decode cX12_isLine 66 = .ok (.bipush 6, 2) := by decide +kernel
theorem dX12_isLine_68 : decode cX12_isLine 68 = .ok (.if_icmp .eq 20, 3) := by decide +kernel
theorem dX12_isLine_71 : decode cX12_isLine 71 = .ok (.iload_n 1, 1) := by decide +kernel
theorem dX12_isLine_72 : decode cX12_isLine 72 = .ok (.iconst 5, 1) := by decide +kernel
theorem dX12_isLine_73 : decode cX12_isLine 73 = .ok (.if_icmp .ne 19, 3) := by decide +kernel
theorem dX12_isLine_76 : decode cX12_isLine 76 = .ok (.iload_n 2, 1) := by decide +kernel
theorem dX12_isLine_77 : decode cX12_isLine 77 = .ok (.i2l, 1) := by decide +kernel
theorem dX12_isLine_78 : decode cX12_isLine 78 = .ok (.lconst 0, 1) := by decide +kernel
theorem dX12_isLine_79 : decode cX12_isLine 79 = .ok (.ldc2_w 233, 3) := by decide +kernel
theorem dX12_isLine_82 : decode cX12_isLine 82 = .ok (.invokestatic 118, 3) := by decide +kernel
theorem dX12_isLine_85 : decode cX12_isLine 85 = .ok (.ifCond .eq 7, 3) := by decide +kernel
theorem dX12_isLine_88 : decode cX12_isLine 88 = .ok (.iconst 1, 1) := by decide +kernel
theorem dX12_isLine_89 : decode cX12_isLine 89 = .ok (.goto 4, 3) := by decide +kernel
theorem dX12_isLine_92 : decode cX12_isLine 92 = .ok (.iconst 0, 1) := by decide +kernel
theorem dX12_isLine_93 : decode cX12_isLine 93 = .ok (.ireturn, 1) := by decide +kernel
theorem dX12_plans_0 : decode cX12_plans 0 = .ok (.aload_n 0, 1) := by decide +kernel
theorem dX12_plans_1 : decode cX12_plans 1 = .ok (.iconst 0, 1) := by decide +kernel
theorem dX12_plans_2 : decode cX12_plans 2 = .ok (.putfield 109, 3) := by decide +kernel
theorem dX12_plans_5 : decode cX12_plans 5 = .ok (.aload_n 0, 1) := by decide +kernel
theorem dX12_plans_6 : decode cX12_plans 6 = .ok (.iload_n 1, 1) := by decide +kernel
theorem dX12_plans_7 : decode cX12_plans 7 = .ok (.iload_n 2, 1) := by decide +kernel
theorem dX12_plans_8 : decode cX12_plans 8 = .ok (.iload_n 3, 1) := by decide +kernel
theorem dX12_plans_9 : decode cX12_plans 9 = .ok (.iload 4, 2) := by decide +kernel
theorem dX12_plans_11 : decode cX12_plans 11 = .ok (.iload 5, 2) := by decide +kernel
theorem dX12_plans_13 : decode cX12_plans 13 = .ok (.invokevirtual 296, 3) := by decide +kernel
theorem dX12_plans_16 : decode cX12_plans 16 = .ok (.ifCond .ne 5, 3) := by decide +kernel
theorem dX12_plans_19 : decode cX12_plans 19 = .ok (.iconst (-1), 1) := by decide +kernel
theorem dX12_plans_20 : decode cX12_plans 20 = .ok (.ireturn, 1) := by decide +kernel
theorem dX12_plans_21 : decode cX12_plans 21 = .ok (.iload_n 1, 1) := by decide +kernel
theorem dX12_plans_22 : decode cX12_plans 22 = .ok (.bipush 6, 2) := by decide +kernel
theorem dX12_plans_24 : decode cX12_plans 24 = .ok (.if_icmp .ne 13, 3) := by decide +kernel
theorem dX12_plans_27 : decode cX12_plans 27 = .ok (.aload_n 0, 1) := by decide +kernel
theorem dX12_plans_28 : decode cX12_plans 28 = .ok (.invokevirtual 300, 3) := by decide +kernel
theorem dX12_plans_31 : decode cX12_plans 31 = .ok (.ifCond .ne 6, 3) := by decide +kernel
theorem dX12_plans_34 : decode cX12_plans 34 = .ok (.bipush (-2), 2) := by decide +kernel
theorem dX12_plans_36 : decode cX12_plans 36 = .ok (.ireturn, 1) := by decide +kernel
theorem dX12_plans_37 : decode cX12_plans 37 = .ok (.aload_n 0, 1) := by decide +kernel
theorem dX12_plans_38 : decode cX12_plans 38 = .ok (.getfield 172, 3) := by decide +kernel
theorem dX12_plans_41 : decode cX12_plans 41 = .ok (.bipush 16, 2) := by decide +kernel
theorem dX12_plans_43 : decode cX12_plans 43 = .ok (.if_icmp .eq 16, 3) := by decide +kernel
theorem dX12_plans_46 : decode cX12_plans 46 = .ok (.iload_n 1, 1) := by decide +kernel
theorem dX12_plans_47 : decode cX12_plans 47 = .ok (.iconst 5, 1) := by decide +kernel
theorem dX12_plans_48 : decode cX12_plans 48 = .ok (.if_icmp .ne 14, 3) := by decide +kernel
theorem dX12_plans_51 : decode cX12_plans 51 = .ok (.aload_n 0, 1) := by decide +kernel
theorem dX12_plans_52 : decode cX12_plans 52 = .ok (.invokevirtual 300, 3) := by decide +kernel
theorem dX12_plans_55 : decode cX12_plans 55 = .ok (.iconst 3, 1) := by decide +kernel
theorem dX12_plans_56 : decode cX12_plans 56 = .ok (.if_icmp .ne 6, 3) := by decide +kernel
theorem dX12_plans_59 : decode cX12_plans 59 = .ok (.bipush (-3), 2) := by decide +kernel
theorem dX12_plans_61 : decode cX12_plans 61 = .ok (.ireturn, 1) := by decide +kernel
theorem dX12_plans_62 : decode cX12_plans 62 = .ok (.aload_n 0, 1) := by decide +kernel
theorem dX12_plans_63 : decode cX12_plans 63 = .ok (.getfield 63, 3) := by decide +kernel
theorem dX12_plans_66 : decode cX12_plans 66 = .ok (.iconst 5, 1) := by decide +kernel
theorem dX12_plans_67 : decode cX12_plans 67 = .ok (.aload_n 0, 1) := by decide +kernel
theorem dX12_plans_68 : decode cX12_plans 68 = .ok (.getfield 172, 3) := by decide +kernel
theorem dX12_plans_71 : decode cX12_plans 71 = .ok (.imul, 1) := by decide +kernel
theorem dX12_plans_72 : decode cX12_plans 72 = .ok (.iload_n 1, 1) := by decide +kernel
theorem dX12_plans_73 : decode cX12_plans 73 = .ok (.iastore, 1) := by decide +kernel
theorem dX12_plans_74 : decode cX12_plans 74 = .ok (.aload_n 0, 1) := by decide +kernel
theorem dX12_plans_75 : decode cX12_plans 75 = .ok (.getfield 63, 3) := by decide +kernel
theorem dX12_plans_78 : decode cX12_plans 78 = .ok (.iconst 5, 1) := by decide +kernel
theorem dX12_plans_79 : decode cX12_plans 79 = .ok (.aload_n 0, 1) := by decide +kernel
theorem dX12_plans_80 : decode cX12_plans 80 = .ok (.getfield 172, 3) := by decide +kernel
theorem dX12_plans_83 : decode cX12_plans 83 = .ok (.imul, 1) := by decide +kernel
theorem dX12_plans_84 : decode cX12_plans 84 = .ok (.iconst 1, 1) := by decide +kernel
theorem dX12_plans_85 : decode cX12_plans 85 = .ok (.iadd, 1) := by decide +kernel
theorem dX12_plans_86 : decode cX12_plans 86 = .ok (.iload_n 1, 1) := by decide +kernel
theorem dX12_plans_87 : decode cX12_plans 87 = .ok (.bipush 6, 2) := by decide +kernel
theorem dX12_plans_89 : decode cX12_plans 89 = .ok (.if_icmp .ge 7, 3) := by decide +kernel
theorem dX12_plans_92 : decode cX12_plans 92 = .ok (.iload_n 2, 1) := by decide +kernel
theorem dX12_plans_93 : decode cX12_plans 93 = .ok (.goto 4, 3) := by decide +kernel
theorem dX12_plans_96 : decode cX12_plans 96 = .ok (.iconst 0, 1) := by decide +kernel
theorem dX12_plans_97 : decode cX12_plans 97 = .ok (.iastore, 1) := by decide +kernel
theorem dX12_plans_98 : decode cX12_plans 98 = .ok (.aload_n 0, 1) := by decide +kernel
theorem dX12_plans_99 : decode cX12_plans 99 = .ok (.getfield 63, 3) := by decide +kernel
theorem dX12_plans_102 : decode cX12_plans 102 = .ok (.iconst 5, 1) := by decide +kernel
theorem dX12_plans_103 : decode cX12_plans 103 = .ok (.aload_n 0, 1) := by decide +kernel
theorem dX12_plans_104 : decode cX12_plans 104 = .ok (.getfield 172, 3) := by decide +kernel
theorem dX12_plans_107 : decode cX12_plans 107 = .ok (.imul, 1) := by decide +kernel
theorem dX12_plans_108 : decode cX12_plans 108 = .ok (.iconst 2, 1) := by decide +kernel
theorem dX12_plans_109 : decode cX12_plans 109 = .ok (.iadd, 1) := by decide +kernel
theorem dX12_plans_110 : decode cX12_plans 110 = .ok (.iload_n 1, 1) := by decide +kernel
theorem dX12_plans_111 : decode cX12_plans 111 = .ok (.iconst 5, 1) := by decide +kernel
theorem dX12_plans_112 : decode cX12_plans 112 = .ok (.if_icmp .ge 7, 3) := by decide +kernel
theorem dX12_plans_115 : decode cX12_plans 115 = .ok (.iload_n 3, 1) := by decide +kernel
theorem dX12_plans_116 : decode cX12_plans 116 = .ok (.goto 4, 3) := by decide +kernel
theorem dX12_plans_119 : decode cX12_plans 119 = .ok (.iconst 0, 1) := by decide +kernel
theorem dX12_plans_120 : decode cX12_plans 120 = .ok (.iastore, 1) := by decide +kernel
theorem dX12_plans_121 : decode cX12_plans 121 = .ok (.aload_n 0, 1) := by decide +kernel
theorem dX12_plans_122 : decode cX12_plans 122 = .ok (.getfield 63, 3) := by decide +kernel
theorem dX12_plans_125 : decode cX12_plans 125 = .ok (.iconst 5, 1) := by decide +kernel
theorem dX12_plans_126 : decode cX12_plans 126 = .ok (.aload_n 0, 1) := by decide +kernel
theorem dX12_plans_127 : decode cX12_plans 127 = .ok (.getfield 172, 3) := by decide +kernel
theorem dX12_plans_130 : decode cX12_plans 130 = .ok (.imul, 1) := by decide +kernel
theorem dX12_plans_131 : decode cX12_plans 131 = .ok (.iconst 3, 1) := by decide +kernel
theorem dX12_plans_132 : decode cX12_plans 132 = .ok (.iadd, 1) := by decide +kernel
theorem dX12_plans_133 : decode cX12_plans 133 = .ok (.iload_n 1, 1) := by decide +kernel
theorem dX12_plans_134 : decode cX12_plans 134 = .ok (.iconst 5, 1) := by decide +kernel
theorem dX12_plans_135 : decode cX12_plans 135 = .ok (.if_icmp .ge 8, 3) := by decide +kernel
theorem dX12_plans_138 : decode cX12_plans 138 = .ok (.iload 4, 2) := by decide +kernel
theorem dX12_plans_140 : decode cX12_plans 140 = .ok (.goto 4, 3) := by decide +kernel
theorem dX12_plans_143 : decode cX12_plans 143 = .ok (.iconst 0, 1) := by decide +kernel
theorem dX12_plans_144 : decode cX12_plans 144 = .ok (.iastore, 1) := by decide +kernel
theorem dX12_plans_145 : decode cX12_plans 145 = .ok (.aload_n 0, 1) := by decide +kernel
theorem dX12_plans_146 : decode cX12_plans 146 = .ok (.getfield 63, 3) := by decide +kernel
theorem dX12_plans_149 : decode cX12_plans 149 = .ok (.iconst 5, 1) := by decide +kernel
theorem dX12_plans_150 : decode cX12_plans 150 = .ok (.aload_n 0, 1) := by decide +kernel
theorem dX12_plans_151 : decode cX12_plans 151 = .ok (.getfield 172, 3) := by decide +kernel
theorem dX12_plans_154 : decode cX12_plans 154 = .ok (.imul, 1) := by decide +kernel
theorem dX12_plans_155 : decode cX12_plans 155 = .ok (.iconst 4, 1) := by decide +kernel
theorem dX12_plans_156 : decode cX12_plans 156 = .ok (.iadd, 1) := by decide +kernel
theorem dX12_plans_157 : decode cX12_plans 157 = .ok (.iload_n 1, 1) := by decide +kernel
theorem dX12_plans_158 : decode cX12_plans 158 = .ok (.iconst 5, 1) := by decide +kernel
theorem dX12_plans_159 : decode cX12_plans 159 = .ok (.if_icmp .ge 8, 3) := by decide +kernel
theorem dX12_plans_162 : decode cX12_plans 162 = .ok (.iload 5, 2) := by decide +kernel
theorem dX12_plans_164 : decode cX12_plans 164 = .ok (.goto 4, 3) := by decide +kernel
theorem dX12_plans_167 : decode cX12_plans 167 = .ok (.iconst 0, 1) := by decide +kernel
theorem dX12_plans_168 : decode cX12_plans 168 = .ok (.iastore, 1) := by decide +kernel
theorem dX12_plans_169 : decode cX12_plans 169 = .ok (.aload_n 0, 1) := by decide +kernel
theorem dX12_plans_170 : decode cX12_plans 170 = .ok (.dup, 1) := by decide +kernel
theorem dX12_plans_171 : decode cX12_plans 171 = .ok (.getfield 172, 3) := by decide +kernel
theorem dX12_plans_174 : decode cX12_plans 174 = .ok (.iconst 1, 1) := by decide +kernel
theorem dX12_plans_175 : decode cX12_plans 175 = .ok (.iadd, 1) := by decide +kernel
theorem dX12_plans_176 : decode cX12_plans 176 = .ok (.putfield 172, 3) := by decide +kernel
theorem dX12_plans_179 : decode cX12_plans 179 = .ok (.aload_n 0, 1) := by decide +kernel
theorem dX12_plans_180 : decode cX12_plans 180 = .ok (.getfield 172, 3) := by decide +kernel
theorem dX12_plans_183 : decode cX12_plans 183 = .ok (.ireturn, 1) := by decide +kernel
theorem dX12_drops_0 : decode cX12_drops 0 = .ok (.aload_n 0, 1) := by decide +kernel
theorem dX12_drops_1 : decode cX12_drops 1 = .ok (.iconst 0, 1) := by decide +kernel
theorem dX12_drops_2 : decode cX12_drops 2 = .ok (.putfield 109, 3) := by decide +kernel
theorem dX12_drops_5 : decode cX12_drops 5 = .ok (.aload_n 0, 1) := by decide +kernel
theorem dX12_drops_6 : decode cX12_drops 6 = .ok (.getfield 172, 3) := by decide +kernel
theorem dX12_drops_9 : decode cX12_drops 9 = .ok (.ifCond .ne 6, 3) := by decide +kernel
theorem dX12_drops_12 : decode cX12_drops 12 = .ok (.bipush (-2), 2) := by decide +kernel
theorem dX12_drops_14 : decode cX12_drops 14 = .ok (.ireturn, 1) := by decide +kernel
theorem dX12_drops_15 : decode cX12_drops 15 = .ok (.aload_n 0, 1) := by decide +kernel
theorem dX12_drops_16 : decode cX12_drops 16 = .ok (.dup, 1) := by decide +kernel
theorem dX12_drops_17 : decode cX12_drops 17 = .ok (.getfield 172, 3) := by decide +kernel
theorem dX12_drops_20 : decode cX12_drops 20 = .ok (.iconst 1, 1) := by decide +kernel
theorem dX12_drops_21 : decode cX12_drops 21 = .ok (.isub, 1) := by decide +kernel
theorem dX12_drops_22 : decode cX12_drops 22 = .ok (.putfield 172, 3) := by decide +kernel
theorem dX12_drops_25 : decode cX12_drops 25 = .ok (.aload_n 0, 1) := by decide +kernel
theorem dX12_drops_26 : decode cX12_drops 26 = .ok (.getfield 172, 3) := by decide +kernel
theorem dX12_drops_29 : decode cX12_drops 29 = .ok (.ireturn, 1) := by decide +kernel
theorem dX12_modes_0 : decode cX12_modes 0 = .ok (.aload_n 0, 1) := by decide +kernel
theorem dX12_modes_1 : decode cX12_modes 1 = .ok (.iconst 0, 1) := by decide +kernel
theorem dX12_modes_2 : decode cX12_modes 2 = .ok (.putfield 109, 3) := by decide +kernel
theorem dX12_modes_5 : decode cX12_modes 5 = .ok (.iload_n 1, 1) := by decide +kernel
theorem dX12_modes_6 : decode cX12_modes 6 = .ok (.i2l, 1) := by decide +kernel
theorem dX12_modes_7 : decode cX12_modes 7 = .ok (.lconst 0, 1) := by decide +kernel
theorem dX12_modes_8 : decode cX12_modes 8 = .ok (.ldc2_w 303, 3) := by decide +kernel
theorem dX12_modes_11 : decode cX12_modes 11 = .ok (.invokestatic 118, 3) := by decide +kernel
theorem dX12_modes_14 : decode cX12_modes 14 = .ok (.ifCond .eq 15, 3) := by decide +kernel
theorem dX12_modes_17 : decode cX12_modes 17 = .ok (.iload_n 2, 1) := by decide +kernel
theorem dX12_modes_18 : decode cX12_modes 18 = .ok (.i2l, 1) := by decide +kernel
theorem dX12_modes_19 : decode cX12_modes 19 = .ok (.lconst 0, 1) := by decide +kernel
theorem dX12_modes_20 : decode cX12_modes 20 = .ok (.ldc2_w 112, 3) := by decide +kernel
theorem dX12_modes_23 : decode cX12_modes 23 = .ok (.invokestatic 118, 3) := by decide +kernel
theorem dX12_modes_26 : decode cX12_modes 26 = .ok (.ifCond .ne 5, 3) := by decide +kernel
theorem dX12_modes_29 : decode cX12_modes 29 = .ok (.iconst (-1), 1) := by decide +kernel
theorem dX12_modes_30 : decode cX12_modes 30 = .ok (.ireturn, 1) := by decide +kernel
theorem dX12_modes_31 : decode cX12_modes 31 = .ok (.aload_n 0, 1) := by decide +kernel
theorem dX12_modes_32 : decode cX12_modes 32 = .ok (.getfield 66, 3) := by decide +kernel
theorem dX12_modes_35 : decode cX12_modes 35 = .ok (.iload_n 1, 1) := by decide +kernel
theorem dX12_modes_36 : decode cX12_modes 36 = .ok (.iaload, 1) := by decide +kernel
theorem dX12_modes_37 : decode cX12_modes 37 = .ok (.istore_n 3, 1) := by decide +kernel
theorem dX12_modes_38 : decode cX12_modes 38 = .ok (.aload_n 0, 1) := by decide +kernel
theorem dX12_modes_39 : decode cX12_modes 39 = .ok (.getfield 66, 3) := by decide +kernel
theorem dX12_modes_42 : decode cX12_modes 42 = .ok (.iload_n 1, 1) := by decide +kernel
theorem dX12_modes_43 : decode cX12_modes 43 = .ok (.iload_n 2, 1) := by decide +kernel
theorem dX12_modes_44 : decode cX12_modes 44 = .ok (.iastore, 1) := by decide +kernel
theorem dX12_modes_45 : decode cX12_modes 45 = .ok (.iload_n 3, 1) := by decide +kernel
theorem dX12_modes_46 : decode cX12_modes 46 = .ok (.ireturn, 1) := by decide +kernel
theorem dX12_refusalOf_0 : decode cX12_refusalOf 0 = .ok (.iload_n 0, 1) := by decide +kernel
theorem dX12_refusalOf_1 : decode cX12_refusalOf 1 = .ok (.tableswitch 51 (-9) (-4) #[49, 47, 45, 43, 41, 39], 39) := by decide +kernel
theorem dX12_refusalOf_40 : decode cX12_refusalOf 40 = .ok (.iconst 0, 1) := by decide +kernel
theorem dX12_refusalOf_41 : decode cX12_refusalOf 41 = .ok (.ireturn, 1) := by decide +kernel
theorem dX12_refusalOf_42 : decode cX12_refusalOf 42 = .ok (.iconst 1, 1) := by decide +kernel
theorem dX12_refusalOf_43 : decode cX12_refusalOf 43 = .ok (.ireturn, 1) := by decide +kernel
theorem dX12_refusalOf_44 : decode cX12_refusalOf 44 = .ok (.iconst 2, 1) := by decide +kernel
theorem dX12_refusalOf_45 : decode cX12_refusalOf 45 = .ok (.ireturn, 1) := by decide +kernel
theorem dX12_refusalOf_46 : decode cX12_refusalOf 46 = .ok (.iconst 3, 1) := by decide +kernel
theorem dX12_refusalOf_47 : decode cX12_refusalOf 47 = .ok (.ireturn, 1) := by decide +kernel
theorem dX12_refusalOf_48 : decode cX12_refusalOf 48 = .ok (.iconst 4, 1) := by decide +kernel
theorem dX12_refusalOf_49 : decode cX12_refusalOf 49 = .ok (.ireturn, 1) := by decide +kernel
theorem dX12_refusalOf_50 : decode cX12_refusalOf 50 = .ok (.iconst 5, 1) := by decide +kernel
theorem dX12_refusalOf_51 : decode cX12_refusalOf 51 = .ok (.ireturn, 1) := by decide +kernel
theorem dX12_refusalOf_52 : decode cX12_refusalOf 52 = .ok (.bipush 6, 2) := by decide +kernel
theorem dX12_refusalOf_54 : decode cX12_refusalOf 54 = .ok (.ireturn, 1) := by decide +kernel
theorem dX12_placeNow_0 : decode cX12_placeNow 0 = .ok (.aload_n 0, 1) := by decide +kernel
theorem dX12_placeNow_1 : decode cX12_placeNow 1 = .ok (.getfield 305, 3) := by decide +kernel
theorem dX12_placeNow_4 : decode cX12_placeNow 4 = .ok (.iload_n 1, 1) := by decide +kernel
theorem dX12_placeNow_5 : decode cX12_placeNow 5 = .ok (.bipush 11, 2) := by decide +kernel
theorem dX12_placeNow_7 : decode cX12_placeNow 7 = .ok (.isub, 1) := by decide +kernel
theorem dX12_placeNow_8 : decode cX12_placeNow 8 = .ok (.isub, 1) := by decide +kernel
theorem dX12_placeNow_9 : decode cX12_placeNow 9 = .ok (.istore_n 2, 1) := by decide +kernel
theorem dX12_placeNow_10 : decode cX12_placeNow 10 = .ok (.iload_n 1, 1) := by decide +kernel
theorem dX12_placeNow_11 : decode cX12_placeNow 11 = .ok (.bipush 12, 2) := by decide +kernel
theorem dX12_placeNow_13 : decode cX12_placeNow 13 = .ok (.if_icmp .ge 7, 3) := by decide +kernel
theorem dX12_placeNow_16 : decode cX12_placeNow 16 = .ok (.iload_n 1, 1) := by decide +kernel
theorem dX12_placeNow_17 : decode cX12_placeNow 17 = .ok (.goto 17, 3) := by decide +kernel
theorem dX12_placeNow_20 : decode cX12_placeNow 20 = .ok (.iload_n 2, 1) := by decide +kernel
theorem dX12_placeNow_21 : decode cX12_placeNow 21 = .ok (.ifCond .lt 12, 3) := by decide +kernel
theorem dX12_placeNow_24 : decode cX12_placeNow 24 = .ok (.aload_n 0, 1) := by decide +kernel
theorem dX12_placeNow_25 : decode cX12_placeNow 25 = .ok (.getfield 97, 3) := by decide +kernel
theorem dX12_placeNow_28 : decode cX12_placeNow 28 = .ok (.iload_n 2, 1) := by decide +kernel
theorem dX12_placeNow_29 : decode cX12_placeNow 29 = .ok (.iaload, 1) := by decide +kernel
theorem dX12_placeNow_30 : decode cX12_placeNow 30 = .ok (.goto 4, 3) := by decide +kernel
theorem dX12_placeNow_33 : decode cX12_placeNow 33 = .ok (.iconst 0, 1) := by decide +kernel
theorem dX12_placeNow_34 : decode cX12_placeNow 34 = .ok (.ireturn, 1) := by decide +kernel
theorem dX12_behind_0 : decode cX12_behind 0 = .ok (.iconst 1, 1) := by decide +kernel
theorem dX12_behind_1 : decode cX12_behind 1 = .ok (.istore_n 2, 1) := by decide +kernel
theorem dX12_behind_2 : decode cX12_behind 2 = .ok (.iload_n 1, 1) := by decide +kernel
theorem dX12_behind_3 : decode cX12_behind 3 = .ok (.iconst 1, 1) := by decide +kernel
theorem dX12_behind_4 : decode cX12_behind 4 = .ok (.iadd, 1) := by decide +kernel
theorem dX12_behind_5 : decode cX12_behind 5 = .ok (.istore_n 3, 1) := by decide +kernel
theorem dX12_behind_6 : decode cX12_behind 6 = .ok (.iload_n 2, 1) := by decide +kernel
theorem dX12_behind_7 : decode cX12_behind 7 = .ok (.ifCond .le 46, 3) := by decide +kernel
theorem dX12_behind_10 : decode cX12_behind 10 = .ok (.iload_n 2, 1) := by decide +kernel
theorem dX12_behind_11 : decode cX12_behind 11 = .ok (.aload_n 0, 1) := by decide +kernel
theorem dX12_behind_12 : decode cX12_behind 12 = .ok (.getfield 63, 3) := by decide +kernel
theorem dX12_behind_15 : decode cX12_behind 15 = .ok (.iconst 5, 1) := by decide +kernel
theorem dX12_behind_16 : decode cX12_behind 16 = .ok (.iload_n 3, 1) := by decide +kernel
theorem dX12_behind_17 : decode cX12_behind 17 = .ok (.imul, 1) := by decide +kernel
theorem dX12_behind_18 : decode cX12_behind 18 = .ok (.iaload, 1) := by decide +kernel
theorem dX12_behind_19 : decode cX12_behind 19 = .ok (.iconst 5, 1) := by decide +kernel
theorem dX12_behind_20 : decode cX12_behind 20 = .ok (.if_icmp .ne 7, 3) := by decide +kernel
theorem dX12_behind_23 : decode cX12_behind 23 = .ok (.iconst 1, 1) := by decide +kernel
theorem dX12_behind_24 : decode cX12_behind 24 = .ok (.goto 21, 3) := by decide +kernel
theorem dX12_behind_27 : decode cX12_behind 27 = .ok (.aload_n 0, 1) := by decide +kernel
theorem dX12_behind_28 : decode cX12_behind 28 = .ok (.getfield 63, 3) := by decide +kernel
theorem dX12_behind_31 : decode cX12_behind 31 = .ok (.iconst 5, 1) := by decide +kernel
theorem dX12_behind_32 : decode cX12_behind 32 = .ok (.iload_n 3, 1) := by decide +kernel
theorem dX12_behind_33 : decode cX12_behind 33 = .ok (.imul, 1) := by decide +kernel
theorem dX12_behind_34 : decode cX12_behind 34 = .ok (.iaload, 1) := by decide +kernel
theorem dX12_behind_35 : decode cX12_behind 35 = .ok (.bipush 6, 2) := by decide +kernel
theorem dX12_behind_37 : decode cX12_behind 37 = .ok (.if_icmp .ne 7, 3) := by decide +kernel
theorem dX12_behind_40 : decode cX12_behind 40 = .ok (.iconst (-1), 1) := by decide +kernel
theorem dX12_behind_41 : decode cX12_behind 41 = .ok (.goto 4, 3) := by decide +kernel
theorem dX12_behind_44 : decode cX12_behind 44 = .ok (.iconst 0, 1) := by decide +kernel
theorem dX12_behind_45 : decode cX12_behind 45 = .ok (.iadd, 1) := by decide +kernel
theorem dX12_behind_46 : decode cX12_behind 46 = .ok (.istore_n 2, 1) := by decide +kernel
theorem dX12_behind_47 : decode cX12_behind 47 = .ok (.iinc 3 1, 3) := by decide +kernel
theorem dX12_behind_50 : decode cX12_behind 50 = .ok (.goto (-44), 3) := by decide +kernel
theorem dX12_behind_53 : decode cX12_behind 53 = .ok (.iload_n 3, 1) := by decide +kernel
theorem dX12_behind_54 : decode cX12_behind 54 = .ok (.ireturn, 1) := by decide +kernel
theorem dX12_isStep_0 : decode cX12_isStep 0 = .ok (.aload_n 0, 1) := by decide +kernel
theorem dX12_isStep_1 : decode cX12_isStep 1 = .ok (.getfield 308, 3) := by decide +kernel
theorem dX12_isStep_4 : decode cX12_isStep 4 = .ok (.aload_n 0, 1) := by decide +kernel
theorem dX12_isStep_5 : decode cX12_isStep 5 = .ok (.getfield 172, 3) := by decide +kernel
theorem dX12_isStep_8 : decode cX12_isStep 8 = .ok (.if_icmp .ge 209, 3) := by decide +kernel
theorem dX12_isStep_11 : decode cX12_isStep 11 = .ok (.aload_n 0, 1) := by decide +kernel
theorem dX12_isStep_12 : decode cX12_isStep 12 = .ok (.getfield 63, 3) := by decide +kernel
theorem dX12_isStep_15 : decode cX12_isStep 15 = .ok (.iconst 5, 1) := by decide +kernel
theorem dX12_isStep_16 : decode cX12_isStep 16 = .ok (.aload_n 0, 1) := by decide +kernel
theorem dX12_isStep_17 : decode cX12_isStep 17 = .ok (.getfield 308, 3) := by decide +kernel
theorem dX12_isStep_20 : decode cX12_isStep 20 = .ok (.imul, 1) := by decide +kernel
theorem dX12_isStep_21 : decode cX12_isStep 21 = .ok (.iaload, 1) := by decide +kernel
theorem dX12_isStep_22 : decode cX12_isStep 22 = .ok (.iconst 4, 1) := by decide +kernel
theorem dX12_isStep_23 : decode cX12_isStep 23 = .ok (.if_icmp .le 194, 3) := by decide +kernel
theorem dX12_isStep_26 : decode cX12_isStep 26 = .ok (.aload_n 0, 1) := by decide +kernel
theorem dX12_isStep_27 : decode cX12_isStep 27 = .ok (.getfield 63, 3) := by decide +kernel
theorem dX12_isStep_30 : decode cX12_isStep 30 = .ok (.iconst 5, 1) := by decide +kernel
theorem dX12_isStep_31 : decode cX12_isStep 31 = .ok (.aload_n 0, 1) := by decide +kernel
theorem dX12_isStep_32 : decode cX12_isStep 32 = .ok (.getfield 308, 3) := by decide +kernel
theorem dX12_isStep_35 : decode cX12_isStep 35 = .ok (.imul, 1) := by decide +kernel
theorem dX12_isStep_36 : decode cX12_isStep 36 = .ok (.iaload, 1) := by decide +kernel
theorem dX12_isStep_37 : decode cX12_isStep 37 = .ok (.bipush 6, 2) := by decide +kernel
theorem dX12_isStep_39 : decode cX12_isStep 39 = .ok (.if_icmp .ne 101, 3) := by decide +kernel
theorem dX12_isStep_42 : decode cX12_isStep 42 = .ok (.aload_n 0, 1) := by decide +kernel
theorem dX12_isStep_43 : decode cX12_isStep 43 = .ok (.getfield 94, 3) := by decide +kernel
theorem dX12_isStep_46 : decode cX12_isStep 46 = .ok (.aload_n 0, 1) := by decide +kernel
theorem dX12_isStep_47 : decode cX12_isStep 47 = .ok (.getfield 305, 3) := by decide +kernel
theorem dX12_isStep_50 : decode cX12_isStep 50 = .ok (.iconst 1, 1) := by decide +kernel
theorem dX12_isStep_51 : decode cX12_isStep 51 = .ok (.isub, 1) := by decide +kernel
theorem dX12_isStep_52 : decode cX12_isStep 52 = .ok (.iaload, 1) := by decide +kernel
theorem dX12_isStep_53 : decode cX12_isStep 53 = .ok (.istore_n 1, 1) := by decide +kernel
theorem dX12_isStep_54 : decode cX12_isStep 54 = .ok (.aload_n 0, 1) := by decide +kernel
theorem dX12_isStep_55 : decode cX12_isStep 55 = .ok (.getfield 97, 3) := by decide +kernel
theorem dX12_isStep_58 : decode cX12_isStep 58 = .ok (.aload_n 0, 1) := by decide +kernel
theorem dX12_isStep_59 : decode cX12_isStep 59 = .ok (.getfield 305, 3) := by decide +kernel
theorem dX12_isStep_62 : decode cX12_isStep 62 = .ok (.iconst 1, 1) := by decide +kernel
theorem dX12_isStep_63 : decode cX12_isStep 63 = .ok (.isub, 1) := by decide +kernel
theorem dX12_isStep_64 : decode cX12_isStep 64 = .ok (.dup2, 1) := by decide +kernel
theorem dX12_isStep_65 : decode cX12_isStep 65 = .ok (.iaload, 1) := by decide +kernel
theorem dX12_isStep_66 : decode cX12_isStep 66 = .ok (.iconst 1, 1) := by decide +kernel
theorem dX12_isStep_67 : decode cX12_isStep 67 = .ok (.iadd, 1) := by decide +kernel
theorem dX12_isStep_68 : decode cX12_isStep 68 = .ok (.iastore, 1) := by decide +kernel
theorem dX12_isStep_69 : decode cX12_isStep 69 = .ok (.aload_n 0, 1) := by decide +kernel
theorem dX12_isStep_70 : decode cX12_isStep 70 = .ok (.getfield 97, 3) := by decide +kernel
theorem dX12_isStep_73 : decode cX12_isStep 73 = .ok (.aload_n 0, 1) := by decide +kernel
theorem dX12_isStep_74 : decode cX12_isStep 74 = .ok (.getfield 305, 3) := by decide +kernel
theorem dX12_isStep_77 : decode cX12_isStep 77 = .ok (.iconst 1, 1) := by decide +kernel
theorem dX12_isStep_78 : decode cX12_isStep 78 = .ok (.isub, 1) := by decide +kernel
theorem dX12_isStep_79 : decode cX12_isStep 79 = .ok (.iaload, 1) := by decide +kernel
theorem dX12_isStep_80 : decode cX12_isStep 80 = .ok (.aload_n 0, 1) := by decide +kernel
theorem dX12_isStep_81 : decode cX12_isStep 81 = .ok (.getfield 63, 3) := by decide +kernel
theorem dX12_isStep_84 : decode cX12_isStep 84 = .ok (.iconst 5, 1) := by decide +kernel
theorem dX12_isStep_85 : decode cX12_isStep 85 = .ok (.iload_n 1, 1) := by decide +kernel
theorem dX12_isStep_86 : decode cX12_isStep 86 = .ok (.imul, 1) := by decide +kernel
theorem dX12_isStep_87 : decode cX12_isStep 87 = .ok (.iconst 1, 1) := by decide +kernel
theorem dX12_isStep_88 : decode cX12_isStep 88 = .ok (.iadd, 1) := by decide +kernel
theorem dX12_isStep_89 : decode cX12_isStep 89 = .ok (.iaload, 1) := by decide +kernel
theorem dX12_isStep_90 : decode cX12_isStep 90 = .ok (.if_icmp .ge 7, 3) := by decide +kernel
theorem dX12_isStep_93 : decode cX12_isStep 93 = .ok (.iconst 1, 1) := by decide +kernel
theorem dX12_isStep_94 : decode cX12_isStep 94 = .ok (.goto 4, 3) := by decide +kernel
theorem dX12_isStep_97 : decode cX12_isStep 97 = .ok (.iconst 0, 1) := by decide +kernel
theorem dX12_isStep_98 : decode cX12_isStep 98 = .ok (.istore_n 2, 1) := by decide +kernel
theorem dX12_isStep_99 : decode cX12_isStep 99 = .ok (.aload_n 0, 1) := by decide +kernel
theorem dX12_isStep_100 : decode cX12_isStep 100 = .ok (.dup, 1) := by decide +kernel
theorem dX12_isStep_101 : decode cX12_isStep 101 = .ok (.getfield 305, 3) := by decide +kernel
theorem dX12_isStep_104 : decode cX12_isStep 104 = .ok (.iload_n 2, 1) := by decide +kernel
theorem dX12_isStep_105 : decode cX12_isStep 105 = .ok (.ifCond .eq 7, 3) := by decide +kernel
theorem dX12_isStep_108 : decode cX12_isStep 108 = .ok (.iconst 0, 1) := by decide +kernel
theorem dX12_isStep_109 : decode cX12_isStep 109 = .ok (.goto 4, 3) := by decide +kernel
theorem dX12_isStep_112 : decode cX12_isStep 112 = .ok (.iconst 1, 1) := by decide +kernel
theorem dX12_isStep_113 : decode cX12_isStep 113 = .ok (.isub, 1) := by decide +kernel
theorem dX12_isStep_114 : decode cX12_isStep 114 = .ok (.putfield 305, 3) := by decide +kernel
theorem dX12_isStep_117 : decode cX12_isStep 117 = .ok (.aload_n 0, 1) := by decide +kernel
theorem dX12_isStep_118 : decode cX12_isStep 118 = .ok (.iload_n 2, 1) := by decide +kernel
theorem dX12_isStep_119 : decode cX12_isStep 119 = .ok (.ifCond .eq 9, 3) := by decide +kernel
theorem dX12_isStep_122 : decode cX12_isStep 122 = .ok (.iload_n 1, 1) := by decide +kernel
theorem dX12_isStep_123 : decode cX12_isStep 123 = .ok (.iconst 1, 1) := by decide +kernel
theorem dX12_isStep_124 : decode cX12_isStep 124 = .ok (.iadd, 1) := by decide +kernel
theorem dX12_isStep_125 : decode cX12_isStep 125 = .ok (.goto 9, 3) := by decide +kernel
theorem dX12_isStep_128 : decode cX12_isStep 128 = .ok (.aload_n 0, 1) := by decide +kernel
theorem dX12_isStep_129 : decode cX12_isStep 129 = .ok (.getfield 308, 3) := by decide +kernel
theorem dX12_isStep_132 : decode cX12_isStep 132 = .ok (.iconst 1, 1) := by decide +kernel
theorem dX12_isStep_133 : decode cX12_isStep 133 = .ok (.iadd, 1) := by decide +kernel
theorem dX12_isStep_134 : decode cX12_isStep 134 = .ok (.putfield 308, 3) := by decide +kernel
theorem dX12_isStep_137 : decode cX12_isStep 137 = .ok (.goto (-137), 3) := by decide +kernel
theorem dX12_isStep_140 : decode cX12_isStep 140 = .ok (.aload_n 0, 1) := by decide +kernel
theorem dX12_isStep_141 : decode cX12_isStep 141 = .ok (.getfield 63, 3) := by decide +kernel
theorem dX12_isStep_144 : decode cX12_isStep 144 = .ok (.iconst 5, 1) := by decide +kernel
theorem dX12_isStep_145 : decode cX12_isStep 145 = .ok (.aload_n 0, 1) := by decide +kernel
theorem dX12_isStep_146 : decode cX12_isStep 146 = .ok (.getfield 308, 3) := by decide +kernel
theorem dX12_isStep_149 : decode cX12_isStep 149 = .ok (.imul, 1) := by decide +kernel
theorem dX12_isStep_150 : decode cX12_isStep 150 = .ok (.iconst 1, 1) := by decide +kernel
theorem dX12_isStep_151 : decode cX12_isStep 151 = .ok (.iadd, 1) := by decide +kernel
theorem dX12_isStep_152 : decode cX12_isStep 152 = .ok (.iaload, 1) := by decide +kernel
theorem dX12_isStep_153 : decode cX12_isStep 153 = .ok (.ifCond .ne 18, 3) := by decide +kernel
theorem dX12_isStep_156 : decode cX12_isStep 156 = .ok (.aload_n 0, 1) := by decide +kernel
theorem dX12_isStep_157 : decode cX12_isStep 157 = .ok (.aload_n 0, 1) := by decide +kernel
theorem dX12_isStep_158 : decode cX12_isStep 158 = .ok (.aload_n 0, 1) := by decide +kernel
theorem dX12_isStep_159 : decode cX12_isStep 159 = .ok (.getfield 308, 3) := by decide +kernel
theorem dX12_isStep_162 : decode cX12_isStep 162 = .ok (.invokevirtual 311, 3) := by decide +kernel
theorem dX12_isStep_165 : decode cX12_isStep 165 = .ok (.putfield 308, 3) := by decide +kernel
theorem dX12_isStep_168 : decode cX12_isStep 168 = .ok (.goto (-168), 3) := by decide +kernel
theorem dX12_isStep_171 : decode cX12_isStep 171 = .ok (.aload_n 0, 1) := by decide +kernel
theorem dX12_isStep_172 : decode cX12_isStep 172 = .ok (.getfield 94, 3) := by decide +kernel
theorem dX12_isStep_175 : decode cX12_isStep 175 = .ok (.aload_n 0, 1) := by decide +kernel
theorem dX12_isStep_176 : decode cX12_isStep 176 = .ok (.getfield 305, 3) := by decide +kernel
theorem dX12_isStep_179 : decode cX12_isStep 179 = .ok (.aload_n 0, 1) := by decide +kernel
theorem dX12_isStep_180 : decode cX12_isStep 180 = .ok (.getfield 308, 3) := by decide +kernel
theorem dX12_isStep_183 : decode cX12_isStep 183 = .ok (.iastore, 1) := by decide +kernel
theorem dX12_isStep_184 : decode cX12_isStep 184 = .ok (.aload_n 0, 1) := by decide +kernel
theorem dX12_isStep_185 : decode cX12_isStep 185 = .ok (.getfield 97, 3) := by decide +kernel
theorem dX12_isStep_188 : decode cX12_isStep 188 = .ok (.aload_n 0, 1) := by decide +kernel
theorem dX12_isStep_189 : decode cX12_isStep 189 = .ok (.getfield 305, 3) := by decide +kernel
theorem dX12_isStep_192 : decode cX12_isStep 192 = .ok (.iconst 0, 1) := by decide +kernel
theorem dX12_isStep_193 : decode cX12_isStep 193 = .ok (.iastore, 1) := by decide +kernel
theorem dX12_isStep_194 : decode cX12_isStep 194 = .ok (.aload_n 0, 1) := by decide +kernel
theorem dX12_isStep_195 : decode cX12_isStep 195 = .ok (.dup, 1) := by decide +kernel
theorem dX12_isStep_196 : decode cX12_isStep 196 = .ok (.getfield 305, 3) := by decide +kernel
theorem dX12_isStep_199 : decode cX12_isStep 199 = .ok (.iconst 1, 1) := by decide +kernel
theorem dX12_isStep_200 : decode cX12_isStep 200 = .ok (.iadd, 1) := by decide +kernel
theorem dX12_isStep_201 : decode cX12_isStep 201 = .ok (.putfield 305, 3) := by decide +kernel
theorem dX12_isStep_204 : decode cX12_isStep 204 = .ok (.aload_n 0, 1) := by decide +kernel
theorem dX12_isStep_205 : decode cX12_isStep 205 = .ok (.dup, 1) := by decide +kernel
theorem dX12_isStep_206 : decode cX12_isStep 206 = .ok (.getfield 308, 3) := by decide +kernel
theorem dX12_isStep_209 : decode cX12_isStep 209 = .ok (.iconst 1, 1) := by decide +kernel
theorem dX12_isStep_210 : decode cX12_isStep 210 = .ok (.iadd, 1) := by decide +kernel
theorem dX12_isStep_211 : decode cX12_isStep 211 = .ok (.putfield 308, 3) := by decide +kernel
theorem dX12_isStep_214 : decode cX12_isStep 214 = .ok (.goto (-214), 3) := by decide +kernel
theorem dX12_isStep_217 : decode cX12_isStep 217 = .ok (.aload_n 0, 1) := by decide +kernel
theorem dX12_isStep_218 : decode cX12_isStep 218 = .ok (.getfield 308, 3) := by decide +kernel
theorem dX12_isStep_221 : decode cX12_isStep 221 = .ok (.aload_n 0, 1) := by decide +kernel
theorem dX12_isStep_222 : decode cX12_isStep 222 = .ok (.getfield 172, 3) := by decide +kernel
theorem dX12_isStep_225 : decode cX12_isStep 225 = .ok (.if_icmp .ge 7, 3) := by decide +kernel
theorem dX12_isStep_228 : decode cX12_isStep 228 = .ok (.iconst 1, 1) := by decide +kernel
theorem dX12_isStep_229 : decode cX12_isStep 229 = .ok (.goto 4, 3) := by decide +kernel
theorem dX12_isStep_232 : decode cX12_isStep 232 = .ok (.iconst 0, 1) := by decide +kernel
theorem dX12_isStep_233 : decode cX12_isStep 233 = .ok (.ireturn, 1) := by decide +kernel
theorem dX12_goesNow_0 : decode cX12_goesNow 0 = .ok (.iconst 5, 1) := by decide +kernel
theorem dX12_goesNow_1 : decode cX12_goesNow 1 = .ok (.aload_n 0, 1) := by decide +kernel
theorem dX12_goesNow_2 : decode cX12_goesNow 2 = .ok (.getfield 308, 3) := by decide +kernel
theorem dX12_goesNow_5 : decode cX12_goesNow 5 = .ok (.imul, 1) := by decide +kernel
theorem dX12_goesNow_6 : decode cX12_goesNow 6 = .ok (.istore_n 2, 1) := by decide +kernel
theorem dX12_goesNow_7 : decode cX12_goesNow 7 = .ok (.aload_n 0, 1) := by decide +kernel
theorem dX12_goesNow_8 : decode cX12_goesNow 8 = .ok (.aload_n 0, 1) := by decide +kernel
theorem dX12_goesNow_9 : decode cX12_goesNow 9 = .ok (.getfield 63, 3) := by decide +kernel
theorem dX12_goesNow_12 : decode cX12_goesNow 12 = .ok (.iload_n 2, 1) := by decide +kernel
theorem dX12_goesNow_13 : decode cX12_goesNow 13 = .ok (.iaload, 1) := by decide +kernel
theorem dX12_goesNow_14 : decode cX12_goesNow 14 = .ok (.aload_n 0, 1) := by decide +kernel
theorem dX12_goesNow_15 : decode cX12_goesNow 15 = .ok (.getfield 63, 3) := by decide +kernel
theorem dX12_goesNow_18 : decode cX12_goesNow 18 = .ok (.iload_n 2, 1) := by decide +kernel
theorem dX12_goesNow_19 : decode cX12_goesNow 19 = .ok (.iconst 1, 1) := by decide +kernel
theorem dX12_goesNow_20 : decode cX12_goesNow 20 = .ok (.iadd, 1) := by decide +kernel
theorem dX12_goesNow_21 : decode cX12_goesNow 21 = .ok (.iaload, 1) := by decide +kernel
theorem dX12_goesNow_22 : decode cX12_goesNow 22 = .ok (.aload_n 0, 1) := by decide +kernel
theorem dX12_goesNow_23 : decode cX12_goesNow 23 = .ok (.aload_n 0, 1) := by decide +kernel
theorem dX12_goesNow_24 : decode cX12_goesNow 24 = .ok (.getfield 63, 3) := by decide +kernel
theorem dX12_goesNow_27 : decode cX12_goesNow 27 = .ok (.iload_n 2, 1) := by decide +kernel
theorem dX12_goesNow_28 : decode cX12_goesNow 28 = .ok (.iconst 2, 1) := by decide +kernel
theorem dX12_goesNow_29 : decode cX12_goesNow 29 = .ok (.iadd, 1) := by decide +kernel
theorem dX12_goesNow_30 : decode cX12_goesNow 30 = .ok (.iaload, 1) := by decide +kernel
theorem dX12_goesNow_31 : decode cX12_goesNow 31 = .ok (.invokevirtual 314, 3) := by decide +kernel
theorem dX12_goesNow_34 : decode cX12_goesNow 34 = .ok (.aload_n 0, 1) := by decide +kernel
theorem dX12_goesNow_35 : decode cX12_goesNow 35 = .ok (.getfield 63, 3) := by decide +kernel
theorem dX12_goesNow_38 : decode cX12_goesNow 38 = .ok (.iload_n 2, 1) := by decide +kernel
theorem dX12_goesNow_39 : decode cX12_goesNow 39 = .ok (.iconst 3, 1) := by decide +kernel
theorem dX12_goesNow_40 : decode cX12_goesNow 40 = .ok (.iadd, 1) := by decide +kernel
theorem dX12_goesNow_41 : decode cX12_goesNow 41 = .ok (.iaload, 1) := by decide +kernel
theorem dX12_goesNow_42 : decode cX12_goesNow 42 = .ok (.aload_n 0, 1) := by decide +kernel
theorem dX12_goesNow_43 : decode cX12_goesNow 43 = .ok (.aload_n 0, 1) := by decide +kernel
theorem dX12_goesNow_44 : decode cX12_goesNow 44 = .ok (.getfield 63, 3) := by decide +kernel
theorem dX12_goesNow_47 : decode cX12_goesNow 47 = .ok (.iload_n 2, 1) := by decide +kernel
theorem dX12_goesNow_48 : decode cX12_goesNow 48 = .ok (.iconst 4, 1) := by decide +kernel
theorem dX12_goesNow_49 : decode cX12_goesNow 49 = .ok (.iadd, 1) := by decide +kernel
theorem dX12_goesNow_50 : decode cX12_goesNow 50 = .ok (.iaload, 1) := by decide +kernel
theorem dX12_goesNow_51 : decode cX12_goesNow 51 = .ok (.invokevirtual 314, 3) := by decide +kernel
theorem dX12_goesNow_54 : decode cX12_goesNow 54 = .ok (.iload_n 1, 1) := by decide +kernel
theorem dX12_goesNow_55 : decode cX12_goesNow 55 = .ok (.invokevirtual 277, 3) := by decide +kernel
theorem dX12_goesNow_58 : decode cX12_goesNow 58 = .ok (.ireturn, 1) := by decide +kernel
theorem dX12_leaves_0 : decode cX12_leaves 0 = .ok (.aload_n 0, 1) := by decide +kernel
theorem dX12_leaves_1 : decode cX12_leaves 1 = .ok (.getfield 305, 3) := by decide +kernel
theorem dX12_leaves_4 : decode cX12_leaves 4 = .ok (.ifCond .ne 12, 3) := by decide +kernel
theorem dX12_leaves_7 : decode cX12_leaves 7 = .ok (.aload_n 0, 1) := by decide +kernel
theorem dX12_leaves_8 : decode cX12_leaves 8 = .ok (.aload_n 0, 1) := by decide +kernel
theorem dX12_leaves_9 : decode cX12_leaves 9 = .ok (.getfield 172, 3) := by decide +kernel
theorem dX12_leaves_12 : decode cX12_leaves 12 = .ok (.putfield 308, 3) := by decide +kernel
theorem dX12_leaves_15 : decode cX12_leaves 15 = .ok (.return_, 1) := by decide +kernel
theorem dX12_leaves_16 : decode cX12_leaves 16 = .ok (.aload_n 0, 1) := by decide +kernel
theorem dX12_leaves_17 : decode cX12_leaves 17 = .ok (.dup, 1) := by decide +kernel
theorem dX12_leaves_18 : decode cX12_leaves 18 = .ok (.getfield 305, 3) := by decide +kernel
theorem dX12_leaves_21 : decode cX12_leaves 21 = .ok (.iconst 1, 1) := by decide +kernel
theorem dX12_leaves_22 : decode cX12_leaves 22 = .ok (.isub, 1) := by decide +kernel
theorem dX12_leaves_23 : decode cX12_leaves 23 = .ok (.putfield 305, 3) := by decide +kernel
theorem dX12_leaves_26 : decode cX12_leaves 26 = .ok (.aload_n 0, 1) := by decide +kernel
theorem dX12_leaves_27 : decode cX12_leaves 27 = .ok (.aload_n 0, 1) := by decide +kernel
theorem dX12_leaves_28 : decode cX12_leaves 28 = .ok (.aload_n 0, 1) := by decide +kernel
theorem dX12_leaves_29 : decode cX12_leaves 29 = .ok (.getfield 94, 3) := by decide +kernel
theorem dX12_leaves_32 : decode cX12_leaves 32 = .ok (.aload_n 0, 1) := by decide +kernel
theorem dX12_leaves_33 : decode cX12_leaves 33 = .ok (.getfield 305, 3) := by decide +kernel
theorem dX12_leaves_36 : decode cX12_leaves 36 = .ok (.iaload, 1) := by decide +kernel
theorem dX12_leaves_37 : decode cX12_leaves 37 = .ok (.invokevirtual 311, 3) := by decide +kernel
theorem dX12_leaves_40 : decode cX12_leaves 40 = .ok (.putfield 308, 3) := by decide +kernel
theorem dX12_leaves_43 : decode cX12_leaves 43 = .ok (.return_, 1) := by decide +kernel
theorem dX12_runsAll_0 : decode cX12_runsAll 0 = .ok (.iconst 0, 1) := by decide +kernel
theorem dX12_runsAll_1 : decode cX12_runsAll 1 = .ok (.istore_n 1, 1) := by decide +kernel
theorem dX12_runsAll_2 : decode cX12_runsAll 2 = .ok (.aload_n 0, 1) := by decide +kernel
theorem dX12_runsAll_3 : decode cX12_runsAll 3 = .ok (.invokevirtual 317, 3) := by decide +kernel
theorem dX12_runsAll_6 : decode cX12_runsAll 6 = .ok (.ifCond .eq 89, 3) := by decide +kernel
theorem dX12_runsAll_9 : decode cX12_runsAll 9 = .ok (.iload_n 1, 1) := by decide +kernel
theorem dX12_runsAll_10 : decode cX12_runsAll 10 = .ok (.bipush 60, 2) := by decide +kernel
theorem dX12_runsAll_12 : decode cX12_runsAll 12 = .ok (.if_icmp .ne 6, 3) := by decide +kernel
theorem dX12_runsAll_15 : decode cX12_runsAll 15 = .ok (.bipush (-11), 2) := by decide +kernel
theorem dX12_runsAll_17 : decode cX12_runsAll 17 = .ok (.ireturn, 1) := by decide +kernel
theorem dX12_runsAll_18 : decode cX12_runsAll 18 = .ok (.iinc 1 1, 3) := by decide +kernel
theorem dX12_runsAll_21 : decode cX12_runsAll 21 = .ok (.aload_n 0, 1) := by decide +kernel
theorem dX12_runsAll_22 : decode cX12_runsAll 22 = .ok (.iconst 0, 1) := by decide +kernel
theorem dX12_runsAll_23 : decode cX12_runsAll 23 = .ok (.invokevirtual 321, 3) := by decide +kernel
theorem dX12_runsAll_26 : decode cX12_runsAll 26 = .ok (.istore_n 2, 1) := by decide +kernel
theorem dX12_runsAll_27 : decode cX12_runsAll 27 = .ok (.iload_n 2, 1) := by decide +kernel
theorem dX12_runsAll_28 : decode cX12_runsAll 28 = .ok (.invokestatic 325, 3) := by decide +kernel
theorem dX12_runsAll_31 : decode cX12_runsAll 31 = .ok (.istore_n 3, 1) := by decide +kernel
theorem dX12_runsAll_32 : decode cX12_runsAll 32 = .ok (.iload_n 2, 1) := by decide +kernel
theorem dX12_runsAll_33 : decode cX12_runsAll 33 = .ok (.ifCond .eq 13, 3) := by decide +kernel
theorem dX12_runsAll_36 : decode cX12_runsAll 36 = .ok (.aload_n 0, 1) := by decide +kernel
theorem dX12_runsAll_37 : decode cX12_runsAll 37 = .ok (.getfield 69, 3) := by decide +kernel
theorem dX12_runsAll_40 : decode cX12_runsAll 40 = .ok (.iload_n 3, 1) := by decide +kernel
theorem dX12_runsAll_41 : decode cX12_runsAll 41 = .ok (.dup2, 1) := by decide +kernel
theorem dX12_runsAll_42 : decode cX12_runsAll 42 = .ok (.iaload, 1) := by decide +kernel
theorem dX12_runsAll_43 : decode cX12_runsAll 43 = .ok (.iconst 1, 1) := by decide +kernel
theorem dX12_runsAll_44 : decode cX12_runsAll 44 = .ok (.iadd, 1) := by decide +kernel
theorem dX12_runsAll_45 : decode cX12_runsAll 45 = .ok (.iastore, 1) := by decide +kernel
theorem dX12_runsAll_46 : decode cX12_runsAll 46 = .ok (.iload_n 2, 1) := by decide +kernel
theorem dX12_runsAll_47 : decode cX12_runsAll 47 = .ok (.ifCond .eq 14, 3) := by decide +kernel
theorem dX12_runsAll_50 : decode cX12_runsAll 50 = .ok (.aload_n 0, 1) := by decide +kernel
theorem dX12_runsAll_51 : decode cX12_runsAll 51 = .ok (.getfield 66, 3) := by decide +kernel
theorem dX12_runsAll_54 : decode cX12_runsAll 54 = .ok (.iload_n 3, 1) := by decide +kernel
theorem dX12_runsAll_55 : decode cX12_runsAll 55 = .ok (.iaload, 1) := by decide +kernel
theorem dX12_runsAll_56 : decode cX12_runsAll 56 = .ok (.ifCond .ne 5, 3) := by decide +kernel
theorem dX12_runsAll_59 : decode cX12_runsAll 59 = .ok (.iload_n 2, 1) := by decide +kernel
theorem dX12_runsAll_60 : decode cX12_runsAll 60 = .ok (.ireturn, 1) := by decide +kernel
theorem dX12_runsAll_61 : decode cX12_runsAll 61 = .ok (.iload_n 2, 1) := by decide +kernel
theorem dX12_runsAll_62 : decode cX12_runsAll 62 = .ok (.ifCond .eq 20, 3) := by decide +kernel
theorem dX12_runsAll_65 : decode cX12_runsAll 65 = .ok (.aload_n 0, 1) := by decide +kernel
theorem dX12_runsAll_66 : decode cX12_runsAll 66 = .ok (.getfield 66, 3) := by decide +kernel
theorem dX12_runsAll_69 : decode cX12_runsAll 69 = .ok (.iload_n 3, 1) := by decide +kernel
theorem dX12_runsAll_70 : decode cX12_runsAll 70 = .ok (.iaload, 1) := by decide +kernel
theorem dX12_runsAll_71 : decode cX12_runsAll 71 = .ok (.iconst 2, 1) := by decide +kernel
theorem dX12_runsAll_72 : decode cX12_runsAll 72 = .ok (.if_icmp .ne 10, 3) := by decide +kernel
theorem dX12_runsAll_75 : decode cX12_runsAll 75 = .ok (.aload_n 0, 1) := by decide +kernel
theorem dX12_runsAll_76 : decode cX12_runsAll 76 = .ok (.invokevirtual 328, 3) := by decide +kernel
theorem dX12_runsAll_79 : decode cX12_runsAll 79 = .ok (.goto 13, 3) := by decide +kernel
theorem dX12_runsAll_82 : decode cX12_runsAll 82 = .ok (.aload_n 0, 1) := by decide +kernel
theorem dX12_runsAll_83 : decode cX12_runsAll 83 = .ok (.dup, 1) := by decide +kernel
theorem dX12_runsAll_84 : decode cX12_runsAll 84 = .ok (.getfield 308, 3) := by decide +kernel
theorem dX12_runsAll_87 : decode cX12_runsAll 87 = .ok (.iconst 1, 1) := by decide +kernel
theorem dX12_runsAll_88 : decode cX12_runsAll 88 = .ok (.iadd, 1) := by decide +kernel
theorem dX12_runsAll_89 : decode cX12_runsAll 89 = .ok (.putfield 308, 3) := by decide +kernel
theorem dX12_runsAll_92 : decode cX12_runsAll 92 = .ok (.goto (-90), 3) := by decide +kernel
theorem dX12_runsAll_95 : decode cX12_runsAll 95 = .ok (.iload_n 1, 1) := by decide +kernel
theorem dX12_runsAll_96 : decode cX12_runsAll 96 = .ok (.ireturn, 1) := by decide +kernel
theorem dX12_runs_0 : decode cX12_runs 0 = .ok (.aload_n 0, 1) := by decide +kernel
theorem dX12_runs_1 : decode cX12_runs 1 = .ok (.iconst 0, 1) := by decide +kernel
theorem dX12_runs_2 : decode cX12_runs 2 = .ok (.putfield 109, 3) := by decide +kernel
theorem dX12_runs_5 : decode cX12_runs 5 = .ok (.aload_n 0, 1) := by decide +kernel
theorem dX12_runs_6 : decode cX12_runs 6 = .ok (.invokevirtual 300, 3) := by decide +kernel
theorem dX12_runs_9 : decode cX12_runs 9 = .ok (.ifCond .le 6, 3) := by decide +kernel
theorem dX12_runs_12 : decode cX12_runs 12 = .ok (.bipush (-2), 2) := by decide +kernel
theorem dX12_runs_14 : decode cX12_runs 14 = .ok (.ireturn, 1) := by decide +kernel
theorem dX12_runs_15 : decode cX12_runs 15 = .ok (.iconst 0, 1) := by decide +kernel
theorem dX12_runs_16 : decode cX12_runs 16 = .ok (.istore_n 1, 1) := by decide +kernel
theorem dX12_runs_17 : decode cX12_runs 17 = .ok (.iload_n 1, 1) := by decide +kernel
theorem dX12_runs_18 : decode cX12_runs 18 = .ok (.bipush 7, 2) := by decide +kernel
theorem dX12_runs_20 : decode cX12_runs 20 = .ok (.if_icmp .ge 16, 3) := by decide +kernel
theorem dX12_runs_23 : decode cX12_runs 23 = .ok (.aload_n 0, 1) := by decide +kernel
theorem dX12_runs_24 : decode cX12_runs 24 = .ok (.getfield 69, 3) := by decide +kernel
theorem dX12_runs_27 : decode cX12_runs 27 = .ok (.iload_n 1, 1) := by decide +kernel
theorem dX12_runs_28 : decode cX12_runs 28 = .ok (.iconst 0, 1) := by decide +kernel
theorem dX12_runs_29 : decode cX12_runs 29 = .ok (.iastore, 1) := by decide +kernel
theorem dX12_runs_30 : decode cX12_runs 30 = .ok (.iinc 1 1, 3) := by decide +kernel
theorem dX12_runs_33 : decode cX12_runs 33 = .ok (.goto (-16), 3) := by decide +kernel
theorem dX12_runs_36 : decode cX12_runs 36 = .ok (.aload_n 0, 1) := by decide +kernel
theorem dX12_runs_37 : decode cX12_runs 37 = .ok (.iconst 0, 1) := by decide +kernel
theorem dX12_runs_38 : decode cX12_runs 38 = .ok (.putfield 308, 3) := by decide +kernel
theorem dX12_runs_41 : decode cX12_runs 41 = .ok (.aload_n 0, 1) := by decide +kernel
theorem dX12_runs_42 : decode cX12_runs 42 = .ok (.iconst 0, 1) := by decide +kernel
theorem dX12_runs_43 : decode cX12_runs 43 = .ok (.putfield 305, 3) := by decide +kernel
theorem dX12_runs_46 : decode cX12_runs 46 = .ok (.aload_n 0, 1) := by decide +kernel
theorem dX12_runs_47 : decode cX12_runs 47 = .ok (.aload_n 0, 1) := by decide +kernel
theorem dX12_runs_48 : decode cX12_runs 48 = .ok (.getfield 82, 3) := by decide +kernel
theorem dX12_runs_51 : decode cX12_runs 51 = .ok (.aload_n 0, 1) := by decide +kernel
theorem dX12_runs_52 : decode cX12_runs 52 = .ok (.getfield 85, 3) := by decide +kernel
theorem dX12_runs_55 : decode cX12_runs 55 = .ok (.iconst 0, 1) := by decide +kernel
theorem dX12_runs_56 : decode cX12_runs 56 = .ok (.invokevirtual 248, 3) := by decide +kernel
theorem dX12_runs_59 : decode cX12_runs 59 = .ok (.aload_n 0, 1) := by decide +kernel
theorem dX12_runs_60 : decode cX12_runs 60 = .ok (.invokevirtual 331, 3) := by decide +kernel
theorem dX12_runs_63 : decode cX12_runs 63 = .ok (.istore_n 1, 1) := by decide +kernel
theorem dX12_runs_64 : decode cX12_runs 64 = .ok (.iload_n 1, 1) := by decide +kernel
theorem dX12_runs_65 : decode cX12_runs 65 = .ok (.ifCond .ge 21, 3) := by decide +kernel
theorem dX12_runs_68 : decode cX12_runs 68 = .ok (.aload_n 0, 1) := by decide +kernel
theorem dX12_runs_69 : decode cX12_runs 69 = .ok (.aload_n 0, 1) := by decide +kernel
theorem dX12_runs_70 : decode cX12_runs 70 = .ok (.getfield 82, 3) := by decide +kernel
theorem dX12_runs_73 : decode cX12_runs 73 = .ok (.aload_n 0, 1) := by decide +kernel
theorem dX12_runs_74 : decode cX12_runs 74 = .ok (.getfield 85, 3) := by decide +kernel
theorem dX12_runs_77 : decode cX12_runs 77 = .ok (.iconst 0, 1) := by decide +kernel
theorem dX12_runs_78 : decode cX12_runs 78 = .ok (.bipush 72, 2) := by decide +kernel
theorem dX12_runs_80 : decode cX12_runs 80 = .ok (.invokevirtual 290, 3) := by decide +kernel
theorem dX12_runs_83 : decode cX12_runs 83 = .ok (.goto 7, 3) := by decide +kernel
theorem dX12_runs_86 : decode cX12_runs 86 = .ok (.aload_n 0, 1) := by decide +kernel
theorem dX12_runs_87 : decode cX12_runs 87 = .ok (.invokevirtual 252, 3) := by decide +kernel
theorem dX12_runs_90 : decode cX12_runs 90 = .ok (.iload_n 1, 1) := by decide +kernel
theorem dX12_runs_91 : decode cX12_runs 91 = .ok (.ireturn, 1) := by decide +kernel
theorem dX12_line_0 : decode cX12_line 0 = .ok (.aload_n 0, 1) := by decide +kernel
theorem dX12_line_1 : decode cX12_line 1 = .ok (.iconst 0, 1) := by decide +kernel
theorem dX12_line_2 : decode cX12_line 2 = .ok (.putfield 109, 3) := by decide +kernel
theorem dX12_line_5 : decode cX12_line 5 = .ok (.iload_n 1, 1) := by decide +kernel
theorem dX12_line_6 : decode cX12_line 6 = .ok (.i2l, 1) := by decide +kernel
theorem dX12_line_7 : decode cX12_line 7 = .ok (.lconst 0, 1) := by decide +kernel
theorem dX12_line_8 : decode cX12_line 8 = .ok (.aload_n 0, 1) := by decide +kernel
theorem dX12_line_9 : decode cX12_line 9 = .ok (.getfield 172, 3) := by decide +kernel
theorem dX12_line_12 : decode cX12_line 12 = .ok (.iconst 1, 1) := by decide +kernel
theorem dX12_line_13 : decode cX12_line 13 = .ok (.isub, 1) := by decide +kernel
theorem dX12_line_14 : decode cX12_line 14 = .ok (.i2l, 1) := by decide +kernel
theorem dX12_line_15 : decode cX12_line 15 = .ok (.invokestatic 118, 3) := by decide +kernel
theorem dX12_line_18 : decode cX12_line 18 = .ok (.ifCond .eq 28, 3) := by decide +kernel
theorem dX12_line_21 : decode cX12_line 21 = .ok (.iload_n 2, 1) := by decide +kernel
theorem dX12_line_22 : decode cX12_line 22 = .ok (.i2l, 1) := by decide +kernel
theorem dX12_line_23 : decode cX12_line 23 = .ok (.lconst 0, 1) := by decide +kernel
theorem dX12_line_24 : decode cX12_line 24 = .ok (.ldc2_w 275, 3) := by decide +kernel
theorem dX12_line_27 : decode cX12_line 27 = .ok (.invokestatic 118, 3) := by decide +kernel
theorem dX12_line_30 : decode cX12_line 30 = .ok (.ifCond .eq 16, 3) := by decide +kernel
theorem dX12_line_33 : decode cX12_line 33 = .ok (.aload_n 0, 1) := by decide +kernel
theorem dX12_line_34 : decode cX12_line 34 = .ok (.getfield 63, 3) := by decide +kernel
theorem dX12_line_37 : decode cX12_line 37 = .ok (.iconst 5, 1) := by decide +kernel
theorem dX12_line_38 : decode cX12_line 38 = .ok (.iload_n 1, 1) := by decide +kernel
theorem dX12_line_39 : decode cX12_line 39 = .ok (.imul, 1) := by decide +kernel
theorem dX12_line_40 : decode cX12_line 40 = .ok (.iload_n 2, 1) := by decide +kernel
theorem dX12_line_41 : decode cX12_line 41 = .ok (.iadd, 1) := by decide +kernel
theorem dX12_line_42 : decode cX12_line 42 = .ok (.iaload, 1) := by decide +kernel
theorem dX12_line_43 : decode cX12_line 43 = .ok (.goto 4, 3) := by decide +kernel
theorem dX12_line_46 : decode cX12_line 46 = .ok (.iconst (-1), 1) := by decide +kernel
theorem dX12_line_47 : decode cX12_line 47 = .ok (.ireturn, 1) := by decide +kernel
theorem dX12_met_0 : decode cX12_met 0 = .ok (.aload_n 0, 1) := by decide +kernel
theorem dX12_met_1 : decode cX12_met 1 = .ok (.iconst 0, 1) := by decide +kernel
theorem dX12_met_2 : decode cX12_met 2 = .ok (.putfield 109, 3) := by decide +kernel
theorem dX12_met_5 : decode cX12_met 5 = .ok (.iload_n 1, 1) := by decide +kernel
theorem dX12_met_6 : decode cX12_met 6 = .ok (.i2l, 1) := by decide +kernel
theorem dX12_met_7 : decode cX12_met 7 = .ok (.lconst 0, 1) := by decide +kernel
theorem dX12_met_8 : decode cX12_met 8 = .ok (.ldc2_w 303, 3) := by decide +kernel
theorem dX12_met_11 : decode cX12_met 11 = .ok (.invokestatic 118, 3) := by decide +kernel
theorem dX12_met_14 : decode cX12_met 14 = .ok (.ifCond .eq 12, 3) := by decide +kernel
theorem dX12_met_17 : decode cX12_met 17 = .ok (.aload_n 0, 1) := by decide +kernel
theorem dX12_met_18 : decode cX12_met 18 = .ok (.getfield 69, 3) := by decide +kernel
theorem dX12_met_21 : decode cX12_met 21 = .ok (.iload_n 1, 1) := by decide +kernel
theorem dX12_met_22 : decode cX12_met 22 = .ok (.iaload, 1) := by decide +kernel
theorem dX12_met_23 : decode cX12_met 23 = .ok (.goto 4, 3) := by decide +kernel
theorem dX12_met_26 : decode cX12_met 26 = .ok (.iconst (-1), 1) := by decide +kernel
theorem dX12_met_27 : decode cX12_met 27 = .ok (.ireturn, 1) := by decide +kernel
theorem dX12_forecast_0 : decode cX12_forecast 0 = .ok (.aload_n 0, 1) := by decide +kernel
theorem dX12_forecast_1 : decode cX12_forecast 1 = .ok (.iconst 0, 1) := by decide +kernel
theorem dX12_forecast_2 : decode cX12_forecast 2 = .ok (.putfield 109, 3) := by decide +kernel
theorem dX12_forecast_5 : decode cX12_forecast 5 = .ok (.iload_n 1, 1) := by decide +kernel
theorem dX12_forecast_6 : decode cX12_forecast 6 = .ok (.i2l, 1) := by decide +kernel
theorem dX12_forecast_7 : decode cX12_forecast 7 = .ok (.lconst 0, 1) := by decide +kernel
theorem dX12_forecast_8 : decode cX12_forecast 8 = .ok (.ldc2_w 303, 3) := by decide +kernel
theorem dX12_forecast_11 : decode cX12_forecast 11 = .ok (.invokestatic 118, 3) := by decide +kernel
theorem dX12_forecast_14 : decode cX12_forecast 14 = .ok (.ifCond .ne 5, 3) := by decide +kernel
theorem dX12_forecast_17 : decode cX12_forecast 17 = .ok (.iconst (-1), 1) := by decide +kernel
theorem dX12_forecast_18 : decode cX12_forecast 18 = .ok (.ireturn, 1) := by decide +kernel
theorem dX12_forecast_19 : decode cX12_forecast 19 = .ok (.aload_n 0, 1) := by decide +kernel
theorem dX12_forecast_20 : decode cX12_forecast 20 = .ok (.invokevirtual 300, 3) := by decide +kernel
theorem dX12_forecast_23 : decode cX12_forecast 23 = .ok (.ifCond .le 6, 3) := by decide +kernel
theorem dX12_forecast_26 : decode cX12_forecast 26 = .ok (.bipush (-2), 2) := by decide +kernel
theorem dX12_forecast_28 : decode cX12_forecast 28 = .ok (.ireturn, 1) := by decide +kernel
theorem dX12_forecast_29 : decode cX12_forecast 29 = .ok (.aload_n 0, 1) := by decide +kernel
theorem dX12_forecast_30 : decode cX12_forecast 30 = .ok (.iconst 0, 1) := by decide +kernel
theorem dX12_forecast_31 : decode cX12_forecast 31 = .ok (.putfield 308, 3) := by decide +kernel
theorem dX12_forecast_34 : decode cX12_forecast 34 = .ok (.aload_n 0, 1) := by decide +kernel
theorem dX12_forecast_35 : decode cX12_forecast 35 = .ok (.iconst 0, 1) := by decide +kernel
theorem dX12_forecast_36 : decode cX12_forecast 36 = .ok (.putfield 305, 3) := by decide +kernel
theorem dX12_forecast_39 : decode cX12_forecast 39 = .ok (.iconst 0, 1) := by decide +kernel
theorem dX12_forecast_40 : decode cX12_forecast 40 = .ok (.istore_n 2, 1) := by decide +kernel
theorem dX12_forecast_41 : decode cX12_forecast 41 = .ok (.iconst 0, 1) := by decide +kernel
theorem dX12_forecast_42 : decode cX12_forecast 42 = .ok (.istore_n 3, 1) := by decide +kernel
theorem dX12_forecast_43 : decode cX12_forecast 43 = .ok (.iload_n 3, 1) := by decide +kernel
theorem dX12_forecast_44 : decode cX12_forecast 44 = .ok (.bipush 60, 2) := by decide +kernel
theorem dX12_forecast_46 : decode cX12_forecast 46 = .ok (.if_icmp .ge 74, 3) := by decide +kernel
theorem dX12_forecast_49 : decode cX12_forecast 49 = .ok (.aload_n 0, 1) := by decide +kernel
theorem dX12_forecast_50 : decode cX12_forecast 50 = .ok (.invokevirtual 317, 3) := by decide +kernel
theorem dX12_forecast_53 : decode cX12_forecast 53 = .ok (.ifCond .eq 67, 3) := by decide +kernel
theorem dX12_forecast_56 : decode cX12_forecast 56 = .ok (.aload_n 0, 1) := by decide +kernel
theorem dX12_forecast_57 : decode cX12_forecast 57 = .ok (.iconst 1, 1) := by decide +kernel
theorem dX12_forecast_58 : decode cX12_forecast 58 = .ok (.invokevirtual 321, 3) := by decide +kernel
theorem dX12_forecast_61 : decode cX12_forecast 61 = .ok (.istore 4, 2) := by decide +kernel
theorem dX12_forecast_63 : decode cX12_forecast 63 = .ok (.iload 4, 2) := by decide +kernel
theorem dX12_forecast_65 : decode cX12_forecast 65 = .ok (.iconst 1, 1) := by decide +kernel
theorem dX12_forecast_66 : decode cX12_forecast 66 = .ok (.if_icmp .ne 7, 3) := by decide +kernel
theorem dX12_forecast_69 : decode cX12_forecast 69 = .ok (.iconst 5, 1) := by decide +kernel
theorem dX12_forecast_70 : decode cX12_forecast 70 = .ok (.goto 18, 3) := by decide +kernel
theorem dX12_forecast_73 : decode cX12_forecast 73 = .ok (.iload 4, 2) := by decide +kernel
theorem dX12_forecast_75 : decode cX12_forecast 75 = .ok (.ifCond .ne 8, 3) := by decide +kernel
theorem dX12_forecast_78 : decode cX12_forecast 78 = .ok (.bipush 6, 2) := by decide +kernel
theorem dX12_forecast_80 : decode cX12_forecast 80 = .ok (.goto 8, 3) := by decide +kernel
theorem dX12_forecast_83 : decode cX12_forecast 83 = .ok (.iload 4, 2) := by decide +kernel
theorem dX12_forecast_85 : decode cX12_forecast 85 = .ok (.invokestatic 325, 3) := by decide +kernel
theorem dX12_forecast_88 : decode cX12_forecast 88 = .ok (.istore 5, 2) := by decide +kernel
theorem dX12_forecast_90 : decode cX12_forecast 90 = .ok (.iload_n 2, 1) := by decide +kernel
theorem dX12_forecast_91 : decode cX12_forecast 91 = .ok (.iload 5, 2) := by decide +kernel
theorem dX12_forecast_93 : decode cX12_forecast 93 = .ok (.iload_n 1, 1) := by decide +kernel
theorem dX12_forecast_94 : decode cX12_forecast 94 = .ok (.if_icmp .ne 7, 3) := by decide +kernel
theorem dX12_forecast_97 : decode cX12_forecast 97 = .ok (.iconst 1, 1) := by decide +kernel
theorem dX12_forecast_98 : decode cX12_forecast 98 = .ok (.goto 4, 3) := by decide +kernel
theorem dX12_forecast_101 : decode cX12_forecast 101 = .ok (.iconst 0, 1) := by decide +kernel
theorem dX12_forecast_102 : decode cX12_forecast 102 = .ok (.iadd, 1) := by decide +kernel
theorem dX12_forecast_103 : decode cX12_forecast 103 = .ok (.istore_n 2, 1) := by decide +kernel
theorem dX12_forecast_104 : decode cX12_forecast 104 = .ok (.aload_n 0, 1) := by decide +kernel
theorem dX12_forecast_105 : decode cX12_forecast 105 = .ok (.dup, 1) := by decide +kernel
theorem dX12_forecast_106 : decode cX12_forecast 106 = .ok (.getfield 308, 3) := by decide +kernel
theorem dX12_forecast_109 : decode cX12_forecast 109 = .ok (.iconst 1, 1) := by decide +kernel
theorem dX12_forecast_110 : decode cX12_forecast 110 = .ok (.iadd, 1) := by decide +kernel
theorem dX12_forecast_111 : decode cX12_forecast 111 = .ok (.putfield 308, 3) := by decide +kernel
theorem dX12_forecast_114 : decode cX12_forecast 114 = .ok (.iinc 3 1, 3) := by decide +kernel
theorem dX12_forecast_117 : decode cX12_forecast 117 = .ok (.goto (-74), 3) := by decide +kernel
theorem dX12_forecast_120 : decode cX12_forecast 120 = .ok (.iload_n 2, 1) := by decide +kernel
theorem dX12_forecast_121 : decode cX12_forecast 121 = .ok (.ireturn, 1) := by decide +kernel
theorem dX12_cellAt_0 : decode cX12_cellAt 0 = .ok (.aload_n 0, 1) := by decide +kernel
theorem dX12_cellAt_1 : decode cX12_cellAt 1 = .ok (.iload_n 1, 1) := by decide +kernel
theorem dX12_cellAt_2 : decode cX12_cellAt 2 = .ok (.iload_n 2, 1) := by decide +kernel
theorem dX12_cellAt_3 : decode cX12_cellAt 3 = .ok (.invokevirtual 209, 3) := by decide +kernel
theorem dX12_cellAt_6 : decode cX12_cellAt 6 = .ok (.istore_n 3, 1) := by decide +kernel
theorem dX12_cellAt_7 : decode cX12_cellAt 7 = .ok (.aload_n 0, 1) := by decide +kernel
theorem dX12_cellAt_8 : decode cX12_cellAt 8 = .ok (.iload_n 1, 1) := by decide +kernel
theorem dX12_cellAt_9 : decode cX12_cellAt 9 = .ok (.invokevirtual 192, 3) := by decide +kernel
theorem dX12_cellAt_12 : decode cX12_cellAt 12 = .ok (.istore 4, 2) := by decide +kernel
theorem dX12_cellAt_14 : decode cX12_cellAt 14 = .ok (.iload_n 3, 1) := by decide +kernel
theorem dX12_cellAt_15 : decode cX12_cellAt 15 = .ok (.sipush (-1000), 3) := by decide +kernel
theorem dX12_cellAt_18 : decode cX12_cellAt 18 = .ok (.if_icmp .eq 23, 3) := by decide +kernel
theorem dX12_cellAt_21 : decode cX12_cellAt 21 = .ok (.aload_n 0, 1) := by decide +kernel
theorem dX12_cellAt_22 : decode cX12_cellAt 22 = .ok (.iload 4, 2) := by decide +kernel
theorem dX12_cellAt_24 : decode cX12_cellAt 24 = .ok (.iload_n 3, 1) := by decide +kernel
theorem dX12_cellAt_25 : decode cX12_cellAt 25 = .ok (.invokevirtual 203, 3) := by decide +kernel
theorem dX12_cellAt_28 : decode cX12_cellAt 28 = .ok (.ifCond .eq 13, 3) := by decide +kernel
theorem dX12_cellAt_31 : decode cX12_cellAt 31 = .ok (.bipush 12, 2) := by decide +kernel
theorem dX12_cellAt_33 : decode cX12_cellAt 33 = .ok (.iload 4, 2) := by decide +kernel
theorem dX12_cellAt_35 : decode cX12_cellAt 35 = .ok (.imul, 1) := by decide +kernel
theorem dX12_cellAt_36 : decode cX12_cellAt 36 = .ok (.iload_n 3, 1) := by decide +kernel
theorem dX12_cellAt_37 : decode cX12_cellAt 37 = .ok (.iadd, 1) := by decide +kernel
theorem dX12_cellAt_38 : decode cX12_cellAt 38 = .ok (.goto 6, 3) := by decide +kernel
theorem dX12_cellAt_41 : decode cX12_cellAt 41 = .ok (.sipush (-1000), 3) := by decide +kernel
theorem dX12_cellAt_44 : decode cX12_cellAt 44 = .ok (.ireturn, 1) := by decide +kernel
theorem dX12_cellOf_0 : decode cX12_cellOf 0 = .ok (.iconst 5, 1) := by decide +kernel
theorem dX12_cellOf_1 : decode cX12_cellOf 1 = .ok (.iload_n 1, 1) := by decide +kernel
theorem dX12_cellOf_2 : decode cX12_cellOf 2 = .ok (.imul, 1) := by decide +kernel
theorem dX12_cellOf_3 : decode cX12_cellOf 3 = .ok (.iload_n 2, 1) := by decide +kernel
theorem dX12_cellOf_4 : decode cX12_cellOf 4 = .ok (.ifCond .eq 7, 3) := by decide +kernel
theorem dX12_cellOf_7 : decode cX12_cellOf 7 = .ok (.iconst 1, 1) := by decide +kernel
theorem dX12_cellOf_8 : decode cX12_cellOf 8 = .ok (.goto 4, 3) := by decide +kernel
theorem dX12_cellOf_11 : decode cX12_cellOf 11 = .ok (.iconst 3, 1) := by decide +kernel
theorem dX12_cellOf_12 : decode cX12_cellOf 12 = .ok (.iadd, 1) := by decide +kernel
theorem dX12_cellOf_13 : decode cX12_cellOf 13 = .ok (.istore_n 3, 1) := by decide +kernel
theorem dX12_cellOf_14 : decode cX12_cellOf 14 = .ok (.aload_n 0, 1) := by decide +kernel
theorem dX12_cellOf_15 : decode cX12_cellOf 15 = .ok (.aload_n 0, 1) := by decide +kernel
theorem dX12_cellOf_16 : decode cX12_cellOf 16 = .ok (.getfield 63, 3) := by decide +kernel
theorem dX12_cellOf_19 : decode cX12_cellOf 19 = .ok (.iload_n 3, 1) := by decide +kernel
theorem dX12_cellOf_20 : decode cX12_cellOf 20 = .ok (.iaload, 1) := by decide +kernel
theorem dX12_cellOf_21 : decode cX12_cellOf 21 = .ok (.aload_n 0, 1) := by decide +kernel
theorem dX12_cellOf_22 : decode cX12_cellOf 22 = .ok (.getfield 63, 3) := by decide +kernel
theorem dX12_cellOf_25 : decode cX12_cellOf 25 = .ok (.iload_n 3, 1) := by decide +kernel
theorem dX12_cellOf_26 : decode cX12_cellOf 26 = .ok (.iconst 1, 1) := by decide +kernel
theorem dX12_cellOf_27 : decode cX12_cellOf 27 = .ok (.iadd, 1) := by decide +kernel
theorem dX12_cellOf_28 : decode cX12_cellOf 28 = .ok (.iaload, 1) := by decide +kernel
theorem dX12_cellOf_29 : decode cX12_cellOf 29 = .ok (.invokevirtual 334, 3) := by decide +kernel
theorem dX12_cellOf_32 : decode cX12_cellOf 32 = .ok (.ireturn, 1) := by decide +kernel
theorem dX12_touches_0 : decode cX12_touches 0 = .ok (.iload_n 2, 1) := by decide +kernel
theorem dX12_touches_1 : decode cX12_touches 1 = .ok (.ifCond .lt 27, 3) := by decide +kernel
theorem dX12_touches_4 : decode cX12_touches 4 = .ok (.aload_n 0, 1) := by decide +kernel
theorem dX12_touches_5 : decode cX12_touches 5 = .ok (.iload_n 1, 1) := by decide +kernel
theorem dX12_touches_6 : decode cX12_touches 6 = .ok (.iconst 1, 1) := by decide +kernel
theorem dX12_touches_7 : decode cX12_touches 7 = .ok (.invokevirtual 337, 3) := by decide +kernel
theorem dX12_touches_10 : decode cX12_touches 10 = .ok (.iload_n 2, 1) := by decide +kernel
theorem dX12_touches_11 : decode cX12_touches 11 = .ok (.if_icmp .eq 13, 3) := by decide +kernel
theorem dX12_touches_14 : decode cX12_touches 14 = .ok (.aload_n 0, 1) := by decide +kernel
theorem dX12_touches_15 : decode cX12_touches 15 = .ok (.iload_n 1, 1) := by decide +kernel
theorem dX12_touches_16 : decode cX12_touches 16 = .ok (.iconst 0, 1) := by decide +kernel
theorem dX12_touches_17 : decode cX12_touches 17 = .ok (.invokevirtual 337, 3) := by decide +kernel
theorem dX12_touches_20 : decode cX12_touches 20 = .ok (.iload_n 2, 1) := by decide +kernel
theorem dX12_touches_21 : decode cX12_touches 21 = .ok (.if_icmp .ne 7, 3) := by decide +kernel
theorem dX12_touches_24 : decode cX12_touches 24 = .ok (.iconst 1, 1) := by decide +kernel
theorem dX12_touches_25 : decode cX12_touches 25 = .ok (.goto 4, 3) := by decide +kernel
theorem dX12_touches_28 : decode cX12_touches 28 = .ok (.iconst 0, 1) := by decide +kernel
theorem dX12_touches_29 : decode cX12_touches 29 = .ok (.ireturn, 1) := by decide +kernel
theorem dX12_clash_0 : decode cX12_clash 0 = .ok (.aload_n 0, 1) := by decide +kernel
theorem dX12_clash_1 : decode cX12_clash 1 = .ok (.iload_n 2, 1) := by decide +kernel
theorem dX12_clash_2 : decode cX12_clash 2 = .ok (.aload_n 0, 1) := by decide +kernel
theorem dX12_clash_3 : decode cX12_clash 3 = .ok (.iload_n 1, 1) := by decide +kernel
theorem dX12_clash_4 : decode cX12_clash 4 = .ok (.iconst 0, 1) := by decide +kernel
theorem dX12_clash_5 : decode cX12_clash 5 = .ok (.invokevirtual 337, 3) := by decide +kernel
theorem dX12_clash_8 : decode cX12_clash 8 = .ok (.invokevirtual 341, 3) := by decide +kernel
theorem dX12_clash_11 : decode cX12_clash 11 = .ok (.ifCond .ne 69, 3) := by decide +kernel
theorem dX12_clash_14 : decode cX12_clash 14 = .ok (.aload_n 0, 1) := by decide +kernel
theorem dX12_clash_15 : decode cX12_clash 15 = .ok (.iload_n 1, 1) := by decide +kernel
theorem dX12_clash_16 : decode cX12_clash 16 = .ok (.aload_n 0, 1) := by decide +kernel
theorem dX12_clash_17 : decode cX12_clash 17 = .ok (.iload_n 2, 1) := by decide +kernel
theorem dX12_clash_18 : decode cX12_clash 18 = .ok (.iconst 0, 1) := by decide +kernel
theorem dX12_clash_19 : decode cX12_clash 19 = .ok (.invokevirtual 337, 3) := by decide +kernel
theorem dX12_clash_22 : decode cX12_clash 22 = .ok (.invokevirtual 341, 3) := by decide +kernel
theorem dX12_clash_25 : decode cX12_clash 25 = .ok (.ifCond .ne 55, 3) := by decide +kernel
theorem dX12_clash_28 : decode cX12_clash 28 = .ok (.aload_n 0, 1) := by decide +kernel
theorem dX12_clash_29 : decode cX12_clash 29 = .ok (.getfield 63, 3) := by decide +kernel
theorem dX12_clash_32 : decode cX12_clash 32 = .ok (.iconst 5, 1) := by decide +kernel
theorem dX12_clash_33 : decode cX12_clash 33 = .ok (.iload_n 1, 1) := by decide +kernel
theorem dX12_clash_34 : decode cX12_clash 34 = .ok (.imul, 1) := by decide +kernel
theorem dX12_clash_35 : decode cX12_clash 35 = .ok (.iaload, 1) := by decide +kernel
theorem dX12_clash_36 : decode cX12_clash 36 = .ok (.iconst 4, 1) := by decide +kernel
theorem dX12_clash_37 : decode cX12_clash 37 = .ok (.if_icmp .ne 17, 3) := by decide +kernel
theorem dX12_clash_40 : decode cX12_clash 40 = .ok (.aload_n 0, 1) := by decide +kernel
theorem dX12_clash_41 : decode cX12_clash 41 = .ok (.iload_n 2, 1) := by decide +kernel
theorem dX12_clash_42 : decode cX12_clash 42 = .ok (.aload_n 0, 1) := by decide +kernel
theorem dX12_clash_43 : decode cX12_clash 43 = .ok (.iload_n 1, 1) := by decide +kernel
theorem dX12_clash_44 : decode cX12_clash 44 = .ok (.iconst 1, 1) := by decide +kernel
theorem dX12_clash_45 : decode cX12_clash 45 = .ok (.invokevirtual 337, 3) := by decide +kernel
theorem dX12_clash_48 : decode cX12_clash 48 = .ok (.invokevirtual 341, 3) := by decide +kernel
theorem dX12_clash_51 : decode cX12_clash 51 = .ok (.ifCond .ne 29, 3) := by decide +kernel
theorem dX12_clash_54 : decode cX12_clash 54 = .ok (.aload_n 0, 1) := by decide +kernel
theorem dX12_clash_55 : decode cX12_clash 55 = .ok (.getfield 63, 3) := by decide +kernel
theorem dX12_clash_58 : decode cX12_clash 58 = .ok (.iconst 5, 1) := by decide +kernel
theorem dX12_clash_59 : decode cX12_clash 59 = .ok (.iload_n 2, 1) := by decide +kernel
theorem dX12_clash_60 : decode cX12_clash 60 = .ok (.imul, 1) := by decide +kernel
theorem dX12_clash_61 : decode cX12_clash 61 = .ok (.iaload, 1) := by decide +kernel
theorem dX12_clash_62 : decode cX12_clash 62 = .ok (.iconst 4, 1) := by decide +kernel
theorem dX12_clash_63 : decode cX12_clash 63 = .ok (.if_icmp .ne 21, 3) := by decide +kernel
theorem dX12_clash_66 : decode cX12_clash 66 = .ok (.aload_n 0, 1) := by decide +kernel
theorem dX12_clash_67 : decode cX12_clash 67 = .ok (.iload_n 1, 1) := by decide +kernel
theorem dX12_clash_68 : decode cX12_clash 68 = .ok (.aload_n 0, 1) := by decide +kernel
theorem dX12_clash_69 : decode cX12_clash 69 = .ok (.iload_n 2, 1) := by decide +kernel
theorem dX12_clash_70 : decode cX12_clash 70 = .ok (.iconst 1, 1) := by decide +kernel
theorem dX12_clash_71 : decode cX12_clash 71 = .ok (.invokevirtual 337, 3) := by decide +kernel
theorem dX12_clash_74 : decode cX12_clash 74 = .ok (.invokevirtual 341, 3) := by decide +kernel
theorem dX12_clash_77 : decode cX12_clash 77 = .ok (.ifCond .eq 7, 3) := by decide +kernel
theorem dX12_clash_80 : decode cX12_clash 80 = .ok (.iconst 1, 1) := by decide +kernel
theorem dX12_clash_81 : decode cX12_clash 81 = .ok (.goto 4, 3) := by decide +kernel
theorem dX12_clash_84 : decode cX12_clash 84 = .ok (.iconst 0, 1) := by decide +kernel
theorem dX12_clash_85 : decode cX12_clash 85 = .ok (.ireturn, 1) := by decide +kernel
theorem dX12_isPlain_0 : decode cX12_isPlain 0 = .ok (.iconst 1, 1) := by decide +kernel
theorem dX12_isPlain_1 : decode cX12_isPlain 1 = .ok (.istore_n 1, 1) := by decide +kernel
theorem dX12_isPlain_2 : decode cX12_isPlain 2 = .ok (.iconst 0, 1) := by decide +kernel
theorem dX12_isPlain_3 : decode cX12_isPlain 3 = .ok (.istore_n 2, 1) := by decide +kernel
theorem dX12_isPlain_4 : decode cX12_isPlain 4 = .ok (.iload_n 2, 1) := by decide +kernel
theorem dX12_isPlain_5 : decode cX12_isPlain 5 = .ok (.aload_n 0, 1) := by decide +kernel
theorem dX12_isPlain_6 : decode cX12_isPlain 6 = .ok (.getfield 172, 3) := by decide +kernel
theorem dX12_isPlain_9 : decode cX12_isPlain 9 = .ok (.if_icmp .ge 61, 3) := by decide +kernel
theorem dX12_isPlain_12 : decode cX12_isPlain 12 = .ok (.iload_n 1, 1) := by decide +kernel
theorem dX12_isPlain_13 : decode cX12_isPlain 13 = .ok (.ifCond .eq 49, 3) := by decide +kernel
theorem dX12_isPlain_16 : decode cX12_isPlain 16 = .ok (.aload_n 0, 1) := by decide +kernel
theorem dX12_isPlain_17 : decode cX12_isPlain 17 = .ok (.getfield 63, 3) := by decide +kernel
theorem dX12_isPlain_20 : decode cX12_isPlain 20 = .ok (.iconst 5, 1) := by decide +kernel
theorem dX12_isPlain_21 : decode cX12_isPlain 21 = .ok (.iload_n 2, 1) := by decide +kernel
theorem dX12_isPlain_22 : decode cX12_isPlain 22 = .ok (.imul, 1) := by decide +kernel
theorem dX12_isPlain_23 : decode cX12_isPlain 23 = .ok (.iaload, 1) := by decide +kernel
theorem dX12_isPlain_24 : decode cX12_isPlain 24 = .ok (.iconst 5, 1) := by decide +kernel
theorem dX12_isPlain_25 : decode cX12_isPlain 25 = .ok (.if_icmp .ge 37, 3) := by decide +kernel
theorem dX12_isPlain_28 : decode cX12_isPlain 28 = .ok (.aload_n 0, 1) := by decide +kernel
theorem dX12_isPlain_29 : decode cX12_isPlain 29 = .ok (.getfield 63, 3) := by decide +kernel
theorem dX12_isPlain_32 : decode cX12_isPlain 32 = .ok (.iconst 5, 1) := by decide +kernel
theorem dX12_isPlain_33 : decode cX12_isPlain 33 = .ok (.iload_n 2, 1) := by decide +kernel
theorem dX12_isPlain_34 : decode cX12_isPlain 34 = .ok (.imul, 1) := by decide +kernel
theorem dX12_isPlain_35 : decode cX12_isPlain 35 = .ok (.iconst 2, 1) := by decide +kernel
theorem dX12_isPlain_36 : decode cX12_isPlain 36 = .ok (.iadd, 1) := by decide +kernel
theorem dX12_isPlain_37 : decode cX12_isPlain 37 = .ok (.iaload, 1) := by decide +kernel
theorem dX12_isPlain_38 : decode cX12_isPlain 38 = .ok (.bipush 12, 2) := by decide +kernel
theorem dX12_isPlain_40 : decode cX12_isPlain 40 = .ok (.if_icmp .ge 22, 3) := by decide +kernel
theorem dX12_isPlain_43 : decode cX12_isPlain 43 = .ok (.aload_n 0, 1) := by decide +kernel
theorem dX12_isPlain_44 : decode cX12_isPlain 44 = .ok (.getfield 63, 3) := by decide +kernel
theorem dX12_isPlain_47 : decode cX12_isPlain 47 = .ok (.iconst 5, 1) := by decide +kernel
theorem dX12_isPlain_48 : decode cX12_isPlain 48 = .ok (.iload_n 2, 1) := by decide +kernel
theorem dX12_isPlain_49 : decode cX12_isPlain 49 = .ok (.imul, 1) := by decide +kernel
theorem dX12_isPlain_50 : decode cX12_isPlain 50 = .ok (.iconst 4, 1) := by decide +kernel
theorem dX12_isPlain_51 : decode cX12_isPlain 51 = .ok (.iadd, 1) := by decide +kernel
theorem dX12_isPlain_52 : decode cX12_isPlain 52 = .ok (.iaload, 1) := by decide +kernel
theorem dX12_isPlain_53 : decode cX12_isPlain 53 = .ok (.bipush 12, 2) := by decide +kernel
theorem dX12_isPlain_55 : decode cX12_isPlain 55 = .ok (.if_icmp .ge 7, 3) := by decide +kernel
theorem dX12_isPlain_58 : decode cX12_isPlain 58 = .ok (.iconst 1, 1) := by decide +kernel
theorem dX12_isPlain_59 : decode cX12_isPlain 59 = .ok (.goto 4, 3) := by decide +kernel
theorem dX12_isPlain_62 : decode cX12_isPlain 62 = .ok (.iconst 0, 1) := by decide +kernel
theorem dX12_isPlain_63 : decode cX12_isPlain 63 = .ok (.istore_n 1, 1) := by decide +kernel
theorem dX12_isPlain_64 : decode cX12_isPlain 64 = .ok (.iinc 2 1, 3) := by decide +kernel
theorem dX12_isPlain_67 : decode cX12_isPlain 67 = .ok (.goto (-63), 3) := by decide +kernel
theorem dX12_isPlain_70 : decode cX12_isPlain 70 = .ok (.iload_n 1, 1) := by decide +kernel
theorem dX12_isPlain_71 : decode cX12_isPlain 71 = .ok (.ireturn, 1) := by decide +kernel
theorem dX12_waves_0 : decode cX12_waves 0 = .ok (.iconst 0, 1) := by decide +kernel
theorem dX12_waves_1 : decode cX12_waves 1 = .ok (.istore_n 1, 1) := by decide +kernel
theorem dX12_waves_2 : decode cX12_waves 2 = .ok (.iload_n 1, 1) := by decide +kernel
theorem dX12_waves_3 : decode cX12_waves 3 = .ok (.aload_n 0, 1) := by decide +kernel
theorem dX12_waves_4 : decode cX12_waves 4 = .ok (.getfield 172, 3) := by decide +kernel
theorem dX12_waves_7 : decode cX12_waves 7 = .ok (.if_icmp .ge 76, 3) := by decide +kernel
theorem dX12_waves_10 : decode cX12_waves 10 = .ok (.aload_n 0, 1) := by decide +kernel
theorem dX12_waves_11 : decode cX12_waves 11 = .ok (.getfield 100, 3) := by decide +kernel
theorem dX12_waves_14 : decode cX12_waves 14 = .ok (.iload_n 1, 1) := by decide +kernel
theorem dX12_waves_15 : decode cX12_waves 15 = .ok (.iconst 0, 1) := by decide +kernel
theorem dX12_waves_16 : decode cX12_waves 16 = .ok (.iastore, 1) := by decide +kernel
theorem dX12_waves_17 : decode cX12_waves 17 = .ok (.iconst 0, 1) := by decide +kernel
theorem dX12_waves_18 : decode cX12_waves 18 = .ok (.istore_n 2, 1) := by decide +kernel
theorem dX12_waves_19 : decode cX12_waves 19 = .ok (.iload_n 2, 1) := by decide +kernel
theorem dX12_waves_20 : decode cX12_waves 20 = .ok (.iload_n 1, 1) := by decide +kernel
theorem dX12_waves_21 : decode cX12_waves 21 = .ok (.if_icmp .ge 56, 3) := by decide +kernel
theorem dX12_waves_24 : decode cX12_waves 24 = .ok (.aload_n 0, 1) := by decide +kernel
theorem dX12_waves_25 : decode cX12_waves 25 = .ok (.getfield 100, 3) := by decide +kernel
theorem dX12_waves_28 : decode cX12_waves 28 = .ok (.iload_n 1, 1) := by decide +kernel
theorem dX12_waves_29 : decode cX12_waves 29 = .ok (.aload_n 0, 1) := by decide +kernel
theorem dX12_waves_30 : decode cX12_waves 30 = .ok (.iload_n 2, 1) := by decide +kernel
theorem dX12_waves_31 : decode cX12_waves 31 = .ok (.iload_n 1, 1) := by decide +kernel
theorem dX12_waves_32 : decode cX12_waves 32 = .ok (.invokevirtual 344, 3) := by decide +kernel
theorem dX12_waves_35 : decode cX12_waves 35 = .ok (.ifCond .eq 29, 3) := by decide +kernel
theorem dX12_waves_38 : decode cX12_waves 38 = .ok (.aload_n 0, 1) := by decide +kernel
theorem dX12_waves_39 : decode cX12_waves 39 = .ok (.getfield 100, 3) := by decide +kernel
theorem dX12_waves_42 : decode cX12_waves 42 = .ok (.iload_n 2, 1) := by decide +kernel
theorem dX12_waves_43 : decode cX12_waves 43 = .ok (.iaload, 1) := by decide +kernel
theorem dX12_waves_44 : decode cX12_waves 44 = .ok (.aload_n 0, 1) := by decide +kernel
theorem dX12_waves_45 : decode cX12_waves 45 = .ok (.getfield 100, 3) := by decide +kernel
theorem dX12_waves_48 : decode cX12_waves 48 = .ok (.iload_n 1, 1) := by decide +kernel
theorem dX12_waves_49 : decode cX12_waves 49 = .ok (.iaload, 1) := by decide +kernel
theorem dX12_waves_50 : decode cX12_waves 50 = .ok (.if_icmp .lt 14, 3) := by decide +kernel
theorem dX12_waves_53 : decode cX12_waves 53 = .ok (.aload_n 0, 1) := by decide +kernel
theorem dX12_waves_54 : decode cX12_waves 54 = .ok (.getfield 100, 3) := by decide +kernel
theorem dX12_waves_57 : decode cX12_waves 57 = .ok (.iload_n 2, 1) := by decide +kernel
theorem dX12_waves_58 : decode cX12_waves 58 = .ok (.iaload, 1) := by decide +kernel
theorem dX12_waves_59 : decode cX12_waves 59 = .ok (.iconst 1, 1) := by decide +kernel
theorem dX12_waves_60 : decode cX12_waves 60 = .ok (.iadd, 1) := by decide +kernel
theorem dX12_waves_61 : decode cX12_waves 61 = .ok (.goto 9, 3) := by decide +kernel
theorem dX12_waves_64 : decode cX12_waves 64 = .ok (.aload_n 0, 1) := by decide +kernel
theorem dX12_waves_65 : decode cX12_waves 65 = .ok (.getfield 100, 3) := by decide +kernel
theorem dX12_waves_68 : decode cX12_waves 68 = .ok (.iload_n 1, 1) := by decide +kernel
theorem dX12_waves_69 : decode cX12_waves 69 = .ok (.iaload, 1) := by decide +kernel
theorem dX12_waves_70 : decode cX12_waves 70 = .ok (.iastore, 1) := by decide +kernel
theorem dX12_waves_71 : decode cX12_waves 71 = .ok (.iinc 2 1, 3) := by decide +kernel
theorem dX12_waves_74 : decode cX12_waves 74 = .ok (.goto (-55), 3) := by decide +kernel
theorem dX12_waves_77 : decode cX12_waves 77 = .ok (.iinc 1 1, 3) := by decide +kernel
theorem dX12_waves_80 : decode cX12_waves 80 = .ok (.goto (-78), 3) := by decide +kernel
theorem dX12_waves_83 : decode cX12_waves 83 = .ok (.return_, 1) := by decide +kernel
theorem dX12_wave_0 : decode cX12_wave 0 = .ok (.aload_n 0, 1) := by decide +kernel
theorem dX12_wave_1 : decode cX12_wave 1 = .ok (.iconst 0, 1) := by decide +kernel
theorem dX12_wave_2 : decode cX12_wave 2 = .ok (.putfield 109, 3) := by decide +kernel
theorem dX12_wave_5 : decode cX12_wave 5 = .ok (.iload_n 1, 1) := by decide +kernel
theorem dX12_wave_6 : decode cX12_wave 6 = .ok (.i2l, 1) := by decide +kernel
theorem dX12_wave_7 : decode cX12_wave 7 = .ok (.lconst 0, 1) := by decide +kernel
theorem dX12_wave_8 : decode cX12_wave 8 = .ok (.aload_n 0, 1) := by decide +kernel
theorem dX12_wave_9 : decode cX12_wave 9 = .ok (.getfield 172, 3) := by decide +kernel
theorem dX12_wave_12 : decode cX12_wave 12 = .ok (.iconst 1, 1) := by decide +kernel
theorem dX12_wave_13 : decode cX12_wave 13 = .ok (.isub, 1) := by decide +kernel
theorem dX12_wave_14 : decode cX12_wave 14 = .ok (.i2l, 1) := by decide +kernel
theorem dX12_wave_15 : decode cX12_wave 15 = .ok (.invokestatic 118, 3) := by decide +kernel
theorem dX12_wave_18 : decode cX12_wave 18 = .ok (.ifCond .ne 5, 3) := by decide +kernel
theorem dX12_wave_21 : decode cX12_wave 21 = .ok (.iconst (-1), 1) := by decide +kernel
theorem dX12_wave_22 : decode cX12_wave 22 = .ok (.ireturn, 1) := by decide +kernel
theorem dX12_wave_23 : decode cX12_wave 23 = .ok (.aload_n 0, 1) := by decide +kernel
theorem dX12_wave_24 : decode cX12_wave 24 = .ok (.invokevirtual 347, 3) := by decide +kernel
theorem dX12_wave_27 : decode cX12_wave 27 = .ok (.ifCond .ne 6, 3) := by decide +kernel
theorem dX12_wave_30 : decode cX12_wave 30 = .ok (.bipush (-2), 2) := by decide +kernel
theorem dX12_wave_32 : decode cX12_wave 32 = .ok (.ireturn, 1) := by decide +kernel
theorem dX12_wave_33 : decode cX12_wave 33 = .ok (.aload_n 0, 1) := by decide +kernel
theorem dX12_wave_34 : decode cX12_wave 34 = .ok (.invokevirtual 350, 3) := by decide +kernel
theorem dX12_wave_37 : decode cX12_wave 37 = .ok (.aload_n 0, 1) := by decide +kernel
theorem dX12_wave_38 : decode cX12_wave 38 = .ok (.getfield 100, 3) := by decide +kernel
theorem dX12_wave_41 : decode cX12_wave 41 = .ok (.iload_n 1, 1) := by decide +kernel
theorem dX12_wave_42 : decode cX12_wave 42 = .ok (.iaload, 1) := by decide +kernel
theorem dX12_wave_43 : decode cX12_wave 43 = .ok (.ireturn, 1) := by decide +kernel
theorem dX12_reorders_0 : decode cX12_reorders 0 = .ok (.aload_n 0, 1) := by decide +kernel
theorem dX12_reorders_1 : decode cX12_reorders 1 = .ok (.iconst 0, 1) := by decide +kernel
theorem dX12_reorders_2 : decode cX12_reorders 2 = .ok (.putfield 109, 3) := by decide +kernel
theorem dX12_reorders_5 : decode cX12_reorders 5 = .ok (.aload_n 0, 1) := by decide +kernel
theorem dX12_reorders_6 : decode cX12_reorders 6 = .ok (.invokevirtual 347, 3) := by decide +kernel
theorem dX12_reorders_9 : decode cX12_reorders 9 = .ok (.ifCond .ne 6, 3) := by decide +kernel
theorem dX12_reorders_12 : decode cX12_reorders 12 = .ok (.bipush (-2), 2) := by decide +kernel
theorem dX12_reorders_14 : decode cX12_reorders 14 = .ok (.ireturn, 1) := by decide +kernel
theorem dX12_reorders_15 : decode cX12_reorders 15 = .ok (.aload_n 0, 1) := by decide +kernel
theorem dX12_reorders_16 : decode cX12_reorders 16 = .ok (.invokevirtual 350, 3) := by decide +kernel
theorem dX12_reorders_19 : decode cX12_reorders 19 = .ok (.iconst 0, 1) := by decide +kernel
theorem dX12_reorders_20 : decode cX12_reorders 20 = .ok (.istore_n 1, 1) := by decide +kernel
theorem dX12_reorders_21 : decode cX12_reorders 21 = .ok (.iload_n 1, 1) := by decide +kernel
theorem dX12_reorders_22 : decode cX12_reorders 22 = .ok (.iconst 5, 1) := by decide +kernel
theorem dX12_reorders_23 : decode cX12_reorders 23 = .ok (.aload_n 0, 1) := by decide +kernel
theorem dX12_reorders_24 : decode cX12_reorders 24 = .ok (.getfield 172, 3) := by decide +kernel
theorem dX12_reorders_27 : decode cX12_reorders 27 = .ok (.imul, 1) := by decide +kernel
theorem dX12_reorders_28 : decode cX12_reorders 28 = .ok (.if_icmp .ge 21, 3) := by decide +kernel
theorem dX12_reorders_31 : decode cX12_reorders 31 = .ok (.aload_n 0, 1) := by decide +kernel
theorem dX12_reorders_32 : decode cX12_reorders 32 = .ok (.getfield 103, 3) := by decide +kernel
theorem dX12_reorders_35 : decode cX12_reorders 35 = .ok (.iload_n 1, 1) := by decide +kernel
theorem dX12_reorders_36 : decode cX12_reorders 36 = .ok (.aload_n 0, 1) := by decide +kernel
theorem dX12_reorders_37 : decode cX12_reorders 37 = .ok (.getfield 63, 3) := by decide +kernel
theorem dX12_reorders_40 : decode cX12_reorders 40 = .ok (.iload_n 1, 1) := by decide +kernel
theorem dX12_reorders_41 : decode cX12_reorders 41 = .ok (.iaload, 1) := by decide +kernel
theorem dX12_reorders_42 : decode cX12_reorders 42 = .ok (.iastore, 1) := by decide +kernel
theorem dX12_reorders_43 : decode cX12_reorders 43 = .ok (.iinc 1 1, 3) := by decide +kernel
theorem dX12_reorders_46 : decode cX12_reorders 46 = .ok (.goto (-25), 3) := by decide +kernel
theorem dX12_reorders_49 : decode cX12_reorders 49 = .ok (.iconst 0, 1) := by decide +kernel
theorem dX12_reorders_50 : decode cX12_reorders 50 = .ok (.istore_n 1, 1) := by decide +kernel
theorem dX12_reorders_51 : decode cX12_reorders 51 = .ok (.iconst 0, 1) := by decide +kernel
theorem dX12_reorders_52 : decode cX12_reorders 52 = .ok (.istore_n 2, 1) := by decide +kernel
theorem dX12_reorders_53 : decode cX12_reorders 53 = .ok (.iconst 0, 1) := by decide +kernel
theorem dX12_reorders_54 : decode cX12_reorders 54 = .ok (.istore_n 3, 1) := by decide +kernel
theorem dX12_reorders_55 : decode cX12_reorders 55 = .ok (.iload_n 3, 1) := by decide +kernel
theorem dX12_reorders_56 : decode cX12_reorders 56 = .ok (.aload_n 0, 1) := by decide +kernel
theorem dX12_reorders_57 : decode cX12_reorders 57 = .ok (.getfield 172, 3) := by decide +kernel
theorem dX12_reorders_60 : decode cX12_reorders 60 = .ok (.if_icmp .ge 93, 3) := by decide +kernel
theorem dX12_reorders_63 : decode cX12_reorders 63 = .ok (.iconst 0, 1) := by decide +kernel
theorem dX12_reorders_64 : decode cX12_reorders 64 = .ok (.istore 4, 2) := by decide +kernel
theorem dX12_reorders_66 : decode cX12_reorders 66 = .ok (.iload 4, 2) := by decide +kernel
theorem dX12_reorders_68 : decode cX12_reorders 68 = .ok (.aload_n 0, 1) := by decide +kernel
theorem dX12_reorders_69 : decode cX12_reorders 69 = .ok (.getfield 172, 3) := by decide +kernel
theorem dX12_reorders_72 : decode cX12_reorders 72 = .ok (.if_icmp .ge 75, 3) := by decide +kernel
theorem dX12_reorders_75 : decode cX12_reorders 75 = .ok (.aload_n 0, 1) := by decide +kernel
theorem dX12_reorders_76 : decode cX12_reorders 76 = .ok (.getfield 100, 3) := by decide +kernel
theorem dX12_reorders_79 : decode cX12_reorders 79 = .ok (.iload 4, 2) := by decide +kernel
theorem dX12_reorders_81 : decode cX12_reorders 81 = .ok (.iaload, 1) := by decide +kernel
theorem dX12_reorders_82 : decode cX12_reorders 82 = .ok (.iload_n 3, 1) := by decide +kernel
theorem dX12_reorders_83 : decode cX12_reorders 83 = .ok (.if_icmp .ne 58, 3) := by decide +kernel
theorem dX12_reorders_86 : decode cX12_reorders 86 = .ok (.iload_n 2, 1) := by decide +kernel
theorem dX12_reorders_87 : decode cX12_reorders 87 = .ok (.iload 4, 2) := by decide +kernel
theorem dX12_reorders_89 : decode cX12_reorders 89 = .ok (.iload_n 1, 1) := by decide +kernel
theorem dX12_reorders_90 : decode cX12_reorders 90 = .ok (.if_icmp .eq 7, 3) := by decide +kernel
theorem dX12_reorders_93 : decode cX12_reorders 93 = .ok (.iconst 1, 1) := by decide +kernel
theorem dX12_reorders_94 : decode cX12_reorders 94 = .ok (.goto 4, 3) := by decide +kernel
theorem dX12_reorders_97 : decode cX12_reorders 97 = .ok (.iconst 0, 1) := by decide +kernel
theorem dX12_reorders_98 : decode cX12_reorders 98 = .ok (.iadd, 1) := by decide +kernel
theorem dX12_reorders_99 : decode cX12_reorders 99 = .ok (.istore_n 2, 1) := by decide +kernel
theorem dX12_reorders_100 : decode cX12_reorders 100 = .ok (.iconst 0, 1) := by decide +kernel
theorem dX12_reorders_101 : decode cX12_reorders 101 = .ok (.istore 5, 2) := by decide +kernel
theorem dX12_reorders_103 : decode cX12_reorders 103 = .ok (.iload 5, 2) := by decide +kernel
theorem dX12_reorders_105 : decode cX12_reorders 105 = .ok (.iconst 5, 1) := by decide +kernel
theorem dX12_reorders_106 : decode cX12_reorders 106 = .ok (.if_icmp .ge 32, 3) := by decide +kernel
theorem dX12_reorders_109 : decode cX12_reorders 109 = .ok (.aload_n 0, 1) := by decide +kernel
theorem dX12_reorders_110 : decode cX12_reorders 110 = .ok (.getfield 63, 3) := by decide +kernel
theorem dX12_reorders_113 : decode cX12_reorders 113 = .ok (.iconst 5, 1) := by decide +kernel
theorem dX12_reorders_114 : decode cX12_reorders 114 = .ok (.iload_n 1, 1) := by decide +kernel
theorem dX12_reorders_115 : decode cX12_reorders 115 = .ok (.imul, 1) := by decide +kernel
theorem dX12_reorders_116 : decode cX12_reorders 116 = .ok (.iload 5, 2) := by decide +kernel
theorem dX12_reorders_118 : decode cX12_reorders 118 = .ok (.iadd, 1) := by decide +kernel
theorem dX12_reorders_119 : decode cX12_reorders 119 = .ok (.aload_n 0, 1) := by decide +kernel
theorem dX12_reorders_120 : decode cX12_reorders 120 = .ok (.getfield 103, 3) := by decide +kernel
theorem dX12_reorders_123 : decode cX12_reorders 123 = .ok (.iconst 5, 1) := by decide +kernel
theorem dX12_reorders_124 : decode cX12_reorders 124 = .ok (.iload 4, 2) := by decide +kernel
theorem dX12_reorders_126 : decode cX12_reorders 126 = .ok (.imul, 1) := by decide +kernel
theorem dX12_reorders_127 : decode cX12_reorders 127 = .ok (.iload 5, 2) := by decide +kernel
theorem dX12_reorders_129 : decode cX12_reorders 129 = .ok (.iadd, 1) := by decide +kernel
theorem dX12_reorders_130 : decode cX12_reorders 130 = .ok (.iaload, 1) := by decide +kernel
theorem dX12_reorders_131 : decode cX12_reorders 131 = .ok (.iastore, 1) := by decide +kernel
theorem dX12_reorders_132 : decode cX12_reorders 132 = .ok (.iinc 5 1, 3) := by decide +kernel
theorem dX12_reorders_135 : decode cX12_reorders 135 = .ok (.goto (-32), 3) := by decide +kernel
theorem dX12_reorders_138 : decode cX12_reorders 138 = .ok (.iinc 1 1, 3) := by decide +kernel
theorem dX12_reorders_141 : decode cX12_reorders 141 = .ok (.iinc 4 1, 3) := by decide +kernel
theorem dX12_reorders_144 : decode cX12_reorders 144 = .ok (.goto (-78), 3) := by decide +kernel
theorem dX12_reorders_147 : decode cX12_reorders 147 = .ok (.iinc 3 1, 3) := by decide +kernel
theorem dX12_reorders_150 : decode cX12_reorders 150 = .ok (.goto (-95), 3) := by decide +kernel
theorem dX12_reorders_153 : decode cX12_reorders 153 = .ok (.iload_n 2, 1) := by decide +kernel
theorem dX12_reorders_154 : decode cX12_reorders 154 = .ok (.ireturn, 1) := by decide +kernel
theorem dX12_joins_0 : decode cX12_joins 0 = .ok (.aload_n 0, 1) := by decide +kernel
theorem dX12_joins_1 : decode cX12_joins 1 = .ok (.iconst 0, 1) := by decide +kernel
theorem dX12_joins_2 : decode cX12_joins 2 = .ok (.putfield 109, 3) := by decide +kernel
theorem dX12_joins_5 : decode cX12_joins 5 = .ok (.aload_n 0, 1) := by decide +kernel
theorem dX12_joins_6 : decode cX12_joins 6 = .ok (.iload_n 1, 1) := by decide +kernel
theorem dX12_joins_7 : decode cX12_joins 7 = .ok (.invokevirtual 152, 3) := by decide +kernel
theorem dX12_joins_10 : decode cX12_joins 10 = .ok (.ifCond .eq 11, 3) := by decide +kernel
theorem dX12_joins_13 : decode cX12_joins 13 = .ok (.aload_n 0, 1) := by decide +kernel
theorem dX12_joins_14 : decode cX12_joins 14 = .ok (.iload_n 2, 1) := by decide +kernel
theorem dX12_joins_15 : decode cX12_joins 15 = .ok (.invokevirtual 152, 3) := by decide +kernel
theorem dX12_joins_18 : decode cX12_joins 18 = .ok (.ifCond .ne 5, 3) := by decide +kernel
theorem dX12_joins_21 : decode cX12_joins 21 = .ok (.iconst (-1), 1) := by decide +kernel
theorem dX12_joins_22 : decode cX12_joins 22 = .ok (.ireturn, 1) := by decide +kernel
theorem dX12_joins_23 : decode cX12_joins 23 = .ok (.iconst 0, 1) := by decide +kernel
theorem dX12_joins_24 : decode cX12_joins 24 = .ok (.istore_n 3, 1) := by decide +kernel
theorem dX12_joins_25 : decode cX12_joins 25 = .ok (.iconst 0, 1) := by decide +kernel
theorem dX12_joins_26 : decode cX12_joins 26 = .ok (.istore 4, 2) := by decide +kernel
theorem dX12_joins_28 : decode cX12_joins 28 = .ok (.iload 4, 2) := by decide +kernel
theorem dX12_joins_30 : decode cX12_joins 30 = .ok (.bipush 8, 2) := by decide +kernel
theorem dX12_joins_32 : decode cX12_joins 32 = .ok (.if_icmp .ge 48, 3) := by decide +kernel
theorem dX12_joins_35 : decode cX12_joins 35 = .ok (.iload_n 3, 1) := by decide +kernel
theorem dX12_joins_36 : decode cX12_joins 36 = .ok (.aload_n 0, 1) := by decide +kernel
theorem dX12_joins_37 : decode cX12_joins 37 = .ok (.getfield 35, 3) := by decide +kernel
theorem dX12_joins_40 : decode cX12_joins 40 = .ok (.iload_n 1, 1) := by decide +kernel
theorem dX12_joins_41 : decode cX12_joins 41 = .ok (.iaload, 1) := by decide +kernel
theorem dX12_joins_42 : decode cX12_joins 42 = .ok (.iload 4, 2) := by decide +kernel
theorem dX12_joins_44 : decode cX12_joins 44 = .ok (.invokestatic 178, 3) := by decide +kernel
theorem dX12_joins_47 : decode cX12_joins 47 = .ok (.ifCond .eq 24, 3) := by decide +kernel
theorem dX12_joins_50 : decode cX12_joins 50 = .ok (.aload_n 0, 1) := by decide +kernel
theorem dX12_joins_51 : decode cX12_joins 51 = .ok (.getfield 35, 3) := by decide +kernel
theorem dX12_joins_54 : decode cX12_joins 54 = .ok (.iload_n 2, 1) := by decide +kernel
theorem dX12_joins_55 : decode cX12_joins 55 = .ok (.iaload, 1) := by decide +kernel
theorem dX12_joins_56 : decode cX12_joins 56 = .ok (.iload 4, 2) := by decide +kernel
theorem dX12_joins_58 : decode cX12_joins 58 = .ok (.invokestatic 178, 3) := by decide +kernel
theorem dX12_joins_61 : decode cX12_joins 61 = .ok (.ifCond .eq 10, 3) := by decide +kernel
theorem dX12_joins_64 : decode cX12_joins 64 = .ok (.iconst 1, 1) := by decide +kernel
theorem dX12_joins_65 : decode cX12_joins 65 = .ok (.iload 4, 2) := by decide +kernel
theorem dX12_joins_67 : decode cX12_joins 67 = .ok (.ishl, 1) := by decide +kernel
theorem dX12_joins_68 : decode cX12_joins 68 = .ok (.goto 4, 3) := by decide +kernel
theorem dX12_joins_71 : decode cX12_joins 71 = .ok (.iconst 0, 1) := by decide +kernel
theorem dX12_joins_72 : decode cX12_joins 72 = .ok (.ior, 1) := by decide +kernel
theorem dX12_joins_73 : decode cX12_joins 73 = .ok (.istore_n 3, 1) := by decide +kernel
theorem dX12_joins_74 : decode cX12_joins 74 = .ok (.iinc 4 1, 3) := by decide +kernel
theorem dX12_joins_77 : decode cX12_joins 77 = .ok (.goto (-49), 3) := by decide +kernel
theorem dX12_joins_80 : decode cX12_joins 80 = .ok (.iconst 0, 1) := by decide +kernel
theorem dX12_joins_81 : decode cX12_joins 81 = .ok (.istore 4, 2) := by decide +kernel
theorem dX12_joins_83 : decode cX12_joins 83 = .ok (.iload 4, 2) := by decide +kernel
theorem dX12_joins_85 : decode cX12_joins 85 = .ok (.bipush 8, 2) := by decide +kernel
theorem dX12_joins_87 : decode cX12_joins 87 = .ok (.if_icmp .ge 72, 3) := by decide +kernel
theorem dX12_joins_90 : decode cX12_joins 90 = .ok (.iload_n 3, 1) := by decide +kernel
theorem dX12_joins_91 : decode cX12_joins 91 = .ok (.iload 4, 2) := by decide +kernel
theorem dX12_joins_93 : decode cX12_joins 93 = .ok (.invokestatic 281, 3) := by decide +kernel
theorem dX12_joins_96 : decode cX12_joins 96 = .ok (.istore 5, 2) := by decide +kernel
theorem dX12_joins_98 : decode cX12_joins 98 = .ok (.iconst 0, 1) := by decide +kernel
theorem dX12_joins_99 : decode cX12_joins 99 = .ok (.istore 6, 2) := by decide +kernel
theorem dX12_joins_101 : decode cX12_joins 101 = .ok (.iload 6, 2) := by decide +kernel
theorem dX12_joins_103 : decode cX12_joins 103 = .ok (.bipush 8, 2) := by decide +kernel
theorem dX12_joins_105 : decode cX12_joins 105 = .ok (.if_icmp .ge 40, 3) := by decide +kernel
theorem dX12_joins_108 : decode cX12_joins 108 = .ok (.iload 5, 2) := by decide +kernel
theorem dX12_joins_110 : decode cX12_joins 110 = .ok (.ifCond .eq 26, 3) := by decide +kernel
theorem dX12_joins_113 : decode cX12_joins 113 = .ok (.iload_n 3, 1) := by decide +kernel
theorem dX12_joins_114 : decode cX12_joins 114 = .ok (.iload 6, 2) := by decide +kernel
theorem dX12_joins_116 : decode cX12_joins 116 = .ok (.invokestatic 281, 3) := by decide +kernel
theorem dX12_joins_119 : decode cX12_joins 119 = .ok (.ifCond .eq 13, 3) := by decide +kernel
theorem dX12_joins_122 : decode cX12_joins 122 = .ok (.iload 4, 2) := by decide +kernel
theorem dX12_joins_124 : decode cX12_joins 124 = .ok (.iload 6, 2) := by decide +kernel
theorem dX12_joins_126 : decode cX12_joins 126 = .ok (.invokestatic 178, 3) := by decide +kernel
theorem dX12_joins_129 : decode cX12_joins 129 = .ok (.ifCond .eq 7, 3) := by decide +kernel
theorem dX12_joins_132 : decode cX12_joins 132 = .ok (.iconst 1, 1) := by decide +kernel
theorem dX12_joins_133 : decode cX12_joins 133 = .ok (.goto 4, 3) := by decide +kernel
theorem dX12_joins_136 : decode cX12_joins 136 = .ok (.iconst 0, 1) := by decide +kernel
theorem dX12_joins_137 : decode cX12_joins 137 = .ok (.istore 5, 2) := by decide +kernel
theorem dX12_joins_139 : decode cX12_joins 139 = .ok (.iinc 6 1, 3) := by decide +kernel
theorem dX12_joins_142 : decode cX12_joins 142 = .ok (.goto (-41), 3) := by decide +kernel
theorem dX12_joins_145 : decode cX12_joins 145 = .ok (.iload 5, 2) := by decide +kernel
theorem dX12_joins_147 : decode cX12_joins 147 = .ok (.ifCond .eq 6, 3) := by decide +kernel
theorem dX12_joins_150 : decode cX12_joins 150 = .ok (.iload 4, 2) := by decide +kernel
theorem dX12_joins_152 : decode cX12_joins 152 = .ok (.ireturn, 1) := by decide +kernel
theorem dX12_joins_153 : decode cX12_joins 153 = .ok (.iinc 4 1, 3) := by decide +kernel
theorem dX12_joins_156 : decode cX12_joins 156 = .ok (.goto (-73), 3) := by decide +kernel
theorem dX12_joins_159 : decode cX12_joins 159 = .ok (.bipush (-20), 2) := by decide +kernel
theorem dX12_joins_161 : decode cX12_joins 161 = .ok (.ireturn, 1) := by decide +kernel
theorem dX12_would_0 : decode cX12_would 0 = .ok (.aload_n 0, 1) := by decide +kernel
theorem dX12_would_1 : decode cX12_would 1 = .ok (.iconst 0, 1) := by decide +kernel
theorem dX12_would_2 : decode cX12_would 2 = .ok (.putfield 109, 3) := by decide +kernel
theorem dX12_would_5 : decode cX12_would 5 = .ok (.aload_n 0, 1) := by decide +kernel
theorem dX12_would_6 : decode cX12_would 6 = .ok (.iload_n 1, 1) := by decide +kernel
theorem dX12_would_7 : decode cX12_would 7 = .ok (.invokevirtual 152, 3) := by decide +kernel
theorem dX12_would_10 : decode cX12_would 10 = .ok (.ifCond .eq 48, 3) := by decide +kernel
theorem dX12_would_13 : decode cX12_would 13 = .ok (.iload_n 2, 1) := by decide +kernel
theorem dX12_would_14 : decode cX12_would 14 = .ok (.i2l, 1) := by decide +kernel
theorem dX12_would_15 : decode cX12_would 15 = .ok (.lconst 0, 1) := by decide +kernel
theorem dX12_would_16 : decode cX12_would 16 = .ok (.ldc2_w 112, 3) := by decide +kernel
theorem dX12_would_19 : decode cX12_would 19 = .ok (.invokestatic 118, 3) := by decide +kernel
theorem dX12_would_22 : decode cX12_would 22 = .ok (.ifCond .eq 36, 3) := by decide +kernel
theorem dX12_would_25 : decode cX12_would 25 = .ok (.iload_n 3, 1) := by decide +kernel
theorem dX12_would_26 : decode cX12_would 26 = .ok (.i2l, 1) := by decide +kernel
theorem dX12_would_27 : decode cX12_would 27 = .ok (.lconst 0, 1) := by decide +kernel
theorem dX12_would_28 : decode cX12_would 28 = .ok (.iload_n 2, 1) := by decide +kernel
theorem dX12_would_29 : decode cX12_would 29 = .ok (.ifCond .ne 9, 3) := by decide +kernel
theorem dX12_would_32 : decode cX12_would 32 = .ok (.ldc2_w 163, 3) := by decide +kernel
theorem dX12_would_35 : decode cX12_would 35 = .ok (.goto 17, 3) := by decide +kernel
theorem dX12_would_38 : decode cX12_would 38 = .ok (.iload_n 2, 1) := by decide +kernel
theorem dX12_would_39 : decode cX12_would 39 = .ok (.iconst 1, 1) := by decide +kernel
theorem dX12_would_40 : decode cX12_would 40 = .ok (.if_icmp .ne 9, 3) := by decide +kernel
theorem dX12_would_43 : decode cX12_would 43 = .ok (.ldc2_w 235, 3) := by decide +kernel
theorem dX12_would_46 : decode cX12_would 46 = .ok (.goto 6, 3) := by decide +kernel
theorem dX12_would_49 : decode cX12_would 49 = .ok (.ldc2_w 233, 3) := by decide +kernel
theorem dX12_would_52 : decode cX12_would 52 = .ok (.invokestatic 118, 3) := by decide +kernel
theorem dX12_would_55 : decode cX12_would 55 = .ok (.ifCond .ne 5, 3) := by decide +kernel
theorem dX12_would_58 : decode cX12_would 58 = .ok (.iconst (-1), 1) := by decide +kernel
theorem dX12_would_59 : decode cX12_would 59 = .ok (.ireturn, 1) := by decide +kernel
theorem dX12_would_60 : decode cX12_would 60 = .ok (.aload_n 0, 1) := by decide +kernel
theorem dX12_would_61 : decode cX12_would 61 = .ok (.lconst 0, 1) := by decide +kernel
theorem dX12_would_62 : decode cX12_would 62 = .ok (.putfield 185, 3) := by decide +kernel
theorem dX12_would_65 : decode cX12_would 65 = .ok (.aload_n 0, 1) := by decide +kernel
theorem dX12_would_66 : decode cX12_would 66 = .ok (.iload_n 3, 1) := by decide +kernel
theorem dX12_would_67 : decode cX12_would 67 = .ok (.bipush 8, 2) := by decide +kernel
theorem dX12_would_69 : decode cX12_would 69 = .ok (.if_icmp .ge 7, 3) := by decide +kernel
theorem dX12_would_72 : decode cX12_would 72 = .ok (.iload_n 3, 1) := by decide +kernel
theorem dX12_would_73 : decode cX12_would 73 = .ok (.goto 16, 3) := by decide +kernel
theorem dX12_would_76 : decode cX12_would 76 = .ok (.iload_n 3, 1) := by decide +kernel
theorem dX12_would_77 : decode cX12_would 77 = .ok (.bipush 8, 2) := by decide +kernel
theorem dX12_would_79 : decode cX12_would 79 = .ok (.if_icmp .ne 8, 3) := by decide +kernel
theorem dX12_would_82 : decode cX12_would 82 = .ok (.bipush 10, 2) := by decide +kernel
theorem dX12_would_84 : decode cX12_would 84 = .ok (.goto 5, 3) := by decide +kernel
theorem dX12_would_87 : decode cX12_would 87 = .ok (.bipush 9, 2) := by decide +kernel
theorem dX12_would_89 : decode cX12_would 89 = .ok (.putfield 182, 3) := by decide +kernel
theorem dX12_would_92 : decode cX12_would 92 = .ok (.iload_n 2, 1) := by decide +kernel
theorem dX12_would_93 : decode cX12_would 93 = .ok (.ifCond .ne 15, 3) := by decide +kernel
theorem dX12_would_96 : decode cX12_would 96 = .ok (.aload_n 0, 1) := by decide +kernel
theorem dX12_would_97 : decode cX12_would 97 = .ok (.iload_n 1, 1) := by decide +kernel
theorem dX12_would_98 : decode cX12_would 98 = .ok (.iload_n 3, 1) := by decide +kernel
theorem dX12_would_99 : decode cX12_would 99 = .ok (.sipush (-1000), 3) := by decide +kernel
theorem dX12_would_102 : decode cX12_would 102 = .ok (.invokevirtual 212, 3) := by decide +kernel
theorem dX12_would_105 : decode cX12_would 105 = .ok (.goto 22, 3) := by decide +kernel
theorem dX12_would_108 : decode cX12_would 108 = .ok (.aload_n 0, 1) := by decide +kernel
theorem dX12_would_109 : decode cX12_would 109 = .ok (.iload_n 1, 1) := by decide +kernel
theorem dX12_would_110 : decode cX12_would 110 = .ok (.iload_n 2, 1) := by decide +kernel
theorem dX12_would_111 : decode cX12_would 111 = .ok (.iconst 1, 1) := by decide +kernel
theorem dX12_would_112 : decode cX12_would 112 = .ok (.if_icmp .ne 7, 3) := by decide +kernel
theorem dX12_would_115 : decode cX12_would 115 = .ok (.iload_n 3, 1) := by decide +kernel
theorem dX12_would_116 : decode cX12_would 116 = .ok (.goto 5, 3) := by decide +kernel
theorem dX12_would_119 : decode cX12_would 119 = .ok (.bipush 8, 2) := by decide +kernel
theorem dX12_would_121 : decode cX12_would 121 = .ok (.sipush (-1000), 3) := by decide +kernel
theorem dX12_would_124 : decode cX12_would 124 = .ok (.invokevirtual 219, 3) := by decide +kernel
theorem dX12_would_127 : decode cX12_would 127 = .ok (.ireturn, 1) := by decide +kernel
