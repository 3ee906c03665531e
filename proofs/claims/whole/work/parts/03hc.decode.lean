theorem dX11_view_0 : decode cX11_view 0 = .ok (.iload_n 1, 1) := by decide +kernel
theorem dX11_view_1 : decode cX11_view 1 = .ok (.bipush 10, 2) := by decide +kernel
theorem dX11_view_3 : decode cX11_view 3 = .ok (.if_icmp .ge 14, 3) := by decide +kernel
theorem dX11_view_6 : decode cX11_view 6 = .ok (.aload_n 0, 1) := by decide +kernel
theorem dX11_view_7 : decode cX11_view 7 = .ok (.getfield 12, 3) := by decide +kernel
theorem dX11_view_10 : decode cX11_view 10 = .ok (.iload_n 1, 1) := by decide +kernel
theorem dX11_view_11 : decode cX11_view 11 = .ok (.invokevirtual 112, 3) := by decide +kernel
theorem dX11_view_14 : decode cX11_view 14 = .ok (.goto 14, 3) := by decide +kernel
theorem dX11_view_17 : decode cX11_view 17 = .ok (.aload_n 0, 1) := by decide +kernel
theorem dX11_view_18 : decode cX11_view 18 = .ok (.getfield 21, 3) := by decide +kernel
theorem dX11_view_21 : decode cX11_view 21 = .ok (.iload_n 1, 1) := by decide +kernel
theorem dX11_view_22 : decode cX11_view 22 = .ok (.bipush 10, 2) := by decide +kernel
theorem dX11_view_24 : decode cX11_view 24 = .ok (.isub, 1) := by decide +kernel
theorem dX11_view_25 : decode cX11_view 25 = .ok (.invokevirtual 116, 3) := by decide +kernel
theorem dX11_view_28 : decode cX11_view 28 = .ok (.istore 6, 2) := by decide +kernel
theorem dX11_view_30 : decode cX11_view 30 = .ok (.iload 6, 2) := by decide +kernel
theorem dX11_view_32 : decode cX11_view 32 = .ok (.ifCond .eq 46, 3) := by decide +kernel
theorem dX11_view_35 : decode cX11_view 35 = .ok (.iload_n 2, 1) := by decide +kernel
theorem dX11_view_36 : decode cX11_view 36 = .ok (.bipush (-20), 2) := by decide +kernel
theorem dX11_view_38 : decode cX11_view 38 = .ok (.bipush 20, 2) := by decide +kernel
theorem dX11_view_40 : decode cX11_view 40 = .ok (.invokestatic 100, 3) := by decide +kernel
theorem dX11_view_43 : decode cX11_view 43 = .ok (.ifCond .eq 35, 3) := by decide +kernel
theorem dX11_view_46 : decode cX11_view 46 = .ok (.iload_n 3, 1) := by decide +kernel
theorem dX11_view_47 : decode cX11_view 47 = .ok (.bipush (-3), 2) := by decide +kernel
theorem dX11_view_49 : decode cX11_view 49 = .ok (.iconst 3, 1) := by decide +kernel
theorem dX11_view_50 : decode cX11_view 50 = .ok (.invokestatic 100, 3) := by decide +kernel
theorem dX11_view_53 : decode cX11_view 53 = .ok (.ifCond .eq 25, 3) := by decide +kernel
theorem dX11_view_56 : decode cX11_view 56 = .ok (.iload 4, 2) := by decide +kernel
theorem dX11_view_58 : decode cX11_view 58 = .ok (.iconst 1, 1) := by decide +kernel
theorem dX11_view_59 : decode cX11_view 59 = .ok (.bipush 12, 2) := by decide +kernel
theorem dX11_view_61 : decode cX11_view 61 = .ok (.invokestatic 100, 3) := by decide +kernel
theorem dX11_view_64 : decode cX11_view 64 = .ok (.ifCond .eq 14, 3) := by decide +kernel
theorem dX11_view_67 : decode cX11_view 67 = .ok (.iload 5, 2) := by decide +kernel
theorem dX11_view_69 : decode cX11_view 69 = .ok (.iconst 0, 1) := by decide +kernel
theorem dX11_view_70 : decode cX11_view 70 = .ok (.bipush 8, 2) := by decide +kernel
theorem dX11_view_72 : decode cX11_view 72 = .ok (.invokestatic 100, 3) := by decide +kernel
theorem dX11_view_75 : decode cX11_view 75 = .ok (.ifCond .ne 5, 3) := by decide +kernel
theorem dX11_view_78 : decode cX11_view 78 = .ok (.iconst (-1), 1) := by decide +kernel
theorem dX11_view_79 : decode cX11_view 79 = .ok (.ireturn, 1) := by decide +kernel
theorem dX11_view_80 : decode cX11_view 80 = .ok (.aload_n 0, 1) := by decide +kernel
theorem dX11_view_81 : decode cX11_view 81 = .ok (.getfield 21, 3) := by decide +kernel
theorem dX11_view_84 : decode cX11_view 84 = .ok (.getfield 119, 3) := by decide +kernel
theorem dX11_view_87 : decode cX11_view 87 = .ok (.bipush 8, 2) := by decide +kernel
theorem dX11_view_89 : decode cX11_view 89 = .ok (.if_icmp .eq 15, 3) := by decide +kernel
theorem dX11_view_92 : decode cX11_view 92 = .ok (.aload_n 0, 1) := by decide +kernel
theorem dX11_view_93 : decode cX11_view 93 = .ok (.getfield 21, 3) := by decide +kernel
theorem dX11_view_96 : decode cX11_view 96 = .ok (.iload_n 1, 1) := by decide +kernel
theorem dX11_view_97 : decode cX11_view 97 = .ok (.invokevirtual 122, 3) := by decide +kernel
theorem dX11_view_100 : decode cX11_view 100 = .ok (.iconst 4, 1) := by decide +kernel
theorem dX11_view_101 : decode cX11_view 101 = .ok (.if_icmp .le 6, 3) := by decide +kernel
theorem dX11_view_104 : decode cX11_view 104 = .ok (.bipush (-3), 2) := by decide +kernel
theorem dX11_view_106 : decode cX11_view 106 = .ok (.ireturn, 1) := by decide +kernel
theorem dX11_view_107 : decode cX11_view 107 = .ok (.aload_n 0, 1) := by decide +kernel
theorem dX11_view_108 : decode cX11_view 108 = .ok (.getfield 21, 3) := by decide +kernel
theorem dX11_view_111 : decode cX11_view 111 = .ok (.iload_n 1, 1) := by decide +kernel
theorem dX11_view_112 : decode cX11_view 112 = .ok (.iload_n 2, 1) := by decide +kernel
theorem dX11_view_113 : decode cX11_view 113 = .ok (.iload_n 3, 1) := by decide +kernel
theorem dX11_view_114 : decode cX11_view 114 = .ok (.iload 4, 2) := by decide +kernel
theorem dX11_view_116 : decode cX11_view 116 = .ok (.iload 5, 2) := by decide +kernel
theorem dX11_view_118 : decode cX11_view 118 = .ok (.invokevirtual 126, 3) := by decide +kernel
theorem dX11_view_121 : decode cX11_view 121 = .ok (.ireturn, 1) := by decide +kernel
theorem dX11_clear_0 : decode cX11_clear 0 = .ok (.aload_n 0, 1) := by decide +kernel
theorem dX11_clear_1 : decode cX11_clear 1 = .ok (.getfield 12, 3) := by decide +kernel
theorem dX11_clear_4 : decode cX11_clear 4 = .ok (.getfield 104, 3) := by decide +kernel
theorem dX11_clear_7 : decode cX11_clear 7 = .ok (.istore_n 1, 1) := by decide +kernel
theorem dX11_clear_8 : decode cX11_clear 8 = .ok (.aload_n 0, 1) := by decide +kernel
theorem dX11_clear_9 : decode cX11_clear 9 = .ok (.getfield 12, 3) := by decide +kernel
theorem dX11_clear_12 : decode cX11_clear 12 = .ok (.iconst 0, 1) := by decide +kernel
theorem dX11_clear_13 : decode cX11_clear 13 = .ok (.putfield 104, 3) := by decide +kernel
theorem dX11_clear_16 : decode cX11_clear 16 = .ok (.aload_n 0, 1) := by decide +kernel
theorem dX11_clear_17 : decode cX11_clear 17 = .ok (.getfield 21, 3) := by decide +kernel
theorem dX11_clear_20 : decode cX11_clear 20 = .ok (.iconst 0, 1) := by decide +kernel
theorem dX11_clear_21 : decode cX11_clear 21 = .ok (.putfield 119, 3) := by decide +kernel
theorem dX11_clear_24 : decode cX11_clear 24 = .ok (.aload_n 0, 1) := by decide +kernel
theorem dX11_clear_25 : decode cX11_clear 25 = .ok (.getfield 37, 3) := by decide +kernel
theorem dX11_clear_28 : decode cX11_clear 28 = .ok (.invokevirtual 130, 3) := by decide +kernel
theorem dX11_clear_31 : decode cX11_clear 31 = .ok (.aload_n 0, 1) := by decide +kernel
theorem dX11_clear_32 : decode cX11_clear 32 = .ok (.getfield 62, 3) := by decide +kernel
theorem dX11_clear_35 : decode cX11_clear 35 = .ok (.invokevirtual 133, 3) := by decide +kernel
theorem dX11_clear_38 : decode cX11_clear 38 = .ok (.iconst 0, 1) := by decide +kernel
theorem dX11_clear_39 : decode cX11_clear 39 = .ok (.istore_n 2, 1) := by decide +kernel
theorem dX11_clear_40 : decode cX11_clear 40 = .ok (.iload_n 2, 1) := by decide +kernel
theorem dX11_clear_41 : decode cX11_clear 41 = .ok (.iconst 2, 1) := by decide +kernel
theorem dX11_clear_42 : decode cX11_clear 42 = .ok (.if_icmp .ge 18, 3) := by decide +kernel
theorem dX11_clear_45 : decode cX11_clear 45 = .ok (.aload_n 0, 1) := by decide +kernel
theorem dX11_clear_46 : decode cX11_clear 46 = .ok (.getfield 68, 3) := by decide +kernel
theorem dX11_clear_49 : decode cX11_clear 49 = .ok (.iload_n 2, 1) := by decide +kernel
theorem dX11_clear_50 : decode cX11_clear 50 = .ok (.aaload, 1) := by decide +kernel
theorem dX11_clear_51 : decode cX11_clear 51 = .ok (.invokevirtual 136, 3) := by decide +kernel
theorem dX11_clear_54 : decode cX11_clear 54 = .ok (.iinc 2 1, 3) := by decide +kernel
theorem dX11_clear_57 : decode cX11_clear 57 = .ok (.goto (-17), 3) := by decide +kernel
theorem dX11_clear_60 : decode cX11_clear 60 = .ok (.aload_n 0, 1) := by decide +kernel
theorem dX11_clear_61 : decode cX11_clear 61 = .ok (.getfield 76, 3) := by decide +kernel
theorem dX11_clear_64 : decode cX11_clear 64 = .ok (.invokevirtual 137, 3) := by decide +kernel
theorem dX11_clear_67 : decode cX11_clear 67 = .ok (.pop, 1) := by decide +kernel
theorem dX11_clear_68 : decode cX11_clear 68 = .ok (.aload_n 0, 1) := by decide +kernel
theorem dX11_clear_69 : decode cX11_clear 69 = .ok (.getfield 83, 3) := by decide +kernel
theorem dX11_clear_72 : decode cX11_clear 72 = .ok (.bipush 10, 2) := by decide +kernel
theorem dX11_clear_74 : decode cX11_clear 74 = .ok (.lconst 0, 1) := by decide +kernel
theorem dX11_clear_75 : decode cX11_clear 75 = .ok (.invokevirtual 140, 3) := by decide +kernel
theorem dX11_clear_78 : decode cX11_clear 78 = .ok (.iconst 0, 1) := by decide +kernel
theorem dX11_clear_79 : decode cX11_clear 79 = .ok (.istore_n 2, 1) := by decide +kernel
theorem dX11_clear_80 : decode cX11_clear 80 = .ok (.iload_n 2, 1) := by decide +kernel
theorem dX11_clear_81 : decode cX11_clear 81 = .ok (.bipush 7, 2) := by decide +kernel
theorem dX11_clear_83 : decode cX11_clear 83 = .ok (.if_icmp .ge 23, 3) := by decide +kernel
theorem dX11_clear_86 : decode cX11_clear 86 = .ok (.aload_n 0, 1) := by decide +kernel
theorem dX11_clear_87 : decode cX11_clear 87 = .ok (.getfield 90, 3) := by decide +kernel
theorem dX11_clear_90 : decode cX11_clear 90 = .ok (.iload_n 2, 1) := by decide +kernel
theorem dX11_clear_91 : decode cX11_clear 91 = .ok (.iconst 0, 1) := by decide +kernel
theorem dX11_clear_92 : decode cX11_clear 92 = .ok (.iastore, 1) := by decide +kernel
theorem dX11_clear_93 : decode cX11_clear 93 = .ok (.aload_n 0, 1) := by decide +kernel
theorem dX11_clear_94 : decode cX11_clear 94 = .ok (.getfield 94, 3) := by decide +kernel
theorem dX11_clear_97 : decode cX11_clear 97 = .ok (.iload_n 2, 1) := by decide +kernel
theorem dX11_clear_98 : decode cX11_clear 98 = .ok (.iconst 0, 1) := by decide +kernel
theorem dX11_clear_99 : decode cX11_clear 99 = .ok (.iastore, 1) := by decide +kernel
theorem dX11_clear_100 : decode cX11_clear 100 = .ok (.iinc 2 1, 3) := by decide +kernel
theorem dX11_clear_103 : decode cX11_clear 103 = .ok (.goto (-23), 3) := by decide +kernel
theorem dX11_clear_106 : decode cX11_clear 106 = .ok (.iload_n 1, 1) := by decide +kernel
theorem dX11_clear_107 : decode cX11_clear 107 = .ok (.ireturn, 1) := by decide +kernel
theorem dX11_reads_0 : decode cX11_reads 0 = .ok (.aload_n 0, 1) := by decide +kernel
theorem dX11_reads_1 : decode cX11_reads 1 = .ok (.getfield 21, 3) := by decide +kernel
theorem dX11_reads_4 : decode cX11_reads 4 = .ok (.iload_n 1, 1) := by decide +kernel
theorem dX11_reads_5 : decode cX11_reads 5 = .ok (.invokevirtual 116, 3) := by decide +kernel
theorem dX11_reads_8 : decode cX11_reads 8 = .ok (.ifCond .eq 10, 3) := by decide +kernel
theorem dX11_reads_11 : decode cX11_reads 11 = .ok (.iload_n 2, 1) := by decide +kernel
theorem dX11_reads_12 : decode cX11_reads 12 = .ok (.invokestatic 144, 3) := by decide +kernel
theorem dX11_reads_15 : decode cX11_reads 15 = .ok (.ifCond .ne 5, 3) := by decide +kernel
theorem dX11_reads_18 : decode cX11_reads 18 = .ok (.iconst (-1), 1) := by decide +kernel
theorem dX11_reads_19 : decode cX11_reads 19 = .ok (.ireturn, 1) := by decide +kernel
theorem dX11_reads_20 : decode cX11_reads 20 = .ok (.aload_n 0, 1) := by decide +kernel
theorem dX11_reads_21 : decode cX11_reads 21 = .ok (.getfield 30, 3) := by decide +kernel
theorem dX11_reads_24 : decode cX11_reads 24 = .ok (.iload_n 1, 1) := by decide +kernel
theorem dX11_reads_25 : decode cX11_reads 25 = .ok (.iload_n 2, 1) := by decide +kernel
theorem dX11_reads_26 : decode cX11_reads 26 = .ok (.aload_n 0, 1) := by decide +kernel
theorem dX11_reads_27 : decode cX11_reads 27 = .ok (.getfield 87, 3) := by decide +kernel
theorem dX11_reads_30 : decode cX11_reads 30 = .ok (.invokevirtual 147, 3) := by decide +kernel
theorem dX11_reads_33 : decode cX11_reads 33 = .ok (.istore_n 3, 1) := by decide +kernel
theorem dX11_reads_34 : decode cX11_reads 34 = .ok (.iload_n 3, 1) := by decide +kernel
theorem dX11_reads_35 : decode cX11_reads 35 = .ok (.ifCond .ne 24, 3) := by decide +kernel
theorem dX11_reads_38 : decode cX11_reads 38 = .ok (.aload_n 0, 1) := by decide +kernel
theorem dX11_reads_39 : decode cX11_reads 39 = .ok (.getfield 83, 3) := by decide +kernel
theorem dX11_reads_42 : decode cX11_reads 42 = .ok (.aload_n 0, 1) := by decide +kernel
theorem dX11_reads_43 : decode cX11_reads 43 = .ok (.getfield 87, 3) := by decide +kernel
theorem dX11_reads_46 : decode cX11_reads 46 = .ok (.getfield 151, 3) := by decide +kernel
theorem dX11_reads_49 : decode cX11_reads 49 = .ok (.aload_n 0, 1) := by decide +kernel
theorem dX11_reads_50 : decode cX11_reads 50 = .ok (.getfield 87, 3) := by decide +kernel
theorem dX11_reads_53 : decode cX11_reads 53 = .ok (.getfield 154, 3) := by decide +kernel
theorem dX11_reads_56 : decode cX11_reads 56 = .ok (.invokevirtual 140, 3) := by decide +kernel
theorem dX11_reads_59 : decode cX11_reads 59 = .ok (.iload_n 3, 1) := by decide +kernel
theorem dX11_reads_60 : decode cX11_reads 60 = .ok (.ireturn, 1) := by decide +kernel
theorem dX11_looks_0 : decode cX11_looks 0 = .ok (.aload_n 0, 1) := by decide +kernel
theorem dX11_looks_1 : decode cX11_looks 1 = .ok (.getfield 12, 3) := by decide +kernel
theorem dX11_looks_4 : decode cX11_looks 4 = .ok (.iload_n 1, 1) := by decide +kernel
theorem dX11_looks_5 : decode cX11_looks 5 = .ok (.invokevirtual 112, 3) := by decide +kernel
theorem dX11_looks_8 : decode cX11_looks 8 = .ok (.ifCond .eq 10, 3) := by decide +kernel
theorem dX11_looks_11 : decode cX11_looks 11 = .ok (.iload_n 2, 1) := by decide +kernel
theorem dX11_looks_12 : decode cX11_looks 12 = .ok (.invokestatic 144, 3) := by decide +kernel
theorem dX11_looks_15 : decode cX11_looks 15 = .ok (.ifCond .ne 5, 3) := by decide +kernel
theorem dX11_looks_18 : decode cX11_looks 18 = .ok (.iconst (-1), 1) := by decide +kernel
theorem dX11_looks_19 : decode cX11_looks 19 = .ok (.ireturn, 1) := by decide +kernel
theorem dX11_looks_20 : decode cX11_looks 20 = .ok (.aload_n 0, 1) := by decide +kernel
theorem dX11_looks_21 : decode cX11_looks 21 = .ok (.getfield 12, 3) := by decide +kernel
theorem dX11_looks_24 : decode cX11_looks 24 = .ok (.getfield 158, 3) := by decide +kernel
theorem dX11_looks_27 : decode cX11_looks 27 = .ok (.iload_n 1, 1) := by decide +kernel
theorem dX11_looks_28 : decode cX11_looks 28 = .ok (.iaload, 1) := by decide +kernel
theorem dX11_looks_29 : decode cX11_looks 29 = .ok (.bipush 11, 2) := by decide +kernel
theorem dX11_looks_31 : decode cX11_looks 31 = .ok (.if_icmp .ne 6, 3) := by decide +kernel
theorem dX11_looks_34 : decode cX11_looks 34 = .ok (.bipush (-5), 2) := by decide +kernel
theorem dX11_looks_36 : decode cX11_looks 36 = .ok (.ireturn, 1) := by decide +kernel
theorem dX11_looks_37 : decode cX11_looks 37 = .ok (.aload_n 0, 1) := by decide +kernel
theorem dX11_looks_38 : decode cX11_looks 38 = .ok (.getfield 12, 3) := by decide +kernel
theorem dX11_looks_41 : decode cX11_looks 41 = .ok (.getfield 158, 3) := by decide +kernel
theorem dX11_looks_44 : decode cX11_looks 44 = .ok (.iload_n 1, 1) := by decide +kernel
theorem dX11_looks_45 : decode cX11_looks 45 = .ok (.iaload, 1) := by decide +kernel
theorem dX11_looks_46 : decode cX11_looks 46 = .ok (.bipush 12, 2) := by decide +kernel
theorem dX11_looks_48 : decode cX11_looks 48 = .ok (.if_icmp .ne 6, 3) := by decide +kernel
theorem dX11_looks_51 : decode cX11_looks 51 = .ok (.bipush (-6), 2) := by decide +kernel
theorem dX11_looks_53 : decode cX11_looks 53 = .ok (.ireturn, 1) := by decide +kernel
theorem dX11_looks_54 : decode cX11_looks 54 = .ok (.aload_n 0, 1) := by decide +kernel
theorem dX11_looks_55 : decode cX11_looks 55 = .ok (.getfield 12, 3) := by decide +kernel
theorem dX11_looks_58 : decode cX11_looks 58 = .ok (.iload_n 1, 1) := by decide +kernel
theorem dX11_looks_59 : decode cX11_looks 59 = .ok (.iload_n 2, 1) := by decide +kernel
theorem dX11_looks_60 : decode cX11_looks 60 = .ok (.invokevirtual 161, 3) := by decide +kernel
theorem dX11_looks_63 : decode cX11_looks 63 = .ok (.ifCond .ne 6, 3) := by decide +kernel
theorem dX11_looks_66 : decode cX11_looks 66 = .ok (.bipush (-8), 2) := by decide +kernel
theorem dX11_looks_68 : decode cX11_looks 68 = .ok (.ireturn, 1) := by decide +kernel
theorem dX11_looks_69 : decode cX11_looks 69 = .ok (.aload_n 0, 1) := by decide +kernel
theorem dX11_looks_70 : decode cX11_looks 70 = .ok (.getfield 12, 3) := by decide +kernel
theorem dX11_looks_73 : decode cX11_looks 73 = .ok (.iload_n 1, 1) := by decide +kernel
theorem dX11_looks_74 : decode cX11_looks 74 = .ok (.iload_n 2, 1) := by decide +kernel
theorem dX11_looks_75 : decode cX11_looks 75 = .ok (.aload_n 0, 1) := by decide +kernel
theorem dX11_looks_76 : decode cX11_looks 76 = .ok (.getfield 83, 3) := by decide +kernel
theorem dX11_looks_79 : decode cX11_looks 79 = .ok (.invokevirtual 165, 3) := by decide +kernel
theorem dX11_looks_82 : decode cX11_looks 82 = .ok (.iconst 0, 1) := by decide +kernel
theorem dX11_looks_83 : decode cX11_looks 83 = .ok (.ireturn, 1) := by decide +kernel
theorem dX11_number_0 : decode cX11_number 0 = .ok (.aload_n 0, 1) := by decide +kernel
theorem dX11_number_1 : decode cX11_number 1 = .ok (.getfield 83, 3) := by decide +kernel
theorem dX11_number_4 : decode cX11_number 4 = .ok (.getfield 154, 3) := by decide +kernel
theorem dX11_number_7 : decode cX11_number 7 = .ok (.lreturn, 1) := by decide +kernel
theorem dX11_kind_0 : decode cX11_kind 0 = .ok (.aload_n 0, 1) := by decide +kernel
theorem dX11_kind_1 : decode cX11_kind 1 = .ok (.getfield 83, 3) := by decide +kernel
theorem dX11_kind_4 : decode cX11_kind 4 = .ok (.getfield 151, 3) := by decide +kernel
theorem dX11_kind_7 : decode cX11_kind 7 = .ok (.bipush 10, 2) := by decide +kernel
theorem dX11_kind_9 : decode cX11_kind 9 = .ok (.if_icmp .ne 8, 3) := by decide +kernel
theorem dX11_kind_12 : decode cX11_kind 12 = .ok (.bipush (-20), 2) := by decide +kernel
theorem dX11_kind_14 : decode cX11_kind 14 = .ok (.goto 10, 3) := by decide +kernel
theorem dX11_kind_17 : decode cX11_kind 17 = .ok (.aload_n 0, 1) := by decide +kernel
theorem dX11_kind_18 : decode cX11_kind 18 = .ok (.getfield 83, 3) := by decide +kernel
theorem dX11_kind_21 : decode cX11_kind 21 = .ok (.getfield 151, 3) := by decide +kernel
theorem dX11_kind_24 : decode cX11_kind 24 = .ok (.ireturn, 1) := by decide +kernel
theorem dX11_writes_0 : decode cX11_writes 0 = .ok (.aload_n 0, 1) := by decide +kernel
theorem dX11_writes_1 : decode cX11_writes 1 = .ok (.getfield 21, 3) := by decide +kernel
theorem dX11_writes_4 : decode cX11_writes 4 = .ok (.iload_n 1, 1) := by decide +kernel
theorem dX11_writes_5 : decode cX11_writes 5 = .ok (.invokevirtual 116, 3) := by decide +kernel
theorem dX11_writes_8 : decode cX11_writes 8 = .ok (.ifCond .eq 29, 3) := by decide +kernel
theorem dX11_writes_11 : decode cX11_writes 11 = .ok (.iload_n 2, 1) := by decide +kernel
theorem dX11_writes_12 : decode cX11_writes 12 = .ok (.invokestatic 144, 3) := by decide +kernel
theorem dX11_writes_15 : decode cX11_writes 15 = .ok (.ifCond .eq 22, 3) := by decide +kernel
theorem dX11_writes_18 : decode cX11_writes 18 = .ok (.iload 4, 2) := by decide +kernel
theorem dX11_writes_20 : decode cX11_writes 20 = .ok (.iconst 0, 1) := by decide +kernel
theorem dX11_writes_21 : decode cX11_writes 21 = .ok (.iconst 1, 1) := by decide +kernel
theorem dX11_writes_22 : decode cX11_writes 22 = .ok (.invokestatic 100, 3) := by decide +kernel
theorem dX11_writes_25 : decode cX11_writes 25 = .ok (.ifCond .eq 12, 3) := by decide +kernel
theorem dX11_writes_28 : decode cX11_writes 28 = .ok (.iload_n 3, 1) := by decide +kernel
theorem dX11_writes_29 : decode cX11_writes 29 = .ok (.lload 5, 2) := by decide +kernel
theorem dX11_writes_31 : decode cX11_writes 31 = .ok (.invokestatic 169, 3) := by decide +kernel
theorem dX11_writes_34 : decode cX11_writes 34 = .ok (.ifCond .ne 5, 3) := by decide +kernel
theorem dX11_writes_37 : decode cX11_writes 37 = .ok (.iconst (-1), 1) := by decide +kernel
theorem dX11_writes_38 : decode cX11_writes 38 = .ok (.ireturn, 1) := by decide +kernel
theorem dX11_writes_39 : decode cX11_writes 39 = .ok (.iload 4, 2) := by decide +kernel
theorem dX11_writes_41 : decode cX11_writes 41 = .ok (.ifCond .ne 11, 3) := by decide +kernel
theorem dX11_writes_44 : decode cX11_writes 44 = .ok (.iload_n 3, 1) := by decide +kernel
theorem dX11_writes_45 : decode cX11_writes 45 = .ok (.bipush 7, 2) := by decide +kernel
theorem dX11_writes_47 : decode cX11_writes 47 = .ok (.if_icmp .le 5, 3) := by decide +kernel
theorem dX11_writes_50 : decode cX11_writes 50 = .ok (.iconst (-1), 1) := by decide +kernel
theorem dX11_writes_51 : decode cX11_writes 51 = .ok (.ireturn, 1) := by decide +kernel
theorem dX11_writes_52 : decode cX11_writes 52 = .ok (.aload_n 0, 1) := by decide +kernel
theorem dX11_writes_53 : decode cX11_writes 53 = .ok (.getfield 87, 3) := by decide +kernel
theorem dX11_writes_56 : decode cX11_writes 56 = .ok (.iload_n 3, 1) := by decide +kernel
theorem dX11_writes_57 : decode cX11_writes 57 = .ok (.iload_n 3, 1) := by decide +kernel
theorem dX11_writes_58 : decode cX11_writes 58 = .ok (.bipush 10, 2) := by decide +kernel
theorem dX11_writes_60 : decode cX11_writes 60 = .ok (.if_icmp .ne 7, 3) := by decide +kernel
theorem dX11_writes_63 : decode cX11_writes 63 = .ok (.lconst 0, 1) := by decide +kernel
theorem dX11_writes_64 : decode cX11_writes 64 = .ok (.goto 5, 3) := by decide +kernel
theorem dX11_writes_67 : decode cX11_writes 67 = .ok (.lload 5, 2) := by decide +kernel
theorem dX11_writes_69 : decode cX11_writes 69 = .ok (.invokevirtual 140, 3) := by decide +kernel
theorem dX11_writes_72 : decode cX11_writes 72 = .ok (.aload_n 0, 1) := by decide +kernel
theorem dX11_writes_73 : decode cX11_writes 73 = .ok (.getfield 62, 3) := by decide +kernel
theorem dX11_writes_76 : decode cX11_writes 76 = .ok (.aload_n 0, 1) := by decide +kernel
theorem dX11_writes_77 : decode cX11_writes 77 = .ok (.getfield 12, 3) := by decide +kernel
theorem dX11_writes_80 : decode cX11_writes 80 = .ok (.invokevirtual 175, 3) := by decide +kernel
theorem dX11_writes_83 : decode cX11_writes 83 = .ok (.aload_n 0, 1) := by decide +kernel
theorem dX11_writes_84 : decode cX11_writes 84 = .ok (.getfield 30, 3) := by decide +kernel
theorem dX11_writes_87 : decode cX11_writes 87 = .ok (.iload_n 1, 1) := by decide +kernel
theorem dX11_writes_88 : decode cX11_writes 88 = .ok (.iload_n 2, 1) := by decide +kernel
theorem dX11_writes_89 : decode cX11_writes 89 = .ok (.aload_n 0, 1) := by decide +kernel
theorem dX11_writes_90 : decode cX11_writes 90 = .ok (.getfield 87, 3) := by decide +kernel
theorem dX11_writes_93 : decode cX11_writes 93 = .ok (.iload 4, 2) := by decide +kernel
theorem dX11_writes_95 : decode cX11_writes 95 = .ok (.ifCond .ne 7, 3) := by decide +kernel
theorem dX11_writes_98 : decode cX11_writes 98 = .ok (.iload_n 3, 1) := by decide +kernel
theorem dX11_writes_99 : decode cX11_writes 99 = .ok (.goto 5, 3) := by decide +kernel
theorem dX11_writes_102 : decode cX11_writes 102 = .ok (.bipush 8, 2) := by decide +kernel
theorem dX11_writes_104 : decode cX11_writes 104 = .ok (.invokevirtual 178, 3) := by decide +kernel
theorem dX11_writes_107 : decode cX11_writes 107 = .ok (.istore 7, 2) := by decide +kernel
theorem dX11_writes_109 : decode cX11_writes 109 = .ok (.iload 7, 2) := by decide +kernel
theorem dX11_writes_111 : decode cX11_writes 111 = .ok (.ifCond .ne 10, 3) := by decide +kernel
theorem dX11_writes_114 : decode cX11_writes 114 = .ok (.aload_n 0, 1) := by decide +kernel
theorem dX11_writes_115 : decode cX11_writes 115 = .ok (.getfield 62, 3) := by decide +kernel
theorem dX11_writes_118 : decode cX11_writes 118 = .ok (.invokevirtual 182, 3) := by decide +kernel
theorem dX11_writes_121 : decode cX11_writes 121 = .ok (.iload 7, 2) := by decide +kernel
theorem dX11_writes_123 : decode cX11_writes 123 = .ok (.ireturn, 1) := by decide +kernel
theorem dX11_does_0 : decode cX11_does 0 = .ok (.iload_n 1, 1) := by decide +kernel
theorem dX11_does_1 : decode cX11_does 1 = .ok (.iconst 0, 1) := by decide +kernel
theorem dX11_does_2 : decode cX11_does 2 = .ok (.iconst 4, 1) := by decide +kernel
theorem dX11_does_3 : decode cX11_does 3 = .ok (.invokestatic 100, 3) := by decide +kernel
theorem dX11_does_6 : decode cX11_does 6 = .ok (.ifCond .eq 41, 3) := by decide +kernel
theorem dX11_does_9 : decode cX11_does 9 = .ok (.aload_n 0, 1) := by decide +kernel
theorem dX11_does_10 : decode cX11_does 10 = .ok (.getfield 21, 3) := by decide +kernel
theorem dX11_does_13 : decode cX11_does 13 = .ok (.iload_n 2, 1) := by decide +kernel
theorem dX11_does_14 : decode cX11_does 14 = .ok (.invokevirtual 116, 3) := by decide +kernel
theorem dX11_does_17 : decode cX11_does 17 = .ok (.ifCond .eq 30, 3) := by decide +kernel
theorem dX11_does_20 : decode cX11_does 20 = .ok (.iload_n 3, 1) := by decide +kernel
theorem dX11_does_21 : decode cX11_does 21 = .ok (.invokestatic 144, 3) := by decide +kernel
theorem dX11_does_24 : decode cX11_does 24 = .ok (.ifCond .eq 23, 3) := by decide +kernel
theorem dX11_does_27 : decode cX11_does 27 = .ok (.aload_n 0, 1) := by decide +kernel
theorem dX11_does_28 : decode cX11_does 28 = .ok (.getfield 21, 3) := by decide +kernel
theorem dX11_does_31 : decode cX11_does 31 = .ok (.iload 4, 2) := by decide +kernel
theorem dX11_does_33 : decode cX11_does 33 = .ok (.invokevirtual 116, 3) := by decide +kernel
theorem dX11_does_36 : decode cX11_does 36 = .ok (.ifCond .eq 11, 3) := by decide +kernel
theorem dX11_does_39 : decode cX11_does 39 = .ok (.iload 5, 2) := by decide +kernel
theorem dX11_does_41 : decode cX11_does 41 = .ok (.invokestatic 144, 3) := by decide +kernel
theorem dX11_does_44 : decode cX11_does 44 = .ok (.ifCond .ne 5, 3) := by decide +kernel
theorem dX11_does_47 : decode cX11_does 47 = .ok (.iconst (-1), 1) := by decide +kernel
theorem dX11_does_48 : decode cX11_does 48 = .ok (.ireturn, 1) := by decide +kernel
theorem dX11_does_49 : decode cX11_does 49 = .ok (.aload_n 0, 1) := by decide +kernel
theorem dX11_does_50 : decode cX11_does 50 = .ok (.getfield 62, 3) := by decide +kernel
theorem dX11_does_53 : decode cX11_does 53 = .ok (.aload_n 0, 1) := by decide +kernel
theorem dX11_does_54 : decode cX11_does 54 = .ok (.getfield 12, 3) := by decide +kernel
theorem dX11_does_57 : decode cX11_does 57 = .ok (.invokevirtual 175, 3) := by decide +kernel
theorem dX11_does_60 : decode cX11_does 60 = .ok (.aload_n 0, 1) := by decide +kernel
theorem dX11_does_61 : decode cX11_does 61 = .ok (.getfield 30, 3) := by decide +kernel
theorem dX11_does_64 : decode cX11_does 64 = .ok (.iload_n 1, 1) := by decide +kernel
theorem dX11_does_65 : decode cX11_does 65 = .ok (.iload_n 2, 1) := by decide +kernel
theorem dX11_does_66 : decode cX11_does 66 = .ok (.iload_n 3, 1) := by decide +kernel
theorem dX11_does_67 : decode cX11_does 67 = .ok (.iload 4, 2) := by decide +kernel
theorem dX11_does_69 : decode cX11_does 69 = .ok (.iload 5, 2) := by decide +kernel
theorem dX11_does_71 : decode cX11_does 71 = .ok (.invokevirtual 185, 3) := by decide +kernel
theorem dX11_does_74 : decode cX11_does 74 = .ok (.istore 6, 2) := by decide +kernel
theorem dX11_does_76 : decode cX11_does 76 = .ok (.iload 6, 2) := by decide +kernel
theorem dX11_does_78 : decode cX11_does 78 = .ok (.ifCond .ne 10, 3) := by decide +kernel
theorem dX11_does_81 : decode cX11_does 81 = .ok (.aload_n 0, 1) := by decide +kernel
theorem dX11_does_82 : decode cX11_does 82 = .ok (.getfield 62, 3) := by decide +kernel
theorem dX11_does_85 : decode cX11_does 85 = .ok (.invokevirtual 182, 3) := by decide +kernel
theorem dX11_does_88 : decode cX11_does 88 = .ok (.iload 6, 2) := by decide +kernel
theorem dX11_does_90 : decode cX11_does 90 = .ok (.ireturn, 1) := by decide +kernel
theorem dX11_copies_0 : decode cX11_copies 0 = .ok (.aload_n 0, 1) := by decide +kernel
theorem dX11_copies_1 : decode cX11_copies 1 = .ok (.getfield 21, 3) := by decide +kernel
theorem dX11_copies_4 : decode cX11_copies 4 = .ok (.iload_n 1, 1) := by decide +kernel
theorem dX11_copies_5 : decode cX11_copies 5 = .ok (.invokevirtual 116, 3) := by decide +kernel
theorem dX11_copies_8 : decode cX11_copies 8 = .ok (.ifCond .eq 23, 3) := by decide +kernel
theorem dX11_copies_11 : decode cX11_copies 11 = .ok (.aload_n 0, 1) := by decide +kernel
theorem dX11_copies_12 : decode cX11_copies 12 = .ok (.getfield 21, 3) := by decide +kernel
theorem dX11_copies_15 : decode cX11_copies 15 = .ok (.iload_n 2, 1) := by decide +kernel
theorem dX11_copies_16 : decode cX11_copies 16 = .ok (.invokevirtual 116, 3) := by decide +kernel
theorem dX11_copies_19 : decode cX11_copies 19 = .ok (.ifCond .eq 12, 3) := by decide +kernel
theorem dX11_copies_22 : decode cX11_copies 22 = .ok (.iload_n 3, 1) := by decide +kernel
theorem dX11_copies_23 : decode cX11_copies 23 = .ok (.iconst 0, 1) := by decide +kernel
theorem dX11_copies_24 : decode cX11_copies 24 = .ok (.iconst 2, 1) := by decide +kernel
theorem dX11_copies_25 : decode cX11_copies 25 = .ok (.invokestatic 100, 3) := by decide +kernel
theorem dX11_copies_28 : decode cX11_copies 28 = .ok (.ifCond .ne 5, 3) := by decide +kernel
theorem dX11_copies_31 : decode cX11_copies 31 = .ok (.iconst (-1), 1) := by decide +kernel
theorem dX11_copies_32 : decode cX11_copies 32 = .ok (.ireturn, 1) := by decide +kernel
theorem dX11_copies_33 : decode cX11_copies 33 = .ok (.aload_n 0, 1) := by decide +kernel
theorem dX11_copies_34 : decode cX11_copies 34 = .ok (.getfield 62, 3) := by decide +kernel
theorem dX11_copies_37 : decode cX11_copies 37 = .ok (.aload_n 0, 1) := by decide +kernel
theorem dX11_copies_38 : decode cX11_copies 38 = .ok (.getfield 12, 3) := by decide +kernel
theorem dX11_copies_41 : decode cX11_copies 41 = .ok (.invokevirtual 175, 3) := by decide +kernel
theorem dX11_copies_44 : decode cX11_copies 44 = .ok (.iload_n 3, 1) := by decide +kernel
theorem dX11_copies_45 : decode cX11_copies 45 = .ok (.iconst 2, 1) := by decide +kernel
theorem dX11_copies_46 : decode cX11_copies 46 = .ok (.if_icmp .ne 15, 3) := by decide +kernel
theorem dX11_copies_49 : decode cX11_copies 49 = .ok (.aload_n 0, 1) := by decide +kernel
theorem dX11_copies_50 : decode cX11_copies 50 = .ok (.getfield 30, 3) := by decide +kernel
theorem dX11_copies_53 : decode cX11_copies 53 = .ok (.iload_n 1, 1) := by decide +kernel
theorem dX11_copies_54 : decode cX11_copies 54 = .ok (.iload_n 2, 1) := by decide +kernel
theorem dX11_copies_55 : decode cX11_copies 55 = .ok (.invokevirtual 188, 3) := by decide +kernel
theorem dX11_copies_58 : decode cX11_copies 58 = .ok (.goto 22, 3) := by decide +kernel
theorem dX11_copies_61 : decode cX11_copies 61 = .ok (.aload_n 0, 1) := by decide +kernel
theorem dX11_copies_62 : decode cX11_copies 62 = .ok (.getfield 30, 3) := by decide +kernel
theorem dX11_copies_65 : decode cX11_copies 65 = .ok (.iload_n 1, 1) := by decide +kernel
theorem dX11_copies_66 : decode cX11_copies 66 = .ok (.iload_n 2, 1) := by decide +kernel
theorem dX11_copies_67 : decode cX11_copies 67 = .ok (.iload_n 3, 1) := by decide +kernel
theorem dX11_copies_68 : decode cX11_copies 68 = .ok (.iconst 1, 1) := by decide +kernel
theorem dX11_copies_69 : decode cX11_copies 69 = .ok (.if_icmp .ne 7, 3) := by decide +kernel
theorem dX11_copies_72 : decode cX11_copies 72 = .ok (.iconst 1, 1) := by decide +kernel
theorem dX11_copies_73 : decode cX11_copies 73 = .ok (.goto 4, 3) := by decide +kernel
theorem dX11_copies_76 : decode cX11_copies 76 = .ok (.iconst 0, 1) := by decide +kernel
theorem dX11_copies_77 : decode cX11_copies 77 = .ok (.invokevirtual 191, 3) := by decide +kernel
theorem dX11_copies_80 : decode cX11_copies 80 = .ok (.istore 4, 2) := by decide +kernel
theorem dX11_copies_82 : decode cX11_copies 82 = .ok (.aload_n 0, 1) := by decide +kernel
theorem dX11_copies_83 : decode cX11_copies 83 = .ok (.getfield 62, 3) := by decide +kernel
theorem dX11_copies_86 : decode cX11_copies 86 = .ok (.invokevirtual 182, 3) := by decide +kernel
theorem dX11_copies_89 : decode cX11_copies 89 = .ok (.iload 4, 2) := by decide +kernel
theorem dX11_copies_91 : decode cX11_copies 91 = .ok (.ireturn, 1) := by decide +kernel
theorem dX11_undo_0 : decode cX11_undo 0 = .ok (.aload_n 0, 1) := by decide +kernel
theorem dX11_undo_1 : decode cX11_undo 1 = .ok (.getfield 62, 3) := by decide +kernel
theorem dX11_undo_4 : decode cX11_undo 4 = .ok (.getfield 195, 3) := by decide +kernel
theorem dX11_undo_7 : decode cX11_undo 7 = .ok (.ifCond .ne 6, 3) := by decide +kernel
theorem dX11_undo_10 : decode cX11_undo 10 = .ok (.bipush (-2), 2) := by decide +kernel
theorem dX11_undo_12 : decode cX11_undo 12 = .ok (.ireturn, 1) := by decide +kernel
theorem dX11_undo_13 : decode cX11_undo 13 = .ok (.aload_n 0, 1) := by decide +kernel
theorem dX11_undo_14 : decode cX11_undo 14 = .ok (.getfield 62, 3) := by decide +kernel
theorem dX11_undo_17 : decode cX11_undo 17 = .ok (.aload_n 0, 1) := by decide +kernel
theorem dX11_undo_18 : decode cX11_undo 18 = .ok (.getfield 12, 3) := by decide +kernel
theorem dX11_undo_21 : decode cX11_undo 21 = .ok (.invokevirtual 198, 3) := by decide +kernel
theorem dX11_undo_24 : decode cX11_undo 24 = .ok (.aload_n 0, 1) := by decide +kernel
theorem dX11_undo_25 : decode cX11_undo 25 = .ok (.getfield 62, 3) := by decide +kernel
theorem dX11_undo_28 : decode cX11_undo 28 = .ok (.getfield 195, 3) := by decide +kernel
theorem dX11_undo_31 : decode cX11_undo 31 = .ok (.ireturn, 1) := by decide +kernel
theorem dX11_plans_0 : decode cX11_plans 0 = .ok (.aload_n 0, 1) := by decide +kernel
theorem dX11_plans_1 : decode cX11_plans 1 = .ok (.iload_n 1, 1) := by decide +kernel
theorem dX11_plans_2 : decode cX11_plans 2 = .ok (.iload_n 2, 1) := by decide +kernel
theorem dX11_plans_3 : decode cX11_plans 3 = .ok (.iload_n 3, 1) := by decide +kernel
theorem dX11_plans_4 : decode cX11_plans 4 = .ok (.iload 4, 2) := by decide +kernel
theorem dX11_plans_6 : decode cX11_plans 6 = .ok (.iload 5, 2) := by decide +kernel
theorem dX11_plans_8 : decode cX11_plans 8 = .ok (.invokevirtual 201, 3) := by decide +kernel
theorem dX11_plans_11 : decode cX11_plans 11 = .ok (.ifCond .ne 5, 3) := by decide +kernel
theorem dX11_plans_14 : decode cX11_plans 14 = .ok (.iconst (-1), 1) := by decide +kernel
theorem dX11_plans_15 : decode cX11_plans 15 = .ok (.ireturn, 1) := by decide +kernel
theorem dX11_plans_16 : decode cX11_plans 16 = .ok (.iload_n 1, 1) := by decide +kernel
theorem dX11_plans_17 : decode cX11_plans 17 = .ok (.bipush 6, 2) := by decide +kernel
theorem dX11_plans_19 : decode cX11_plans 19 = .ok (.if_icmp .ne 16, 3) := by decide +kernel
theorem dX11_plans_22 : decode cX11_plans 22 = .ok (.aload_n 0, 1) := by decide +kernel
theorem dX11_plans_23 : decode cX11_plans 23 = .ok (.getfield 37, 3) := by decide +kernel
theorem dX11_plans_26 : decode cX11_plans 26 = .ok (.getfield 205, 3) := by decide +kernel
theorem dX11_plans_29 : decode cX11_plans 29 = .ok (.ifCond .ne 6, 3) := by decide +kernel
theorem dX11_plans_32 : decode cX11_plans 32 = .ok (.bipush (-2), 2) := by decide +kernel
theorem dX11_plans_34 : decode cX11_plans 34 = .ok (.ireturn, 1) := by decide +kernel
theorem dX11_plans_35 : decode cX11_plans 35 = .ok (.aload_n 0, 1) := by decide +kernel
theorem dX11_plans_36 : decode cX11_plans 36 = .ok (.getfield 37, 3) := by decide +kernel
theorem dX11_plans_39 : decode cX11_plans 39 = .ok (.getfield 208, 3) := by decide +kernel
theorem dX11_plans_42 : decode cX11_plans 42 = .ok (.bipush 16, 2) := by decide +kernel
theorem dX11_plans_44 : decode cX11_plans 44 = .ok (.if_icmp .eq 19, 3) := by decide +kernel
theorem dX11_plans_47 : decode cX11_plans 47 = .ok (.iload_n 1, 1) := by decide +kernel
theorem dX11_plans_48 : decode cX11_plans 48 = .ok (.iconst 5, 1) := by decide +kernel
theorem dX11_plans_49 : decode cX11_plans 49 = .ok (.if_icmp .ne 17, 3) := by decide +kernel
theorem dX11_plans_52 : decode cX11_plans 52 = .ok (.aload_n 0, 1) := by decide +kernel
theorem dX11_plans_53 : decode cX11_plans 53 = .ok (.getfield 37, 3) := by decide +kernel
theorem dX11_plans_56 : decode cX11_plans 56 = .ok (.getfield 205, 3) := by decide +kernel
theorem dX11_plans_59 : decode cX11_plans 59 = .ok (.iconst 3, 1) := by decide +kernel
theorem dX11_plans_60 : decode cX11_plans 60 = .ok (.if_icmp .ne 6, 3) := by decide +kernel
theorem dX11_plans_63 : decode cX11_plans 63 = .ok (.bipush (-3), 2) := by decide +kernel
theorem dX11_plans_65 : decode cX11_plans 65 = .ok (.ireturn, 1) := by decide +kernel
theorem dX11_plans_66 : decode cX11_plans 66 = .ok (.iload_n 1, 1) := by decide +kernel
theorem dX11_plans_67 : decode cX11_plans 67 = .ok (.iconst 5, 1) := by decide +kernel
theorem dX11_plans_68 : decode cX11_plans 68 = .ok (.if_icmp .ge 18, 3) := by decide +kernel
theorem dX11_plans_71 : decode cX11_plans 71 = .ok (.aload_n 0, 1) := by decide +kernel
theorem dX11_plans_72 : decode cX11_plans 72 = .ok (.getfield 37, 3) := by decide +kernel
theorem dX11_plans_75 : decode cX11_plans 75 = .ok (.iload_n 1, 1) := by decide +kernel
theorem dX11_plans_76 : decode cX11_plans 76 = .ok (.iload_n 2, 1) := by decide +kernel
theorem dX11_plans_77 : decode cX11_plans 77 = .ok (.iload_n 3, 1) := by decide +kernel
theorem dX11_plans_78 : decode cX11_plans 78 = .ok (.iload 4, 2) := by decide +kernel
theorem dX11_plans_80 : decode cX11_plans 80 = .ok (.iload 5, 2) := by decide +kernel
theorem dX11_plans_82 : decode cX11_plans 82 = .ok (.invokevirtual 211, 3) := by decide +kernel
theorem dX11_plans_85 : decode cX11_plans 85 = .ok (.ireturn, 1) := by decide +kernel
theorem dX11_plans_86 : decode cX11_plans 86 = .ok (.aload_n 0, 1) := by decide +kernel
theorem dX11_plans_87 : decode cX11_plans 87 = .ok (.getfield 37, 3) := by decide +kernel
theorem dX11_plans_90 : decode cX11_plans 90 = .ok (.iload_n 1, 1) := by decide +kernel
theorem dX11_plans_91 : decode cX11_plans 91 = .ok (.iload_n 1, 1) := by decide +kernel
theorem dX11_plans_92 : decode cX11_plans 92 = .ok (.iconst 5, 1) := by decide +kernel
theorem dX11_plans_93 : decode cX11_plans 93 = .ok (.if_icmp .ne 7, 3) := by decide +kernel
theorem dX11_plans_96 : decode cX11_plans 96 = .ok (.iload_n 2, 1) := by decide +kernel
theorem dX11_plans_97 : decode cX11_plans 97 = .ok (.goto 4, 3) := by decide +kernel
theorem dX11_plans_100 : decode cX11_plans 100 = .ok (.iconst 0, 1) := by decide +kernel
theorem dX11_plans_101 : decode cX11_plans 101 = .ok (.iconst 0, 1) := by decide +kernel
theorem dX11_plans_102 : decode cX11_plans 102 = .ok (.iconst 0, 1) := by decide +kernel
theorem dX11_plans_103 : decode cX11_plans 103 = .ok (.iconst 0, 1) := by decide +kernel
theorem dX11_plans_104 : decode cX11_plans 104 = .ok (.invokevirtual 211, 3) := by decide +kernel
theorem dX11_plans_107 : decode cX11_plans 107 = .ok (.ireturn, 1) := by decide +kernel
theorem dX11_drops_0 : decode cX11_drops 0 = .ok (.aload_n 0, 1) := by decide +kernel
theorem dX11_drops_1 : decode cX11_drops 1 = .ok (.getfield 37, 3) := by decide +kernel
theorem dX11_drops_4 : decode cX11_drops 4 = .ok (.getfield 208, 3) := by decide +kernel
theorem dX11_drops_7 : decode cX11_drops 7 = .ok (.ifCond .ne 6, 3) := by decide +kernel
theorem dX11_drops_10 : decode cX11_drops 10 = .ok (.bipush (-2), 2) := by decide +kernel
theorem dX11_drops_12 : decode cX11_drops 12 = .ok (.ireturn, 1) := by decide +kernel
theorem dX11_drops_13 : decode cX11_drops 13 = .ok (.aload_n 0, 1) := by decide +kernel
theorem dX11_drops_14 : decode cX11_drops 14 = .ok (.getfield 37, 3) := by decide +kernel
theorem dX11_drops_17 : decode cX11_drops 17 = .ok (.invokevirtual 214, 3) := by decide +kernel
theorem dX11_drops_20 : decode cX11_drops 20 = .ok (.ireturn, 1) := by decide +kernel
theorem dX11_modes_0 : decode cX11_modes 0 = .ok (.iload_n 1, 1) := by decide +kernel
theorem dX11_modes_1 : decode cX11_modes 1 = .ok (.invokestatic 217, 3) := by decide +kernel
theorem dX11_modes_4 : decode cX11_modes 4 = .ok (.ifCond .eq 12, 3) := by decide +kernel
theorem dX11_modes_7 : decode cX11_modes 7 = .ok (.iload_n 2, 1) := by decide +kernel
theorem dX11_modes_8 : decode cX11_modes 8 = .ok (.iconst 0, 1) := by decide +kernel
theorem dX11_modes_9 : decode cX11_modes 9 = .ok (.iconst 2, 1) := by decide +kernel
theorem dX11_modes_10 : decode cX11_modes 10 = .ok (.invokestatic 100, 3) := by decide +kernel
theorem dX11_modes_13 : decode cX11_modes 13 = .ok (.ifCond .ne 5, 3) := by decide +kernel
theorem dX11_modes_16 : decode cX11_modes 16 = .ok (.iconst (-1), 1) := by decide +kernel
theorem dX11_modes_17 : decode cX11_modes 17 = .ok (.ireturn, 1) := by decide +kernel
theorem dX11_modes_18 : decode cX11_modes 18 = .ok (.aload_n 0, 1) := by decide +kernel
theorem dX11_modes_19 : decode cX11_modes 19 = .ok (.getfield 90, 3) := by decide +kernel
theorem dX11_modes_22 : decode cX11_modes 22 = .ok (.iload_n 1, 1) := by decide +kernel
theorem dX11_modes_23 : decode cX11_modes 23 = .ok (.iaload, 1) := by decide +kernel
theorem dX11_modes_24 : decode cX11_modes 24 = .ok (.istore_n 3, 1) := by decide +kernel
theorem dX11_modes_25 : decode cX11_modes 25 = .ok (.aload_n 0, 1) := by decide +kernel
theorem dX11_modes_26 : decode cX11_modes 26 = .ok (.getfield 90, 3) := by decide +kernel
theorem dX11_modes_29 : decode cX11_modes 29 = .ok (.iload_n 1, 1) := by decide +kernel
theorem dX11_modes_30 : decode cX11_modes 30 = .ok (.iload_n 2, 1) := by decide +kernel
theorem dX11_modes_31 : decode cX11_modes 31 = .ok (.iastore, 1) := by decide +kernel
theorem dX11_modes_32 : decode cX11_modes 32 = .ok (.iload_n 3, 1) := by decide +kernel
theorem dX11_modes_33 : decode cX11_modes 33 = .ok (.ireturn, 1) := by decide +kernel
theorem dX11_runs_0 : decode cX11_runs 0 = .ok (.aload_n 0, 1) := by decide +kernel
theorem dX11_runs_1 : decode cX11_runs 1 = .ok (.getfield 37, 3) := by decide +kernel
theorem dX11_runs_4 : decode cX11_runs 4 = .ok (.getfield 205, 3) := by decide +kernel
theorem dX11_runs_7 : decode cX11_runs 7 = .ok (.ifCond .le 6, 3) := by decide +kernel
theorem dX11_runs_10 : decode cX11_runs 10 = .ok (.bipush (-2), 2) := by decide +kernel
theorem dX11_runs_12 : decode cX11_runs 12 = .ok (.ireturn, 1) := by decide +kernel
theorem dX11_runs_13 : decode cX11_runs 13 = .ok (.iconst 0, 1) := by decide +kernel
theorem dX11_runs_14 : decode cX11_runs 14 = .ok (.istore_n 1, 1) := by decide +kernel
theorem dX11_runs_15 : decode cX11_runs 15 = .ok (.iload_n 1, 1) := by decide +kernel
theorem dX11_runs_16 : decode cX11_runs 16 = .ok (.bipush 7, 2) := by decide +kernel
theorem dX11_runs_18 : decode cX11_runs 18 = .ok (.if_icmp .ge 16, 3) := by decide +kernel
theorem dX11_runs_21 : decode cX11_runs 21 = .ok (.aload_n 0, 1) := by decide +kernel
theorem dX11_runs_22 : decode cX11_runs 22 = .ok (.getfield 94, 3) := by decide +kernel
theorem dX11_runs_25 : decode cX11_runs 25 = .ok (.iload_n 1, 1) := by decide +kernel
theorem dX11_runs_26 : decode cX11_runs 26 = .ok (.iconst 0, 1) := by decide +kernel
theorem dX11_runs_27 : decode cX11_runs 27 = .ok (.iastore, 1) := by decide +kernel
theorem dX11_runs_28 : decode cX11_runs 28 = .ok (.iinc 1 1, 3) := by decide +kernel
theorem dX11_runs_31 : decode cX11_runs 31 = .ok (.goto (-16), 3) := by decide +kernel
theorem dX11_runs_34 : decode cX11_runs 34 = .ok (.aload_n 0, 1) := by decide +kernel
theorem dX11_runs_35 : decode cX11_runs 35 = .ok (.getfield 62, 3) := by decide +kernel
theorem dX11_runs_38 : decode cX11_runs 38 = .ok (.aload_n 0, 1) := by decide +kernel
theorem dX11_runs_39 : decode cX11_runs 39 = .ok (.getfield 12, 3) := by decide +kernel
theorem dX11_runs_42 : decode cX11_runs 42 = .ok (.invokevirtual 175, 3) := by decide +kernel
theorem dX11_runs_45 : decode cX11_runs 45 = .ok (.aload_n 0, 1) := by decide +kernel
theorem dX11_runs_46 : decode cX11_runs 46 = .ok (.invokevirtual 220, 3) := by decide +kernel
theorem dX11_runs_49 : decode cX11_runs 49 = .ok (.istore_n 1, 1) := by decide +kernel
theorem dX11_runs_50 : decode cX11_runs 50 = .ok (.iload_n 1, 1) := by decide +kernel
theorem dX11_runs_51 : decode cX11_runs 51 = .ok (.ifCond .ge 17, 3) := by decide +kernel
theorem dX11_runs_54 : decode cX11_runs 54 = .ok (.aload_n 0, 1) := by decide +kernel
theorem dX11_runs_55 : decode cX11_runs 55 = .ok (.getfield 62, 3) := by decide +kernel
theorem dX11_runs_58 : decode cX11_runs 58 = .ok (.aload_n 0, 1) := by decide +kernel
theorem dX11_runs_59 : decode cX11_runs 59 = .ok (.getfield 12, 3) := by decide +kernel
theorem dX11_runs_62 : decode cX11_runs 62 = .ok (.invokevirtual 223, 3) := by decide +kernel
theorem dX11_runs_65 : decode cX11_runs 65 = .ok (.goto 10, 3) := by decide +kernel
theorem dX11_runs_68 : decode cX11_runs 68 = .ok (.aload_n 0, 1) := by decide +kernel
theorem dX11_runs_69 : decode cX11_runs 69 = .ok (.getfield 62, 3) := by decide +kernel
theorem dX11_runs_72 : decode cX11_runs 72 = .ok (.invokevirtual 182, 3) := by decide +kernel
theorem dX11_runs_75 : decode cX11_runs 75 = .ok (.iload_n 1, 1) := by decide +kernel
theorem dX11_runs_76 : decode cX11_runs 76 = .ok (.ireturn, 1) := by decide +kernel
theorem dX11_line_0 : decode cX11_line 0 = .ok (.aload_n 0, 1) := by decide +kernel
theorem dX11_line_1 : decode cX11_line 1 = .ok (.getfield 37, 3) := by decide +kernel
theorem dX11_line_4 : decode cX11_line 4 = .ok (.iload_n 1, 1) := by decide +kernel
theorem dX11_line_5 : decode cX11_line 5 = .ok (.invokevirtual 226, 3) := by decide +kernel
theorem dX11_line_8 : decode cX11_line 8 = .ok (.ifCond .eq 12, 3) := by decide +kernel
theorem dX11_line_11 : decode cX11_line 11 = .ok (.iload_n 2, 1) := by decide +kernel
theorem dX11_line_12 : decode cX11_line 12 = .ok (.iconst 0, 1) := by decide +kernel
theorem dX11_line_13 : decode cX11_line 13 = .ok (.iconst 4, 1) := by decide +kernel
theorem dX11_line_14 : decode cX11_line 14 = .ok (.invokestatic 100, 3) := by decide +kernel
theorem dX11_line_17 : decode cX11_line 17 = .ok (.ifCond .ne 5, 3) := by decide +kernel
theorem dX11_line_20 : decode cX11_line 20 = .ok (.iconst (-1), 1) := by decide +kernel
theorem dX11_line_21 : decode cX11_line 21 = .ok (.ireturn, 1) := by decide +kernel
theorem dX11_line_22 : decode cX11_line 22 = .ok (.aload_n 0, 1) := by decide +kernel
theorem dX11_line_23 : decode cX11_line 23 = .ok (.getfield 37, 3) := by decide +kernel
theorem dX11_line_26 : decode cX11_line 26 = .ok (.iload_n 1, 1) := by decide +kernel
theorem dX11_line_27 : decode cX11_line 27 = .ok (.iload_n 2, 1) := by decide +kernel
theorem dX11_line_28 : decode cX11_line 28 = .ok (.invokevirtual 227, 3) := by decide +kernel
theorem dX11_line_31 : decode cX11_line 31 = .ok (.ireturn, 1) := by decide +kernel
theorem dX11_met_0 : decode cX11_met 0 = .ok (.iload_n 1, 1) := by decide +kernel
theorem dX11_met_1 : decode cX11_met 1 = .ok (.invokestatic 217, 3) := by decide +kernel
theorem dX11_met_4 : decode cX11_met 4 = .ok (.ifCond .eq 12, 3) := by decide +kernel
theorem dX11_met_7 : decode cX11_met 7 = .ok (.aload_n 0, 1) := by decide +kernel
theorem dX11_met_8 : decode cX11_met 8 = .ok (.getfield 94, 3) := by decide +kernel
theorem dX11_met_11 : decode cX11_met 11 = .ok (.iload_n 1, 1) := by decide +kernel
theorem dX11_met_12 : decode cX11_met 12 = .ok (.iaload, 1) := by decide +kernel
theorem dX11_met_13 : decode cX11_met 13 = .ok (.goto 4, 3) := by decide +kernel
theorem dX11_met_16 : decode cX11_met 16 = .ok (.iconst (-1), 1) := by decide +kernel
theorem dX11_met_17 : decode cX11_met 17 = .ok (.ireturn, 1) := by decide +kernel
theorem dX11_forecast_0 : decode cX11_forecast 0 = .ok (.iload_n 1, 1) := by decide +kernel
theorem dX11_forecast_1 : decode cX11_forecast 1 = .ok (.iconst 0, 1) := by decide +kernel
theorem dX11_forecast_2 : decode cX11_forecast 2 = .ok (.bipush 6, 2) := by decide +kernel
theorem dX11_forecast_4 : decode cX11_forecast 4 = .ok (.invokestatic 100, 3) := by decide +kernel
theorem dX11_forecast_7 : decode cX11_forecast 7 = .ok (.ifCond .ne 5, 3) := by decide +kernel
theorem dX11_forecast_10 : decode cX11_forecast 10 = .ok (.iconst (-1), 1) := by decide +kernel
theorem dX11_forecast_11 : decode cX11_forecast 11 = .ok (.ireturn, 1) := by decide +kernel
theorem dX11_forecast_12 : decode cX11_forecast 12 = .ok (.aload_n 0, 1) := by decide +kernel
theorem dX11_forecast_13 : decode cX11_forecast 13 = .ok (.getfield 37, 3) := by decide +kernel
theorem dX11_forecast_16 : decode cX11_forecast 16 = .ok (.getfield 205, 3) := by decide +kernel
theorem dX11_forecast_19 : decode cX11_forecast 19 = .ok (.ifCond .le 6, 3) := by decide +kernel
theorem dX11_forecast_22 : decode cX11_forecast 22 = .ok (.bipush (-2), 2) := by decide +kernel
theorem dX11_forecast_24 : decode cX11_forecast 24 = .ok (.ireturn, 1) := by decide +kernel
theorem dX11_forecast_25 : decode cX11_forecast 25 = .ok (.aload_n 0, 1) := by decide +kernel
theorem dX11_forecast_26 : decode cX11_forecast 26 = .ok (.invokevirtual 230, 3) := by decide +kernel
theorem dX11_forecast_29 : decode cX11_forecast 29 = .ok (.aload_n 0, 1) := by decide +kernel
theorem dX11_forecast_30 : decode cX11_forecast 30 = .ok (.getfield 97, 3) := by decide +kernel
theorem dX11_forecast_33 : decode cX11_forecast 33 = .ok (.iload_n 1, 1) := by decide +kernel
theorem dX11_forecast_34 : decode cX11_forecast 34 = .ok (.iaload, 1) := by decide +kernel
theorem dX11_forecast_35 : decode cX11_forecast 35 = .ok (.ireturn, 1) := by decide +kernel
theorem dX11_wave_0 : decode cX11_wave 0 = .ok (.aload_n 0, 1) := by decide +kernel
theorem dX11_wave_1 : decode cX11_wave 1 = .ok (.getfield 37, 3) := by decide +kernel
theorem dX11_wave_4 : decode cX11_wave 4 = .ok (.iload_n 1, 1) := by decide +kernel
theorem dX11_wave_5 : decode cX11_wave 5 = .ok (.invokevirtual 226, 3) := by decide +kernel
theorem dX11_wave_8 : decode cX11_wave 8 = .ok (.ifCond .ne 5, 3) := by decide +kernel
theorem dX11_wave_11 : decode cX11_wave 11 = .ok (.iconst (-1), 1) := by decide +kernel
theorem dX11_wave_12 : decode cX11_wave 12 = .ok (.ireturn, 1) := by decide +kernel
theorem dX11_wave_13 : decode cX11_wave 13 = .ok (.aload_n 0, 1) := by decide +kernel
theorem dX11_wave_14 : decode cX11_wave 14 = .ok (.getfield 37, 3) := by decide +kernel
theorem dX11_wave_17 : decode cX11_wave 17 = .ok (.invokevirtual 233, 3) := by decide +kernel
theorem dX11_wave_20 : decode cX11_wave 20 = .ok (.ifCond .eq 6, 3) := by decide +kernel
theorem dX11_wave_23 : decode cX11_wave 23 = .ok (.bipush (-2), 2) := by decide +kernel
theorem dX11_wave_25 : decode cX11_wave 25 = .ok (.ireturn, 1) := by decide +kernel
theorem dX11_wave_26 : decode cX11_wave 26 = .ok (.aload_n 0, 1) := by decide +kernel
theorem dX11_wave_27 : decode cX11_wave 27 = .ok (.getfield 55, 3) := by decide +kernel
theorem dX11_wave_30 : decode cX11_wave 30 = .ok (.invokevirtual 237, 3) := by decide +kernel
theorem dX11_wave_33 : decode cX11_wave 33 = .ok (.aload_n 0, 1) := by decide +kernel
theorem dX11_wave_34 : decode cX11_wave 34 = .ok (.getfield 55, 3) := by decide +kernel
theorem dX11_wave_37 : decode cX11_wave 37 = .ok (.iload_n 1, 1) := by decide +kernel
theorem dX11_wave_38 : decode cX11_wave 38 = .ok (.invokevirtual 240, 3) := by decide +kernel
theorem dX11_wave_41 : decode cX11_wave 41 = .ok (.ireturn, 1) := by decide +kernel
theorem dX11_reorders_0 : decode cX11_reorders 0 = .ok (.aload_n 0, 1) := by decide +kernel
theorem dX11_reorders_1 : decode cX11_reorders 1 = .ok (.getfield 37, 3) := by decide +kernel
theorem dX11_reorders_4 : decode cX11_reorders 4 = .ok (.invokevirtual 233, 3) := by decide +kernel
theorem dX11_reorders_7 : decode cX11_reorders 7 = .ok (.ifCond .eq 6, 3) := by decide +kernel
theorem dX11_reorders_10 : decode cX11_reorders 10 = .ok (.bipush (-2), 2) := by decide +kernel
theorem dX11_reorders_12 : decode cX11_reorders 12 = .ok (.ireturn, 1) := by decide +kernel
theorem dX11_reorders_13 : decode cX11_reorders 13 = .ok (.aload_n 0, 1) := by decide +kernel
theorem dX11_reorders_14 : decode cX11_reorders 14 = .ok (.getfield 55, 3) := by decide +kernel
theorem dX11_reorders_17 : decode cX11_reorders 17 = .ok (.invokevirtual 237, 3) := by decide +kernel
theorem dX11_reorders_20 : decode cX11_reorders 20 = .ok (.aload_n 0, 1) := by decide +kernel
theorem dX11_reorders_21 : decode cX11_reorders 21 = .ok (.getfield 55, 3) := by decide +kernel
theorem dX11_reorders_24 : decode cX11_reorders 24 = .ok (.invokevirtual 243, 3) := by decide +kernel
theorem dX11_reorders_27 : decode cX11_reorders 27 = .ok (.ireturn, 1) := by decide +kernel
theorem dX11_joins_0 : decode cX11_joins 0 = .ok (.aload_n 0, 1) := by decide +kernel
theorem dX11_joins_1 : decode cX11_joins 1 = .ok (.getfield 21, 3) := by decide +kernel
theorem dX11_joins_4 : decode cX11_joins 4 = .ok (.iload_n 1, 1) := by decide +kernel
theorem dX11_joins_5 : decode cX11_joins 5 = .ok (.invokevirtual 116, 3) := by decide +kernel
theorem dX11_joins_8 : decode cX11_joins 8 = .ok (.ifCond .eq 14, 3) := by decide +kernel
theorem dX11_joins_11 : decode cX11_joins 11 = .ok (.aload_n 0, 1) := by decide +kernel
theorem dX11_joins_12 : decode cX11_joins 12 = .ok (.getfield 21, 3) := by decide +kernel
theorem dX11_joins_15 : decode cX11_joins 15 = .ok (.iload_n 2, 1) := by decide +kernel
theorem dX11_joins_16 : decode cX11_joins 16 = .ok (.invokevirtual 116, 3) := by decide +kernel
theorem dX11_joins_19 : decode cX11_joins 19 = .ok (.ifCond .ne 5, 3) := by decide +kernel
theorem dX11_joins_22 : decode cX11_joins 22 = .ok (.iconst (-1), 1) := by decide +kernel
theorem dX11_joins_23 : decode cX11_joins 23 = .ok (.ireturn, 1) := by decide +kernel
theorem dX11_joins_24 : decode cX11_joins 24 = .ok (.aload_n 0, 1) := by decide +kernel
theorem dX11_joins_25 : decode cX11_joins 25 = .ok (.getfield 21, 3) := by decide +kernel
theorem dX11_joins_28 : decode cX11_joins 28 = .ok (.getfield 246, 3) := by decide +kernel
theorem dX11_joins_31 : decode cX11_joins 31 = .ok (.iload_n 1, 1) := by decide +kernel
theorem dX11_joins_32 : decode cX11_joins 32 = .ok (.iaload, 1) := by decide +kernel
theorem dX11_joins_33 : decode cX11_joins 33 = .ok (.aload_n 0, 1) := by decide +kernel
theorem dX11_joins_34 : decode cX11_joins 34 = .ok (.getfield 21, 3) := by decide +kernel
theorem dX11_joins_37 : decode cX11_joins 37 = .ok (.getfield 246, 3) := by decide +kernel
theorem dX11_joins_40 : decode cX11_joins 40 = .ok (.iload_n 2, 1) := by decide +kernel
theorem dX11_joins_41 : decode cX11_joins 41 = .ok (.iaload, 1) := by decide +kernel
theorem dX11_joins_42 : decode cX11_joins 42 = .ok (.invokestatic 247, 3) := by decide +kernel
theorem dX11_joins_45 : decode cX11_joins 45 = .ok (.ireturn, 1) := by decide +kernel
theorem dX11_would_0 : decode cX11_would 0 = .ok (.aload_n 0, 1) := by decide +kernel
theorem dX11_would_1 : decode cX11_would 1 = .ok (.getfield 21, 3) := by decide +kernel
theorem dX11_would_4 : decode cX11_would 4 = .ok (.iload_n 1, 1) := by decide +kernel
theorem dX11_would_5 : decode cX11_would 5 = .ok (.invokevirtual 116, 3) := by decide +kernel
theorem dX11_would_8 : decode cX11_would 8 = .ok (.ifCond .eq 41, 3) := by decide +kernel
theorem dX11_would_11 : decode cX11_would 11 = .ok (.iload_n 2, 1) := by decide +kernel
theorem dX11_would_12 : decode cX11_would 12 = .ok (.iconst 0, 1) := by decide +kernel
theorem dX11_would_13 : decode cX11_would 13 = .ok (.iconst 2, 1) := by decide +kernel
theorem dX11_would_14 : decode cX11_would 14 = .ok (.invokestatic 100, 3) := by decide +kernel
theorem dX11_would_17 : decode cX11_would 17 = .ok (.ifCond .eq 32, 3) := by decide +kernel
theorem dX11_would_20 : decode cX11_would 20 = .ok (.iload_n 3, 1) := by decide +kernel
theorem dX11_would_21 : decode cX11_would 21 = .ok (.iconst 0, 1) := by decide +kernel
theorem dX11_would_22 : decode cX11_would 22 = .ok (.iload_n 2, 1) := by decide +kernel
theorem dX11_would_23 : decode cX11_would 23 = .ok (.ifCond .ne 8, 3) := by decide +kernel
theorem dX11_would_26 : decode cX11_would 26 = .ok (.bipush 8, 2) := by decide +kernel
theorem dX11_would_28 : decode cX11_would 28 = .ok (.goto 15, 3) := by decide +kernel
theorem dX11_would_31 : decode cX11_would 31 = .ok (.iload_n 2, 1) := by decide +kernel
theorem dX11_would_32 : decode cX11_would 32 = .ok (.iconst 1, 1) := by decide +kernel
theorem dX11_would_33 : decode cX11_would 33 = .ok (.if_icmp .ne 8, 3) := by decide +kernel
theorem dX11_would_36 : decode cX11_would 36 = .ok (.bipush 7, 2) := by decide +kernel
theorem dX11_would_38 : decode cX11_would 38 = .ok (.goto 5, 3) := by decide +kernel
theorem dX11_would_41 : decode cX11_would 41 = .ok (.bipush 9, 2) := by decide +kernel
theorem dX11_would_43 : decode cX11_would 43 = .ok (.invokestatic 100, 3) := by decide +kernel
theorem dX11_would_46 : decode cX11_would 46 = .ok (.ifCond .ne 5, 3) := by decide +kernel
theorem dX11_would_49 : decode cX11_would 49 = .ok (.iconst (-1), 1) := by decide +kernel
theorem dX11_would_50 : decode cX11_would 50 = .ok (.ireturn, 1) := by decide +kernel
theorem dX11_would_51 : decode cX11_would 51 = .ok (.iload_n 2, 1) := by decide +kernel
theorem dX11_would_52 : decode cX11_would 52 = .ok (.ifCond .ne 14, 3) := by decide +kernel
theorem dX11_would_55 : decode cX11_would 55 = .ok (.aload_n 0, 1) := by decide +kernel
theorem dX11_would_56 : decode cX11_would 56 = .ok (.getfield 21, 3) := by decide +kernel
theorem dX11_would_59 : decode cX11_would 59 = .ok (.iload_n 1, 1) := by decide +kernel
theorem dX11_would_60 : decode cX11_would 60 = .ok (.iload_n 3, 1) := by decide +kernel
theorem dX11_would_61 : decode cX11_would 61 = .ok (.iconst 1, 1) := by decide +kernel
theorem dX11_would_62 : decode cX11_would 62 = .ok (.invokevirtual 250, 3) := by decide +kernel
theorem dX11_would_65 : decode cX11_would 65 = .ok (.ireturn, 1) := by decide +kernel
theorem dX11_would_66 : decode cX11_would 66 = .ok (.iload_n 2, 1) := by decide +kernel
theorem dX11_would_67 : decode cX11_would 67 = .ok (.iconst 1, 1) := by decide +kernel
theorem dX11_would_68 : decode cX11_would 68 = .ok (.if_icmp .ne 14, 3) := by decide +kernel
theorem dX11_would_71 : decode cX11_would 71 = .ok (.aload_n 0, 1) := by decide +kernel
theorem dX11_would_72 : decode cX11_would 72 = .ok (.getfield 21, 3) := by decide +kernel
theorem dX11_would_75 : decode cX11_would 75 = .ok (.iload_n 1, 1) := by decide +kernel
theorem dX11_would_76 : decode cX11_would 76 = .ok (.iload_n 3, 1) := by decide +kernel
theorem dX11_would_77 : decode cX11_would 77 = .ok (.iload_n 3, 1) := by decide +kernel
theorem dX11_would_78 : decode cX11_would 78 = .ok (.invokevirtual 253, 3) := by decide +kernel
theorem dX11_would_81 : decode cX11_would 81 = .ok (.ireturn, 1) := by decide +kernel
theorem dX11_would_82 : decode cX11_would 82 = .ok (.aload_n 0, 1) := by decide +kernel
theorem dX11_would_83 : decode cX11_would 83 = .ok (.getfield 21, 3) := by decide +kernel
theorem dX11_would_86 : decode cX11_would 86 = .ok (.iload_n 1, 1) := by decide +kernel
theorem dX11_would_87 : decode cX11_would 87 = .ok (.iload_n 3, 1) := by decide +kernel
theorem dX11_would_88 : decode cX11_would 88 = .ok (.bipush 8, 2) := by decide +kernel
theorem dX11_would_90 : decode cX11_would 90 = .ok (.if_icmp .ne 8, 3) := by decide +kernel
theorem dX11_would_93 : decode cX11_would 93 = .ok (.bipush 10, 2) := by decide +kernel
theorem dX11_would_95 : decode cX11_would 95 = .ok (.goto 4, 3) := by decide +kernel
theorem dX11_would_98 : decode cX11_would 98 = .ok (.iload_n 3, 1) := by decide +kernel
theorem dX11_would_99 : decode cX11_would 99 = .ok (.bipush 8, 2) := by decide +kernel
theorem dX11_would_101 : decode cX11_would 101 = .ok (.invokevirtual 253, 3) := by decide +kernel
theorem dX11_would_104 : decode cX11_would 104 = .ok (.ireturn, 1) := by decide +kernel
theorem dX11_shares_0 : decode cX11_shares 0 = .ok (.aload_n 0, 1) := by decide +kernel
theorem dX11_shares_1 : decode cX11_shares 1 = .ok (.getfield 21, 3) := by decide +kernel
theorem dX11_shares_4 : decode cX11_shares 4 = .ok (.iload_n 1, 1) := by decide +kernel
theorem dX11_shares_5 : decode cX11_shares 5 = .ok (.invokevirtual 116, 3) := by decide +kernel
theorem dX11_shares_8 : decode cX11_shares 8 = .ok (.ifCond .eq 14, 3) := by decide +kernel
theorem dX11_shares_11 : decode cX11_shares 11 = .ok (.aload_n 0, 1) := by decide +kernel
theorem dX11_shares_12 : decode cX11_shares 12 = .ok (.getfield 21, 3) := by decide +kernel
theorem dX11_shares_15 : decode cX11_shares 15 = .ok (.iload_n 2, 1) := by decide +kernel
theorem dX11_shares_16 : decode cX11_shares 16 = .ok (.invokevirtual 116, 3) := by decide +kernel
theorem dX11_shares_19 : decode cX11_shares 19 = .ok (.ifCond .ne 5, 3) := by decide +kernel
theorem dX11_shares_22 : decode cX11_shares 22 = .ok (.iconst (-1), 1) := by decide +kernel
theorem dX11_shares_23 : decode cX11_shares 23 = .ok (.ireturn, 1) := by decide +kernel
theorem dX11_shares_24 : decode cX11_shares 24 = .ok (.aload_n 0, 1) := by decide +kernel
theorem dX11_shares_25 : decode cX11_shares 25 = .ok (.getfield 21, 3) := by decide +kernel
theorem dX11_shares_28 : decode cX11_shares 28 = .ok (.iload_n 1, 1) := by decide +kernel
theorem dX11_shares_29 : decode cX11_shares 29 = .ok (.iload_n 2, 1) := by decide +kernel
theorem dX11_shares_30 : decode cX11_shares 30 = .ok (.invokevirtual 257, 3) := by decide +kernel
theorem dX11_shares_33 : decode cX11_shares 33 = .ok (.ireturn, 1) := by decide +kernel
theorem dX11_safe_0 : decode cX11_safe 0 = .ok (.aload_n 0, 1) := by decide +kernel
theorem dX11_safe_1 : decode cX11_safe 1 = .ok (.getfield 21, 3) := by decide +kernel
theorem dX11_safe_4 : decode cX11_safe 4 = .ok (.iload_n 1, 1) := by decide +kernel
theorem dX11_safe_5 : decode cX11_safe 5 = .ok (.invokevirtual 116, 3) := by decide +kernel
theorem dX11_safe_8 : decode cX11_safe 8 = .ok (.ifCond .eq 14, 3) := by decide +kernel
theorem dX11_safe_11 : decode cX11_safe 11 = .ok (.aload_n 0, 1) := by decide +kernel
theorem dX11_safe_12 : decode cX11_safe 12 = .ok (.getfield 21, 3) := by decide +kernel
theorem dX11_safe_15 : decode cX11_safe 15 = .ok (.iload_n 2, 1) := by decide +kernel
theorem dX11_safe_16 : decode cX11_safe 16 = .ok (.invokevirtual 116, 3) := by decide +kernel
theorem dX11_safe_19 : decode cX11_safe 19 = .ok (.ifCond .ne 5, 3) := by decide +kernel
theorem dX11_safe_22 : decode cX11_safe 22 = .ok (.iconst (-1), 1) := by decide +kernel
theorem dX11_safe_23 : decode cX11_safe 23 = .ok (.ireturn, 1) := by decide +kernel
theorem dX11_safe_24 : decode cX11_safe 24 = .ok (.aload_n 0, 1) := by decide +kernel
theorem dX11_safe_25 : decode cX11_safe 25 = .ok (.getfield 21, 3) := by decide +kernel
theorem dX11_safe_28 : decode cX11_safe 28 = .ok (.iload_n 1, 1) := by decide +kernel
theorem dX11_safe_29 : decode cX11_safe 29 = .ok (.iload_n 2, 1) := by decide +kernel
theorem dX11_safe_30 : decode cX11_safe 30 = .ok (.invokevirtual 260, 3) := by decide +kernel
theorem dX11_safe_33 : decode cX11_safe 33 = .ok (.ifCond .eq 7, 3) := by decide +kernel
theorem dX11_safe_36 : decode cX11_safe 36 = .ok (.iconst 1, 1) := by decide +kernel
theorem dX11_safe_37 : decode cX11_safe 37 = .ok (.goto 4, 3) := by decide +kernel
theorem dX11_safe_40 : decode cX11_safe 40 = .ok (.iconst 0, 1) := by decide +kernel
theorem dX11_safe_41 : decode cX11_safe 41 = .ok (.aload_n 0, 1) := by decide +kernel
theorem dX11_safe_42 : decode cX11_safe 42 = .ok (.getfield 21, 3) := by decide +kernel
theorem dX11_safe_45 : decode cX11_safe 45 = .ok (.iload_n 1, 1) := by decide +kernel
theorem dX11_safe_46 : decode cX11_safe 46 = .ok (.iload_n 2, 1) := by decide +kernel
theorem dX11_safe_47 : decode cX11_safe 47 = .ok (.invokevirtual 263, 3) := by decide +kernel
theorem dX11_safe_50 : decode cX11_safe 50 = .ok (.ifCond .eq 7, 3) := by decide +kernel
theorem dX11_safe_53 : decode cX11_safe 53 = .ok (.iconst 2, 1) := by decide +kernel
theorem dX11_safe_54 : decode cX11_safe 54 = .ok (.goto 4, 3) := by decide +kernel
theorem dX11_safe_57 : decode cX11_safe 57 = .ok (.iconst 0, 1) := by decide +kernel
theorem dX11_safe_58 : decode cX11_safe 58 = .ok (.iadd, 1) := by decide +kernel
theorem dX11_safe_59 : decode cX11_safe 59 = .ok (.ireturn, 1) := by decide +kernel
theorem dX11_sees_0 : decode cX11_sees 0 = .ok (.iload_n 1, 1) := by decide +kernel
theorem dX11_sees_1 : decode cX11_sees 1 = .ok (.iconst 0, 1) := by decide +kernel
theorem dX11_sees_2 : decode cX11_sees 2 = .ok (.bipush 25, 2) := by decide +kernel
theorem dX11_sees_4 : decode cX11_sees 4 = .ok (.invokestatic 100, 3) := by decide +kernel
theorem dX11_sees_7 : decode cX11_sees 7 = .ok (.ifCond .eq 12, 3) := by decide +kernel
theorem dX11_sees_10 : decode cX11_sees 10 = .ok (.iload_n 2, 1) := by decide +kernel
theorem dX11_sees_11 : decode cX11_sees 11 = .ok (.iconst 0, 1) := by decide +kernel
theorem dX11_sees_12 : decode cX11_sees 12 = .ok (.iconst 3, 1) := by decide +kernel
theorem dX11_sees_13 : decode cX11_sees 13 = .ok (.invokestatic 100, 3) := by decide +kernel
theorem dX11_sees_16 : decode cX11_sees 16 = .ok (.ifCond .ne 5, 3) := by decide +kernel
theorem dX11_sees_19 : decode cX11_sees 19 = .ok (.iconst (-1), 1) := by decide +kernel
theorem dX11_sees_20 : decode cX11_sees 20 = .ok (.ireturn, 1) := by decide +kernel
theorem dX11_sees_21 : decode cX11_sees 21 = .ok (.aload_n 0, 1) := by decide +kernel
theorem dX11_sees_22 : decode cX11_sees 22 = .ok (.getfield 76, 3) := by decide +kernel
theorem dX11_sees_25 : decode cX11_sees 25 = .ok (.getfield 266, 3) := by decide +kernel
theorem dX11_sees_28 : decode cX11_sees 28 = .ok (.bipush 6, 2) := by decide +kernel
theorem dX11_sees_30 : decode cX11_sees 30 = .ok (.if_icmp .ne 6, 3) := by decide +kernel
theorem dX11_sees_33 : decode cX11_sees 33 = .ok (.bipush (-3), 2) := by decide +kernel
theorem dX11_sees_35 : decode cX11_sees 35 = .ok (.ireturn, 1) := by decide +kernel
theorem dX11_sees_36 : decode cX11_sees 36 = .ok (.aload_n 0, 1) := by decide +kernel
theorem dX11_sees_37 : decode cX11_sees 37 = .ok (.getfield 76, 3) := by decide +kernel
theorem dX11_sees_40 : decode cX11_sees 40 = .ok (.iload_n 1, 1) := by decide +kernel
theorem dX11_sees_41 : decode cX11_sees 41 = .ok (.iload_n 2, 1) := by decide +kernel
theorem dX11_sees_42 : decode cX11_sees 42 = .ok (.invokevirtual 269, 3) := by decide +kernel
theorem dX11_sees_45 : decode cX11_sees 45 = .ok (.ireturn, 1) := by decide +kernel
theorem dX11_forget_0 : decode cX11_forget 0 = .ok (.aload_n 0, 1) := by decide +kernel
theorem dX11_forget_1 : decode cX11_forget 1 = .ok (.getfield 76, 3) := by decide +kernel
theorem dX11_forget_4 : decode cX11_forget 4 = .ok (.invokevirtual 137, 3) := by decide +kernel
theorem dX11_forget_7 : decode cX11_forget 7 = .ok (.ireturn, 1) := by decide +kernel
theorem dX11_unseen_0 : decode cX11_unseen 0 = .ok (.iload_n 1, 1) := by decide +kernel
theorem dX11_unseen_1 : decode cX11_unseen 1 = .ok (.iconst 0, 1) := by decide +kernel
theorem dX11_unseen_2 : decode cX11_unseen 2 = .ok (.iconst 1, 1) := by decide +kernel
theorem dX11_unseen_3 : decode cX11_unseen 3 = .ok (.invokestatic 100, 3) := by decide +kernel
theorem dX11_unseen_6 : decode cX11_unseen 6 = .ok (.ifCond .ne 5, 3) := by decide +kernel
theorem dX11_unseen_9 : decode cX11_unseen 9 = .ok (.iconst (-1), 1) := by decide +kernel
theorem dX11_unseen_10 : decode cX11_unseen 10 = .ok (.ireturn, 1) := by decide +kernel
theorem dX11_unseen_11 : decode cX11_unseen 11 = .ok (.iload_n 1, 1) := by decide +kernel
theorem dX11_unseen_12 : decode cX11_unseen 12 = .ok (.ifCond .ne 16, 3) := by decide +kernel
theorem dX11_unseen_15 : decode cX11_unseen 15 = .ok (.aload_n 0, 1) := by decide +kernel
theorem dX11_unseen_16 : decode cX11_unseen 16 = .ok (.getfield 76, 3) := by decide +kernel
theorem dX11_unseen_19 : decode cX11_unseen 19 = .ok (.getfield 272, 3) := by decide +kernel
theorem dX11_unseen_22 : decode cX11_unseen 22 = .ok (.invokestatic 275, 3) := by decide +kernel
theorem dX11_unseen_25 : decode cX11_unseen 25 = .ok (.goto 10, 3) := by decide +kernel
theorem dX11_unseen_28 : decode cX11_unseen 28 = .ok (.aload_n 0, 1) := by decide +kernel
theorem dX11_unseen_29 : decode cX11_unseen 29 = .ok (.getfield 76, 3) := by decide +kernel
theorem dX11_unseen_32 : decode cX11_unseen 32 = .ok (.getfield 272, 3) := by decide +kernel
theorem dX11_unseen_35 : decode cX11_unseen 35 = .ok (.ireturn, 1) := by decide +kernel
theorem dX11_fewest_0 : decode cX11_fewest 0 = .ok (.iload_n 1, 1) := by decide +kernel
theorem dX11_fewest_1 : decode cX11_fewest 1 = .ok (.iconst 0, 1) := by decide +kernel
theorem dX11_fewest_2 : decode cX11_fewest 2 = .ok (.iconst 1, 1) := by decide +kernel
theorem dX11_fewest_3 : decode cX11_fewest 3 = .ok (.invokestatic 100, 3) := by decide +kernel
theorem dX11_fewest_6 : decode cX11_fewest 6 = .ok (.ifCond .ne 5, 3) := by decide +kernel
theorem dX11_fewest_9 : decode cX11_fewest 9 = .ok (.iconst (-1), 1) := by decide +kernel
theorem dX11_fewest_10 : decode cX11_fewest 10 = .ok (.ireturn, 1) := by decide +kernel
theorem dX11_fewest_11 : decode cX11_fewest 11 = .ok (.iload_n 1, 1) := by decide +kernel
theorem dX11_fewest_12 : decode cX11_fewest 12 = .ok (.ifCond .ne 13, 3) := by decide +kernel
theorem dX11_fewest_15 : decode cX11_fewest 15 = .ok (.aload_n 0, 1) := by decide +kernel
theorem dX11_fewest_16 : decode cX11_fewest 16 = .ok (.getfield 76, 3) := by decide +kernel
theorem dX11_fewest_19 : decode cX11_fewest 19 = .ok (.invokevirtual 280, 3) := by decide +kernel
theorem dX11_fewest_22 : decode cX11_fewest 22 = .ok (.goto 10, 3) := by decide +kernel
theorem dX11_fewest_25 : decode cX11_fewest 25 = .ok (.aload_n 0, 1) := by decide +kernel
theorem dX11_fewest_26 : decode cX11_fewest 26 = .ok (.getfield 76, 3) := by decide +kernel
theorem dX11_fewest_29 : decode cX11_fewest 29 = .ok (.invokevirtual 283, 3) := by decide +kernel
theorem dX11_fewest_32 : decode cX11_fewest 32 = .ok (.ireturn, 1) := by decide +kernel
theorem dX11_keep_0 : decode cX11_keep 0 = .ok (.iload_n 1, 1) := by decide +kernel
theorem dX11_keep_1 : decode cX11_keep 1 = .ok (.iconst 0, 1) := by decide +kernel
theorem dX11_keep_2 : decode cX11_keep 2 = .ok (.iconst 1, 1) := by decide +kernel
theorem dX11_keep_3 : decode cX11_keep 3 = .ok (.invokestatic 100, 3) := by decide +kernel
theorem dX11_keep_6 : decode cX11_keep 6 = .ok (.ifCond .ne 5, 3) := by decide +kernel
theorem dX11_keep_9 : decode cX11_keep 9 = .ok (.iconst (-1), 1) := by decide +kernel
theorem dX11_keep_10 : decode cX11_keep 10 = .ok (.ireturn, 1) := by decide +kernel
theorem dX11_keep_11 : decode cX11_keep 11 = .ok (.aload_n 0, 1) := by decide +kernel
theorem dX11_keep_12 : decode cX11_keep 12 = .ok (.getfield 68, 3) := by decide +kernel
theorem dX11_keep_15 : decode cX11_keep 15 = .ok (.iload_n 1, 1) := by decide +kernel
theorem dX11_keep_16 : decode cX11_keep 16 = .ok (.aaload, 1) := by decide +kernel
theorem dX11_keep_17 : decode cX11_keep 17 = .ok (.aload_n 0, 1) := by decide +kernel
theorem dX11_keep_18 : decode cX11_keep 18 = .ok (.getfield 12, 3) := by decide +kernel
theorem dX11_keep_21 : decode cX11_keep 21 = .ok (.invokevirtual 286, 3) := by decide +kernel
theorem dX11_keep_24 : decode cX11_keep 24 = .ok (.aload_n 0, 1) := by decide +kernel
theorem dX11_keep_25 : decode cX11_keep 25 = .ok (.getfield 12, 3) := by decide +kernel
theorem dX11_keep_28 : decode cX11_keep 28 = .ok (.getfield 104, 3) := by decide +kernel
theorem dX11_keep_31 : decode cX11_keep 31 = .ok (.ireturn, 1) := by decide +kernel
theorem dX11_back_0 : decode cX11_back 0 = .ok (.iload_n 1, 1) := by decide +kernel
theorem dX11_back_1 : decode cX11_back 1 = .ok (.iconst 0, 1) := by decide +kernel
theorem dX11_back_2 : decode cX11_back 2 = .ok (.iconst 1, 1) := by decide +kernel
theorem dX11_back_3 : decode cX11_back 3 = .ok (.invokestatic 100, 3) := by decide +kernel
theorem dX11_back_6 : decode cX11_back 6 = .ok (.ifCond .ne 5, 3) := by decide +kernel
theorem dX11_back_9 : decode cX11_back 9 = .ok (.iconst (-1), 1) := by decide +kernel
theorem dX11_back_10 : decode cX11_back 10 = .ok (.ireturn, 1) := by decide +kernel
theorem dX11_back_11 : decode cX11_back 11 = .ok (.aload_n 0, 1) := by decide +kernel
theorem dX11_back_12 : decode cX11_back 12 = .ok (.getfield 68, 3) := by decide +kernel
theorem dX11_back_15 : decode cX11_back 15 = .ok (.iload_n 1, 1) := by decide +kernel
theorem dX11_back_16 : decode cX11_back 16 = .ok (.aaload, 1) := by decide +kernel
theorem dX11_back_17 : decode cX11_back 17 = .ok (.getfield 289, 3) := by decide +kernel
theorem dX11_back_20 : decode cX11_back 20 = .ok (.bipush (-20), 2) := by decide +kernel
theorem dX11_back_22 : decode cX11_back 22 = .ok (.if_icmp .ne 6, 3) := by decide +kernel
theorem dX11_back_25 : decode cX11_back 25 = .ok (.bipush (-2), 2) := by decide +kernel
theorem dX11_back_27 : decode cX11_back 27 = .ok (.ireturn, 1) := by decide +kernel
theorem dX11_back_28 : decode cX11_back 28 = .ok (.aload_n 0, 1) := by decide +kernel
theorem dX11_back_29 : decode cX11_back 29 = .ok (.getfield 68, 3) := by decide +kernel
theorem dX11_back_32 : decode cX11_back 32 = .ok (.iload_n 1, 1) := by decide +kernel
theorem dX11_back_33 : decode cX11_back 33 = .ok (.aaload, 1) := by decide +kernel
theorem dX11_back_34 : decode cX11_back 34 = .ok (.aload_n 0, 1) := by decide +kernel
theorem dX11_back_35 : decode cX11_back 35 = .ok (.getfield 12, 3) := by decide +kernel
theorem dX11_back_38 : decode cX11_back 38 = .ok (.invokevirtual 290, 3) := by decide +kernel
theorem dX11_back_41 : decode cX11_back 41 = .ok (.aload_n 0, 1) := by decide +kernel
theorem dX11_back_42 : decode cX11_back 42 = .ok (.getfield 62, 3) := by decide +kernel
theorem dX11_back_45 : decode cX11_back 45 = .ok (.invokevirtual 133, 3) := by decide +kernel
theorem dX11_back_48 : decode cX11_back 48 = .ok (.aload_n 0, 1) := by decide +kernel
theorem dX11_back_49 : decode cX11_back 49 = .ok (.getfield 68, 3) := by decide +kernel
theorem dX11_back_52 : decode cX11_back 52 = .ok (.iload_n 1, 1) := by decide +kernel
theorem dX11_back_53 : decode cX11_back 53 = .ok (.aaload, 1) := by decide +kernel
theorem dX11_back_54 : decode cX11_back 54 = .ok (.getfield 289, 3) := by decide +kernel
theorem dX11_back_57 : decode cX11_back 57 = .ok (.ireturn, 1) := by decide +kernel
theorem dX11_count_0 : decode cX11_count 0 = .ok (.iload_n 1, 1) := by decide +kernel
theorem dX11_count_1 : decode cX11_count 1 = .ok (.tableswitch 87 0 5 #[39, 47, 55, 63, 71, 79], 39) := by decide +kernel
theorem dX11_count_40 : decode cX11_count 40 = .ok (.aload_n 0, 1) := by decide +kernel
theorem dX11_count_41 : decode cX11_count 41 = .ok (.getfield 12, 3) := by decide +kernel
theorem dX11_count_44 : decode cX11_count 44 = .ok (.getfield 104, 3) := by decide +kernel
theorem dX11_count_47 : decode cX11_count 47 = .ok (.ireturn, 1) := by decide +kernel
theorem dX11_count_48 : decode cX11_count 48 = .ok (.aload_n 0, 1) := by decide +kernel
theorem dX11_count_49 : decode cX11_count 49 = .ok (.getfield 21, 3) := by decide +kernel
theorem dX11_count_52 : decode cX11_count 52 = .ok (.getfield 119, 3) := by decide +kernel
theorem dX11_count_55 : decode cX11_count 55 = .ok (.ireturn, 1) := by decide +kernel
theorem dX11_count_56 : decode cX11_count 56 = .ok (.aload_n 0, 1) := by decide +kernel
theorem dX11_count_57 : decode cX11_count 57 = .ok (.getfield 37, 3) := by decide +kernel
theorem dX11_count_60 : decode cX11_count 60 = .ok (.getfield 208, 3) := by decide +kernel
theorem dX11_count_63 : decode cX11_count 63 = .ok (.ireturn, 1) := by decide +kernel
theorem dX11_count_64 : decode cX11_count 64 = .ok (.aload_n 0, 1) := by decide +kernel
theorem dX11_count_65 : decode cX11_count 65 = .ok (.getfield 37, 3) := by decide +kernel
theorem dX11_count_68 : decode cX11_count 68 = .ok (.getfield 205, 3) := by decide +kernel
theorem dX11_count_71 : decode cX11_count 71 = .ok (.ireturn, 1) := by decide +kernel
theorem dX11_count_72 : decode cX11_count 72 = .ok (.aload_n 0, 1) := by decide +kernel
theorem dX11_count_73 : decode cX11_count 73 = .ok (.getfield 76, 3) := by decide +kernel
theorem dX11_count_76 : decode cX11_count 76 = .ok (.getfield 266, 3) := by decide +kernel
theorem dX11_count_79 : decode cX11_count 79 = .ok (.ireturn, 1) := by decide +kernel
theorem dX11_count_80 : decode cX11_count 80 = .ok (.aload_n 0, 1) := by decide +kernel
theorem dX11_count_81 : decode cX11_count 81 = .ok (.getfield 62, 3) := by decide +kernel
theorem dX11_count_84 : decode cX11_count 84 = .ok (.getfield 195, 3) := by decide +kernel
theorem dX11_count_87 : decode cX11_count 87 = .ok (.ireturn, 1) := by decide +kernel
theorem dX11_count_88 : decode cX11_count 88 = .ok (.iconst (-1), 1) := by decide +kernel
theorem dX11_count_89 : decode cX11_count 89 = .ok (.ireturn, 1) := by decide +kernel
theorem dX11_within_0 : decode cX11_within 0 = .ok (.iload_n 0, 1) := by decide +kernel
theorem dX11_within_1 : decode cX11_within 1 = .ok (.iload_n 1, 1) := by decide +kernel
theorem dX11_within_2 : decode cX11_within 2 = .ok (.if_icmp .lt 12, 3) := by decide +kernel
theorem dX11_within_5 : decode cX11_within 5 = .ok (.iload_n 0, 1) := by decide +kernel
theorem dX11_within_6 : decode cX11_within 6 = .ok (.iload_n 2, 1) := by decide +kernel
theorem dX11_within_7 : decode cX11_within 7 = .ok (.if_icmp .gt 7, 3) := by decide +kernel
theorem dX11_within_10 : decode cX11_within 10 = .ok (.iconst 1, 1) := by decide +kernel
theorem dX11_within_11 : decode cX11_within 11 = .ok (.goto 4, 3) := by decide +kernel
theorem dX11_within_14 : decode cX11_within 14 = .ok (.iconst 0, 1) := by decide +kernel
theorem dX11_within_15 : decode cX11_within 15 = .ok (.ireturn, 1) := by decide +kernel
theorem dX11_isPlace_0 : decode cX11_isPlace 0 = .ok (.iload_n 0, 1) := by decide +kernel
theorem dX11_isPlace_1 : decode cX11_isPlace 1 = .ok (.iconst 0, 1) := by decide +kernel
theorem dX11_isPlace_2 : decode cX11_isPlace 2 = .ok (.bipush 11, 2) := by decide +kernel
theorem dX11_isPlace_4 : decode cX11_isPlace 4 = .ok (.invokestatic 100, 3) := by decide +kernel
theorem dX11_isPlace_7 : decode cX11_isPlace 7 = .ok (.ireturn, 1) := by decide +kernel
theorem dX11_isRefusal_0 : decode cX11_isRefusal 0 = .ok (.iload_n 0, 1) := by decide +kernel
theorem dX11_isRefusal_1 : decode cX11_isRefusal 1 = .ok (.iconst 0, 1) := by decide +kernel
theorem dX11_isRefusal_2 : decode cX11_isRefusal 2 = .ok (.bipush 6, 2) := by decide +kernel
theorem dX11_isRefusal_4 : decode cX11_isRefusal 4 = .ok (.invokestatic 100, 3) := by decide +kernel
theorem dX11_isRefusal_7 : decode cX11_isRefusal 7 = .ok (.ireturn, 1) := by decide +kernel
theorem dX11_isLine_0 : decode cX11_isLine 0 = .ok (.iload_n 1, 1) := by decide +kernel
theorem dX11_isLine_1 : decode cX11_isLine 1 = .ok (.iconst 5, 1) := by decide +kernel
theorem dX11_isLine_2 : decode cX11_isLine 2 = .ok (.if_icmp .ne 11, 3) := by decide +kernel
theorem dX11_isLine_5 : decode cX11_isLine 5 = .ok (.iload_n 2, 1) := by decide +kernel
theorem dX11_isLine_6 : decode cX11_isLine 6 = .ok (.iconst 0, 1) := by decide +kernel
theorem dX11_isLine_7 : decode cX11_isLine 7 = .ok (.bipush 9, 2) := by decide +kernel
theorem dX11_isLine_9 : decode cX11_isLine 9 = .ok (.invokestatic 100, 3) := by decide +kernel
theorem dX11_isLine_12 : decode cX11_isLine 12 = .ok (.ireturn, 1) := by decide +kernel
theorem dX11_isLine_13 : decode cX11_isLine 13 = .ok (.iload_n 1, 1) := by decide +kernel
theorem dX11_isLine_14 : decode cX11_isLine 14 = .ok (.bipush 6, 2) := by decide +kernel
theorem dX11_isLine_16 : decode cX11_isLine 16 = .ok (.if_icmp .ne 5, 3) := by decide +kernel
theorem dX11_isLine_19 : decode cX11_isLine 19 = .ok (.iconst 1, 1) := by decide +kernel
theorem dX11_isLine_20 : decode cX11_isLine 20 = .ok (.ireturn, 1) := by decide +kernel
theorem dX11_isLine_21 : decode cX11_isLine 21 = .ok (.iload_n 1, 1) := by decide +kernel
theorem dX11_isLine_22 : decode cX11_isLine 22 = .ok (.iconst 0, 1) := by decide +kernel
theorem dX11_isLine_23 : decode cX11_isLine 23 = .ok (.iconst 4, 1) := by decide +kernel
theorem dX11_isLine_24 : decode cX11_isLine 24 = .ok (.invokestatic 100, 3) := by decide +kernel
theorem dX11_isLine_27 : decode cX11_isLine 27 = .ok (.ifCond .eq 51, 3) := by decide +kernel
theorem dX11_isLine_30 : decode cX11_isLine 30 = .ok (.aload_n 0, 1) := by decide +kernel
theorem dX11_isLine_31 : decode cX11_isLine 31 = .ok (.getfield 21, 3) := by decide +kernel
theorem dX11_isLine_34 : decode cX11_isLine 34 = .ok (.iload_n 2, 1) := by decide +kernel
theorem dX11_isLine_35 : decode cX11_isLine 35 = .ok (.invokevirtual 116, 3) := by decide +kernel
theorem dX11_isLine_38 : decode cX11_isLine 38 = .ok (.ifCond .eq 40, 3) := by decide +kernel
theorem dX11_isLine_41 : decode cX11_isLine 41 = .ok (.aload_n 0, 1) := by decide +kernel
theorem dX11_isLine_42 : decode cX11_isLine 42 = .ok (.getfield 21, 3) := by decide +kernel
theorem dX11_isLine_45 : decode cX11_isLine 45 = .ok (.iload 4, 2) := by decide +kernel
theorem dX11_isLine_47 : decode cX11_isLine 47 = .ok (.invokevirtual 116, 3) := by decide +kernel
theorem dX11_isLine_50 : decode cX11_isLine 50 = .ok (.ifCond .eq 28, 3) := by decide +kernel
theorem dX11_isLine_53 : decode cX11_isLine 53 = .ok (.iload_n 3, 1) := by decide +kernel
theorem dX11_isLine_54 : decode cX11_isLine 54 = .ok (.iconst 0, 1) := by decide +kernel
theorem dX11_isLine_55 : decode cX11_isLine 55 = .ok (.bipush 13, 2) := by decide +kernel
theorem dX11_isLine_57 : decode cX11_isLine 57 = .ok (.invokestatic 100, 3) := by decide +kernel
theorem dX11_isLine_60 : decode cX11_isLine 60 = .ok (.ifCond .eq 18, 3) := by decide +kernel
theorem dX11_isLine_63 : decode cX11_isLine 63 = .ok (.iload 5, 2) := by decide +kernel
theorem dX11_isLine_65 : decode cX11_isLine 65 = .ok (.iconst 0, 1) := by decide +kernel
theorem dX11_isLine_66 : decode cX11_isLine 66 = .ok (.bipush 13, 2) := by decide +kernel
theorem dX11_isLine_68 : decode cX11_isLine 68 = .ok (.invokestatic 100, 3) := by decide +kernel
theorem dX11_isLine_71 : decode cX11_isLine 71 = .ok (.ifCond .eq 7, 3) := by decide +kernel
theorem dX11_isLine_74 : decode cX11_isLine 74 = .ok (.iconst 1, 1) := by decide +kernel
theorem dX11_isLine_75 : decode cX11_isLine 75 = .ok (.goto 4, 3) := by decide +kernel
theorem dX11_isLine_78 : decode cX11_isLine 78 = .ok (.iconst 0, 1) := by decide +kernel
theorem dX11_isLine_79 : decode cX11_isLine 79 = .ok (.ireturn, 1) := by decide +kernel
theorem dX11_runThrough_0 : decode cX11_runThrough 0 = .ok (.aload_n 0, 1) := by decide +kernel
theorem dX11_runThrough_1 : decode cX11_runThrough 1 = .ok (.getfield 46, 3) := by decide +kernel
theorem dX11_runThrough_4 : decode cX11_runThrough 4 = .ok (.invokevirtual 293, 3) := by decide +kernel
theorem dX11_runThrough_7 : decode cX11_runThrough 7 = .ok (.iconst 0, 1) := by decide +kernel
theorem dX11_runThrough_8 : decode cX11_runThrough 8 = .ok (.istore_n 1, 1) := by decide +kernel
theorem dX11_runThrough_9 : decode cX11_runThrough 9 = .ok (.iload_n 1, 1) := by decide +kernel
theorem dX11_runThrough_10 : decode cX11_runThrough 10 = .ok (.bipush 60, 2) := by decide +kernel
theorem dX11_runThrough_12 : decode cX11_runThrough 12 = .ok (.if_icmp .ge 140, 3) := by decide +kernel
theorem dX11_runThrough_15 : decode cX11_runThrough 15 = .ok (.aload_n 0, 1) := by decide +kernel
theorem dX11_runThrough_16 : decode cX11_runThrough 16 = .ok (.getfield 46, 3) := by decide +kernel
theorem dX11_runThrough_19 : decode cX11_runThrough 19 = .ok (.invokevirtual 296, 3) := by decide +kernel
theorem dX11_runThrough_22 : decode cX11_runThrough 22 = .ok (.istore_n 2, 1) := by decide +kernel
theorem dX11_runThrough_23 : decode cX11_runThrough 23 = .ok (.iload_n 2, 1) := by decide +kernel
theorem dX11_runThrough_24 : decode cX11_runThrough 24 = .ok (.bipush (-20), 2) := by decide +kernel
theorem dX11_runThrough_26 : decode cX11_runThrough 26 = .ok (.if_icmp .ne 5, 3) := by decide +kernel
theorem dX11_runThrough_29 : decode cX11_runThrough 29 = .ok (.iload_n 1, 1) := by decide +kernel
theorem dX11_runThrough_30 : decode cX11_runThrough 30 = .ok (.ireturn, 1) := by decide +kernel
theorem dX11_runThrough_31 : decode cX11_runThrough 31 = .ok (.aload_n 0, 1) := by decide +kernel
theorem dX11_runThrough_32 : decode cX11_runThrough 32 = .ok (.getfield 30, 3) := by decide +kernel
theorem dX11_runThrough_35 : decode cX11_runThrough 35 = .ok (.aload_n 0, 1) := by decide +kernel
theorem dX11_runThrough_36 : decode cX11_runThrough 36 = .ok (.getfield 37, 3) := by decide +kernel
theorem dX11_runThrough_39 : decode cX11_runThrough 39 = .ok (.iload_n 2, 1) := by decide +kernel
theorem dX11_runThrough_40 : decode cX11_runThrough 40 = .ok (.iconst 0, 1) := by decide +kernel
theorem dX11_runThrough_41 : decode cX11_runThrough 41 = .ok (.invokevirtual 227, 3) := by decide +kernel
theorem dX11_runThrough_44 : decode cX11_runThrough 44 = .ok (.aload_n 0, 1) := by decide +kernel
theorem dX11_runThrough_45 : decode cX11_runThrough 45 = .ok (.getfield 37, 3) := by decide +kernel
theorem dX11_runThrough_48 : decode cX11_runThrough 48 = .ok (.iload_n 2, 1) := by decide +kernel
theorem dX11_runThrough_49 : decode cX11_runThrough 49 = .ok (.iconst 1, 1) := by decide +kernel
theorem dX11_runThrough_50 : decode cX11_runThrough 50 = .ok (.invokevirtual 227, 3) := by decide +kernel
theorem dX11_runThrough_53 : decode cX11_runThrough 53 = .ok (.aload_n 0, 1) := by decide +kernel
theorem dX11_runThrough_54 : decode cX11_runThrough 54 = .ok (.getfield 46, 3) := by decide +kernel
theorem dX11_runThrough_57 : decode cX11_runThrough 57 = .ok (.iload_n 2, 1) := by decide +kernel
theorem dX11_runThrough_58 : decode cX11_runThrough 58 = .ok (.iconst 2, 1) := by decide +kernel
theorem dX11_runThrough_59 : decode cX11_runThrough 59 = .ok (.invokevirtual 299, 3) := by decide +kernel
theorem dX11_runThrough_62 : decode cX11_runThrough 62 = .ok (.aload_n 0, 1) := by decide +kernel
theorem dX11_runThrough_63 : decode cX11_runThrough 63 = .ok (.getfield 37, 3) := by decide +kernel
theorem dX11_runThrough_66 : decode cX11_runThrough 66 = .ok (.iload_n 2, 1) := by decide +kernel
theorem dX11_runThrough_67 : decode cX11_runThrough 67 = .ok (.iconst 3, 1) := by decide +kernel
theorem dX11_runThrough_68 : decode cX11_runThrough 68 = .ok (.invokevirtual 227, 3) := by decide +kernel
theorem dX11_runThrough_71 : decode cX11_runThrough 71 = .ok (.aload_n 0, 1) := by decide +kernel
theorem dX11_runThrough_72 : decode cX11_runThrough 72 = .ok (.getfield 46, 3) := by decide +kernel
theorem dX11_runThrough_75 : decode cX11_runThrough 75 = .ok (.iload_n 2, 1) := by decide +kernel
theorem dX11_runThrough_76 : decode cX11_runThrough 76 = .ok (.iconst 4, 1) := by decide +kernel
theorem dX11_runThrough_77 : decode cX11_runThrough 77 = .ok (.invokevirtual 299, 3) := by decide +kernel
theorem dX11_runThrough_80 : decode cX11_runThrough 80 = .ok (.invokevirtual 185, 3) := by decide +kernel
theorem dX11_runThrough_83 : decode cX11_runThrough 83 = .ok (.istore_n 3, 1) := by decide +kernel
theorem dX11_runThrough_84 : decode cX11_runThrough 84 = .ok (.bipush (-4), 2) := by decide +kernel
theorem dX11_runThrough_86 : decode cX11_runThrough 86 = .ok (.iload_n 3, 1) := by decide +kernel
theorem dX11_runThrough_87 : decode cX11_runThrough 87 = .ok (.isub, 1) := by decide +kernel
theorem dX11_runThrough_88 : decode cX11_runThrough 88 = .ok (.istore 4, 2) := by decide +kernel
theorem dX11_runThrough_90 : decode cX11_runThrough 90 = .ok (.iload_n 3, 1) := by decide +kernel
theorem dX11_runThrough_91 : decode cX11_runThrough 91 = .ok (.ifCond .eq 55, 3) := by decide +kernel
theorem dX11_runThrough_94 : decode cX11_runThrough 94 = .ok (.iload 4, 2) := by decide +kernel
theorem dX11_runThrough_96 : decode cX11_runThrough 96 = .ok (.invokestatic 217, 3) := by decide +kernel
theorem dX11_runThrough_99 : decode cX11_runThrough 99 = .ok (.ifCond .ne 6, 3) := by decide +kernel
theorem dX11_runThrough_102 : decode cX11_runThrough 102 = .ok (.goto 44, 3) := by decide +kernel
theorem dX11_runThrough_105 : decode cX11_runThrough 105 = .ok (.aload_n 0, 1) := by decide +kernel
theorem dX11_runThrough_106 : decode cX11_runThrough 106 = .ok (.getfield 94, 3) := by decide +kernel
theorem dX11_runThrough_109 : decode cX11_runThrough 109 = .ok (.iload 4, 2) := by decide +kernel
theorem dX11_runThrough_111 : decode cX11_runThrough 111 = .ok (.dup2, 1) := by decide +kernel
theorem dX11_runThrough_112 : decode cX11_runThrough 112 = .ok (.iaload, 1) := by decide +kernel
theorem dX11_runThrough_113 : decode cX11_runThrough 113 = .ok (.iconst 1, 1) := by decide +kernel
theorem dX11_runThrough_114 : decode cX11_runThrough 114 = .ok (.iadd, 1) := by decide +kernel
theorem dX11_runThrough_115 : decode cX11_runThrough 115 = .ok (.iastore, 1) := by decide +kernel
theorem dX11_runThrough_116 : decode cX11_runThrough 116 = .ok (.aload_n 0, 1) := by decide +kernel
theorem dX11_runThrough_117 : decode cX11_runThrough 117 = .ok (.getfield 90, 3) := by decide +kernel
theorem dX11_runThrough_120 : decode cX11_runThrough 120 = .ok (.iload 4, 2) := by decide +kernel
theorem dX11_runThrough_122 : decode cX11_runThrough 122 = .ok (.iaload, 1) := by decide +kernel
theorem dX11_runThrough_123 : decode cX11_runThrough 123 = .ok (.ifCond .ne 5, 3) := by decide +kernel
theorem dX11_runThrough_126 : decode cX11_runThrough 126 = .ok (.iload_n 3, 1) := by decide +kernel
theorem dX11_runThrough_127 : decode cX11_runThrough 127 = .ok (.ireturn, 1) := by decide +kernel
theorem dX11_runThrough_128 : decode cX11_runThrough 128 = .ok (.aload_n 0, 1) := by decide +kernel
theorem dX11_runThrough_129 : decode cX11_runThrough 129 = .ok (.getfield 90, 3) := by decide +kernel
theorem dX11_runThrough_132 : decode cX11_runThrough 132 = .ok (.iload 4, 2) := by decide +kernel
theorem dX11_runThrough_134 : decode cX11_runThrough 134 = .ok (.iaload, 1) := by decide +kernel
theorem dX11_runThrough_135 : decode cX11_runThrough 135 = .ok (.iconst 2, 1) := by decide +kernel
theorem dX11_runThrough_136 : decode cX11_runThrough 136 = .ok (.if_icmp .ne 10, 3) := by decide +kernel
theorem dX11_runThrough_139 : decode cX11_runThrough 139 = .ok (.aload_n 0, 1) := by decide +kernel
theorem dX11_runThrough_140 : decode cX11_runThrough 140 = .ok (.getfield 46, 3) := by decide +kernel
theorem dX11_runThrough_143 : decode cX11_runThrough 143 = .ok (.invokevirtual 302, 3) := by decide +kernel
theorem dX11_runThrough_146 : decode cX11_runThrough 146 = .ok (.iinc 1 1, 3) := by decide +kernel
theorem dX11_runThrough_149 : decode cX11_runThrough 149 = .ok (.goto (-140), 3) := by decide +kernel
theorem dX11_runThrough_152 : decode cX11_runThrough 152 = .ok (.aload_n 0, 1) := by decide +kernel
theorem dX11_runThrough_153 : decode cX11_runThrough 153 = .ok (.getfield 46, 3) := by decide +kernel
theorem dX11_runThrough_156 : decode cX11_runThrough 156 = .ok (.invokevirtual 296, 3) := by decide +kernel
theorem dX11_runThrough_159 : decode cX11_runThrough 159 = .ok (.bipush (-20), 2) := by decide +kernel
theorem dX11_runThrough_161 : decode cX11_runThrough 161 = .ok (.if_icmp .ne 8, 3) := by decide +kernel
theorem dX11_runThrough_164 : decode cX11_runThrough 164 = .ok (.bipush 60, 2) := by decide +kernel
theorem dX11_runThrough_166 : decode cX11_runThrough 166 = .ok (.goto 5, 3) := by decide +kernel
theorem dX11_runThrough_169 : decode cX11_runThrough 169 = .ok (.bipush (-11), 2) := by decide +kernel
theorem dX11_runThrough_171 : decode cX11_runThrough 171 = .ok (.ireturn, 1) := by decide +kernel
theorem dX11_foretellAll_0 : decode cX11_foretellAll 0 = .ok (.iconst 0, 1) := by decide +kernel
theorem dX11_foretellAll_1 : decode cX11_foretellAll 1 = .ok (.istore_n 1, 1) := by decide +kernel
theorem dX11_foretellAll_2 : decode cX11_foretellAll 2 = .ok (.iload_n 1, 1) := by decide +kernel
theorem dX11_foretellAll_3 : decode cX11_foretellAll 3 = .ok (.bipush 6, 2) := by decide +kernel
theorem dX11_foretellAll_5 : decode cX11_foretellAll 5 = .ok (.if_icmp .gt 16, 3) := by decide +kernel
theorem dX11_foretellAll_8 : decode cX11_foretellAll 8 = .ok (.aload_n 0, 1) := by decide +kernel
theorem dX11_foretellAll_9 : decode cX11_foretellAll 9 = .ok (.getfield 97, 3) := by decide +kernel
theorem dX11_foretellAll_12 : decode cX11_foretellAll 12 = .ok (.iload_n 1, 1) := by decide +kernel
theorem dX11_foretellAll_13 : decode cX11_foretellAll 13 = .ok (.iconst 0, 1) := by decide +kernel
theorem dX11_foretellAll_14 : decode cX11_foretellAll 14 = .ok (.iastore, 1) := by decide +kernel
theorem dX11_foretellAll_15 : decode cX11_foretellAll 15 = .ok (.iinc 1 1, 3) := by decide +kernel
theorem dX11_foretellAll_18 : decode cX11_foretellAll 18 = .ok (.goto (-16), 3) := by decide +kernel
theorem dX11_foretellAll_21 : decode cX11_foretellAll 21 = .ok (.aload_n 0, 1) := by decide +kernel
theorem dX11_foretellAll_22 : decode cX11_foretellAll 22 = .ok (.getfield 46, 3) := by decide +kernel
theorem dX11_foretellAll_25 : decode cX11_foretellAll 25 = .ok (.invokevirtual 293, 3) := by decide +kernel
theorem dX11_foretellAll_28 : decode cX11_foretellAll 28 = .ok (.iconst 0, 1) := by decide +kernel
theorem dX11_foretellAll_29 : decode cX11_foretellAll 29 = .ok (.istore_n 1, 1) := by decide +kernel
theorem dX11_foretellAll_30 : decode cX11_foretellAll 30 = .ok (.iload_n 1, 1) := by decide +kernel
theorem dX11_foretellAll_31 : decode cX11_foretellAll 31 = .ok (.bipush 60, 2) := by decide +kernel
theorem dX11_foretellAll_33 : decode cX11_foretellAll 33 = .ok (.if_icmp .ge 97, 3) := by decide +kernel
theorem dX11_foretellAll_36 : decode cX11_foretellAll 36 = .ok (.aload_n 0, 1) := by decide +kernel
theorem dX11_foretellAll_37 : decode cX11_foretellAll 37 = .ok (.getfield 46, 3) := by decide +kernel
theorem dX11_foretellAll_40 : decode cX11_foretellAll 40 = .ok (.invokevirtual 296, 3) := by decide +kernel
theorem dX11_foretellAll_43 : decode cX11_foretellAll 43 = .ok (.istore_n 2, 1) := by decide +kernel
theorem dX11_foretellAll_44 : decode cX11_foretellAll 44 = .ok (.iload_n 2, 1) := by decide +kernel
theorem dX11_foretellAll_45 : decode cX11_foretellAll 45 = .ok (.bipush (-20), 2) := by decide +kernel
theorem dX11_foretellAll_47 : decode cX11_foretellAll 47 = .ok (.if_icmp .ne 4, 3) := by decide +kernel
theorem dX11_foretellAll_50 : decode cX11_foretellAll 50 = .ok (.return_, 1) := by decide +kernel
theorem dX11_foretellAll_51 : decode cX11_foretellAll 51 = .ok (.aload_n 0, 1) := by decide +kernel
theorem dX11_foretellAll_52 : decode cX11_foretellAll 52 = .ok (.getfield 30, 3) := by decide +kernel
theorem dX11_foretellAll_55 : decode cX11_foretellAll 55 = .ok (.aload_n 0, 1) := by decide +kernel
theorem dX11_foretellAll_56 : decode cX11_foretellAll 56 = .ok (.getfield 37, 3) := by decide +kernel
theorem dX11_foretellAll_59 : decode cX11_foretellAll 59 = .ok (.iload_n 2, 1) := by decide +kernel
theorem dX11_foretellAll_60 : decode cX11_foretellAll 60 = .ok (.iconst 0, 1) := by decide +kernel
theorem dX11_foretellAll_61 : decode cX11_foretellAll 61 = .ok (.invokevirtual 227, 3) := by decide +kernel
theorem dX11_foretellAll_64 : decode cX11_foretellAll 64 = .ok (.aload_n 0, 1) := by decide +kernel
theorem dX11_foretellAll_65 : decode cX11_foretellAll 65 = .ok (.getfield 37, 3) := by decide +kernel
theorem dX11_foretellAll_68 : decode cX11_foretellAll 68 = .ok (.iload_n 2, 1) := by decide +kernel
theorem dX11_foretellAll_69 : decode cX11_foretellAll 69 = .ok (.iconst 1, 1) := by decide +kernel
theorem dX11_foretellAll_70 : decode cX11_foretellAll 70 = .ok (.invokevirtual 227, 3) := by decide +kernel
theorem dX11_foretellAll_73 : decode cX11_foretellAll 73 = .ok (.aload_n 0, 1) := by decide +kernel
theorem dX11_foretellAll_74 : decode cX11_foretellAll 74 = .ok (.getfield 46, 3) := by decide +kernel
theorem dX11_foretellAll_77 : decode cX11_foretellAll 77 = .ok (.iload_n 2, 1) := by decide +kernel
theorem dX11_foretellAll_78 : decode cX11_foretellAll 78 = .ok (.iconst 2, 1) := by decide +kernel
theorem dX11_foretellAll_79 : decode cX11_foretellAll 79 = .ok (.invokevirtual 299, 3) := by decide +kernel
theorem dX11_foretellAll_82 : decode cX11_foretellAll 82 = .ok (.aload_n 0, 1) := by decide +kernel
theorem dX11_foretellAll_83 : decode cX11_foretellAll 83 = .ok (.getfield 37, 3) := by decide +kernel
theorem dX11_foretellAll_86 : decode cX11_foretellAll 86 = .ok (.iload_n 2, 1) := by decide +kernel
theorem dX11_foretellAll_87 : decode cX11_foretellAll 87 = .ok (.iconst 3, 1) := by decide +kernel
theorem dX11_foretellAll_88 : decode cX11_foretellAll 88 = .ok (.invokevirtual 227, 3) := by decide +kernel
theorem dX11_foretellAll_91 : decode cX11_foretellAll 91 = .ok (.aload_n 0, 1) := by decide +kernel
theorem dX11_foretellAll_92 : decode cX11_foretellAll 92 = .ok (.getfield 46, 3) := by decide +kernel
theorem dX11_foretellAll_95 : decode cX11_foretellAll 95 = .ok (.iload_n 2, 1) := by decide +kernel
theorem dX11_foretellAll_96 : decode cX11_foretellAll 96 = .ok (.iconst 4, 1) := by decide +kernel
theorem dX11_foretellAll_97 : decode cX11_foretellAll 97 = .ok (.invokevirtual 299, 3) := by decide +kernel
theorem dX11_foretellAll_100 : decode cX11_foretellAll 100 = .ok (.invokevirtual 305, 3) := by decide +kernel
theorem dX11_foretellAll_103 : decode cX11_foretellAll 103 = .ok (.istore_n 3, 1) := by decide +kernel
theorem dX11_foretellAll_104 : decode cX11_foretellAll 104 = .ok (.iload_n 3, 1) := by decide +kernel
theorem dX11_foretellAll_105 : decode cX11_foretellAll 105 = .ok (.iconst 0, 1) := by decide +kernel
theorem dX11_foretellAll_106 : decode cX11_foretellAll 106 = .ok (.bipush 6, 2) := by decide +kernel
theorem dX11_foretellAll_108 : decode cX11_foretellAll 108 = .ok (.invokestatic 100, 3) := by decide +kernel
theorem dX11_foretellAll_111 : decode cX11_foretellAll 111 = .ok (.ifCond .eq 13, 3) := by decide +kernel
theorem dX11_foretellAll_114 : decode cX11_foretellAll 114 = .ok (.aload_n 0, 1) := by decide +kernel
theorem dX11_foretellAll_115 : decode cX11_foretellAll 115 = .ok (.getfield 97, 3) := by decide +kernel
theorem dX11_foretellAll_118 : decode cX11_foretellAll 118 = .ok (.iload_n 3, 1) := by decide +kernel
theorem dX11_foretellAll_119 : decode cX11_foretellAll 119 = .ok (.dup2, 1) := by decide +kernel
theorem dX11_foretellAll_120 : decode cX11_foretellAll 120 = .ok (.iaload, 1) := by decide +kernel
theorem dX11_foretellAll_121 : decode cX11_foretellAll 121 = .ok (.iconst 1, 1) := by decide +kernel
theorem dX11_foretellAll_122 : decode cX11_foretellAll 122 = .ok (.iadd, 1) := by decide +kernel
theorem dX11_foretellAll_123 : decode cX11_foretellAll 123 = .ok (.iastore, 1) := by decide +kernel
theorem dX11_foretellAll_124 : decode cX11_foretellAll 124 = .ok (.iinc 1 1, 3) := by decide +kernel
theorem dX11_foretellAll_127 : decode cX11_foretellAll 127 = .ok (.goto (-97), 3) := by decide +kernel
theorem dX11_foretellAll_130 : decode cX11_foretellAll 130 = .ok (.return_, 1) := by decide +kernel
theorem dX12_init_0 : decode cX12_init 0 = .ok (.aload_n 0, 1) := by decide +kernel
theorem dX12_init_1 : decode cX12_init 1 = .ok (.invokespecial 1, 3) := by decide +kernel
theorem dX12_init_4 : decode cX12_init 4 = .ok (.aload_n 0, 1) := by decide +kernel
theorem dX12_init_5 : decode cX12_init 5 = .ok (.bipush 6, 2) := by decide +kernel
theorem dX12_init_7 : decode cX12_init 7 = .ok (.newarray .int, 2) := by decide +kernel
theorem dX12_init_9 : decode cX12_init 9 = .ok (.putfield 7, 3) := by decide +kernel
theorem dX12_init_12 : decode cX12_init 12 = .ok (.aload_n 0, 1) := by decide +kernel
theorem dX12_init_13 : decode cX12_init 13 = .ok (.bipush 6, 2) := by decide +kernel
theorem dX12_init_15 : decode cX12_init 15 = .ok (.newarray .int, 2) := by decide +kernel
theorem dX12_init_17 : decode cX12_init 17 = .ok (.putfield 13, 3) := by decide +kernel
theorem dX12_init_20 : decode cX12_init 20 = .ok (.aload_n 0, 1) := by decide +kernel
theorem dX12_init_21 : decode cX12_init 21 = .ok (.bipush 72, 2) := by decide +kernel
theorem dX12_init_23 : decode cX12_init 23 = .ok (.newarray .int, 2) := by decide +kernel
theorem dX12_init_25 : decode cX12_init 25 = .ok (.putfield 16, 3) := by decide +kernel
theorem dX12_init_28 : decode cX12_init 28 = .ok (.aload_n 0, 1) := by decide +kernel
theorem dX12_init_29 : decode cX12_init 29 = .ok (.bipush 72, 2) := by decide +kernel
theorem dX12_init_31 : decode cX12_init 31 = .ok (.newarray .long, 2) := by decide +kernel
theorem dX12_init_33 : decode cX12_init 33 = .ok (.putfield 19, 3) := by decide +kernel
theorem dX12_init_36 : decode cX12_init 36 = .ok (.aload_n 0, 1) := by decide +kernel
theorem dX12_init_37 : decode cX12_init 37 = .ok (.bipush 8, 2) := by decide +kernel
theorem dX12_init_39 : decode cX12_init 39 = .ok (.newarray .int, 2) := by decide +kernel
theorem dX12_init_41 : decode cX12_init 41 = .ok (.putfield 23, 3) := by decide +kernel
theorem dX12_init_44 : decode cX12_init 44 = .ok (.aload_n 0, 1) := by decide +kernel
theorem dX12_init_45 : decode cX12_init 45 = .ok (.bipush 8, 2) := by decide +kernel
theorem dX12_init_47 : decode cX12_init 47 = .ok (.newarray .int, 2) := by decide +kernel
theorem dX12_init_49 : decode cX12_init 49 = .ok (.putfield 26, 3) := by decide +kernel
theorem dX12_init_52 : decode cX12_init 52 = .ok (.aload_n 0, 1) := by decide +kernel
theorem dX12_init_53 : decode cX12_init 53 = .ok (.bipush 8, 2) := by decide +kernel
theorem dX12_init_55 : decode cX12_init 55 = .ok (.newarray .int, 2) := by decide +kernel
theorem dX12_init_57 : decode cX12_init 57 = .ok (.putfield 29, 3) := by decide +kernel
theorem dX12_init_60 : decode cX12_init 60 = .ok (.aload_n 0, 1) := by decide +kernel
theorem dX12_init_61 : decode cX12_init 61 = .ok (.bipush 8, 2) := by decide +kernel
theorem dX12_init_63 : decode cX12_init 63 = .ok (.newarray .int, 2) := by decide +kernel
theorem dX12_init_65 : decode cX12_init 65 = .ok (.putfield 32, 3) := by decide +kernel
theorem dX12_init_68 : decode cX12_init 68 = .ok (.aload_n 0, 1) := by decide +kernel
theorem dX12_init_69 : decode cX12_init 69 = .ok (.bipush 8, 2) := by decide +kernel
theorem dX12_init_71 : decode cX12_init 71 = .ok (.newarray .int, 2) := by decide +kernel
theorem dX12_init_73 : decode cX12_init 73 = .ok (.putfield 35, 3) := by decide +kernel
theorem dX12_init_76 : decode cX12_init 76 = .ok (.aload_n 0, 1) := by decide +kernel
theorem dX12_init_77 : decode cX12_init 77 = .ok (.bipush 8, 2) := by decide +kernel
theorem dX12_init_79 : decode cX12_init 79 = .ok (.newarray .int, 2) := by decide +kernel
theorem dX12_init_81 : decode cX12_init 81 = .ok (.putfield 38, 3) := by decide +kernel
theorem dX12_init_84 : decode cX12_init 84 = .ok (.aload_n 0, 1) := by decide +kernel
theorem dX12_init_85 : decode cX12_init 85 = .ok (.bipush (-20), 2) := by decide +kernel
theorem dX12_init_87 : decode cX12_init 87 = .ok (.putfield 41, 3) := by decide +kernel
theorem dX12_init_90 : decode cX12_init 90 = .ok (.aload_n 0, 1) := by decide +kernel
theorem dX12_init_91 : decode cX12_init 91 = .ok (.bipush 10, 2) := by decide +kernel
theorem dX12_init_93 : decode cX12_init 93 = .ok (.newarray .int, 2) := by decide +kernel
theorem dX12_init_95 : decode cX12_init 95 = .ok (.putfield 45, 3) := by decide +kernel
theorem dX12_init_98 : decode cX12_init 98 = .ok (.aload_n 0, 1) := by decide +kernel
theorem dX12_init_99 : decode cX12_init 99 = .ok (.sipush 720, 3) := by decide +kernel
theorem dX12_init_102 : decode cX12_init 102 = .ok (.newarray .int, 2) := by decide +kernel
theorem dX12_init_104 : decode cX12_init 104 = .ok (.putfield 48, 3) := by decide +kernel
theorem dX12_init_107 : decode cX12_init 107 = .ok (.aload_n 0, 1) := by decide +kernel
theorem dX12_init_108 : decode cX12_init 108 = .ok (.sipush 720, 3) := by decide +kernel
theorem dX12_init_111 : decode cX12_init 111 = .ok (.newarray .long, 2) := by decide +kernel
theorem dX12_init_113 : decode cX12_init 113 = .ok (.putfield 51, 3) := by decide +kernel
theorem dX12_init_116 : decode cX12_init 116 = .ok (.aload_n 0, 1) := by decide +kernel
theorem dX12_init_117 : decode cX12_init 117 = .ok (.sipush 144, 3) := by decide +kernel
theorem dX12_init_120 : decode cX12_init 120 = .ok (.newarray .int, 2) := by decide +kernel
theorem dX12_init_122 : decode cX12_init 122 = .ok (.putfield 54, 3) := by decide +kernel
theorem dX12_init_125 : decode cX12_init 125 = .ok (.aload_n 0, 1) := by decide +kernel
theorem dX12_init_126 : decode cX12_init 126 = .ok (.sipush 144, 3) := by decide +kernel
theorem dX12_init_129 : decode cX12_init 129 = .ok (.newarray .long, 2) := by decide +kernel
theorem dX12_init_131 : decode cX12_init 131 = .ok (.putfield 57, 3) := by decide +kernel
theorem dX12_init_134 : decode cX12_init 134 = .ok (.aload_n 0, 1) := by decide +kernel
theorem dX12_init_135 : decode cX12_init 135 = .ok (.iconst 2, 1) := by decide +kernel
theorem dX12_init_136 : decode cX12_init 136 = .ok (.newarray .int, 2) := by decide +kernel
theorem dX12_init_138 : decode cX12_init 138 = .ok (.putfield 60, 3) := by decide +kernel
theorem dX12_init_141 : decode cX12_init 141 = .ok (.aload_n 0, 1) := by decide +kernel
theorem dX12_init_142 : decode cX12_init 142 = .ok (.bipush 80, 2) := by decide +kernel
theorem dX12_init_144 : decode cX12_init 144 = .ok (.newarray .int, 2) := by decide +kernel
theorem dX12_init_146 : decode cX12_init 146 = .ok (.putfield 63, 3) := by decide +kernel
theorem dX12_init_149 : decode cX12_init 149 = .ok (.aload_n 0, 1) := by decide +kernel
theorem dX12_init_150 : decode cX12_init 150 = .ok (.bipush 7, 2) := by decide +kernel
theorem dX12_init_152 : decode cX12_init 152 = .ok (.newarray .int, 2) := by decide +kernel
theorem dX12_init_154 : decode cX12_init 154 = .ok (.putfield 66, 3) := by decide +kernel
theorem dX12_init_157 : decode cX12_init 157 = .ok (.aload_n 0, 1) := by decide +kernel
theorem dX12_init_158 : decode cX12_init 158 = .ok (.bipush 7, 2) := by decide +kernel
theorem dX12_init_160 : decode cX12_init 160 = .ok (.newarray .int, 2) := by decide +kernel
theorem dX12_init_162 : decode cX12_init 162 = .ok (.putfield 69, 3) := by decide +kernel
theorem dX12_init_165 : decode cX12_init 165 = .ok (.aload_n 0, 1) := by decide +kernel
theorem dX12_init_166 : decode cX12_init 166 = .ok (.bipush 6, 2) := by decide +kernel
theorem dX12_init_168 : decode cX12_init 168 = .ok (.newarray .int, 2) := by decide +kernel
theorem dX12_init_170 : decode cX12_init 170 = .ok (.putfield 72, 3) := by decide +kernel
theorem dX12_init_173 : decode cX12_init 173 = .ok (.aload_n 0, 1) := by decide +kernel
theorem dX12_init_174 : decode cX12_init 174 = .ok (.bipush 6, 2) := by decide +kernel
theorem dX12_init_176 : decode cX12_init 176 = .ok (.newarray .int, 2) := by decide +kernel
theorem dX12_init_178 : decode cX12_init 178 = .ok (.putfield 75, 3) := by decide +kernel
theorem dX12_init_181 : decode cX12_init 181 = .ok (.aload_n 0, 1) := by decide +kernel
theorem dX12_init_182 : decode cX12_init 182 = .ok (.sipush 8192, 3) := by decide +kernel
theorem dX12_init_185 : decode cX12_init 185 = .ok (.newarray .byte, 2) := by decide +kernel
theorem dX12_init_187 : decode cX12_init 187 = .ok (.putfield 78, 3) := by decide +kernel
theorem dX12_init_190 : decode cX12_init 190 = .ok (.aload_n 0, 1) := by decide +kernel
theorem dX12_init_191 : decode cX12_init 191 = .ok (.bipush 72, 2) := by decide +kernel
theorem dX12_init_193 : decode cX12_init 193 = .ok (.newarray .int, 2) := by decide +kernel
theorem dX12_init_195 : decode cX12_init 195 = .ok (.putfield 82, 3) := by decide +kernel
theorem dX12_init_198 : decode cX12_init 198 = .ok (.aload_n 0, 1) := by decide +kernel
theorem dX12_init_199 : decode cX12_init 199 = .ok (.bipush 72, 2) := by decide +kernel
theorem dX12_init_201 : decode cX12_init 201 = .ok (.newarray .long, 2) := by decide +kernel
theorem dX12_init_203 : decode cX12_init 203 = .ok (.putfield 85, 3) := by decide +kernel
theorem dX12_init_206 : decode cX12_init 206 = .ok (.aload_n 0, 1) := by decide +kernel
theorem dX12_init_207 : decode cX12_init 207 = .ok (.bipush 12, 2) := by decide +kernel
theorem dX12_init_209 : decode cX12_init 209 = .ok (.newarray .int, 2) := by decide +kernel
theorem dX12_init_211 : decode cX12_init 211 = .ok (.putfield 88, 3) := by decide +kernel
theorem dX12_init_214 : decode cX12_init 214 = .ok (.aload_n 0, 1) := by decide +kernel
theorem dX12_init_215 : decode cX12_init 215 = .ok (.bipush 12, 2) := by decide +kernel
theorem dX12_init_217 : decode cX12_init 217 = .ok (.newarray .long, 2) := by decide +kernel
theorem dX12_init_219 : decode cX12_init 219 = .ok (.putfield 91, 3) := by decide +kernel
theorem dX12_init_222 : decode cX12_init 222 = .ok (.aload_n 0, 1) := by decide +kernel
theorem dX12_init_223 : decode cX12_init 223 = .ok (.iconst 3, 1) := by decide +kernel
theorem dX12_init_224 : decode cX12_init 224 = .ok (.newarray .int, 2) := by decide +kernel
theorem dX12_init_226 : decode cX12_init 226 = .ok (.putfield 94, 3) := by decide +kernel
theorem dX12_init_229 : decode cX12_init 229 = .ok (.aload_n 0, 1) := by decide +kernel
theorem dX12_init_230 : decode cX12_init 230 = .ok (.iconst 3, 1) := by decide +kernel
theorem dX12_init_231 : decode cX12_init 231 = .ok (.newarray .int, 2) := by decide +kernel
theorem dX12_init_233 : decode cX12_init 233 = .ok (.putfield 97, 3) := by decide +kernel
theorem dX12_init_236 : decode cX12_init 236 = .ok (.aload_n 0, 1) := by decide +kernel
theorem dX12_init_237 : decode cX12_init 237 = .ok (.bipush 16, 2) := by decide +kernel
theorem dX12_init_239 : decode cX12_init 239 = .ok (.newarray .int, 2) := by decide +kernel
theorem dX12_init_241 : decode cX12_init 241 = .ok (.putfield 100, 3) := by decide +kernel
theorem dX12_init_244 : decode cX12_init 244 = .ok (.aload_n 0, 1) := by decide +kernel
theorem dX12_init_245 : decode cX12_init 245 = .ok (.bipush 80, 2) := by decide +kernel
theorem dX12_init_247 : decode cX12_init 247 = .ok (.newarray .int, 2) := by decide +kernel
theorem dX12_init_249 : decode cX12_init 249 = .ok (.putfield 103, 3) := by decide +kernel
theorem dX12_init_252 : decode cX12_init 252 = .ok (.aload_n 0, 1) := by decide +kernel
theorem dX12_init_253 : decode cX12_init 253 = .ok (.bipush 104, 2) := by decide +kernel
theorem dX12_init_255 : decode cX12_init 255 = .ok (.newarray .int, 2) := by decide +kernel
theorem dX12_init_257 : decode cX12_init 257 = .ok (.putfield 106, 3) := by decide +kernel
theorem dX12_init_260 : decode cX12_init 260 = .ok (.aload_n 0, 1) := by decide +kernel
theorem dX12_init_261 : decode cX12_init 261 = .ok (.getfield 60, 3) := by decide +kernel
theorem dX12_init_264 : decode cX12_init 264 = .ok (.iconst 0, 1) := by decide +kernel
theorem dX12_init_265 : decode cX12_init 265 = .ok (.bipush (-20), 2) := by decide +kernel
theorem dX12_init_267 : decode cX12_init 267 = .ok (.iastore, 1) := by decide +kernel
theorem dX12_init_268 : decode cX12_init 268 = .ok (.aload_n 0, 1) := by decide +kernel
theorem dX12_init_269 : decode cX12_init 269 = .ok (.getfield 60, 3) := by decide +kernel
theorem dX12_init_272 : decode cX12_init 272 = .ok (.iconst 1, 1) := by decide +kernel
theorem dX12_init_273 : decode cX12_init 273 = .ok (.bipush (-20), 2) := by decide +kernel
theorem dX12_init_275 : decode cX12_init 275 = .ok (.iastore, 1) := by decide +kernel
theorem dX12_init_276 : decode cX12_init 276 = .ok (.return_, 1) := by decide +kernel
theorem dX12_in_0 : decode cX12_in 0 = .ok (.lload_n 0, 1) := by decide +kernel
theorem dX12_in_1 : decode cX12_in 1 = .ok (.lload_n 2, 1) := by decide +kernel
theorem dX12_in_2 : decode cX12_in 2 = .ok (.lcmp, 1) := by decide +kernel
theorem dX12_in_3 : decode cX12_in 3 = .ok (.ifCond .lt 14, 3) := by decide +kernel
theorem dX12_in_6 : decode cX12_in 6 = .ok (.lload_n 0, 1) := by decide +kernel
theorem dX12_in_7 : decode cX12_in 7 = .ok (.lload 4, 2) := by decide +kernel
theorem dX12_in_9 : decode cX12_in 9 = .ok (.lcmp, 1) := by decide +kernel
theorem dX12_in_10 : decode cX12_in 10 = .ok (.ifCond .gt 7, 3) := by decide +kernel
theorem dX12_in_13 : decode cX12_in 13 = .ok (.iconst 1, 1) := by decide +kernel
theorem dX12_in_14 : decode cX12_in 14 = .ok (.goto 4, 3) := by decide +kernel
theorem dX12_in_17 : decode cX12_in 17 = .ok (.iconst 0, 1) := by decide +kernel
theorem dX12_in_18 : decode cX12_in 18 = .ok (.ireturn, 1) := by decide +kernel
theorem dX12_has_0 : decode cX12_has 0 = .ok (.iload_n 0, 1) := by decide +kernel
theorem dX12_has_1 : decode cX12_has 1 = .ok (.iload_n 1, 1) := by decide +kernel
theorem dX12_has_2 : decode cX12_has 2 = .ok (.ishr, 1) := by decide +kernel
theorem dX12_has_3 : decode cX12_has 3 = .ok (.iconst 1, 1) := by decide +kernel
theorem dX12_has_4 : decode cX12_has 4 = .ok (.iand, 1) := by decide +kernel
theorem dX12_has_5 : decode cX12_has 5 = .ok (.iconst 1, 1) := by decide +kernel
theorem dX12_has_6 : decode cX12_has 6 = .ok (.if_icmp .ne 7, 3) := by decide +kernel
theorem dX12_has_9 : decode cX12_has 9 = .ok (.iconst 1, 1) := by decide +kernel
theorem dX12_has_10 : decode cX12_has 10 = .ok (.goto 4, 3) := by decide +kernel
theorem dX12_has_13 : decode cX12_has 13 = .ok (.iconst 0, 1) := by decide +kernel
theorem dX12_has_14 : decode cX12_has 14 = .ok (.ireturn, 1) := by decide +kernel
theorem dX12_widens_0 : decode cX12_widens 0 = .ok (.iload_n 0, 1) := by decide +kernel
theorem dX12_widens_1 : decode cX12_widens 1 = .ok (.bipush 7, 2) := by decide +kernel
theorem dX12_widens_3 : decode cX12_widens 3 = .ok (.if_icmp .gt 9, 3) := by decide +kernel
theorem dX12_widens_6 : decode cX12_widens 6 = .ok (.iload_n 1, 1) := by decide +kernel
theorem dX12_widens_7 : decode cX12_widens 7 = .ok (.bipush 7, 2) := by decide +kernel
theorem dX12_widens_9 : decode cX12_widens 9 = .ok (.if_icmp .le 5, 3) := by decide +kernel
theorem dX12_widens_12 : decode cX12_widens 12 = .ok (.iconst 0, 1) := by decide +kernel
theorem dX12_widens_13 : decode cX12_widens 13 = .ok (.ireturn, 1) := by decide +kernel
theorem dX12_widens_14 : decode cX12_widens 14 = .ok (.iload_n 0, 1) := by decide +kernel
theorem dX12_widens_15 : decode cX12_widens 15 = .ok (.iload_n 1, 1) := by decide +kernel
theorem dX12_widens_16 : decode cX12_widens 16 = .ok (.if_icmp .ne 5, 3) := by decide +kernel
theorem dX12_widens_19 : decode cX12_widens 19 = .ok (.iconst 1, 1) := by decide +kernel
theorem dX12_widens_20 : decode cX12_widens 20 = .ok (.ireturn, 1) := by decide +kernel
theorem dX12_widens_21 : decode cX12_widens 21 = .ok (.iload_n 0, 1) := by decide +kernel
theorem dX12_widens_22 : decode cX12_widens 22 = .ok (.ifCond .eq 8, 3) := by decide +kernel
theorem dX12_widens_25 : decode cX12_widens 25 = .ok (.iload_n 1, 1) := by decide +kernel
theorem dX12_widens_26 : decode cX12_widens 26 = .ok (.iconst 3, 1) := by decide +kernel
theorem dX12_widens_27 : decode cX12_widens 27 = .ok (.if_icmp .ge 5, 3) := by decide +kernel
theorem dX12_widens_30 : decode cX12_widens 30 = .ok (.iconst 0, 1) := by decide +kernel
theorem dX12_widens_31 : decode cX12_widens 31 = .ok (.ireturn, 1) := by decide +kernel
theorem dX12_widens_32 : decode cX12_widens 32 = .ok (.iload_n 1, 1) := by decide +kernel
theorem dX12_widens_33 : decode cX12_widens 33 = .ok (.iconst 3, 1) := by decide +kernel
theorem dX12_widens_34 : decode cX12_widens 34 = .ok (.if_icmp .ne 16, 3) := by decide +kernel
theorem dX12_widens_37 : decode cX12_widens 37 = .ok (.iload_n 0, 1) := by decide +kernel
theorem dX12_widens_38 : decode cX12_widens 38 = .ok (.iconst 1, 1) := by decide +kernel
theorem dX12_widens_39 : decode cX12_widens 39 = .ok (.if_icmp .ne 7, 3) := by decide +kernel
theorem dX12_widens_42 : decode cX12_widens 42 = .ok (.iconst 1, 1) := by decide +kernel
theorem dX12_widens_43 : decode cX12_widens 43 = .ok (.goto 17, 3) := by decide +kernel
theorem dX12_widens_46 : decode cX12_widens 46 = .ok (.iconst 0, 1) := by decide +kernel
theorem dX12_widens_47 : decode cX12_widens 47 = .ok (.goto 13, 3) := by decide +kernel
theorem dX12_widens_50 : decode cX12_widens 50 = .ok (.iload_n 0, 1) := by decide +kernel
theorem dX12_widens_51 : decode cX12_widens 51 = .ok (.iload_n 1, 1) := by decide +kernel
theorem dX12_widens_52 : decode cX12_widens 52 = .ok (.if_icmp .ge 7, 3) := by decide +kernel
theorem dX12_widens_55 : decode cX12_widens 55 = .ok (.iconst 1, 1) := by decide +kernel
theorem dX12_widens_56 : decode cX12_widens 56 = .ok (.goto 4, 3) := by decide +kernel
theorem dX12_widens_59 : decode cX12_widens 59 = .ok (.iconst 0, 1) := by decide +kernel
theorem dX12_widens_60 : decode cX12_widens 60 = .ok (.ireturn, 1) := by decide +kernel
theorem dX12_rounded_0 : decode cX12_rounded 0 = .ok (.lload_n 0, 1) := by decide +kernel
theorem dX12_rounded_1 : decode cX12_rounded 1 = .ok (.lconst 0, 1) := by decide +kernel
theorem dX12_rounded_2 : decode cX12_rounded 2 = .ok (.lcmp, 1) := by decide +kernel
theorem dX12_rounded_3 : decode cX12_rounded 3 = .ok (.ifCond .ge 8, 3) := by decide +kernel
theorem dX12_rounded_6 : decode cX12_rounded 6 = .ok (.lload_n 0, 1) := by decide +kernel
theorem dX12_rounded_7 : decode cX12_rounded 7 = .ok (.lneg, 1) := by decide +kernel
theorem dX12_rounded_8 : decode cX12_rounded 8 = .ok (.goto 4, 3) := by decide +kernel
theorem dX12_rounded_11 : decode cX12_rounded 11 = .ok (.lload_n 0, 1) := by decide +kernel
theorem dX12_rounded_12 : decode cX12_rounded 12 = .ok (.lstore_n 3, 1) := by decide +kernel
theorem dX12_rounded_13 : decode cX12_rounded 13 = .ok (.lconst 1, 1) := by decide +kernel
theorem dX12_rounded_14 : decode cX12_rounded 14 = .ok (.lstore 5, 2) := by decide +kernel
theorem dX12_rounded_16 : decode cX12_rounded 16 = .ok (.lload_n 3, 1) := by decide +kernel
theorem dX12_rounded_17 : decode cX12_rounded 17 = .ok (.lload 5, 2) := by decide +kernel
theorem dX12_rounded_19 : decode cX12_rounded 19 = .ok (.ldiv, 1) := by decide +kernel
theorem dX12_rounded_20 : decode cX12_rounded 20 = .ok (.lconst 1, 1) := by decide +kernel
theorem dX12_rounded_21 : decode cX12_rounded 21 = .ok (.iload_n 2, 1) := by decide +kernel
theorem dX12_rounded_22 : decode cX12_rounded 22 = .ok (.lshl, 1) := by decide +kernel
theorem dX12_rounded_23 : decode cX12_rounded 23 = .ok (.lcmp, 1) := by decide +kernel
theorem dX12_rounded_24 : decode cX12_rounded 24 = .ok (.ifCond .lt 14, 3) := by decide +kernel
theorem dX12_rounded_27 : decode cX12_rounded 27 = .ok (.lload 5, 2) := by decide +kernel
theorem dX12_rounded_29 : decode cX12_rounded 29 = .ok (.ldc2_w 112, 3) := by decide +kernel
theorem dX12_rounded_32 : decode cX12_rounded 32 = .ok (.lmul, 1) := by decide +kernel
theorem dX12_rounded_33 : decode cX12_rounded 33 = .ok (.lstore 5, 2) := by decide +kernel
theorem dX12_rounded_35 : decode cX12_rounded 35 = .ok (.goto (-19), 3) := by decide +kernel
theorem dX12_rounded_38 : decode cX12_rounded 38 = .ok (.lload_n 3, 1) := by decide +kernel
theorem dX12_rounded_39 : decode cX12_rounded 39 = .ok (.lload 5, 2) := by decide +kernel
theorem dX12_rounded_41 : decode cX12_rounded 41 = .ok (.lrem, 1) := by decide +kernel
theorem dX12_rounded_42 : decode cX12_rounded 42 = .ok (.lstore 7, 2) := by decide +kernel
theorem dX12_rounded_44 : decode cX12_rounded 44 = .ok (.lload_n 3, 1) := by decide +kernel
theorem dX12_rounded_45 : decode cX12_rounded 45 = .ok (.lload 5, 2) := by decide +kernel
theorem dX12_rounded_47 : decode cX12_rounded 47 = .ok (.ldiv, 1) := by decide +kernel
theorem dX12_rounded_48 : decode cX12_rounded 48 = .ok (.lstore 9, 2) := by decide +kernel
theorem dX12_rounded_50 : decode cX12_rounded 50 = .ok (.lload 9, 2) := by decide +kernel
theorem dX12_rounded_52 : decode cX12_rounded 52 = .ok (.ldc2_w 112, 3) := by decide +kernel
theorem dX12_rounded_55 : decode cX12_rounded 55 = .ok (.lload 7, 2) := by decide +kernel
theorem dX12_rounded_57 : decode cX12_rounded 57 = .ok (.lmul, 1) := by decide +kernel
theorem dX12_rounded_58 : decode cX12_rounded 58 = .ok (.lload 5, 2) := by decide +kernel
theorem dX12_rounded_60 : decode cX12_rounded 60 = .ok (.lcmp, 1) := by decide +kernel
theorem dX12_rounded_61 : decode cX12_rounded 61 = .ok (.ifCond .gt 26, 3) := by decide +kernel
theorem dX12_rounded_64 : decode cX12_rounded 64 = .ok (.ldc2_w 112, 3) := by decide +kernel
theorem dX12_rounded_67 : decode cX12_rounded 67 = .ok (.lload 7, 2) := by decide +kernel
theorem dX12_rounded_69 : decode cX12_rounded 69 = .ok (.lmul, 1) := by decide +kernel
theorem dX12_rounded_70 : decode cX12_rounded 70 = .ok (.lload 5, 2) := by decide +kernel
theorem dX12_rounded_72 : decode cX12_rounded 72 = .ok (.lcmp, 1) := by decide +kernel
theorem dX12_rounded_73 : decode cX12_rounded 73 = .ok (.ifCond .ne 18, 3) := by decide +kernel
theorem dX12_rounded_76 : decode cX12_rounded 76 = .ok (.lload 9, 2) := by decide +kernel
theorem dX12_rounded_78 : decode cX12_rounded 78 = .ok (.ldc2_w 112, 3) := by decide +kernel
theorem dX12_rounded_81 : decode cX12_rounded 81 = .ok (.lrem, 1) := by decide +kernel
theorem dX12_rounded_82 : decode cX12_rounded 82 = .ok (.lconst 1, 1) := by decide +kernel
theorem dX12_rounded_83 : decode cX12_rounded 83 = .ok (.lcmp, 1) := by decide +kernel
theorem dX12_rounded_84 : decode cX12_rounded 84 = .ok (.ifCond .ne 7, 3) := by decide +kernel
theorem dX12_rounded_87 : decode cX12_rounded 87 = .ok (.lconst 1, 1) := by decide +kernel
theorem dX12_rounded_88 : decode cX12_rounded 88 = .ok (.goto 4, 3) := by decide +kernel
theorem dX12_rounded_91 : decode cX12_rounded 91 = .ok (.lconst 0, 1) := by decide +kernel
theorem dX12_rounded_92 : decode cX12_rounded 92 = .ok (.ladd, 1) := by decide +kernel
theorem dX12_rounded_93 : decode cX12_rounded 93 = .ok (.lstore 9, 2) := by decide +kernel
theorem dX12_rounded_95 : decode cX12_rounded 95 = .ok (.lload_n 0, 1) := by decide +kernel
theorem dX12_rounded_96 : decode cX12_rounded 96 = .ok (.lconst 0, 1) := by decide +kernel
theorem dX12_rounded_97 : decode cX12_rounded 97 = .ok (.lcmp, 1) := by decide +kernel
theorem dX12_rounded_98 : decode cX12_rounded 98 = .ok (.ifCond .ge 12, 3) := by decide +kernel
theorem dX12_rounded_101 : decode cX12_rounded 101 = .ok (.lload 9, 2) := by decide +kernel
theorem dX12_rounded_103 : decode cX12_rounded 103 = .ok (.lneg, 1) := by decide +kernel
theorem dX12_rounded_104 : decode cX12_rounded 104 = .ok (.lload 5, 2) := by decide +kernel
theorem dX12_rounded_106 : decode cX12_rounded 106 = .ok (.lmul, 1) := by decide +kernel
theorem dX12_rounded_107 : decode cX12_rounded 107 = .ok (.goto 8, 3) := by decide +kernel
theorem dX12_rounded_110 : decode cX12_rounded 110 = .ok (.lload 9, 2) := by decide +kernel
theorem dX12_rounded_112 : decode cX12_rounded 112 = .ok (.lload 5, 2) := by decide +kernel
theorem dX12_rounded_114 : decode cX12_rounded 114 = .ok (.lmul, 1) := by decide +kernel
theorem dX12_rounded_115 : decode cX12_rounded 115 = .ok (.lreturn, 1) := by decide +kernel
theorem dX12_as_0 : decode cX12_as 0 = .ok (.iload_n 0, 1) := by decide +kernel
theorem dX12_as_1 : decode cX12_as 1 = .ok (.bipush 6, 2) := by decide +kernel
theorem dX12_as_3 : decode cX12_as 3 = .ok (.if_icmp .ne 12, 3) := by decide +kernel
theorem dX12_as_6 : decode cX12_as 6 = .ok (.lload_n 1, 1) := by decide +kernel
theorem dX12_as_7 : decode cX12_as 7 = .ok (.bipush 24, 2) := by decide +kernel
theorem dX12_as_9 : decode cX12_as 9 = .ok (.invokestatic 114, 3) := by decide +kernel
theorem dX12_as_12 : decode cX12_as 12 = .ok (.goto 19, 3) := by decide +kernel
theorem dX12_as_15 : decode cX12_as 15 = .ok (.iload_n 0, 1) := by decide +kernel
theorem dX12_as_16 : decode cX12_as 16 = .ok (.bipush 7, 2) := by decide +kernel
theorem dX12_as_18 : decode cX12_as 18 = .ok (.if_icmp .ne 12, 3) := by decide +kernel
theorem dX12_as_21 : decode cX12_as 21 = .ok (.lload_n 1, 1) := by decide +kernel
theorem dX12_as_22 : decode cX12_as 22 = .ok (.bipush 53, 2) := by decide +kernel
theorem dX12_as_24 : decode cX12_as 24 = .ok (.invokestatic 114, 3) := by decide +kernel
theorem dX12_as_27 : decode cX12_as 27 = .ok (.goto 4, 3) := by decide +kernel
theorem dX12_as_30 : decode cX12_as 30 = .ok (.lload_n 1, 1) := by decide +kernel
theorem dX12_as_31 : decode cX12_as 31 = .ok (.lreturn, 1) := by decide +kernel
theorem dX12_isOf_0 : decode cX12_isOf 0 = .ok (.iload_n 0, 1) := by decide +kernel
theorem dX12_isOf_1 : decode cX12_isOf 1 = .ok (.tableswitch 84 0 4 #[35, 42, 53, 62, 73], 35) := by decide +kernel
theorem dX12_isOf_36 : decode cX12_isOf 36 = .ok (.lload_n 1, 1) := by decide +kernel
theorem dX12_isOf_37 : decode cX12_isOf 37 = .ok (.lconst 0, 1) := by decide +kernel
theorem dX12_isOf_38 : decode cX12_isOf 38 = .ok (.lconst 1, 1) := by decide +kernel
theorem dX12_isOf_39 : decode cX12_isOf 39 = .ok (.invokestatic 118, 3) := by decide +kernel
theorem dX12_isOf_42 : decode cX12_isOf 42 = .ok (.ireturn, 1) := by decide +kernel
theorem dX12_isOf_43 : decode cX12_isOf 43 = .ok (.lload_n 1, 1) := by decide +kernel
theorem dX12_isOf_44 : decode cX12_isOf 44 = .ok (.ldc2_w 122, 3) := by decide +kernel
theorem dX12_isOf_47 : decode cX12_isOf 47 = .ok (.ldc2_w 124, 3) := by decide +kernel
theorem dX12_isOf_50 : decode cX12_isOf 50 = .ok (.invokestatic 118, 3) := by decide +kernel
theorem dX12_isOf_53 : decode cX12_isOf 53 = .ok (.ireturn, 1) := by decide +kernel
theorem dX12_isOf_54 : decode cX12_isOf 54 = .ok (.lload_n 1, 1) := by decide +kernel
theorem dX12_isOf_55 : decode cX12_isOf 55 = .ok (.lconst 0, 1) := by decide +kernel
theorem dX12_isOf_56 : decode cX12_isOf 56 = .ok (.ldc2_w 126, 3) := by decide +kernel
theorem dX12_isOf_59 : decode cX12_isOf 59 = .ok (.invokestatic 118, 3) := by decide +kernel
theorem dX12_isOf_62 : decode cX12_isOf 62 = .ok (.ireturn, 1) := by decide +kernel
theorem dX12_isOf_63 : decode cX12_isOf 63 = .ok (.lload_n 1, 1) := by decide +kernel
theorem dX12_isOf_64 : decode cX12_isOf 64 = .ok (.ldc2_w 128, 3) := by decide +kernel
theorem dX12_isOf_67 : decode cX12_isOf 67 = .ok (.ldc2_w 130, 3) := by decide +kernel
theorem dX12_isOf_70 : decode cX12_isOf 70 = .ok (.invokestatic 118, 3) := by decide +kernel
theorem dX12_isOf_73 : decode cX12_isOf 73 = .ok (.ireturn, 1) := by decide +kernel
theorem dX12_isOf_74 : decode cX12_isOf 74 = .ok (.lload_n 1, 1) := by decide +kernel
theorem dX12_isOf_75 : decode cX12_isOf 75 = .ok (.ldc2_w 132, 3) := by decide +kernel
theorem dX12_isOf_78 : decode cX12_isOf 78 = .ok (.ldc2_w 134, 3) := by decide +kernel
theorem dX12_isOf_81 : decode cX12_isOf 81 = .ok (.invokestatic 118, 3) := by decide +kernel
theorem dX12_isOf_84 : decode cX12_isOf 84 = .ok (.ireturn, 1) := by decide +kernel
theorem dX12_isOf_85 : decode cX12_isOf 85 = .ok (.lload_n 1, 1) := by decide +kernel
theorem dX12_isOf_86 : decode cX12_isOf 86 = .ok (.ldc2_w 136, 3) := by decide +kernel
theorem dX12_isOf_89 : decode cX12_isOf 89 = .ok (.ldc2_w 138, 3) := by decide +kernel
theorem dX12_isOf_92 : decode cX12_isOf 92 = .ok (.invokestatic 118, 3) := by decide +kernel
theorem dX12_isOf_95 : decode cX12_isOf 95 = .ok (.ireturn, 1) := by decide +kernel
