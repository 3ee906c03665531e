theorem dX12_isBank_0 : decode cX12_isBank 0 = .ok (.iload_n 1, 1) := by decide +kernel
theorem dX12_isBank_1 : decode cX12_isBank 1 = .ok (.i2l, 1) := by decide +kernel
theorem dX12_isBank_2 : decode cX12_isBank 2 = .ok (.lconst 0, 1) := by decide +kernel
theorem dX12_isBank_3 : decode cX12_isBank 3 = .ok (.aload_n 0, 1) := by decide +kernel
theorem dX12_isBank_4 : decode cX12_isBank 4 = .ok (.getfield 140, 3) := by decide +kernel
theorem dX12_isBank_7 : decode cX12_isBank 7 = .ok (.iconst 1, 1) := by decide +kernel
theorem dX12_isBank_8 : decode cX12_isBank 8 = .ok (.isub, 1) := by decide +kernel
theorem dX12_isBank_9 : decode cX12_isBank 9 = .ok (.i2l, 1) := by decide +kernel
theorem dX12_isBank_10 : decode cX12_isBank 10 = .ok (.invokestatic 118, 3) := by decide +kernel
theorem dX12_isBank_13 : decode cX12_isBank 13 = .ok (.ireturn, 1) := by decide +kernel
theorem dX12_isView_0 : decode cX12_isView 0 = .ok (.iload_n 1, 1) := by decide +kernel
theorem dX12_isView_1 : decode cX12_isView 1 = .ok (.i2l, 1) := by decide +kernel
theorem dX12_isView_2 : decode cX12_isView 2 = .ok (.lconst 0, 1) := by decide +kernel
theorem dX12_isView_3 : decode cX12_isView 3 = .ok (.aload_n 0, 1) := by decide +kernel
theorem dX12_isView_4 : decode cX12_isView 4 = .ok (.getfield 143, 3) := by decide +kernel
theorem dX12_isView_7 : decode cX12_isView 7 = .ok (.iconst 1, 1) := by decide +kernel
theorem dX12_isView_8 : decode cX12_isView 8 = .ok (.isub, 1) := by decide +kernel
theorem dX12_isView_9 : decode cX12_isView 9 = .ok (.i2l, 1) := by decide +kernel
theorem dX12_isView_10 : decode cX12_isView 10 = .ok (.invokestatic 118, 3) := by decide +kernel
theorem dX12_isView_13 : decode cX12_isView 13 = .ok (.ireturn, 1) := by decide +kernel
theorem dX12_bank_0 : decode cX12_bank 0 = .ok (.aload_n 0, 1) := by decide +kernel
theorem dX12_bank_1 : decode cX12_bank 1 = .ok (.iconst 0, 1) := by decide +kernel
theorem dX12_bank_2 : decode cX12_bank 2 = .ok (.putfield 109, 3) := by decide +kernel
theorem dX12_bank_5 : decode cX12_bank 5 = .ok (.iload_n 1, 1) := by decide +kernel
theorem dX12_bank_6 : decode cX12_bank 6 = .ok (.i2l, 1) := by decide +kernel
theorem dX12_bank_7 : decode cX12_bank 7 = .ok (.lconst 0, 1) := by decide +kernel
theorem dX12_bank_8 : decode cX12_bank 8 = .ok (.ldc2_w 146, 3) := by decide +kernel
theorem dX12_bank_11 : decode cX12_bank 11 = .ok (.invokestatic 118, 3) := by decide +kernel
theorem dX12_bank_14 : decode cX12_bank 14 = .ok (.ifCond .eq 15, 3) := by decide +kernel
theorem dX12_bank_17 : decode cX12_bank 17 = .ok (.iload_n 2, 1) := by decide +kernel
theorem dX12_bank_18 : decode cX12_bank 18 = .ok (.i2l, 1) := by decide +kernel
theorem dX12_bank_19 : decode cX12_bank 19 = .ok (.lconst 1, 1) := by decide +kernel
theorem dX12_bank_20 : decode cX12_bank 20 = .ok (.ldc2_w 146, 3) := by decide +kernel
theorem dX12_bank_23 : decode cX12_bank 23 = .ok (.invokestatic 118, 3) := by decide +kernel
theorem dX12_bank_26 : decode cX12_bank 26 = .ok (.ifCond .ne 5, 3) := by decide +kernel
theorem dX12_bank_29 : decode cX12_bank 29 = .ok (.iconst (-1), 1) := by decide +kernel
theorem dX12_bank_30 : decode cX12_bank 30 = .ok (.ireturn, 1) := by decide +kernel
theorem dX12_bank_31 : decode cX12_bank 31 = .ok (.aload_n 0, 1) := by decide +kernel
theorem dX12_bank_32 : decode cX12_bank 32 = .ok (.getfield 140, 3) := by decide +kernel
theorem dX12_bank_35 : decode cX12_bank 35 = .ok (.bipush 6, 2) := by decide +kernel
theorem dX12_bank_37 : decode cX12_bank 37 = .ok (.if_icmp .ne 6, 3) := by decide +kernel
theorem dX12_bank_40 : decode cX12_bank 40 = .ok (.bipush (-3), 2) := by decide +kernel
theorem dX12_bank_42 : decode cX12_bank 42 = .ok (.ireturn, 1) := by decide +kernel
theorem dX12_bank_43 : decode cX12_bank 43 = .ok (.aload_n 0, 1) := by decide +kernel
theorem dX12_bank_44 : decode cX12_bank 44 = .ok (.getfield 7, 3) := by decide +kernel
theorem dX12_bank_47 : decode cX12_bank 47 = .ok (.aload_n 0, 1) := by decide +kernel
theorem dX12_bank_48 : decode cX12_bank 48 = .ok (.getfield 140, 3) := by decide +kernel
theorem dX12_bank_51 : decode cX12_bank 51 = .ok (.iload_n 1, 1) := by decide +kernel
theorem dX12_bank_52 : decode cX12_bank 52 = .ok (.iastore, 1) := by decide +kernel
theorem dX12_bank_53 : decode cX12_bank 53 = .ok (.aload_n 0, 1) := by decide +kernel
theorem dX12_bank_54 : decode cX12_bank 54 = .ok (.getfield 13, 3) := by decide +kernel
theorem dX12_bank_57 : decode cX12_bank 57 = .ok (.aload_n 0, 1) := by decide +kernel
theorem dX12_bank_58 : decode cX12_bank 58 = .ok (.getfield 140, 3) := by decide +kernel
theorem dX12_bank_61 : decode cX12_bank 61 = .ok (.iload_n 1, 1) := by decide +kernel
theorem dX12_bank_62 : decode cX12_bank 62 = .ok (.bipush 10, 2) := by decide +kernel
theorem dX12_bank_64 : decode cX12_bank 64 = .ok (.if_icmp .le 7, 3) := by decide +kernel
theorem dX12_bank_67 : decode cX12_bank 67 = .ok (.iconst 0, 1) := by decide +kernel
theorem dX12_bank_68 : decode cX12_bank 68 = .ok (.goto 4, 3) := by decide +kernel
theorem dX12_bank_71 : decode cX12_bank 71 = .ok (.iload_n 2, 1) := by decide +kernel
theorem dX12_bank_72 : decode cX12_bank 72 = .ok (.iastore, 1) := by decide +kernel
theorem dX12_bank_73 : decode cX12_bank 73 = .ok (.bipush 12, 2) := by decide +kernel
theorem dX12_bank_75 : decode cX12_bank 75 = .ok (.aload_n 0, 1) := by decide +kernel
theorem dX12_bank_76 : decode cX12_bank 76 = .ok (.getfield 140, 3) := by decide +kernel
theorem dX12_bank_79 : decode cX12_bank 79 = .ok (.imul, 1) := by decide +kernel
theorem dX12_bank_80 : decode cX12_bank 80 = .ok (.istore_n 3, 1) := by decide +kernel
theorem dX12_bank_81 : decode cX12_bank 81 = .ok (.iload_n 3, 1) := by decide +kernel
theorem dX12_bank_82 : decode cX12_bank 82 = .ok (.bipush 12, 2) := by decide +kernel
theorem dX12_bank_84 : decode cX12_bank 84 = .ok (.aload_n 0, 1) := by decide +kernel
theorem dX12_bank_85 : decode cX12_bank 85 = .ok (.getfield 140, 3) := by decide +kernel
theorem dX12_bank_88 : decode cX12_bank 88 = .ok (.imul, 1) := by decide +kernel
theorem dX12_bank_89 : decode cX12_bank 89 = .ok (.bipush 12, 2) := by decide +kernel
theorem dX12_bank_91 : decode cX12_bank 91 = .ok (.iadd, 1) := by decide +kernel
theorem dX12_bank_92 : decode cX12_bank 92 = .ok (.if_icmp .ge 34, 3) := by decide +kernel
theorem dX12_bank_95 : decode cX12_bank 95 = .ok (.aload_n 0, 1) := by decide +kernel
theorem dX12_bank_96 : decode cX12_bank 96 = .ok (.getfield 16, 3) := by decide +kernel
theorem dX12_bank_99 : decode cX12_bank 99 = .ok (.iload_n 3, 1) := by decide +kernel
theorem dX12_bank_100 : decode cX12_bank 100 = .ok (.iload_n 1, 1) := by decide +kernel
theorem dX12_bank_101 : decode cX12_bank 101 = .ok (.bipush 8, 2) := by decide +kernel
theorem dX12_bank_103 : decode cX12_bank 103 = .ok (.if_icmp .ge 7, 3) := by decide +kernel
theorem dX12_bank_106 : decode cX12_bank 106 = .ok (.iload_n 1, 1) := by decide +kernel
theorem dX12_bank_107 : decode cX12_bank 107 = .ok (.goto 5, 3) := by decide +kernel
theorem dX12_bank_110 : decode cX12_bank 110 = .ok (.bipush 10, 2) := by decide +kernel
theorem dX12_bank_112 : decode cX12_bank 112 = .ok (.iastore, 1) := by decide +kernel
theorem dX12_bank_113 : decode cX12_bank 113 = .ok (.aload_n 0, 1) := by decide +kernel
theorem dX12_bank_114 : decode cX12_bank 114 = .ok (.getfield 19, 3) := by decide +kernel
theorem dX12_bank_117 : decode cX12_bank 117 = .ok (.iload_n 3, 1) := by decide +kernel
theorem dX12_bank_118 : decode cX12_bank 118 = .ok (.lconst 0, 1) := by decide +kernel
theorem dX12_bank_119 : decode cX12_bank 119 = .ok (.lastore, 1) := by decide +kernel
theorem dX12_bank_120 : decode cX12_bank 120 = .ok (.iinc 3 1, 3) := by decide +kernel
theorem dX12_bank_123 : decode cX12_bank 123 = .ok (.goto (-42), 3) := by decide +kernel
theorem dX12_bank_126 : decode cX12_bank 126 = .ok (.aload_n 0, 1) := by decide +kernel
theorem dX12_bank_127 : decode cX12_bank 127 = .ok (.dup, 1) := by decide +kernel
theorem dX12_bank_128 : decode cX12_bank 128 = .ok (.getfield 140, 3) := by decide +kernel
theorem dX12_bank_131 : decode cX12_bank 131 = .ok (.iconst 1, 1) := by decide +kernel
theorem dX12_bank_132 : decode cX12_bank 132 = .ok (.iadd, 1) := by decide +kernel
theorem dX12_bank_133 : decode cX12_bank 133 = .ok (.putfield 140, 3) := by decide +kernel
theorem dX12_bank_136 : decode cX12_bank 136 = .ok (.aload_n 0, 1) := by decide +kernel
theorem dX12_bank_137 : decode cX12_bank 137 = .ok (.getfield 140, 3) := by decide +kernel
theorem dX12_bank_140 : decode cX12_bank 140 = .ok (.iconst 1, 1) := by decide +kernel
theorem dX12_bank_141 : decode cX12_bank 141 = .ok (.isub, 1) := by decide +kernel
theorem dX12_bank_142 : decode cX12_bank 142 = .ok (.ireturn, 1) := by decide +kernel
theorem dX12_view_0 : decode cX12_view 0 = .ok (.aload_n 0, 1) := by decide +kernel
theorem dX12_view_1 : decode cX12_view 1 = .ok (.iconst 0, 1) := by decide +kernel
theorem dX12_view_2 : decode cX12_view 2 = .ok (.putfield 109, 3) := by decide +kernel
theorem dX12_view_5 : decode cX12_view 5 = .ok (.aload_n 0, 1) := by decide +kernel
theorem dX12_view_6 : decode cX12_view 6 = .ok (.iload_n 1, 1) := by decide +kernel
theorem dX12_view_7 : decode cX12_view 7 = .ok (.invokevirtual 148, 3) := by decide +kernel
theorem dX12_view_10 : decode cX12_view 10 = .ok (.ifCond .ne 20, 3) := by decide +kernel
theorem dX12_view_13 : decode cX12_view 13 = .ok (.iload_n 1, 1) := by decide +kernel
theorem dX12_view_14 : decode cX12_view 14 = .ok (.bipush 9, 2) := by decide +kernel
theorem dX12_view_16 : decode cX12_view 16 = .ok (.if_icmp .le 68, 3) := by decide +kernel
theorem dX12_view_19 : decode cX12_view 19 = .ok (.aload_n 0, 1) := by decide +kernel
theorem dX12_view_20 : decode cX12_view 20 = .ok (.iload_n 1, 1) := by decide +kernel
theorem dX12_view_21 : decode cX12_view 21 = .ok (.bipush 10, 2) := by decide +kernel
theorem dX12_view_23 : decode cX12_view 23 = .ok (.isub, 1) := by decide +kernel
theorem dX12_view_24 : decode cX12_view 24 = .ok (.invokevirtual 152, 3) := by decide +kernel
theorem dX12_view_27 : decode cX12_view 27 = .ok (.ifCond .eq 57, 3) := by decide +kernel
theorem dX12_view_30 : decode cX12_view 30 = .ok (.iload_n 2, 1) := by decide +kernel
theorem dX12_view_31 : decode cX12_view 31 = .ok (.i2l, 1) := by decide +kernel
theorem dX12_view_32 : decode cX12_view 32 = .ok (.ldc2_w 155, 3) := by decide +kernel
theorem dX12_view_35 : decode cX12_view 35 = .ok (.ldc2_w 157, 3) := by decide +kernel
theorem dX12_view_38 : decode cX12_view 38 = .ok (.invokestatic 118, 3) := by decide +kernel
theorem dX12_view_41 : decode cX12_view 41 = .ok (.ifCond .eq 43, 3) := by decide +kernel
theorem dX12_view_44 : decode cX12_view 44 = .ok (.iload_n 3, 1) := by decide +kernel
theorem dX12_view_45 : decode cX12_view 45 = .ok (.i2l, 1) := by decide +kernel
theorem dX12_view_46 : decode cX12_view 46 = .ok (.ldc2_w 159, 3) := by decide +kernel
theorem dX12_view_49 : decode cX12_view 49 = .ok (.ldc2_w 161, 3) := by decide +kernel
theorem dX12_view_52 : decode cX12_view 52 = .ok (.invokestatic 118, 3) := by decide +kernel
theorem dX12_view_55 : decode cX12_view 55 = .ok (.ifCond .eq 29, 3) := by decide +kernel
theorem dX12_view_58 : decode cX12_view 58 = .ok (.iload 4, 2) := by decide +kernel
theorem dX12_view_60 : decode cX12_view 60 = .ok (.i2l, 1) := by decide +kernel
theorem dX12_view_61 : decode cX12_view 61 = .ok (.lconst 1, 1) := by decide +kernel
theorem dX12_view_62 : decode cX12_view 62 = .ok (.ldc2_w 146, 3) := by decide +kernel
theorem dX12_view_65 : decode cX12_view 65 = .ok (.invokestatic 118, 3) := by decide +kernel
theorem dX12_view_68 : decode cX12_view 68 = .ok (.ifCond .eq 16, 3) := by decide +kernel
theorem dX12_view_71 : decode cX12_view 71 = .ok (.iload 5, 2) := by decide +kernel
theorem dX12_view_73 : decode cX12_view 73 = .ok (.i2l, 1) := by decide +kernel
theorem dX12_view_74 : decode cX12_view 74 = .ok (.lconst 0, 1) := by decide +kernel
theorem dX12_view_75 : decode cX12_view 75 = .ok (.ldc2_w 163, 3) := by decide +kernel
theorem dX12_view_78 : decode cX12_view 78 = .ok (.invokestatic 118, 3) := by decide +kernel
theorem dX12_view_81 : decode cX12_view 81 = .ok (.ifCond .ne 5, 3) := by decide +kernel
theorem dX12_view_84 : decode cX12_view 84 = .ok (.iconst (-1), 1) := by decide +kernel
theorem dX12_view_85 : decode cX12_view 85 = .ok (.ireturn, 1) := by decide +kernel
theorem dX12_view_86 : decode cX12_view 86 = .ok (.iload_n 1, 1) := by decide +kernel
theorem dX12_view_87 : decode cX12_view 87 = .ok (.bipush 9, 2) := by decide +kernel
theorem dX12_view_89 : decode cX12_view 89 = .ok (.if_icmp .le 15, 3) := by decide +kernel
theorem dX12_view_92 : decode cX12_view 92 = .ok (.aload_n 0, 1) := by decide +kernel
theorem dX12_view_93 : decode cX12_view 93 = .ok (.getfield 38, 3) := by decide +kernel
theorem dX12_view_96 : decode cX12_view 96 = .ok (.iload_n 1, 1) := by decide +kernel
theorem dX12_view_97 : decode cX12_view 97 = .ok (.bipush 10, 2) := by decide +kernel
theorem dX12_view_99 : decode cX12_view 99 = .ok (.isub, 1) := by decide +kernel
theorem dX12_view_100 : decode cX12_view 100 = .ok (.iaload, 1) := by decide +kernel
theorem dX12_view_101 : decode cX12_view 101 = .ok (.goto 4, 3) := by decide +kernel
theorem dX12_view_104 : decode cX12_view 104 = .ok (.iconst 0, 1) := by decide +kernel
theorem dX12_view_105 : decode cX12_view 105 = .ok (.istore 6, 2) := by decide +kernel
theorem dX12_view_107 : decode cX12_view 107 = .ok (.aload_n 0, 1) := by decide +kernel
theorem dX12_view_108 : decode cX12_view 108 = .ok (.getfield 143, 3) := by decide +kernel
theorem dX12_view_111 : decode cX12_view 111 = .ok (.bipush 8, 2) := by decide +kernel
theorem dX12_view_113 : decode cX12_view 113 = .ok (.if_icmp .eq 9, 3) := by decide +kernel
theorem dX12_view_116 : decode cX12_view 116 = .ok (.iload 6, 2) := by decide +kernel
theorem dX12_view_118 : decode cX12_view 118 = .ok (.iconst 4, 1) := by decide +kernel
theorem dX12_view_119 : decode cX12_view 119 = .ok (.if_icmp .ne 6, 3) := by decide +kernel
theorem dX12_view_122 : decode cX12_view 122 = .ok (.bipush (-3), 2) := by decide +kernel
theorem dX12_view_124 : decode cX12_view 124 = .ok (.ireturn, 1) := by decide +kernel
theorem dX12_view_125 : decode cX12_view 125 = .ok (.aload_n 0, 1) := by decide +kernel
theorem dX12_view_126 : decode cX12_view 126 = .ok (.getfield 23, 3) := by decide +kernel
theorem dX12_view_129 : decode cX12_view 129 = .ok (.aload_n 0, 1) := by decide +kernel
theorem dX12_view_130 : decode cX12_view 130 = .ok (.getfield 143, 3) := by decide +kernel
theorem dX12_view_133 : decode cX12_view 133 = .ok (.iload_n 1, 1) := by decide +kernel
theorem dX12_view_134 : decode cX12_view 134 = .ok (.iastore, 1) := by decide +kernel
theorem dX12_view_135 : decode cX12_view 135 = .ok (.aload_n 0, 1) := by decide +kernel
theorem dX12_view_136 : decode cX12_view 136 = .ok (.getfield 26, 3) := by decide +kernel
theorem dX12_view_139 : decode cX12_view 139 = .ok (.aload_n 0, 1) := by decide +kernel
theorem dX12_view_140 : decode cX12_view 140 = .ok (.getfield 143, 3) := by decide +kernel
theorem dX12_view_143 : decode cX12_view 143 = .ok (.iload_n 2, 1) := by decide +kernel
theorem dX12_view_144 : decode cX12_view 144 = .ok (.iastore, 1) := by decide +kernel
theorem dX12_view_145 : decode cX12_view 145 = .ok (.aload_n 0, 1) := by decide +kernel
theorem dX12_view_146 : decode cX12_view 146 = .ok (.getfield 29, 3) := by decide +kernel
theorem dX12_view_149 : decode cX12_view 149 = .ok (.aload_n 0, 1) := by decide +kernel
theorem dX12_view_150 : decode cX12_view 150 = .ok (.getfield 143, 3) := by decide +kernel
theorem dX12_view_153 : decode cX12_view 153 = .ok (.iload_n 3, 1) := by decide +kernel
theorem dX12_view_154 : decode cX12_view 154 = .ok (.iastore, 1) := by decide +kernel
theorem dX12_view_155 : decode cX12_view 155 = .ok (.aload_n 0, 1) := by decide +kernel
theorem dX12_view_156 : decode cX12_view 156 = .ok (.getfield 32, 3) := by decide +kernel
theorem dX12_view_159 : decode cX12_view 159 = .ok (.aload_n 0, 1) := by decide +kernel
theorem dX12_view_160 : decode cX12_view 160 = .ok (.getfield 143, 3) := by decide +kernel
theorem dX12_view_163 : decode cX12_view 163 = .ok (.iload 4, 2) := by decide +kernel
theorem dX12_view_165 : decode cX12_view 165 = .ok (.iastore, 1) := by decide +kernel
theorem dX12_view_166 : decode cX12_view 166 = .ok (.aload_n 0, 1) := by decide +kernel
theorem dX12_view_167 : decode cX12_view 167 = .ok (.getfield 35, 3) := by decide +kernel
theorem dX12_view_170 : decode cX12_view 170 = .ok (.aload_n 0, 1) := by decide +kernel
theorem dX12_view_171 : decode cX12_view 171 = .ok (.getfield 143, 3) := by decide +kernel
theorem dX12_view_174 : decode cX12_view 174 = .ok (.iload 5, 2) := by decide +kernel
theorem dX12_view_176 : decode cX12_view 176 = .ok (.iastore, 1) := by decide +kernel
theorem dX12_view_177 : decode cX12_view 177 = .ok (.aload_n 0, 1) := by decide +kernel
theorem dX12_view_178 : decode cX12_view 178 = .ok (.getfield 38, 3) := by decide +kernel
theorem dX12_view_181 : decode cX12_view 181 = .ok (.aload_n 0, 1) := by decide +kernel
theorem dX12_view_182 : decode cX12_view 182 = .ok (.getfield 143, 3) := by decide +kernel
theorem dX12_view_185 : decode cX12_view 185 = .ok (.iload 6, 2) := by decide +kernel
theorem dX12_view_187 : decode cX12_view 187 = .ok (.iconst 1, 1) := by decide +kernel
theorem dX12_view_188 : decode cX12_view 188 = .ok (.iadd, 1) := by decide +kernel
theorem dX12_view_189 : decode cX12_view 189 = .ok (.iastore, 1) := by decide +kernel
theorem dX12_view_190 : decode cX12_view 190 = .ok (.aload_n 0, 1) := by decide +kernel
theorem dX12_view_191 : decode cX12_view 191 = .ok (.dup, 1) := by decide +kernel
theorem dX12_view_192 : decode cX12_view 192 = .ok (.getfield 143, 3) := by decide +kernel
theorem dX12_view_195 : decode cX12_view 195 = .ok (.iconst 1, 1) := by decide +kernel
theorem dX12_view_196 : decode cX12_view 196 = .ok (.iadd, 1) := by decide +kernel
theorem dX12_view_197 : decode cX12_view 197 = .ok (.putfield 143, 3) := by decide +kernel
theorem dX12_view_200 : decode cX12_view 200 = .ok (.aload_n 0, 1) := by decide +kernel
theorem dX12_view_201 : decode cX12_view 201 = .ok (.getfield 143, 3) := by decide +kernel
theorem dX12_view_204 : decode cX12_view 204 = .ok (.iconst 1, 1) := by decide +kernel
theorem dX12_view_205 : decode cX12_view 205 = .ok (.isub, 1) := by decide +kernel
theorem dX12_view_206 : decode cX12_view 206 = .ok (.ireturn, 1) := by decide +kernel
theorem dX12_clear_0 : decode cX12_clear 0 = .ok (.aload_n 0, 1) := by decide +kernel
theorem dX12_clear_1 : decode cX12_clear 1 = .ok (.iconst 0, 1) := by decide +kernel
theorem dX12_clear_2 : decode cX12_clear 2 = .ok (.putfield 109, 3) := by decide +kernel
theorem dX12_clear_5 : decode cX12_clear 5 = .ok (.aload_n 0, 1) := by decide +kernel
theorem dX12_clear_6 : decode cX12_clear 6 = .ok (.getfield 140, 3) := by decide +kernel
theorem dX12_clear_9 : decode cX12_clear 9 = .ok (.istore_n 1, 1) := by decide +kernel
theorem dX12_clear_10 : decode cX12_clear 10 = .ok (.aload_n 0, 1) := by decide +kernel
theorem dX12_clear_11 : decode cX12_clear 11 = .ok (.iconst 0, 1) := by decide +kernel
theorem dX12_clear_12 : decode cX12_clear 12 = .ok (.putfield 140, 3) := by decide +kernel
theorem dX12_clear_15 : decode cX12_clear 15 = .ok (.aload_n 0, 1) := by decide +kernel
theorem dX12_clear_16 : decode cX12_clear 16 = .ok (.iconst 0, 1) := by decide +kernel
theorem dX12_clear_17 : decode cX12_clear 17 = .ok (.putfield 143, 3) := by decide +kernel
theorem dX12_clear_20 : decode cX12_clear 20 = .ok (.aload_n 0, 1) := by decide +kernel
theorem dX12_clear_21 : decode cX12_clear 21 = .ok (.bipush (-20), 2) := by decide +kernel
theorem dX12_clear_23 : decode cX12_clear 23 = .ok (.putfield 41, 3) := by decide +kernel
theorem dX12_clear_26 : decode cX12_clear 26 = .ok (.aload_n 0, 1) := by decide +kernel
theorem dX12_clear_27 : decode cX12_clear 27 = .ok (.lconst 0, 1) := by decide +kernel
theorem dX12_clear_28 : decode cX12_clear 28 = .ok (.putfield 165, 3) := by decide +kernel
theorem dX12_clear_31 : decode cX12_clear 31 = .ok (.aload_n 0, 1) := by decide +kernel
theorem dX12_clear_32 : decode cX12_clear 32 = .ok (.iconst 0, 1) := by decide +kernel
theorem dX12_clear_33 : decode cX12_clear 33 = .ok (.putfield 169, 3) := by decide +kernel
theorem dX12_clear_36 : decode cX12_clear 36 = .ok (.aload_n 0, 1) := by decide +kernel
theorem dX12_clear_37 : decode cX12_clear 37 = .ok (.iconst 0, 1) := by decide +kernel
theorem dX12_clear_38 : decode cX12_clear 38 = .ok (.putfield 172, 3) := by decide +kernel
theorem dX12_clear_41 : decode cX12_clear 41 = .ok (.aload_n 0, 1) := by decide +kernel
theorem dX12_clear_42 : decode cX12_clear 42 = .ok (.iconst 0, 1) := by decide +kernel
theorem dX12_clear_43 : decode cX12_clear 43 = .ok (.putfield 175, 3) := by decide +kernel
theorem dX12_clear_46 : decode cX12_clear 46 = .ok (.aload_n 0, 1) := by decide +kernel
theorem dX12_clear_47 : decode cX12_clear 47 = .ok (.getfield 60, 3) := by decide +kernel
theorem dX12_clear_50 : decode cX12_clear 50 = .ok (.iconst 0, 1) := by decide +kernel
theorem dX12_clear_51 : decode cX12_clear 51 = .ok (.bipush (-20), 2) := by decide +kernel
theorem dX12_clear_53 : decode cX12_clear 53 = .ok (.iastore, 1) := by decide +kernel
theorem dX12_clear_54 : decode cX12_clear 54 = .ok (.aload_n 0, 1) := by decide +kernel
theorem dX12_clear_55 : decode cX12_clear 55 = .ok (.getfield 60, 3) := by decide +kernel
theorem dX12_clear_58 : decode cX12_clear 58 = .ok (.iconst 1, 1) := by decide +kernel
theorem dX12_clear_59 : decode cX12_clear 59 = .ok (.bipush (-20), 2) := by decide +kernel
theorem dX12_clear_61 : decode cX12_clear 61 = .ok (.iastore, 1) := by decide +kernel
theorem dX12_clear_62 : decode cX12_clear 62 = .ok (.iconst 0, 1) := by decide +kernel
theorem dX12_clear_63 : decode cX12_clear 63 = .ok (.istore_n 2, 1) := by decide +kernel
theorem dX12_clear_64 : decode cX12_clear 64 = .ok (.iload_n 2, 1) := by decide +kernel
theorem dX12_clear_65 : decode cX12_clear 65 = .ok (.bipush 7, 2) := by decide +kernel
theorem dX12_clear_67 : decode cX12_clear 67 = .ok (.if_icmp .ge 23, 3) := by decide +kernel
theorem dX12_clear_70 : decode cX12_clear 70 = .ok (.aload_n 0, 1) := by decide +kernel
theorem dX12_clear_71 : decode cX12_clear 71 = .ok (.getfield 66, 3) := by decide +kernel
theorem dX12_clear_74 : decode cX12_clear 74 = .ok (.iload_n 2, 1) := by decide +kernel
theorem dX12_clear_75 : decode cX12_clear 75 = .ok (.iconst 0, 1) := by decide +kernel
theorem dX12_clear_76 : decode cX12_clear 76 = .ok (.iastore, 1) := by decide +kernel
theorem dX12_clear_77 : decode cX12_clear 77 = .ok (.aload_n 0, 1) := by decide +kernel
theorem dX12_clear_78 : decode cX12_clear 78 = .ok (.getfield 69, 3) := by decide +kernel
theorem dX12_clear_81 : decode cX12_clear 81 = .ok (.iload_n 2, 1) := by decide +kernel
theorem dX12_clear_82 : decode cX12_clear 82 = .ok (.iconst 0, 1) := by decide +kernel
theorem dX12_clear_83 : decode cX12_clear 83 = .ok (.iastore, 1) := by decide +kernel
theorem dX12_clear_84 : decode cX12_clear 84 = .ok (.iinc 2 1, 3) := by decide +kernel
theorem dX12_clear_87 : decode cX12_clear 87 = .ok (.goto (-23), 3) := by decide +kernel
theorem dX12_clear_90 : decode cX12_clear 90 = .ok (.iload_n 1, 1) := by decide +kernel
theorem dX12_clear_91 : decode cX12_clear 91 = .ok (.ireturn, 1) := by decide +kernel
theorem dX12_bankOf_0 : decode cX12_bankOf 0 = .ok (.iload_n 1, 1) := by decide +kernel
theorem dX12_bankOf_1 : decode cX12_bankOf 1 = .ok (.istore_n 2, 1) := by decide +kernel
theorem dX12_bankOf_2 : decode cX12_bankOf 2 = .ok (.aload_n 0, 1) := by decide +kernel
theorem dX12_bankOf_3 : decode cX12_bankOf 3 = .ok (.getfield 23, 3) := by decide +kernel
theorem dX12_bankOf_6 : decode cX12_bankOf 6 = .ok (.iload_n 2, 1) := by decide +kernel
theorem dX12_bankOf_7 : decode cX12_bankOf 7 = .ok (.iaload, 1) := by decide +kernel
theorem dX12_bankOf_8 : decode cX12_bankOf 8 = .ok (.bipush 9, 2) := by decide +kernel
theorem dX12_bankOf_10 : decode cX12_bankOf 10 = .ok (.if_icmp .le 16, 3) := by decide +kernel
theorem dX12_bankOf_13 : decode cX12_bankOf 13 = .ok (.aload_n 0, 1) := by decide +kernel
theorem dX12_bankOf_14 : decode cX12_bankOf 14 = .ok (.getfield 23, 3) := by decide +kernel
theorem dX12_bankOf_17 : decode cX12_bankOf 17 = .ok (.iload_n 2, 1) := by decide +kernel
theorem dX12_bankOf_18 : decode cX12_bankOf 18 = .ok (.iaload, 1) := by decide +kernel
theorem dX12_bankOf_19 : decode cX12_bankOf 19 = .ok (.bipush 10, 2) := by decide +kernel
theorem dX12_bankOf_21 : decode cX12_bankOf 21 = .ok (.isub, 1) := by decide +kernel
theorem dX12_bankOf_22 : decode cX12_bankOf 22 = .ok (.istore_n 2, 1) := by decide +kernel
theorem dX12_bankOf_23 : decode cX12_bankOf 23 = .ok (.goto (-21), 3) := by decide +kernel
theorem dX12_bankOf_26 : decode cX12_bankOf 26 = .ok (.aload_n 0, 1) := by decide +kernel
theorem dX12_bankOf_27 : decode cX12_bankOf 27 = .ok (.getfield 23, 3) := by decide +kernel
theorem dX12_bankOf_30 : decode cX12_bankOf 30 = .ok (.iload_n 2, 1) := by decide +kernel
theorem dX12_bankOf_31 : decode cX12_bankOf 31 = .ok (.iaload, 1) := by decide +kernel
theorem dX12_bankOf_32 : decode cX12_bankOf 32 = .ok (.ireturn, 1) := by decide +kernel
theorem dX12_placeIn_0 : decode cX12_placeIn 0 = .ok (.iload_n 1, 1) := by decide +kernel
theorem dX12_placeIn_1 : decode cX12_placeIn 1 = .ok (.istore_n 3, 1) := by decide +kernel
theorem dX12_placeIn_2 : decode cX12_placeIn 2 = .ok (.iload_n 2, 1) := by decide +kernel
theorem dX12_placeIn_3 : decode cX12_placeIn 3 = .ok (.istore 4, 2) := by decide +kernel
theorem dX12_placeIn_5 : decode cX12_placeIn 5 = .ok (.iload 4, 2) := by decide +kernel
theorem dX12_placeIn_7 : decode cX12_placeIn 7 = .ok (.i2l, 1) := by decide +kernel
theorem dX12_placeIn_8 : decode cX12_placeIn 8 = .ok (.lconst 0, 1) := by decide +kernel
theorem dX12_placeIn_9 : decode cX12_placeIn 9 = .ok (.aload_n 0, 1) := by decide +kernel
theorem dX12_placeIn_10 : decode cX12_placeIn 10 = .ok (.getfield 32, 3) := by decide +kernel
theorem dX12_placeIn_13 : decode cX12_placeIn 13 = .ok (.iload_n 3, 1) := by decide +kernel
theorem dX12_placeIn_14 : decode cX12_placeIn 14 = .ok (.iaload, 1) := by decide +kernel
theorem dX12_placeIn_15 : decode cX12_placeIn 15 = .ok (.iconst 1, 1) := by decide +kernel
theorem dX12_placeIn_16 : decode cX12_placeIn 16 = .ok (.isub, 1) := by decide +kernel
theorem dX12_placeIn_17 : decode cX12_placeIn 17 = .ok (.i2l, 1) := by decide +kernel
theorem dX12_placeIn_18 : decode cX12_placeIn 18 = .ok (.invokestatic 118, 3) := by decide +kernel
theorem dX12_placeIn_21 : decode cX12_placeIn 21 = .ok (.ifCond .eq 48, 3) := by decide +kernel
theorem dX12_placeIn_24 : decode cX12_placeIn 24 = .ok (.aload_n 0, 1) := by decide +kernel
theorem dX12_placeIn_25 : decode cX12_placeIn 25 = .ok (.getfield 26, 3) := by decide +kernel
theorem dX12_placeIn_28 : decode cX12_placeIn 28 = .ok (.iload_n 3, 1) := by decide +kernel
theorem dX12_placeIn_29 : decode cX12_placeIn 29 = .ok (.iaload, 1) := by decide +kernel
theorem dX12_placeIn_30 : decode cX12_placeIn 30 = .ok (.aload_n 0, 1) := by decide +kernel
theorem dX12_placeIn_31 : decode cX12_placeIn 31 = .ok (.getfield 29, 3) := by decide +kernel
theorem dX12_placeIn_34 : decode cX12_placeIn 34 = .ok (.iload_n 3, 1) := by decide +kernel
theorem dX12_placeIn_35 : decode cX12_placeIn 35 = .ok (.iaload, 1) := by decide +kernel
theorem dX12_placeIn_36 : decode cX12_placeIn 36 = .ok (.iload 4, 2) := by decide +kernel
theorem dX12_placeIn_38 : decode cX12_placeIn 38 = .ok (.imul, 1) := by decide +kernel
theorem dX12_placeIn_39 : decode cX12_placeIn 39 = .ok (.iadd, 1) := by decide +kernel
theorem dX12_placeIn_40 : decode cX12_placeIn 40 = .ok (.istore 4, 2) := by decide +kernel
theorem dX12_placeIn_42 : decode cX12_placeIn 42 = .ok (.aload_n 0, 1) := by decide +kernel
theorem dX12_placeIn_43 : decode cX12_placeIn 43 = .ok (.getfield 23, 3) := by decide +kernel
theorem dX12_placeIn_46 : decode cX12_placeIn 46 = .ok (.iload_n 3, 1) := by decide +kernel
theorem dX12_placeIn_47 : decode cX12_placeIn 47 = .ok (.iaload, 1) := by decide +kernel
theorem dX12_placeIn_48 : decode cX12_placeIn 48 = .ok (.bipush 10, 2) := by decide +kernel
theorem dX12_placeIn_50 : decode cX12_placeIn 50 = .ok (.if_icmp .ge 6, 3) := by decide +kernel
theorem dX12_placeIn_53 : decode cX12_placeIn 53 = .ok (.iload 4, 2) := by decide +kernel
theorem dX12_placeIn_55 : decode cX12_placeIn 55 = .ok (.ireturn, 1) := by decide +kernel
theorem dX12_placeIn_56 : decode cX12_placeIn 56 = .ok (.aload_n 0, 1) := by decide +kernel
theorem dX12_placeIn_57 : decode cX12_placeIn 57 = .ok (.getfield 23, 3) := by decide +kernel
theorem dX12_placeIn_60 : decode cX12_placeIn 60 = .ok (.iload_n 3, 1) := by decide +kernel
theorem dX12_placeIn_61 : decode cX12_placeIn 61 = .ok (.iaload, 1) := by decide +kernel
theorem dX12_placeIn_62 : decode cX12_placeIn 62 = .ok (.bipush 10, 2) := by decide +kernel
theorem dX12_placeIn_64 : decode cX12_placeIn 64 = .ok (.isub, 1) := by decide +kernel
theorem dX12_placeIn_65 : decode cX12_placeIn 65 = .ok (.istore_n 3, 1) := by decide +kernel
theorem dX12_placeIn_66 : decode cX12_placeIn 66 = .ok (.goto (-61), 3) := by decide +kernel
theorem dX12_placeIn_69 : decode cX12_placeIn 69 = .ok (.sipush (-1000), 3) := by decide +kernel
theorem dX12_placeIn_72 : decode cX12_placeIn 72 = .ok (.ireturn, 1) := by decide +kernel
theorem dX12_under_0 : decode cX12_under 0 = .ok (.iload_n 1, 1) := by decide +kernel
theorem dX12_under_1 : decode cX12_under 1 = .ok (.istore_n 3, 1) := by decide +kernel
theorem dX12_under_2 : decode cX12_under 2 = .ok (.aload_n 0, 1) := by decide +kernel
theorem dX12_under_3 : decode cX12_under 3 = .ok (.getfield 38, 3) := by decide +kernel
theorem dX12_under_6 : decode cX12_under 6 = .ok (.iload_n 3, 1) := by decide +kernel
theorem dX12_under_7 : decode cX12_under 7 = .ok (.iaload, 1) := by decide +kernel
theorem dX12_under_8 : decode cX12_under 8 = .ok (.iload_n 2, 1) := by decide +kernel
theorem dX12_under_9 : decode cX12_under 9 = .ok (.iconst 1, 1) := by decide +kernel
theorem dX12_under_10 : decode cX12_under 10 = .ok (.iadd, 1) := by decide +kernel
theorem dX12_under_11 : decode cX12_under 11 = .ok (.if_icmp .le 16, 3) := by decide +kernel
theorem dX12_under_14 : decode cX12_under 14 = .ok (.aload_n 0, 1) := by decide +kernel
theorem dX12_under_15 : decode cX12_under 15 = .ok (.getfield 23, 3) := by decide +kernel
theorem dX12_under_18 : decode cX12_under 18 = .ok (.iload_n 3, 1) := by decide +kernel
theorem dX12_under_19 : decode cX12_under 19 = .ok (.iaload, 1) := by decide +kernel
theorem dX12_under_20 : decode cX12_under 20 = .ok (.bipush 10, 2) := by decide +kernel
theorem dX12_under_22 : decode cX12_under 22 = .ok (.isub, 1) := by decide +kernel
theorem dX12_under_23 : decode cX12_under 23 = .ok (.istore_n 3, 1) := by decide +kernel
theorem dX12_under_24 : decode cX12_under 24 = .ok (.goto (-22), 3) := by decide +kernel
theorem dX12_under_27 : decode cX12_under 27 = .ok (.iload_n 3, 1) := by decide +kernel
theorem dX12_under_28 : decode cX12_under 28 = .ok (.ireturn, 1) := by decide +kernel
theorem dX12_taken_0 : decode cX12_taken 0 = .ok (.iload_n 2, 1) := by decide +kernel
theorem dX12_taken_1 : decode cX12_taken 1 = .ok (.bipush 8, 2) := by decide +kernel
theorem dX12_taken_3 : decode cX12_taken 3 = .ok (.if_icmp .ne 5, 3) := by decide +kernel
theorem dX12_taken_6 : decode cX12_taken 6 = .ok (.iconst 0, 1) := by decide +kernel
theorem dX12_taken_7 : decode cX12_taken 7 = .ok (.ireturn, 1) := by decide +kernel
theorem dX12_taken_8 : decode cX12_taken 8 = .ok (.iload_n 1, 1) := by decide +kernel
theorem dX12_taken_9 : decode cX12_taken 9 = .ok (.iload_n 2, 1) := by decide +kernel
theorem dX12_taken_10 : decode cX12_taken 10 = .ok (.invokestatic 178, 3) := by decide +kernel
theorem dX12_taken_13 : decode cX12_taken 13 = .ok (.ifCond .ne 6, 3) := by decide +kernel
theorem dX12_taken_16 : decode cX12_taken 16 = .ok (.bipush (-7), 2) := by decide +kernel
theorem dX12_taken_18 : decode cX12_taken 18 = .ok (.ireturn, 1) := by decide +kernel
theorem dX12_taken_19 : decode cX12_taken 19 = .ok (.aload_n 0, 1) := by decide +kernel
theorem dX12_taken_20 : decode cX12_taken 20 = .ok (.iload_n 2, 1) := by decide +kernel
theorem dX12_taken_21 : decode cX12_taken 21 = .ok (.putfield 182, 3) := by decide +kernel
theorem dX12_taken_24 : decode cX12_taken 24 = .ok (.aload_n 0, 1) := by decide +kernel
theorem dX12_taken_25 : decode cX12_taken 25 = .ok (.iload_n 2, 1) := by decide +kernel
theorem dX12_taken_26 : decode cX12_taken 26 = .ok (.aload_n 0, 1) := by decide +kernel
theorem dX12_taken_27 : decode cX12_taken 27 = .ok (.getfield 185, 3) := by decide +kernel
theorem dX12_taken_30 : decode cX12_taken 30 = .ok (.invokestatic 188, 3) := by decide +kernel
theorem dX12_taken_33 : decode cX12_taken 33 = .ok (.putfield 185, 3) := by decide +kernel
theorem dX12_taken_36 : decode cX12_taken 36 = .ok (.iconst 0, 1) := by decide +kernel
theorem dX12_taken_37 : decode cX12_taken 37 = .ok (.ireturn, 1) := by decide +kernel
theorem dX12_comes_0 : decode cX12_comes 0 = .ok (.iload_n 2, 1) := by decide +kernel
theorem dX12_comes_1 : decode cX12_comes 1 = .ok (.bipush 8, 2) := by decide +kernel
theorem dX12_comes_3 : decode cX12_comes 3 = .ok (.if_icmp .ne 16, 3) := by decide +kernel
theorem dX12_comes_6 : decode cX12_comes 6 = .ok (.iload_n 1, 1) := by decide +kernel
theorem dX12_comes_7 : decode cX12_comes 7 = .ok (.bipush 8, 2) := by decide +kernel
theorem dX12_comes_9 : decode cX12_comes 9 = .ok (.if_icmp .ne 7, 3) := by decide +kernel
theorem dX12_comes_12 : decode cX12_comes 12 = .ok (.iconst 0, 1) := by decide +kernel
theorem dX12_comes_13 : decode cX12_comes 13 = .ok (.goto 5, 3) := by decide +kernel
theorem dX12_comes_16 : decode cX12_comes 16 = .ok (.bipush (-7), 2) := by decide +kernel
theorem dX12_comes_18 : decode cX12_comes 18 = .ok (.ireturn, 1) := by decide +kernel
theorem dX12_comes_19 : decode cX12_comes 19 = .ok (.iload_n 2, 1) := by decide +kernel
theorem dX12_comes_20 : decode cX12_comes 20 = .ok (.bipush 8, 2) := by decide +kernel
theorem dX12_comes_22 : decode cX12_comes 22 = .ok (.if_icmp .le 66, 3) := by decide +kernel
theorem dX12_comes_25 : decode cX12_comes 25 = .ok (.iload_n 2, 1) := by decide +kernel
theorem dX12_comes_26 : decode cX12_comes 26 = .ok (.bipush 9, 2) := by decide +kernel
theorem dX12_comes_28 : decode cX12_comes 28 = .ok (.if_icmp .ne 20, 3) := by decide +kernel
theorem dX12_comes_31 : decode cX12_comes 31 = .ok (.aload_n 0, 1) := by decide +kernel
theorem dX12_comes_32 : decode cX12_comes 32 = .ok (.getfield 182, 3) := by decide +kernel
theorem dX12_comes_35 : decode cX12_comes 35 = .ok (.bipush 9, 2) := by decide +kernel
theorem dX12_comes_37 : decode cX12_comes 37 = .ok (.if_icmp .ne 7, 3) := by decide +kernel
theorem dX12_comes_40 : decode cX12_comes 40 = .ok (.iconst 1, 1) := by decide +kernel
theorem dX12_comes_41 : decode cX12_comes 41 = .ok (.goto 20, 3) := by decide +kernel
theorem dX12_comes_44 : decode cX12_comes 44 = .ok (.iconst 0, 1) := by decide +kernel
theorem dX12_comes_45 : decode cX12_comes 45 = .ok (.goto 16, 3) := by decide +kernel
theorem dX12_comes_48 : decode cX12_comes 48 = .ok (.aload_n 0, 1) := by decide +kernel
theorem dX12_comes_49 : decode cX12_comes 49 = .ok (.getfield 182, 3) := by decide +kernel
theorem dX12_comes_52 : decode cX12_comes 52 = .ok (.iconst 4, 1) := by decide +kernel
theorem dX12_comes_53 : decode cX12_comes 53 = .ok (.if_icmp .ne 7, 3) := by decide +kernel
theorem dX12_comes_56 : decode cX12_comes 56 = .ok (.iconst 1, 1) := by decide +kernel
theorem dX12_comes_57 : decode cX12_comes 57 = .ok (.goto 4, 3) := by decide +kernel
theorem dX12_comes_60 : decode cX12_comes 60 = .ok (.iconst 0, 1) := by decide +kernel
theorem dX12_comes_61 : decode cX12_comes 61 = .ok (.istore_n 3, 1) := by decide +kernel
theorem dX12_comes_62 : decode cX12_comes 62 = .ok (.iload_n 1, 1) := by decide +kernel
theorem dX12_comes_63 : decode cX12_comes 63 = .ok (.bipush 8, 2) := by decide +kernel
theorem dX12_comes_65 : decode cX12_comes 65 = .ok (.if_icmp .ne 20, 3) := by decide +kernel
theorem dX12_comes_68 : decode cX12_comes 68 = .ok (.iload_n 3, 1) := by decide +kernel
theorem dX12_comes_69 : decode cX12_comes 69 = .ok (.ifCond .ne 12, 3) := by decide +kernel
theorem dX12_comes_72 : decode cX12_comes 72 = .ok (.aload_n 0, 1) := by decide +kernel
theorem dX12_comes_73 : decode cX12_comes 73 = .ok (.getfield 182, 3) := by decide +kernel
theorem dX12_comes_76 : decode cX12_comes 76 = .ok (.bipush 10, 2) := by decide +kernel
theorem dX12_comes_78 : decode cX12_comes 78 = .ok (.if_icmp .ne 7, 3) := by decide +kernel
theorem dX12_comes_81 : decode cX12_comes 81 = .ok (.iconst 0, 1) := by decide +kernel
theorem dX12_comes_82 : decode cX12_comes 82 = .ok (.goto 5, 3) := by decide +kernel
theorem dX12_comes_85 : decode cX12_comes 85 = .ok (.bipush (-7), 2) := by decide +kernel
theorem dX12_comes_87 : decode cX12_comes 87 = .ok (.ireturn, 1) := by decide +kernel
theorem dX12_comes_88 : decode cX12_comes 88 = .ok (.iload_n 1, 1) := by decide +kernel
theorem dX12_comes_89 : decode cX12_comes 89 = .ok (.bipush 8, 2) := by decide +kernel
theorem dX12_comes_91 : decode cX12_comes 91 = .ok (.if_icmp .ne 15, 3) := by decide +kernel
theorem dX12_comes_94 : decode cX12_comes 94 = .ok (.aload_n 0, 1) := by decide +kernel
theorem dX12_comes_95 : decode cX12_comes 95 = .ok (.getfield 182, 3) := by decide +kernel
theorem dX12_comes_98 : decode cX12_comes 98 = .ok (.bipush 10, 2) := by decide +kernel
theorem dX12_comes_100 : decode cX12_comes 100 = .ok (.if_icmp .ne 6, 3) := by decide +kernel
theorem dX12_comes_103 : decode cX12_comes 103 = .ok (.bipush (-9), 2) := by decide +kernel
theorem dX12_comes_105 : decode cX12_comes 105 = .ok (.ireturn, 1) := by decide +kernel
theorem dX12_comes_106 : decode cX12_comes 106 = .ok (.iload_n 1, 1) := by decide +kernel
theorem dX12_comes_107 : decode cX12_comes 107 = .ok (.bipush 8, 2) := by decide +kernel
theorem dX12_comes_109 : decode cX12_comes 109 = .ok (.if_icmp .ne 10, 3) := by decide +kernel
theorem dX12_comes_112 : decode cX12_comes 112 = .ok (.aload_n 0, 1) := by decide +kernel
theorem dX12_comes_113 : decode cX12_comes 113 = .ok (.getfield 182, 3) := by decide +kernel
theorem dX12_comes_116 : decode cX12_comes 116 = .ok (.goto 4, 3) := by decide +kernel
theorem dX12_comes_119 : decode cX12_comes 119 = .ok (.iload_n 1, 1) := by decide +kernel
theorem dX12_comes_120 : decode cX12_comes 120 = .ok (.iload_n 2, 1) := by decide +kernel
theorem dX12_comes_121 : decode cX12_comes 121 = .ok (.invokestatic 178, 3) := by decide +kernel
theorem dX12_comes_124 : decode cX12_comes 124 = .ok (.ifCond .ne 6, 3) := by decide +kernel
theorem dX12_comes_127 : decode cX12_comes 127 = .ok (.bipush (-7), 2) := by decide +kernel
theorem dX12_comes_129 : decode cX12_comes 129 = .ok (.ireturn, 1) := by decide +kernel
theorem dX12_comes_130 : decode cX12_comes 130 = .ok (.aload_n 0, 1) := by decide +kernel
theorem dX12_comes_131 : decode cX12_comes 131 = .ok (.iload_n 2, 1) := by decide +kernel
theorem dX12_comes_132 : decode cX12_comes 132 = .ok (.putfield 182, 3) := by decide +kernel
theorem dX12_comes_135 : decode cX12_comes 135 = .ok (.aload_n 0, 1) := by decide +kernel
theorem dX12_comes_136 : decode cX12_comes 136 = .ok (.iload_n 2, 1) := by decide +kernel
theorem dX12_comes_137 : decode cX12_comes 137 = .ok (.aload_n 0, 1) := by decide +kernel
theorem dX12_comes_138 : decode cX12_comes 138 = .ok (.getfield 185, 3) := by decide +kernel
theorem dX12_comes_141 : decode cX12_comes 141 = .ok (.invokestatic 188, 3) := by decide +kernel
theorem dX12_comes_144 : decode cX12_comes 144 = .ok (.putfield 185, 3) := by decide +kernel
theorem dX12_comes_147 : decode cX12_comes 147 = .ok (.iconst 0, 1) := by decide +kernel
theorem dX12_comes_148 : decode cX12_comes 148 = .ok (.ireturn, 1) := by decide +kernel
theorem dX12_refusedBy_0 : decode cX12_refusedBy 0 = .ok (.aload_n 0, 1) := by decide +kernel
theorem dX12_refusedBy_1 : decode cX12_refusedBy 1 = .ok (.getfield 7, 3) := by decide +kernel
theorem dX12_refusedBy_4 : decode cX12_refusedBy 4 = .ok (.iload_n 1, 1) := by decide +kernel
theorem dX12_refusedBy_5 : decode cX12_refusedBy 5 = .ok (.iaload, 1) := by decide +kernel
theorem dX12_refusedBy_6 : decode cX12_refusedBy 6 = .ok (.bipush 11, 2) := by decide +kernel
theorem dX12_refusedBy_8 : decode cX12_refusedBy 8 = .ok (.if_icmp .ne 8, 3) := by decide +kernel
theorem dX12_refusedBy_11 : decode cX12_refusedBy 11 = .ok (.bipush (-5), 2) := by decide +kernel
theorem dX12_refusedBy_13 : decode cX12_refusedBy 13 = .ok (.goto 20, 3) := by decide +kernel
theorem dX12_refusedBy_16 : decode cX12_refusedBy 16 = .ok (.aload_n 0, 1) := by decide +kernel
theorem dX12_refusedBy_17 : decode cX12_refusedBy 17 = .ok (.getfield 7, 3) := by decide +kernel
theorem dX12_refusedBy_20 : decode cX12_refusedBy 20 = .ok (.iload_n 1, 1) := by decide +kernel
theorem dX12_refusedBy_21 : decode cX12_refusedBy 21 = .ok (.iaload, 1) := by decide +kernel
theorem dX12_refusedBy_22 : decode cX12_refusedBy 22 = .ok (.bipush 12, 2) := by decide +kernel
theorem dX12_refusedBy_24 : decode cX12_refusedBy 24 = .ok (.if_icmp .ne 8, 3) := by decide +kernel
theorem dX12_refusedBy_27 : decode cX12_refusedBy 27 = .ok (.bipush (-6), 2) := by decide +kernel
theorem dX12_refusedBy_29 : decode cX12_refusedBy 29 = .ok (.goto 4, 3) := by decide +kernel
theorem dX12_refusedBy_32 : decode cX12_refusedBy 32 = .ok (.iconst 0, 1) := by decide +kernel
theorem dX12_refusedBy_33 : decode cX12_refusedBy 33 = .ok (.ireturn, 1) := by decide +kernel
theorem dX12_isCell_0 : decode cX12_isCell 0 = .ok (.iload_n 2, 1) := by decide +kernel
theorem dX12_isCell_1 : decode cX12_isCell 1 = .ok (.i2l, 1) := by decide +kernel
theorem dX12_isCell_2 : decode cX12_isCell 2 = .ok (.lconst 0, 1) := by decide +kernel
theorem dX12_isCell_3 : decode cX12_isCell 3 = .ok (.aload_n 0, 1) := by decide +kernel
theorem dX12_isCell_4 : decode cX12_isCell 4 = .ok (.getfield 13, 3) := by decide +kernel
theorem dX12_isCell_7 : decode cX12_isCell 7 = .ok (.iload_n 1, 1) := by decide +kernel
theorem dX12_isCell_8 : decode cX12_isCell 8 = .ok (.iaload, 1) := by decide +kernel
theorem dX12_isCell_9 : decode cX12_isCell 9 = .ok (.iconst 1, 1) := by decide +kernel
theorem dX12_isCell_10 : decode cX12_isCell 10 = .ok (.isub, 1) := by decide +kernel
theorem dX12_isCell_11 : decode cX12_isCell 11 = .ok (.i2l, 1) := by decide +kernel
theorem dX12_isCell_12 : decode cX12_isCell 12 = .ok (.invokestatic 118, 3) := by decide +kernel
theorem dX12_isCell_15 : decode cX12_isCell 15 = .ok (.ireturn, 1) := by decide +kernel
theorem dX12_fetch_0 : decode cX12_fetch 0 = .ok (.aload_n 0, 1) := by decide +kernel
theorem dX12_fetch_1 : decode cX12_fetch 1 = .ok (.iload_n 1, 1) := by decide +kernel
theorem dX12_fetch_2 : decode cX12_fetch 2 = .ok (.invokevirtual 192, 3) := by decide +kernel
theorem dX12_fetch_5 : decode cX12_fetch 5 = .ok (.istore 4, 2) := by decide +kernel
theorem dX12_fetch_7 : decode cX12_fetch 7 = .ok (.aload_n 0, 1) := by decide +kernel
theorem dX12_fetch_8 : decode cX12_fetch 8 = .ok (.iload 4, 2) := by decide +kernel
theorem dX12_fetch_10 : decode cX12_fetch 10 = .ok (.invokevirtual 196, 3) := by decide +kernel
theorem dX12_fetch_13 : decode cX12_fetch 13 = .ok (.istore 5, 2) := by decide +kernel
theorem dX12_fetch_15 : decode cX12_fetch 15 = .ok (.iconst 0, 1) := by decide +kernel
theorem dX12_fetch_16 : decode cX12_fetch 16 = .ok (.istore 6, 2) := by decide +kernel
theorem dX12_fetch_18 : decode cX12_fetch 18 = .ok (.iload 6, 2) := by decide +kernel
theorem dX12_fetch_20 : decode cX12_fetch 20 = .ok (.aload_n 0, 1) := by decide +kernel
theorem dX12_fetch_21 : decode cX12_fetch 21 = .ok (.getfield 38, 3) := by decide +kernel
theorem dX12_fetch_24 : decode cX12_fetch 24 = .ok (.iload_n 1, 1) := by decide +kernel
theorem dX12_fetch_25 : decode cX12_fetch 25 = .ok (.iaload, 1) := by decide +kernel
theorem dX12_fetch_26 : decode cX12_fetch 26 = .ok (.if_icmp .ge 166, 3) := by decide +kernel
theorem dX12_fetch_29 : decode cX12_fetch 29 = .ok (.iload 5, 2) := by decide +kernel
theorem dX12_fetch_31 : decode cX12_fetch 31 = .ok (.ifCond .ne 161, 3) := by decide +kernel
theorem dX12_fetch_34 : decode cX12_fetch 34 = .ok (.aload_n 0, 1) := by decide +kernel
theorem dX12_fetch_35 : decode cX12_fetch 35 = .ok (.iload_n 1, 1) := by decide +kernel
theorem dX12_fetch_36 : decode cX12_fetch 36 = .ok (.iload 6, 2) := by decide +kernel
theorem dX12_fetch_38 : decode cX12_fetch 38 = .ok (.invokevirtual 199, 3) := by decide +kernel
theorem dX12_fetch_41 : decode cX12_fetch 41 = .ok (.istore 7, 2) := by decide +kernel
theorem dX12_fetch_43 : decode cX12_fetch 43 = .ok (.iload 7, 2) := by decide +kernel
theorem dX12_fetch_45 : decode cX12_fetch 45 = .ok (.iload_n 1, 1) := by decide +kernel
theorem dX12_fetch_46 : decode cX12_fetch 46 = .ok (.if_icmp .ne 7, 3) := by decide +kernel
theorem dX12_fetch_49 : decode cX12_fetch 49 = .ok (.iload_n 2, 1) := by decide +kernel
theorem dX12_fetch_50 : decode cX12_fetch 50 = .ok (.goto 10, 3) := by decide +kernel
theorem dX12_fetch_53 : decode cX12_fetch 53 = .ok (.aload_n 0, 1) := by decide +kernel
theorem dX12_fetch_54 : decode cX12_fetch 54 = .ok (.getfield 35, 3) := by decide +kernel
theorem dX12_fetch_57 : decode cX12_fetch 57 = .ok (.iload 7, 2) := by decide +kernel
theorem dX12_fetch_59 : decode cX12_fetch 59 = .ok (.iaload, 1) := by decide +kernel
theorem dX12_fetch_60 : decode cX12_fetch 60 = .ok (.istore 8, 2) := by decide +kernel
theorem dX12_fetch_62 : decode cX12_fetch 62 = .ok (.iload 6, 2) := by decide +kernel
theorem dX12_fetch_64 : decode cX12_fetch 64 = .ok (.ifCond .ne 13, 3) := by decide +kernel
theorem dX12_fetch_67 : decode cX12_fetch 67 = .ok (.aload_n 0, 1) := by decide +kernel
theorem dX12_fetch_68 : decode cX12_fetch 68 = .ok (.getfield 7, 3) := by decide +kernel
theorem dX12_fetch_71 : decode cX12_fetch 71 = .ok (.iload 4, 2) := by decide +kernel
theorem dX12_fetch_73 : decode cX12_fetch 73 = .ok (.iaload, 1) := by decide +kernel
theorem dX12_fetch_74 : decode cX12_fetch 74 = .ok (.goto 17, 3) := by decide +kernel
theorem dX12_fetch_77 : decode cX12_fetch 77 = .ok (.aload_n 0, 1) := by decide +kernel
theorem dX12_fetch_78 : decode cX12_fetch 78 = .ok (.getfield 35, 3) := by decide +kernel
theorem dX12_fetch_81 : decode cX12_fetch 81 = .ok (.aload_n 0, 1) := by decide +kernel
theorem dX12_fetch_82 : decode cX12_fetch 82 = .ok (.iload_n 1, 1) := by decide +kernel
theorem dX12_fetch_83 : decode cX12_fetch 83 = .ok (.iload 6, 2) := by decide +kernel
theorem dX12_fetch_85 : decode cX12_fetch 85 = .ok (.iconst 1, 1) := by decide +kernel
theorem dX12_fetch_86 : decode cX12_fetch 86 = .ok (.isub, 1) := by decide +kernel
theorem dX12_fetch_87 : decode cX12_fetch 87 = .ok (.invokevirtual 199, 3) := by decide +kernel
theorem dX12_fetch_90 : decode cX12_fetch 90 = .ok (.iaload, 1) := by decide +kernel
theorem dX12_fetch_91 : decode cX12_fetch 91 = .ok (.istore 9, 2) := by decide +kernel
theorem dX12_fetch_93 : decode cX12_fetch 93 = .ok (.iload 6, 2) := by decide +kernel
theorem dX12_fetch_95 : decode cX12_fetch 95 = .ok (.ifCond .ne 45, 3) := by decide +kernel
theorem dX12_fetch_98 : decode cX12_fetch 98 = .ok (.aload_n 0, 1) := by decide +kernel
theorem dX12_fetch_99 : decode cX12_fetch 99 = .ok (.iload 4, 2) := by decide +kernel
theorem dX12_fetch_101 : decode cX12_fetch 101 = .ok (.iload_n 3, 1) := by decide +kernel
theorem dX12_fetch_102 : decode cX12_fetch 102 = .ok (.invokevirtual 203, 3) := by decide +kernel
theorem dX12_fetch_105 : decode cX12_fetch 105 = .ok (.ifCond .eq 35, 3) := by decide +kernel
theorem dX12_fetch_108 : decode cX12_fetch 108 = .ok (.aload_n 0, 1) := by decide +kernel
theorem dX12_fetch_109 : decode cX12_fetch 109 = .ok (.aload_n 0, 1) := by decide +kernel
theorem dX12_fetch_110 : decode cX12_fetch 110 = .ok (.getfield 16, 3) := by decide +kernel
theorem dX12_fetch_113 : decode cX12_fetch 113 = .ok (.bipush 12, 2) := by decide +kernel
theorem dX12_fetch_115 : decode cX12_fetch 115 = .ok (.iload 4, 2) := by decide +kernel
theorem dX12_fetch_117 : decode cX12_fetch 117 = .ok (.imul, 1) := by decide +kernel
theorem dX12_fetch_118 : decode cX12_fetch 118 = .ok (.iload_n 3, 1) := by decide +kernel
theorem dX12_fetch_119 : decode cX12_fetch 119 = .ok (.iadd, 1) := by decide +kernel
theorem dX12_fetch_120 : decode cX12_fetch 120 = .ok (.iaload, 1) := by decide +kernel
theorem dX12_fetch_121 : decode cX12_fetch 121 = .ok (.putfield 182, 3) := by decide +kernel
theorem dX12_fetch_124 : decode cX12_fetch 124 = .ok (.aload_n 0, 1) := by decide +kernel
theorem dX12_fetch_125 : decode cX12_fetch 125 = .ok (.aload_n 0, 1) := by decide +kernel
theorem dX12_fetch_126 : decode cX12_fetch 126 = .ok (.getfield 19, 3) := by decide +kernel
theorem dX12_fetch_129 : decode cX12_fetch 129 = .ok (.bipush 12, 2) := by decide +kernel
theorem dX12_fetch_131 : decode cX12_fetch 131 = .ok (.iload 4, 2) := by decide +kernel
theorem dX12_fetch_133 : decode cX12_fetch 133 = .ok (.imul, 1) := by decide +kernel
theorem dX12_fetch_134 : decode cX12_fetch 134 = .ok (.iload_n 3, 1) := by decide +kernel
theorem dX12_fetch_135 : decode cX12_fetch 135 = .ok (.iadd, 1) := by decide +kernel
theorem dX12_fetch_136 : decode cX12_fetch 136 = .ok (.laload, 1) := by decide +kernel
theorem dX12_fetch_137 : decode cX12_fetch 137 = .ok (.putfield 185, 3) := by decide +kernel
theorem dX12_fetch_140 : decode cX12_fetch 140 = .ok (.aload_n 0, 1) := by decide +kernel
theorem dX12_fetch_141 : decode cX12_fetch 141 = .ok (.iload 9, 2) := by decide +kernel
theorem dX12_fetch_143 : decode cX12_fetch 143 = .ok (.iload 8, 2) := by decide +kernel
theorem dX12_fetch_145 : decode cX12_fetch 145 = .ok (.invokevirtual 206, 3) := by decide +kernel
theorem dX12_fetch_148 : decode cX12_fetch 148 = .ok (.istore 5, 2) := by decide +kernel
theorem dX12_fetch_150 : decode cX12_fetch 150 = .ok (.iload 5, 2) := by decide +kernel
theorem dX12_fetch_152 : decode cX12_fetch 152 = .ok (.ifCond .ne 30, 3) := by decide +kernel
theorem dX12_fetch_155 : decode cX12_fetch 155 = .ok (.iload 6, 2) := by decide +kernel
theorem dX12_fetch_157 : decode cX12_fetch 157 = .ok (.ifCond .ne 25, 3) := by decide +kernel
theorem dX12_fetch_160 : decode cX12_fetch 160 = .ok (.iload_n 3, 1) := by decide +kernel
theorem dX12_fetch_161 : decode cX12_fetch 161 = .ok (.sipush (-1000), 3) := by decide +kernel
theorem dX12_fetch_164 : decode cX12_fetch 164 = .ok (.if_icmp .eq 18, 3) := by decide +kernel
theorem dX12_fetch_167 : decode cX12_fetch 167 = .ok (.aload_n 0, 1) := by decide +kernel
theorem dX12_fetch_168 : decode cX12_fetch 168 = .ok (.iload 4, 2) := by decide +kernel
theorem dX12_fetch_170 : decode cX12_fetch 170 = .ok (.iload_n 3, 1) := by decide +kernel
theorem dX12_fetch_171 : decode cX12_fetch 171 = .ok (.invokevirtual 203, 3) := by decide +kernel
theorem dX12_fetch_174 : decode cX12_fetch 174 = .ok (.ifCond .ne 8, 3) := by decide +kernel
theorem dX12_fetch_177 : decode cX12_fetch 177 = .ok (.bipush (-8), 2) := by decide +kernel
theorem dX12_fetch_179 : decode cX12_fetch 179 = .ok (.goto 5, 3) := by decide +kernel
theorem dX12_fetch_182 : decode cX12_fetch 182 = .ok (.iload 5, 2) := by decide +kernel
theorem dX12_fetch_184 : decode cX12_fetch 184 = .ok (.istore 5, 2) := by decide +kernel
theorem dX12_fetch_186 : decode cX12_fetch 186 = .ok (.iinc 6 1, 3) := by decide +kernel
theorem dX12_fetch_189 : decode cX12_fetch 189 = .ok (.goto (-171), 3) := by decide +kernel
theorem dX12_fetch_192 : decode cX12_fetch 192 = .ok (.iload 5, 2) := by decide +kernel
theorem dX12_fetch_194 : decode cX12_fetch 194 = .ok (.ireturn, 1) := by decide +kernel
theorem dX12_read_0 : decode cX12_read 0 = .ok (.aload_n 0, 1) := by decide +kernel
theorem dX12_read_1 : decode cX12_read 1 = .ok (.iload_n 1, 1) := by decide +kernel
theorem dX12_read_2 : decode cX12_read 2 = .ok (.iload_n 2, 1) := by decide +kernel
theorem dX12_read_3 : decode cX12_read 3 = .ok (.invokevirtual 209, 3) := by decide +kernel
theorem dX12_read_6 : decode cX12_read 6 = .ok (.istore_n 3, 1) := by decide +kernel
theorem dX12_read_7 : decode cX12_read 7 = .ok (.iload_n 3, 1) := by decide +kernel
theorem dX12_read_8 : decode cX12_read 8 = .ok (.sipush (-1000), 3) := by decide +kernel
theorem dX12_read_11 : decode cX12_read 11 = .ok (.if_icmp .ne 8, 3) := by decide +kernel
theorem dX12_read_14 : decode cX12_read 14 = .ok (.bipush (-4), 2) := by decide +kernel
theorem dX12_read_16 : decode cX12_read 16 = .ok (.goto 15, 3) := by decide +kernel
theorem dX12_read_19 : decode cX12_read 19 = .ok (.aload_n 0, 1) := by decide +kernel
theorem dX12_read_20 : decode cX12_read 20 = .ok (.iload_n 1, 1) := by decide +kernel
theorem dX12_read_21 : decode cX12_read 21 = .ok (.aload_n 0, 1) := by decide +kernel
theorem dX12_read_22 : decode cX12_read 22 = .ok (.getfield 35, 3) := by decide +kernel
theorem dX12_read_25 : decode cX12_read 25 = .ok (.iload_n 1, 1) := by decide +kernel
theorem dX12_read_26 : decode cX12_read 26 = .ok (.iaload, 1) := by decide +kernel
theorem dX12_read_27 : decode cX12_read 27 = .ok (.iload_n 3, 1) := by decide +kernel
theorem dX12_read_28 : decode cX12_read 28 = .ok (.invokevirtual 212, 3) := by decide +kernel
theorem dX12_read_31 : decode cX12_read 31 = .ok (.ireturn, 1) := by decide +kernel
theorem dX12_sink_0 : decode cX12_sink 0 = .ok (.aload_n 0, 1) := by decide +kernel
theorem dX12_sink_1 : decode cX12_sink 1 = .ok (.iload_n 1, 1) := by decide +kernel
theorem dX12_sink_2 : decode cX12_sink 2 = .ok (.invokevirtual 192, 3) := by decide +kernel
theorem dX12_sink_5 : decode cX12_sink 5 = .ok (.istore 4, 2) := by decide +kernel
theorem dX12_sink_7 : decode cX12_sink 7 = .ok (.iload_n 2, 1) := by decide +kernel
theorem dX12_sink_8 : decode cX12_sink 8 = .ok (.istore 5, 2) := by decide +kernel
theorem dX12_sink_10 : decode cX12_sink 10 = .ok (.aload_n 0, 1) := by decide +kernel
theorem dX12_sink_11 : decode cX12_sink 11 = .ok (.getfield 38, 3) := by decide +kernel
theorem dX12_sink_14 : decode cX12_sink 14 = .ok (.iload_n 1, 1) := by decide +kernel
theorem dX12_sink_15 : decode cX12_sink 15 = .ok (.iaload, 1) := by decide +kernel
theorem dX12_sink_16 : decode cX12_sink 16 = .ok (.iconst 1, 1) := by decide +kernel
theorem dX12_sink_17 : decode cX12_sink 17 = .ok (.isub, 1) := by decide +kernel
theorem dX12_sink_18 : decode cX12_sink 18 = .ok (.istore 6, 2) := by decide +kernel
theorem dX12_sink_20 : decode cX12_sink 20 = .ok (.iload 6, 2) := by decide +kernel
theorem dX12_sink_22 : decode cX12_sink 22 = .ok (.ifCond .lt 50, 3) := by decide +kernel
theorem dX12_sink_25 : decode cX12_sink 25 = .ok (.aload_n 0, 1) := by decide +kernel
theorem dX12_sink_26 : decode cX12_sink 26 = .ok (.iload_n 1, 1) := by decide +kernel
theorem dX12_sink_27 : decode cX12_sink 27 = .ok (.iload 6, 2) := by decide +kernel
theorem dX12_sink_29 : decode cX12_sink 29 = .ok (.invokevirtual 199, 3) := by decide +kernel
theorem dX12_sink_32 : decode cX12_sink 32 = .ok (.istore 7, 2) := by decide +kernel
theorem dX12_sink_34 : decode cX12_sink 34 = .ok (.aload_n 0, 1) := by decide +kernel
theorem dX12_sink_35 : decode cX12_sink 35 = .ok (.iload 5, 2) := by decide +kernel
theorem dX12_sink_37 : decode cX12_sink 37 = .ok (.aload_n 0, 1) := by decide +kernel
theorem dX12_sink_38 : decode cX12_sink 38 = .ok (.getfield 35, 3) := by decide +kernel
theorem dX12_sink_41 : decode cX12_sink 41 = .ok (.iload 7, 2) := by decide +kernel
theorem dX12_sink_43 : decode cX12_sink 43 = .ok (.iaload, 1) := by decide +kernel
theorem dX12_sink_44 : decode cX12_sink 44 = .ok (.invokevirtual 216, 3) := by decide +kernel
theorem dX12_sink_47 : decode cX12_sink 47 = .ok (.istore 8, 2) := by decide +kernel
theorem dX12_sink_49 : decode cX12_sink 49 = .ok (.iload 8, 2) := by decide +kernel
theorem dX12_sink_51 : decode cX12_sink 51 = .ok (.ifCond .eq 6, 3) := by decide +kernel
theorem dX12_sink_54 : decode cX12_sink 54 = .ok (.iload 8, 2) := by decide +kernel
theorem dX12_sink_56 : decode cX12_sink 56 = .ok (.ireturn, 1) := by decide +kernel
theorem dX12_sink_57 : decode cX12_sink 57 = .ok (.aload_n 0, 1) := by decide +kernel
theorem dX12_sink_58 : decode cX12_sink 58 = .ok (.getfield 35, 3) := by decide +kernel
theorem dX12_sink_61 : decode cX12_sink 61 = .ok (.iload 7, 2) := by decide +kernel
theorem dX12_sink_63 : decode cX12_sink 63 = .ok (.iaload, 1) := by decide +kernel
theorem dX12_sink_64 : decode cX12_sink 64 = .ok (.istore 5, 2) := by decide +kernel
theorem dX12_sink_66 : decode cX12_sink 66 = .ok (.iinc 6 (-1), 3) := by decide +kernel
theorem dX12_sink_69 : decode cX12_sink 69 = .ok (.goto (-49), 3) := by decide +kernel
theorem dX12_sink_72 : decode cX12_sink 72 = .ok (.aload_n 0, 1) := by decide +kernel
theorem dX12_sink_73 : decode cX12_sink 73 = .ok (.iload 4, 2) := by decide +kernel
theorem dX12_sink_75 : decode cX12_sink 75 = .ok (.invokevirtual 196, 3) := by decide +kernel
theorem dX12_sink_78 : decode cX12_sink 78 = .ok (.istore 6, 2) := by decide +kernel
theorem dX12_sink_80 : decode cX12_sink 80 = .ok (.iload 6, 2) := by decide +kernel
theorem dX12_sink_82 : decode cX12_sink 82 = .ok (.ifCond .ne 19, 3) := by decide +kernel
theorem dX12_sink_85 : decode cX12_sink 85 = .ok (.aload_n 0, 1) := by decide +kernel
theorem dX12_sink_86 : decode cX12_sink 86 = .ok (.iload 5, 2) := by decide +kernel
theorem dX12_sink_88 : decode cX12_sink 88 = .ok (.aload_n 0, 1) := by decide +kernel
theorem dX12_sink_89 : decode cX12_sink 89 = .ok (.getfield 7, 3) := by decide +kernel
theorem dX12_sink_92 : decode cX12_sink 92 = .ok (.iload 4, 2) := by decide +kernel
theorem dX12_sink_94 : decode cX12_sink 94 = .ok (.iaload, 1) := by decide +kernel
theorem dX12_sink_95 : decode cX12_sink 95 = .ok (.invokevirtual 216, 3) := by decide +kernel
theorem dX12_sink_98 : decode cX12_sink 98 = .ok (.goto 5, 3) := by decide +kernel
theorem dX12_sink_101 : decode cX12_sink 101 = .ok (.iload 6, 2) := by decide +kernel
theorem dX12_sink_103 : decode cX12_sink 103 = .ok (.istore 6, 2) := by decide +kernel
theorem dX12_sink_105 : decode cX12_sink 105 = .ok (.iload 6, 2) := by decide +kernel
theorem dX12_sink_107 : decode cX12_sink 107 = .ok (.ifCond .ne 25, 3) := by decide +kernel
theorem dX12_sink_110 : decode cX12_sink 110 = .ok (.iload_n 3, 1) := by decide +kernel
theorem dX12_sink_111 : decode cX12_sink 111 = .ok (.sipush (-1000), 3) := by decide +kernel
theorem dX12_sink_114 : decode cX12_sink 114 = .ok (.if_icmp .eq 18, 3) := by decide +kernel
theorem dX12_sink_117 : decode cX12_sink 117 = .ok (.aload_n 0, 1) := by decide +kernel
theorem dX12_sink_118 : decode cX12_sink 118 = .ok (.iload 4, 2) := by decide +kernel
theorem dX12_sink_120 : decode cX12_sink 120 = .ok (.iload_n 3, 1) := by decide +kernel
theorem dX12_sink_121 : decode cX12_sink 121 = .ok (.invokevirtual 203, 3) := by decide +kernel
theorem dX12_sink_124 : decode cX12_sink 124 = .ok (.ifCond .ne 8, 3) := by decide +kernel
theorem dX12_sink_127 : decode cX12_sink 127 = .ok (.bipush (-8), 2) := by decide +kernel
theorem dX12_sink_129 : decode cX12_sink 129 = .ok (.goto 5, 3) := by decide +kernel
theorem dX12_sink_132 : decode cX12_sink 132 = .ok (.iload 6, 2) := by decide +kernel
theorem dX12_sink_134 : decode cX12_sink 134 = .ok (.ireturn, 1) := by decide +kernel
theorem dX12_write_0 : decode cX12_write 0 = .ok (.aload_n 0, 1) := by decide +kernel
theorem dX12_write_1 : decode cX12_write 1 = .ok (.iload_n 1, 1) := by decide +kernel
theorem dX12_write_2 : decode cX12_write 2 = .ok (.iload_n 2, 1) := by decide +kernel
theorem dX12_write_3 : decode cX12_write 3 = .ok (.invokevirtual 209, 3) := by decide +kernel
theorem dX12_write_6 : decode cX12_write 6 = .ok (.istore 4, 2) := by decide +kernel
theorem dX12_write_8 : decode cX12_write 8 = .ok (.iload 4, 2) := by decide +kernel
theorem dX12_write_10 : decode cX12_write 10 = .ok (.sipush (-1000), 3) := by decide +kernel
theorem dX12_write_13 : decode cX12_write 13 = .ok (.if_icmp .ne 6, 3) := by decide +kernel
theorem dX12_write_16 : decode cX12_write 16 = .ok (.bipush (-4), 2) := by decide +kernel
theorem dX12_write_18 : decode cX12_write 18 = .ok (.ireturn, 1) := by decide +kernel
theorem dX12_write_19 : decode cX12_write 19 = .ok (.aload_n 0, 1) := by decide +kernel
theorem dX12_write_20 : decode cX12_write 20 = .ok (.iload_n 1, 1) := by decide +kernel
theorem dX12_write_21 : decode cX12_write 21 = .ok (.iload_n 3, 1) := by decide +kernel
theorem dX12_write_22 : decode cX12_write 22 = .ok (.iload 4, 2) := by decide +kernel
theorem dX12_write_24 : decode cX12_write 24 = .ok (.invokevirtual 219, 3) := by decide +kernel
theorem dX12_write_27 : decode cX12_write 27 = .ok (.istore 5, 2) := by decide +kernel
theorem dX12_write_29 : decode cX12_write 29 = .ok (.aload_n 0, 1) := by decide +kernel
theorem dX12_write_30 : decode cX12_write 30 = .ok (.bipush 12, 2) := by decide +kernel
theorem dX12_write_32 : decode cX12_write 32 = .ok (.aload_n 0, 1) := by decide +kernel
theorem dX12_write_33 : decode cX12_write 33 = .ok (.iload_n 1, 1) := by decide +kernel
theorem dX12_write_34 : decode cX12_write 34 = .ok (.invokevirtual 192, 3) := by decide +kernel
theorem dX12_write_37 : decode cX12_write 37 = .ok (.imul, 1) := by decide +kernel
theorem dX12_write_38 : decode cX12_write 38 = .ok (.iload 4, 2) := by decide +kernel
theorem dX12_write_40 : decode cX12_write 40 = .ok (.iadd, 1) := by decide +kernel
theorem dX12_write_41 : decode cX12_write 41 = .ok (.putfield 222, 3) := by decide +kernel
theorem dX12_write_44 : decode cX12_write 44 = .ok (.iload 5, 2) := by decide +kernel
theorem dX12_write_46 : decode cX12_write 46 = .ok (.ireturn, 1) := by decide +kernel
theorem dX12_put_0 : decode cX12_put 0 = .ok (.aload_n 0, 1) := by decide +kernel
theorem dX12_put_1 : decode cX12_put 1 = .ok (.getfield 16, 3) := by decide +kernel
theorem dX12_put_4 : decode cX12_put 4 = .ok (.iload_n 1, 1) := by decide +kernel
theorem dX12_put_5 : decode cX12_put 5 = .ok (.aload_n 0, 1) := by decide +kernel
theorem dX12_put_6 : decode cX12_put 6 = .ok (.getfield 182, 3) := by decide +kernel
theorem dX12_put_9 : decode cX12_put 9 = .ok (.iastore, 1) := by decide +kernel
theorem dX12_put_10 : decode cX12_put 10 = .ok (.aload_n 0, 1) := by decide +kernel
theorem dX12_put_11 : decode cX12_put 11 = .ok (.getfield 19, 3) := by decide +kernel
theorem dX12_put_14 : decode cX12_put 14 = .ok (.iload_n 1, 1) := by decide +kernel
theorem dX12_put_15 : decode cX12_put 15 = .ok (.aload_n 0, 1) := by decide +kernel
theorem dX12_put_16 : decode cX12_put 16 = .ok (.getfield 185, 3) := by decide +kernel
theorem dX12_put_19 : decode cX12_put 19 = .ok (.lastore, 1) := by decide +kernel
theorem dX12_put_20 : decode cX12_put 20 = .ok (.return_, 1) := by decide +kernel
theorem dX12_copy_0 : decode cX12_copy 0 = .ok (.iconst 0, 1) := by decide +kernel
theorem dX12_copy_1 : decode cX12_copy 1 = .ok (.istore 4, 2) := by decide +kernel
theorem dX12_copy_3 : decode cX12_copy 3 = .ok (.iload 4, 2) := by decide +kernel
theorem dX12_copy_5 : decode cX12_copy 5 = .ok (.bipush 72, 2) := by decide +kernel
theorem dX12_copy_7 : decode cX12_copy 7 = .ok (.if_icmp .ge 35, 3) := by decide +kernel
theorem dX12_copy_10 : decode cX12_copy 10 = .ok (.aload_n 1, 1) := by decide +kernel
theorem dX12_copy_11 : decode cX12_copy 11 = .ok (.iload_n 3, 1) := by decide +kernel
theorem dX12_copy_12 : decode cX12_copy 12 = .ok (.iload 4, 2) := by decide +kernel
theorem dX12_copy_14 : decode cX12_copy 14 = .ok (.iadd, 1) := by decide +kernel
theorem dX12_copy_15 : decode cX12_copy 15 = .ok (.aload_n 0, 1) := by decide +kernel
theorem dX12_copy_16 : decode cX12_copy 16 = .ok (.getfield 16, 3) := by decide +kernel
theorem dX12_copy_19 : decode cX12_copy 19 = .ok (.iload 4, 2) := by decide +kernel
theorem dX12_copy_21 : decode cX12_copy 21 = .ok (.iaload, 1) := by decide +kernel
theorem dX12_copy_22 : decode cX12_copy 22 = .ok (.iastore, 1) := by decide +kernel
theorem dX12_copy_23 : decode cX12_copy 23 = .ok (.aload_n 2, 1) := by decide +kernel
theorem dX12_copy_24 : decode cX12_copy 24 = .ok (.iload_n 3, 1) := by decide +kernel
theorem dX12_copy_25 : decode cX12_copy 25 = .ok (.iload 4, 2) := by decide +kernel
theorem dX12_copy_27 : decode cX12_copy 27 = .ok (.iadd, 1) := by decide +kernel
theorem dX12_copy_28 : decode cX12_copy 28 = .ok (.aload_n 0, 1) := by decide +kernel
theorem dX12_copy_29 : decode cX12_copy 29 = .ok (.getfield 19, 3) := by decide +kernel
theorem dX12_copy_32 : decode cX12_copy 32 = .ok (.iload 4, 2) := by decide +kernel
theorem dX12_copy_34 : decode cX12_copy 34 = .ok (.laload, 1) := by decide +kernel
theorem dX12_copy_35 : decode cX12_copy 35 = .ok (.lastore, 1) := by decide +kernel
theorem dX12_copy_36 : decode cX12_copy 36 = .ok (.iinc 4 1, 3) := by decide +kernel
theorem dX12_copy_39 : decode cX12_copy 39 = .ok (.goto (-36), 3) := by decide +kernel
theorem dX12_copy_42 : decode cX12_copy 42 = .ok (.return_, 1) := by decide +kernel
theorem dX12_copyBack_0 : decode cX12_copyBack 0 = .ok (.iconst 0, 1) := by decide +kernel
theorem dX12_copyBack_1 : decode cX12_copyBack 1 = .ok (.istore 5, 2) := by decide +kernel
theorem dX12_copyBack_3 : decode cX12_copyBack 3 = .ok (.iload 5, 2) := by decide +kernel
theorem dX12_copyBack_5 : decode cX12_copyBack 5 = .ok (.iload 4, 2) := by decide +kernel
theorem dX12_copyBack_7 : decode cX12_copyBack 7 = .ok (.if_icmp .ge 35, 3) := by decide +kernel
theorem dX12_copyBack_10 : decode cX12_copyBack 10 = .ok (.aload_n 0, 1) := by decide +kernel
theorem dX12_copyBack_11 : decode cX12_copyBack 11 = .ok (.getfield 16, 3) := by decide +kernel
theorem dX12_copyBack_14 : decode cX12_copyBack 14 = .ok (.iload 5, 2) := by decide +kernel
theorem dX12_copyBack_16 : decode cX12_copyBack 16 = .ok (.aload_n 1, 1) := by decide +kernel
theorem dX12_copyBack_17 : decode cX12_copyBack 17 = .ok (.iload_n 3, 1) := by decide +kernel
theorem dX12_copyBack_18 : decode cX12_copyBack 18 = .ok (.iload 5, 2) := by decide +kernel
theorem dX12_copyBack_20 : decode cX12_copyBack 20 = .ok (.iadd, 1) := by decide +kernel
theorem dX12_copyBack_21 : decode cX12_copyBack 21 = .ok (.iaload, 1) := by decide +kernel
theorem dX12_copyBack_22 : decode cX12_copyBack 22 = .ok (.iastore, 1) := by decide +kernel
theorem dX12_copyBack_23 : decode cX12_copyBack 23 = .ok (.aload_n 0, 1) := by decide +kernel
theorem dX12_copyBack_24 : decode cX12_copyBack 24 = .ok (.getfield 19, 3) := by decide +kernel
theorem dX12_copyBack_27 : decode cX12_copyBack 27 = .ok (.iload 5, 2) := by decide +kernel
theorem dX12_copyBack_29 : decode cX12_copyBack 29 = .ok (.aload_n 2, 1) := by decide +kernel
theorem dX12_copyBack_30 : decode cX12_copyBack 30 = .ok (.iload_n 3, 1) := by decide +kernel
theorem dX12_copyBack_31 : decode cX12_copyBack 31 = .ok (.iload 5, 2) := by decide +kernel
theorem dX12_copyBack_33 : decode cX12_copyBack 33 = .ok (.iadd, 1) := by decide +kernel
theorem dX12_copyBack_34 : decode cX12_copyBack 34 = .ok (.laload, 1) := by decide +kernel
theorem dX12_copyBack_35 : decode cX12_copyBack 35 = .ok (.lastore, 1) := by decide +kernel
theorem dX12_copyBack_36 : decode cX12_copyBack 36 = .ok (.iinc 5 1, 3) := by decide +kernel
theorem dX12_copyBack_39 : decode cX12_copyBack 39 = .ok (.goto (-36), 3) := by decide +kernel
theorem dX12_copyBack_42 : decode cX12_copyBack 42 = .ok (.return_, 1) := by decide +kernel
theorem dX12_know_0 : decode cX12_know 0 = .ok (.aload_n 0, 1) := by decide +kernel
theorem dX12_know_1 : decode cX12_know 1 = .ok (.getfield 169, 3) := by decide +kernel
theorem dX12_know_4 : decode cX12_know 4 = .ok (.bipush 10, 2) := by decide +kernel
theorem dX12_know_6 : decode cX12_know 6 = .ok (.if_icmp .ne 82, 3) := by decide +kernel
theorem dX12_know_9 : decode cX12_know 9 = .ok (.iconst 0, 1) := by decide +kernel
theorem dX12_know_10 : decode cX12_know 10 = .ok (.istore_n 1, 1) := by decide +kernel
theorem dX12_know_11 : decode cX12_know 11 = .ok (.iload_n 1, 1) := by decide +kernel
theorem dX12_know_12 : decode cX12_know 12 = .ok (.sipush 648, 3) := by decide +kernel
theorem dX12_know_15 : decode cX12_know 15 = .ok (.if_icmp .ge 39, 3) := by decide +kernel
theorem dX12_know_18 : decode cX12_know 18 = .ok (.aload_n 0, 1) := by decide +kernel
theorem dX12_know_19 : decode cX12_know 19 = .ok (.getfield 48, 3) := by decide +kernel
theorem dX12_know_22 : decode cX12_know 22 = .ok (.iload_n 1, 1) := by decide +kernel
theorem dX12_know_23 : decode cX12_know 23 = .ok (.aload_n 0, 1) := by decide +kernel
theorem dX12_know_24 : decode cX12_know 24 = .ok (.getfield 48, 3) := by decide +kernel
theorem dX12_know_27 : decode cX12_know 27 = .ok (.iload_n 1, 1) := by decide +kernel
theorem dX12_know_28 : decode cX12_know 28 = .ok (.bipush 72, 2) := by decide +kernel
theorem dX12_know_30 : decode cX12_know 30 = .ok (.iadd, 1) := by decide +kernel
theorem dX12_know_31 : decode cX12_know 31 = .ok (.iaload, 1) := by decide +kernel
theorem dX12_know_32 : decode cX12_know 32 = .ok (.iastore, 1) := by decide +kernel
theorem dX12_know_33 : decode cX12_know 33 = .ok (.aload_n 0, 1) := by decide +kernel
theorem dX12_know_34 : decode cX12_know 34 = .ok (.getfield 51, 3) := by decide +kernel
theorem dX12_know_37 : decode cX12_know 37 = .ok (.iload_n 1, 1) := by decide +kernel
theorem dX12_know_38 : decode cX12_know 38 = .ok (.aload_n 0, 1) := by decide +kernel
theorem dX12_know_39 : decode cX12_know 39 = .ok (.getfield 51, 3) := by decide +kernel
theorem dX12_know_42 : decode cX12_know 42 = .ok (.iload_n 1, 1) := by decide +kernel
theorem dX12_know_43 : decode cX12_know 43 = .ok (.bipush 72, 2) := by decide +kernel
theorem dX12_know_45 : decode cX12_know 45 = .ok (.iadd, 1) := by decide +kernel
theorem dX12_know_46 : decode cX12_know 46 = .ok (.laload, 1) := by decide +kernel
theorem dX12_know_47 : decode cX12_know 47 = .ok (.lastore, 1) := by decide +kernel
theorem dX12_know_48 : decode cX12_know 48 = .ok (.iinc 1 1, 3) := by decide +kernel
theorem dX12_know_51 : decode cX12_know 51 = .ok (.goto (-40), 3) := by decide +kernel
theorem dX12_know_54 : decode cX12_know 54 = .ok (.iconst 0, 1) := by decide +kernel
theorem dX12_know_55 : decode cX12_know 55 = .ok (.istore_n 1, 1) := by decide +kernel
theorem dX12_know_56 : decode cX12_know 56 = .ok (.iload_n 1, 1) := by decide +kernel
theorem dX12_know_57 : decode cX12_know 57 = .ok (.bipush 9, 2) := by decide +kernel
theorem dX12_know_59 : decode cX12_know 59 = .ok (.if_icmp .ge 23, 3) := by decide +kernel
theorem dX12_know_62 : decode cX12_know 62 = .ok (.aload_n 0, 1) := by decide +kernel
theorem dX12_know_63 : decode cX12_know 63 = .ok (.getfield 45, 3) := by decide +kernel
theorem dX12_know_66 : decode cX12_know 66 = .ok (.iload_n 1, 1) := by decide +kernel
theorem dX12_know_67 : decode cX12_know 67 = .ok (.aload_n 0, 1) := by decide +kernel
theorem dX12_know_68 : decode cX12_know 68 = .ok (.getfield 45, 3) := by decide +kernel
theorem dX12_know_71 : decode cX12_know 71 = .ok (.iload_n 1, 1) := by decide +kernel
theorem dX12_know_72 : decode cX12_know 72 = .ok (.iconst 1, 1) := by decide +kernel
theorem dX12_know_73 : decode cX12_know 73 = .ok (.iadd, 1) := by decide +kernel
theorem dX12_know_74 : decode cX12_know 74 = .ok (.iaload, 1) := by decide +kernel
theorem dX12_know_75 : decode cX12_know 75 = .ok (.iastore, 1) := by decide +kernel
theorem dX12_know_76 : decode cX12_know 76 = .ok (.iinc 1 1, 3) := by decide +kernel
theorem dX12_know_79 : decode cX12_know 79 = .ok (.goto (-23), 3) := by decide +kernel
theorem dX12_know_82 : decode cX12_know 82 = .ok (.aload_n 0, 1) := by decide +kernel
theorem dX12_know_83 : decode cX12_know 83 = .ok (.bipush 9, 2) := by decide +kernel
theorem dX12_know_85 : decode cX12_know 85 = .ok (.putfield 169, 3) := by decide +kernel
theorem dX12_know_88 : decode cX12_know 88 = .ok (.iconst 0, 1) := by decide +kernel
theorem dX12_know_89 : decode cX12_know 89 = .ok (.istore_n 1, 1) := by decide +kernel
theorem dX12_know_90 : decode cX12_know 90 = .ok (.iload_n 1, 1) := by decide +kernel
theorem dX12_know_91 : decode cX12_know 91 = .ok (.bipush 72, 2) := by decide +kernel
theorem dX12_know_93 : decode cX12_know 93 = .ok (.if_icmp .ge 49, 3) := by decide +kernel
theorem dX12_know_96 : decode cX12_know 96 = .ok (.aload_n 0, 1) := by decide +kernel
theorem dX12_know_97 : decode cX12_know 97 = .ok (.getfield 48, 3) := by decide +kernel
theorem dX12_know_100 : decode cX12_know 100 = .ok (.bipush 72, 2) := by decide +kernel
theorem dX12_know_102 : decode cX12_know 102 = .ok (.aload_n 0, 1) := by decide +kernel
theorem dX12_know_103 : decode cX12_know 103 = .ok (.getfield 169, 3) := by decide +kernel
theorem dX12_know_106 : decode cX12_know 106 = .ok (.imul, 1) := by decide +kernel
theorem dX12_know_107 : decode cX12_know 107 = .ok (.iload_n 1, 1) := by decide +kernel
theorem dX12_know_108 : decode cX12_know 108 = .ok (.iadd, 1) := by decide +kernel
theorem dX12_know_109 : decode cX12_know 109 = .ok (.aload_n 0, 1) := by decide +kernel
theorem dX12_know_110 : decode cX12_know 110 = .ok (.getfield 82, 3) := by decide +kernel
theorem dX12_know_113 : decode cX12_know 113 = .ok (.iload_n 1, 1) := by decide +kernel
theorem dX12_know_114 : decode cX12_know 114 = .ok (.iaload, 1) := by decide +kernel
theorem dX12_know_115 : decode cX12_know 115 = .ok (.iastore, 1) := by decide +kernel
theorem dX12_know_116 : decode cX12_know 116 = .ok (.aload_n 0, 1) := by decide +kernel
theorem dX12_know_117 : decode cX12_know 117 = .ok (.getfield 51, 3) := by decide +kernel
theorem dX12_know_120 : decode cX12_know 120 = .ok (.bipush 72, 2) := by decide +kernel
theorem dX12_know_122 : decode cX12_know 122 = .ok (.aload_n 0, 1) := by decide +kernel
theorem dX12_know_123 : decode cX12_know 123 = .ok (.getfield 169, 3) := by decide +kernel
theorem dX12_know_126 : decode cX12_know 126 = .ok (.imul, 1) := by decide +kernel
theorem dX12_know_127 : decode cX12_know 127 = .ok (.iload_n 1, 1) := by decide +kernel
theorem dX12_know_128 : decode cX12_know 128 = .ok (.iadd, 1) := by decide +kernel
theorem dX12_know_129 : decode cX12_know 129 = .ok (.aload_n 0, 1) := by decide +kernel
theorem dX12_know_130 : decode cX12_know 130 = .ok (.getfield 85, 3) := by decide +kernel
theorem dX12_know_133 : decode cX12_know 133 = .ok (.iload_n 1, 1) := by decide +kernel
theorem dX12_know_134 : decode cX12_know 134 = .ok (.laload, 1) := by decide +kernel
theorem dX12_know_135 : decode cX12_know 135 = .ok (.lastore, 1) := by decide +kernel
theorem dX12_know_136 : decode cX12_know 136 = .ok (.iinc 1 1, 3) := by decide +kernel
theorem dX12_know_139 : decode cX12_know 139 = .ok (.goto (-49), 3) := by decide +kernel
theorem dX12_know_142 : decode cX12_know 142 = .ok (.aload_n 0, 1) := by decide +kernel
theorem dX12_know_143 : decode cX12_know 143 = .ok (.getfield 45, 3) := by decide +kernel
theorem dX12_know_146 : decode cX12_know 146 = .ok (.aload_n 0, 1) := by decide +kernel
theorem dX12_know_147 : decode cX12_know 147 = .ok (.getfield 169, 3) := by decide +kernel
theorem dX12_know_150 : decode cX12_know 150 = .ok (.aload_n 0, 1) := by decide +kernel
theorem dX12_know_151 : decode cX12_know 151 = .ok (.getfield 140, 3) := by decide +kernel
theorem dX12_know_154 : decode cX12_know 154 = .ok (.iastore, 1) := by decide +kernel
theorem dX12_know_155 : decode cX12_know 155 = .ok (.aload_n 0, 1) := by decide +kernel
theorem dX12_know_156 : decode cX12_know 156 = .ok (.dup, 1) := by decide +kernel
theorem dX12_know_157 : decode cX12_know 157 = .ok (.getfield 169, 3) := by decide +kernel
theorem dX12_know_160 : decode cX12_know 160 = .ok (.iconst 1, 1) := by decide +kernel
theorem dX12_know_161 : decode cX12_know 161 = .ok (.iadd, 1) := by decide +kernel
theorem dX12_know_162 : decode cX12_know 162 = .ok (.putfield 169, 3) := by decide +kernel
theorem dX12_know_165 : decode cX12_know 165 = .ok (.return_, 1) := by decide +kernel
theorem dX12_tell_0 : decode cX12_tell 0 = .ok (.aload_n 0, 1) := by decide +kernel
theorem dX12_tell_1 : decode cX12_tell 1 = .ok (.aload_n 0, 1) := by decide +kernel
theorem dX12_tell_2 : decode cX12_tell 2 = .ok (.getfield 182, 3) := by decide +kernel
theorem dX12_tell_5 : decode cX12_tell 5 = .ok (.bipush 10, 2) := by decide +kernel
theorem dX12_tell_7 : decode cX12_tell 7 = .ok (.if_icmp .ne 8, 3) := by decide +kernel
theorem dX12_tell_10 : decode cX12_tell 10 = .ok (.bipush (-20), 2) := by decide +kernel
theorem dX12_tell_12 : decode cX12_tell 12 = .ok (.goto 7, 3) := by decide +kernel
theorem dX12_tell_15 : decode cX12_tell 15 = .ok (.aload_n 0, 1) := by decide +kernel
theorem dX12_tell_16 : decode cX12_tell 16 = .ok (.getfield 182, 3) := by decide +kernel
theorem dX12_tell_19 : decode cX12_tell 19 = .ok (.putfield 41, 3) := by decide +kernel
theorem dX12_tell_22 : decode cX12_tell 22 = .ok (.aload_n 0, 1) := by decide +kernel
theorem dX12_tell_23 : decode cX12_tell 23 = .ok (.aload_n 0, 1) := by decide +kernel
theorem dX12_tell_24 : decode cX12_tell 24 = .ok (.getfield 182, 3) := by decide +kernel
theorem dX12_tell_27 : decode cX12_tell 27 = .ok (.bipush 10, 2) := by decide +kernel
theorem dX12_tell_29 : decode cX12_tell 29 = .ok (.if_icmp .ne 7, 3) := by decide +kernel
theorem dX12_tell_32 : decode cX12_tell 32 = .ok (.lconst 0, 1) := by decide +kernel
theorem dX12_tell_33 : decode cX12_tell 33 = .ok (.goto 7, 3) := by decide +kernel
theorem dX12_tell_36 : decode cX12_tell 36 = .ok (.aload_n 0, 1) := by decide +kernel
theorem dX12_tell_37 : decode cX12_tell 37 = .ok (.getfield 185, 3) := by decide +kernel
theorem dX12_tell_40 : decode cX12_tell 40 = .ok (.putfield 165, 3) := by decide +kernel
theorem dX12_tell_43 : decode cX12_tell 43 = .ok (.return_, 1) := by decide +kernel
theorem dX12_reads_0 : decode cX12_reads 0 = .ok (.aload_n 0, 1) := by decide +kernel
theorem dX12_reads_1 : decode cX12_reads 1 = .ok (.iconst 0, 1) := by decide +kernel
theorem dX12_reads_2 : decode cX12_reads 2 = .ok (.putfield 109, 3) := by decide +kernel
theorem dX12_reads_5 : decode cX12_reads 5 = .ok (.aload_n 0, 1) := by decide +kernel
theorem dX12_reads_6 : decode cX12_reads 6 = .ok (.iload_n 1, 1) := by decide +kernel
theorem dX12_reads_7 : decode cX12_reads 7 = .ok (.invokevirtual 152, 3) := by decide +kernel
theorem dX12_reads_10 : decode cX12_reads 10 = .ok (.ifCond .eq 15, 3) := by decide +kernel
theorem dX12_reads_13 : decode cX12_reads 13 = .ok (.iload_n 2, 1) := by decide +kernel
theorem dX12_reads_14 : decode cX12_reads 14 = .ok (.i2l, 1) := by decide +kernel
theorem dX12_reads_15 : decode cX12_reads 15 = .ok (.lconst 0, 1) := by decide +kernel
theorem dX12_reads_16 : decode cX12_reads 16 = .ok (.ldc2_w 225, 3) := by decide +kernel
theorem dX12_reads_19 : decode cX12_reads 19 = .ok (.invokestatic 118, 3) := by decide +kernel
theorem dX12_reads_22 : decode cX12_reads 22 = .ok (.ifCond .ne 5, 3) := by decide +kernel
theorem dX12_reads_25 : decode cX12_reads 25 = .ok (.iconst (-1), 1) := by decide +kernel
theorem dX12_reads_26 : decode cX12_reads 26 = .ok (.ireturn, 1) := by decide +kernel
theorem dX12_reads_27 : decode cX12_reads 27 = .ok (.aload_n 0, 1) := by decide +kernel
theorem dX12_reads_28 : decode cX12_reads 28 = .ok (.iload_n 1, 1) := by decide +kernel
theorem dX12_reads_29 : decode cX12_reads 29 = .ok (.iload_n 2, 1) := by decide +kernel
theorem dX12_reads_30 : decode cX12_reads 30 = .ok (.invokevirtual 227, 3) := by decide +kernel
theorem dX12_reads_33 : decode cX12_reads 33 = .ok (.istore_n 3, 1) := by decide +kernel
theorem dX12_reads_34 : decode cX12_reads 34 = .ok (.iload_n 3, 1) := by decide +kernel
theorem dX12_reads_35 : decode cX12_reads 35 = .ok (.ifCond .ne 7, 3) := by decide +kernel
theorem dX12_reads_38 : decode cX12_reads 38 = .ok (.aload_n 0, 1) := by decide +kernel
theorem dX12_reads_39 : decode cX12_reads 39 = .ok (.invokevirtual 230, 3) := by decide +kernel
theorem dX12_reads_42 : decode cX12_reads 42 = .ok (.iload_n 3, 1) := by decide +kernel
theorem dX12_reads_43 : decode cX12_reads 43 = .ok (.ireturn, 1) := by decide +kernel
theorem dX12_looks_0 : decode cX12_looks 0 = .ok (.aload_n 0, 1) := by decide +kernel
theorem dX12_looks_1 : decode cX12_looks 1 = .ok (.iconst 0, 1) := by decide +kernel
theorem dX12_looks_2 : decode cX12_looks 2 = .ok (.putfield 109, 3) := by decide +kernel
theorem dX12_looks_5 : decode cX12_looks 5 = .ok (.aload_n 0, 1) := by decide +kernel
theorem dX12_looks_6 : decode cX12_looks 6 = .ok (.iload_n 1, 1) := by decide +kernel
theorem dX12_looks_7 : decode cX12_looks 7 = .ok (.invokevirtual 148, 3) := by decide +kernel
theorem dX12_looks_10 : decode cX12_looks 10 = .ok (.ifCond .eq 15, 3) := by decide +kernel
theorem dX12_looks_13 : decode cX12_looks 13 = .ok (.iload_n 2, 1) := by decide +kernel
theorem dX12_looks_14 : decode cX12_looks 14 = .ok (.i2l, 1) := by decide +kernel
theorem dX12_looks_15 : decode cX12_looks 15 = .ok (.lconst 0, 1) := by decide +kernel
theorem dX12_looks_16 : decode cX12_looks 16 = .ok (.ldc2_w 225, 3) := by decide +kernel
theorem dX12_looks_19 : decode cX12_looks 19 = .ok (.invokestatic 118, 3) := by decide +kernel
theorem dX12_looks_22 : decode cX12_looks 22 = .ok (.ifCond .ne 5, 3) := by decide +kernel
theorem dX12_looks_25 : decode cX12_looks 25 = .ok (.iconst (-1), 1) := by decide +kernel
theorem dX12_looks_26 : decode cX12_looks 26 = .ok (.ireturn, 1) := by decide +kernel
theorem dX12_looks_27 : decode cX12_looks 27 = .ok (.aload_n 0, 1) := by decide +kernel
theorem dX12_looks_28 : decode cX12_looks 28 = .ok (.iload_n 1, 1) := by decide +kernel
theorem dX12_looks_29 : decode cX12_looks 29 = .ok (.invokevirtual 196, 3) := by decide +kernel
theorem dX12_looks_32 : decode cX12_looks 32 = .ok (.istore_n 3, 1) := by decide +kernel
theorem dX12_looks_33 : decode cX12_looks 33 = .ok (.iload_n 3, 1) := by decide +kernel
theorem dX12_looks_34 : decode cX12_looks 34 = .ok (.ifCond .ne 12, 3) := by decide +kernel
theorem dX12_looks_37 : decode cX12_looks 37 = .ok (.aload_n 0, 1) := by decide +kernel
theorem dX12_looks_38 : decode cX12_looks 38 = .ok (.iload_n 1, 1) := by decide +kernel
theorem dX12_looks_39 : decode cX12_looks 39 = .ok (.iload_n 2, 1) := by decide +kernel
theorem dX12_looks_40 : decode cX12_looks 40 = .ok (.invokevirtual 203, 3) := by decide +kernel
theorem dX12_looks_43 : decode cX12_looks 43 = .ok (.ifCond .ne 14, 3) := by decide +kernel
theorem dX12_looks_46 : decode cX12_looks 46 = .ok (.iload_n 3, 1) := by decide +kernel
theorem dX12_looks_47 : decode cX12_looks 47 = .ok (.ifCond .eq 7, 3) := by decide +kernel
theorem dX12_looks_50 : decode cX12_looks 50 = .ok (.iload_n 3, 1) := by decide +kernel
theorem dX12_looks_51 : decode cX12_looks 51 = .ok (.goto 5, 3) := by decide +kernel
theorem dX12_looks_54 : decode cX12_looks 54 = .ok (.bipush (-8), 2) := by decide +kernel
theorem dX12_looks_56 : decode cX12_looks 56 = .ok (.ireturn, 1) := by decide +kernel
theorem dX12_looks_57 : decode cX12_looks 57 = .ok (.aload_n 0, 1) := by decide +kernel
theorem dX12_looks_58 : decode cX12_looks 58 = .ok (.aload_n 0, 1) := by decide +kernel
theorem dX12_looks_59 : decode cX12_looks 59 = .ok (.getfield 16, 3) := by decide +kernel
theorem dX12_looks_62 : decode cX12_looks 62 = .ok (.bipush 12, 2) := by decide +kernel
theorem dX12_looks_64 : decode cX12_looks 64 = .ok (.iload_n 1, 1) := by decide +kernel
theorem dX12_looks_65 : decode cX12_looks 65 = .ok (.imul, 1) := by decide +kernel
theorem dX12_looks_66 : decode cX12_looks 66 = .ok (.iload_n 2, 1) := by decide +kernel
theorem dX12_looks_67 : decode cX12_looks 67 = .ok (.iadd, 1) := by decide +kernel
theorem dX12_looks_68 : decode cX12_looks 68 = .ok (.iaload, 1) := by decide +kernel
theorem dX12_looks_69 : decode cX12_looks 69 = .ok (.putfield 182, 3) := by decide +kernel
theorem dX12_looks_72 : decode cX12_looks 72 = .ok (.aload_n 0, 1) := by decide +kernel
theorem dX12_looks_73 : decode cX12_looks 73 = .ok (.aload_n 0, 1) := by decide +kernel
theorem dX12_looks_74 : decode cX12_looks 74 = .ok (.getfield 19, 3) := by decide +kernel
theorem dX12_looks_77 : decode cX12_looks 77 = .ok (.bipush 12, 2) := by decide +kernel
theorem dX12_looks_79 : decode cX12_looks 79 = .ok (.iload_n 1, 1) := by decide +kernel
theorem dX12_looks_80 : decode cX12_looks 80 = .ok (.imul, 1) := by decide +kernel
theorem dX12_looks_81 : decode cX12_looks 81 = .ok (.iload_n 2, 1) := by decide +kernel
theorem dX12_looks_82 : decode cX12_looks 82 = .ok (.iadd, 1) := by decide +kernel
theorem dX12_looks_83 : decode cX12_looks 83 = .ok (.laload, 1) := by decide +kernel
theorem dX12_looks_84 : decode cX12_looks 84 = .ok (.putfield 185, 3) := by decide +kernel
theorem dX12_looks_87 : decode cX12_looks 87 = .ok (.aload_n 0, 1) := by decide +kernel
theorem dX12_looks_88 : decode cX12_looks 88 = .ok (.invokevirtual 230, 3) := by decide +kernel
theorem dX12_looks_91 : decode cX12_looks 91 = .ok (.iconst 0, 1) := by decide +kernel
theorem dX12_looks_92 : decode cX12_looks 92 = .ok (.ireturn, 1) := by decide +kernel
theorem dX12_number_0 : decode cX12_number 0 = .ok (.aload_n 0, 1) := by decide +kernel
theorem dX12_number_1 : decode cX12_number 1 = .ok (.iconst 0, 1) := by decide +kernel
theorem dX12_number_2 : decode cX12_number 2 = .ok (.putfield 109, 3) := by decide +kernel
theorem dX12_number_5 : decode cX12_number 5 = .ok (.aload_n 0, 1) := by decide +kernel
theorem dX12_number_6 : decode cX12_number 6 = .ok (.getfield 165, 3) := by decide +kernel
theorem dX12_number_9 : decode cX12_number 9 = .ok (.lreturn, 1) := by decide +kernel
theorem dX12_kind_0 : decode cX12_kind 0 = .ok (.aload_n 0, 1) := by decide +kernel
theorem dX12_kind_1 : decode cX12_kind 1 = .ok (.iconst 0, 1) := by decide +kernel
theorem dX12_kind_2 : decode cX12_kind 2 = .ok (.putfield 109, 3) := by decide +kernel
theorem dX12_kind_5 : decode cX12_kind 5 = .ok (.aload_n 0, 1) := by decide +kernel
theorem dX12_kind_6 : decode cX12_kind 6 = .ok (.getfield 41, 3) := by decide +kernel
theorem dX12_kind_9 : decode cX12_kind 9 = .ok (.ireturn, 1) := by decide +kernel
theorem dX12_isThing_0 : decode cX12_isThing 0 = .ok (.iload_n 0, 1) := by decide +kernel
theorem dX12_isThing_1 : decode cX12_isThing 1 = .ok (.bipush 9, 2) := by decide +kernel
theorem dX12_isThing_3 : decode cX12_isThing 3 = .ok (.if_icmp .ne 25, 3) := by decide +kernel
theorem dX12_isThing_6 : decode cX12_isThing 6 = .ok (.iload_n 1, 1) := by decide +kernel
theorem dX12_isThing_7 : decode cX12_isThing 7 = .ok (.iconst 1, 1) := by decide +kernel
theorem dX12_isThing_8 : decode cX12_isThing 8 = .ok (.if_icmp .ne 18, 3) := by decide +kernel
theorem dX12_isThing_11 : decode cX12_isThing 11 = .ok (.lload_n 2, 1) := by decide +kernel
theorem dX12_isThing_12 : decode cX12_isThing 12 = .ok (.lconst 0, 1) := by decide +kernel
theorem dX12_isThing_13 : decode cX12_isThing 13 = .ok (.ldc2_w 233, 3) := by decide +kernel
theorem dX12_isThing_16 : decode cX12_isThing 16 = .ok (.invokestatic 118, 3) := by decide +kernel
theorem dX12_isThing_19 : decode cX12_isThing 19 = .ok (.ifCond .eq 7, 3) := by decide +kernel
theorem dX12_isThing_22 : decode cX12_isThing 22 = .ok (.iconst 1, 1) := by decide +kernel
theorem dX12_isThing_23 : decode cX12_isThing 23 = .ok (.goto 4, 3) := by decide +kernel
theorem dX12_isThing_26 : decode cX12_isThing 26 = .ok (.iconst 0, 1) := by decide +kernel
theorem dX12_isThing_27 : decode cX12_isThing 27 = .ok (.ireturn, 1) := by decide +kernel
theorem dX12_isThing_28 : decode cX12_isThing 28 = .ok (.iload_n 0, 1) := by decide +kernel
theorem dX12_isThing_29 : decode cX12_isThing 29 = .ok (.bipush 10, 2) := by decide +kernel
theorem dX12_isThing_31 : decode cX12_isThing 31 = .ok (.if_icmp .ne 14, 3) := by decide +kernel
theorem dX12_isThing_34 : decode cX12_isThing 34 = .ok (.iload_n 1, 1) := by decide +kernel
theorem dX12_isThing_35 : decode cX12_isThing 35 = .ok (.iconst 1, 1) := by decide +kernel
theorem dX12_isThing_36 : decode cX12_isThing 36 = .ok (.if_icmp .ne 7, 3) := by decide +kernel
theorem dX12_isThing_39 : decode cX12_isThing 39 = .ok (.iconst 1, 1) := by decide +kernel
theorem dX12_isThing_40 : decode cX12_isThing 40 = .ok (.goto 4, 3) := by decide +kernel
theorem dX12_isThing_43 : decode cX12_isThing 43 = .ok (.iconst 0, 1) := by decide +kernel
theorem dX12_isThing_44 : decode cX12_isThing 44 = .ok (.ireturn, 1) := by decide +kernel
theorem dX12_isThing_45 : decode cX12_isThing 45 = .ok (.iload_n 0, 1) := by decide +kernel
theorem dX12_isThing_46 : decode cX12_isThing 46 = .ok (.i2l, 1) := by decide +kernel
theorem dX12_isThing_47 : decode cX12_isThing 47 = .ok (.lconst 0, 1) := by decide +kernel
theorem dX12_isThing_48 : decode cX12_isThing 48 = .ok (.ldc2_w 235, 3) := by decide +kernel
theorem dX12_isThing_51 : decode cX12_isThing 51 = .ok (.invokestatic 118, 3) := by decide +kernel
theorem dX12_isThing_54 : decode cX12_isThing 54 = .ok (.ifCond .eq 25, 3) := by decide +kernel
theorem dX12_isThing_57 : decode cX12_isThing 57 = .ok (.iload_n 1, 1) := by decide +kernel
theorem dX12_isThing_58 : decode cX12_isThing 58 = .ok (.i2l, 1) := by decide +kernel
theorem dX12_isThing_59 : decode cX12_isThing 59 = .ok (.lconst 0, 1) := by decide +kernel
theorem dX12_isThing_60 : decode cX12_isThing 60 = .ok (.lconst 1, 1) := by decide +kernel
theorem dX12_isThing_61 : decode cX12_isThing 61 = .ok (.invokestatic 118, 3) := by decide +kernel
theorem dX12_isThing_64 : decode cX12_isThing 64 = .ok (.ifCond .eq 15, 3) := by decide +kernel
theorem dX12_isThing_67 : decode cX12_isThing 67 = .ok (.iload_n 0, 1) := by decide +kernel
theorem dX12_isThing_68 : decode cX12_isThing 68 = .ok (.lload_n 2, 1) := by decide +kernel
theorem dX12_isThing_69 : decode cX12_isThing 69 = .ok (.invokestatic 237, 3) := by decide +kernel
theorem dX12_isThing_72 : decode cX12_isThing 72 = .ok (.ifCond .eq 7, 3) := by decide +kernel
theorem dX12_isThing_75 : decode cX12_isThing 75 = .ok (.iconst 1, 1) := by decide +kernel
theorem dX12_isThing_76 : decode cX12_isThing 76 = .ok (.goto 4, 3) := by decide +kernel
theorem dX12_isThing_79 : decode cX12_isThing 79 = .ok (.iconst 0, 1) := by decide +kernel
theorem dX12_isThing_80 : decode cX12_isThing 80 = .ok (.ireturn, 1) := by decide +kernel
theorem dX12_writes_0 : decode cX12_writes 0 = .ok (.aload_n 0, 1) := by decide +kernel
theorem dX12_writes_1 : decode cX12_writes 1 = .ok (.iconst 0, 1) := by decide +kernel
theorem dX12_writes_2 : decode cX12_writes 2 = .ok (.putfield 109, 3) := by decide +kernel
theorem dX12_writes_5 : decode cX12_writes 5 = .ok (.aload_n 0, 1) := by decide +kernel
theorem dX12_writes_6 : decode cX12_writes 6 = .ok (.iload_n 1, 1) := by decide +kernel
theorem dX12_writes_7 : decode cX12_writes 7 = .ok (.invokevirtual 152, 3) := by decide +kernel
theorem dX12_writes_10 : decode cX12_writes 10 = .ok (.ifCond .eq 26, 3) := by decide +kernel
theorem dX12_writes_13 : decode cX12_writes 13 = .ok (.iload_n 2, 1) := by decide +kernel
theorem dX12_writes_14 : decode cX12_writes 14 = .ok (.i2l, 1) := by decide +kernel
theorem dX12_writes_15 : decode cX12_writes 15 = .ok (.lconst 0, 1) := by decide +kernel
theorem dX12_writes_16 : decode cX12_writes 16 = .ok (.ldc2_w 225, 3) := by decide +kernel
theorem dX12_writes_19 : decode cX12_writes 19 = .ok (.invokestatic 118, 3) := by decide +kernel
theorem dX12_writes_22 : decode cX12_writes 22 = .ok (.ifCond .eq 14, 3) := by decide +kernel
theorem dX12_writes_25 : decode cX12_writes 25 = .ok (.iload_n 3, 1) := by decide +kernel
theorem dX12_writes_26 : decode cX12_writes 26 = .ok (.iload 4, 2) := by decide +kernel
theorem dX12_writes_28 : decode cX12_writes 28 = .ok (.lload 5, 2) := by decide +kernel
theorem dX12_writes_30 : decode cX12_writes 30 = .ok (.invokestatic 241, 3) := by decide +kernel
theorem dX12_writes_33 : decode cX12_writes 33 = .ok (.ifCond .ne 5, 3) := by decide +kernel
theorem dX12_writes_36 : decode cX12_writes 36 = .ok (.iconst (-1), 1) := by decide +kernel
theorem dX12_writes_37 : decode cX12_writes 37 = .ok (.ireturn, 1) := by decide +kernel
theorem dX12_writes_38 : decode cX12_writes 38 = .ok (.aload_n 0, 1) := by decide +kernel
theorem dX12_writes_39 : decode cX12_writes 39 = .ok (.iload_n 3, 1) := by decide +kernel
theorem dX12_writes_40 : decode cX12_writes 40 = .ok (.putfield 182, 3) := by decide +kernel
theorem dX12_writes_43 : decode cX12_writes 43 = .ok (.aload_n 0, 1) := by decide +kernel
theorem dX12_writes_44 : decode cX12_writes 44 = .ok (.iload_n 3, 1) := by decide +kernel
theorem dX12_writes_45 : decode cX12_writes 45 = .ok (.bipush 10, 2) := by decide +kernel
theorem dX12_writes_47 : decode cX12_writes 47 = .ok (.if_icmp .ne 7, 3) := by decide +kernel
theorem dX12_writes_50 : decode cX12_writes 50 = .ok (.lconst 0, 1) := by decide +kernel
theorem dX12_writes_51 : decode cX12_writes 51 = .ok (.goto 9, 3) := by decide +kernel
theorem dX12_writes_54 : decode cX12_writes 54 = .ok (.iload_n 3, 1) := by decide +kernel
theorem dX12_writes_55 : decode cX12_writes 55 = .ok (.lload 5, 2) := by decide +kernel
theorem dX12_writes_57 : decode cX12_writes 57 = .ok (.invokestatic 188, 3) := by decide +kernel
theorem dX12_writes_60 : decode cX12_writes 60 = .ok (.putfield 185, 3) := by decide +kernel
theorem dX12_writes_63 : decode cX12_writes 63 = .ok (.aload_n 0, 1) := by decide +kernel
theorem dX12_writes_64 : decode cX12_writes 64 = .ok (.iload_n 1, 1) := by decide +kernel
theorem dX12_writes_65 : decode cX12_writes 65 = .ok (.iload_n 2, 1) := by decide +kernel
theorem dX12_writes_66 : decode cX12_writes 66 = .ok (.iload 4, 2) := by decide +kernel
theorem dX12_writes_68 : decode cX12_writes 68 = .ok (.ifCond .ne 7, 3) := by decide +kernel
theorem dX12_writes_71 : decode cX12_writes 71 = .ok (.iload_n 3, 1) := by decide +kernel
theorem dX12_writes_72 : decode cX12_writes 72 = .ok (.goto 5, 3) := by decide +kernel
theorem dX12_writes_75 : decode cX12_writes 75 = .ok (.bipush 8, 2) := by decide +kernel
theorem dX12_writes_77 : decode cX12_writes 77 = .ok (.invokevirtual 245, 3) := by decide +kernel
theorem dX12_writes_80 : decode cX12_writes 80 = .ok (.istore 7, 2) := by decide +kernel
theorem dX12_writes_82 : decode cX12_writes 82 = .ok (.iload 7, 2) := by decide +kernel
theorem dX12_writes_84 : decode cX12_writes 84 = .ok (.ifCond .ne 28, 3) := by decide +kernel
theorem dX12_writes_87 : decode cX12_writes 87 = .ok (.aload_n 0, 1) := by decide +kernel
theorem dX12_writes_88 : decode cX12_writes 88 = .ok (.aload_n 0, 1) := by decide +kernel
theorem dX12_writes_89 : decode cX12_writes 89 = .ok (.getfield 82, 3) := by decide +kernel
theorem dX12_writes_92 : decode cX12_writes 92 = .ok (.aload_n 0, 1) := by decide +kernel
theorem dX12_writes_93 : decode cX12_writes 93 = .ok (.getfield 85, 3) := by decide +kernel
theorem dX12_writes_96 : decode cX12_writes 96 = .ok (.iconst 0, 1) := by decide +kernel
theorem dX12_writes_97 : decode cX12_writes 97 = .ok (.invokevirtual 248, 3) := by decide +kernel
theorem dX12_writes_100 : decode cX12_writes 100 = .ok (.aload_n 0, 1) := by decide +kernel
theorem dX12_writes_101 : decode cX12_writes 101 = .ok (.invokevirtual 252, 3) := by decide +kernel
theorem dX12_writes_104 : decode cX12_writes 104 = .ok (.aload_n 0, 1) := by decide +kernel
theorem dX12_writes_105 : decode cX12_writes 105 = .ok (.aload_n 0, 1) := by decide +kernel
theorem dX12_writes_106 : decode cX12_writes 106 = .ok (.getfield 222, 3) := by decide +kernel
theorem dX12_writes_109 : decode cX12_writes 109 = .ok (.invokevirtual 255, 3) := by decide +kernel
theorem dX12_writes_112 : decode cX12_writes 112 = .ok (.iload 7, 2) := by decide +kernel
theorem dX12_writes_114 : decode cX12_writes 114 = .ok (.ireturn, 1) := by decide +kernel
theorem dX12_summed_0 : decode cX12_summed 0 = .ok (.aload_n 0, 1) := by decide +kernel
theorem dX12_summed_1 : decode cX12_summed 1 = .ok (.getfield 182, 3) := by decide +kernel
theorem dX12_summed_4 : decode cX12_summed 4 = .ok (.bipush 10, 2) := by decide +kernel
theorem dX12_summed_6 : decode cX12_summed 6 = .ok (.if_icmp .ne 8, 3) := by decide +kernel
theorem dX12_summed_9 : decode cX12_summed 9 = .ok (.bipush (-9), 2) := by decide +kernel
theorem dX12_summed_11 : decode cX12_summed 11 = .ok (.goto 25, 3) := by decide +kernel
theorem dX12_summed_14 : decode cX12_summed 14 = .ok (.aload_n 0, 1) := by decide +kernel
theorem dX12_summed_15 : decode cX12_summed 15 = .ok (.getfield 182, 3) := by decide +kernel
theorem dX12_summed_18 : decode cX12_summed 18 = .ok (.bipush 9, 2) := by decide +kernel
theorem dX12_summed_20 : decode cX12_summed 20 = .ok (.if_icmp .eq 10, 3) := by decide +kernel
theorem dX12_summed_23 : decode cX12_summed 23 = .ok (.aload_n 0, 1) := by decide +kernel
theorem dX12_summed_24 : decode cX12_summed 24 = .ok (.getfield 182, 3) := by decide +kernel
theorem dX12_summed_27 : decode cX12_summed 27 = .ok (.ifCond .ne 8, 3) := by decide +kernel
theorem dX12_summed_30 : decode cX12_summed 30 = .ok (.bipush (-7), 2) := by decide +kernel
theorem dX12_summed_32 : decode cX12_summed 32 = .ok (.goto 4, 3) := by decide +kernel
theorem dX12_summed_35 : decode cX12_summed 35 = .ok (.iconst 0, 1) := by decide +kernel
theorem dX12_summed_36 : decode cX12_summed 36 = .ok (.ireturn, 1) := by decide +kernel
theorem dX12_reckoned_0 : decode cX12_reckoned 0 = .ok (.iload_n 0, 1) := by decide +kernel
theorem dX12_reckoned_1 : decode cX12_reckoned 1 = .ok (.iconst 1, 1) := by decide +kernel
theorem dX12_reckoned_2 : decode cX12_reckoned 2 = .ok (.if_icmp .ne 10, 3) := by decide +kernel
theorem dX12_reckoned_5 : decode cX12_reckoned 5 = .ok (.lload_n 2, 1) := by decide +kernel
theorem dX12_reckoned_6 : decode cX12_reckoned 6 = .ok (.lload 4, 2) := by decide +kernel
theorem dX12_reckoned_8 : decode cX12_reckoned 8 = .ok (.ladd, 1) := by decide +kernel
theorem dX12_reckoned_9 : decode cX12_reckoned 9 = .ok (.goto 28, 3) := by decide +kernel
theorem dX12_reckoned_12 : decode cX12_reckoned 12 = .ok (.iload_n 0, 1) := by decide +kernel
theorem dX12_reckoned_13 : decode cX12_reckoned 13 = .ok (.iconst 2, 1) := by decide +kernel
theorem dX12_reckoned_14 : decode cX12_reckoned 14 = .ok (.if_icmp .ne 10, 3) := by decide +kernel
theorem dX12_reckoned_17 : decode cX12_reckoned 17 = .ok (.lload 4, 2) := by decide +kernel
theorem dX12_reckoned_19 : decode cX12_reckoned 19 = .ok (.lload_n 2, 1) := by decide +kernel
theorem dX12_reckoned_20 : decode cX12_reckoned 20 = .ok (.lsub, 1) := by decide +kernel
theorem dX12_reckoned_21 : decode cX12_reckoned 21 = .ok (.goto 16, 3) := by decide +kernel
theorem dX12_reckoned_24 : decode cX12_reckoned 24 = .ok (.lload_n 2, 1) := by decide +kernel
theorem dX12_reckoned_25 : decode cX12_reckoned 25 = .ok (.lload 4, 2) := by decide +kernel
theorem dX12_reckoned_27 : decode cX12_reckoned 27 = .ok (.lcmp, 1) := by decide +kernel
theorem dX12_reckoned_28 : decode cX12_reckoned 28 = .ok (.ifCond .le 7, 3) := by decide +kernel
theorem dX12_reckoned_31 : decode cX12_reckoned 31 = .ok (.lload_n 2, 1) := by decide +kernel
theorem dX12_reckoned_32 : decode cX12_reckoned 32 = .ok (.goto 5, 3) := by decide +kernel
theorem dX12_reckoned_35 : decode cX12_reckoned 35 = .ok (.lload 4, 2) := by decide +kernel
theorem dX12_reckoned_37 : decode cX12_reckoned 37 = .ok (.lstore 6, 2) := by decide +kernel
theorem dX12_reckoned_39 : decode cX12_reckoned 39 = .ok (.iload_n 1, 1) := by decide +kernel
theorem dX12_reckoned_40 : decode cX12_reckoned 40 = .ok (.iconst 4, 1) := by decide +kernel
theorem dX12_reckoned_41 : decode cX12_reckoned 41 = .ok (.if_icmp .ne 10, 3) := by decide +kernel
theorem dX12_reckoned_44 : decode cX12_reckoned 44 = .ok (.lload 6, 2) := by decide +kernel
theorem dX12_reckoned_46 : decode cX12_reckoned 46 = .ok (.l2i, 1) := by decide +kernel
theorem dX12_reckoned_47 : decode cX12_reckoned 47 = .ok (.i2l, 1) := by decide +kernel
theorem dX12_reckoned_48 : decode cX12_reckoned 48 = .ok (.goto 9, 3) := by decide +kernel
theorem dX12_reckoned_51 : decode cX12_reckoned 51 = .ok (.iload_n 1, 1) := by decide +kernel
theorem dX12_reckoned_52 : decode cX12_reckoned 52 = .ok (.lload 6, 2) := by decide +kernel
theorem dX12_reckoned_54 : decode cX12_reckoned 54 = .ok (.invokestatic 188, 3) := by decide +kernel
theorem dX12_reckoned_57 : decode cX12_reckoned 57 = .ok (.lreturn, 1) := by decide +kernel
theorem dX12_goes_0 : decode cX12_goes 0 = .ok (.aload_n 0, 1) := by decide +kernel
theorem dX12_goes_1 : decode cX12_goes 1 = .ok (.iload_n 2, 1) := by decide +kernel
theorem dX12_goes_2 : decode cX12_goes 2 = .ok (.iload_n 3, 1) := by decide +kernel
theorem dX12_goes_3 : decode cX12_goes 3 = .ok (.invokevirtual 227, 3) := by decide +kernel
theorem dX12_goes_6 : decode cX12_goes 6 = .ok (.istore 7, 2) := by decide +kernel
theorem dX12_goes_8 : decode cX12_goes 8 = .ok (.iload 7, 2) := by decide +kernel
theorem dX12_goes_10 : decode cX12_goes 10 = .ok (.ifCond .ne 23, 3) := by decide +kernel
theorem dX12_goes_13 : decode cX12_goes 13 = .ok (.iload 6, 2) := by decide +kernel
theorem dX12_goes_15 : decode cX12_goes 15 = .ok (.ifCond .eq 30, 3) := by decide +kernel
theorem dX12_goes_18 : decode cX12_goes 18 = .ok (.aload_n 0, 1) := by decide +kernel
theorem dX12_goes_19 : decode cX12_goes 19 = .ok (.getfield 7, 3) := by decide +kernel
theorem dX12_goes_22 : decode cX12_goes 22 = .ok (.aload_n 0, 1) := by decide +kernel
theorem dX12_goes_23 : decode cX12_goes 23 = .ok (.iload_n 2, 1) := by decide +kernel
theorem dX12_goes_24 : decode cX12_goes 24 = .ok (.invokevirtual 192, 3) := by decide +kernel
theorem dX12_goes_27 : decode cX12_goes 27 = .ok (.iaload, 1) := by decide +kernel
theorem dX12_goes_28 : decode cX12_goes 28 = .ok (.bipush 8, 2) := by decide +kernel
theorem dX12_goes_30 : decode cX12_goes 30 = .ok (.if_icmp .lt 15, 3) := by decide +kernel
theorem dX12_goes_33 : decode cX12_goes 33 = .ok (.iload 7, 2) := by decide +kernel
theorem dX12_goes_35 : decode cX12_goes 35 = .ok (.ifCond .eq 8, 3) := by decide +kernel
theorem dX12_goes_38 : decode cX12_goes 38 = .ok (.iload 7, 2) := by decide +kernel
theorem dX12_goes_40 : decode cX12_goes 40 = .ok (.goto 4, 3) := by decide +kernel
theorem dX12_goes_43 : decode cX12_goes 43 = .ok (.iconst 1, 1) := by decide +kernel
theorem dX12_goes_44 : decode cX12_goes 44 = .ok (.ireturn, 1) := by decide +kernel
theorem dX12_goes_45 : decode cX12_goes 45 = .ok (.aload_n 0, 1) := by decide +kernel
theorem dX12_goes_46 : decode cX12_goes 46 = .ok (.getfield 182, 3) := by decide +kernel
theorem dX12_goes_49 : decode cX12_goes 49 = .ok (.istore 8, 2) := by decide +kernel
theorem dX12_goes_51 : decode cX12_goes 51 = .ok (.aload_n 0, 1) := by decide +kernel
theorem dX12_goes_52 : decode cX12_goes 52 = .ok (.getfield 185, 3) := by decide +kernel
theorem dX12_goes_55 : decode cX12_goes 55 = .ok (.lstore 9, 2) := by decide +kernel
theorem dX12_goes_57 : decode cX12_goes 57 = .ok (.iload_n 1, 1) := by decide +kernel
theorem dX12_goes_58 : decode cX12_goes 58 = .ok (.ifCond .ne 20, 3) := by decide +kernel
theorem dX12_goes_61 : decode cX12_goes 61 = .ok (.aload_n 0, 1) := by decide +kernel
theorem dX12_goes_62 : decode cX12_goes 62 = .ok (.iload 4, 2) := by decide +kernel
theorem dX12_goes_64 : decode cX12_goes 64 = .ok (.iload 5, 2) := by decide +kernel
theorem dX12_goes_66 : decode cX12_goes 66 = .ok (.aload_n 0, 1) := by decide +kernel
theorem dX12_goes_67 : decode cX12_goes 67 = .ok (.getfield 35, 3) := by decide +kernel
theorem dX12_goes_70 : decode cX12_goes 70 = .ok (.iload_n 2, 1) := by decide +kernel
theorem dX12_goes_71 : decode cX12_goes 71 = .ok (.iaload, 1) := by decide +kernel
theorem dX12_goes_72 : decode cX12_goes 72 = .ok (.iload 6, 2) := by decide +kernel
theorem dX12_goes_74 : decode cX12_goes 74 = .ok (.invokevirtual 259, 3) := by decide +kernel
theorem dX12_goes_77 : decode cX12_goes 77 = .ok (.ireturn, 1) := by decide +kernel
theorem dX12_goes_78 : decode cX12_goes 78 = .ok (.aload_n 0, 1) := by decide +kernel
theorem dX12_goes_79 : decode cX12_goes 79 = .ok (.iload 4, 2) := by decide +kernel
theorem dX12_goes_81 : decode cX12_goes 81 = .ok (.iload 5, 2) := by decide +kernel
theorem dX12_goes_83 : decode cX12_goes 83 = .ok (.invokevirtual 227, 3) := by decide +kernel
theorem dX12_goes_86 : decode cX12_goes 86 = .ok (.istore 7, 2) := by decide +kernel
theorem dX12_goes_88 : decode cX12_goes 88 = .ok (.iload 7, 2) := by decide +kernel
theorem dX12_goes_90 : decode cX12_goes 90 = .ok (.ifCond .ne 24, 3) := by decide +kernel
theorem dX12_goes_93 : decode cX12_goes 93 = .ok (.iload 6, 2) := by decide +kernel
theorem dX12_goes_95 : decode cX12_goes 95 = .ok (.ifCond .eq 31, 3) := by decide +kernel
theorem dX12_goes_98 : decode cX12_goes 98 = .ok (.aload_n 0, 1) := by decide +kernel
theorem dX12_goes_99 : decode cX12_goes 99 = .ok (.getfield 7, 3) := by decide +kernel
theorem dX12_goes_102 : decode cX12_goes 102 = .ok (.aload_n 0, 1) := by decide +kernel
theorem dX12_goes_103 : decode cX12_goes 103 = .ok (.iload 4, 2) := by decide +kernel
theorem dX12_goes_105 : decode cX12_goes 105 = .ok (.invokevirtual 192, 3) := by decide +kernel
theorem dX12_goes_108 : decode cX12_goes 108 = .ok (.iaload, 1) := by decide +kernel
theorem dX12_goes_109 : decode cX12_goes 109 = .ok (.bipush 8, 2) := by decide +kernel
theorem dX12_goes_111 : decode cX12_goes 111 = .ok (.if_icmp .lt 15, 3) := by decide +kernel
theorem dX12_goes_114 : decode cX12_goes 114 = .ok (.iload 7, 2) := by decide +kernel
theorem dX12_goes_116 : decode cX12_goes 116 = .ok (.ifCond .eq 8, 3) := by decide +kernel
theorem dX12_goes_119 : decode cX12_goes 119 = .ok (.iload 7, 2) := by decide +kernel
theorem dX12_goes_121 : decode cX12_goes 121 = .ok (.goto 4, 3) := by decide +kernel
theorem dX12_goes_124 : decode cX12_goes 124 = .ok (.iconst 1, 1) := by decide +kernel
theorem dX12_goes_125 : decode cX12_goes 125 = .ok (.ireturn, 1) := by decide +kernel
theorem dX12_goes_126 : decode cX12_goes 126 = .ok (.aload_n 0, 1) := by decide +kernel
theorem dX12_goes_127 : decode cX12_goes 127 = .ok (.getfield 182, 3) := by decide +kernel
theorem dX12_goes_130 : decode cX12_goes 130 = .ok (.istore 11, 2) := by decide +kernel
theorem dX12_goes_132 : decode cX12_goes 132 = .ok (.aload_n 0, 1) := by decide +kernel
theorem dX12_goes_133 : decode cX12_goes 133 = .ok (.getfield 185, 3) := by decide +kernel
theorem dX12_goes_136 : decode cX12_goes 136 = .ok (.lstore 12, 2) := by decide +kernel
theorem dX12_goes_138 : decode cX12_goes 138 = .ok (.iload_n 1, 1) := by decide +kernel
theorem dX12_goes_139 : decode cX12_goes 139 = .ok (.iconst 4, 1) := by decide +kernel
theorem dX12_goes_140 : decode cX12_goes 140 = .ok (.if_icmp .ne 20, 3) := by decide +kernel
theorem dX12_goes_143 : decode cX12_goes 143 = .ok (.aload_n 0, 1) := by decide +kernel
theorem dX12_goes_144 : decode cX12_goes 144 = .ok (.iload_n 2, 1) := by decide +kernel
theorem dX12_goes_145 : decode cX12_goes 145 = .ok (.iload_n 3, 1) := by decide +kernel
theorem dX12_goes_146 : decode cX12_goes 146 = .ok (.iload 4, 2) := by decide +kernel
theorem dX12_goes_148 : decode cX12_goes 148 = .ok (.iload 5, 2) := by decide +kernel
theorem dX12_goes_150 : decode cX12_goes 150 = .ok (.iload 8, 2) := by decide +kernel
theorem dX12_goes_152 : decode cX12_goes 152 = .ok (.lload 9, 2) := by decide +kernel
theorem dX12_goes_154 : decode cX12_goes 154 = .ok (.iload 6, 2) := by decide +kernel
theorem dX12_goes_156 : decode cX12_goes 156 = .ok (.invokevirtual 263, 3) := by decide +kernel
theorem dX12_goes_159 : decode cX12_goes 159 = .ok (.ireturn, 1) := by decide +kernel
theorem dX12_goes_160 : decode cX12_goes 160 = .ok (.aload_n 0, 1) := by decide +kernel
theorem dX12_goes_161 : decode cX12_goes 161 = .ok (.iload 8, 2) := by decide +kernel
theorem dX12_goes_163 : decode cX12_goes 163 = .ok (.putfield 182, 3) := by decide +kernel
theorem dX12_goes_166 : decode cX12_goes 166 = .ok (.aload_n 0, 1) := by decide +kernel
theorem dX12_goes_167 : decode cX12_goes 167 = .ok (.invokevirtual 267, 3) := by decide +kernel
theorem dX12_goes_170 : decode cX12_goes 170 = .ok (.istore 7, 2) := by decide +kernel
theorem dX12_goes_172 : decode cX12_goes 172 = .ok (.aload_n 0, 1) := by decide +kernel
theorem dX12_goes_173 : decode cX12_goes 173 = .ok (.iload 11, 2) := by decide +kernel
theorem dX12_goes_175 : decode cX12_goes 175 = .ok (.putfield 182, 3) := by decide +kernel
theorem dX12_goes_178 : decode cX12_goes 178 = .ok (.iload 7, 2) := by decide +kernel
theorem dX12_goes_180 : decode cX12_goes 180 = .ok (.ifCond .ne 10, 3) := by decide +kernel
theorem dX12_goes_183 : decode cX12_goes 183 = .ok (.aload_n 0, 1) := by decide +kernel
theorem dX12_goes_184 : decode cX12_goes 184 = .ok (.invokevirtual 267, 3) := by decide +kernel
theorem dX12_goes_187 : decode cX12_goes 187 = .ok (.goto 5, 3) := by decide +kernel
theorem dX12_goes_190 : decode cX12_goes 190 = .ok (.iload 7, 2) := by decide +kernel
theorem dX12_goes_192 : decode cX12_goes 192 = .ok (.istore 7, 2) := by decide +kernel
theorem dX12_goes_194 : decode cX12_goes 194 = .ok (.iload 7, 2) := by decide +kernel
theorem dX12_goes_196 : decode cX12_goes 196 = .ok (.ifCond .eq 6, 3) := by decide +kernel
theorem dX12_goes_199 : decode cX12_goes 199 = .ok (.iload 7, 2) := by decide +kernel
theorem dX12_goes_201 : decode cX12_goes 201 = .ok (.ireturn, 1) := by decide +kernel
theorem dX12_goes_202 : decode cX12_goes 202 = .ok (.iload 8, 2) := by decide +kernel
theorem dX12_goes_204 : decode cX12_goes 204 = .ok (.iload 11, 2) := by decide +kernel
theorem dX12_goes_206 : decode cX12_goes 206 = .ok (.if_icmp .le 8, 3) := by decide +kernel
theorem dX12_goes_209 : decode cX12_goes 209 = .ok (.iload 8, 2) := by decide +kernel
theorem dX12_goes_211 : decode cX12_goes 211 = .ok (.goto 5, 3) := by decide +kernel
theorem dX12_goes_214 : decode cX12_goes 214 = .ok (.iload 11, 2) := by decide +kernel
theorem dX12_goes_216 : decode cX12_goes 216 = .ok (.istore 14, 2) := by decide +kernel
theorem dX12_goes_218 : decode cX12_goes 218 = .ok (.iload 14, 2) := by decide +kernel
theorem dX12_goes_220 : decode cX12_goes 220 = .ok (.iconst 4, 1) := by decide +kernel
theorem dX12_goes_221 : decode cX12_goes 221 = .ok (.if_icmp .ge 7, 3) := by decide +kernel
theorem dX12_goes_224 : decode cX12_goes 224 = .ok (.iconst 4, 1) := by decide +kernel
theorem dX12_goes_225 : decode cX12_goes 225 = .ok (.goto 5, 3) := by decide +kernel
theorem dX12_goes_228 : decode cX12_goes 228 = .ok (.iload 14, 2) := by decide +kernel
theorem dX12_goes_230 : decode cX12_goes 230 = .ok (.istore 14, 2) := by decide +kernel
theorem dX12_goes_232 : decode cX12_goes 232 = .ok (.aload_n 0, 1) := by decide +kernel
theorem dX12_goes_233 : decode cX12_goes 233 = .ok (.iload_n 1, 1) := by decide +kernel
theorem dX12_goes_234 : decode cX12_goes 234 = .ok (.iload 14, 2) := by decide +kernel
theorem dX12_goes_236 : decode cX12_goes 236 = .ok (.iload 14, 2) := by decide +kernel
theorem dX12_goes_238 : decode cX12_goes 238 = .ok (.lload 9, 2) := by decide +kernel
theorem dX12_goes_240 : decode cX12_goes 240 = .ok (.invokestatic 188, 3) := by decide +kernel
theorem dX12_goes_243 : decode cX12_goes 243 = .ok (.iload 14, 2) := by decide +kernel
theorem dX12_goes_245 : decode cX12_goes 245 = .ok (.lload 12, 2) := by decide +kernel
theorem dX12_goes_247 : decode cX12_goes 247 = .ok (.invokestatic 188, 3) := by decide +kernel
theorem dX12_goes_250 : decode cX12_goes 250 = .ok (.invokestatic 271, 3) := by decide +kernel
theorem dX12_goes_253 : decode cX12_goes 253 = .ok (.putfield 185, 3) := by decide +kernel
theorem dX12_goes_256 : decode cX12_goes 256 = .ok (.aload_n 0, 1) := by decide +kernel
theorem dX12_goes_257 : decode cX12_goes 257 = .ok (.iload 14, 2) := by decide +kernel
theorem dX12_goes_259 : decode cX12_goes 259 = .ok (.putfield 182, 3) := by decide +kernel
theorem dX12_goes_262 : decode cX12_goes 262 = .ok (.iload 6, 2) := by decide +kernel
theorem dX12_goes_264 : decode cX12_goes 264 = .ok (.ifCond .ne 28, 3) := by decide +kernel
theorem dX12_goes_267 : decode cX12_goes 267 = .ok (.iload 14, 2) := by decide +kernel
theorem dX12_goes_269 : decode cX12_goes 269 = .ok (.iconst 4, 1) := by decide +kernel
theorem dX12_goes_270 : decode cX12_goes 270 = .ok (.if_icmp .le 22, 3) := by decide +kernel
theorem dX12_goes_273 : decode cX12_goes 273 = .ok (.aload_n 0, 1) := by decide +kernel
theorem dX12_goes_274 : decode cX12_goes 274 = .ok (.getfield 185, 3) := by decide +kernel
theorem dX12_goes_277 : decode cX12_goes 277 = .ok (.ldc2_w 136, 3) := by decide +kernel
theorem dX12_goes_280 : decode cX12_goes 280 = .ok (.ldc2_w 138, 3) := by decide +kernel
theorem dX12_goes_283 : decode cX12_goes 283 = .ok (.invokestatic 118, 3) := by decide +kernel
theorem dX12_goes_286 : decode cX12_goes 286 = .ok (.ifCond .ne 6, 3) := by decide +kernel
theorem dX12_goes_289 : decode cX12_goes 289 = .ok (.bipush (-10), 2) := by decide +kernel
theorem dX12_goes_291 : decode cX12_goes 291 = .ok (.ireturn, 1) := by decide +kernel
theorem dX12_goes_292 : decode cX12_goes 292 = .ok (.aload_n 0, 1) := by decide +kernel
theorem dX12_goes_293 : decode cX12_goes 293 = .ok (.iload 4, 2) := by decide +kernel
theorem dX12_goes_295 : decode cX12_goes 295 = .ok (.iload 5, 2) := by decide +kernel
theorem dX12_goes_297 : decode cX12_goes 297 = .ok (.aload_n 0, 1) := by decide +kernel
theorem dX12_goes_298 : decode cX12_goes 298 = .ok (.getfield 35, 3) := by decide +kernel
theorem dX12_goes_301 : decode cX12_goes 301 = .ok (.iload 4, 2) := by decide +kernel
theorem dX12_goes_303 : decode cX12_goes 303 = .ok (.iaload, 1) := by decide +kernel
theorem dX12_goes_304 : decode cX12_goes 304 = .ok (.bipush 8, 2) := by decide +kernel
theorem dX12_goes_306 : decode cX12_goes 306 = .ok (.if_icmp .ne 8, 3) := by decide +kernel
theorem dX12_goes_309 : decode cX12_goes 309 = .ok (.bipush 8, 2) := by decide +kernel
theorem dX12_goes_311 : decode cX12_goes 311 = .ok (.goto 5, 3) := by decide +kernel
theorem dX12_goes_314 : decode cX12_goes 314 = .ok (.iload 14, 2) := by decide +kernel
theorem dX12_goes_316 : decode cX12_goes 316 = .ok (.iload 6, 2) := by decide +kernel
theorem dX12_goes_318 : decode cX12_goes 318 = .ok (.invokevirtual 259, 3) := by decide +kernel
theorem dX12_goes_321 : decode cX12_goes 321 = .ok (.ireturn, 1) := by decide +kernel
theorem dX12_ends_0 : decode cX12_ends 0 = .ok (.aload_n 0, 1) := by decide +kernel
theorem dX12_ends_1 : decode cX12_ends 1 = .ok (.iload_n 1, 1) := by decide +kernel
theorem dX12_ends_2 : decode cX12_ends 2 = .ok (.iload_n 2, 1) := by decide +kernel
theorem dX12_ends_3 : decode cX12_ends 3 = .ok (.iload_n 3, 1) := by decide +kernel
theorem dX12_ends_4 : decode cX12_ends 4 = .ok (.invokevirtual 245, 3) := by decide +kernel
theorem dX12_ends_7 : decode cX12_ends 7 = .ok (.istore 5, 2) := by decide +kernel
theorem dX12_ends_9 : decode cX12_ends 9 = .ok (.iload 5, 2) := by decide +kernel
theorem dX12_ends_11 : decode cX12_ends 11 = .ok (.ifCond .ne 16, 3) := by decide +kernel
theorem dX12_ends_14 : decode cX12_ends 14 = .ok (.iload 4, 2) := by decide +kernel
theorem dX12_ends_16 : decode cX12_ends 16 = .ok (.ifCond .ne 11, 3) := by decide +kernel
theorem dX12_ends_19 : decode cX12_ends 19 = .ok (.aload_n 0, 1) := by decide +kernel
theorem dX12_ends_20 : decode cX12_ends 20 = .ok (.aload_n 0, 1) := by decide +kernel
theorem dX12_ends_21 : decode cX12_ends 21 = .ok (.getfield 222, 3) := by decide +kernel
theorem dX12_ends_24 : decode cX12_ends 24 = .ok (.invokevirtual 255, 3) := by decide +kernel
theorem dX12_ends_27 : decode cX12_ends 27 = .ok (.iload 5, 2) := by decide +kernel
theorem dX12_ends_29 : decode cX12_ends 29 = .ok (.ireturn, 1) := by decide +kernel
theorem dX12_swaps_0 : decode cX12_swaps 0 = .ok (.aload_n 0, 1) := by decide +kernel
theorem dX12_swaps_1 : decode cX12_swaps 1 = .ok (.getfield 182, 3) := by decide +kernel
theorem dX12_swaps_4 : decode cX12_swaps 4 = .ok (.istore 9, 2) := by decide +kernel
theorem dX12_swaps_6 : decode cX12_swaps 6 = .ok (.aload_n 0, 1) := by decide +kernel
theorem dX12_swaps_7 : decode cX12_swaps 7 = .ok (.getfield 185, 3) := by decide +kernel
theorem dX12_swaps_10 : decode cX12_swaps 10 = .ok (.lstore 10, 2) := by decide +kernel
theorem dX12_swaps_12 : decode cX12_swaps 12 = .ok (.aload_n 0, 1) := by decide +kernel
theorem dX12_swaps_13 : decode cX12_swaps 13 = .ok (.iload 5, 2) := by decide +kernel
theorem dX12_swaps_15 : decode cX12_swaps 15 = .ok (.putfield 182, 3) := by decide +kernel
theorem dX12_swaps_18 : decode cX12_swaps 18 = .ok (.aload_n 0, 1) := by decide +kernel
theorem dX12_swaps_19 : decode cX12_swaps 19 = .ok (.lload 6, 2) := by decide +kernel
theorem dX12_swaps_21 : decode cX12_swaps 21 = .ok (.putfield 185, 3) := by decide +kernel
theorem dX12_swaps_24 : decode cX12_swaps 24 = .ok (.aload_n 0, 1) := by decide +kernel
theorem dX12_swaps_25 : decode cX12_swaps 25 = .ok (.iload_n 3, 1) := by decide +kernel
theorem dX12_swaps_26 : decode cX12_swaps 26 = .ok (.iload 4, 2) := by decide +kernel
theorem dX12_swaps_28 : decode cX12_swaps 28 = .ok (.aload_n 0, 1) := by decide +kernel
theorem dX12_swaps_29 : decode cX12_swaps 29 = .ok (.getfield 35, 3) := by decide +kernel
theorem dX12_swaps_32 : decode cX12_swaps 32 = .ok (.iload_n 1, 1) := by decide +kernel
theorem dX12_swaps_33 : decode cX12_swaps 33 = .ok (.iaload, 1) := by decide +kernel
theorem dX12_swaps_34 : decode cX12_swaps 34 = .ok (.invokevirtual 245, 3) := by decide +kernel
theorem dX12_swaps_37 : decode cX12_swaps 37 = .ok (.istore 12, 2) := by decide +kernel
theorem dX12_swaps_39 : decode cX12_swaps 39 = .ok (.iload 12, 2) := by decide +kernel
theorem dX12_swaps_41 : decode cX12_swaps 41 = .ok (.ifCond .eq 6, 3) := by decide +kernel
theorem dX12_swaps_44 : decode cX12_swaps 44 = .ok (.iload 12, 2) := by decide +kernel
theorem dX12_swaps_46 : decode cX12_swaps 46 = .ok (.ireturn, 1) := by decide +kernel
theorem dX12_swaps_47 : decode cX12_swaps 47 = .ok (.aload_n 0, 1) := by decide +kernel
theorem dX12_swaps_48 : decode cX12_swaps 48 = .ok (.getfield 222, 3) := by decide +kernel
theorem dX12_swaps_51 : decode cX12_swaps 51 = .ok (.istore 13, 2) := by decide +kernel
theorem dX12_swaps_53 : decode cX12_swaps 53 = .ok (.aload_n 0, 1) := by decide +kernel
theorem dX12_swaps_54 : decode cX12_swaps 54 = .ok (.getfield 182, 3) := by decide +kernel
theorem dX12_swaps_57 : decode cX12_swaps 57 = .ok (.istore 14, 2) := by decide +kernel
theorem dX12_swaps_59 : decode cX12_swaps 59 = .ok (.aload_n 0, 1) := by decide +kernel
theorem dX12_swaps_60 : decode cX12_swaps 60 = .ok (.getfield 185, 3) := by decide +kernel
theorem dX12_swaps_63 : decode cX12_swaps 63 = .ok (.lstore 15, 2) := by decide +kernel
theorem dX12_swaps_65 : decode cX12_swaps 65 = .ok (.aload_n 0, 1) := by decide +kernel
theorem dX12_swaps_66 : decode cX12_swaps 66 = .ok (.iload 9, 2) := by decide +kernel
theorem dX12_swaps_68 : decode cX12_swaps 68 = .ok (.putfield 182, 3) := by decide +kernel
theorem dX12_swaps_71 : decode cX12_swaps 71 = .ok (.aload_n 0, 1) := by decide +kernel
theorem dX12_swaps_72 : decode cX12_swaps 72 = .ok (.lload 10, 2) := by decide +kernel
theorem dX12_swaps_74 : decode cX12_swaps 74 = .ok (.putfield 185, 3) := by decide +kernel
theorem dX12_swaps_77 : decode cX12_swaps 77 = .ok (.aload_n 0, 1) := by decide +kernel
theorem dX12_swaps_78 : decode cX12_swaps 78 = .ok (.iload_n 1, 1) := by decide +kernel
theorem dX12_swaps_79 : decode cX12_swaps 79 = .ok (.iload_n 2, 1) := by decide +kernel
theorem dX12_swaps_80 : decode cX12_swaps 80 = .ok (.aload_n 0, 1) := by decide +kernel
theorem dX12_swaps_81 : decode cX12_swaps 81 = .ok (.getfield 35, 3) := by decide +kernel
theorem dX12_swaps_84 : decode cX12_swaps 84 = .ok (.iload_n 3, 1) := by decide +kernel
theorem dX12_swaps_85 : decode cX12_swaps 85 = .ok (.iaload, 1) := by decide +kernel
theorem dX12_swaps_86 : decode cX12_swaps 86 = .ok (.invokevirtual 245, 3) := by decide +kernel
theorem dX12_swaps_89 : decode cX12_swaps 89 = .ok (.istore 12, 2) := by decide +kernel
theorem dX12_swaps_91 : decode cX12_swaps 91 = .ok (.iload 12, 2) := by decide +kernel
theorem dX12_swaps_93 : decode cX12_swaps 93 = .ok (.ifCond .ne 8, 3) := by decide +kernel
theorem dX12_swaps_96 : decode cX12_swaps 96 = .ok (.iload 8, 2) := by decide +kernel
theorem dX12_swaps_98 : decode cX12_swaps 98 = .ok (.ifCond .eq 6, 3) := by decide +kernel
theorem dX12_swaps_101 : decode cX12_swaps 101 = .ok (.iload 12, 2) := by decide +kernel
theorem dX12_swaps_103 : decode cX12_swaps 103 = .ok (.ireturn, 1) := by decide +kernel
theorem dX12_swaps_104 : decode cX12_swaps 104 = .ok (.aload_n 0, 1) := by decide +kernel
theorem dX12_swaps_105 : decode cX12_swaps 105 = .ok (.getfield 16, 3) := by decide +kernel
theorem dX12_swaps_108 : decode cX12_swaps 108 = .ok (.iload 13, 2) := by decide +kernel
theorem dX12_swaps_110 : decode cX12_swaps 110 = .ok (.iload 14, 2) := by decide +kernel
theorem dX12_swaps_112 : decode cX12_swaps 112 = .ok (.iastore, 1) := by decide +kernel
theorem dX12_swaps_113 : decode cX12_swaps 113 = .ok (.aload_n 0, 1) := by decide +kernel
theorem dX12_swaps_114 : decode cX12_swaps 114 = .ok (.getfield 19, 3) := by decide +kernel
theorem dX12_swaps_117 : decode cX12_swaps 117 = .ok (.iload 13, 2) := by decide +kernel
theorem dX12_swaps_119 : decode cX12_swaps 119 = .ok (.lload 15, 2) := by decide +kernel
theorem dX12_swaps_121 : decode cX12_swaps 121 = .ok (.lastore, 1) := by decide +kernel
theorem dX12_swaps_122 : decode cX12_swaps 122 = .ok (.aload_n 0, 1) := by decide +kernel
theorem dX12_swaps_123 : decode cX12_swaps 123 = .ok (.aload_n 0, 1) := by decide +kernel
theorem dX12_swaps_124 : decode cX12_swaps 124 = .ok (.getfield 222, 3) := by decide +kernel
theorem dX12_swaps_127 : decode cX12_swaps 127 = .ok (.invokevirtual 255, 3) := by decide +kernel
theorem dX12_swaps_130 : decode cX12_swaps 130 = .ok (.iconst 0, 1) := by decide +kernel
theorem dX12_swaps_131 : decode cX12_swaps 131 = .ok (.ireturn, 1) := by decide +kernel
theorem dX12_does_0 : decode cX12_does 0 = .ok (.aload_n 0, 1) := by decide +kernel
theorem dX12_does_1 : decode cX12_does 1 = .ok (.iconst 0, 1) := by decide +kernel
theorem dX12_does_2 : decode cX12_does 2 = .ok (.putfield 109, 3) := by decide +kernel
theorem dX12_does_5 : decode cX12_does 5 = .ok (.iload_n 1, 1) := by decide +kernel
theorem dX12_does_6 : decode cX12_does 6 = .ok (.i2l, 1) := by decide +kernel
theorem dX12_does_7 : decode cX12_does 7 = .ok (.lconst 0, 1) := by decide +kernel
theorem dX12_does_8 : decode cX12_does 8 = .ok (.ldc2_w 275, 3) := by decide +kernel
theorem dX12_does_11 : decode cX12_does 11 = .ok (.invokestatic 118, 3) := by decide +kernel
theorem dX12_does_14 : decode cX12_does 14 = .ok (.ifCond .eq 45, 3) := by decide +kernel
theorem dX12_does_17 : decode cX12_does 17 = .ok (.aload_n 0, 1) := by decide +kernel
theorem dX12_does_18 : decode cX12_does 18 = .ok (.iload_n 2, 1) := by decide +kernel
theorem dX12_does_19 : decode cX12_does 19 = .ok (.invokevirtual 152, 3) := by decide +kernel
theorem dX12_does_22 : decode cX12_does 22 = .ok (.ifCond .eq 37, 3) := by decide +kernel
theorem dX12_does_25 : decode cX12_does 25 = .ok (.aload_n 0, 1) := by decide +kernel
theorem dX12_does_26 : decode cX12_does 26 = .ok (.iload 4, 2) := by decide +kernel
theorem dX12_does_28 : decode cX12_does 28 = .ok (.invokevirtual 152, 3) := by decide +kernel
theorem dX12_does_31 : decode cX12_does 31 = .ok (.ifCond .eq 28, 3) := by decide +kernel
theorem dX12_does_34 : decode cX12_does 34 = .ok (.iload_n 3, 1) := by decide +kernel
theorem dX12_does_35 : decode cX12_does 35 = .ok (.i2l, 1) := by decide +kernel
theorem dX12_does_36 : decode cX12_does 36 = .ok (.lconst 0, 1) := by decide +kernel
theorem dX12_does_37 : decode cX12_does 37 = .ok (.ldc2_w 225, 3) := by decide +kernel
theorem dX12_does_40 : decode cX12_does 40 = .ok (.invokestatic 118, 3) := by decide +kernel
theorem dX12_does_43 : decode cX12_does 43 = .ok (.ifCond .eq 16, 3) := by decide +kernel
theorem dX12_does_46 : decode cX12_does 46 = .ok (.iload 5, 2) := by decide +kernel
theorem dX12_does_48 : decode cX12_does 48 = .ok (.i2l, 1) := by decide +kernel
theorem dX12_does_49 : decode cX12_does 49 = .ok (.lconst 0, 1) := by decide +kernel
theorem dX12_does_50 : decode cX12_does 50 = .ok (.ldc2_w 225, 3) := by decide +kernel
theorem dX12_does_53 : decode cX12_does 53 = .ok (.invokestatic 118, 3) := by decide +kernel
theorem dX12_does_56 : decode cX12_does 56 = .ok (.ifCond .ne 5, 3) := by decide +kernel
theorem dX12_does_59 : decode cX12_does 59 = .ok (.iconst (-1), 1) := by decide +kernel
theorem dX12_does_60 : decode cX12_does 60 = .ok (.ireturn, 1) := by decide +kernel
theorem dX12_does_61 : decode cX12_does 61 = .ok (.aload_n 0, 1) := by decide +kernel
theorem dX12_does_62 : decode cX12_does 62 = .ok (.aload_n 0, 1) := by decide +kernel
theorem dX12_does_63 : decode cX12_does 63 = .ok (.getfield 82, 3) := by decide +kernel
theorem dX12_does_66 : decode cX12_does 66 = .ok (.aload_n 0, 1) := by decide +kernel
theorem dX12_does_67 : decode cX12_does 67 = .ok (.getfield 85, 3) := by decide +kernel
theorem dX12_does_70 : decode cX12_does 70 = .ok (.iconst 0, 1) := by decide +kernel
theorem dX12_does_71 : decode cX12_does 71 = .ok (.invokevirtual 248, 3) := by decide +kernel
theorem dX12_does_74 : decode cX12_does 74 = .ok (.aload_n 0, 1) := by decide +kernel
theorem dX12_does_75 : decode cX12_does 75 = .ok (.iload_n 1, 1) := by decide +kernel
theorem dX12_does_76 : decode cX12_does 76 = .ok (.iload_n 2, 1) := by decide +kernel
theorem dX12_does_77 : decode cX12_does 77 = .ok (.iload_n 3, 1) := by decide +kernel
theorem dX12_does_78 : decode cX12_does 78 = .ok (.iload 4, 2) := by decide +kernel
theorem dX12_does_80 : decode cX12_does 80 = .ok (.iload 5, 2) := by decide +kernel
theorem dX12_does_82 : decode cX12_does 82 = .ok (.iconst 0, 1) := by decide +kernel
theorem dX12_does_83 : decode cX12_does 83 = .ok (.invokevirtual 277, 3) := by decide +kernel
theorem dX12_does_86 : decode cX12_does 86 = .ok (.istore 6, 2) := by decide +kernel
theorem dX12_does_88 : decode cX12_does 88 = .ok (.iload 6, 2) := by decide +kernel
theorem dX12_does_90 : decode cX12_does 90 = .ok (.ifCond .ne 7, 3) := by decide +kernel
theorem dX12_does_93 : decode cX12_does 93 = .ok (.aload_n 0, 1) := by decide +kernel
theorem dX12_does_94 : decode cX12_does 94 = .ok (.invokevirtual 252, 3) := by decide +kernel
theorem dX12_does_97 : decode cX12_does 97 = .ok (.iload 6, 2) := by decide +kernel
theorem dX12_does_99 : decode cX12_does 99 = .ok (.ireturn, 1) := by decide +kernel
