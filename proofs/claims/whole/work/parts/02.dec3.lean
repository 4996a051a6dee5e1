theorem dX10_erase_0 : decode cX10_erase 0 = .ok (.aload_n 0, 1) := by decide +kernel
theorem dX10_erase_1 : decode cX10_erase 1 = .ok (.getfield 67, 3) := by decide +kernel
theorem dX10_erase_4 : decode cX10_erase 4 = .ok (.istore_n 1, 1) := by decide +kernel
theorem dX10_erase_5 : decode cX10_erase 5 = .ok (.aload_n 0, 1) := by decide +kernel
theorem dX10_erase_6 : decode cX10_erase 6 = .ok (.iconst 0, 1) := by decide +kernel
theorem dX10_erase_7 : decode cX10_erase 7 = .ok (.putfield 67, 3) := by decide +kernel
theorem dX10_erase_10 : decode cX10_erase 10 = .ok (.iload_n 1, 1) := by decide +kernel
theorem dX10_erase_11 : decode cX10_erase 11 = .ok (.ireturn, 1) := by decide +kernel
theorem dX10_isAt_0 : decode cX10_isAt 0 = .ok (.aload_n 0, 1) := by decide +kernel
theorem dX10_isAt_1 : decode cX10_isAt 1 = .ok (.getfield 71, 3) := by decide +kernel
theorem dX10_isAt_4 : decode cX10_isAt 4 = .ok (.aload_n 0, 1) := by decide +kernel
theorem dX10_isAt_5 : decode cX10_isAt 5 = .ok (.getfield 67, 3) := by decide +kernel
theorem dX10_isAt_8 : decode cX10_isAt 8 = .ok (.if_icmp .ge 27, 3) := by decide +kernel
theorem dX10_isAt_11 : decode cX10_isAt 11 = .ok (.aload_n 0, 1) := by decide +kernel
theorem dX10_isAt_12 : decode cX10_isAt 12 = .ok (.getfield 29, 3) := by decide +kernel
theorem dX10_isAt_15 : decode cX10_isAt 15 = .ok (.aload_n 0, 1) := by decide +kernel
theorem dX10_isAt_16 : decode cX10_isAt 16 = .ok (.getfield 71, 3) := by decide +kernel
theorem dX10_isAt_19 : decode cX10_isAt 19 = .ok (.iaload, 1) := by decide +kernel
theorem dX10_isAt_20 : decode cX10_isAt 20 = .ok (.i2l, 1) := by decide +kernel
theorem dX10_isAt_21 : decode cX10_isAt 21 = .ok (.iload_n 1, 1) := by decide +kernel
theorem dX10_isAt_22 : decode cX10_isAt 22 = .ok (.i2l, 1) := by decide +kernel
theorem dX10_isAt_23 : decode cX10_isAt 23 = .ok (.iload_n 2, 1) := by decide +kernel
theorem dX10_isAt_24 : decode cX10_isAt 24 = .ok (.i2l, 1) := by decide +kernel
theorem dX10_isAt_25 : decode cX10_isAt 25 = .ok (.invokestatic 54, 3) := by decide +kernel
theorem dX10_isAt_28 : decode cX10_isAt 28 = .ok (.ifCond .eq 7, 3) := by decide +kernel
theorem dX10_isAt_31 : decode cX10_isAt 31 = .ok (.iconst 1, 1) := by decide +kernel
theorem dX10_isAt_32 : decode cX10_isAt 32 = .ok (.goto 4, 3) := by decide +kernel
theorem dX10_isAt_35 : decode cX10_isAt 35 = .ok (.iconst 0, 1) := by decide +kernel
theorem dX10_isAt_36 : decode cX10_isAt 36 = .ok (.ireturn, 1) := by decide +kernel
theorem dX10_verbOf_0 : decode cX10_verbOf 0 = .ok (.lload_n 0, 1) := by decide +kernel
theorem dX10_verbOf_1 : decode cX10_verbOf 1 = .ok (.ldc2_w 74, 3) := by decide +kernel
theorem dX10_verbOf_4 : decode cX10_verbOf 4 = .ok (.lcmp, 1) := by decide +kernel
theorem dX10_verbOf_5 : decode cX10_verbOf 5 = .ok (.ifCond .ne 7, 3) := by decide +kernel
theorem dX10_verbOf_8 : decode cX10_verbOf 8 = .ok (.iconst 0, 1) := by decide +kernel
theorem dX10_verbOf_9 : decode cX10_verbOf 9 = .ok (.goto 52, 3) := by decide +kernel
theorem dX10_verbOf_12 : decode cX10_verbOf 12 = .ok (.lload_n 0, 1) := by decide +kernel
theorem dX10_verbOf_13 : decode cX10_verbOf 13 = .ok (.ldc2_w 76, 3) := by decide +kernel
theorem dX10_verbOf_16 : decode cX10_verbOf 16 = .ok (.lcmp, 1) := by decide +kernel
theorem dX10_verbOf_17 : decode cX10_verbOf 17 = .ok (.ifCond .ne 7, 3) := by decide +kernel
theorem dX10_verbOf_20 : decode cX10_verbOf 20 = .ok (.iconst 1, 1) := by decide +kernel
theorem dX10_verbOf_21 : decode cX10_verbOf 21 = .ok (.goto 40, 3) := by decide +kernel
theorem dX10_verbOf_24 : decode cX10_verbOf 24 = .ok (.lload_n 0, 1) := by decide +kernel
theorem dX10_verbOf_25 : decode cX10_verbOf 25 = .ok (.ldc2_w 78, 3) := by decide +kernel
theorem dX10_verbOf_28 : decode cX10_verbOf 28 = .ok (.lcmp, 1) := by decide +kernel
theorem dX10_verbOf_29 : decode cX10_verbOf 29 = .ok (.ifCond .ne 7, 3) := by decide +kernel
theorem dX10_verbOf_32 : decode cX10_verbOf 32 = .ok (.iconst 2, 1) := by decide +kernel
theorem dX10_verbOf_33 : decode cX10_verbOf 33 = .ok (.goto 28, 3) := by decide +kernel
theorem dX10_verbOf_36 : decode cX10_verbOf 36 = .ok (.lload_n 0, 1) := by decide +kernel
theorem dX10_verbOf_37 : decode cX10_verbOf 37 = .ok (.ldc2_w 80, 3) := by decide +kernel
theorem dX10_verbOf_40 : decode cX10_verbOf 40 = .ok (.lcmp, 1) := by decide +kernel
theorem dX10_verbOf_41 : decode cX10_verbOf 41 = .ok (.ifCond .ne 7, 3) := by decide +kernel
theorem dX10_verbOf_44 : decode cX10_verbOf 44 = .ok (.iconst 3, 1) := by decide +kernel
theorem dX10_verbOf_45 : decode cX10_verbOf 45 = .ok (.goto 16, 3) := by decide +kernel
theorem dX10_verbOf_48 : decode cX10_verbOf 48 = .ok (.lload_n 0, 1) := by decide +kernel
theorem dX10_verbOf_49 : decode cX10_verbOf 49 = .ok (.ldc2_w 82, 3) := by decide +kernel
theorem dX10_verbOf_52 : decode cX10_verbOf 52 = .ok (.lcmp, 1) := by decide +kernel
theorem dX10_verbOf_53 : decode cX10_verbOf 53 = .ok (.ifCond .ne 7, 3) := by decide +kernel
theorem dX10_verbOf_56 : decode cX10_verbOf 56 = .ok (.iconst 4, 1) := by decide +kernel
theorem dX10_verbOf_57 : decode cX10_verbOf 57 = .ok (.goto 4, 3) := by decide +kernel
theorem dX10_verbOf_60 : decode cX10_verbOf 60 = .ok (.iconst (-1), 1) := by decide +kernel
theorem dX10_verbOf_61 : decode cX10_verbOf 61 = .ok (.istore_n 2, 1) := by decide +kernel
theorem dX10_verbOf_62 : decode cX10_verbOf 62 = .ok (.lload_n 0, 1) := by decide +kernel
theorem dX10_verbOf_63 : decode cX10_verbOf 63 = .ok (.ldc2_w 84, 3) := by decide +kernel
theorem dX10_verbOf_66 : decode cX10_verbOf 66 = .ok (.lcmp, 1) := by decide +kernel
theorem dX10_verbOf_67 : decode cX10_verbOf 67 = .ok (.ifCond .ne 7, 3) := by decide +kernel
theorem dX10_verbOf_70 : decode cX10_verbOf 70 = .ok (.iconst 5, 1) := by decide +kernel
theorem dX10_verbOf_71 : decode cX10_verbOf 71 = .ok (.goto 56, 3) := by decide +kernel
theorem dX10_verbOf_74 : decode cX10_verbOf 74 = .ok (.lload_n 0, 1) := by decide +kernel
theorem dX10_verbOf_75 : decode cX10_verbOf 75 = .ok (.ldc2_w 86, 3) := by decide +kernel
theorem dX10_verbOf_78 : decode cX10_verbOf 78 = .ok (.lcmp, 1) := by decide +kernel
theorem dX10_verbOf_79 : decode cX10_verbOf 79 = .ok (.ifCond .ne 8, 3) := by decide +kernel
theorem dX10_verbOf_82 : decode cX10_verbOf 82 = .ok (.bipush 6, 2) := by decide +kernel
theorem dX10_verbOf_84 : decode cX10_verbOf 84 = .ok (.goto 43, 3) := by decide +kernel
theorem dX10_verbOf_87 : decode cX10_verbOf 87 = .ok (.lload_n 0, 1) := by decide +kernel
theorem dX10_verbOf_88 : decode cX10_verbOf 88 = .ok (.ldc2_w 88, 3) := by decide +kernel
theorem dX10_verbOf_91 : decode cX10_verbOf 91 = .ok (.lcmp, 1) := by decide +kernel
theorem dX10_verbOf_92 : decode cX10_verbOf 92 = .ok (.ifCond .ne 8, 3) := by decide +kernel
theorem dX10_verbOf_95 : decode cX10_verbOf 95 = .ok (.bipush 7, 2) := by decide +kernel
theorem dX10_verbOf_97 : decode cX10_verbOf 97 = .ok (.goto 30, 3) := by decide +kernel
theorem dX10_verbOf_100 : decode cX10_verbOf 100 = .ok (.lload_n 0, 1) := by decide +kernel
theorem dX10_verbOf_101 : decode cX10_verbOf 101 = .ok (.ldc2_w 90, 3) := by decide +kernel
theorem dX10_verbOf_104 : decode cX10_verbOf 104 = .ok (.lcmp, 1) := by decide +kernel
theorem dX10_verbOf_105 : decode cX10_verbOf 105 = .ok (.ifCond .ne 8, 3) := by decide +kernel
theorem dX10_verbOf_108 : decode cX10_verbOf 108 = .ok (.bipush 8, 2) := by decide +kernel
theorem dX10_verbOf_110 : decode cX10_verbOf 110 = .ok (.goto 17, 3) := by decide +kernel
theorem dX10_verbOf_113 : decode cX10_verbOf 113 = .ok (.lload_n 0, 1) := by decide +kernel
theorem dX10_verbOf_114 : decode cX10_verbOf 114 = .ok (.ldc2_w 92, 3) := by decide +kernel
theorem dX10_verbOf_117 : decode cX10_verbOf 117 = .ok (.lcmp, 1) := by decide +kernel
theorem dX10_verbOf_118 : decode cX10_verbOf 118 = .ok (.ifCond .ne 8, 3) := by decide +kernel
theorem dX10_verbOf_121 : decode cX10_verbOf 121 = .ok (.bipush 9, 2) := by decide +kernel
theorem dX10_verbOf_123 : decode cX10_verbOf 123 = .ok (.goto 4, 3) := by decide +kernel
theorem dX10_verbOf_126 : decode cX10_verbOf 126 = .ok (.iconst (-1), 1) := by decide +kernel
theorem dX10_verbOf_127 : decode cX10_verbOf 127 = .ok (.istore_n 3, 1) := by decide +kernel
theorem dX10_verbOf_128 : decode cX10_verbOf 128 = .ok (.lload_n 0, 1) := by decide +kernel
theorem dX10_verbOf_129 : decode cX10_verbOf 129 = .ok (.ldc2_w 94, 3) := by decide +kernel
theorem dX10_verbOf_132 : decode cX10_verbOf 132 = .ok (.lcmp, 1) := by decide +kernel
theorem dX10_verbOf_133 : decode cX10_verbOf 133 = .ok (.ifCond .ne 8, 3) := by decide +kernel
theorem dX10_verbOf_136 : decode cX10_verbOf 136 = .ok (.bipush 10, 2) := by decide +kernel
theorem dX10_verbOf_138 : decode cX10_verbOf 138 = .ok (.goto 43, 3) := by decide +kernel
theorem dX10_verbOf_141 : decode cX10_verbOf 141 = .ok (.lload_n 0, 1) := by decide +kernel
theorem dX10_verbOf_142 : decode cX10_verbOf 142 = .ok (.ldc2_w 96, 3) := by decide +kernel
theorem dX10_verbOf_145 : decode cX10_verbOf 145 = .ok (.lcmp, 1) := by decide +kernel
theorem dX10_verbOf_146 : decode cX10_verbOf 146 = .ok (.ifCond .ne 8, 3) := by decide +kernel
theorem dX10_verbOf_149 : decode cX10_verbOf 149 = .ok (.bipush 11, 2) := by decide +kernel
theorem dX10_verbOf_151 : decode cX10_verbOf 151 = .ok (.goto 30, 3) := by decide +kernel
theorem dX10_verbOf_154 : decode cX10_verbOf 154 = .ok (.lload_n 0, 1) := by decide +kernel
theorem dX10_verbOf_155 : decode cX10_verbOf 155 = .ok (.ldc2_w 98, 3) := by decide +kernel
theorem dX10_verbOf_158 : decode cX10_verbOf 158 = .ok (.lcmp, 1) := by decide +kernel
theorem dX10_verbOf_159 : decode cX10_verbOf 159 = .ok (.ifCond .ne 8, 3) := by decide +kernel
theorem dX10_verbOf_162 : decode cX10_verbOf 162 = .ok (.bipush 12, 2) := by decide +kernel
theorem dX10_verbOf_164 : decode cX10_verbOf 164 = .ok (.goto 17, 3) := by decide +kernel
theorem dX10_verbOf_167 : decode cX10_verbOf 167 = .ok (.lload_n 0, 1) := by decide +kernel
theorem dX10_verbOf_168 : decode cX10_verbOf 168 = .ok (.ldc2_w 100, 3) := by decide +kernel
theorem dX10_verbOf_171 : decode cX10_verbOf 171 = .ok (.lcmp, 1) := by decide +kernel
theorem dX10_verbOf_172 : decode cX10_verbOf 172 = .ok (.ifCond .ne 8, 3) := by decide +kernel
theorem dX10_verbOf_175 : decode cX10_verbOf 175 = .ok (.bipush 13, 2) := by decide +kernel
theorem dX10_verbOf_177 : decode cX10_verbOf 177 = .ok (.goto 4, 3) := by decide +kernel
theorem dX10_verbOf_180 : decode cX10_verbOf 180 = .ok (.iconst (-1), 1) := by decide +kernel
theorem dX10_verbOf_181 : decode cX10_verbOf 181 = .ok (.istore 4, 2) := by decide +kernel
theorem dX10_verbOf_183 : decode cX10_verbOf 183 = .ok (.iload_n 2, 1) := by decide +kernel
theorem dX10_verbOf_184 : decode cX10_verbOf 184 = .ok (.iconst (-1), 1) := by decide +kernel
theorem dX10_verbOf_185 : decode cX10_verbOf 185 = .ok (.if_icmp .eq 7, 3) := by decide +kernel
theorem dX10_verbOf_188 : decode cX10_verbOf 188 = .ok (.iload_n 2, 1) := by decide +kernel
theorem dX10_verbOf_189 : decode cX10_verbOf 189 = .ok (.goto 14, 3) := by decide +kernel
theorem dX10_verbOf_192 : decode cX10_verbOf 192 = .ok (.iload_n 3, 1) := by decide +kernel
theorem dX10_verbOf_193 : decode cX10_verbOf 193 = .ok (.iconst (-1), 1) := by decide +kernel
theorem dX10_verbOf_194 : decode cX10_verbOf 194 = .ok (.if_icmp .eq 7, 3) := by decide +kernel
theorem dX10_verbOf_197 : decode cX10_verbOf 197 = .ok (.iload_n 3, 1) := by decide +kernel
theorem dX10_verbOf_198 : decode cX10_verbOf 198 = .ok (.goto 5, 3) := by decide +kernel
theorem dX10_verbOf_201 : decode cX10_verbOf 201 = .ok (.iload 4, 2) := by decide +kernel
theorem dX10_verbOf_203 : decode cX10_verbOf 203 = .ok (.ireturn, 1) := by decide +kernel
theorem dX10_looks_0 : decode cX10_looks 0 = .ok (.aload_n 0, 1) := by decide +kernel
theorem dX10_looks_1 : decode cX10_looks 1 = .ok (.bipush 32, 2) := by decide +kernel
theorem dX10_looks_3 : decode cX10_looks 3 = .ok (.bipush 32, 2) := by decide +kernel
theorem dX10_looks_5 : decode cX10_looks 5 = .ok (.invokevirtual 102, 3) := by decide +kernel
theorem dX10_looks_8 : decode cX10_looks 8 = .ok (.ifCond .eq 16, 3) := by decide +kernel
theorem dX10_looks_11 : decode cX10_looks 11 = .ok (.aload_n 0, 1) := by decide +kernel
theorem dX10_looks_12 : decode cX10_looks 12 = .ok (.dup, 1) := by decide +kernel
theorem dX10_looks_13 : decode cX10_looks 13 = .ok (.getfield 71, 3) := by decide +kernel
theorem dX10_looks_16 : decode cX10_looks 16 = .ok (.iconst 1, 1) := by decide +kernel
theorem dX10_looks_17 : decode cX10_looks 17 = .ok (.iadd, 1) := by decide +kernel
theorem dX10_looks_18 : decode cX10_looks 18 = .ok (.putfield 71, 3) := by decide +kernel
theorem dX10_looks_21 : decode cX10_looks 21 = .ok (.goto (-21), 3) := by decide +kernel
theorem dX10_looks_24 : decode cX10_looks 24 = .ok (.aload_n 0, 1) := by decide +kernel
theorem dX10_looks_25 : decode cX10_looks 25 = .ok (.aload_n 0, 1) := by decide +kernel
theorem dX10_looks_26 : decode cX10_looks 26 = .ok (.getfield 71, 3) := by decide +kernel
theorem dX10_looks_29 : decode cX10_looks 29 = .ok (.putfield 106, 3) := by decide +kernel
theorem dX10_looks_32 : decode cX10_looks 32 = .ok (.aload_n 0, 1) := by decide +kernel
theorem dX10_looks_33 : decode cX10_looks 33 = .ok (.getfield 71, 3) := by decide +kernel
theorem dX10_looks_36 : decode cX10_looks 36 = .ok (.aload_n 0, 1) := by decide +kernel
theorem dX10_looks_37 : decode cX10_looks 37 = .ok (.getfield 67, 3) := by decide +kernel
theorem dX10_looks_40 : decode cX10_looks 40 = .ok (.if_icmp .ne 9, 3) := by decide +kernel
theorem dX10_looks_43 : decode cX10_looks 43 = .ok (.aload_n 0, 1) := by decide +kernel
theorem dX10_looks_44 : decode cX10_looks 44 = .ok (.iconst 0, 1) := by decide +kernel
theorem dX10_looks_45 : decode cX10_looks 45 = .ok (.putfield 109, 3) := by decide +kernel
theorem dX10_looks_48 : decode cX10_looks 48 = .ok (.return_, 1) := by decide +kernel
theorem dX10_looks_49 : decode cX10_looks 49 = .ok (.aload_n 0, 1) := by decide +kernel
theorem dX10_looks_50 : decode cX10_looks 50 = .ok (.bipush 97, 2) := by decide +kernel
theorem dX10_looks_52 : decode cX10_looks 52 = .ok (.bipush 122, 2) := by decide +kernel
theorem dX10_looks_54 : decode cX10_looks 54 = .ok (.invokevirtual 102, 3) := by decide +kernel
theorem dX10_looks_57 : decode cX10_looks 57 = .ok (.ifCond .eq 107, 3) := by decide +kernel
theorem dX10_looks_60 : decode cX10_looks 60 = .ok (.lconst 0, 1) := by decide +kernel
theorem dX10_looks_61 : decode cX10_looks 61 = .ok (.lstore_n 1, 1) := by decide +kernel
theorem dX10_looks_62 : decode cX10_looks 62 = .ok (.aload_n 0, 1) := by decide +kernel
theorem dX10_looks_63 : decode cX10_looks 63 = .ok (.bipush 97, 2) := by decide +kernel
theorem dX10_looks_65 : decode cX10_looks 65 = .ok (.bipush 122, 2) := by decide +kernel
theorem dX10_looks_67 : decode cX10_looks 67 = .ok (.invokevirtual 102, 3) := by decide +kernel
theorem dX10_looks_70 : decode cX10_looks 70 = .ok (.ifCond .eq 57, 3) := by decide +kernel
theorem dX10_looks_73 : decode cX10_looks 73 = .ok (.aload_n 0, 1) := by decide +kernel
theorem dX10_looks_74 : decode cX10_looks 74 = .ok (.getfield 71, 3) := by decide +kernel
theorem dX10_looks_77 : decode cX10_looks 77 = .ok (.aload_n 0, 1) := by decide +kernel
theorem dX10_looks_78 : decode cX10_looks 78 = .ok (.getfield 106, 3) := by decide +kernel
theorem dX10_looks_81 : decode cX10_looks 81 = .ok (.isub, 1) := by decide +kernel
theorem dX10_looks_82 : decode cX10_looks 82 = .ok (.bipush 7, 2) := by decide +kernel
theorem dX10_looks_84 : decode cX10_looks 84 = .ok (.if_icmp .le 7, 3) := by decide +kernel
theorem dX10_looks_87 : decode cX10_looks 87 = .ok (.lconst 0, 1) := by decide +kernel
theorem dX10_looks_88 : decode cX10_looks 88 = .ok (.goto 25, 3) := by decide +kernel
theorem dX10_looks_91 : decode cX10_looks 91 = .ok (.ldc2_w 112, 3) := by decide +kernel
theorem dX10_looks_94 : decode cX10_looks 94 = .ok (.lload_n 1, 1) := by decide +kernel
theorem dX10_looks_95 : decode cX10_looks 95 = .ok (.lmul, 1) := by decide +kernel
theorem dX10_looks_96 : decode cX10_looks 96 = .ok (.aload_n 0, 1) := by decide +kernel
theorem dX10_looks_97 : decode cX10_looks 97 = .ok (.getfield 29, 3) := by decide +kernel
theorem dX10_looks_100 : decode cX10_looks 100 = .ok (.aload_n 0, 1) := by decide +kernel
theorem dX10_looks_101 : decode cX10_looks 101 = .ok (.getfield 71, 3) := by decide +kernel
theorem dX10_looks_104 : decode cX10_looks 104 = .ok (.iaload, 1) := by decide +kernel
theorem dX10_looks_105 : decode cX10_looks 105 = .ok (.i2l, 1) := by decide +kernel
theorem dX10_looks_106 : decode cX10_looks 106 = .ok (.ladd, 1) := by decide +kernel
theorem dX10_looks_107 : decode cX10_looks 107 = .ok (.ldc2_w 114, 3) := by decide +kernel
theorem dX10_looks_110 : decode cX10_looks 110 = .ok (.lsub, 1) := by decide +kernel
theorem dX10_looks_111 : decode cX10_looks 111 = .ok (.lconst 1, 1) := by decide +kernel
theorem dX10_looks_112 : decode cX10_looks 112 = .ok (.ladd, 1) := by decide +kernel
theorem dX10_looks_113 : decode cX10_looks 113 = .ok (.lstore_n 1, 1) := by decide +kernel
theorem dX10_looks_114 : decode cX10_looks 114 = .ok (.aload_n 0, 1) := by decide +kernel
theorem dX10_looks_115 : decode cX10_looks 115 = .ok (.dup, 1) := by decide +kernel
theorem dX10_looks_116 : decode cX10_looks 116 = .ok (.getfield 71, 3) := by decide +kernel
theorem dX10_looks_119 : decode cX10_looks 119 = .ok (.iconst 1, 1) := by decide +kernel
theorem dX10_looks_120 : decode cX10_looks 120 = .ok (.iadd, 1) := by decide +kernel
theorem dX10_looks_121 : decode cX10_looks 121 = .ok (.putfield 71, 3) := by decide +kernel
theorem dX10_looks_124 : decode cX10_looks 124 = .ok (.goto (-62), 3) := by decide +kernel
theorem dX10_looks_127 : decode cX10_looks 127 = .ok (.aload_n 0, 1) := by decide +kernel
theorem dX10_looks_128 : decode cX10_looks 128 = .ok (.aload_n 0, 1) := by decide +kernel
theorem dX10_looks_129 : decode cX10_looks 129 = .ok (.getfield 71, 3) := by decide +kernel
theorem dX10_looks_132 : decode cX10_looks 132 = .ok (.aload_n 0, 1) := by decide +kernel
theorem dX10_looks_133 : decode cX10_looks 133 = .ok (.getfield 106, 3) := by decide +kernel
theorem dX10_looks_136 : decode cX10_looks 136 = .ok (.isub, 1) := by decide +kernel
theorem dX10_looks_137 : decode cX10_looks 137 = .ok (.bipush 8, 2) := by decide +kernel
theorem dX10_looks_139 : decode cX10_looks 139 = .ok (.if_icmp .gt 11, 3) := by decide +kernel
theorem dX10_looks_142 : decode cX10_looks 142 = .ok (.lload_n 1, 1) := by decide +kernel
theorem dX10_looks_143 : decode cX10_looks 143 = .ok (.invokestatic 116, 3) := by decide +kernel
theorem dX10_looks_146 : decode cX10_looks 146 = .ok (.iconst (-1), 1) := by decide +kernel
theorem dX10_looks_147 : decode cX10_looks 147 = .ok (.if_icmp .ne 7, 3) := by decide +kernel
theorem dX10_looks_150 : decode cX10_looks 150 = .ok (.iconst 1, 1) := by decide +kernel
theorem dX10_looks_151 : decode cX10_looks 151 = .ok (.goto 9, 3) := by decide +kernel
theorem dX10_looks_154 : decode cX10_looks 154 = .ok (.iconst 4, 1) := by decide +kernel
theorem dX10_looks_155 : decode cX10_looks 155 = .ok (.lload_n 1, 1) := by decide +kernel
theorem dX10_looks_156 : decode cX10_looks 156 = .ok (.invokestatic 116, 3) := by decide +kernel
theorem dX10_looks_159 : decode cX10_looks 159 = .ok (.iadd, 1) := by decide +kernel
theorem dX10_looks_160 : decode cX10_looks 160 = .ok (.putfield 109, 3) := by decide +kernel
theorem dX10_looks_163 : decode cX10_looks 163 = .ok (.return_, 1) := by decide +kernel
theorem dX10_looks_164 : decode cX10_looks 164 = .ok (.aload_n 0, 1) := by decide +kernel
theorem dX10_looks_165 : decode cX10_looks 165 = .ok (.bipush 48, 2) := by decide +kernel
theorem dX10_looks_167 : decode cX10_looks 167 = .ok (.bipush 57, 2) := by decide +kernel
theorem dX10_looks_169 : decode cX10_looks 169 = .ok (.invokevirtual 102, 3) := by decide +kernel
theorem dX10_looks_172 : decode cX10_looks 172 = .ok (.ifCond .eq 99, 3) := by decide +kernel
theorem dX10_looks_175 : decode cX10_looks 175 = .ok (.aload_n 0, 1) := by decide +kernel
theorem dX10_looks_176 : decode cX10_looks 176 = .ok (.iconst 0, 1) := by decide +kernel
theorem dX10_looks_177 : decode cX10_looks 177 = .ok (.putfield 120, 3) := by decide +kernel
theorem dX10_looks_180 : decode cX10_looks 180 = .ok (.aload_n 0, 1) := by decide +kernel
theorem dX10_looks_181 : decode cX10_looks 181 = .ok (.bipush 48, 2) := by decide +kernel
theorem dX10_looks_183 : decode cX10_looks 183 = .ok (.bipush 57, 2) := by decide +kernel
theorem dX10_looks_185 : decode cX10_looks 185 = .ok (.invokevirtual 102, 3) := by decide +kernel
theorem dX10_looks_188 : decode cX10_looks 188 = .ok (.ifCond .eq 60, 3) := by decide +kernel
theorem dX10_looks_191 : decode cX10_looks 191 = .ok (.aload_n 0, 1) := by decide +kernel
theorem dX10_looks_192 : decode cX10_looks 192 = .ok (.aload_n 0, 1) := by decide +kernel
theorem dX10_looks_193 : decode cX10_looks 193 = .ok (.getfield 71, 3) := by decide +kernel
theorem dX10_looks_196 : decode cX10_looks 196 = .ok (.aload_n 0, 1) := by decide +kernel
theorem dX10_looks_197 : decode cX10_looks 197 = .ok (.getfield 106, 3) := by decide +kernel
theorem dX10_looks_200 : decode cX10_looks 200 = .ok (.isub, 1) := by decide +kernel
theorem dX10_looks_201 : decode cX10_looks 201 = .ok (.iconst 2, 1) := by decide +kernel
theorem dX10_looks_202 : decode cX10_looks 202 = .ok (.if_icmp .ge 26, 3) := by decide +kernel
theorem dX10_looks_205 : decode cX10_looks 205 = .ok (.bipush 10, 2) := by decide +kernel
theorem dX10_looks_207 : decode cX10_looks 207 = .ok (.aload_n 0, 1) := by decide +kernel
theorem dX10_looks_208 : decode cX10_looks 208 = .ok (.getfield 120, 3) := by decide +kernel
theorem dX10_looks_211 : decode cX10_looks 211 = .ok (.imul, 1) := by decide +kernel
theorem dX10_looks_212 : decode cX10_looks 212 = .ok (.aload_n 0, 1) := by decide +kernel
theorem dX10_looks_213 : decode cX10_looks 213 = .ok (.getfield 29, 3) := by decide +kernel
theorem dX10_looks_216 : decode cX10_looks 216 = .ok (.aload_n 0, 1) := by decide +kernel
theorem dX10_looks_217 : decode cX10_looks 217 = .ok (.getfield 71, 3) := by decide +kernel
theorem dX10_looks_220 : decode cX10_looks 220 = .ok (.iaload, 1) := by decide +kernel
theorem dX10_looks_221 : decode cX10_looks 221 = .ok (.iadd, 1) := by decide +kernel
theorem dX10_looks_222 : decode cX10_looks 222 = .ok (.bipush 48, 2) := by decide +kernel
theorem dX10_looks_224 : decode cX10_looks 224 = .ok (.isub, 1) := by decide +kernel
theorem dX10_looks_225 : decode cX10_looks 225 = .ok (.goto 7, 3) := by decide +kernel
theorem dX10_looks_228 : decode cX10_looks 228 = .ok (.aload_n 0, 1) := by decide +kernel
theorem dX10_looks_229 : decode cX10_looks 229 = .ok (.getfield 120, 3) := by decide +kernel
theorem dX10_looks_232 : decode cX10_looks 232 = .ok (.putfield 120, 3) := by decide +kernel
theorem dX10_looks_235 : decode cX10_looks 235 = .ok (.aload_n 0, 1) := by decide +kernel
theorem dX10_looks_236 : decode cX10_looks 236 = .ok (.dup, 1) := by decide +kernel
theorem dX10_looks_237 : decode cX10_looks 237 = .ok (.getfield 71, 3) := by decide +kernel
theorem dX10_looks_240 : decode cX10_looks 240 = .ok (.iconst 1, 1) := by decide +kernel
theorem dX10_looks_241 : decode cX10_looks 241 = .ok (.iadd, 1) := by decide +kernel
theorem dX10_looks_242 : decode cX10_looks 242 = .ok (.putfield 71, 3) := by decide +kernel
theorem dX10_looks_245 : decode cX10_looks 245 = .ok (.goto (-65), 3) := by decide +kernel
theorem dX10_looks_248 : decode cX10_looks 248 = .ok (.aload_n 0, 1) := by decide +kernel
theorem dX10_looks_249 : decode cX10_looks 249 = .ok (.aload_n 0, 1) := by decide +kernel
theorem dX10_looks_250 : decode cX10_looks 250 = .ok (.getfield 71, 3) := by decide +kernel
theorem dX10_looks_253 : decode cX10_looks 253 = .ok (.aload_n 0, 1) := by decide +kernel
theorem dX10_looks_254 : decode cX10_looks 254 = .ok (.getfield 106, 3) := by decide +kernel
theorem dX10_looks_257 : decode cX10_looks 257 = .ok (.isub, 1) := by decide +kernel
theorem dX10_looks_258 : decode cX10_looks 258 = .ok (.iconst 2, 1) := by decide +kernel
theorem dX10_looks_259 : decode cX10_looks 259 = .ok (.if_icmp .le 7, 3) := by decide +kernel
theorem dX10_looks_262 : decode cX10_looks 262 = .ok (.iconst 1, 1) := by decide +kernel
theorem dX10_looks_263 : decode cX10_looks 263 = .ok (.goto 4, 3) := by decide +kernel
theorem dX10_looks_266 : decode cX10_looks 266 = .ok (.iconst 2, 1) := by decide +kernel
theorem dX10_looks_267 : decode cX10_looks 267 = .ok (.putfield 109, 3) := by decide +kernel
theorem dX10_looks_270 : decode cX10_looks 270 = .ok (.return_, 1) := by decide +kernel
theorem dX10_looks_271 : decode cX10_looks 271 = .ok (.aload_n 0, 1) := by decide +kernel
theorem dX10_looks_272 : decode cX10_looks 272 = .ok (.aload_n 0, 1) := by decide +kernel
theorem dX10_looks_273 : decode cX10_looks 273 = .ok (.bipush 59, 2) := by decide +kernel
theorem dX10_looks_275 : decode cX10_looks 275 = .ok (.bipush 59, 2) := by decide +kernel
theorem dX10_looks_277 : decode cX10_looks 277 = .ok (.invokevirtual 102, 3) := by decide +kernel
theorem dX10_looks_280 : decode cX10_looks 280 = .ok (.ifCond .eq 7, 3) := by decide +kernel
theorem dX10_looks_283 : decode cX10_looks 283 = .ok (.iconst 3, 1) := by decide +kernel
theorem dX10_looks_284 : decode cX10_looks 284 = .ok (.goto 4, 3) := by decide +kernel
theorem dX10_looks_287 : decode cX10_looks 287 = .ok (.iconst 1, 1) := by decide +kernel
theorem dX10_looks_288 : decode cX10_looks 288 = .ok (.putfield 109, 3) := by decide +kernel
theorem dX10_looks_291 : decode cX10_looks 291 = .ok (.aload_n 0, 1) := by decide +kernel
theorem dX10_looks_292 : decode cX10_looks 292 = .ok (.dup, 1) := by decide +kernel
theorem dX10_looks_293 : decode cX10_looks 293 = .ok (.getfield 71, 3) := by decide +kernel
theorem dX10_looks_296 : decode cX10_looks 296 = .ok (.iconst 1, 1) := by decide +kernel
theorem dX10_looks_297 : decode cX10_looks 297 = .ok (.iadd, 1) := by decide +kernel
theorem dX10_looks_298 : decode cX10_looks 298 = .ok (.putfield 71, 3) := by decide +kernel
theorem dX10_looks_301 : decode cX10_looks 301 = .ok (.return_, 1) := by decide +kernel
theorem dX10_numbers_0 : decode cX10_numbers 0 = .ok (.iload_n 0, 1) := by decide +kernel
theorem dX10_numbers_1 : decode cX10_numbers 1 = .ok (.iconst 3, 1) := by decide +kernel
theorem dX10_numbers_2 : decode cX10_numbers 2 = .ok (.if_icmp .ge 7, 3) := by decide +kernel
theorem dX10_numbers_5 : decode cX10_numbers 5 = .ok (.iconst 3, 1) := by decide +kernel
theorem dX10_numbers_6 : decode cX10_numbers 6 = .ok (.goto 20, 3) := by decide +kernel
theorem dX10_numbers_9 : decode cX10_numbers 9 = .ok (.iload_n 0, 1) := by decide +kernel
theorem dX10_numbers_10 : decode cX10_numbers 10 = .ok (.bipush 6, 2) := by decide +kernel
theorem dX10_numbers_12 : decode cX10_numbers 12 = .ok (.if_icmp .lt 9, 3) := by decide +kernel
theorem dX10_numbers_15 : decode cX10_numbers 15 = .ok (.iload_n 0, 1) := by decide +kernel
theorem dX10_numbers_16 : decode cX10_numbers 16 = .ok (.bipush 12, 2) := by decide +kernel
theorem dX10_numbers_18 : decode cX10_numbers 18 = .ok (.if_icmp .ne 7, 3) := by decide +kernel
theorem dX10_numbers_21 : decode cX10_numbers 21 = .ok (.iconst 2, 1) := by decide +kernel
theorem dX10_numbers_22 : decode cX10_numbers 22 = .ok (.goto 4, 3) := by decide +kernel
theorem dX10_numbers_25 : decode cX10_numbers 25 = .ok (.iconst 0, 1) := by decide +kernel
theorem dX10_numbers_26 : decode cX10_numbers 26 = .ok (.ireturn, 1) := by decide +kernel
theorem dX10_low_0 : decode cX10_low 0 = .ok (.iload_n 0, 1) := by decide +kernel
theorem dX10_low_1 : decode cX10_low 1 = .ok (.iconst 3, 1) := by decide +kernel
theorem dX10_low_2 : decode cX10_low 2 = .ok (.if_icmp .ge 8, 3) := by decide +kernel
theorem dX10_low_5 : decode cX10_low 5 = .ok (.iload_n 1, 1) := by decide +kernel
theorem dX10_low_6 : decode cX10_low 6 = .ok (.iconst 2, 1) := by decide +kernel
theorem dX10_low_7 : decode cX10_low 7 = .ok (.if_icmp .lt 21, 3) := by decide +kernel
theorem dX10_low_10 : decode cX10_low 10 = .ok (.iload_n 0, 1) := by decide +kernel
theorem dX10_low_11 : decode cX10_low 11 = .ok (.iconst 3, 1) := by decide +kernel
theorem dX10_low_12 : decode cX10_low 12 = .ok (.if_icmp .ne 7, 3) := by decide +kernel
theorem dX10_low_15 : decode cX10_low 15 = .ok (.iload_n 1, 1) := by decide +kernel
theorem dX10_low_16 : decode cX10_low 16 = .ok (.ifCond .eq 12, 3) := by decide +kernel
theorem dX10_low_19 : decode cX10_low 19 = .ok (.iload_n 0, 1) := by decide +kernel
theorem dX10_low_20 : decode cX10_low 20 = .ok (.iconst 5, 1) := by decide +kernel
theorem dX10_low_21 : decode cX10_low 21 = .ok (.if_icmp .ne 11, 3) := by decide +kernel
theorem dX10_low_24 : decode cX10_low 24 = .ok (.iload_n 1, 1) := by decide +kernel
theorem dX10_low_25 : decode cX10_low 25 = .ok (.ifCond .ne 7, 3) := by decide +kernel
theorem dX10_low_28 : decode cX10_low 28 = .ok (.iconst 1, 1) := by decide +kernel
theorem dX10_low_29 : decode cX10_low 29 = .ok (.goto 4, 3) := by decide +kernel
theorem dX10_low_32 : decode cX10_low 32 = .ok (.iconst 0, 1) := by decide +kernel
theorem dX10_low_33 : decode cX10_low 33 = .ok (.ireturn, 1) := by decide +kernel
theorem dX10_high_0 : decode cX10_high 0 = .ok (.iload_n 1, 1) := by decide +kernel
theorem dX10_high_1 : decode cX10_high 1 = .ok (.ifCond .ne 7, 3) := by decide +kernel
theorem dX10_high_4 : decode cX10_high 4 = .ok (.iconst 4, 1) := by decide +kernel
theorem dX10_high_5 : decode cX10_high 5 = .ok (.goto 18, 3) := by decide +kernel
theorem dX10_high_8 : decode cX10_high 8 = .ok (.iload_n 1, 1) := by decide +kernel
theorem dX10_high_9 : decode cX10_high 9 = .ok (.iconst 1, 1) := by decide +kernel
theorem dX10_high_10 : decode cX10_high 10 = .ok (.if_icmp .ne 12, 3) := by decide +kernel
theorem dX10_high_13 : decode cX10_high 13 = .ok (.iload_n 0, 1) := by decide +kernel
theorem dX10_high_14 : decode cX10_high 14 = .ok (.iconst 3, 1) := by decide +kernel
theorem dX10_high_15 : decode cX10_high 15 = .ok (.if_icmp .ge 7, 3) := by decide +kernel
theorem dX10_high_18 : decode cX10_high 18 = .ok (.iload_n 2, 1) := by decide +kernel
theorem dX10_high_19 : decode cX10_high 19 = .ok (.goto 4, 3) := by decide +kernel
theorem dX10_high_22 : decode cX10_high 22 = .ok (.iconst 5, 1) := by decide +kernel
theorem dX10_high_23 : decode cX10_high 23 = .ok (.istore_n 3, 1) := by decide +kernel
theorem dX10_high_24 : decode cX10_high 24 = .ok (.iload_n 0, 1) := by decide +kernel
theorem dX10_high_25 : decode cX10_high 25 = .ok (.iconst 4, 1) := by decide +kernel
theorem dX10_high_26 : decode cX10_high 26 = .ok (.if_icmp .ne 15, 3) := by decide +kernel
theorem dX10_high_29 : decode cX10_high 29 = .ok (.iload_n 1, 1) := by decide +kernel
theorem dX10_high_30 : decode cX10_high 30 = .ok (.ifCond .ne 7, 3) := by decide +kernel
theorem dX10_high_33 : decode cX10_high 33 = .ok (.iconst 3, 1) := by decide +kernel
theorem dX10_high_34 : decode cX10_high 34 = .ok (.goto 35, 3) := by decide +kernel
theorem dX10_high_37 : decode cX10_high 37 = .ok (.iconst 5, 1) := by decide +kernel
theorem dX10_high_38 : decode cX10_high 38 = .ok (.goto 31, 3) := by decide +kernel
theorem dX10_high_41 : decode cX10_high 41 = .ok (.iload_n 0, 1) := by decide +kernel
theorem dX10_high_42 : decode cX10_high 42 = .ok (.iconst 5, 1) := by decide +kernel
theorem dX10_high_43 : decode cX10_high 43 = .ok (.if_icmp .ne 16, 3) := by decide +kernel
theorem dX10_high_46 : decode cX10_high 46 = .ok (.iload_n 1, 1) := by decide +kernel
theorem dX10_high_47 : decode cX10_high 47 = .ok (.ifCond .ne 8, 3) := by decide +kernel
theorem dX10_high_50 : decode cX10_high 50 = .ok (.bipush 12, 2) := by decide +kernel
theorem dX10_high_52 : decode cX10_high 52 = .ok (.goto 17, 3) := by decide +kernel
theorem dX10_high_55 : decode cX10_high 55 = .ok (.iconst 3, 1) := by decide +kernel
theorem dX10_high_56 : decode cX10_high 56 = .ok (.goto 13, 3) := by decide +kernel
theorem dX10_high_59 : decode cX10_high 59 = .ok (.iload_n 1, 1) := by decide +kernel
theorem dX10_high_60 : decode cX10_high 60 = .ok (.ifCond .ne 7, 3) := by decide +kernel
theorem dX10_high_63 : decode cX10_high 63 = .ok (.iconst 5, 1) := by decide +kernel
theorem dX10_high_64 : decode cX10_high 64 = .ok (.goto 5, 3) := by decide +kernel
theorem dX10_high_67 : decode cX10_high 67 = .ok (.bipush 9, 2) := by decide +kernel
theorem dX10_high_69 : decode cX10_high 69 = .ok (.istore 4, 2) := by decide +kernel
theorem dX10_high_71 : decode cX10_high 71 = .ok (.iload_n 0, 1) := by decide +kernel
theorem dX10_high_72 : decode cX10_high 72 = .ok (.iconst 4, 1) := by decide +kernel
theorem dX10_high_73 : decode cX10_high 73 = .ok (.if_icmp .ge 7, 3) := by decide +kernel
theorem dX10_high_76 : decode cX10_high 76 = .ok (.iload_n 3, 1) := by decide +kernel
theorem dX10_high_77 : decode cX10_high 77 = .ok (.goto 5, 3) := by decide +kernel
theorem dX10_high_80 : decode cX10_high 80 = .ok (.iload 4, 2) := by decide +kernel
theorem dX10_high_82 : decode cX10_high 82 = .ok (.ireturn, 1) := by decide +kernel
theorem dX10_comes_0 : decode cX10_comes 0 = .ok (.iload_n 1, 1) := by decide +kernel
theorem dX10_comes_1 : decode cX10_comes 1 = .ok (.bipush 13, 2) := by decide +kernel
theorem dX10_comes_3 : decode cX10_comes 3 = .ok (.if_icmp .ne 18, 3) := by decide +kernel
theorem dX10_comes_6 : decode cX10_comes 6 = .ok (.aload_n 0, 1) := by decide +kernel
theorem dX10_comes_7 : decode cX10_comes 7 = .ok (.iconst 0, 1) := by decide +kernel
theorem dX10_comes_8 : decode cX10_comes 8 = .ok (.putfield 123, 3) := by decide +kernel
theorem dX10_comes_11 : decode cX10_comes 11 = .ok (.aload_n 0, 1) := by decide +kernel
theorem dX10_comes_12 : decode cX10_comes 12 = .ok (.iconst 0, 1) := by decide +kernel
theorem dX10_comes_13 : decode cX10_comes 13 = .ok (.putfield 126, 3) := by decide +kernel
theorem dX10_comes_16 : decode cX10_comes 16 = .ok (.aload_n 0, 1) := by decide +kernel
theorem dX10_comes_17 : decode cX10_comes 17 = .ok (.iconst 0, 1) := by decide +kernel
theorem dX10_comes_18 : decode cX10_comes 18 = .ok (.putfield 129, 3) := by decide +kernel
theorem dX10_comes_21 : decode cX10_comes 21 = .ok (.aload_n 0, 1) := by decide +kernel
theorem dX10_comes_22 : decode cX10_comes 22 = .ok (.dup, 1) := by decide +kernel
theorem dX10_comes_23 : decode cX10_comes 23 = .ok (.getfield 123, 3) := by decide +kernel
theorem dX10_comes_26 : decode cX10_comes 26 = .ok (.iload_n 1, 1) := by decide +kernel
theorem dX10_comes_27 : decode cX10_comes 27 = .ok (.iconst 4, 1) := by decide +kernel
theorem dX10_comes_28 : decode cX10_comes 28 = .ok (.if_icmp .ge 7, 3) := by decide +kernel
theorem dX10_comes_31 : decode cX10_comes 31 = .ok (.iconst 1, 1) := by decide +kernel
theorem dX10_comes_32 : decode cX10_comes 32 = .ok (.goto 4, 3) := by decide +kernel
theorem dX10_comes_35 : decode cX10_comes 35 = .ok (.iconst 0, 1) := by decide +kernel
theorem dX10_comes_36 : decode cX10_comes 36 = .ok (.iadd, 1) := by decide +kernel
theorem dX10_comes_37 : decode cX10_comes 37 = .ok (.putfield 123, 3) := by decide +kernel
theorem dX10_comes_40 : decode cX10_comes 40 = .ok (.aload_n 0, 1) := by decide +kernel
theorem dX10_comes_41 : decode cX10_comes 41 = .ok (.dup, 1) := by decide +kernel
theorem dX10_comes_42 : decode cX10_comes 42 = .ok (.getfield 126, 3) := by decide +kernel
theorem dX10_comes_45 : decode cX10_comes 45 = .ok (.iload_n 1, 1) := by decide +kernel
theorem dX10_comes_46 : decode cX10_comes 46 = .ok (.iconst 5, 1) := by decide +kernel
theorem dX10_comes_47 : decode cX10_comes 47 = .ok (.if_icmp .ne 7, 3) := by decide +kernel
theorem dX10_comes_50 : decode cX10_comes 50 = .ok (.iconst 1, 1) := by decide +kernel
theorem dX10_comes_51 : decode cX10_comes 51 = .ok (.goto 4, 3) := by decide +kernel
theorem dX10_comes_54 : decode cX10_comes 54 = .ok (.iconst 0, 1) := by decide +kernel
theorem dX10_comes_55 : decode cX10_comes 55 = .ok (.iadd, 1) := by decide +kernel
theorem dX10_comes_56 : decode cX10_comes 56 = .ok (.putfield 126, 3) := by decide +kernel
theorem dX10_comes_59 : decode cX10_comes 59 = .ok (.aload_n 0, 1) := by decide +kernel
theorem dX10_comes_60 : decode cX10_comes 60 = .ok (.dup, 1) := by decide +kernel
theorem dX10_comes_61 : decode cX10_comes 61 = .ok (.getfield 129, 3) := by decide +kernel
theorem dX10_comes_64 : decode cX10_comes 64 = .ok (.iload_n 1, 1) := by decide +kernel
theorem dX10_comes_65 : decode cX10_comes 65 = .ok (.iconst 5, 1) := by decide +kernel
theorem dX10_comes_66 : decode cX10_comes 66 = .ok (.if_icmp .le 13, 3) := by decide +kernel
theorem dX10_comes_69 : decode cX10_comes 69 = .ok (.iload_n 1, 1) := by decide +kernel
theorem dX10_comes_70 : decode cX10_comes 70 = .ok (.bipush 9, 2) := by decide +kernel
theorem dX10_comes_72 : decode cX10_comes 72 = .ok (.if_icmp .ge 7, 3) := by decide +kernel
theorem dX10_comes_75 : decode cX10_comes 75 = .ok (.iconst 1, 1) := by decide +kernel
theorem dX10_comes_76 : decode cX10_comes 76 = .ok (.goto 4, 3) := by decide +kernel
theorem dX10_comes_79 : decode cX10_comes 79 = .ok (.iconst 0, 1) := by decide +kernel
theorem dX10_comes_80 : decode cX10_comes 80 = .ok (.iadd, 1) := by decide +kernel
theorem dX10_comes_81 : decode cX10_comes 81 = .ok (.putfield 129, 3) := by decide +kernel
theorem dX10_comes_84 : decode cX10_comes 84 = .ok (.aload_n 0, 1) := by decide +kernel
theorem dX10_comes_85 : decode cX10_comes 85 = .ok (.getfield 123, 3) := by decide +kernel
theorem dX10_comes_88 : decode cX10_comes 88 = .ok (.bipush 9, 2) := by decide +kernel
theorem dX10_comes_90 : decode cX10_comes 90 = .ok (.if_icmp .gt 24, 3) := by decide +kernel
theorem dX10_comes_93 : decode cX10_comes 93 = .ok (.aload_n 0, 1) := by decide +kernel
theorem dX10_comes_94 : decode cX10_comes 94 = .ok (.getfield 126, 3) := by decide +kernel
theorem dX10_comes_97 : decode cX10_comes 97 = .ok (.bipush 6, 2) := by decide +kernel
theorem dX10_comes_99 : decode cX10_comes 99 = .ok (.if_icmp .gt 15, 3) := by decide +kernel
theorem dX10_comes_102 : decode cX10_comes 102 = .ok (.aload_n 0, 1) := by decide +kernel
theorem dX10_comes_103 : decode cX10_comes 103 = .ok (.getfield 129, 3) := by decide +kernel
theorem dX10_comes_106 : decode cX10_comes 106 = .ok (.iconst 3, 1) := by decide +kernel
theorem dX10_comes_107 : decode cX10_comes 107 = .ok (.if_icmp .gt 7, 3) := by decide +kernel
theorem dX10_comes_110 : decode cX10_comes 110 = .ok (.iconst 1, 1) := by decide +kernel
theorem dX10_comes_111 : decode cX10_comes 111 = .ok (.goto 4, 3) := by decide +kernel
theorem dX10_comes_114 : decode cX10_comes 114 = .ok (.iconst 0, 1) := by decide +kernel
theorem dX10_comes_115 : decode cX10_comes 115 = .ok (.ireturn, 1) := by decide +kernel
theorem dX10_reads_0 : decode cX10_reads 0 = .ok (.aload_n 0, 1) := by decide +kernel
theorem dX10_reads_1 : decode cX10_reads 1 = .ok (.iconst 0, 1) := by decide +kernel
theorem dX10_reads_2 : decode cX10_reads 2 = .ok (.putfield 71, 3) := by decide +kernel
theorem dX10_reads_5 : decode cX10_reads 5 = .ok (.aload_n 0, 1) := by decide +kernel
theorem dX10_reads_6 : decode cX10_reads 6 = .ok (.iconst 0, 1) := by decide +kernel
theorem dX10_reads_7 : decode cX10_reads 7 = .ok (.putfield 132, 3) := by decide +kernel
theorem dX10_reads_10 : decode cX10_reads 10 = .ok (.aload_n 0, 1) := by decide +kernel
theorem dX10_reads_11 : decode cX10_reads 11 = .ok (.aload_n 0, 1) := by decide +kernel
theorem dX10_reads_12 : decode cX10_reads 12 = .ok (.getfield 7, 3) := by decide +kernel
theorem dX10_reads_15 : decode cX10_reads 15 = .ok (.iconst 0, 1) := by decide +kernel
theorem dX10_reads_16 : decode cX10_reads 16 = .ok (.iaload, 1) := by decide +kernel
theorem dX10_reads_17 : decode cX10_reads 17 = .ok (.putfield 123, 3) := by decide +kernel
theorem dX10_reads_20 : decode cX10_reads 20 = .ok (.aload_n 0, 1) := by decide +kernel
theorem dX10_reads_21 : decode cX10_reads 21 = .ok (.aload_n 0, 1) := by decide +kernel
theorem dX10_reads_22 : decode cX10_reads 22 = .ok (.getfield 7, 3) := by decide +kernel
theorem dX10_reads_25 : decode cX10_reads 25 = .ok (.iconst 1, 1) := by decide +kernel
theorem dX10_reads_26 : decode cX10_reads 26 = .ok (.iaload, 1) := by decide +kernel
theorem dX10_reads_27 : decode cX10_reads 27 = .ok (.putfield 126, 3) := by decide +kernel
theorem dX10_reads_30 : decode cX10_reads 30 = .ok (.aload_n 0, 1) := by decide +kernel
theorem dX10_reads_31 : decode cX10_reads 31 = .ok (.aload_n 0, 1) := by decide +kernel
theorem dX10_reads_32 : decode cX10_reads 32 = .ok (.getfield 7, 3) := by decide +kernel
theorem dX10_reads_35 : decode cX10_reads 35 = .ok (.iconst 2, 1) := by decide +kernel
theorem dX10_reads_36 : decode cX10_reads 36 = .ok (.iaload, 1) := by decide +kernel
theorem dX10_reads_37 : decode cX10_reads 37 = .ok (.putfield 129, 3) := by decide +kernel
theorem dX10_reads_40 : decode cX10_reads 40 = .ok (.aload_n 0, 1) := by decide +kernel
theorem dX10_reads_41 : decode cX10_reads 41 = .ok (.invokevirtual 135, 3) := by decide +kernel
theorem dX10_reads_44 : decode cX10_reads 44 = .ok (.iconst 1, 1) := by decide +kernel
theorem dX10_reads_45 : decode cX10_reads 45 = .ok (.istore_n 1, 1) := by decide +kernel
theorem dX10_reads_46 : decode cX10_reads 46 = .ok (.iload_n 1, 1) := by decide +kernel
theorem dX10_reads_47 : decode cX10_reads 47 = .ok (.ifCond .eq 206, 3) := by decide +kernel
theorem dX10_reads_50 : decode cX10_reads 50 = .ok (.aload_n 0, 1) := by decide +kernel
theorem dX10_reads_51 : decode cX10_reads 51 = .ok (.getfield 109, 3) := by decide +kernel
theorem dX10_reads_54 : decode cX10_reads 54 = .ok (.iconst 4, 1) := by decide +kernel
theorem dX10_reads_55 : decode cX10_reads 55 = .ok (.isub, 1) := by decide +kernel
theorem dX10_reads_56 : decode cX10_reads 56 = .ok (.istore_n 2, 1) := by decide +kernel
theorem dX10_reads_57 : decode cX10_reads 57 = .ok (.iload_n 2, 1) := by decide +kernel
theorem dX10_reads_58 : decode cX10_reads 58 = .ok (.ifCond .lt 11, 3) := by decide +kernel
theorem dX10_reads_61 : decode cX10_reads 61 = .ok (.aload_n 0, 1) := by decide +kernel
theorem dX10_reads_62 : decode cX10_reads 62 = .ok (.iload_n 2, 1) := by decide +kernel
theorem dX10_reads_63 : decode cX10_reads 63 = .ok (.invokevirtual 138, 3) := by decide +kernel
theorem dX10_reads_66 : decode cX10_reads 66 = .ok (.ifCond .ne 5, 3) := by decide +kernel
theorem dX10_reads_69 : decode cX10_reads 69 = .ok (.iconst 0, 1) := by decide +kernel
theorem dX10_reads_70 : decode cX10_reads 70 = .ok (.ireturn, 1) := by decide +kernel
theorem dX10_reads_71 : decode cX10_reads 71 = .ok (.aload_n 0, 1) := by decide +kernel
theorem dX10_reads_72 : decode cX10_reads 72 = .ok (.getfield 32, 3) := by decide +kernel
theorem dX10_reads_75 : decode cX10_reads 75 = .ok (.iconst 4, 1) := by decide +kernel
theorem dX10_reads_76 : decode cX10_reads 76 = .ok (.aload_n 0, 1) := by decide +kernel
theorem dX10_reads_77 : decode cX10_reads 77 = .ok (.getfield 132, 3) := by decide +kernel
theorem dX10_reads_80 : decode cX10_reads 80 = .ok (.imul, 1) := by decide +kernel
theorem dX10_reads_81 : decode cX10_reads 81 = .ok (.iload_n 2, 1) := by decide +kernel
theorem dX10_reads_82 : decode cX10_reads 82 = .ok (.iastore, 1) := by decide +kernel
theorem dX10_reads_83 : decode cX10_reads 83 = .ok (.aload_n 0, 1) := by decide +kernel
theorem dX10_reads_84 : decode cX10_reads 84 = .ok (.invokevirtual 135, 3) := by decide +kernel
theorem dX10_reads_87 : decode cX10_reads 87 = .ok (.iconst 0, 1) := by decide +kernel
theorem dX10_reads_88 : decode cX10_reads 88 = .ok (.istore_n 3, 1) := by decide +kernel
theorem dX10_reads_89 : decode cX10_reads 89 = .ok (.iload_n 3, 1) := by decide +kernel
theorem dX10_reads_90 : decode cX10_reads 90 = .ok (.iload_n 2, 1) := by decide +kernel
theorem dX10_reads_91 : decode cX10_reads 91 = .ok (.invokestatic 141, 3) := by decide +kernel
theorem dX10_reads_94 : decode cX10_reads 94 = .ok (.if_icmp .ge 90, 3) := by decide +kernel
theorem dX10_reads_97 : decode cX10_reads 97 = .ok (.iload_n 3, 1) := by decide +kernel
theorem dX10_reads_98 : decode cX10_reads 98 = .ok (.ifCond .ne 7, 3) := by decide +kernel
theorem dX10_reads_101 : decode cX10_reads 101 = .ok (.iconst 0, 1) := by decide +kernel
theorem dX10_reads_102 : decode cX10_reads 102 = .ok (.goto 16, 3) := by decide +kernel
theorem dX10_reads_105 : decode cX10_reads 105 = .ok (.aload_n 0, 1) := by decide +kernel
theorem dX10_reads_106 : decode cX10_reads 106 = .ok (.getfield 32, 3) := by decide +kernel
theorem dX10_reads_109 : decode cX10_reads 109 = .ok (.iconst 4, 1) := by decide +kernel
theorem dX10_reads_110 : decode cX10_reads 110 = .ok (.aload_n 0, 1) := by decide +kernel
theorem dX10_reads_111 : decode cX10_reads 111 = .ok (.getfield 132, 3) := by decide +kernel
theorem dX10_reads_114 : decode cX10_reads 114 = .ok (.imul, 1) := by decide +kernel
theorem dX10_reads_115 : decode cX10_reads 115 = .ok (.iload_n 3, 1) := by decide +kernel
theorem dX10_reads_116 : decode cX10_reads 116 = .ok (.iadd, 1) := by decide +kernel
theorem dX10_reads_117 : decode cX10_reads 117 = .ok (.iaload, 1) := by decide +kernel
theorem dX10_reads_118 : decode cX10_reads 118 = .ok (.istore 4, 2) := by decide +kernel
theorem dX10_reads_120 : decode cX10_reads 120 = .ok (.aload_n 0, 1) := by decide +kernel
theorem dX10_reads_121 : decode cX10_reads 121 = .ok (.getfield 109, 3) := by decide +kernel
theorem dX10_reads_124 : decode cX10_reads 124 = .ok (.iconst 2, 1) := by decide +kernel
theorem dX10_reads_125 : decode cX10_reads 125 = .ok (.if_icmp .ne 28, 3) := by decide +kernel
theorem dX10_reads_128 : decode cX10_reads 128 = .ok (.aload_n 0, 1) := by decide +kernel
theorem dX10_reads_129 : decode cX10_reads 129 = .ok (.getfield 120, 3) := by decide +kernel
theorem dX10_reads_132 : decode cX10_reads 132 = .ok (.i2l, 1) := by decide +kernel
theorem dX10_reads_133 : decode cX10_reads 133 = .ok (.iload_n 2, 1) := by decide +kernel
theorem dX10_reads_134 : decode cX10_reads 134 = .ok (.iload_n 3, 1) := by decide +kernel
theorem dX10_reads_135 : decode cX10_reads 135 = .ok (.invokestatic 145, 3) := by decide +kernel
theorem dX10_reads_138 : decode cX10_reads 138 = .ok (.i2l, 1) := by decide +kernel
theorem dX10_reads_139 : decode cX10_reads 139 = .ok (.iload_n 2, 1) := by decide +kernel
theorem dX10_reads_140 : decode cX10_reads 140 = .ok (.iload_n 3, 1) := by decide +kernel
theorem dX10_reads_141 : decode cX10_reads 141 = .ok (.iload 4, 2) := by decide +kernel
theorem dX10_reads_143 : decode cX10_reads 143 = .ok (.invokestatic 149, 3) := by decide +kernel
theorem dX10_reads_146 : decode cX10_reads 146 = .ok (.i2l, 1) := by decide +kernel
theorem dX10_reads_147 : decode cX10_reads 147 = .ok (.invokestatic 54, 3) := by decide +kernel
theorem dX10_reads_150 : decode cX10_reads 150 = .ok (.ifCond .ne 5, 3) := by decide +kernel
theorem dX10_reads_153 : decode cX10_reads 153 = .ok (.iconst 0, 1) := by decide +kernel
theorem dX10_reads_154 : decode cX10_reads 154 = .ok (.ireturn, 1) := by decide +kernel
theorem dX10_reads_155 : decode cX10_reads 155 = .ok (.aload_n 0, 1) := by decide +kernel
theorem dX10_reads_156 : decode cX10_reads 156 = .ok (.getfield 32, 3) := by decide +kernel
theorem dX10_reads_159 : decode cX10_reads 159 = .ok (.iconst 4, 1) := by decide +kernel
theorem dX10_reads_160 : decode cX10_reads 160 = .ok (.aload_n 0, 1) := by decide +kernel
theorem dX10_reads_161 : decode cX10_reads 161 = .ok (.getfield 132, 3) := by decide +kernel
theorem dX10_reads_164 : decode cX10_reads 164 = .ok (.imul, 1) := by decide +kernel
theorem dX10_reads_165 : decode cX10_reads 165 = .ok (.iconst 1, 1) := by decide +kernel
theorem dX10_reads_166 : decode cX10_reads 166 = .ok (.iadd, 1) := by decide +kernel
theorem dX10_reads_167 : decode cX10_reads 167 = .ok (.iload_n 3, 1) := by decide +kernel
theorem dX10_reads_168 : decode cX10_reads 168 = .ok (.iadd, 1) := by decide +kernel
theorem dX10_reads_169 : decode cX10_reads 169 = .ok (.aload_n 0, 1) := by decide +kernel
theorem dX10_reads_170 : decode cX10_reads 170 = .ok (.getfield 120, 3) := by decide +kernel
theorem dX10_reads_173 : decode cX10_reads 173 = .ok (.iastore, 1) := by decide +kernel
theorem dX10_reads_174 : decode cX10_reads 174 = .ok (.aload_n 0, 1) := by decide +kernel
theorem dX10_reads_175 : decode cX10_reads 175 = .ok (.invokevirtual 135, 3) := by decide +kernel
theorem dX10_reads_178 : decode cX10_reads 178 = .ok (.iinc 3 1, 3) := by decide +kernel
theorem dX10_reads_181 : decode cX10_reads 181 = .ok (.goto (-92), 3) := by decide +kernel
theorem dX10_reads_184 : decode cX10_reads 184 = .ok (.aload_n 0, 1) := by decide +kernel
theorem dX10_reads_185 : decode cX10_reads 185 = .ok (.dup, 1) := by decide +kernel
theorem dX10_reads_186 : decode cX10_reads 186 = .ok (.getfield 132, 3) := by decide +kernel
theorem dX10_reads_189 : decode cX10_reads 189 = .ok (.iconst 1, 1) := by decide +kernel
theorem dX10_reads_190 : decode cX10_reads 190 = .ok (.iadd, 1) := by decide +kernel
theorem dX10_reads_191 : decode cX10_reads 191 = .ok (.putfield 132, 3) := by decide +kernel
theorem dX10_reads_194 : decode cX10_reads 194 = .ok (.aload_n 0, 1) := by decide +kernel
theorem dX10_reads_195 : decode cX10_reads 195 = .ok (.getfield 109, 3) := by decide +kernel
theorem dX10_reads_198 : decode cX10_reads 198 = .ok (.iconst 3, 1) := by decide +kernel
theorem dX10_reads_199 : decode cX10_reads 199 = .ok (.if_icmp .eq 10, 3) := by decide +kernel
theorem dX10_reads_202 : decode cX10_reads 202 = .ok (.aload_n 0, 1) := by decide +kernel
theorem dX10_reads_203 : decode cX10_reads 203 = .ok (.getfield 109, 3) := by decide +kernel
theorem dX10_reads_206 : decode cX10_reads 206 = .ok (.ifCond .ne 20, 3) := by decide +kernel
theorem dX10_reads_209 : decode cX10_reads 209 = .ok (.aload_n 0, 1) := by decide +kernel
theorem dX10_reads_210 : decode cX10_reads 210 = .ok (.getfield 109, 3) := by decide +kernel
theorem dX10_reads_213 : decode cX10_reads 213 = .ok (.iconst 3, 1) := by decide +kernel
theorem dX10_reads_214 : decode cX10_reads 214 = .ok (.if_icmp .ne 14, 3) := by decide +kernel
theorem dX10_reads_217 : decode cX10_reads 217 = .ok (.aload_n 0, 1) := by decide +kernel
theorem dX10_reads_218 : decode cX10_reads 218 = .ok (.getfield 132, 3) := by decide +kernel
theorem dX10_reads_221 : decode cX10_reads 221 = .ok (.bipush 14, 2) := by decide +kernel
theorem dX10_reads_223 : decode cX10_reads 223 = .ok (.if_icmp .ne 5, 3) := by decide +kernel
theorem dX10_reads_226 : decode cX10_reads 226 = .ok (.iconst 0, 1) := by decide +kernel
theorem dX10_reads_227 : decode cX10_reads 227 = .ok (.ireturn, 1) := by decide +kernel
theorem dX10_reads_228 : decode cX10_reads 228 = .ok (.aload_n 0, 1) := by decide +kernel
theorem dX10_reads_229 : decode cX10_reads 229 = .ok (.getfield 109, 3) := by decide +kernel
theorem dX10_reads_232 : decode cX10_reads 232 = .ok (.iconst 3, 1) := by decide +kernel
theorem dX10_reads_233 : decode cX10_reads 233 = .ok (.if_icmp .ne 7, 3) := by decide +kernel
theorem dX10_reads_236 : decode cX10_reads 236 = .ok (.iconst 1, 1) := by decide +kernel
theorem dX10_reads_237 : decode cX10_reads 237 = .ok (.goto 4, 3) := by decide +kernel
theorem dX10_reads_240 : decode cX10_reads 240 = .ok (.iconst 0, 1) := by decide +kernel
theorem dX10_reads_241 : decode cX10_reads 241 = .ok (.istore_n 1, 1) := by decide +kernel
theorem dX10_reads_242 : decode cX10_reads 242 = .ok (.iload_n 1, 1) := by decide +kernel
theorem dX10_reads_243 : decode cX10_reads 243 = .ok (.ifCond .eq 7, 3) := by decide +kernel
theorem dX10_reads_246 : decode cX10_reads 246 = .ok (.aload_n 0, 1) := by decide +kernel
theorem dX10_reads_247 : decode cX10_reads 247 = .ok (.invokevirtual 135, 3) := by decide +kernel
theorem dX10_reads_250 : decode cX10_reads 250 = .ok (.goto (-204), 3) := by decide +kernel
theorem dX10_reads_253 : decode cX10_reads 253 = .ok (.iconst 1, 1) := by decide +kernel
theorem dX10_reads_254 : decode cX10_reads 254 = .ok (.ireturn, 1) := by decide +kernel
theorem dX10_fault_0 : decode cX10_fault 0 = .ok (.aload_n 0, 1) := by decide +kernel
theorem dX10_fault_1 : decode cX10_fault 1 = .ok (.invokevirtual 153, 3) := by decide +kernel
theorem dX10_fault_4 : decode cX10_fault 4 = .ok (.ifCond .eq 7, 3) := by decide +kernel
theorem dX10_fault_7 : decode cX10_fault 7 = .ok (.iconst (-1), 1) := by decide +kernel
theorem dX10_fault_8 : decode cX10_fault 8 = .ok (.goto 7, 3) := by decide +kernel
theorem dX10_fault_11 : decode cX10_fault 11 = .ok (.aload_n 0, 1) := by decide +kernel
theorem dX10_fault_12 : decode cX10_fault 12 = .ok (.getfield 106, 3) := by decide +kernel
theorem dX10_fault_15 : decode cX10_fault 15 = .ok (.ireturn, 1) := by decide +kernel
theorem dX10_does_0 : decode cX10_does 0 = .ok (.aload_n 0, 1) := by decide +kernel
theorem dX10_does_1 : decode cX10_does 1 = .ok (.getfield 32, 3) := by decide +kernel
theorem dX10_does_4 : decode cX10_does 4 = .ok (.iconst 4, 1) := by decide +kernel
theorem dX10_does_5 : decode cX10_does 5 = .ok (.iload_n 1, 1) := by decide +kernel
theorem dX10_does_6 : decode cX10_does 6 = .ok (.imul, 1) := by decide +kernel
theorem dX10_does_7 : decode cX10_does 7 = .ok (.iaload, 1) := by decide +kernel
theorem dX10_does_8 : decode cX10_does 8 = .ok (.istore_n 2, 1) := by decide +kernel
theorem dX10_does_9 : decode cX10_does 9 = .ok (.aload_n 0, 1) := by decide +kernel
theorem dX10_does_10 : decode cX10_does 10 = .ok (.getfield 32, 3) := by decide +kernel
theorem dX10_does_13 : decode cX10_does 13 = .ok (.iconst 4, 1) := by decide +kernel
theorem dX10_does_14 : decode cX10_does 14 = .ok (.iload_n 1, 1) := by decide +kernel
theorem dX10_does_15 : decode cX10_does 15 = .ok (.imul, 1) := by decide +kernel
theorem dX10_does_16 : decode cX10_does 16 = .ok (.iconst 1, 1) := by decide +kernel
theorem dX10_does_17 : decode cX10_does 17 = .ok (.iadd, 1) := by decide +kernel
theorem dX10_does_18 : decode cX10_does 18 = .ok (.iaload, 1) := by decide +kernel
theorem dX10_does_19 : decode cX10_does 19 = .ok (.istore_n 3, 1) := by decide +kernel
theorem dX10_does_20 : decode cX10_does 20 = .ok (.aload_n 0, 1) := by decide +kernel
theorem dX10_does_21 : decode cX10_does 21 = .ok (.getfield 32, 3) := by decide +kernel
theorem dX10_does_24 : decode cX10_does 24 = .ok (.iconst 4, 1) := by decide +kernel
theorem dX10_does_25 : decode cX10_does 25 = .ok (.iload_n 1, 1) := by decide +kernel
theorem dX10_does_26 : decode cX10_does 26 = .ok (.imul, 1) := by decide +kernel
theorem dX10_does_27 : decode cX10_does 27 = .ok (.iconst 2, 1) := by decide +kernel
theorem dX10_does_28 : decode cX10_does 28 = .ok (.iadd, 1) := by decide +kernel
theorem dX10_does_29 : decode cX10_does 29 = .ok (.iaload, 1) := by decide +kernel
theorem dX10_does_30 : decode cX10_does 30 = .ok (.istore 4, 2) := by decide +kernel
theorem dX10_does_32 : decode cX10_does 32 = .ok (.iload_n 2, 1) := by decide +kernel
theorem dX10_does_33 : decode cX10_does 33 = .ok (.iconst 4, 1) := by decide +kernel
theorem dX10_does_34 : decode cX10_does 34 = .ok (.if_icmp .ge 96, 3) := by decide +kernel
theorem dX10_does_37 : decode cX10_does 37 = .ok (.bipush 6, 2) := by decide +kernel
theorem dX10_does_39 : decode cX10_does 39 = .ok (.iconst 4, 1) := by decide +kernel
theorem dX10_does_40 : decode cX10_does 40 = .ok (.aload_n 0, 1) := by decide +kernel
theorem dX10_does_41 : decode cX10_does 41 = .ok (.getfield 7, 3) := by decide +kernel
theorem dX10_does_44 : decode cX10_does 44 = .ok (.iconst 0, 1) := by decide +kernel
theorem dX10_does_45 : decode cX10_does 45 = .ok (.iaload, 1) := by decide +kernel
theorem dX10_does_46 : decode cX10_does 46 = .ok (.imul, 1) := by decide +kernel
theorem dX10_does_47 : decode cX10_does 47 = .ok (.iadd, 1) := by decide +kernel
theorem dX10_does_48 : decode cX10_does 48 = .ok (.istore 5, 2) := by decide +kernel
theorem dX10_does_50 : decode cX10_does 50 = .ok (.aload_n 0, 1) := by decide +kernel
theorem dX10_does_51 : decode cX10_does 51 = .ok (.getfield 7, 3) := by decide +kernel
theorem dX10_does_54 : decode cX10_does 54 = .ok (.iload 5, 2) := by decide +kernel
theorem dX10_does_56 : decode cX10_does 56 = .ok (.iload_n 2, 1) := by decide +kernel
theorem dX10_does_57 : decode cX10_does 57 = .ok (.iastore, 1) := by decide +kernel
theorem dX10_does_58 : decode cX10_does 58 = .ok (.aload_n 0, 1) := by decide +kernel
theorem dX10_does_59 : decode cX10_does 59 = .ok (.getfield 7, 3) := by decide +kernel
theorem dX10_does_62 : decode cX10_does 62 = .ok (.iload 5, 2) := by decide +kernel
theorem dX10_does_64 : decode cX10_does 64 = .ok (.iconst 1, 1) := by decide +kernel
theorem dX10_does_65 : decode cX10_does 65 = .ok (.iadd, 1) := by decide +kernel
theorem dX10_does_66 : decode cX10_does 66 = .ok (.iload_n 3, 1) := by decide +kernel
theorem dX10_does_67 : decode cX10_does 67 = .ok (.iastore, 1) := by decide +kernel
theorem dX10_does_68 : decode cX10_does 68 = .ok (.aload_n 0, 1) := by decide +kernel
theorem dX10_does_69 : decode cX10_does 69 = .ok (.getfield 7, 3) := by decide +kernel
theorem dX10_does_72 : decode cX10_does 72 = .ok (.iload 5, 2) := by decide +kernel
theorem dX10_does_74 : decode cX10_does 74 = .ok (.iconst 2, 1) := by decide +kernel
theorem dX10_does_75 : decode cX10_does 75 = .ok (.iadd, 1) := by decide +kernel
theorem dX10_does_76 : decode cX10_does 76 = .ok (.iload_n 2, 1) := by decide +kernel
theorem dX10_does_77 : decode cX10_does 77 = .ok (.iconst 3, 1) := by decide +kernel
theorem dX10_does_78 : decode cX10_does 78 = .ok (.if_icmp .ne 7, 3) := by decide +kernel
theorem dX10_does_81 : decode cX10_does 81 = .ok (.iconst 1, 1) := by decide +kernel
theorem dX10_does_82 : decode cX10_does 82 = .ok (.goto 5, 3) := by decide +kernel
theorem dX10_does_85 : decode cX10_does 85 = .ok (.iload 4, 2) := by decide +kernel
theorem dX10_does_87 : decode cX10_does 87 = .ok (.iastore, 1) := by decide +kernel
theorem dX10_does_88 : decode cX10_does 88 = .ok (.aload_n 0, 1) := by decide +kernel
theorem dX10_does_89 : decode cX10_does 89 = .ok (.getfield 7, 3) := by decide +kernel
theorem dX10_does_92 : decode cX10_does 92 = .ok (.iload 5, 2) := by decide +kernel
theorem dX10_does_94 : decode cX10_does 94 = .ok (.iconst 3, 1) := by decide +kernel
theorem dX10_does_95 : decode cX10_does 95 = .ok (.iadd, 1) := by decide +kernel
theorem dX10_does_96 : decode cX10_does 96 = .ok (.iload_n 2, 1) := by decide +kernel
theorem dX10_does_97 : decode cX10_does 97 = .ok (.iconst 3, 1) := by decide +kernel
theorem dX10_does_98 : decode cX10_does 98 = .ok (.if_icmp .ne 8, 3) := by decide +kernel
theorem dX10_does_101 : decode cX10_does 101 = .ok (.iload 4, 2) := by decide +kernel
theorem dX10_does_103 : decode cX10_does 103 = .ok (.goto 13, 3) := by decide +kernel
theorem dX10_does_106 : decode cX10_does 106 = .ok (.aload_n 0, 1) := by decide +kernel
theorem dX10_does_107 : decode cX10_does 107 = .ok (.getfield 32, 3) := by decide +kernel
theorem dX10_does_110 : decode cX10_does 110 = .ok (.iconst 4, 1) := by decide +kernel
theorem dX10_does_111 : decode cX10_does 111 = .ok (.iload_n 1, 1) := by decide +kernel
theorem dX10_does_112 : decode cX10_does 112 = .ok (.imul, 1) := by decide +kernel
theorem dX10_does_113 : decode cX10_does 113 = .ok (.iconst 3, 1) := by decide +kernel
theorem dX10_does_114 : decode cX10_does 114 = .ok (.iadd, 1) := by decide +kernel
theorem dX10_does_115 : decode cX10_does 115 = .ok (.iaload, 1) := by decide +kernel
theorem dX10_does_116 : decode cX10_does 116 = .ok (.iastore, 1) := by decide +kernel
theorem dX10_does_117 : decode cX10_does 117 = .ok (.aload_n 0, 1) := by decide +kernel
theorem dX10_does_118 : decode cX10_does 118 = .ok (.getfield 7, 3) := by decide +kernel
theorem dX10_does_121 : decode cX10_does 121 = .ok (.iconst 0, 1) := by decide +kernel
theorem dX10_does_122 : decode cX10_does 122 = .ok (.dup2, 1) := by decide +kernel
theorem dX10_does_123 : decode cX10_does 123 = .ok (.iaload, 1) := by decide +kernel
theorem dX10_does_124 : decode cX10_does 124 = .ok (.iconst 1, 1) := by decide +kernel
theorem dX10_does_125 : decode cX10_does 125 = .ok (.iadd, 1) := by decide +kernel
theorem dX10_does_126 : decode cX10_does 126 = .ok (.iastore, 1) := by decide +kernel
theorem dX10_does_127 : decode cX10_does 127 = .ok (.goto 162, 3) := by decide +kernel
theorem dX10_does_130 : decode cX10_does 130 = .ok (.iload_n 2, 1) := by decide +kernel
theorem dX10_does_131 : decode cX10_does 131 = .ok (.iconst 4, 1) := by decide +kernel
theorem dX10_does_132 : decode cX10_does 132 = .ok (.if_icmp .ne 17, 3) := by decide +kernel
theorem dX10_does_135 : decode cX10_does 135 = .ok (.aload_n 0, 1) := by decide +kernel
theorem dX10_does_136 : decode cX10_does 136 = .ok (.getfield 7, 3) := by decide +kernel
theorem dX10_does_139 : decode cX10_does 139 = .ok (.bipush 42, 2) := by decide +kernel
theorem dX10_does_141 : decode cX10_does 141 = .ok (.iload_n 3, 1) := by decide +kernel
theorem dX10_does_142 : decode cX10_does 142 = .ok (.iadd, 1) := by decide +kernel
theorem dX10_does_143 : decode cX10_does 143 = .ok (.iload 4, 2) := by decide +kernel
theorem dX10_does_145 : decode cX10_does 145 = .ok (.iastore, 1) := by decide +kernel
theorem dX10_does_146 : decode cX10_does 146 = .ok (.goto 143, 3) := by decide +kernel
theorem dX10_does_149 : decode cX10_does 149 = .ok (.iload_n 2, 1) := by decide +kernel
theorem dX10_does_150 : decode cX10_does 150 = .ok (.iconst 5, 1) := by decide +kernel
theorem dX10_does_151 : decode cX10_does 151 = .ok (.if_icmp .ne 58, 3) := by decide +kernel
theorem dX10_does_154 : decode cX10_does 154 = .ok (.bipush 46, 2) := by decide +kernel
theorem dX10_does_156 : decode cX10_does 156 = .ok (.iconst 3, 1) := by decide +kernel
theorem dX10_does_157 : decode cX10_does 157 = .ok (.aload_n 0, 1) := by decide +kernel
theorem dX10_does_158 : decode cX10_does 158 = .ok (.getfield 7, 3) := by decide +kernel
theorem dX10_does_161 : decode cX10_does 161 = .ok (.iconst 1, 1) := by decide +kernel
theorem dX10_does_162 : decode cX10_does 162 = .ok (.iaload, 1) := by decide +kernel
theorem dX10_does_163 : decode cX10_does 163 = .ok (.imul, 1) := by decide +kernel
theorem dX10_does_164 : decode cX10_does 164 = .ok (.iadd, 1) := by decide +kernel
theorem dX10_does_165 : decode cX10_does 165 = .ok (.istore 5, 2) := by decide +kernel
theorem dX10_does_167 : decode cX10_does 167 = .ok (.aload_n 0, 1) := by decide +kernel
theorem dX10_does_168 : decode cX10_does 168 = .ok (.getfield 7, 3) := by decide +kernel
theorem dX10_does_171 : decode cX10_does 171 = .ok (.iload 5, 2) := by decide +kernel
theorem dX10_does_173 : decode cX10_does 173 = .ok (.iload_n 3, 1) := by decide +kernel
theorem dX10_does_174 : decode cX10_does 174 = .ok (.iastore, 1) := by decide +kernel
theorem dX10_does_175 : decode cX10_does 175 = .ok (.aload_n 0, 1) := by decide +kernel
theorem dX10_does_176 : decode cX10_does 176 = .ok (.getfield 7, 3) := by decide +kernel
theorem dX10_does_179 : decode cX10_does 179 = .ok (.iload 5, 2) := by decide +kernel
theorem dX10_does_181 : decode cX10_does 181 = .ok (.iconst 1, 1) := by decide +kernel
theorem dX10_does_182 : decode cX10_does 182 = .ok (.iadd, 1) := by decide +kernel
theorem dX10_does_183 : decode cX10_does 183 = .ok (.iload 4, 2) := by decide +kernel
theorem dX10_does_185 : decode cX10_does 185 = .ok (.iastore, 1) := by decide +kernel
theorem dX10_does_186 : decode cX10_does 186 = .ok (.aload_n 0, 1) := by decide +kernel
theorem dX10_does_187 : decode cX10_does 187 = .ok (.getfield 7, 3) := by decide +kernel
theorem dX10_does_190 : decode cX10_does 190 = .ok (.iload 5, 2) := by decide +kernel
theorem dX10_does_192 : decode cX10_does 192 = .ok (.iconst 2, 1) := by decide +kernel
theorem dX10_does_193 : decode cX10_does 193 = .ok (.iadd, 1) := by decide +kernel
theorem dX10_does_194 : decode cX10_does 194 = .ok (.iconst 0, 1) := by decide +kernel
theorem dX10_does_195 : decode cX10_does 195 = .ok (.iastore, 1) := by decide +kernel
theorem dX10_does_196 : decode cX10_does 196 = .ok (.aload_n 0, 1) := by decide +kernel
theorem dX10_does_197 : decode cX10_does 197 = .ok (.getfield 7, 3) := by decide +kernel
theorem dX10_does_200 : decode cX10_does 200 = .ok (.iconst 1, 1) := by decide +kernel
theorem dX10_does_201 : decode cX10_does 201 = .ok (.dup2, 1) := by decide +kernel
theorem dX10_does_202 : decode cX10_does 202 = .ok (.iaload, 1) := by decide +kernel
theorem dX10_does_203 : decode cX10_does 203 = .ok (.iconst 1, 1) := by decide +kernel
theorem dX10_does_204 : decode cX10_does 204 = .ok (.iadd, 1) := by decide +kernel
theorem dX10_does_205 : decode cX10_does 205 = .ok (.iastore, 1) := by decide +kernel
theorem dX10_does_206 : decode cX10_does 206 = .ok (.goto 83, 3) := by decide +kernel
theorem dX10_does_209 : decode cX10_does 209 = .ok (.iload_n 2, 1) := by decide +kernel
theorem dX10_does_210 : decode cX10_does 210 = .ok (.bipush 9, 2) := by decide +kernel
theorem dX10_does_212 : decode cX10_does 212 = .ok (.if_icmp .ge 34, 3) := by decide +kernel
theorem dX10_does_215 : decode cX10_does 215 = .ok (.aload_n 0, 1) := by decide +kernel
theorem dX10_does_216 : decode cX10_does 216 = .ok (.getfield 7, 3) := by decide +kernel
theorem dX10_does_219 : decode cX10_does 219 = .ok (.bipush 64, 2) := by decide +kernel
theorem dX10_does_221 : decode cX10_does 221 = .ok (.aload_n 0, 1) := by decide +kernel
theorem dX10_does_222 : decode cX10_does 222 = .ok (.getfield 7, 3) := by decide +kernel
theorem dX10_does_225 : decode cX10_does 225 = .ok (.iconst 2, 1) := by decide +kernel
theorem dX10_does_226 : decode cX10_does 226 = .ok (.iaload, 1) := by decide +kernel
theorem dX10_does_227 : decode cX10_does 227 = .ok (.iadd, 1) := by decide +kernel
theorem dX10_does_228 : decode cX10_does 228 = .ok (.iload_n 2, 1) := by decide +kernel
theorem dX10_does_229 : decode cX10_does 229 = .ok (.bipush 6, 2) := by decide +kernel
theorem dX10_does_231 : decode cX10_does 231 = .ok (.isub, 1) := by decide +kernel
theorem dX10_does_232 : decode cX10_does 232 = .ok (.iastore, 1) := by decide +kernel
theorem dX10_does_233 : decode cX10_does 233 = .ok (.aload_n 0, 1) := by decide +kernel
theorem dX10_does_234 : decode cX10_does 234 = .ok (.getfield 7, 3) := by decide +kernel
theorem dX10_does_237 : decode cX10_does 237 = .ok (.iconst 2, 1) := by decide +kernel
theorem dX10_does_238 : decode cX10_does 238 = .ok (.dup2, 1) := by decide +kernel
theorem dX10_does_239 : decode cX10_does 239 = .ok (.iaload, 1) := by decide +kernel
theorem dX10_does_240 : decode cX10_does 240 = .ok (.iconst 1, 1) := by decide +kernel
theorem dX10_does_241 : decode cX10_does 241 = .ok (.iadd, 1) := by decide +kernel
theorem dX10_does_242 : decode cX10_does 242 = .ok (.iastore, 1) := by decide +kernel
theorem dX10_does_243 : decode cX10_does 243 = .ok (.goto 46, 3) := by decide +kernel
theorem dX10_does_246 : decode cX10_does 246 = .ok (.iload_n 2, 1) := by decide +kernel
theorem dX10_does_247 : decode cX10_does 247 = .ok (.bipush 12, 2) := by decide +kernel
theorem dX10_does_249 : decode cX10_does 249 = .ok (.if_icmp .ge 16, 3) := by decide +kernel
theorem dX10_does_252 : decode cX10_does 252 = .ok (.aload_n 0, 1) := by decide +kernel
theorem dX10_does_253 : decode cX10_does 253 = .ok (.getfield 7, 3) := by decide +kernel
theorem dX10_does_256 : decode cX10_does 256 = .ok (.iconst 3, 1) := by decide +kernel
theorem dX10_does_257 : decode cX10_does 257 = .ok (.iload_n 2, 1) := by decide +kernel
theorem dX10_does_258 : decode cX10_does 258 = .ok (.bipush 9, 2) := by decide +kernel
theorem dX10_does_260 : decode cX10_does 260 = .ok (.isub, 1) := by decide +kernel
theorem dX10_does_261 : decode cX10_does 261 = .ok (.iastore, 1) := by decide +kernel
theorem dX10_does_262 : decode cX10_does 262 = .ok (.goto 27, 3) := by decide +kernel
theorem dX10_does_265 : decode cX10_does 265 = .ok (.iload_n 2, 1) := by decide +kernel
theorem dX10_does_266 : decode cX10_does 266 = .ok (.bipush 12, 2) := by decide +kernel
theorem dX10_does_268 : decode cX10_does 268 = .ok (.if_icmp .ne 17, 3) := by decide +kernel
theorem dX10_does_271 : decode cX10_does 271 = .ok (.aload_n 0, 1) := by decide +kernel
theorem dX10_does_272 : decode cX10_does 272 = .ok (.getfield 7, 3) := by decide +kernel
theorem dX10_does_275 : decode cX10_does 275 = .ok (.bipush 73, 2) := by decide +kernel
theorem dX10_does_277 : decode cX10_does 277 = .ok (.iload_n 3, 1) := by decide +kernel
theorem dX10_does_278 : decode cX10_does 278 = .ok (.iadd, 1) := by decide +kernel
theorem dX10_does_279 : decode cX10_does 279 = .ok (.iload 4, 2) := by decide +kernel
theorem dX10_does_281 : decode cX10_does 281 = .ok (.iastore, 1) := by decide +kernel
theorem dX10_does_282 : decode cX10_does 282 = .ok (.goto 7, 3) := by decide +kernel
theorem dX10_does_285 : decode cX10_does 285 = .ok (.aload_n 0, 1) := by decide +kernel
theorem dX10_does_286 : decode cX10_does 286 = .ok (.invokevirtual 47, 3) := by decide +kernel
theorem dX10_does_289 : decode cX10_does 289 = .ok (.return_, 1) := by decide +kernel
theorem dX10_customs_0 : decode cX10_customs 0 = .ok (.aload_n 0, 1) := by decide +kernel
theorem dX10_customs_1 : decode cX10_customs 1 = .ok (.invokevirtual 153, 3) := by decide +kernel
theorem dX10_customs_4 : decode cX10_customs 4 = .ok (.ifCond .ne 6, 3) := by decide +kernel
theorem dX10_customs_7 : decode cX10_customs 7 = .ok (.bipush (-4), 2) := by decide +kernel
theorem dX10_customs_9 : decode cX10_customs 9 = .ok (.ireturn, 1) := by decide +kernel
theorem dX10_customs_10 : decode cX10_customs 10 = .ok (.iconst 0, 1) := by decide +kernel
theorem dX10_customs_11 : decode cX10_customs 11 = .ok (.istore_n 1, 1) := by decide +kernel
theorem dX10_customs_12 : decode cX10_customs 12 = .ok (.iload_n 1, 1) := by decide +kernel
theorem dX10_customs_13 : decode cX10_customs 13 = .ok (.aload_n 0, 1) := by decide +kernel
theorem dX10_customs_14 : decode cX10_customs 14 = .ok (.getfield 132, 3) := by decide +kernel
theorem dX10_customs_17 : decode cX10_customs 17 = .ok (.if_icmp .ge 14, 3) := by decide +kernel
theorem dX10_customs_20 : decode cX10_customs 20 = .ok (.aload_n 0, 1) := by decide +kernel
theorem dX10_customs_21 : decode cX10_customs 21 = .ok (.iload_n 1, 1) := by decide +kernel
theorem dX10_customs_22 : decode cX10_customs 22 = .ok (.invokevirtual 157, 3) := by decide +kernel
theorem dX10_customs_25 : decode cX10_customs 25 = .ok (.iinc 1 1, 3) := by decide +kernel
theorem dX10_customs_28 : decode cX10_customs 28 = .ok (.goto (-16), 3) := by decide +kernel
theorem dX10_customs_31 : decode cX10_customs 31 = .ok (.aload_n 0, 1) := by decide +kernel
theorem dX10_customs_32 : decode cX10_customs 32 = .ok (.getfield 7, 3) := by decide +kernel
theorem dX10_customs_35 : decode cX10_customs 35 = .ok (.iconst 4, 1) := by decide +kernel
theorem dX10_customs_36 : decode cX10_customs 36 = .ok (.iconst 0, 1) := by decide +kernel
theorem dX10_customs_37 : decode cX10_customs 37 = .ok (.iastore, 1) := by decide +kernel
theorem dX10_customs_38 : decode cX10_customs 38 = .ok (.aload_n 0, 1) := by decide +kernel
theorem dX10_customs_39 : decode cX10_customs 39 = .ok (.getfield 7, 3) := by decide +kernel
theorem dX10_customs_42 : decode cX10_customs 42 = .ok (.iconst 5, 1) := by decide +kernel
theorem dX10_customs_43 : decode cX10_customs 43 = .ok (.iconst 0, 1) := by decide +kernel
theorem dX10_customs_44 : decode cX10_customs 44 = .ok (.iastore, 1) := by decide +kernel
theorem dX10_customs_45 : decode cX10_customs 45 = .ok (.iconst 0, 1) := by decide +kernel
theorem dX10_customs_46 : decode cX10_customs 46 = .ok (.istore_n 1, 1) := by decide +kernel
theorem dX10_customs_47 : decode cX10_customs 47 = .ok (.iload_n 1, 1) := by decide +kernel
theorem dX10_customs_48 : decode cX10_customs 48 = .ok (.bipush 6, 2) := by decide +kernel
theorem dX10_customs_50 : decode cX10_customs 50 = .ok (.if_icmp .ge 23, 3) := by decide +kernel
theorem dX10_customs_53 : decode cX10_customs 53 = .ok (.aload_n 0, 1) := by decide +kernel
theorem dX10_customs_54 : decode cX10_customs 54 = .ok (.getfield 7, 3) := by decide +kernel
theorem dX10_customs_57 : decode cX10_customs 57 = .ok (.bipush 46, 2) := by decide +kernel
theorem dX10_customs_59 : decode cX10_customs 59 = .ok (.iconst 3, 1) := by decide +kernel
theorem dX10_customs_60 : decode cX10_customs 60 = .ok (.iload_n 1, 1) := by decide +kernel
theorem dX10_customs_61 : decode cX10_customs 61 = .ok (.imul, 1) := by decide +kernel
theorem dX10_customs_62 : decode cX10_customs 62 = .ok (.iadd, 1) := by decide +kernel
theorem dX10_customs_63 : decode cX10_customs 63 = .ok (.iconst 2, 1) := by decide +kernel
theorem dX10_customs_64 : decode cX10_customs 64 = .ok (.iadd, 1) := by decide +kernel
theorem dX10_customs_65 : decode cX10_customs 65 = .ok (.iconst 0, 1) := by decide +kernel
theorem dX10_customs_66 : decode cX10_customs 66 = .ok (.iastore, 1) := by decide +kernel
theorem dX10_customs_67 : decode cX10_customs 67 = .ok (.iinc 1 1, 3) := by decide +kernel
theorem dX10_customs_70 : decode cX10_customs 70 = .ok (.goto (-23), 3) := by decide +kernel
theorem dX10_customs_73 : decode cX10_customs 73 = .ok (.iconst 0, 1) := by decide +kernel
theorem dX10_customs_74 : decode cX10_customs 74 = .ok (.istore_n 1, 1) := by decide +kernel
theorem dX10_customs_75 : decode cX10_customs 75 = .ok (.iload_n 1, 1) := by decide +kernel
theorem dX10_customs_76 : decode cX10_customs 76 = .ok (.bipush 6, 2) := by decide +kernel
theorem dX10_customs_78 : decode cX10_customs 78 = .ok (.if_icmp .ge 19, 3) := by decide +kernel
theorem dX10_customs_81 : decode cX10_customs 81 = .ok (.aload_n 0, 1) := by decide +kernel
theorem dX10_customs_82 : decode cX10_customs 82 = .ok (.getfield 7, 3) := by decide +kernel
theorem dX10_customs_85 : decode cX10_customs 85 = .ok (.bipush 67, 2) := by decide +kernel
theorem dX10_customs_87 : decode cX10_customs 87 = .ok (.iload_n 1, 1) := by decide +kernel
theorem dX10_customs_88 : decode cX10_customs 88 = .ok (.iadd, 1) := by decide +kernel
theorem dX10_customs_89 : decode cX10_customs 89 = .ok (.iconst 0, 1) := by decide +kernel
theorem dX10_customs_90 : decode cX10_customs 90 = .ok (.iastore, 1) := by decide +kernel
theorem dX10_customs_91 : decode cX10_customs 91 = .ok (.iinc 1 1, 3) := by decide +kernel
theorem dX10_customs_94 : decode cX10_customs 94 = .ok (.goto (-19), 3) := by decide +kernel
theorem dX10_customs_97 : decode cX10_customs 97 = .ok (.aload_n 0, 1) := by decide +kernel
theorem dX10_customs_98 : decode cX10_customs 98 = .ok (.iconst 0, 1) := by decide +kernel
theorem dX10_customs_99 : decode cX10_customs 99 = .ok (.putfield 67, 3) := by decide +kernel
theorem dX10_customs_102 : decode cX10_customs 102 = .ok (.aload_n 0, 1) := by decide +kernel
theorem dX10_customs_103 : decode cX10_customs 103 = .ok (.iconst 0, 1) := by decide +kernel
theorem dX10_customs_104 : decode cX10_customs 104 = .ok (.putfield 161, 3) := by decide +kernel
theorem dX10_customs_107 : decode cX10_customs 107 = .ok (.aload_n 0, 1) := by decide +kernel
theorem dX10_customs_108 : decode cX10_customs 108 = .ok (.iconst 0, 1) := by decide +kernel
theorem dX10_customs_109 : decode cX10_customs 109 = .ok (.putfield 164, 3) := by decide +kernel
theorem dX10_customs_112 : decode cX10_customs 112 = .ok (.aload_n 0, 1) := by decide +kernel
theorem dX10_customs_113 : decode cX10_customs 113 = .ok (.iconst 0, 1) := by decide +kernel
theorem dX10_customs_114 : decode cX10_customs 114 = .ok (.putfield 167, 3) := by decide +kernel
theorem dX10_customs_117 : decode cX10_customs 117 = .ok (.aload_n 0, 1) := by decide +kernel
theorem dX10_customs_118 : decode cX10_customs 118 = .ok (.getfield 19, 3) := by decide +kernel
theorem dX10_customs_121 : decode cX10_customs 121 = .ok (.iconst 0, 1) := by decide +kernel
theorem dX10_customs_122 : decode cX10_customs 122 = .ok (.iconst 0, 1) := by decide +kernel
theorem dX10_customs_123 : decode cX10_customs 123 = .ok (.bastore, 1) := by decide +kernel
theorem dX10_customs_124 : decode cX10_customs 124 = .ok (.aload_n 0, 1) := by decide +kernel
theorem dX10_customs_125 : decode cX10_customs 125 = .ok (.getfield 19, 3) := by decide +kernel
theorem dX10_customs_128 : decode cX10_customs 128 = .ok (.iconst 1, 1) := by decide +kernel
theorem dX10_customs_129 : decode cX10_customs 129 = .ok (.iconst 0, 1) := by decide +kernel
theorem dX10_customs_130 : decode cX10_customs 130 = .ok (.bastore, 1) := by decide +kernel
theorem dX10_customs_131 : decode cX10_customs 131 = .ok (.aload_n 0, 1) := by decide +kernel
theorem dX10_customs_132 : decode cX10_customs 132 = .ok (.iconst 0, 1) := by decide +kernel
theorem dX10_customs_133 : decode cX10_customs 133 = .ok (.putfield 170, 3) := by decide +kernel
theorem dX10_customs_136 : decode cX10_customs 136 = .ok (.aload_n 0, 1) := by decide +kernel
theorem dX10_customs_137 : decode cX10_customs 137 = .ok (.getfield 132, 3) := by decide +kernel
theorem dX10_customs_140 : decode cX10_customs 140 = .ok (.ireturn, 1) := by decide +kernel
theorem dX10_word_0 : decode cX10_word 0 = .ok (.aload_n 0, 1) := by decide +kernel
theorem dX10_word_1 : decode cX10_word 1 = .ok (.iload_n 1, 1) := by decide +kernel
theorem dX10_word_2 : decode cX10_word 2 = .ok (.invokevirtual 173, 3) := by decide +kernel
theorem dX10_word_5 : decode cX10_word 5 = .ok (.ifCond .ne 8, 3) := by decide +kernel
theorem dX10_word_8 : decode cX10_word 8 = .ok (.bipush (-2), 2) := by decide +kernel
theorem dX10_word_10 : decode cX10_word 10 = .ok (.goto 33, 3) := by decide +kernel
theorem dX10_word_13 : decode cX10_word 13 = .ok (.iload_n 2, 1) := by decide +kernel
theorem dX10_word_14 : decode cX10_word 14 = .ok (.i2l, 1) := by decide +kernel
theorem dX10_word_15 : decode cX10_word 15 = .ok (.lconst 0, 1) := by decide +kernel
theorem dX10_word_16 : decode cX10_word 16 = .ok (.ldc2_w 176, 3) := by decide +kernel
theorem dX10_word_19 : decode cX10_word 19 = .ok (.invokestatic 54, 3) := by decide +kernel
theorem dX10_word_22 : decode cX10_word 22 = .ok (.ifCond .eq 19, 3) := by decide +kernel
theorem dX10_word_25 : decode cX10_word 25 = .ok (.aload_n 0, 1) := by decide +kernel
theorem dX10_word_26 : decode cX10_word 26 = .ok (.getfield 7, 3) := by decide +kernel
theorem dX10_word_29 : decode cX10_word 29 = .ok (.bipush 6, 2) := by decide +kernel
theorem dX10_word_31 : decode cX10_word 31 = .ok (.iconst 4, 1) := by decide +kernel
theorem dX10_word_32 : decode cX10_word 32 = .ok (.iload_n 1, 1) := by decide +kernel
theorem dX10_word_33 : decode cX10_word 33 = .ok (.imul, 1) := by decide +kernel
theorem dX10_word_34 : decode cX10_word 34 = .ok (.iadd, 1) := by decide +kernel
theorem dX10_word_35 : decode cX10_word 35 = .ok (.iload_n 2, 1) := by decide +kernel
theorem dX10_word_36 : decode cX10_word 36 = .ok (.iadd, 1) := by decide +kernel
theorem dX10_word_37 : decode cX10_word 37 = .ok (.iaload, 1) := by decide +kernel
theorem dX10_word_38 : decode cX10_word 38 = .ok (.goto 5, 3) := by decide +kernel
theorem dX10_word_41 : decode cX10_word 41 = .ok (.bipush (-3), 2) := by decide +kernel
theorem dX10_word_43 : decode cX10_word 43 = .ok (.ireturn, 1) := by decide +kernel
theorem dX10_ware_0 : decode cX10_ware 0 = .ok (.aload_n 0, 1) := by decide +kernel
theorem dX10_ware_1 : decode cX10_ware 1 = .ok (.iload_n 1, 1) := by decide +kernel
theorem dX10_ware_2 : decode cX10_ware 2 = .ok (.invokevirtual 58, 3) := by decide +kernel
theorem dX10_ware_5 : decode cX10_ware 5 = .ok (.ifCond .ne 8, 3) := by decide +kernel
theorem dX10_ware_8 : decode cX10_ware 8 = .ok (.bipush (-2), 2) := by decide +kernel
theorem dX10_ware_10 : decode cX10_ware 10 = .ok (.goto 33, 3) := by decide +kernel
theorem dX10_ware_13 : decode cX10_ware 13 = .ok (.iload_n 2, 1) := by decide +kernel
theorem dX10_ware_14 : decode cX10_ware 14 = .ok (.i2l, 1) := by decide +kernel
theorem dX10_ware_15 : decode cX10_ware 15 = .ok (.lconst 0, 1) := by decide +kernel
theorem dX10_ware_16 : decode cX10_ware 16 = .ok (.ldc2_w 178, 3) := by decide +kernel
theorem dX10_ware_19 : decode cX10_ware 19 = .ok (.invokestatic 54, 3) := by decide +kernel
theorem dX10_ware_22 : decode cX10_ware 22 = .ok (.ifCond .eq 19, 3) := by decide +kernel
theorem dX10_ware_25 : decode cX10_ware 25 = .ok (.aload_n 0, 1) := by decide +kernel
theorem dX10_ware_26 : decode cX10_ware 26 = .ok (.getfield 7, 3) := by decide +kernel
theorem dX10_ware_29 : decode cX10_ware 29 = .ok (.bipush 46, 2) := by decide +kernel
theorem dX10_ware_31 : decode cX10_ware 31 = .ok (.iconst 3, 1) := by decide +kernel
theorem dX10_ware_32 : decode cX10_ware 32 = .ok (.iload_n 1, 1) := by decide +kernel
theorem dX10_ware_33 : decode cX10_ware 33 = .ok (.imul, 1) := by decide +kernel
theorem dX10_ware_34 : decode cX10_ware 34 = .ok (.iadd, 1) := by decide +kernel
theorem dX10_ware_35 : decode cX10_ware 35 = .ok (.iload_n 2, 1) := by decide +kernel
theorem dX10_ware_36 : decode cX10_ware 36 = .ok (.iadd, 1) := by decide +kernel
theorem dX10_ware_37 : decode cX10_ware 37 = .ok (.iaload, 1) := by decide +kernel
theorem dX10_ware_38 : decode cX10_ware 38 = .ok (.goto 5, 3) := by decide +kernel
theorem dX10_ware_41 : decode cX10_ware 41 = .ok (.bipush (-3), 2) := by decide +kernel
theorem dX10_ware_43 : decode cX10_ware 43 = .ok (.ireturn, 1) := by decide +kernel
theorem dX10_clerk_0 : decode cX10_clerk 0 = .ok (.aload_n 0, 1) := by decide +kernel
theorem dX10_clerk_1 : decode cX10_clerk 1 = .ok (.iload_n 1, 1) := by decide +kernel
theorem dX10_clerk_2 : decode cX10_clerk 2 = .ok (.invokevirtual 62, 3) := by decide +kernel
theorem dX10_clerk_5 : decode cX10_clerk 5 = .ok (.ifCond .eq 15, 3) := by decide +kernel
theorem dX10_clerk_8 : decode cX10_clerk 8 = .ok (.aload_n 0, 1) := by decide +kernel
theorem dX10_clerk_9 : decode cX10_clerk 9 = .ok (.getfield 7, 3) := by decide +kernel
theorem dX10_clerk_12 : decode cX10_clerk 12 = .ok (.bipush 64, 2) := by decide +kernel
theorem dX10_clerk_14 : decode cX10_clerk 14 = .ok (.iload_n 1, 1) := by decide +kernel
theorem dX10_clerk_15 : decode cX10_clerk 15 = .ok (.iadd, 1) := by decide +kernel
theorem dX10_clerk_16 : decode cX10_clerk 16 = .ok (.iaload, 1) := by decide +kernel
theorem dX10_clerk_17 : decode cX10_clerk 17 = .ok (.goto 5, 3) := by decide +kernel
theorem dX10_clerk_20 : decode cX10_clerk 20 = .ok (.bipush (-2), 2) := by decide +kernel
theorem dX10_clerk_22 : decode cX10_clerk 22 = .ok (.ireturn, 1) := by decide +kernel
theorem dX10_portsOf_0 : decode cX10_portsOf 0 = .ok (.iconst 0, 1) := by decide +kernel
theorem dX10_portsOf_1 : decode cX10_portsOf 1 = .ok (.istore_n 2, 1) := by decide +kernel
theorem dX10_portsOf_2 : decode cX10_portsOf 2 = .ok (.iconst 0, 1) := by decide +kernel
theorem dX10_portsOf_3 : decode cX10_portsOf 3 = .ok (.istore_n 3, 1) := by decide +kernel
theorem dX10_portsOf_4 : decode cX10_portsOf 4 = .ok (.iload_n 3, 1) := by decide +kernel
theorem dX10_portsOf_5 : decode cX10_portsOf 5 = .ok (.iconst 4, 1) := by decide +kernel
theorem dX10_portsOf_6 : decode cX10_portsOf 6 = .ok (.if_icmp .ge 32, 3) := by decide +kernel
theorem dX10_portsOf_9 : decode cX10_portsOf 9 = .ok (.iload_n 2, 1) := by decide +kernel
theorem dX10_portsOf_10 : decode cX10_portsOf 10 = .ok (.aload_n 0, 1) := by decide +kernel
theorem dX10_portsOf_11 : decode cX10_portsOf 11 = .ok (.getfield 7, 3) := by decide +kernel
theorem dX10_portsOf_14 : decode cX10_portsOf 14 = .ok (.bipush 42, 2) := by decide +kernel
theorem dX10_portsOf_16 : decode cX10_portsOf 16 = .ok (.iload_n 3, 1) := by decide +kernel
theorem dX10_portsOf_17 : decode cX10_portsOf 17 = .ok (.iadd, 1) := by decide +kernel
theorem dX10_portsOf_18 : decode cX10_portsOf 18 = .ok (.iaload, 1) := by decide +kernel
theorem dX10_portsOf_19 : decode cX10_portsOf 19 = .ok (.iload_n 1, 1) := by decide +kernel
theorem dX10_portsOf_20 : decode cX10_portsOf 20 = .ok (.if_icmp .ne 9, 3) := by decide +kernel
theorem dX10_portsOf_23 : decode cX10_portsOf 23 = .ok (.iconst 1, 1) := by decide +kernel
theorem dX10_portsOf_24 : decode cX10_portsOf 24 = .ok (.iload_n 3, 1) := by decide +kernel
theorem dX10_portsOf_25 : decode cX10_portsOf 25 = .ok (.ishl, 1) := by decide +kernel
theorem dX10_portsOf_26 : decode cX10_portsOf 26 = .ok (.goto 4, 3) := by decide +kernel
theorem dX10_portsOf_29 : decode cX10_portsOf 29 = .ok (.iconst 0, 1) := by decide +kernel
theorem dX10_portsOf_30 : decode cX10_portsOf 30 = .ok (.ior, 1) := by decide +kernel
theorem dX10_portsOf_31 : decode cX10_portsOf 31 = .ok (.istore_n 2, 1) := by decide +kernel
theorem dX10_portsOf_32 : decode cX10_portsOf 32 = .ok (.iinc 3 1, 3) := by decide +kernel
theorem dX10_portsOf_35 : decode cX10_portsOf 35 = .ok (.goto (-31), 3) := by decide +kernel
theorem dX10_portsOf_38 : decode cX10_portsOf 38 = .ok (.iload_n 2, 1) := by decide +kernel
theorem dX10_portsOf_39 : decode cX10_portsOf 39 = .ok (.ireturn, 1) := by decide +kernel
theorem dX10_rhyme_0 : decode cX10_rhyme 0 = .ok (.iload_n 1, 1) := by decide +kernel
theorem dX10_rhyme_1 : decode cX10_rhyme 1 = .ok (.i2l, 1) := by decide +kernel
theorem dX10_rhyme_2 : decode cX10_rhyme 2 = .ok (.lconst 0, 1) := by decide +kernel
theorem dX10_rhyme_3 : decode cX10_rhyme 3 = .ok (.ldc2_w 180, 3) := by decide +kernel
theorem dX10_rhyme_6 : decode cX10_rhyme 6 = .ok (.invokestatic 54, 3) := by decide +kernel
theorem dX10_rhyme_9 : decode cX10_rhyme 9 = .ok (.ifCond .ne 6, 3) := by decide +kernel
theorem dX10_rhyme_12 : decode cX10_rhyme 12 = .ok (.bipush (-2), 2) := by decide +kernel
theorem dX10_rhyme_14 : decode cX10_rhyme 14 = .ok (.ireturn, 1) := by decide +kernel
theorem dX10_rhyme_15 : decode cX10_rhyme 15 = .ok (.iload_n 2, 1) := by decide +kernel
theorem dX10_rhyme_16 : decode cX10_rhyme 16 = .ok (.ifCond .ne 15, 3) := by decide +kernel
theorem dX10_rhyme_19 : decode cX10_rhyme 19 = .ok (.aload_n 0, 1) := by decide +kernel
theorem dX10_rhyme_20 : decode cX10_rhyme 20 = .ok (.getfield 7, 3) := by decide +kernel
theorem dX10_rhyme_23 : decode cX10_rhyme 23 = .ok (.bipush 67, 2) := by decide +kernel
theorem dX10_rhyme_25 : decode cX10_rhyme 25 = .ok (.iload_n 1, 1) := by decide +kernel
theorem dX10_rhyme_26 : decode cX10_rhyme 26 = .ok (.iadd, 1) := by decide +kernel
theorem dX10_rhyme_27 : decode cX10_rhyme 27 = .ok (.iaload, 1) := by decide +kernel
theorem dX10_rhyme_28 : decode cX10_rhyme 28 = .ok (.goto 12, 3) := by decide +kernel
theorem dX10_rhyme_31 : decode cX10_rhyme 31 = .ok (.aload_n 0, 1) := by decide +kernel
theorem dX10_rhyme_32 : decode cX10_rhyme 32 = .ok (.getfield 7, 3) := by decide +kernel
theorem dX10_rhyme_35 : decode cX10_rhyme 35 = .ok (.bipush 73, 2) := by decide +kernel
theorem dX10_rhyme_37 : decode cX10_rhyme 37 = .ok (.iload_n 1, 1) := by decide +kernel
theorem dX10_rhyme_38 : decode cX10_rhyme 38 = .ok (.iadd, 1) := by decide +kernel
theorem dX10_rhyme_39 : decode cX10_rhyme 39 = .ok (.iaload, 1) := by decide +kernel
theorem dX10_rhyme_40 : decode cX10_rhyme 40 = .ok (.istore_n 3, 1) := by decide +kernel
theorem dX10_rhyme_41 : decode cX10_rhyme 41 = .ok (.iload_n 2, 1) := by decide +kernel
theorem dX10_rhyme_42 : decode cX10_rhyme 42 = .ok (.i2l, 1) := by decide +kernel
theorem dX10_rhyme_43 : decode cX10_rhyme 43 = .ok (.lconst 0, 1) := by decide +kernel
theorem dX10_rhyme_44 : decode cX10_rhyme 44 = .ok (.ldc2_w 178, 3) := by decide +kernel
theorem dX10_rhyme_47 : decode cX10_rhyme 47 = .ok (.invokestatic 54, 3) := by decide +kernel
theorem dX10_rhyme_50 : decode cX10_rhyme 50 = .ok (.ifCond .ne 8, 3) := by decide +kernel
theorem dX10_rhyme_53 : decode cX10_rhyme 53 = .ok (.bipush (-3), 2) := by decide +kernel
theorem dX10_rhyme_55 : decode cX10_rhyme 55 = .ok (.goto 17, 3) := by decide +kernel
theorem dX10_rhyme_58 : decode cX10_rhyme 58 = .ok (.iload_n 2, 1) := by decide +kernel
theorem dX10_rhyme_59 : decode cX10_rhyme 59 = .ok (.iconst 2, 1) := by decide +kernel
theorem dX10_rhyme_60 : decode cX10_rhyme 60 = .ok (.if_icmp .ne 11, 3) := by decide +kernel
theorem dX10_rhyme_63 : decode cX10_rhyme 63 = .ok (.aload_n 0, 1) := by decide +kernel
theorem dX10_rhyme_64 : decode cX10_rhyme 64 = .ok (.iload_n 1, 1) := by decide +kernel
theorem dX10_rhyme_65 : decode cX10_rhyme 65 = .ok (.invokevirtual 182, 3) := by decide +kernel
theorem dX10_rhyme_68 : decode cX10_rhyme 68 = .ok (.goto 4, 3) := by decide +kernel
theorem dX10_rhyme_71 : decode cX10_rhyme 71 = .ok (.iload_n 3, 1) := by decide +kernel
theorem dX10_rhyme_72 : decode cX10_rhyme 72 = .ok (.ireturn, 1) := by decide +kernel
theorem dX10_kindOf_0 : decode cX10_kindOf 0 = .ok (.aload_n 0, 1) := by decide +kernel
theorem dX10_kindOf_1 : decode cX10_kindOf 1 = .ok (.getfield 7, 3) := by decide +kernel
theorem dX10_kindOf_4 : decode cX10_kindOf 4 = .ok (.bipush 6, 2) := by decide +kernel
theorem dX10_kindOf_6 : decode cX10_kindOf 6 = .ok (.iconst 4, 1) := by decide +kernel
theorem dX10_kindOf_7 : decode cX10_kindOf 7 = .ok (.iload_n 1, 1) := by decide +kernel
theorem dX10_kindOf_8 : decode cX10_kindOf 8 = .ok (.imul, 1) := by decide +kernel
theorem dX10_kindOf_9 : decode cX10_kindOf 9 = .ok (.iadd, 1) := by decide +kernel
theorem dX10_kindOf_10 : decode cX10_kindOf 10 = .ok (.iaload, 1) := by decide +kernel
theorem dX10_kindOf_11 : decode cX10_kindOf 11 = .ok (.ireturn, 1) := by decide +kernel
theorem dX10_as_0 : decode cX10_as 0 = .ok (.aload_n 0, 1) := by decide +kernel
theorem dX10_as_1 : decode cX10_as 1 = .ok (.iload_n 1, 1) := by decide +kernel
theorem dX10_as_2 : decode cX10_as 2 = .ok (.invokevirtual 173, 3) := by decide +kernel
theorem dX10_as_5 : decode cX10_as 5 = .ok (.ifCond .ne 6, 3) := by decide +kernel
theorem dX10_as_8 : decode cX10_as 8 = .ok (.bipush (-2), 2) := by decide +kernel
theorem dX10_as_10 : decode cX10_as 10 = .ok (.ireturn, 1) := by decide +kernel
theorem dX10_as_11 : decode cX10_as 11 = .ok (.iload_n 2, 1) := by decide +kernel
theorem dX10_as_12 : decode cX10_as 12 = .ok (.i2l, 1) := by decide +kernel
theorem dX10_as_13 : decode cX10_as 13 = .ok (.lconst 0, 1) := by decide +kernel
theorem dX10_as_14 : decode cX10_as 14 = .ok (.ldc2_w 185, 3) := by decide +kernel
theorem dX10_as_17 : decode cX10_as 17 = .ok (.invokestatic 54, 3) := by decide +kernel
theorem dX10_as_20 : decode cX10_as 20 = .ok (.ifCond .ne 6, 3) := by decide +kernel
theorem dX10_as_23 : decode cX10_as 23 = .ok (.bipush (-3), 2) := by decide +kernel
theorem dX10_as_25 : decode cX10_as 25 = .ok (.ireturn, 1) := by decide +kernel
theorem dX10_as_26 : decode cX10_as 26 = .ok (.aload_n 0, 1) := by decide +kernel
theorem dX10_as_27 : decode cX10_as 27 = .ok (.iload_n 1, 1) := by decide +kernel
theorem dX10_as_28 : decode cX10_as 28 = .ok (.invokevirtual 187, 3) := by decide +kernel
theorem dX10_as_31 : decode cX10_as 31 = .ok (.istore_n 3, 1) := by decide +kernel
theorem dX10_as_32 : decode cX10_as 32 = .ok (.iload_n 2, 1) := by decide +kernel
theorem dX10_as_33 : decode cX10_as 33 = .ok (.iconst 1, 1) := by decide +kernel
theorem dX10_as_34 : decode cX10_as 34 = .ok (.if_icmp .ne 8, 3) := by decide +kernel
theorem dX10_as_37 : decode cX10_as 37 = .ok (.iload_n 3, 1) := by decide +kernel
theorem dX10_as_38 : decode cX10_as 38 = .ok (.iconst 2, 1) := by decide +kernel
theorem dX10_as_39 : decode cX10_as 39 = .ok (.if_icmp .lt 13, 3) := by decide +kernel
theorem dX10_as_42 : decode cX10_as 42 = .ok (.iload_n 2, 1) := by decide +kernel
theorem dX10_as_43 : decode cX10_as 43 = .ok (.iconst 2, 1) := by decide +kernel
theorem dX10_as_44 : decode cX10_as 44 = .ok (.if_icmp .ne 12, 3) := by decide +kernel
theorem dX10_as_47 : decode cX10_as 47 = .ok (.iload_n 3, 1) := by decide +kernel
theorem dX10_as_48 : decode cX10_as 48 = .ok (.iconst 1, 1) := by decide +kernel
theorem dX10_as_49 : decode cX10_as 49 = .ok (.if_icmp .ne 7, 3) := by decide +kernel
theorem dX10_as_52 : decode cX10_as 52 = .ok (.iconst 1, 1) := by decide +kernel
theorem dX10_as_53 : decode cX10_as 53 = .ok (.goto 4, 3) := by decide +kernel
theorem dX10_as_56 : decode cX10_as 56 = .ok (.iconst 0, 1) := by decide +kernel
theorem dX10_as_57 : decode cX10_as 57 = .ok (.istore 4, 2) := by decide +kernel
theorem dX10_as_59 : decode cX10_as 59 = .ok (.iload_n 2, 1) := by decide +kernel
theorem dX10_as_60 : decode cX10_as 60 = .ok (.ifCond .eq 28, 3) := by decide +kernel
theorem dX10_as_63 : decode cX10_as 63 = .ok (.iload 4, 2) := by decide +kernel
theorem dX10_as_65 : decode cX10_as 65 = .ok (.ifCond .ne 23, 3) := by decide +kernel
theorem dX10_as_68 : decode cX10_as 68 = .ok (.iload_n 2, 1) := by decide +kernel
theorem dX10_as_69 : decode cX10_as 69 = .ok (.iconst 3, 1) := by decide +kernel
theorem dX10_as_70 : decode cX10_as 70 = .ok (.if_icmp .ne 8, 3) := by decide +kernel
theorem dX10_as_73 : decode cX10_as 73 = .ok (.iload_n 3, 1) := by decide +kernel
theorem dX10_as_74 : decode cX10_as 74 = .ok (.iconst 2, 1) := by decide +kernel
theorem dX10_as_75 : decode cX10_as 75 = .ok (.if_icmp .ge 13, 3) := by decide +kernel
theorem dX10_as_78 : decode cX10_as 78 = .ok (.iload_n 2, 1) := by decide +kernel
theorem dX10_as_79 : decode cX10_as 79 = .ok (.iconst 4, 1) := by decide +kernel
theorem dX10_as_80 : decode cX10_as 80 = .ok (.if_icmp .ne 12, 3) := by decide +kernel
theorem dX10_as_83 : decode cX10_as 83 = .ok (.iload_n 3, 1) := by decide +kernel
theorem dX10_as_84 : decode cX10_as 84 = .ok (.iconst 3, 1) := by decide +kernel
theorem dX10_as_85 : decode cX10_as 85 = .ok (.if_icmp .ne 7, 3) := by decide +kernel
theorem dX10_as_88 : decode cX10_as 88 = .ok (.iconst 1, 1) := by decide +kernel
theorem dX10_as_89 : decode cX10_as 89 = .ok (.goto 4, 3) := by decide +kernel
theorem dX10_as_92 : decode cX10_as 92 = .ok (.iconst 0, 1) := by decide +kernel
theorem dX10_as_93 : decode cX10_as 93 = .ok (.istore 5, 2) := by decide +kernel
theorem dX10_as_95 : decode cX10_as 95 = .ok (.iload 5, 2) := by decide +kernel
theorem dX10_as_97 : decode cX10_as 97 = .ok (.ifCond .ne 8, 3) := by decide +kernel
theorem dX10_as_100 : decode cX10_as 100 = .ok (.bipush (-4), 2) := by decide +kernel
theorem dX10_as_102 : decode cX10_as 102 = .ok (.goto 30, 3) := by decide +kernel
theorem dX10_as_105 : decode cX10_as 105 = .ok (.iload_n 3, 1) := by decide +kernel
theorem dX10_as_106 : decode cX10_as 106 = .ok (.iconst 2, 1) := by decide +kernel
theorem dX10_as_107 : decode cX10_as 107 = .ok (.if_icmp .ne 8, 3) := by decide +kernel
theorem dX10_as_110 : decode cX10_as 110 = .ok (.bipush 15, 2) := by decide +kernel
theorem dX10_as_112 : decode cX10_as 112 = .ok (.goto 20, 3) := by decide +kernel
theorem dX10_as_115 : decode cX10_as 115 = .ok (.aload_n 0, 1) := by decide +kernel
theorem dX10_as_116 : decode cX10_as 116 = .ok (.aload_n 0, 1) := by decide +kernel
theorem dX10_as_117 : decode cX10_as 117 = .ok (.getfield 7, 3) := by decide +kernel
theorem dX10_as_120 : decode cX10_as 120 = .ok (.bipush 6, 2) := by decide +kernel
theorem dX10_as_122 : decode cX10_as 122 = .ok (.iconst 4, 1) := by decide +kernel
theorem dX10_as_123 : decode cX10_as 123 = .ok (.iload_n 1, 1) := by decide +kernel
theorem dX10_as_124 : decode cX10_as 124 = .ok (.imul, 1) := by decide +kernel
theorem dX10_as_125 : decode cX10_as 125 = .ok (.iadd, 1) := by decide +kernel
theorem dX10_as_126 : decode cX10_as 126 = .ok (.iconst 3, 1) := by decide +kernel
theorem dX10_as_127 : decode cX10_as 127 = .ok (.iadd, 1) := by decide +kernel
theorem dX10_as_128 : decode cX10_as 128 = .ok (.iaload, 1) := by decide +kernel
theorem dX10_as_129 : decode cX10_as 129 = .ok (.invokevirtual 182, 3) := by decide +kernel
theorem dX10_as_132 : decode cX10_as 132 = .ok (.ireturn, 1) := by decide +kernel
theorem dX10_clerkAs_0 : decode cX10_clerkAs 0 = .ok (.aload_n 0, 1) := by decide +kernel
theorem dX10_clerkAs_1 : decode cX10_clerkAs 1 = .ok (.iload_n 1, 1) := by decide +kernel
theorem dX10_clerkAs_2 : decode cX10_clerkAs 2 = .ok (.invokevirtual 62, 3) := by decide +kernel
theorem dX10_clerkAs_5 : decode cX10_clerkAs 5 = .ok (.ifCond .ne 6, 3) := by decide +kernel
theorem dX10_clerkAs_8 : decode cX10_clerkAs 8 = .ok (.bipush (-2), 2) := by decide +kernel
theorem dX10_clerkAs_10 : decode cX10_clerkAs 10 = .ok (.ireturn, 1) := by decide +kernel
theorem dX10_clerkAs_11 : decode cX10_clerkAs 11 = .ok (.iload_n 2, 1) := by decide +kernel
theorem dX10_clerkAs_12 : decode cX10_clerkAs 12 = .ok (.i2l, 1) := by decide +kernel
theorem dX10_clerkAs_13 : decode cX10_clerkAs 13 = .ok (.lconst 0, 1) := by decide +kernel
theorem dX10_clerkAs_14 : decode cX10_clerkAs 14 = .ok (.ldc2_w 176, 3) := by decide +kernel
theorem dX10_clerkAs_17 : decode cX10_clerkAs 17 = .ok (.invokestatic 54, 3) := by decide +kernel
theorem dX10_clerkAs_20 : decode cX10_clerkAs 20 = .ok (.ifCond .ne 6, 3) := by decide +kernel
theorem dX10_clerkAs_23 : decode cX10_clerkAs 23 = .ok (.bipush (-3), 2) := by decide +kernel
theorem dX10_clerkAs_25 : decode cX10_clerkAs 25 = .ok (.ireturn, 1) := by decide +kernel
theorem dX10_clerkAs_26 : decode cX10_clerkAs 26 = .ok (.aload_n 0, 1) := by decide +kernel
theorem dX10_clerkAs_27 : decode cX10_clerkAs 27 = .ok (.getfield 7, 3) := by decide +kernel
theorem dX10_clerkAs_30 : decode cX10_clerkAs 30 = .ok (.bipush 64, 2) := by decide +kernel
theorem dX10_clerkAs_32 : decode cX10_clerkAs 32 = .ok (.iload_n 1, 1) := by decide +kernel
theorem dX10_clerkAs_33 : decode cX10_clerkAs 33 = .ok (.iadd, 1) := by decide +kernel
theorem dX10_clerkAs_34 : decode cX10_clerkAs 34 = .ok (.iaload, 1) := by decide +kernel
theorem dX10_clerkAs_35 : decode cX10_clerkAs 35 = .ok (.istore_n 3, 1) := by decide +kernel
theorem dX10_clerkAs_36 : decode cX10_clerkAs 36 = .ok (.iload_n 2, 1) := by decide +kernel
theorem dX10_clerkAs_37 : decode cX10_clerkAs 37 = .ok (.ifCond .eq 33, 3) := by decide +kernel
theorem dX10_clerkAs_40 : decode cX10_clerkAs 40 = .ok (.iload_n 2, 1) := by decide +kernel
theorem dX10_clerkAs_41 : decode cX10_clerkAs 41 = .ok (.iconst 1, 1) := by decide +kernel
theorem dX10_clerkAs_42 : decode cX10_clerkAs 42 = .ok (.if_icmp .ne 8, 3) := by decide +kernel
theorem dX10_clerkAs_45 : decode cX10_clerkAs 45 = .ok (.iload_n 3, 1) := by decide +kernel
theorem dX10_clerkAs_46 : decode cX10_clerkAs 46 = .ok (.iconst 1, 1) := by decide +kernel
theorem dX10_clerkAs_47 : decode cX10_clerkAs 47 = .ok (.if_icmp .ne 23, 3) := by decide +kernel
theorem dX10_clerkAs_50 : decode cX10_clerkAs 50 = .ok (.iload_n 2, 1) := by decide +kernel
theorem dX10_clerkAs_51 : decode cX10_clerkAs 51 = .ok (.iconst 2, 1) := by decide +kernel
theorem dX10_clerkAs_52 : decode cX10_clerkAs 52 = .ok (.if_icmp .ne 8, 3) := by decide +kernel
theorem dX10_clerkAs_55 : decode cX10_clerkAs 55 = .ok (.iload_n 3, 1) := by decide +kernel
theorem dX10_clerkAs_56 : decode cX10_clerkAs 56 = .ok (.iconst 1, 1) := by decide +kernel
theorem dX10_clerkAs_57 : decode cX10_clerkAs 57 = .ok (.if_icmp .eq 13, 3) := by decide +kernel
theorem dX10_clerkAs_60 : decode cX10_clerkAs 60 = .ok (.iload_n 2, 1) := by decide +kernel
theorem dX10_clerkAs_61 : decode cX10_clerkAs 61 = .ok (.iconst 3, 1) := by decide +kernel
theorem dX10_clerkAs_62 : decode cX10_clerkAs 62 = .ok (.if_icmp .ne 12, 3) := by decide +kernel
theorem dX10_clerkAs_65 : decode cX10_clerkAs 65 = .ok (.iload_n 3, 1) := by decide +kernel
theorem dX10_clerkAs_66 : decode cX10_clerkAs 66 = .ok (.iconst 2, 1) := by decide +kernel
theorem dX10_clerkAs_67 : decode cX10_clerkAs 67 = .ok (.if_icmp .ne 7, 3) := by decide +kernel
theorem dX10_clerkAs_70 : decode cX10_clerkAs 70 = .ok (.iconst 1, 1) := by decide +kernel
theorem dX10_clerkAs_71 : decode cX10_clerkAs 71 = .ok (.goto 4, 3) := by decide +kernel
theorem dX10_clerkAs_74 : decode cX10_clerkAs 74 = .ok (.iconst 0, 1) := by decide +kernel
theorem dX10_clerkAs_75 : decode cX10_clerkAs 75 = .ok (.istore 4, 2) := by decide +kernel
theorem dX10_clerkAs_77 : decode cX10_clerkAs 77 = .ok (.iload 4, 2) := by decide +kernel
theorem dX10_clerkAs_79 : decode cX10_clerkAs 79 = .ok (.ifCond .eq 19, 3) := by decide +kernel
theorem dX10_clerkAs_82 : decode cX10_clerkAs 82 = .ok (.aload_n 0, 1) := by decide +kernel
theorem dX10_clerkAs_83 : decode cX10_clerkAs 83 = .ok (.iload_n 3, 1) := by decide +kernel
theorem dX10_clerkAs_84 : decode cX10_clerkAs 84 = .ok (.aload_n 0, 1) := by decide +kernel
theorem dX10_clerkAs_85 : decode cX10_clerkAs 85 = .ok (.getfield 23, 3) := by decide +kernel
theorem dX10_clerkAs_88 : decode cX10_clerkAs 88 = .ok (.aload_n 0, 1) := by decide +kernel
theorem dX10_clerkAs_89 : decode cX10_clerkAs 89 = .ok (.getfield 161, 3) := by decide +kernel
theorem dX10_clerkAs_92 : decode cX10_clerkAs 92 = .ok (.invokevirtual 190, 3) := by decide +kernel
theorem dX10_clerkAs_95 : decode cX10_clerkAs 95 = .ok (.goto 5, 3) := by decide +kernel
theorem dX10_clerkAs_98 : decode cX10_clerkAs 98 = .ok (.bipush (-4), 2) := by decide +kernel
theorem dX10_clerkAs_100 : decode cX10_clerkAs 100 = .ok (.ireturn, 1) := by decide +kernel
theorem dX10_syllables_0 : decode cX10_syllables 0 = .ok (.aload_n 0, 1) := by decide +kernel
theorem dX10_syllables_1 : decode cX10_syllables 1 = .ok (.getfield 7, 3) := by decide +kernel
theorem dX10_syllables_4 : decode cX10_syllables 4 = .ok (.bipush 6, 2) := by decide +kernel
theorem dX10_syllables_6 : decode cX10_syllables 6 = .ok (.iconst 4, 1) := by decide +kernel
theorem dX10_syllables_7 : decode cX10_syllables 7 = .ok (.iload_n 1, 1) := by decide +kernel
theorem dX10_syllables_8 : decode cX10_syllables 8 = .ok (.imul, 1) := by decide +kernel
theorem dX10_syllables_9 : decode cX10_syllables 9 = .ok (.iadd, 1) := by decide +kernel
theorem dX10_syllables_10 : decode cX10_syllables 10 = .ok (.iconst 1, 1) := by decide +kernel
theorem dX10_syllables_11 : decode cX10_syllables 11 = .ok (.iadd, 1) := by decide +kernel
theorem dX10_syllables_12 : decode cX10_syllables 12 = .ok (.iaload, 1) := by decide +kernel
theorem dX10_syllables_13 : decode cX10_syllables 13 = .ok (.ireturn, 1) := by decide +kernel
theorem dX10_toldOf_0 : decode cX10_toldOf 0 = .ok (.iconst 0, 1) := by decide +kernel
theorem dX10_toldOf_1 : decode cX10_toldOf 1 = .ok (.istore_n 3, 1) := by decide +kernel
theorem dX10_toldOf_2 : decode cX10_toldOf 2 = .ok (.iconst 0, 1) := by decide +kernel
theorem dX10_toldOf_3 : decode cX10_toldOf 3 = .ok (.istore 4, 2) := by decide +kernel
theorem dX10_toldOf_5 : decode cX10_toldOf 5 = .ok (.iload 4, 2) := by decide +kernel
theorem dX10_toldOf_7 : decode cX10_toldOf 7 = .ok (.iload_n 2, 1) := by decide +kernel
theorem dX10_toldOf_8 : decode cX10_toldOf 8 = .ok (.if_icmp .ge 20, 3) := by decide +kernel
theorem dX10_toldOf_11 : decode cX10_toldOf 11 = .ok (.iload_n 3, 1) := by decide +kernel
theorem dX10_toldOf_12 : decode cX10_toldOf 12 = .ok (.aload_n 0, 1) := by decide +kernel
theorem dX10_toldOf_13 : decode cX10_toldOf 13 = .ok (.aload_n 1, 1) := by decide +kernel
theorem dX10_toldOf_14 : decode cX10_toldOf 14 = .ok (.iload 4, 2) := by decide +kernel
theorem dX10_toldOf_16 : decode cX10_toldOf 16 = .ok (.iaload, 1) := by decide +kernel
theorem dX10_toldOf_17 : decode cX10_toldOf 17 = .ok (.invokevirtual 194, 3) := by decide +kernel
theorem dX10_toldOf_20 : decode cX10_toldOf 20 = .ok (.iadd, 1) := by decide +kernel
theorem dX10_toldOf_21 : decode cX10_toldOf 21 = .ok (.istore_n 3, 1) := by decide +kernel
theorem dX10_toldOf_22 : decode cX10_toldOf 22 = .ok (.iinc 4 1, 3) := by decide +kernel
theorem dX10_toldOf_25 : decode cX10_toldOf 25 = .ok (.goto (-20), 3) := by decide +kernel
theorem dX10_toldOf_28 : decode cX10_toldOf 28 = .ok (.iload_n 3, 1) := by decide +kernel
theorem dX10_toldOf_29 : decode cX10_toldOf 29 = .ok (.ireturn, 1) := by decide +kernel
theorem dX10_countedBy_0 : decode cX10_countedBy 0 = .ok (.aload_n 0, 1) := by decide +kernel
theorem dX10_countedBy_1 : decode cX10_countedBy 1 = .ok (.aload_n 2, 1) := by decide +kernel
theorem dX10_countedBy_2 : decode cX10_countedBy 2 = .ok (.iload_n 3, 1) := by decide +kernel
theorem dX10_countedBy_3 : decode cX10_countedBy 3 = .ok (.invokevirtual 197, 3) := by decide +kernel
theorem dX10_countedBy_6 : decode cX10_countedBy 6 = .ok (.istore 4, 2) := by decide +kernel
theorem dX10_countedBy_8 : decode cX10_countedBy 8 = .ok (.iconst 0, 1) := by decide +kernel
theorem dX10_countedBy_9 : decode cX10_countedBy 9 = .ok (.istore 5, 2) := by decide +kernel
theorem dX10_countedBy_11 : decode cX10_countedBy 11 = .ok (.iload 5, 2) := by decide +kernel
theorem dX10_countedBy_13 : decode cX10_countedBy 13 = .ok (.iconst 1, 1) := by decide +kernel
theorem dX10_countedBy_14 : decode cX10_countedBy 14 = .ok (.iadd, 1) := by decide +kernel
theorem dX10_countedBy_15 : decode cX10_countedBy 15 = .ok (.iload_n 3, 1) := by decide +kernel
theorem dX10_countedBy_16 : decode cX10_countedBy 16 = .ok (.if_icmp .ge 36, 3) := by decide +kernel
theorem dX10_countedBy_19 : decode cX10_countedBy 19 = .ok (.iload 4, 2) := by decide +kernel
theorem dX10_countedBy_21 : decode cX10_countedBy 21 = .ok (.iload_n 1, 1) := by decide +kernel
theorem dX10_countedBy_22 : decode cX10_countedBy 22 = .ok (.iconst 1, 1) := by decide +kernel
theorem dX10_countedBy_23 : decode cX10_countedBy 23 = .ok (.if_icmp .ne 19, 3) := by decide +kernel
theorem dX10_countedBy_26 : decode cX10_countedBy 26 = .ok (.aload_n 0, 1) := by decide +kernel
theorem dX10_countedBy_27 : decode cX10_countedBy 27 = .ok (.aload_n 2, 1) := by decide +kernel
theorem dX10_countedBy_28 : decode cX10_countedBy 28 = .ok (.iload 5, 2) := by decide +kernel
theorem dX10_countedBy_30 : decode cX10_countedBy 30 = .ok (.iaload, 1) := by decide +kernel
theorem dX10_countedBy_31 : decode cX10_countedBy 31 = .ok (.invokevirtual 187, 3) := by decide +kernel
theorem dX10_countedBy_34 : decode cX10_countedBy 34 = .ok (.iconst 1, 1) := by decide +kernel
theorem dX10_countedBy_35 : decode cX10_countedBy 35 = .ok (.if_icmp .ne 7, 3) := by decide +kernel
theorem dX10_countedBy_38 : decode cX10_countedBy 38 = .ok (.iconst 1, 1) := by decide +kernel
theorem dX10_countedBy_39 : decode cX10_countedBy 39 = .ok (.goto 4, 3) := by decide +kernel
theorem dX10_countedBy_42 : decode cX10_countedBy 42 = .ok (.iconst 0, 1) := by decide +kernel
theorem dX10_countedBy_43 : decode cX10_countedBy 43 = .ok (.isub, 1) := by decide +kernel
theorem dX10_countedBy_44 : decode cX10_countedBy 44 = .ok (.istore 4, 2) := by decide +kernel
theorem dX10_countedBy_46 : decode cX10_countedBy 46 = .ok (.iinc 5 1, 3) := by decide +kernel
theorem dX10_countedBy_49 : decode cX10_countedBy 49 = .ok (.goto (-38), 3) := by decide +kernel
theorem dX10_countedBy_52 : decode cX10_countedBy 52 = .ok (.iload 4, 2) := by decide +kernel
theorem dX10_countedBy_54 : decode cX10_countedBy 54 = .ok (.ireturn, 1) := by decide +kernel
theorem dX10_isScanned_0 : decode cX10_isScanned 0 = .ok (.iconst 0, 1) := by decide +kernel
theorem dX10_isScanned_1 : decode cX10_isScanned 1 = .ok (.istore_n 3, 1) := by decide +kernel
theorem dX10_isScanned_2 : decode cX10_isScanned 2 = .ok (.iconst 1, 1) := by decide +kernel
theorem dX10_isScanned_3 : decode cX10_isScanned 3 = .ok (.istore 4, 2) := by decide +kernel
theorem dX10_isScanned_5 : decode cX10_isScanned 5 = .ok (.iconst 0, 1) := by decide +kernel
theorem dX10_isScanned_6 : decode cX10_isScanned 6 = .ok (.istore 5, 2) := by decide +kernel
theorem dX10_isScanned_8 : decode cX10_isScanned 8 = .ok (.iload 5, 2) := by decide +kernel
theorem dX10_isScanned_10 : decode cX10_isScanned 10 = .ok (.iload_n 2, 1) := by decide +kernel
theorem dX10_isScanned_11 : decode cX10_isScanned 11 = .ok (.if_icmp .ge 107, 3) := by decide +kernel
theorem dX10_isScanned_14 : decode cX10_isScanned 14 = .ok (.iload_n 3, 1) := by decide +kernel
theorem dX10_isScanned_15 : decode cX10_isScanned 15 = .ok (.aload_n 0, 1) := by decide +kernel
theorem dX10_isScanned_16 : decode cX10_isScanned 16 = .ok (.getfield 7, 3) := by decide +kernel
theorem dX10_isScanned_19 : decode cX10_isScanned 19 = .ok (.bipush 6, 2) := by decide +kernel
theorem dX10_isScanned_21 : decode cX10_isScanned 21 = .ok (.iconst 4, 1) := by decide +kernel
theorem dX10_isScanned_22 : decode cX10_isScanned 22 = .ok (.aload_n 1, 1) := by decide +kernel
theorem dX10_isScanned_23 : decode cX10_isScanned 23 = .ok (.iload 5, 2) := by decide +kernel
theorem dX10_isScanned_25 : decode cX10_isScanned 25 = .ok (.iaload, 1) := by decide +kernel
theorem dX10_isScanned_26 : decode cX10_isScanned 26 = .ok (.imul, 1) := by decide +kernel
theorem dX10_isScanned_27 : decode cX10_isScanned 27 = .ok (.iadd, 1) := by decide +kernel
theorem dX10_isScanned_28 : decode cX10_isScanned 28 = .ok (.iconst 2, 1) := by decide +kernel
theorem dX10_isScanned_29 : decode cX10_isScanned 29 = .ok (.iadd, 1) := by decide +kernel
theorem dX10_isScanned_30 : decode cX10_isScanned 30 = .ok (.iaload, 1) := by decide +kernel
theorem dX10_isScanned_31 : decode cX10_isScanned 31 = .ok (.iadd, 1) := by decide +kernel
theorem dX10_isScanned_32 : decode cX10_isScanned 32 = .ok (.istore 6, 2) := by decide +kernel
theorem dX10_isScanned_34 : decode cX10_isScanned 34 = .ok (.iload 6, 2) := by decide +kernel
theorem dX10_isScanned_36 : decode cX10_isScanned 36 = .ok (.iconst 2, 1) := by decide +kernel
theorem dX10_isScanned_37 : decode cX10_isScanned 37 = .ok (.irem, 1) := by decide +kernel
theorem dX10_isScanned_38 : decode cX10_isScanned 38 = .ok (.ifCond .ne 7, 3) := by decide +kernel
theorem dX10_isScanned_41 : decode cX10_isScanned 41 = .ok (.iconst 1, 1) := by decide +kernel
theorem dX10_isScanned_42 : decode cX10_isScanned 42 = .ok (.goto 4, 3) := by decide +kernel
theorem dX10_isScanned_45 : decode cX10_isScanned 45 = .ok (.iconst 0, 1) := by decide +kernel
theorem dX10_isScanned_46 : decode cX10_isScanned 46 = .ok (.istore 7, 2) := by decide +kernel
theorem dX10_isScanned_48 : decode cX10_isScanned 48 = .ok (.iload 4, 2) := by decide +kernel
theorem dX10_isScanned_50 : decode cX10_isScanned 50 = .ok (.ifCond .eq 48, 3) := by decide +kernel
theorem dX10_isScanned_53 : decode cX10_isScanned 53 = .ok (.aload_n 0, 1) := by decide +kernel
theorem dX10_isScanned_54 : decode cX10_isScanned 54 = .ok (.getfield 7, 3) := by decide +kernel
theorem dX10_isScanned_57 : decode cX10_isScanned 57 = .ok (.iconst 3, 1) := by decide +kernel
theorem dX10_isScanned_58 : decode cX10_isScanned 58 = .ok (.iaload, 1) := by decide +kernel
theorem dX10_isScanned_59 : decode cX10_isScanned 59 = .ok (.ifCond .eq 35, 3) := by decide +kernel
theorem dX10_isScanned_62 : decode cX10_isScanned 62 = .ok (.aload_n 0, 1) := by decide +kernel
theorem dX10_isScanned_63 : decode cX10_isScanned 63 = .ok (.aload_n 1, 1) := by decide +kernel
theorem dX10_isScanned_64 : decode cX10_isScanned 64 = .ok (.iload 5, 2) := by decide +kernel
theorem dX10_isScanned_66 : decode cX10_isScanned 66 = .ok (.iaload, 1) := by decide +kernel
theorem dX10_isScanned_67 : decode cX10_isScanned 67 = .ok (.invokevirtual 187, 3) := by decide +kernel
theorem dX10_isScanned_70 : decode cX10_isScanned 70 = .ok (.iconst 3, 1) := by decide +kernel
theorem dX10_isScanned_71 : decode cX10_isScanned 71 = .ok (.if_icmp .eq 23, 3) := by decide +kernel
theorem dX10_isScanned_74 : decode cX10_isScanned 74 = .ok (.iload 7, 2) := by decide +kernel
theorem dX10_isScanned_76 : decode cX10_isScanned 76 = .ok (.aload_n 0, 1) := by decide +kernel
theorem dX10_isScanned_77 : decode cX10_isScanned 77 = .ok (.getfield 7, 3) := by decide +kernel
theorem dX10_isScanned_80 : decode cX10_isScanned 80 = .ok (.iconst 3, 1) := by decide +kernel
theorem dX10_isScanned_81 : decode cX10_isScanned 81 = .ok (.iaload, 1) := by decide +kernel
theorem dX10_isScanned_82 : decode cX10_isScanned 82 = .ok (.iconst 1, 1) := by decide +kernel
theorem dX10_isScanned_83 : decode cX10_isScanned 83 = .ok (.if_icmp .ne 7, 3) := by decide +kernel
theorem dX10_isScanned_86 : decode cX10_isScanned 86 = .ok (.iconst 1, 1) := by decide +kernel
theorem dX10_isScanned_87 : decode cX10_isScanned 87 = .ok (.goto 4, 3) := by decide +kernel
theorem dX10_isScanned_90 : decode cX10_isScanned 90 = .ok (.iconst 0, 1) := by decide +kernel
theorem dX10_isScanned_91 : decode cX10_isScanned 91 = .ok (.if_icmp .ne 7, 3) := by decide +kernel
theorem dX10_isScanned_94 : decode cX10_isScanned 94 = .ok (.iconst 1, 1) := by decide +kernel
theorem dX10_isScanned_95 : decode cX10_isScanned 95 = .ok (.goto 4, 3) := by decide +kernel
theorem dX10_isScanned_98 : decode cX10_isScanned 98 = .ok (.iconst 0, 1) := by decide +kernel
theorem dX10_isScanned_99 : decode cX10_isScanned 99 = .ok (.istore 4, 2) := by decide +kernel
theorem dX10_isScanned_101 : decode cX10_isScanned 101 = .ok (.iload_n 3, 1) := by decide +kernel
theorem dX10_isScanned_102 : decode cX10_isScanned 102 = .ok (.aload_n 0, 1) := by decide +kernel
theorem dX10_isScanned_103 : decode cX10_isScanned 103 = .ok (.aload_n 1, 1) := by decide +kernel
theorem dX10_isScanned_104 : decode cX10_isScanned 104 = .ok (.iload 5, 2) := by decide +kernel
theorem dX10_isScanned_106 : decode cX10_isScanned 106 = .ok (.iaload, 1) := by decide +kernel
theorem dX10_isScanned_107 : decode cX10_isScanned 107 = .ok (.invokevirtual 194, 3) := by decide +kernel
theorem dX10_isScanned_110 : decode cX10_isScanned 110 = .ok (.iadd, 1) := by decide +kernel
theorem dX10_isScanned_111 : decode cX10_isScanned 111 = .ok (.istore_n 3, 1) := by decide +kernel
theorem dX10_isScanned_112 : decode cX10_isScanned 112 = .ok (.iinc 5 1, 3) := by decide +kernel
theorem dX10_isScanned_115 : decode cX10_isScanned 115 = .ok (.goto (-107), 3) := by decide +kernel
theorem dX10_isScanned_118 : decode cX10_isScanned 118 = .ok (.iload 4, 2) := by decide +kernel
theorem dX10_isScanned_120 : decode cX10_isScanned 120 = .ok (.ireturn, 1) := by decide +kernel
theorem dX10_rhymes_0 : decode cX10_rhymes 0 = .ok (.aload_n 0, 1) := by decide +kernel
theorem dX10_rhymes_1 : decode cX10_rhymes 1 = .ok (.iload_n 1, 1) := by decide +kernel
theorem dX10_rhymes_2 : decode cX10_rhymes 2 = .ok (.invokevirtual 187, 3) := by decide +kernel
theorem dX10_rhymes_5 : decode cX10_rhymes 5 = .ok (.iconst 2, 1) := by decide +kernel
theorem dX10_rhymes_6 : decode cX10_rhymes 6 = .ok (.if_icmp .eq 28, 3) := by decide +kernel
theorem dX10_rhymes_9 : decode cX10_rhymes 9 = .ok (.aload_n 0, 1) := by decide +kernel
theorem dX10_rhymes_10 : decode cX10_rhymes 10 = .ok (.getfield 7, 3) := by decide +kernel
theorem dX10_rhymes_13 : decode cX10_rhymes 13 = .ok (.bipush 6, 2) := by decide +kernel
theorem dX10_rhymes_15 : decode cX10_rhymes 15 = .ok (.iconst 4, 1) := by decide +kernel
theorem dX10_rhymes_16 : decode cX10_rhymes 16 = .ok (.iload_n 1, 1) := by decide +kernel
theorem dX10_rhymes_17 : decode cX10_rhymes 17 = .ok (.imul, 1) := by decide +kernel
theorem dX10_rhymes_18 : decode cX10_rhymes 18 = .ok (.iadd, 1) := by decide +kernel
theorem dX10_rhymes_19 : decode cX10_rhymes 19 = .ok (.iconst 3, 1) := by decide +kernel
theorem dX10_rhymes_20 : decode cX10_rhymes 20 = .ok (.iadd, 1) := by decide +kernel
theorem dX10_rhymes_21 : decode cX10_rhymes 21 = .ok (.iaload, 1) := by decide +kernel
theorem dX10_rhymes_22 : decode cX10_rhymes 22 = .ok (.aload_n 0, 1) := by decide +kernel
theorem dX10_rhymes_23 : decode cX10_rhymes 23 = .ok (.getfield 7, 3) := by decide +kernel
theorem dX10_rhymes_26 : decode cX10_rhymes 26 = .ok (.bipush 42, 2) := by decide +kernel
theorem dX10_rhymes_28 : decode cX10_rhymes 28 = .ok (.iload_n 2, 1) := by decide +kernel
theorem dX10_rhymes_29 : decode cX10_rhymes 29 = .ok (.iadd, 1) := by decide +kernel
theorem dX10_rhymes_30 : decode cX10_rhymes 30 = .ok (.iaload, 1) := by decide +kernel
theorem dX10_rhymes_31 : decode cX10_rhymes 31 = .ok (.if_icmp .ne 7, 3) := by decide +kernel
theorem dX10_rhymes_34 : decode cX10_rhymes 34 = .ok (.iconst 1, 1) := by decide +kernel
theorem dX10_rhymes_35 : decode cX10_rhymes 35 = .ok (.goto 4, 3) := by decide +kernel
theorem dX10_rhymes_38 : decode cX10_rhymes 38 = .ok (.iconst 0, 1) := by decide +kernel
theorem dX10_rhymes_39 : decode cX10_rhymes 39 = .ok (.ireturn, 1) := by decide +kernel
theorem dX10_isPassed_0 : decode cX10_isPassed 0 = .ok (.iload_n 2, 1) := by decide +kernel
theorem dX10_isPassed_1 : decode cX10_isPassed 1 = .ok (.ifCond .ne 5, 3) := by decide +kernel
theorem dX10_isPassed_4 : decode cX10_isPassed 4 = .ok (.iconst 0, 1) := by decide +kernel
theorem dX10_isPassed_5 : decode cX10_isPassed 5 = .ok (.ireturn, 1) := by decide +kernel
theorem dX10_isPassed_6 : decode cX10_isPassed 6 = .ok (.aload_n 0, 1) := by decide +kernel
theorem dX10_isPassed_7 : decode cX10_isPassed 7 = .ok (.getfield 7, 3) := by decide +kernel
theorem dX10_isPassed_10 : decode cX10_isPassed 10 = .ok (.bipush 64, 2) := by decide +kernel
theorem dX10_isPassed_12 : decode cX10_isPassed 12 = .ok (.iload 4, 2) := by decide +kernel
theorem dX10_isPassed_14 : decode cX10_isPassed 14 = .ok (.iadd, 1) := by decide +kernel
theorem dX10_isPassed_15 : decode cX10_isPassed 15 = .ok (.iaload, 1) := by decide +kernel
theorem dX10_isPassed_16 : decode cX10_isPassed 16 = .ok (.istore 5, 2) := by decide +kernel
theorem dX10_isPassed_18 : decode cX10_isPassed 18 = .ok (.iload 5, 2) := by decide +kernel
theorem dX10_isPassed_20 : decode cX10_isPassed 20 = .ok (.iconst 2, 1) := by decide +kernel
theorem dX10_isPassed_21 : decode cX10_isPassed 21 = .ok (.if_icmp .eq 28, 3) := by decide +kernel
theorem dX10_isPassed_24 : decode cX10_isPassed 24 = .ok (.aload_n 0, 1) := by decide +kernel
theorem dX10_isPassed_25 : decode cX10_isPassed 25 = .ok (.aload_n 1, 1) := by decide +kernel
theorem dX10_isPassed_26 : decode cX10_isPassed 26 = .ok (.iload_n 2, 1) := by decide +kernel
theorem dX10_isPassed_27 : decode cX10_isPassed 27 = .ok (.iconst 1, 1) := by decide +kernel
theorem dX10_isPassed_28 : decode cX10_isPassed 28 = .ok (.isub, 1) := by decide +kernel
theorem dX10_isPassed_29 : decode cX10_isPassed 29 = .ok (.iaload, 1) := by decide +kernel
theorem dX10_isPassed_30 : decode cX10_isPassed 30 = .ok (.aload_n 0, 1) := by decide +kernel
theorem dX10_isPassed_31 : decode cX10_isPassed 31 = .ok (.getfield 7, 3) := by decide +kernel
theorem dX10_isPassed_34 : decode cX10_isPassed 34 = .ok (.bipush 46, 2) := by decide +kernel
theorem dX10_isPassed_36 : decode cX10_isPassed 36 = .ok (.iconst 3, 1) := by decide +kernel
theorem dX10_isPassed_37 : decode cX10_isPassed 37 = .ok (.iload_n 3, 1) := by decide +kernel
theorem dX10_isPassed_38 : decode cX10_isPassed 38 = .ok (.imul, 1) := by decide +kernel
theorem dX10_isPassed_39 : decode cX10_isPassed 39 = .ok (.iadd, 1) := by decide +kernel
theorem dX10_isPassed_40 : decode cX10_isPassed 40 = .ok (.iconst 1, 1) := by decide +kernel
theorem dX10_isPassed_41 : decode cX10_isPassed 41 = .ok (.iadd, 1) := by decide +kernel
theorem dX10_isPassed_42 : decode cX10_isPassed 42 = .ok (.iaload, 1) := by decide +kernel
theorem dX10_isPassed_43 : decode cX10_isPassed 43 = .ok (.invokevirtual 201, 3) := by decide +kernel
theorem dX10_isPassed_46 : decode cX10_isPassed 46 = .ok (.ifCond .eq 7, 3) := by decide +kernel
theorem dX10_isPassed_49 : decode cX10_isPassed 49 = .ok (.iconst 1, 1) := by decide +kernel
theorem dX10_isPassed_50 : decode cX10_isPassed 50 = .ok (.goto 4, 3) := by decide +kernel
theorem dX10_isPassed_53 : decode cX10_isPassed 53 = .ok (.iconst 0, 1) := by decide +kernel
theorem dX10_isPassed_54 : decode cX10_isPassed 54 = .ok (.istore 6, 2) := by decide +kernel
theorem dX10_isPassed_56 : decode cX10_isPassed 56 = .ok (.iload 6, 2) := by decide +kernel
theorem dX10_isPassed_58 : decode cX10_isPassed 58 = .ok (.ifCond .eq 38, 3) := by decide +kernel
theorem dX10_isPassed_61 : decode cX10_isPassed 61 = .ok (.aload_n 0, 1) := by decide +kernel
theorem dX10_isPassed_62 : decode cX10_isPassed 62 = .ok (.iload 5, 2) := by decide +kernel
theorem dX10_isPassed_64 : decode cX10_isPassed 64 = .ok (.aload_n 1, 1) := by decide +kernel
theorem dX10_isPassed_65 : decode cX10_isPassed 65 = .ok (.iload_n 2, 1) := by decide +kernel
theorem dX10_isPassed_66 : decode cX10_isPassed 66 = .ok (.invokevirtual 190, 3) := by decide +kernel
theorem dX10_isPassed_69 : decode cX10_isPassed 69 = .ok (.aload_n 0, 1) := by decide +kernel
theorem dX10_isPassed_70 : decode cX10_isPassed 70 = .ok (.getfield 7, 3) := by decide +kernel
theorem dX10_isPassed_73 : decode cX10_isPassed 73 = .ok (.bipush 46, 2) := by decide +kernel
theorem dX10_isPassed_75 : decode cX10_isPassed 75 = .ok (.iconst 3, 1) := by decide +kernel
theorem dX10_isPassed_76 : decode cX10_isPassed 76 = .ok (.iload_n 3, 1) := by decide +kernel
theorem dX10_isPassed_77 : decode cX10_isPassed 77 = .ok (.imul, 1) := by decide +kernel
theorem dX10_isPassed_78 : decode cX10_isPassed 78 = .ok (.iadd, 1) := by decide +kernel
theorem dX10_isPassed_79 : decode cX10_isPassed 79 = .ok (.iaload, 1) := by decide +kernel
theorem dX10_isPassed_80 : decode cX10_isPassed 80 = .ok (.if_icmp .ne 16, 3) := by decide +kernel
theorem dX10_isPassed_83 : decode cX10_isPassed 83 = .ok (.aload_n 0, 1) := by decide +kernel
theorem dX10_isPassed_84 : decode cX10_isPassed 84 = .ok (.aload_n 1, 1) := by decide +kernel
theorem dX10_isPassed_85 : decode cX10_isPassed 85 = .ok (.iload_n 2, 1) := by decide +kernel
theorem dX10_isPassed_86 : decode cX10_isPassed 86 = .ok (.invokevirtual 204, 3) := by decide +kernel
theorem dX10_isPassed_89 : decode cX10_isPassed 89 = .ok (.ifCond .eq 7, 3) := by decide +kernel
theorem dX10_isPassed_92 : decode cX10_isPassed 92 = .ok (.iconst 1, 1) := by decide +kernel
theorem dX10_isPassed_93 : decode cX10_isPassed 93 = .ok (.goto 4, 3) := by decide +kernel
theorem dX10_isPassed_96 : decode cX10_isPassed 96 = .ok (.iconst 0, 1) := by decide +kernel
theorem dX10_isPassed_97 : decode cX10_isPassed 97 = .ok (.ireturn, 1) := by decide +kernel
theorem dX10_isWorn_0 : decode cX10_isWorn 0 = .ok (.aload_n 0, 1) := by decide +kernel
theorem dX10_isWorn_1 : decode cX10_isWorn 1 = .ok (.getfield 7, 3) := by decide +kernel
theorem dX10_isWorn_4 : decode cX10_isWorn 4 = .ok (.bipush 6, 2) := by decide +kernel
theorem dX10_isWorn_6 : decode cX10_isWorn 6 = .ok (.iconst 4, 1) := by decide +kernel
theorem dX10_isWorn_7 : decode cX10_isWorn 7 = .ok (.iload_n 1, 1) := by decide +kernel
theorem dX10_isWorn_8 : decode cX10_isWorn 8 = .ok (.imul, 1) := by decide +kernel
theorem dX10_isWorn_9 : decode cX10_isWorn 9 = .ok (.iadd, 1) := by decide +kernel
theorem dX10_isWorn_10 : decode cX10_isWorn 10 = .ok (.iconst 3, 1) := by decide +kernel
theorem dX10_isWorn_11 : decode cX10_isWorn 11 = .ok (.iadd, 1) := by decide +kernel
theorem dX10_isWorn_12 : decode cX10_isWorn 12 = .ok (.iaload, 1) := by decide +kernel
theorem dX10_isWorn_13 : decode cX10_isWorn 13 = .ok (.istore 4, 2) := by decide +kernel
theorem dX10_isWorn_15 : decode cX10_isWorn 15 = .ok (.aload_n 0, 1) := by decide +kernel
theorem dX10_isWorn_16 : decode cX10_isWorn 16 = .ok (.iload_n 1, 1) := by decide +kernel
theorem dX10_isWorn_17 : decode cX10_isWorn 17 = .ok (.invokevirtual 187, 3) := by decide +kernel
theorem dX10_isWorn_20 : decode cX10_isWorn 20 = .ok (.iconst 2, 1) := by decide +kernel
theorem dX10_isWorn_21 : decode cX10_isWorn 21 = .ok (.if_icmp .eq 26, 3) := by decide +kernel
theorem dX10_isWorn_24 : decode cX10_isWorn 24 = .ok (.aload_n 2, 1) := by decide +kernel
theorem dX10_isWorn_25 : decode cX10_isWorn 25 = .ok (.iload_n 3, 1) := by decide +kernel
theorem dX10_isWorn_26 : decode cX10_isWorn 26 = .ok (.iload 4, 2) := by decide +kernel
theorem dX10_isWorn_28 : decode cX10_isWorn 28 = .ok (.iadd, 1) := by decide +kernel
theorem dX10_isWorn_29 : decode cX10_isWorn 29 = .ok (.iaload, 1) := by decide +kernel
theorem dX10_isWorn_30 : decode cX10_isWorn 30 = .ok (.aload_n 0, 1) := by decide +kernel
theorem dX10_isWorn_31 : decode cX10_isWorn 31 = .ok (.getfield 7, 3) := by decide +kernel
theorem dX10_isWorn_34 : decode cX10_isWorn 34 = .ok (.bipush 73, 2) := by decide +kernel
theorem dX10_isWorn_36 : decode cX10_isWorn 36 = .ok (.iload 4, 2) := by decide +kernel
theorem dX10_isWorn_38 : decode cX10_isWorn 38 = .ok (.iadd, 1) := by decide +kernel
theorem dX10_isWorn_39 : decode cX10_isWorn 39 = .ok (.iaload, 1) := by decide +kernel
theorem dX10_isWorn_40 : decode cX10_isWorn 40 = .ok (.if_icmp .lt 7, 3) := by decide +kernel
theorem dX10_isWorn_43 : decode cX10_isWorn 43 = .ok (.iconst 1, 1) := by decide +kernel
theorem dX10_isWorn_44 : decode cX10_isWorn 44 = .ok (.goto 4, 3) := by decide +kernel
theorem dX10_isWorn_47 : decode cX10_isWorn 47 = .ok (.iconst 0, 1) := by decide +kernel
theorem dX10_isWorn_48 : decode cX10_isWorn 48 = .ok (.ireturn, 1) := by decide +kernel
theorem dX10_put_0 : decode cX10_put 0 = .ok (.aload_n 0, 1) := by decide +kernel
theorem dX10_put_1 : decode cX10_put 1 = .ok (.iload_n 1, 1) := by decide +kernel
theorem dX10_put_2 : decode cX10_put 2 = .ok (.invokevirtual 173, 3) := by decide +kernel
theorem dX10_put_5 : decode cX10_put 5 = .ok (.ifCond .ne 6, 3) := by decide +kernel
theorem dX10_put_8 : decode cX10_put 8 = .ok (.bipush (-2), 2) := by decide +kernel
theorem dX10_put_10 : decode cX10_put 10 = .ok (.ireturn, 1) := by decide +kernel
theorem dX10_put_11 : decode cX10_put 11 = .ok (.aload_n 0, 1) := by decide +kernel
theorem dX10_put_12 : decode cX10_put 12 = .ok (.getfield 161, 3) := by decide +kernel
theorem dX10_put_15 : decode cX10_put 15 = .ok (.bipush 6, 2) := by decide +kernel
theorem dX10_put_17 : decode cX10_put 17 = .ok (.if_icmp .ne 6, 3) := by decide +kernel
theorem dX10_put_20 : decode cX10_put 20 = .ok (.bipush (-5), 2) := by decide +kernel
theorem dX10_put_22 : decode cX10_put 22 = .ok (.ireturn, 1) := by decide +kernel
theorem dX10_put_23 : decode cX10_put 23 = .ok (.aload_n 0, 1) := by decide +kernel
theorem dX10_put_24 : decode cX10_put 24 = .ok (.getfield 23, 3) := by decide +kernel
theorem dX10_put_27 : decode cX10_put 27 = .ok (.aload_n 0, 1) := by decide +kernel
theorem dX10_put_28 : decode cX10_put 28 = .ok (.getfield 161, 3) := by decide +kernel
theorem dX10_put_31 : decode cX10_put 31 = .ok (.iload_n 1, 1) := by decide +kernel
theorem dX10_put_32 : decode cX10_put 32 = .ok (.iastore, 1) := by decide +kernel
theorem dX10_put_33 : decode cX10_put 33 = .ok (.aload_n 0, 1) := by decide +kernel
theorem dX10_put_34 : decode cX10_put 34 = .ok (.dup, 1) := by decide +kernel
theorem dX10_put_35 : decode cX10_put 35 = .ok (.getfield 161, 3) := by decide +kernel
theorem dX10_put_38 : decode cX10_put 38 = .ok (.iconst 1, 1) := by decide +kernel
theorem dX10_put_39 : decode cX10_put 39 = .ok (.iadd, 1) := by decide +kernel
theorem dX10_put_40 : decode cX10_put 40 = .ok (.putfield 161, 3) := by decide +kernel
theorem dX10_put_43 : decode cX10_put 43 = .ok (.aload_n 0, 1) := by decide +kernel
theorem dX10_put_44 : decode cX10_put 44 = .ok (.getfield 161, 3) := by decide +kernel
theorem dX10_put_47 : decode cX10_put 47 = .ok (.ireturn, 1) := by decide +kernel
theorem dX10_wipe_0 : decode cX10_wipe 0 = .ok (.aload_n 0, 1) := by decide +kernel
theorem dX10_wipe_1 : decode cX10_wipe 1 = .ok (.getfield 161, 3) := by decide +kernel
theorem dX10_wipe_4 : decode cX10_wipe 4 = .ok (.istore_n 1, 1) := by decide +kernel
theorem dX10_wipe_5 : decode cX10_wipe 5 = .ok (.aload_n 0, 1) := by decide +kernel
theorem dX10_wipe_6 : decode cX10_wipe 6 = .ok (.iconst 0, 1) := by decide +kernel
theorem dX10_wipe_7 : decode cX10_wipe 7 = .ok (.putfield 161, 3) := by decide +kernel
theorem dX10_wipe_10 : decode cX10_wipe 10 = .ok (.iload_n 1, 1) := by decide +kernel
theorem dX10_wipe_11 : decode cX10_wipe 11 = .ok (.ireturn, 1) := by decide +kernel
theorem dX10_line_0 : decode cX10_line 0 = .ok (.iload_n 1, 1) := by decide +kernel
theorem dX10_line_1 : decode cX10_line 1 = .ok (.i2l, 1) := by decide +kernel
theorem dX10_line_2 : decode cX10_line 2 = .ok (.lconst 0, 1) := by decide +kernel
theorem dX10_line_3 : decode cX10_line 3 = .ok (.aload_n 0, 1) := by decide +kernel
theorem dX10_line_4 : decode cX10_line 4 = .ok (.getfield 161, 3) := by decide +kernel
theorem dX10_line_7 : decode cX10_line 7 = .ok (.iconst 1, 1) := by decide +kernel
theorem dX10_line_8 : decode cX10_line 8 = .ok (.isub, 1) := by decide +kernel
theorem dX10_line_9 : decode cX10_line 9 = .ok (.i2l, 1) := by decide +kernel
theorem dX10_line_10 : decode cX10_line 10 = .ok (.invokestatic 54, 3) := by decide +kernel
theorem dX10_line_13 : decode cX10_line 13 = .ok (.ifCond .eq 12, 3) := by decide +kernel
theorem dX10_line_16 : decode cX10_line 16 = .ok (.aload_n 0, 1) := by decide +kernel
theorem dX10_line_17 : decode cX10_line 17 = .ok (.getfield 23, 3) := by decide +kernel
theorem dX10_line_20 : decode cX10_line 20 = .ok (.iload_n 1, 1) := by decide +kernel
theorem dX10_line_21 : decode cX10_line 21 = .ok (.iaload, 1) := by decide +kernel
theorem dX10_line_22 : decode cX10_line 22 = .ok (.goto 5, 3) := by decide +kernel
theorem dX10_line_25 : decode cX10_line 25 = .ok (.bipush (-3), 2) := by decide +kernel
theorem dX10_line_27 : decode cX10_line 27 = .ok (.ireturn, 1) := by decide +kernel
theorem dX10_counts_0 : decode cX10_counts 0 = .ok (.aload_n 0, 1) := by decide +kernel
theorem dX10_counts_1 : decode cX10_counts 1 = .ok (.iload_n 1, 1) := by decide +kernel
theorem dX10_counts_2 : decode cX10_counts 2 = .ok (.invokevirtual 62, 3) := by decide +kernel
theorem dX10_counts_5 : decode cX10_counts 5 = .ok (.ifCond .eq 27, 3) := by decide +kernel
theorem dX10_counts_8 : decode cX10_counts 8 = .ok (.aload_n 0, 1) := by decide +kernel
theorem dX10_counts_9 : decode cX10_counts 9 = .ok (.aload_n 0, 1) := by decide +kernel
theorem dX10_counts_10 : decode cX10_counts 10 = .ok (.getfield 7, 3) := by decide +kernel
theorem dX10_counts_13 : decode cX10_counts 13 = .ok (.bipush 64, 2) := by decide +kernel
theorem dX10_counts_15 : decode cX10_counts 15 = .ok (.iload_n 1, 1) := by decide +kernel
theorem dX10_counts_16 : decode cX10_counts 16 = .ok (.iadd, 1) := by decide +kernel
theorem dX10_counts_17 : decode cX10_counts 17 = .ok (.iaload, 1) := by decide +kernel
theorem dX10_counts_18 : decode cX10_counts 18 = .ok (.aload_n 0, 1) := by decide +kernel
theorem dX10_counts_19 : decode cX10_counts 19 = .ok (.getfield 23, 3) := by decide +kernel
theorem dX10_counts_22 : decode cX10_counts 22 = .ok (.aload_n 0, 1) := by decide +kernel
theorem dX10_counts_23 : decode cX10_counts 23 = .ok (.getfield 161, 3) := by decide +kernel
theorem dX10_counts_26 : decode cX10_counts 26 = .ok (.invokevirtual 190, 3) := by decide +kernel
theorem dX10_counts_29 : decode cX10_counts 29 = .ok (.goto 5, 3) := by decide +kernel
theorem dX10_counts_32 : decode cX10_counts 32 = .ok (.bipush (-2), 2) := by decide +kernel
theorem dX10_counts_34 : decode cX10_counts 34 = .ok (.ireturn, 1) := by decide +kernel
theorem dX10_scans_0 : decode cX10_scans 0 = .ok (.aload_n 0, 1) := by decide +kernel
theorem dX10_scans_1 : decode cX10_scans 1 = .ok (.aload_n 0, 1) := by decide +kernel
theorem dX10_scans_2 : decode cX10_scans 2 = .ok (.getfield 23, 3) := by decide +kernel
theorem dX10_scans_5 : decode cX10_scans 5 = .ok (.aload_n 0, 1) := by decide +kernel
theorem dX10_scans_6 : decode cX10_scans 6 = .ok (.getfield 161, 3) := by decide +kernel
theorem dX10_scans_9 : decode cX10_scans 9 = .ok (.invokevirtual 204, 3) := by decide +kernel
theorem dX10_scans_12 : decode cX10_scans 12 = .ok (.ifCond .eq 7, 3) := by decide +kernel
theorem dX10_scans_15 : decode cX10_scans 15 = .ok (.iconst 1, 1) := by decide +kernel
theorem dX10_scans_16 : decode cX10_scans 16 = .ok (.goto 4, 3) := by decide +kernel
theorem dX10_scans_19 : decode cX10_scans 19 = .ok (.iconst 0, 1) := by decide +kernel
theorem dX10_scans_20 : decode cX10_scans 20 = .ok (.ireturn, 1) := by decide +kernel
theorem dX10_passes_0 : decode cX10_passes 0 = .ok (.aload_n 0, 1) := by decide +kernel
theorem dX10_passes_1 : decode cX10_passes 1 = .ok (.iload_n 1, 1) := by decide +kernel
theorem dX10_passes_2 : decode cX10_passes 2 = .ok (.iload_n 2, 1) := by decide +kernel
theorem dX10_passes_3 : decode cX10_passes 3 = .ok (.invokevirtual 208, 3) := by decide +kernel
theorem dX10_passes_6 : decode cX10_passes 6 = .ok (.ifCond .ne 8, 3) := by decide +kernel
theorem dX10_passes_9 : decode cX10_passes 9 = .ok (.bipush (-2), 2) := by decide +kernel
theorem dX10_passes_11 : decode cX10_passes 11 = .ok (.goto 25, 3) := by decide +kernel
theorem dX10_passes_14 : decode cX10_passes 14 = .ok (.aload_n 0, 1) := by decide +kernel
theorem dX10_passes_15 : decode cX10_passes 15 = .ok (.aload_n 0, 1) := by decide +kernel
theorem dX10_passes_16 : decode cX10_passes 16 = .ok (.getfield 23, 3) := by decide +kernel
theorem dX10_passes_19 : decode cX10_passes 19 = .ok (.aload_n 0, 1) := by decide +kernel
theorem dX10_passes_20 : decode cX10_passes 20 = .ok (.getfield 161, 3) := by decide +kernel
theorem dX10_passes_23 : decode cX10_passes 23 = .ok (.iload_n 1, 1) := by decide +kernel
theorem dX10_passes_24 : decode cX10_passes 24 = .ok (.iload_n 2, 1) := by decide +kernel
theorem dX10_passes_25 : decode cX10_passes 25 = .ok (.invokevirtual 211, 3) := by decide +kernel
theorem dX10_passes_28 : decode cX10_passes 28 = .ok (.ifCond .eq 7, 3) := by decide +kernel
theorem dX10_passes_31 : decode cX10_passes 31 = .ok (.iconst 1, 1) := by decide +kernel
theorem dX10_passes_32 : decode cX10_passes 32 = .ok (.goto 4, 3) := by decide +kernel
theorem dX10_passes_35 : decode cX10_passes 35 = .ok (.iconst 0, 1) := by decide +kernel
theorem dX10_passes_36 : decode cX10_passes 36 = .ok (.ireturn, 1) := by decide +kernel
theorem dX10_remembers_0 : decode cX10_remembers 0 = .ok (.aload_n 0, 1) := by decide +kernel
theorem dX10_remembers_1 : decode cX10_remembers 1 = .ok (.getfield 170, 3) := by decide +kernel
theorem dX10_remembers_4 : decode cX10_remembers 4 = .ok (.bipush 8, 2) := by decide +kernel
theorem dX10_remembers_6 : decode cX10_remembers 6 = .ok (.if_icmp .ne 43, 3) := by decide +kernel
theorem dX10_remembers_9 : decode cX10_remembers 9 = .ok (.iconst 0, 1) := by decide +kernel
theorem dX10_remembers_10 : decode cX10_remembers 10 = .ok (.istore_n 1, 1) := by decide +kernel
theorem dX10_remembers_11 : decode cX10_remembers 11 = .ok (.iload_n 1, 1) := by decide +kernel
theorem dX10_remembers_12 : decode cX10_remembers 12 = .ok (.sipush 686, 3) := by decide +kernel
theorem dX10_remembers_15 : decode cX10_remembers 15 = .ok (.if_icmp .ge 24, 3) := by decide +kernel
theorem dX10_remembers_18 : decode cX10_remembers 18 = .ok (.aload_n 0, 1) := by decide +kernel
theorem dX10_remembers_19 : decode cX10_remembers 19 = .ok (.getfield 13, 3) := by decide +kernel
theorem dX10_remembers_22 : decode cX10_remembers 22 = .ok (.iload_n 1, 1) := by decide +kernel
theorem dX10_remembers_23 : decode cX10_remembers 23 = .ok (.aload_n 0, 1) := by decide +kernel
theorem dX10_remembers_24 : decode cX10_remembers 24 = .ok (.getfield 13, 3) := by decide +kernel
theorem dX10_remembers_27 : decode cX10_remembers 27 = .ok (.iload_n 1, 1) := by decide +kernel
theorem dX10_remembers_28 : decode cX10_remembers 28 = .ok (.bipush 98, 2) := by decide +kernel
theorem dX10_remembers_30 : decode cX10_remembers 30 = .ok (.iadd, 1) := by decide +kernel
theorem dX10_remembers_31 : decode cX10_remembers 31 = .ok (.iaload, 1) := by decide +kernel
theorem dX10_remembers_32 : decode cX10_remembers 32 = .ok (.iastore, 1) := by decide +kernel
theorem dX10_remembers_33 : decode cX10_remembers 33 = .ok (.iinc 1 1, 3) := by decide +kernel
theorem dX10_remembers_36 : decode cX10_remembers 36 = .ok (.goto (-25), 3) := by decide +kernel
theorem dX10_remembers_39 : decode cX10_remembers 39 = .ok (.aload_n 0, 1) := by decide +kernel
theorem dX10_remembers_40 : decode cX10_remembers 40 = .ok (.dup, 1) := by decide +kernel
theorem dX10_remembers_41 : decode cX10_remembers 41 = .ok (.getfield 170, 3) := by decide +kernel
theorem dX10_remembers_44 : decode cX10_remembers 44 = .ok (.iconst 1, 1) := by decide +kernel
theorem dX10_remembers_45 : decode cX10_remembers 45 = .ok (.isub, 1) := by decide +kernel
theorem dX10_remembers_46 : decode cX10_remembers 46 = .ok (.putfield 170, 3) := by decide +kernel
theorem dX10_remembers_49 : decode cX10_remembers 49 = .ok (.iconst 0, 1) := by decide +kernel
theorem dX10_remembers_50 : decode cX10_remembers 50 = .ok (.istore_n 1, 1) := by decide +kernel
theorem dX10_remembers_51 : decode cX10_remembers 51 = .ok (.iload_n 1, 1) := by decide +kernel
theorem dX10_remembers_52 : decode cX10_remembers 52 = .ok (.bipush 98, 2) := by decide +kernel
theorem dX10_remembers_54 : decode cX10_remembers 54 = .ok (.if_icmp .ge 29, 3) := by decide +kernel
theorem dX10_remembers_57 : decode cX10_remembers 57 = .ok (.aload_n 0, 1) := by decide +kernel
theorem dX10_remembers_58 : decode cX10_remembers 58 = .ok (.getfield 13, 3) := by decide +kernel
theorem dX10_remembers_61 : decode cX10_remembers 61 = .ok (.bipush 98, 2) := by decide +kernel
theorem dX10_remembers_63 : decode cX10_remembers 63 = .ok (.aload_n 0, 1) := by decide +kernel
theorem dX10_remembers_64 : decode cX10_remembers 64 = .ok (.getfield 170, 3) := by decide +kernel
theorem dX10_remembers_67 : decode cX10_remembers 67 = .ok (.imul, 1) := by decide +kernel
theorem dX10_remembers_68 : decode cX10_remembers 68 = .ok (.iload_n 1, 1) := by decide +kernel
theorem dX10_remembers_69 : decode cX10_remembers 69 = .ok (.iadd, 1) := by decide +kernel
theorem dX10_remembers_70 : decode cX10_remembers 70 = .ok (.aload_n 0, 1) := by decide +kernel
theorem dX10_remembers_71 : decode cX10_remembers 71 = .ok (.getfield 7, 3) := by decide +kernel
theorem dX10_remembers_74 : decode cX10_remembers 74 = .ok (.iload_n 1, 1) := by decide +kernel
theorem dX10_remembers_75 : decode cX10_remembers 75 = .ok (.iaload, 1) := by decide +kernel
theorem dX10_remembers_76 : decode cX10_remembers 76 = .ok (.iastore, 1) := by decide +kernel
theorem dX10_remembers_77 : decode cX10_remembers 77 = .ok (.iinc 1 1, 3) := by decide +kernel
theorem dX10_remembers_80 : decode cX10_remembers 80 = .ok (.goto (-29), 3) := by decide +kernel
theorem dX10_remembers_83 : decode cX10_remembers 83 = .ok (.aload_n 0, 1) := by decide +kernel
theorem dX10_remembers_84 : decode cX10_remembers 84 = .ok (.dup, 1) := by decide +kernel
theorem dX10_remembers_85 : decode cX10_remembers 85 = .ok (.getfield 170, 3) := by decide +kernel
theorem dX10_remembers_88 : decode cX10_remembers 88 = .ok (.iconst 1, 1) := by decide +kernel
theorem dX10_remembers_89 : decode cX10_remembers 89 = .ok (.iadd, 1) := by decide +kernel
theorem dX10_remembers_90 : decode cX10_remembers 90 = .ok (.putfield 170, 3) := by decide +kernel
theorem dX10_remembers_93 : decode cX10_remembers 93 = .ok (.return_, 1) := by decide +kernel
theorem dX10_pays_0 : decode cX10_pays 0 = .ok (.aload_n 0, 1) := by decide +kernel
theorem dX10_pays_1 : decode cX10_pays 1 = .ok (.getfield 7, 3) := by decide +kernel
theorem dX10_pays_4 : decode cX10_pays 4 = .ok (.bipush 46, 2) := by decide +kernel
theorem dX10_pays_6 : decode cX10_pays 6 = .ok (.iconst 3, 1) := by decide +kernel
theorem dX10_pays_7 : decode cX10_pays 7 = .ok (.iload_n 1, 1) := by decide +kernel
theorem dX10_pays_8 : decode cX10_pays 8 = .ok (.imul, 1) := by decide +kernel
theorem dX10_pays_9 : decode cX10_pays 9 = .ok (.iadd, 1) := by decide +kernel
theorem dX10_pays_10 : decode cX10_pays 10 = .ok (.iconst 2, 1) := by decide +kernel
theorem dX10_pays_11 : decode cX10_pays 11 = .ok (.iadd, 1) := by decide +kernel
theorem dX10_pays_12 : decode cX10_pays 12 = .ok (.iload_n 2, 1) := by decide +kernel
theorem dX10_pays_13 : decode cX10_pays 13 = .ok (.iastore, 1) := by decide +kernel
theorem dX10_pays_14 : decode cX10_pays 14 = .ok (.aload_n 0, 1) := by decide +kernel
theorem dX10_pays_15 : decode cX10_pays 15 = .ok (.getfield 7, 3) := by decide +kernel
theorem dX10_pays_18 : decode cX10_pays 18 = .ok (.iconst 5, 1) := by decide +kernel
theorem dX10_pays_19 : decode cX10_pays 19 = .ok (.dup2, 1) := by decide +kernel
theorem dX10_pays_20 : decode cX10_pays 20 = .ok (.iaload, 1) := by decide +kernel
theorem dX10_pays_21 : decode cX10_pays 21 = .ok (.iload_n 3, 1) := by decide +kernel
theorem dX10_pays_22 : decode cX10_pays 22 = .ok (.iadd, 1) := by decide +kernel
theorem dX10_pays_23 : decode cX10_pays 23 = .ok (.iastore, 1) := by decide +kernel
theorem dX10_pays_24 : decode cX10_pays 24 = .ok (.aload_n 0, 1) := by decide +kernel
theorem dX10_pays_25 : decode cX10_pays 25 = .ok (.getfield 7, 3) := by decide +kernel
theorem dX10_pays_28 : decode cX10_pays 28 = .ok (.iconst 4, 1) := by decide +kernel
theorem dX10_pays_29 : decode cX10_pays 29 = .ok (.dup2, 1) := by decide +kernel
theorem dX10_pays_30 : decode cX10_pays 30 = .ok (.iaload, 1) := by decide +kernel
theorem dX10_pays_31 : decode cX10_pays 31 = .ok (.iconst 1, 1) := by decide +kernel
theorem dX10_pays_32 : decode cX10_pays 32 = .ok (.iadd, 1) := by decide +kernel
theorem dX10_pays_33 : decode cX10_pays 33 = .ok (.iastore, 1) := by decide +kernel
theorem dX10_pays_34 : decode cX10_pays 34 = .ok (.iload_n 3, 1) := by decide +kernel
theorem dX10_pays_35 : decode cX10_pays 35 = .ok (.ireturn, 1) := by decide +kernel
theorem dX10_declare_0 : decode cX10_declare 0 = .ok (.aload_n 0, 1) := by decide +kernel
theorem dX10_declare_1 : decode cX10_declare 1 = .ok (.iload_n 1, 1) := by decide +kernel
theorem dX10_declare_2 : decode cX10_declare 2 = .ok (.iload_n 2, 1) := by decide +kernel
theorem dX10_declare_3 : decode cX10_declare 3 = .ok (.invokevirtual 208, 3) := by decide +kernel
theorem dX10_declare_6 : decode cX10_declare 6 = .ok (.ifCond .ne 6, 3) := by decide +kernel
theorem dX10_declare_9 : decode cX10_declare 9 = .ok (.bipush (-2), 2) := by decide +kernel
theorem dX10_declare_11 : decode cX10_declare 11 = .ok (.ireturn, 1) := by decide +kernel
theorem dX10_declare_12 : decode cX10_declare 12 = .ok (.aload_n 0, 1) := by decide +kernel
theorem dX10_declare_13 : decode cX10_declare 13 = .ok (.getfield 7, 3) := by decide +kernel
theorem dX10_declare_16 : decode cX10_declare 16 = .ok (.bipush 46, 2) := by decide +kernel
theorem dX10_declare_18 : decode cX10_declare 18 = .ok (.iconst 3, 1) := by decide +kernel
theorem dX10_declare_19 : decode cX10_declare 19 = .ok (.iload_n 1, 1) := by decide +kernel
theorem dX10_declare_20 : decode cX10_declare 20 = .ok (.imul, 1) := by decide +kernel
theorem dX10_declare_21 : decode cX10_declare 21 = .ok (.iadd, 1) := by decide +kernel
theorem dX10_declare_22 : decode cX10_declare 22 = .ok (.iconst 2, 1) := by decide +kernel
theorem dX10_declare_23 : decode cX10_declare 23 = .ok (.iadd, 1) := by decide +kernel
theorem dX10_declare_24 : decode cX10_declare 24 = .ok (.iaload, 1) := by decide +kernel
theorem dX10_declare_25 : decode cX10_declare 25 = .ok (.ifCond .eq 6, 3) := by decide +kernel
theorem dX10_declare_28 : decode cX10_declare 28 = .ok (.bipush (-4), 2) := by decide +kernel
theorem dX10_declare_30 : decode cX10_declare 30 = .ok (.ireturn, 1) := by decide +kernel
theorem dX10_declare_31 : decode cX10_declare 31 = .ok (.aload_n 0, 1) := by decide +kernel
theorem dX10_declare_32 : decode cX10_declare 32 = .ok (.getfield 7, 3) := by decide +kernel
theorem dX10_declare_35 : decode cX10_declare 35 = .ok (.iconst 4, 1) := by decide +kernel
theorem dX10_declare_36 : decode cX10_declare 36 = .ok (.iaload, 1) := by decide +kernel
theorem dX10_declare_37 : decode cX10_declare 37 = .ok (.bipush 99, 2) := by decide +kernel
theorem dX10_declare_39 : decode cX10_declare 39 = .ok (.if_icmp .ne 6, 3) := by decide +kernel
theorem dX10_declare_42 : decode cX10_declare 42 = .ok (.bipush (-5), 2) := by decide +kernel
theorem dX10_declare_44 : decode cX10_declare 44 = .ok (.ireturn, 1) := by decide +kernel
theorem dX10_declare_45 : decode cX10_declare 45 = .ok (.aload_n 0, 1) := by decide +kernel
theorem dX10_declare_46 : decode cX10_declare 46 = .ok (.invokevirtual 215, 3) := by decide +kernel
theorem dX10_declare_49 : decode cX10_declare 49 = .ok (.aload_n 0, 1) := by decide +kernel
theorem dX10_declare_50 : decode cX10_declare 50 = .ok (.aload_n 0, 1) := by decide +kernel
theorem dX10_declare_51 : decode cX10_declare 51 = .ok (.getfield 23, 3) := by decide +kernel
theorem dX10_declare_54 : decode cX10_declare 54 = .ok (.aload_n 0, 1) := by decide +kernel
theorem dX10_declare_55 : decode cX10_declare 55 = .ok (.getfield 161, 3) := by decide +kernel
theorem dX10_declare_58 : decode cX10_declare 58 = .ok (.iload_n 1, 1) := by decide +kernel
theorem dX10_declare_59 : decode cX10_declare 59 = .ok (.iload_n 2, 1) := by decide +kernel
theorem dX10_declare_60 : decode cX10_declare 60 = .ok (.invokevirtual 211, 3) := by decide +kernel
theorem dX10_declare_63 : decode cX10_declare 63 = .ok (.ifCond .eq 31, 3) := by decide +kernel
theorem dX10_declare_66 : decode cX10_declare 66 = .ok (.aload_n 0, 1) := by decide +kernel
theorem dX10_declare_67 : decode cX10_declare 67 = .ok (.aload_n 0, 1) := by decide +kernel
theorem dX10_declare_68 : decode cX10_declare 68 = .ok (.getfield 23, 3) := by decide +kernel
theorem dX10_declare_71 : decode cX10_declare 71 = .ok (.aload_n 0, 1) := by decide +kernel
theorem dX10_declare_72 : decode cX10_declare 72 = .ok (.getfield 161, 3) := by decide +kernel
theorem dX10_declare_75 : decode cX10_declare 75 = .ok (.iconst 1, 1) := by decide +kernel
theorem dX10_declare_76 : decode cX10_declare 76 = .ok (.isub, 1) := by decide +kernel
theorem dX10_declare_77 : decode cX10_declare 77 = .ok (.iaload, 1) := by decide +kernel
theorem dX10_declare_78 : decode cX10_declare 78 = .ok (.aload_n 0, 1) := by decide +kernel
theorem dX10_declare_79 : decode cX10_declare 79 = .ok (.getfield 7, 3) := by decide +kernel
theorem dX10_declare_82 : decode cX10_declare 82 = .ok (.bipush 67, 2) := by decide +kernel
theorem dX10_declare_84 : decode cX10_declare 84 = .ok (.invokevirtual 218, 3) := by decide +kernel
theorem dX10_declare_87 : decode cX10_declare 87 = .ok (.ifCond .ne 7, 3) := by decide +kernel
theorem dX10_declare_90 : decode cX10_declare 90 = .ok (.iconst 1, 1) := by decide +kernel
theorem dX10_declare_91 : decode cX10_declare 91 = .ok (.goto 4, 3) := by decide +kernel
theorem dX10_declare_94 : decode cX10_declare 94 = .ok (.iconst 0, 1) := by decide +kernel
theorem dX10_declare_95 : decode cX10_declare 95 = .ok (.istore_n 3, 1) := by decide +kernel
theorem dX10_declare_96 : decode cX10_declare 96 = .ok (.iload_n 3, 1) := by decide +kernel
theorem dX10_declare_97 : decode cX10_declare 97 = .ok (.ifCond .eq 56, 3) := by decide +kernel
theorem dX10_declare_100 : decode cX10_declare 100 = .ok (.aload_n 0, 1) := by decide +kernel
theorem dX10_declare_101 : decode cX10_declare 101 = .ok (.getfield 23, 3) := by decide +kernel
theorem dX10_declare_104 : decode cX10_declare 104 = .ok (.aload_n 0, 1) := by decide +kernel
theorem dX10_declare_105 : decode cX10_declare 105 = .ok (.getfield 161, 3) := by decide +kernel
theorem dX10_declare_108 : decode cX10_declare 108 = .ok (.iconst 1, 1) := by decide +kernel
theorem dX10_declare_109 : decode cX10_declare 109 = .ok (.isub, 1) := by decide +kernel
theorem dX10_declare_110 : decode cX10_declare 110 = .ok (.iaload, 1) := by decide +kernel
theorem dX10_declare_111 : decode cX10_declare 111 = .ok (.istore 4, 2) := by decide +kernel
theorem dX10_declare_113 : decode cX10_declare 113 = .ok (.aload_n 0, 1) := by decide +kernel
theorem dX10_declare_114 : decode cX10_declare 114 = .ok (.getfield 7, 3) := by decide +kernel
theorem dX10_declare_117 : decode cX10_declare 117 = .ok (.bipush 67, 2) := by decide +kernel
theorem dX10_declare_119 : decode cX10_declare 119 = .ok (.aload_n 0, 1) := by decide +kernel
theorem dX10_declare_120 : decode cX10_declare 120 = .ok (.getfield 7, 3) := by decide +kernel
theorem dX10_declare_123 : decode cX10_declare 123 = .ok (.bipush 6, 2) := by decide +kernel
theorem dX10_declare_125 : decode cX10_declare 125 = .ok (.iconst 4, 1) := by decide +kernel
theorem dX10_declare_126 : decode cX10_declare 126 = .ok (.iload 4, 2) := by decide +kernel
theorem dX10_declare_128 : decode cX10_declare 128 = .ok (.imul, 1) := by decide +kernel
theorem dX10_declare_129 : decode cX10_declare 129 = .ok (.iadd, 1) := by decide +kernel
theorem dX10_declare_130 : decode cX10_declare 130 = .ok (.iconst 3, 1) := by decide +kernel
theorem dX10_declare_131 : decode cX10_declare 131 = .ok (.iadd, 1) := by decide +kernel
theorem dX10_declare_132 : decode cX10_declare 132 = .ok (.iaload, 1) := by decide +kernel
theorem dX10_declare_133 : decode cX10_declare 133 = .ok (.iadd, 1) := by decide +kernel
theorem dX10_declare_134 : decode cX10_declare 134 = .ok (.dup2, 1) := by decide +kernel
theorem dX10_declare_135 : decode cX10_declare 135 = .ok (.iaload, 1) := by decide +kernel
theorem dX10_declare_136 : decode cX10_declare 136 = .ok (.aload_n 0, 1) := by decide +kernel
theorem dX10_declare_137 : decode cX10_declare 137 = .ok (.iload 4, 2) := by decide +kernel
theorem dX10_declare_139 : decode cX10_declare 139 = .ok (.invokevirtual 187, 3) := by decide +kernel
theorem dX10_declare_142 : decode cX10_declare 142 = .ok (.iconst 2, 1) := by decide +kernel
theorem dX10_declare_143 : decode cX10_declare 143 = .ok (.if_icmp .ne 7, 3) := by decide +kernel
theorem dX10_declare_146 : decode cX10_declare 146 = .ok (.iconst 0, 1) := by decide +kernel
theorem dX10_declare_147 : decode cX10_declare 147 = .ok (.goto 4, 3) := by decide +kernel
theorem dX10_declare_150 : decode cX10_declare 150 = .ok (.iconst 1, 1) := by decide +kernel
theorem dX10_declare_151 : decode cX10_declare 151 = .ok (.iadd, 1) := by decide +kernel
theorem dX10_declare_152 : decode cX10_declare 152 = .ok (.iastore, 1) := by decide +kernel
theorem dX10_declare_153 : decode cX10_declare 153 = .ok (.aload_n 0, 1) := by decide +kernel
theorem dX10_declare_154 : decode cX10_declare 154 = .ok (.iload_n 1, 1) := by decide +kernel
theorem dX10_declare_155 : decode cX10_declare 155 = .ok (.iload_n 3, 1) := by decide +kernel
theorem dX10_declare_156 : decode cX10_declare 156 = .ok (.ifCond .eq 7, 3) := by decide +kernel
theorem dX10_declare_159 : decode cX10_declare 159 = .ok (.iconst 1, 1) := by decide +kernel
theorem dX10_declare_160 : decode cX10_declare 160 = .ok (.goto 4, 3) := by decide +kernel
theorem dX10_declare_163 : decode cX10_declare 163 = .ok (.iconst 2, 1) := by decide +kernel
theorem dX10_declare_164 : decode cX10_declare 164 = .ok (.iload_n 3, 1) := by decide +kernel
theorem dX10_declare_165 : decode cX10_declare 165 = .ok (.ifCond .eq 17, 3) := by decide +kernel
theorem dX10_declare_168 : decode cX10_declare 168 = .ok (.aload_n 0, 1) := by decide +kernel
theorem dX10_declare_169 : decode cX10_declare 169 = .ok (.getfield 7, 3) := by decide +kernel
theorem dX10_declare_172 : decode cX10_declare 172 = .ok (.bipush 46, 2) := by decide +kernel
theorem dX10_declare_174 : decode cX10_declare 174 = .ok (.iconst 3, 1) := by decide +kernel
theorem dX10_declare_175 : decode cX10_declare 175 = .ok (.iload_n 1, 1) := by decide +kernel
theorem dX10_declare_176 : decode cX10_declare 176 = .ok (.imul, 1) := by decide +kernel
theorem dX10_declare_177 : decode cX10_declare 177 = .ok (.iadd, 1) := by decide +kernel
theorem dX10_declare_178 : decode cX10_declare 178 = .ok (.iaload, 1) := by decide +kernel
theorem dX10_declare_179 : decode cX10_declare 179 = .ok (.goto 4, 3) := by decide +kernel
theorem dX10_declare_182 : decode cX10_declare 182 = .ok (.iconst 0, 1) := by decide +kernel
theorem dX10_declare_183 : decode cX10_declare 183 = .ok (.invokevirtual 222, 3) := by decide +kernel
theorem dX10_declare_186 : decode cX10_declare 186 = .ok (.ireturn, 1) := by decide +kernel
theorem dX10_prose_0 : decode cX10_prose 0 = .ok (.aload_n 0, 1) := by decide +kernel
theorem dX10_prose_1 : decode cX10_prose 1 = .ok (.iload_n 1, 1) := by decide +kernel
theorem dX10_prose_2 : decode cX10_prose 2 = .ok (.invokevirtual 58, 3) := by decide +kernel
theorem dX10_prose_5 : decode cX10_prose 5 = .ok (.ifCond .ne 6, 3) := by decide +kernel
theorem dX10_prose_8 : decode cX10_prose 8 = .ok (.bipush (-2), 2) := by decide +kernel
theorem dX10_prose_10 : decode cX10_prose 10 = .ok (.ireturn, 1) := by decide +kernel
theorem dX10_prose_11 : decode cX10_prose 11 = .ok (.aload_n 0, 1) := by decide +kernel
theorem dX10_prose_12 : decode cX10_prose 12 = .ok (.getfield 7, 3) := by decide +kernel
theorem dX10_prose_15 : decode cX10_prose 15 = .ok (.bipush 46, 2) := by decide +kernel
theorem dX10_prose_17 : decode cX10_prose 17 = .ok (.iconst 3, 1) := by decide +kernel
theorem dX10_prose_18 : decode cX10_prose 18 = .ok (.iload_n 1, 1) := by decide +kernel
theorem dX10_prose_19 : decode cX10_prose 19 = .ok (.imul, 1) := by decide +kernel
theorem dX10_prose_20 : decode cX10_prose 20 = .ok (.iadd, 1) := by decide +kernel
theorem dX10_prose_21 : decode cX10_prose 21 = .ok (.iconst 2, 1) := by decide +kernel
theorem dX10_prose_22 : decode cX10_prose 22 = .ok (.iadd, 1) := by decide +kernel
theorem dX10_prose_23 : decode cX10_prose 23 = .ok (.iaload, 1) := by decide +kernel
theorem dX10_prose_24 : decode cX10_prose 24 = .ok (.ifCond .eq 6, 3) := by decide +kernel
theorem dX10_prose_27 : decode cX10_prose 27 = .ok (.bipush (-4), 2) := by decide +kernel
theorem dX10_prose_29 : decode cX10_prose 29 = .ok (.ireturn, 1) := by decide +kernel
theorem dX10_prose_30 : decode cX10_prose 30 = .ok (.aload_n 0, 1) := by decide +kernel
theorem dX10_prose_31 : decode cX10_prose 31 = .ok (.getfield 7, 3) := by decide +kernel
theorem dX10_prose_34 : decode cX10_prose 34 = .ok (.iconst 4, 1) := by decide +kernel
theorem dX10_prose_35 : decode cX10_prose 35 = .ok (.iaload, 1) := by decide +kernel
theorem dX10_prose_36 : decode cX10_prose 36 = .ok (.bipush 99, 2) := by decide +kernel
theorem dX10_prose_38 : decode cX10_prose 38 = .ok (.if_icmp .ne 6, 3) := by decide +kernel
theorem dX10_prose_41 : decode cX10_prose 41 = .ok (.bipush (-5), 2) := by decide +kernel
theorem dX10_prose_43 : decode cX10_prose 43 = .ok (.ireturn, 1) := by decide +kernel
theorem dX10_prose_44 : decode cX10_prose 44 = .ok (.aload_n 0, 1) := by decide +kernel
theorem dX10_prose_45 : decode cX10_prose 45 = .ok (.invokevirtual 215, 3) := by decide +kernel
theorem dX10_prose_48 : decode cX10_prose 48 = .ok (.aload_n 0, 1) := by decide +kernel
theorem dX10_prose_49 : decode cX10_prose 49 = .ok (.iload_n 1, 1) := by decide +kernel
theorem dX10_prose_50 : decode cX10_prose 50 = .ok (.iconst 3, 1) := by decide +kernel
theorem dX10_prose_51 : decode cX10_prose 51 = .ok (.iconst 3, 1) := by decide +kernel
theorem dX10_prose_52 : decode cX10_prose 52 = .ok (.aload_n 0, 1) := by decide +kernel
theorem dX10_prose_53 : decode cX10_prose 53 = .ok (.getfield 7, 3) := by decide +kernel
theorem dX10_prose_56 : decode cX10_prose 56 = .ok (.bipush 46, 2) := by decide +kernel
theorem dX10_prose_58 : decode cX10_prose 58 = .ok (.iconst 3, 1) := by decide +kernel
theorem dX10_prose_59 : decode cX10_prose 59 = .ok (.iload_n 1, 1) := by decide +kernel
theorem dX10_prose_60 : decode cX10_prose 60 = .ok (.imul, 1) := by decide +kernel
theorem dX10_prose_61 : decode cX10_prose 61 = .ok (.iadd, 1) := by decide +kernel
theorem dX10_prose_62 : decode cX10_prose 62 = .ok (.iaload, 1) := by decide +kernel
theorem dX10_prose_63 : decode cX10_prose 63 = .ok (.imul, 1) := by decide +kernel
theorem dX10_prose_64 : decode cX10_prose 64 = .ok (.invokevirtual 222, 3) := by decide +kernel
theorem dX10_prose_67 : decode cX10_prose 67 = .ok (.ireturn, 1) := by decide +kernel
theorem dX10_day_0 : decode cX10_day 0 = .ok (.aload_n 0, 1) := by decide +kernel
theorem dX10_day_1 : decode cX10_day 1 = .ok (.getfield 7, 3) := by decide +kernel
theorem dX10_day_4 : decode cX10_day 4 = .ok (.iconst 4, 1) := by decide +kernel
theorem dX10_day_5 : decode cX10_day 5 = .ok (.iaload, 1) := by decide +kernel
theorem dX10_day_6 : decode cX10_day 6 = .ok (.bipush 99, 2) := by decide +kernel
theorem dX10_day_8 : decode cX10_day 8 = .ok (.if_icmp .ne 6, 3) := by decide +kernel
theorem dX10_day_11 : decode cX10_day 11 = .ok (.bipush (-5), 2) := by decide +kernel
theorem dX10_day_13 : decode cX10_day 13 = .ok (.ireturn, 1) := by decide +kernel
theorem dX10_day_14 : decode cX10_day 14 = .ok (.aload_n 0, 1) := by decide +kernel
theorem dX10_day_15 : decode cX10_day 15 = .ok (.invokevirtual 215, 3) := by decide +kernel
theorem dX10_day_18 : decode cX10_day 18 = .ok (.aload_n 0, 1) := by decide +kernel
theorem dX10_day_19 : decode cX10_day 19 = .ok (.getfield 7, 3) := by decide +kernel
theorem dX10_day_22 : decode cX10_day 22 = .ok (.iconst 4, 1) := by decide +kernel
theorem dX10_day_23 : decode cX10_day 23 = .ok (.dup2, 1) := by decide +kernel
theorem dX10_day_24 : decode cX10_day 24 = .ok (.iaload, 1) := by decide +kernel
theorem dX10_day_25 : decode cX10_day 25 = .ok (.iconst 1, 1) := by decide +kernel
theorem dX10_day_26 : decode cX10_day 26 = .ok (.iadd, 1) := by decide +kernel
theorem dX10_day_27 : decode cX10_day 27 = .ok (.iastore, 1) := by decide +kernel
theorem dX10_day_28 : decode cX10_day 28 = .ok (.aload_n 0, 1) := by decide +kernel
theorem dX10_day_29 : decode cX10_day 29 = .ok (.getfield 7, 3) := by decide +kernel
theorem dX10_day_32 : decode cX10_day 32 = .ok (.iconst 4, 1) := by decide +kernel
theorem dX10_day_33 : decode cX10_day 33 = .ok (.iaload, 1) := by decide +kernel
theorem dX10_day_34 : decode cX10_day 34 = .ok (.ireturn, 1) := by decide +kernel
theorem dX10_undo_0 : decode cX10_undo 0 = .ok (.aload_n 0, 1) := by decide +kernel
theorem dX10_undo_1 : decode cX10_undo 1 = .ok (.getfield 170, 3) := by decide +kernel
theorem dX10_undo_4 : decode cX10_undo 4 = .ok (.ifCond .ne 6, 3) := by decide +kernel
theorem dX10_undo_7 : decode cX10_undo 7 = .ok (.bipush (-4), 2) := by decide +kernel
theorem dX10_undo_9 : decode cX10_undo 9 = .ok (.ireturn, 1) := by decide +kernel
theorem dX10_undo_10 : decode cX10_undo 10 = .ok (.aload_n 0, 1) := by decide +kernel
theorem dX10_undo_11 : decode cX10_undo 11 = .ok (.dup, 1) := by decide +kernel
theorem dX10_undo_12 : decode cX10_undo 12 = .ok (.getfield 170, 3) := by decide +kernel
theorem dX10_undo_15 : decode cX10_undo 15 = .ok (.iconst 1, 1) := by decide +kernel
theorem dX10_undo_16 : decode cX10_undo 16 = .ok (.isub, 1) := by decide +kernel
theorem dX10_undo_17 : decode cX10_undo 17 = .ok (.putfield 170, 3) := by decide +kernel
theorem dX10_undo_20 : decode cX10_undo 20 = .ok (.iconst 0, 1) := by decide +kernel
theorem dX10_undo_21 : decode cX10_undo 21 = .ok (.istore_n 1, 1) := by decide +kernel
theorem dX10_undo_22 : decode cX10_undo 22 = .ok (.iload_n 1, 1) := by decide +kernel
theorem dX10_undo_23 : decode cX10_undo 23 = .ok (.bipush 98, 2) := by decide +kernel
theorem dX10_undo_25 : decode cX10_undo 25 = .ok (.if_icmp .ge 29, 3) := by decide +kernel
theorem dX10_undo_28 : decode cX10_undo 28 = .ok (.aload_n 0, 1) := by decide +kernel
theorem dX10_undo_29 : decode cX10_undo 29 = .ok (.getfield 7, 3) := by decide +kernel
theorem dX10_undo_32 : decode cX10_undo 32 = .ok (.iload_n 1, 1) := by decide +kernel
theorem dX10_undo_33 : decode cX10_undo 33 = .ok (.aload_n 0, 1) := by decide +kernel
theorem dX10_undo_34 : decode cX10_undo 34 = .ok (.getfield 13, 3) := by decide +kernel
theorem dX10_undo_37 : decode cX10_undo 37 = .ok (.bipush 98, 2) := by decide +kernel
theorem dX10_undo_39 : decode cX10_undo 39 = .ok (.aload_n 0, 1) := by decide +kernel
theorem dX10_undo_40 : decode cX10_undo 40 = .ok (.getfield 170, 3) := by decide +kernel
theorem dX10_undo_43 : decode cX10_undo 43 = .ok (.imul, 1) := by decide +kernel
theorem dX10_undo_44 : decode cX10_undo 44 = .ok (.iload_n 1, 1) := by decide +kernel
theorem dX10_undo_45 : decode cX10_undo 45 = .ok (.iadd, 1) := by decide +kernel
theorem dX10_undo_46 : decode cX10_undo 46 = .ok (.iaload, 1) := by decide +kernel
theorem dX10_undo_47 : decode cX10_undo 47 = .ok (.iastore, 1) := by decide +kernel
theorem dX10_undo_48 : decode cX10_undo 48 = .ok (.iinc 1 1, 3) := by decide +kernel
theorem dX10_undo_51 : decode cX10_undo 51 = .ok (.goto (-29), 3) := by decide +kernel
theorem dX10_undo_54 : decode cX10_undo 54 = .ok (.aload_n 0, 1) := by decide +kernel
theorem dX10_undo_55 : decode cX10_undo 55 = .ok (.getfield 170, 3) := by decide +kernel
theorem dX10_undo_58 : decode cX10_undo 58 = .ok (.ireturn, 1) := by decide +kernel
theorem dX10_keep_0 : decode cX10_keep 0 = .ok (.iload_n 1, 1) := by decide +kernel
theorem dX10_keep_1 : decode cX10_keep 1 = .ok (.i2l, 1) := by decide +kernel
theorem dX10_keep_2 : decode cX10_keep 2 = .ok (.lconst 0, 1) := by decide +kernel
theorem dX10_keep_3 : decode cX10_keep 3 = .ok (.lconst 1, 1) := by decide +kernel
theorem dX10_keep_4 : decode cX10_keep 4 = .ok (.invokestatic 54, 3) := by decide +kernel
theorem dX10_keep_7 : decode cX10_keep 7 = .ok (.ifCond .ne 6, 3) := by decide +kernel
theorem dX10_keep_10 : decode cX10_keep 10 = .ok (.bipush (-2), 2) := by decide +kernel
theorem dX10_keep_12 : decode cX10_keep 12 = .ok (.ireturn, 1) := by decide +kernel
theorem dX10_keep_13 : decode cX10_keep 13 = .ok (.iconst 0, 1) := by decide +kernel
theorem dX10_keep_14 : decode cX10_keep 14 = .ok (.istore_n 2, 1) := by decide +kernel
theorem dX10_keep_15 : decode cX10_keep 15 = .ok (.iload_n 2, 1) := by decide +kernel
theorem dX10_keep_16 : decode cX10_keep 16 = .ok (.bipush 98, 2) := by decide +kernel
theorem dX10_keep_18 : decode cX10_keep 18 = .ok (.if_icmp .ge 26, 3) := by decide +kernel
theorem dX10_keep_21 : decode cX10_keep 21 = .ok (.aload_n 0, 1) := by decide +kernel
theorem dX10_keep_22 : decode cX10_keep 22 = .ok (.getfield 16, 3) := by decide +kernel
theorem dX10_keep_25 : decode cX10_keep 25 = .ok (.bipush 98, 2) := by decide +kernel
theorem dX10_keep_27 : decode cX10_keep 27 = .ok (.iload_n 1, 1) := by decide +kernel
theorem dX10_keep_28 : decode cX10_keep 28 = .ok (.imul, 1) := by decide +kernel
theorem dX10_keep_29 : decode cX10_keep 29 = .ok (.iload_n 2, 1) := by decide +kernel
theorem dX10_keep_30 : decode cX10_keep 30 = .ok (.iadd, 1) := by decide +kernel
theorem dX10_keep_31 : decode cX10_keep 31 = .ok (.aload_n 0, 1) := by decide +kernel
theorem dX10_keep_32 : decode cX10_keep 32 = .ok (.getfield 7, 3) := by decide +kernel
theorem dX10_keep_35 : decode cX10_keep 35 = .ok (.iload_n 2, 1) := by decide +kernel
theorem dX10_keep_36 : decode cX10_keep 36 = .ok (.iaload, 1) := by decide +kernel
theorem dX10_keep_37 : decode cX10_keep 37 = .ok (.iastore, 1) := by decide +kernel
theorem dX10_keep_38 : decode cX10_keep 38 = .ok (.iinc 2 1, 3) := by decide +kernel
theorem dX10_keep_41 : decode cX10_keep 41 = .ok (.goto (-26), 3) := by decide +kernel
theorem dX10_keep_44 : decode cX10_keep 44 = .ok (.aload_n 0, 1) := by decide +kernel
theorem dX10_keep_45 : decode cX10_keep 45 = .ok (.getfield 19, 3) := by decide +kernel
theorem dX10_keep_48 : decode cX10_keep 48 = .ok (.iload_n 1, 1) := by decide +kernel
theorem dX10_keep_49 : decode cX10_keep 49 = .ok (.iconst 1, 1) := by decide +kernel
theorem dX10_keep_50 : decode cX10_keep 50 = .ok (.bastore, 1) := by decide +kernel
theorem dX10_keep_51 : decode cX10_keep 51 = .ok (.aload_n 0, 1) := by decide +kernel
theorem dX10_keep_52 : decode cX10_keep 52 = .ok (.getfield 7, 3) := by decide +kernel
theorem dX10_keep_55 : decode cX10_keep 55 = .ok (.iconst 4, 1) := by decide +kernel
theorem dX10_keep_56 : decode cX10_keep 56 = .ok (.iaload, 1) := by decide +kernel
theorem dX10_keep_57 : decode cX10_keep 57 = .ok (.ireturn, 1) := by decide +kernel
theorem dX10_back_0 : decode cX10_back 0 = .ok (.iload_n 1, 1) := by decide +kernel
theorem dX10_back_1 : decode cX10_back 1 = .ok (.i2l, 1) := by decide +kernel
theorem dX10_back_2 : decode cX10_back 2 = .ok (.lconst 0, 1) := by decide +kernel
theorem dX10_back_3 : decode cX10_back 3 = .ok (.lconst 1, 1) := by decide +kernel
theorem dX10_back_4 : decode cX10_back 4 = .ok (.invokestatic 54, 3) := by decide +kernel
theorem dX10_back_7 : decode cX10_back 7 = .ok (.ifCond .ne 6, 3) := by decide +kernel
theorem dX10_back_10 : decode cX10_back 10 = .ok (.bipush (-2), 2) := by decide +kernel
theorem dX10_back_12 : decode cX10_back 12 = .ok (.ireturn, 1) := by decide +kernel
theorem dX10_back_13 : decode cX10_back 13 = .ok (.aload_n 0, 1) := by decide +kernel
theorem dX10_back_14 : decode cX10_back 14 = .ok (.getfield 19, 3) := by decide +kernel
theorem dX10_back_17 : decode cX10_back 17 = .ok (.iload_n 1, 1) := by decide +kernel
theorem dX10_back_18 : decode cX10_back 18 = .ok (.baload, 1) := by decide +kernel
theorem dX10_back_19 : decode cX10_back 19 = .ok (.ifCond .ne 6, 3) := by decide +kernel
theorem dX10_back_22 : decode cX10_back 22 = .ok (.bipush (-4), 2) := by decide +kernel
theorem dX10_back_24 : decode cX10_back 24 = .ok (.ireturn, 1) := by decide +kernel
theorem dX10_back_25 : decode cX10_back 25 = .ok (.iconst 0, 1) := by decide +kernel
theorem dX10_back_26 : decode cX10_back 26 = .ok (.istore_n 2, 1) := by decide +kernel
theorem dX10_back_27 : decode cX10_back 27 = .ok (.iload_n 2, 1) := by decide +kernel
theorem dX10_back_28 : decode cX10_back 28 = .ok (.bipush 98, 2) := by decide +kernel
theorem dX10_back_30 : decode cX10_back 30 = .ok (.if_icmp .ge 26, 3) := by decide +kernel
theorem dX10_back_33 : decode cX10_back 33 = .ok (.aload_n 0, 1) := by decide +kernel
theorem dX10_back_34 : decode cX10_back 34 = .ok (.getfield 7, 3) := by decide +kernel
theorem dX10_back_37 : decode cX10_back 37 = .ok (.iload_n 2, 1) := by decide +kernel
theorem dX10_back_38 : decode cX10_back 38 = .ok (.aload_n 0, 1) := by decide +kernel
theorem dX10_back_39 : decode cX10_back 39 = .ok (.getfield 16, 3) := by decide +kernel
theorem dX10_back_42 : decode cX10_back 42 = .ok (.bipush 98, 2) := by decide +kernel
theorem dX10_back_44 : decode cX10_back 44 = .ok (.iload_n 1, 1) := by decide +kernel
theorem dX10_back_45 : decode cX10_back 45 = .ok (.imul, 1) := by decide +kernel
theorem dX10_back_46 : decode cX10_back 46 = .ok (.iload_n 2, 1) := by decide +kernel
theorem dX10_back_47 : decode cX10_back 47 = .ok (.iadd, 1) := by decide +kernel
theorem dX10_back_48 : decode cX10_back 48 = .ok (.iaload, 1) := by decide +kernel
theorem dX10_back_49 : decode cX10_back 49 = .ok (.iastore, 1) := by decide +kernel
theorem dX10_back_50 : decode cX10_back 50 = .ok (.iinc 2 1, 3) := by decide +kernel
theorem dX10_back_53 : decode cX10_back 53 = .ok (.goto (-26), 3) := by decide +kernel
theorem dX10_back_56 : decode cX10_back 56 = .ok (.aload_n 0, 1) := by decide +kernel
theorem dX10_back_57 : decode cX10_back 57 = .ok (.iconst 0, 1) := by decide +kernel
theorem dX10_back_58 : decode cX10_back 58 = .ok (.putfield 170, 3) := by decide +kernel
theorem dX10_back_61 : decode cX10_back 61 = .ok (.aload_n 0, 1) := by decide +kernel
theorem dX10_back_62 : decode cX10_back 62 = .ok (.getfield 7, 3) := by decide +kernel
theorem dX10_back_65 : decode cX10_back 65 = .ok (.iconst 4, 1) := by decide +kernel
theorem dX10_back_66 : decode cX10_back 66 = .ok (.iaload, 1) := by decide +kernel
theorem dX10_back_67 : decode cX10_back 67 = .ok (.ireturn, 1) := by decide +kernel
theorem dX10_ways_0 : decode cX10_ways 0 = .ok (.iconst 1, 1) := by decide +kernel
theorem dX10_ways_1 : decode cX10_ways 1 = .ok (.istore_n 2, 1) := by decide +kernel
theorem dX10_ways_2 : decode cX10_ways 2 = .ok (.iconst 0, 1) := by decide +kernel
theorem dX10_ways_3 : decode cX10_ways 3 = .ok (.istore_n 3, 1) := by decide +kernel
theorem dX10_ways_4 : decode cX10_ways 4 = .ok (.iload_n 3, 1) := by decide +kernel
theorem dX10_ways_5 : decode cX10_ways 5 = .ok (.iload_n 1, 1) := by decide +kernel
theorem dX10_ways_6 : decode cX10_ways 6 = .ok (.if_icmp .ge 18, 3) := by decide +kernel
theorem dX10_ways_9 : decode cX10_ways 9 = .ok (.iload_n 2, 1) := by decide +kernel
theorem dX10_ways_10 : decode cX10_ways 10 = .ok (.aload_n 0, 1) := by decide +kernel
theorem dX10_ways_11 : decode cX10_ways 11 = .ok (.getfield 7, 3) := by decide +kernel
theorem dX10_ways_14 : decode cX10_ways 14 = .ok (.iconst 0, 1) := by decide +kernel
theorem dX10_ways_15 : decode cX10_ways 15 = .ok (.iaload, 1) := by decide +kernel
theorem dX10_ways_16 : decode cX10_ways 16 = .ok (.imul, 1) := by decide +kernel
theorem dX10_ways_17 : decode cX10_ways 17 = .ok (.istore_n 2, 1) := by decide +kernel
theorem dX10_ways_18 : decode cX10_ways 18 = .ok (.iinc 3 1, 3) := by decide +kernel
theorem dX10_ways_21 : decode cX10_ways 21 = .ok (.goto (-17), 3) := by decide +kernel
theorem dX10_ways_24 : decode cX10_ways 24 = .ok (.iload_n 2, 1) := by decide +kernel
theorem dX10_ways_25 : decode cX10_ways 25 = .ok (.ireturn, 1) := by decide +kernel
theorem dX10_lays_0 : decode cX10_lays 0 = .ok (.iload_n 1, 1) := by decide +kernel
theorem dX10_lays_1 : decode cX10_lays 1 = .ok (.istore_n 3, 1) := by decide +kernel
theorem dX10_lays_2 : decode cX10_lays 2 = .ok (.iload_n 2, 1) := by decide +kernel
theorem dX10_lays_3 : decode cX10_lays 3 = .ok (.iconst 1, 1) := by decide +kernel
theorem dX10_lays_4 : decode cX10_lays 4 = .ok (.isub, 1) := by decide +kernel
theorem dX10_lays_5 : decode cX10_lays 5 = .ok (.istore 4, 2) := by decide +kernel
theorem dX10_lays_7 : decode cX10_lays 7 = .ok (.iload 4, 2) := by decide +kernel
theorem dX10_lays_9 : decode cX10_lays 9 = .ok (.ifCond .lt 33, 3) := by decide +kernel
theorem dX10_lays_12 : decode cX10_lays 12 = .ok (.aload_n 0, 1) := by decide +kernel
theorem dX10_lays_13 : decode cX10_lays 13 = .ok (.getfield 35, 3) := by decide +kernel
theorem dX10_lays_16 : decode cX10_lays 16 = .ok (.iload 4, 2) := by decide +kernel
theorem dX10_lays_18 : decode cX10_lays 18 = .ok (.iload_n 3, 1) := by decide +kernel
theorem dX10_lays_19 : decode cX10_lays 19 = .ok (.aload_n 0, 1) := by decide +kernel
theorem dX10_lays_20 : decode cX10_lays 20 = .ok (.getfield 7, 3) := by decide +kernel
theorem dX10_lays_23 : decode cX10_lays 23 = .ok (.iconst 0, 1) := by decide +kernel
theorem dX10_lays_24 : decode cX10_lays 24 = .ok (.iaload, 1) := by decide +kernel
theorem dX10_lays_25 : decode cX10_lays 25 = .ok (.irem, 1) := by decide +kernel
theorem dX10_lays_26 : decode cX10_lays 26 = .ok (.iastore, 1) := by decide +kernel
theorem dX10_lays_27 : decode cX10_lays 27 = .ok (.iload_n 3, 1) := by decide +kernel
theorem dX10_lays_28 : decode cX10_lays 28 = .ok (.aload_n 0, 1) := by decide +kernel
theorem dX10_lays_29 : decode cX10_lays 29 = .ok (.getfield 7, 3) := by decide +kernel
theorem dX10_lays_32 : decode cX10_lays 32 = .ok (.iconst 0, 1) := by decide +kernel
theorem dX10_lays_33 : decode cX10_lays 33 = .ok (.iaload, 1) := by decide +kernel
theorem dX10_lays_34 : decode cX10_lays 34 = .ok (.idiv, 1) := by decide +kernel
theorem dX10_lays_35 : decode cX10_lays 35 = .ok (.istore_n 3, 1) := by decide +kernel
theorem dX10_lays_36 : decode cX10_lays 36 = .ok (.iinc 4 (-1), 3) := by decide +kernel
theorem dX10_lays_39 : decode cX10_lays 39 = .ok (.goto (-32), 3) := by decide +kernel
theorem dX10_lays_42 : decode cX10_lays 42 = .ok (.return_, 1) := by decide +kernel
theorem dX10_keepsFirst_0 : decode cX10_keepsFirst 0 = .ok (.iconst 0, 1) := by decide +kernel
theorem dX10_keepsFirst_1 : decode cX10_keepsFirst 1 = .ok (.istore_n 2, 1) := by decide +kernel
theorem dX10_keepsFirst_2 : decode cX10_keepsFirst 2 = .ok (.iload_n 2, 1) := by decide +kernel
theorem dX10_keepsFirst_3 : decode cX10_keepsFirst 3 = .ok (.iload_n 1, 1) := by decide +kernel
theorem dX10_keepsFirst_4 : decode cX10_keepsFirst 4 = .ok (.if_icmp .ge 28, 3) := by decide +kernel
theorem dX10_keepsFirst_7 : decode cX10_keepsFirst 7 = .ok (.aload_n 0, 1) := by decide +kernel
theorem dX10_keepsFirst_8 : decode cX10_keepsFirst 8 = .ok (.getfield 225, 3) := by decide +kernel
theorem dX10_keepsFirst_11 : decode cX10_keepsFirst 11 = .ok (.ifCond .ne 21, 3) := by decide +kernel
theorem dX10_keepsFirst_14 : decode cX10_keepsFirst 14 = .ok (.aload_n 0, 1) := by decide +kernel
theorem dX10_keepsFirst_15 : decode cX10_keepsFirst 15 = .ok (.getfield 38, 3) := by decide +kernel
theorem dX10_keepsFirst_18 : decode cX10_keepsFirst 18 = .ok (.iload_n 2, 1) := by decide +kernel
theorem dX10_keepsFirst_19 : decode cX10_keepsFirst 19 = .ok (.aload_n 0, 1) := by decide +kernel
theorem dX10_keepsFirst_20 : decode cX10_keepsFirst 20 = .ok (.getfield 35, 3) := by decide +kernel
theorem dX10_keepsFirst_23 : decode cX10_keepsFirst 23 = .ok (.iload_n 2, 1) := by decide +kernel
theorem dX10_keepsFirst_24 : decode cX10_keepsFirst 24 = .ok (.iaload, 1) := by decide +kernel
theorem dX10_keepsFirst_25 : decode cX10_keepsFirst 25 = .ok (.iastore, 1) := by decide +kernel
theorem dX10_keepsFirst_26 : decode cX10_keepsFirst 26 = .ok (.iinc 2 1, 3) := by decide +kernel
theorem dX10_keepsFirst_29 : decode cX10_keepsFirst 29 = .ok (.goto (-27), 3) := by decide +kernel
theorem dX10_keepsFirst_32 : decode cX10_keepsFirst 32 = .ok (.aload_n 0, 1) := by decide +kernel
theorem dX10_keepsFirst_33 : decode cX10_keepsFirst 33 = .ok (.dup, 1) := by decide +kernel
theorem dX10_keepsFirst_34 : decode cX10_keepsFirst 34 = .ok (.getfield 225, 3) := by decide +kernel
theorem dX10_keepsFirst_37 : decode cX10_keepsFirst 37 = .ok (.iconst 1, 1) := by decide +kernel
theorem dX10_keepsFirst_38 : decode cX10_keepsFirst 38 = .ok (.iadd, 1) := by decide +kernel
theorem dX10_keepsFirst_39 : decode cX10_keepsFirst 39 = .ok (.putfield 225, 3) := by decide +kernel
theorem dX10_keepsFirst_42 : decode cX10_keepsFirst 42 = .ok (.return_, 1) := by decide +kernel
theorem dX10_passesSome_0 : decode cX10_passesSome 0 = .ok (.iconst 1, 1) := by decide +kernel
theorem dX10_passesSome_1 : decode cX10_passesSome 1 = .ok (.istore 4, 2) := by decide +kernel
theorem dX10_passesSome_3 : decode cX10_passesSome 3 = .ok (.iconst 0, 1) := by decide +kernel
theorem dX10_passesSome_4 : decode cX10_passesSome 4 = .ok (.istore 5, 2) := by decide +kernel
theorem dX10_passesSome_6 : decode cX10_passesSome 6 = .ok (.iload 5, 2) := by decide +kernel
theorem dX10_passesSome_8 : decode cX10_passesSome 8 = .ok (.aload_n 0, 1) := by decide +kernel
theorem dX10_passesSome_9 : decode cX10_passesSome 9 = .ok (.getfield 7, 3) := by decide +kernel
theorem dX10_passesSome_12 : decode cX10_passesSome 12 = .ok (.iconst 2, 1) := by decide +kernel
theorem dX10_passesSome_13 : decode cX10_passesSome 13 = .ok (.iaload, 1) := by decide +kernel
theorem dX10_passesSome_14 : decode cX10_passesSome 14 = .ok (.if_icmp .ge 47, 3) := by decide +kernel
theorem dX10_passesSome_17 : decode cX10_passesSome 17 = .ok (.iload 4, 2) := by decide +kernel
theorem dX10_passesSome_19 : decode cX10_passesSome 19 = .ok (.ifCond .eq 33, 3) := by decide +kernel
theorem dX10_passesSome_22 : decode cX10_passesSome 22 = .ok (.iload_n 3, 1) := by decide +kernel
theorem dX10_passesSome_23 : decode cX10_passesSome 23 = .ok (.iconst (-1), 1) := by decide +kernel
theorem dX10_passesSome_24 : decode cX10_passesSome 24 = .ok (.if_icmp .eq 9, 3) := by decide +kernel
theorem dX10_passesSome_27 : decode cX10_passesSome 27 = .ok (.iload 5, 2) := by decide +kernel
theorem dX10_passesSome_29 : decode cX10_passesSome 29 = .ok (.iload_n 3, 1) := by decide +kernel
theorem dX10_passesSome_30 : decode cX10_passesSome 30 = .ok (.if_icmp .ne 18, 3) := by decide +kernel
theorem dX10_passesSome_33 : decode cX10_passesSome 33 = .ok (.aload_n 0, 1) := by decide +kernel
theorem dX10_passesSome_34 : decode cX10_passesSome 34 = .ok (.aload_n 0, 1) := by decide +kernel
theorem dX10_passesSome_35 : decode cX10_passesSome 35 = .ok (.getfield 35, 3) := by decide +kernel
theorem dX10_passesSome_38 : decode cX10_passesSome 38 = .ok (.iload_n 1, 1) := by decide +kernel
theorem dX10_passesSome_39 : decode cX10_passesSome 39 = .ok (.iload_n 2, 1) := by decide +kernel
theorem dX10_passesSome_40 : decode cX10_passesSome 40 = .ok (.iload 5, 2) := by decide +kernel
theorem dX10_passesSome_42 : decode cX10_passesSome 42 = .ok (.invokevirtual 211, 3) := by decide +kernel
theorem dX10_passesSome_45 : decode cX10_passesSome 45 = .ok (.ifCond .eq 7, 3) := by decide +kernel
theorem dX10_passesSome_48 : decode cX10_passesSome 48 = .ok (.iconst 1, 1) := by decide +kernel
theorem dX10_passesSome_49 : decode cX10_passesSome 49 = .ok (.goto 4, 3) := by decide +kernel
theorem dX10_passesSome_52 : decode cX10_passesSome 52 = .ok (.iconst 0, 1) := by decide +kernel
theorem dX10_passesSome_53 : decode cX10_passesSome 53 = .ok (.istore 4, 2) := by decide +kernel
theorem dX10_passesSome_55 : decode cX10_passesSome 55 = .ok (.iinc 5 1, 3) := by decide +kernel
theorem dX10_passesSome_58 : decode cX10_passesSome 58 = .ok (.goto (-52), 3) := by decide +kernel
theorem dX10_passesSome_61 : decode cX10_passesSome 61 = .ok (.iload 4, 2) := by decide +kernel
theorem dX10_passesSome_63 : decode cX10_passesSome 63 = .ok (.ireturn, 1) := by decide +kernel
theorem dX10_shortestOf_0 : decode cX10_shortestOf 0 = .ok (.aload_n 0, 1) := by decide +kernel
theorem dX10_shortestOf_1 : decode cX10_shortestOf 1 = .ok (.iconst 0, 1) := by decide +kernel
theorem dX10_shortestOf_2 : decode cX10_shortestOf 2 = .ok (.putfield 225, 3) := by decide +kernel
theorem dX10_shortestOf_5 : decode cX10_shortestOf 5 = .ok (.iconst 1, 1) := by decide +kernel
theorem dX10_shortestOf_6 : decode cX10_shortestOf 6 = .ok (.istore_n 3, 1) := by decide +kernel
theorem dX10_shortestOf_7 : decode cX10_shortestOf 7 = .ok (.iload_n 3, 1) := by decide +kernel
theorem dX10_shortestOf_8 : decode cX10_shortestOf 8 = .ok (.iconst 4, 1) := by decide +kernel
theorem dX10_shortestOf_9 : decode cX10_shortestOf 9 = .ok (.if_icmp .gt 63, 3) := by decide +kernel
theorem dX10_shortestOf_12 : decode cX10_shortestOf 12 = .ok (.aload_n 0, 1) := by decide +kernel
