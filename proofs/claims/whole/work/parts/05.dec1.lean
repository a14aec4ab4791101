theorem dX7_askedCorner_0 : decode cX7_askedCorner 0 = .ok (.aload_n 0, 1) := by decide +kernel
theorem dX7_askedCorner_1 : decode cX7_askedCorner 1 = .ok (.invokevirtual 170, 3) := by decide +kernel
theorem dX7_askedCorner_4 : decode cX7_askedCorner 4 = .ok (.ifCond .ne 5, 3) := by decide +kernel
theorem dX7_askedCorner_7 : decode cX7_askedCorner 7 = .ok (.iconst (-1), 1) := by decide +kernel
theorem dX7_askedCorner_8 : decode cX7_askedCorner 8 = .ok (.ireturn, 1) := by decide +kernel
theorem dX7_askedCorner_9 : decode cX7_askedCorner 9 = .ok (.aload_n 0, 1) := by decide +kernel
theorem dX7_askedCorner_10 : decode cX7_askedCorner 10 = .ok (.aload_n 0, 1) := by decide +kernel
theorem dX7_askedCorner_11 : decode cX7_askedCorner 11 = .ok (.getfield 21, 3) := by decide +kernel
theorem dX7_askedCorner_14 : decode cX7_askedCorner 14 = .ok (.getfield 128, 3) := by decide +kernel
theorem dX7_askedCorner_17 : decode cX7_askedCorner 17 = .ok (.aload_n 0, 1) := by decide +kernel
theorem dX7_askedCorner_18 : decode cX7_askedCorner 18 = .ok (.getfield 21, 3) := by decide +kernel
theorem dX7_askedCorner_21 : decode cX7_askedCorner 21 = .ok (.getfield 125, 3) := by decide +kernel
theorem dX7_askedCorner_24 : decode cX7_askedCorner 24 = .ok (.iconst 0, 1) := by decide +kernel
theorem dX7_askedCorner_25 : decode cX7_askedCorner 25 = .ok (.iaload, 1) := by decide +kernel
theorem dX7_askedCorner_26 : decode cX7_askedCorner 26 = .ok (.invokevirtual 173, 3) := by decide +kernel
theorem dX7_askedCorner_29 : decode cX7_askedCorner 29 = .ok (.istore_n 2, 1) := by decide +kernel
theorem dX7_askedCorner_30 : decode cX7_askedCorner 30 = .ok (.iload_n 1, 1) := by decide +kernel
theorem dX7_askedCorner_31 : decode cX7_askedCorner 31 = .ok (.iconst (-1), 1) := by decide +kernel
theorem dX7_askedCorner_32 : decode cX7_askedCorner 32 = .ok (.if_icmp .eq 35, 3) := by decide +kernel
theorem dX7_askedCorner_35 : decode cX7_askedCorner 35 = .ok (.iload_n 2, 1) := by decide +kernel
theorem dX7_askedCorner_36 : decode cX7_askedCorner 36 = .ok (.iconst (-1), 1) := by decide +kernel
theorem dX7_askedCorner_37 : decode cX7_askedCorner 37 = .ok (.if_icmp .eq 30, 3) := by decide +kernel
theorem dX7_askedCorner_40 : decode cX7_askedCorner 40 = .ok (.iload_n 2, 1) := by decide +kernel
theorem dX7_askedCorner_41 : decode cX7_askedCorner 41 = .ok (.iload_n 1, 1) := by decide +kernel
theorem dX7_askedCorner_42 : decode cX7_askedCorner 42 = .ok (.if_icmp .eq 21, 3) := by decide +kernel
theorem dX7_askedCorner_45 : decode cX7_askedCorner 45 = .ok (.aload_n 0, 1) := by decide +kernel
theorem dX7_askedCorner_46 : decode cX7_askedCorner 46 = .ok (.getfield 21, 3) := by decide +kernel
theorem dX7_askedCorner_49 : decode cX7_askedCorner 49 = .ok (.getfield 177, 3) := by decide +kernel
theorem dX7_askedCorner_52 : decode cX7_askedCorner 52 = .ok (.iload_n 1, 1) := by decide +kernel
theorem dX7_askedCorner_53 : decode cX7_askedCorner 53 = .ok (.bipush 10, 2) := by decide +kernel
theorem dX7_askedCorner_55 : decode cX7_askedCorner 55 = .ok (.imul, 1) := by decide +kernel
theorem dX7_askedCorner_56 : decode cX7_askedCorner 56 = .ok (.iload_n 2, 1) := by decide +kernel
theorem dX7_askedCorner_57 : decode cX7_askedCorner 57 = .ok (.iadd, 1) := by decide +kernel
theorem dX7_askedCorner_58 : decode cX7_askedCorner 58 = .ok (.iaload, 1) := by decide +kernel
theorem dX7_askedCorner_59 : decode cX7_askedCorner 59 = .ok (.iconst (-1), 1) := by decide +kernel
theorem dX7_askedCorner_60 : decode cX7_askedCorner 60 = .ok (.if_icmp .eq 7, 3) := by decide +kernel
theorem dX7_askedCorner_63 : decode cX7_askedCorner 63 = .ok (.iconst 1, 1) := by decide +kernel
theorem dX7_askedCorner_64 : decode cX7_askedCorner 64 = .ok (.goto 4, 3) := by decide +kernel
theorem dX7_askedCorner_67 : decode cX7_askedCorner 67 = .ok (.iconst 0, 1) := by decide +kernel
theorem dX7_askedCorner_68 : decode cX7_askedCorner 68 = .ok (.istore_n 3, 1) := by decide +kernel
theorem dX7_askedCorner_69 : decode cX7_askedCorner 69 = .ok (.iload_n 2, 1) := by decide +kernel
theorem dX7_askedCorner_70 : decode cX7_askedCorner 70 = .ok (.iconst (-1), 1) := by decide +kernel
theorem dX7_askedCorner_71 : decode cX7_askedCorner 71 = .ok (.if_icmp .eq 7, 3) := by decide +kernel
theorem dX7_askedCorner_74 : decode cX7_askedCorner 74 = .ok (.iload_n 3, 1) := by decide +kernel
theorem dX7_askedCorner_75 : decode cX7_askedCorner 75 = .ok (.ifCond .eq 15, 3) := by decide +kernel
theorem dX7_askedCorner_78 : decode cX7_askedCorner 78 = .ok (.aload_n 0, 1) := by decide +kernel
theorem dX7_askedCorner_79 : decode cX7_askedCorner 79 = .ok (.iconst 3, 1) := by decide +kernel
theorem dX7_askedCorner_80 : decode cX7_askedCorner 80 = .ok (.aload_n 0, 1) := by decide +kernel
theorem dX7_askedCorner_81 : decode cX7_askedCorner 81 = .ok (.getfield 79, 3) := by decide +kernel
theorem dX7_askedCorner_84 : decode cX7_askedCorner 84 = .ok (.invokevirtual 119, 3) := by decide +kernel
theorem dX7_askedCorner_87 : decode cX7_askedCorner 87 = .ok (.pop, 1) := by decide +kernel
theorem dX7_askedCorner_88 : decode cX7_askedCorner 88 = .ok (.iconst (-1), 1) := by decide +kernel
theorem dX7_askedCorner_89 : decode cX7_askedCorner 89 = .ok (.ireturn, 1) := by decide +kernel
theorem dX7_askedCorner_90 : decode cX7_askedCorner 90 = .ok (.aload_n 0, 1) := by decide +kernel
theorem dX7_askedCorner_91 : decode cX7_askedCorner 91 = .ok (.invokevirtual 62, 3) := by decide +kernel
theorem dX7_askedCorner_94 : decode cX7_askedCorner 94 = .ok (.iload_n 2, 1) := by decide +kernel
theorem dX7_askedCorner_95 : decode cX7_askedCorner 95 = .ok (.ireturn, 1) := by decide +kernel
theorem dX7_cut_0 : decode cX7_cut 0 = .ok (.iconst 0, 1) := by decide +kernel
theorem dX7_cut_1 : decode cX7_cut 1 = .ok (.istore_n 2, 1) := by decide +kernel
theorem dX7_cut_2 : decode cX7_cut 2 = .ok (.iconst 0, 1) := by decide +kernel
theorem dX7_cut_3 : decode cX7_cut 3 = .ok (.istore_n 3, 1) := by decide +kernel
theorem dX7_cut_4 : decode cX7_cut 4 = .ok (.iload_n 3, 1) := by decide +kernel
theorem dX7_cut_5 : decode cX7_cut 5 = .ok (.iload_n 1, 1) := by decide +kernel
theorem dX7_cut_6 : decode cX7_cut 6 = .ok (.if_icmp .ge 177, 3) := by decide +kernel
theorem dX7_cut_9 : decode cX7_cut 9 = .ok (.iload_n 3, 1) := by decide +kernel
theorem dX7_cut_10 : decode cX7_cut 10 = .ok (.istore 4, 2) := by decide +kernel
theorem dX7_cut_12 : decode cX7_cut 12 = .ok (.aload_n 0, 1) := by decide +kernel
theorem dX7_cut_13 : decode cX7_cut 13 = .ok (.getfield 25, 3) := by decide +kernel
theorem dX7_cut_16 : decode cX7_cut 16 = .ok (.iload_n 3, 1) := by decide +kernel
theorem dX7_cut_17 : decode cX7_cut 17 = .ok (.iinc 3 1, 3) := by decide +kernel
theorem dX7_cut_20 : decode cX7_cut 20 = .ok (.iaload, 1) := by decide +kernel
theorem dX7_cut_21 : decode cX7_cut 21 = .ok (.istore 5, 2) := by decide +kernel
theorem dX7_cut_23 : decode cX7_cut 23 = .ok (.iload 5, 2) := by decide +kernel
theorem dX7_cut_25 : decode cX7_cut 25 = .ok (.bipush 10, 2) := by decide +kernel
theorem dX7_cut_27 : decode cX7_cut 27 = .ok (.if_icmp .eq (-23), 3) := by decide +kernel
theorem dX7_cut_30 : decode cX7_cut 30 = .ok (.iload 5, 2) := by decide +kernel
theorem dX7_cut_32 : decode cX7_cut 32 = .ok (.bipush 32, 2) := by decide +kernel
theorem dX7_cut_34 : decode cX7_cut 34 = .ok (.if_icmp .ne 6, 3) := by decide +kernel
theorem dX7_cut_37 : decode cX7_cut 37 = .ok (.goto (-33), 3) := by decide +kernel
theorem dX7_cut_40 : decode cX7_cut 40 = .ok (.bipush 29, 2) := by decide +kernel
theorem dX7_cut_42 : decode cX7_cut 42 = .ok (.istore 6, 2) := by decide +kernel
theorem dX7_cut_44 : decode cX7_cut 44 = .ok (.iload 5, 2) := by decide +kernel
theorem dX7_cut_46 : decode cX7_cut 46 = .ok (.bipush 97, 2) := by decide +kernel
theorem dX7_cut_48 : decode cX7_cut 48 = .ok (.if_icmp .lt 55, 3) := by decide +kernel
theorem dX7_cut_51 : decode cX7_cut 51 = .ok (.iload 5, 2) := by decide +kernel
theorem dX7_cut_53 : decode cX7_cut 53 = .ok (.bipush 122, 2) := by decide +kernel
theorem dX7_cut_55 : decode cX7_cut 55 = .ok (.if_icmp .gt 48, 3) := by decide +kernel
theorem dX7_cut_58 : decode cX7_cut 58 = .ok (.iload_n 3, 1) := by decide +kernel
theorem dX7_cut_59 : decode cX7_cut 59 = .ok (.iload_n 1, 1) := by decide +kernel
theorem dX7_cut_60 : decode cX7_cut 60 = .ok (.if_icmp .ge 31, 3) := by decide +kernel
theorem dX7_cut_63 : decode cX7_cut 63 = .ok (.aload_n 0, 1) := by decide +kernel
theorem dX7_cut_64 : decode cX7_cut 64 = .ok (.getfield 25, 3) := by decide +kernel
theorem dX7_cut_67 : decode cX7_cut 67 = .ok (.iload_n 3, 1) := by decide +kernel
theorem dX7_cut_68 : decode cX7_cut 68 = .ok (.iaload, 1) := by decide +kernel
theorem dX7_cut_69 : decode cX7_cut 69 = .ok (.bipush 97, 2) := by decide +kernel
theorem dX7_cut_71 : decode cX7_cut 71 = .ok (.if_icmp .lt 20, 3) := by decide +kernel
theorem dX7_cut_74 : decode cX7_cut 74 = .ok (.aload_n 0, 1) := by decide +kernel
theorem dX7_cut_75 : decode cX7_cut 75 = .ok (.getfield 25, 3) := by decide +kernel
theorem dX7_cut_78 : decode cX7_cut 78 = .ok (.iload_n 3, 1) := by decide +kernel
theorem dX7_cut_79 : decode cX7_cut 79 = .ok (.iaload, 1) := by decide +kernel
theorem dX7_cut_80 : decode cX7_cut 80 = .ok (.bipush 122, 2) := by decide +kernel
theorem dX7_cut_82 : decode cX7_cut 82 = .ok (.if_icmp .gt 9, 3) := by decide +kernel
theorem dX7_cut_85 : decode cX7_cut 85 = .ok (.iinc 3 1, 3) := by decide +kernel
theorem dX7_cut_88 : decode cX7_cut 88 = .ok (.goto (-30), 3) := by decide +kernel
theorem dX7_cut_91 : decode cX7_cut 91 = .ok (.aload_n 0, 1) := by decide +kernel
theorem dX7_cut_92 : decode cX7_cut 92 = .ok (.iload 4, 2) := by decide +kernel
theorem dX7_cut_94 : decode cX7_cut 94 = .ok (.iload_n 3, 1) := by decide +kernel
theorem dX7_cut_95 : decode cX7_cut 95 = .ok (.invokevirtual 65, 3) := by decide +kernel
theorem dX7_cut_98 : decode cX7_cut 98 = .ok (.istore 6, 2) := by decide +kernel
theorem dX7_cut_100 : decode cX7_cut 100 = .ok (.goto 54, 3) := by decide +kernel
theorem dX7_cut_103 : decode cX7_cut 103 = .ok (.iload 5, 2) := by decide +kernel
theorem dX7_cut_105 : decode cX7_cut 105 = .ok (.bipush 48, 2) := by decide +kernel
theorem dX7_cut_107 : decode cX7_cut 107 = .ok (.if_icmp .lt 47, 3) := by decide +kernel
theorem dX7_cut_110 : decode cX7_cut 110 = .ok (.iload 5, 2) := by decide +kernel
theorem dX7_cut_112 : decode cX7_cut 112 = .ok (.bipush 57, 2) := by decide +kernel
theorem dX7_cut_114 : decode cX7_cut 114 = .ok (.if_icmp .gt 40, 3) := by decide +kernel
theorem dX7_cut_117 : decode cX7_cut 117 = .ok (.iload_n 3, 1) := by decide +kernel
theorem dX7_cut_118 : decode cX7_cut 118 = .ok (.iload_n 1, 1) := by decide +kernel
theorem dX7_cut_119 : decode cX7_cut 119 = .ok (.if_icmp .ge 31, 3) := by decide +kernel
theorem dX7_cut_122 : decode cX7_cut 122 = .ok (.aload_n 0, 1) := by decide +kernel
theorem dX7_cut_123 : decode cX7_cut 123 = .ok (.getfield 25, 3) := by decide +kernel
theorem dX7_cut_126 : decode cX7_cut 126 = .ok (.iload_n 3, 1) := by decide +kernel
theorem dX7_cut_127 : decode cX7_cut 127 = .ok (.iaload, 1) := by decide +kernel
theorem dX7_cut_128 : decode cX7_cut 128 = .ok (.bipush 48, 2) := by decide +kernel
theorem dX7_cut_130 : decode cX7_cut 130 = .ok (.if_icmp .lt 20, 3) := by decide +kernel
theorem dX7_cut_133 : decode cX7_cut 133 = .ok (.aload_n 0, 1) := by decide +kernel
theorem dX7_cut_134 : decode cX7_cut 134 = .ok (.getfield 25, 3) := by decide +kernel
theorem dX7_cut_137 : decode cX7_cut 137 = .ok (.iload_n 3, 1) := by decide +kernel
theorem dX7_cut_138 : decode cX7_cut 138 = .ok (.iaload, 1) := by decide +kernel
theorem dX7_cut_139 : decode cX7_cut 139 = .ok (.bipush 57, 2) := by decide +kernel
theorem dX7_cut_141 : decode cX7_cut 141 = .ok (.if_icmp .gt 9, 3) := by decide +kernel
theorem dX7_cut_144 : decode cX7_cut 144 = .ok (.iinc 3 1, 3) := by decide +kernel
theorem dX7_cut_147 : decode cX7_cut 147 = .ok (.goto (-30), 3) := by decide +kernel
theorem dX7_cut_150 : decode cX7_cut 150 = .ok (.bipush 28, 2) := by decide +kernel
theorem dX7_cut_152 : decode cX7_cut 152 = .ok (.istore 6, 2) := by decide +kernel
theorem dX7_cut_154 : decode cX7_cut 154 = .ok (.aload_n 0, 1) := by decide +kernel
theorem dX7_cut_155 : decode cX7_cut 155 = .ok (.getfield 9, 3) := by decide +kernel
theorem dX7_cut_158 : decode cX7_cut 158 = .ok (.iload_n 2, 1) := by decide +kernel
theorem dX7_cut_159 : decode cX7_cut 159 = .ok (.iload 4, 2) := by decide +kernel
theorem dX7_cut_161 : decode cX7_cut 161 = .ok (.iastore, 1) := by decide +kernel
theorem dX7_cut_162 : decode cX7_cut 162 = .ok (.aload_n 0, 1) := by decide +kernel
theorem dX7_cut_163 : decode cX7_cut 163 = .ok (.getfield 15, 3) := by decide +kernel
theorem dX7_cut_166 : decode cX7_cut 166 = .ok (.iload_n 2, 1) := by decide +kernel
theorem dX7_cut_167 : decode cX7_cut 167 = .ok (.iload_n 3, 1) := by decide +kernel
theorem dX7_cut_168 : decode cX7_cut 168 = .ok (.iastore, 1) := by decide +kernel
theorem dX7_cut_169 : decode cX7_cut 169 = .ok (.aload_n 0, 1) := by decide +kernel
theorem dX7_cut_170 : decode cX7_cut 170 = .ok (.getfield 18, 3) := by decide +kernel
theorem dX7_cut_173 : decode cX7_cut 173 = .ok (.iload_n 2, 1) := by decide +kernel
theorem dX7_cut_174 : decode cX7_cut 174 = .ok (.iinc 2 1, 3) := by decide +kernel
theorem dX7_cut_177 : decode cX7_cut 177 = .ok (.iload 6, 2) := by decide +kernel
theorem dX7_cut_179 : decode cX7_cut 179 = .ok (.iastore, 1) := by decide +kernel
theorem dX7_cut_180 : decode cX7_cut 180 = .ok (.goto (-176), 3) := by decide +kernel
theorem dX7_cut_183 : decode cX7_cut 183 = .ok (.aload_n 0, 1) := by decide +kernel
theorem dX7_cut_184 : decode cX7_cut 184 = .ok (.getfield 9, 3) := by decide +kernel
theorem dX7_cut_187 : decode cX7_cut 187 = .ok (.iload_n 2, 1) := by decide +kernel
theorem dX7_cut_188 : decode cX7_cut 188 = .ok (.iload_n 1, 1) := by decide +kernel
theorem dX7_cut_189 : decode cX7_cut 189 = .ok (.iastore, 1) := by decide +kernel
theorem dX7_cut_190 : decode cX7_cut 190 = .ok (.aload_n 0, 1) := by decide +kernel
theorem dX7_cut_191 : decode cX7_cut 191 = .ok (.getfield 15, 3) := by decide +kernel
theorem dX7_cut_194 : decode cX7_cut 194 = .ok (.iload_n 2, 1) := by decide +kernel
theorem dX7_cut_195 : decode cX7_cut 195 = .ok (.iload_n 1, 1) := by decide +kernel
theorem dX7_cut_196 : decode cX7_cut 196 = .ok (.iastore, 1) := by decide +kernel
theorem dX7_cut_197 : decode cX7_cut 197 = .ok (.aload_n 0, 1) := by decide +kernel
theorem dX7_cut_198 : decode cX7_cut 198 = .ok (.getfield 18, 3) := by decide +kernel
theorem dX7_cut_201 : decode cX7_cut 201 = .ok (.iload_n 2, 1) := by decide +kernel
theorem dX7_cut_202 : decode cX7_cut 202 = .ok (.bipush 30, 2) := by decide +kernel
theorem dX7_cut_204 : decode cX7_cut 204 = .ok (.iastore, 1) := by decide +kernel
theorem dX7_cut_205 : decode cX7_cut 205 = .ok (.return_, 1) := by decide +kernel
theorem dX7_emit_0 : decode cX7_emit 0 = .ok (.aload_n 0, 1) := by decide +kernel
theorem dX7_emit_1 : decode cX7_emit 1 = .ok (.getfield 48, 3) := by decide +kernel
theorem dX7_emit_4 : decode cX7_emit 4 = .ok (.aload_n 0, 1) := by decide +kernel
theorem dX7_emit_5 : decode cX7_emit 5 = .ok (.getfield 21, 3) := by decide +kernel
theorem dX7_emit_8 : decode cX7_emit 8 = .ok (.getfield 180, 3) := by decide +kernel
theorem dX7_emit_11 : decode cX7_emit 11 = .ok (.arraylength, 1) := by decide +kernel
theorem dX7_emit_12 : decode cX7_emit 12 = .ok (.if_icmp .ge 23, 3) := by decide +kernel
theorem dX7_emit_15 : decode cX7_emit 15 = .ok (.aload_n 0, 1) := by decide +kernel
theorem dX7_emit_16 : decode cX7_emit 16 = .ok (.getfield 21, 3) := by decide +kernel
theorem dX7_emit_19 : decode cX7_emit 19 = .ok (.getfield 180, 3) := by decide +kernel
theorem dX7_emit_22 : decode cX7_emit 22 = .ok (.aload_n 0, 1) := by decide +kernel
theorem dX7_emit_23 : decode cX7_emit 23 = .ok (.dup, 1) := by decide +kernel
theorem dX7_emit_24 : decode cX7_emit 24 = .ok (.getfield 48, 3) := by decide +kernel
theorem dX7_emit_27 : decode cX7_emit 27 = .ok (.dup_x1, 1) := by decide +kernel
theorem dX7_emit_28 : decode cX7_emit 28 = .ok (.iconst 1, 1) := by decide +kernel
theorem dX7_emit_29 : decode cX7_emit 29 = .ok (.iadd, 1) := by decide +kernel
theorem dX7_emit_30 : decode cX7_emit 30 = .ok (.putfield 48, 3) := by decide +kernel
theorem dX7_emit_33 : decode cX7_emit 33 = .ok (.iload_n 1, 1) := by decide +kernel
theorem dX7_emit_34 : decode cX7_emit 34 = .ok (.iastore, 1) := by decide +kernel
theorem dX7_emit_35 : decode cX7_emit 35 = .ok (.return_, 1) := by decide +kernel
theorem dX7_exceptionStands_0 : decode cX7_exceptionStands 0 = .ok (.aload_n 0, 1) := by decide +kernel
theorem dX7_exceptionStands_1 : decode cX7_exceptionStands 1 = .ok (.getfield 21, 3) := by decide +kernel
theorem dX7_exceptionStands_4 : decode cX7_exceptionStands 4 = .ok (.getfield 125, 3) := by decide +kernel
theorem dX7_exceptionStands_7 : decode cX7_exceptionStands 7 = .ok (.iconst 4, 1) := by decide +kernel
theorem dX7_exceptionStands_8 : decode cX7_exceptionStands 8 = .ok (.dup2, 1) := by decide +kernel
theorem dX7_exceptionStands_9 : decode cX7_exceptionStands 9 = .ok (.iaload, 1) := by decide +kernel
theorem dX7_exceptionStands_10 : decode cX7_exceptionStands 10 = .ok (.dup_x2, 1) := by decide +kernel
theorem dX7_exceptionStands_11 : decode cX7_exceptionStands 11 = .ok (.iconst 1, 1) := by decide +kernel
theorem dX7_exceptionStands_12 : decode cX7_exceptionStands 12 = .ok (.iadd, 1) := by decide +kernel
theorem dX7_exceptionStands_13 : decode cX7_exceptionStands 13 = .ok (.iastore, 1) := by decide +kernel
theorem dX7_exceptionStands_14 : decode cX7_exceptionStands 14 = .ok (.istore_n 1, 1) := by decide +kernel
theorem dX7_exceptionStands_15 : decode cX7_exceptionStands 15 = .ok (.aload_n 0, 1) := by decide +kernel
theorem dX7_exceptionStands_16 : decode cX7_exceptionStands 16 = .ok (.getfield 21, 3) := by decide +kernel
theorem dX7_exceptionStands_19 : decode cX7_exceptionStands 19 = .ok (.getfield 158, 3) := by decide +kernel
theorem dX7_exceptionStands_22 : decode cX7_exceptionStands 22 = .ok (.iload_n 1, 1) := by decide +kernel
theorem dX7_exceptionStands_23 : decode cX7_exceptionStands 23 = .ok (.aload_n 0, 1) := by decide +kernel
theorem dX7_exceptionStands_24 : decode cX7_exceptionStands 24 = .ok (.getfield 76, 3) := by decide +kernel
theorem dX7_exceptionStands_27 : decode cX7_exceptionStands 27 = .ok (.iastore, 1) := by decide +kernel
theorem dX7_exceptionStands_28 : decode cX7_exceptionStands 28 = .ok (.aload_n 0, 1) := by decide +kernel
theorem dX7_exceptionStands_29 : decode cX7_exceptionStands 29 = .ok (.getfield 21, 3) := by decide +kernel
theorem dX7_exceptionStands_32 : decode cX7_exceptionStands 32 = .ok (.getfield 161, 3) := by decide +kernel
theorem dX7_exceptionStands_35 : decode cX7_exceptionStands 35 = .ok (.iload_n 1, 1) := by decide +kernel
theorem dX7_exceptionStands_36 : decode cX7_exceptionStands 36 = .ok (.iconst 1, 1) := by decide +kernel
theorem dX7_exceptionStands_37 : decode cX7_exceptionStands 37 = .ok (.iadd, 1) := by decide +kernel
theorem dX7_exceptionStands_38 : decode cX7_exceptionStands 38 = .ok (.aload_n 0, 1) := by decide +kernel
theorem dX7_exceptionStands_39 : decode cX7_exceptionStands 39 = .ok (.getfield 48, 3) := by decide +kernel
theorem dX7_exceptionStands_42 : decode cX7_exceptionStands 42 = .ok (.iastore, 1) := by decide +kernel
theorem dX7_exceptionStands_43 : decode cX7_exceptionStands 43 = .ok (.iconst 1, 1) := by decide +kernel
theorem dX7_exceptionStands_44 : decode cX7_exceptionStands 44 = .ok (.ireturn, 1) := by decide +kernel
theorem dX7_fact_0 : decode cX7_fact 0 = .ok (.aload_n 0, 1) := by decide +kernel
theorem dX7_fact_1 : decode cX7_fact 1 = .ok (.getfield 45, 3) := by decide +kernel
theorem dX7_fact_4 : decode cX7_fact 4 = .ok (.bipush 18, 2) := by decide +kernel
theorem dX7_fact_6 : decode cX7_fact 6 = .ok (.if_icmp .ne 33, 3) := by decide +kernel
theorem dX7_fact_9 : decode cX7_fact 9 = .ok (.aload_n 0, 1) := by decide +kernel
theorem dX7_fact_10 : decode cX7_fact 10 = .ok (.iload_n 1, 1) := by decide +kernel
theorem dX7_fact_11 : decode cX7_fact 11 = .ok (.invokevirtual 189, 3) := by decide +kernel
theorem dX7_fact_14 : decode cX7_fact 14 = .ok (.ifCond .ne 5, 3) := by decide +kernel
theorem dX7_fact_17 : decode cX7_fact 17 = .ok (.iconst 0, 1) := by decide +kernel
theorem dX7_fact_18 : decode cX7_fact 18 = .ok (.ireturn, 1) := by decide +kernel
theorem dX7_fact_19 : decode cX7_fact 19 = .ok (.aload_n 0, 1) := by decide +kernel
theorem dX7_fact_20 : decode cX7_fact 20 = .ok (.invokevirtual 62, 3) := by decide +kernel
theorem dX7_fact_23 : decode cX7_fact 23 = .ok (.aload_n 0, 1) := by decide +kernel
theorem dX7_fact_24 : decode cX7_fact 24 = .ok (.iload_n 1, 1) := by decide +kernel
theorem dX7_fact_25 : decode cX7_fact 25 = .ok (.iconst 1, 1) := by decide +kernel
theorem dX7_fact_26 : decode cX7_fact 26 = .ok (.iadd, 1) := by decide +kernel
theorem dX7_fact_27 : decode cX7_fact 27 = .ok (.invokevirtual 183, 3) := by decide +kernel
theorem dX7_fact_30 : decode cX7_fact 30 = .ok (.istore_n 2, 1) := by decide +kernel
theorem dX7_fact_31 : decode cX7_fact 31 = .ok (.aload_n 0, 1) := by decide +kernel
theorem dX7_fact_32 : decode cX7_fact 32 = .ok (.bipush (-15), 2) := by decide +kernel
theorem dX7_fact_34 : decode cX7_fact 34 = .ok (.invokevirtual 186, 3) := by decide +kernel
theorem dX7_fact_37 : decode cX7_fact 37 = .ok (.iload_n 2, 1) := by decide +kernel
theorem dX7_fact_38 : decode cX7_fact 38 = .ok (.ireturn, 1) := by decide +kernel
theorem dX7_fact_39 : decode cX7_fact 39 = .ok (.aload_n 0, 1) := by decide +kernel
theorem dX7_fact_40 : decode cX7_fact 40 = .ok (.bipush 91, 2) := by decide +kernel
theorem dX7_fact_42 : decode cX7_fact 42 = .ok (.invokevirtual 164, 3) := by decide +kernel
theorem dX7_fact_45 : decode cX7_fact 45 = .ok (.ifCond .eq 45, 3) := by decide +kernel
theorem dX7_fact_48 : decode cX7_fact 48 = .ok (.aload_n 0, 1) := by decide +kernel
theorem dX7_fact_49 : decode cX7_fact 49 = .ok (.iload_n 1, 1) := by decide +kernel
theorem dX7_fact_50 : decode cX7_fact 50 = .ok (.invokevirtual 189, 3) := by decide +kernel
theorem dX7_fact_53 : decode cX7_fact 53 = .ok (.ifCond .eq 35, 3) := by decide +kernel
theorem dX7_fact_56 : decode cX7_fact 56 = .ok (.aload_n 0, 1) := by decide +kernel
theorem dX7_fact_57 : decode cX7_fact 57 = .ok (.bipush 91, 2) := by decide +kernel
theorem dX7_fact_59 : decode cX7_fact 59 = .ok (.invokevirtual 122, 3) := by decide +kernel
theorem dX7_fact_62 : decode cX7_fact 62 = .ok (.ifCond .eq 26, 3) := by decide +kernel
theorem dX7_fact_65 : decode cX7_fact 65 = .ok (.aload_n 0, 1) := by decide +kernel
theorem dX7_fact_66 : decode cX7_fact 66 = .ok (.iload_n 1, 1) := by decide +kernel
theorem dX7_fact_67 : decode cX7_fact 67 = .ok (.iconst 1, 1) := by decide +kernel
theorem dX7_fact_68 : decode cX7_fact 68 = .ok (.iadd, 1) := by decide +kernel
theorem dX7_fact_69 : decode cX7_fact 69 = .ok (.invokevirtual 103, 3) := by decide +kernel
theorem dX7_fact_72 : decode cX7_fact 72 = .ok (.ifCond .eq 16, 3) := by decide +kernel
theorem dX7_fact_75 : decode cX7_fact 75 = .ok (.aload_n 0, 1) := by decide +kernel
theorem dX7_fact_76 : decode cX7_fact 76 = .ok (.bipush 93, 2) := by decide +kernel
theorem dX7_fact_78 : decode cX7_fact 78 = .ok (.invokevirtual 122, 3) := by decide +kernel
theorem dX7_fact_81 : decode cX7_fact 81 = .ok (.ifCond .eq 7, 3) := by decide +kernel
theorem dX7_fact_84 : decode cX7_fact 84 = .ok (.iconst 1, 1) := by decide +kernel
theorem dX7_fact_85 : decode cX7_fact 85 = .ok (.goto 4, 3) := by decide +kernel
theorem dX7_fact_88 : decode cX7_fact 88 = .ok (.iconst 0, 1) := by decide +kernel
theorem dX7_fact_89 : decode cX7_fact 89 = .ok (.ireturn, 1) := by decide +kernel
theorem dX7_fact_90 : decode cX7_fact 90 = .ok (.aload_n 0, 1) := by decide +kernel
theorem dX7_fact_91 : decode cX7_fact 91 = .ok (.getfield 45, 3) := by decide +kernel
theorem dX7_fact_94 : decode cX7_fact 94 = .ok (.bipush 19, 2) := by decide +kernel
theorem dX7_fact_96 : decode cX7_fact 96 = .ok (.if_icmp .ne 14, 3) := by decide +kernel
theorem dX7_fact_99 : decode cX7_fact 99 = .ok (.aload_n 0, 1) := by decide +kernel
theorem dX7_fact_100 : decode cX7_fact 100 = .ok (.iconst 1, 1) := by decide +kernel
theorem dX7_fact_101 : decode cX7_fact 101 = .ok (.invokevirtual 186, 3) := by decide +kernel
theorem dX7_fact_104 : decode cX7_fact 104 = .ok (.aload_n 0, 1) := by decide +kernel
theorem dX7_fact_105 : decode cX7_fact 105 = .ok (.invokevirtual 62, 3) := by decide +kernel
theorem dX7_fact_108 : decode cX7_fact 108 = .ok (.iconst 1, 1) := by decide +kernel
theorem dX7_fact_109 : decode cX7_fact 109 = .ok (.ireturn, 1) := by decide +kernel
theorem dX7_fact_110 : decode cX7_fact 110 = .ok (.aload_n 0, 1) := by decide +kernel
theorem dX7_fact_111 : decode cX7_fact 111 = .ok (.iload_n 1, 1) := by decide +kernel
theorem dX7_fact_112 : decode cX7_fact 112 = .ok (.invokevirtual 192, 3) := by decide +kernel
theorem dX7_fact_115 : decode cX7_fact 115 = .ok (.ifCond .ne 5, 3) := by decide +kernel
theorem dX7_fact_118 : decode cX7_fact 118 = .ok (.iconst 0, 1) := by decide +kernel
theorem dX7_fact_119 : decode cX7_fact 119 = .ok (.ireturn, 1) := by decide +kernel
theorem dX7_fact_120 : decode cX7_fact 120 = .ok (.aload_n 0, 1) := by decide +kernel
theorem dX7_fact_121 : decode cX7_fact 121 = .ok (.bipush 60, 2) := by decide +kernel
theorem dX7_fact_123 : decode cX7_fact 123 = .ok (.invokevirtual 164, 3) := by decide +kernel
theorem dX7_fact_126 : decode cX7_fact 126 = .ok (.ifCond .eq 8, 3) := by decide +kernel
theorem dX7_fact_129 : decode cX7_fact 129 = .ok (.bipush (-12), 2) := by decide +kernel
theorem dX7_fact_131 : decode cX7_fact 131 = .ok (.goto 32, 3) := by decide +kernel
theorem dX7_fact_134 : decode cX7_fact 134 = .ok (.aload_n 0, 1) := by decide +kernel
theorem dX7_fact_135 : decode cX7_fact 135 = .ok (.bipush 62, 2) := by decide +kernel
theorem dX7_fact_137 : decode cX7_fact 137 = .ok (.invokevirtual 164, 3) := by decide +kernel
theorem dX7_fact_140 : decode cX7_fact 140 = .ok (.ifCond .eq 8, 3) := by decide +kernel
theorem dX7_fact_143 : decode cX7_fact 143 = .ok (.bipush (-13), 2) := by decide +kernel
theorem dX7_fact_145 : decode cX7_fact 145 = .ok (.goto 18, 3) := by decide +kernel
theorem dX7_fact_148 : decode cX7_fact 148 = .ok (.aload_n 0, 1) := by decide +kernel
theorem dX7_fact_149 : decode cX7_fact 149 = .ok (.bipush 61, 2) := by decide +kernel
theorem dX7_fact_151 : decode cX7_fact 151 = .ok (.invokevirtual 164, 3) := by decide +kernel
theorem dX7_fact_154 : decode cX7_fact 154 = .ok (.ifCond .eq 8, 3) := by decide +kernel
theorem dX7_fact_157 : decode cX7_fact 157 = .ok (.bipush (-14), 2) := by decide +kernel
theorem dX7_fact_159 : decode cX7_fact 159 = .ok (.goto 4, 3) := by decide +kernel
theorem dX7_fact_162 : decode cX7_fact 162 = .ok (.iconst 0, 1) := by decide +kernel
theorem dX7_fact_163 : decode cX7_fact 163 = .ok (.istore_n 2, 1) := by decide +kernel
theorem dX7_fact_164 : decode cX7_fact 164 = .ok (.iload_n 2, 1) := by decide +kernel
theorem dX7_fact_165 : decode cX7_fact 165 = .ok (.ifCond .ne 13, 3) := by decide +kernel
theorem dX7_fact_168 : decode cX7_fact 168 = .ok (.aload_n 0, 1) := by decide +kernel
theorem dX7_fact_169 : decode cX7_fact 169 = .ok (.iconst 1, 1) := by decide +kernel
theorem dX7_fact_170 : decode cX7_fact 170 = .ok (.aload_n 0, 1) := by decide +kernel
theorem dX7_fact_171 : decode cX7_fact 171 = .ok (.getfield 79, 3) := by decide +kernel
theorem dX7_fact_174 : decode cX7_fact 174 = .ok (.invokevirtual 119, 3) := by decide +kernel
theorem dX7_fact_177 : decode cX7_fact 177 = .ok (.ireturn, 1) := by decide +kernel
theorem dX7_fact_178 : decode cX7_fact 178 = .ok (.aload_n 0, 1) := by decide +kernel
theorem dX7_fact_179 : decode cX7_fact 179 = .ok (.invokevirtual 62, 3) := by decide +kernel
theorem dX7_fact_182 : decode cX7_fact 182 = .ok (.aload_n 0, 1) := by decide +kernel
theorem dX7_fact_183 : decode cX7_fact 183 = .ok (.iload_n 1, 1) := by decide +kernel
theorem dX7_fact_184 : decode cX7_fact 184 = .ok (.invokevirtual 192, 3) := by decide +kernel
theorem dX7_fact_187 : decode cX7_fact 187 = .ok (.istore_n 3, 1) := by decide +kernel
theorem dX7_fact_188 : decode cX7_fact 188 = .ok (.aload_n 0, 1) := by decide +kernel
theorem dX7_fact_189 : decode cX7_fact 189 = .ok (.iload_n 2, 1) := by decide +kernel
theorem dX7_fact_190 : decode cX7_fact 190 = .ok (.invokevirtual 186, 3) := by decide +kernel
theorem dX7_fact_193 : decode cX7_fact 193 = .ok (.iload_n 3, 1) := by decide +kernel
theorem dX7_fact_194 : decode cX7_fact 194 = .ok (.ireturn, 1) := by decide +kernel
theorem dX7_fail_0 : decode cX7_fail 0 = .ok (.aload_n 0, 1) := by decide +kernel
theorem dX7_fail_1 : decode cX7_fail 1 = .ok (.iload_n 1, 1) := by decide +kernel
theorem dX7_fail_2 : decode cX7_fail 2 = .ok (.putfield 51, 3) := by decide +kernel
theorem dX7_fail_5 : decode cX7_fail 5 = .ok (.aload_n 0, 1) := by decide +kernel
theorem dX7_fail_6 : decode cX7_fail 6 = .ok (.iload_n 2, 1) := by decide +kernel
theorem dX7_fail_7 : decode cX7_fail 7 = .ok (.putfield 54, 3) := by decide +kernel
theorem dX7_fail_10 : decode cX7_fail 10 = .ok (.iconst 0, 1) := by decide +kernel
theorem dX7_fail_11 : decode cX7_fail 11 = .ok (.ireturn, 1) := by decide +kernel
theorem dX7_full_0 : decode cX7_full 0 = .ok (.aload_n 0, 1) := by decide +kernel
theorem dX7_full_1 : decode cX7_full 1 = .ok (.getfield 21, 3) := by decide +kernel
theorem dX7_full_4 : decode cX7_full 4 = .ok (.getfield 125, 3) := by decide +kernel
theorem dX7_full_7 : decode cX7_full 7 = .ok (.iload_n 1, 1) := by decide +kernel
theorem dX7_full_8 : decode cX7_full 8 = .ok (.iaload, 1) := by decide +kernel
theorem dX7_full_9 : decode cX7_full 9 = .ok (.iload_n 2, 1) := by decide +kernel
theorem dX7_full_10 : decode cX7_full 10 = .ok (.if_icmp .lt 15, 3) := by decide +kernel
theorem dX7_full_13 : decode cX7_full 13 = .ok (.aload_n 0, 1) := by decide +kernel
theorem dX7_full_14 : decode cX7_full 14 = .ok (.iconst 5, 1) := by decide +kernel
theorem dX7_full_15 : decode cX7_full 15 = .ok (.aload_n 0, 1) := by decide +kernel
theorem dX7_full_16 : decode cX7_full 16 = .ok (.getfield 79, 3) := by decide +kernel
theorem dX7_full_19 : decode cX7_full 19 = .ok (.invokevirtual 119, 3) := by decide +kernel
theorem dX7_full_22 : decode cX7_full 22 = .ok (.pop, 1) := by decide +kernel
theorem dX7_full_23 : decode cX7_full 23 = .ok (.iconst 1, 1) := by decide +kernel
theorem dX7_full_24 : decode cX7_full 24 = .ok (.ireturn, 1) := by decide +kernel
theorem dX7_full_25 : decode cX7_full 25 = .ok (.aload_n 0, 1) := by decide +kernel
theorem dX7_full_26 : decode cX7_full 26 = .ok (.invokevirtual 62, 3) := by decide +kernel
theorem dX7_full_29 : decode cX7_full 29 = .ok (.aload_n 0, 1) := by decide +kernel
theorem dX7_full_30 : decode cX7_full 30 = .ok (.iconst 0, 1) := by decide +kernel
theorem dX7_full_31 : decode cX7_full 31 = .ok (.putfield 76, 3) := by decide +kernel
theorem dX7_full_34 : decode cX7_full 34 = .ok (.iconst 0, 1) := by decide +kernel
theorem dX7_full_35 : decode cX7_full 35 = .ok (.ireturn, 1) := by decide +kernel
theorem dX7_init_0 : decode cX7_init 0 = .ok (.aload_n 0, 1) := by decide +kernel
theorem dX7_init_1 : decode cX7_init 1 = .ok (.invokespecial 3, 3) := by decide +kernel
theorem dX7_init_4 : decode cX7_init 4 = .ok (.aload_n 0, 1) := by decide +kernel
theorem dX7_init_5 : decode cX7_init 5 = .ok (.sipush 1601, 3) := by decide +kernel
theorem dX7_init_8 : decode cX7_init 8 = .ok (.newarray .int, 2) := by decide +kernel
theorem dX7_init_10 : decode cX7_init 10 = .ok (.putfield 9, 3) := by decide +kernel
theorem dX7_init_13 : decode cX7_init 13 = .ok (.aload_n 0, 1) := by decide +kernel
theorem dX7_init_14 : decode cX7_init 14 = .ok (.sipush 1601, 3) := by decide +kernel
theorem dX7_init_17 : decode cX7_init 17 = .ok (.newarray .int, 2) := by decide +kernel
theorem dX7_init_19 : decode cX7_init 19 = .ok (.putfield 15, 3) := by decide +kernel
theorem dX7_init_22 : decode cX7_init 22 = .ok (.aload_n 0, 1) := by decide +kernel
theorem dX7_init_23 : decode cX7_init 23 = .ok (.sipush 1601, 3) := by decide +kernel
theorem dX7_init_26 : decode cX7_init 26 = .ok (.newarray .int, 2) := by decide +kernel
theorem dX7_init_28 : decode cX7_init 28 = .ok (.putfield 18, 3) := by decide +kernel
theorem dX7_init_31 : decode cX7_init 31 = .ok (.aload_n 0, 1) := by decide +kernel
theorem dX7_init_32 : decode cX7_init 32 = .ok (.aload_n 1, 1) := by decide +kernel
theorem dX7_init_33 : decode cX7_init 33 = .ok (.putfield 21, 3) := by decide +kernel
theorem dX7_init_36 : decode cX7_init 36 = .ok (.aload_n 0, 1) := by decide +kernel
theorem dX7_init_37 : decode cX7_init 37 = .ok (.aload_n 2, 1) := by decide +kernel
theorem dX7_init_38 : decode cX7_init 38 = .ok (.putfield 25, 3) := by decide +kernel
theorem dX7_init_41 : decode cX7_init 41 = .ok (.return_, 1) := by decide +kernel
theorem dX7_isSign_0 : decode cX7_isSign 0 = .ok (.aload_n 0, 1) := by decide +kernel
theorem dX7_isSign_1 : decode cX7_isSign 1 = .ok (.getfield 45, 3) := by decide +kernel
theorem dX7_isSign_4 : decode cX7_isSign 4 = .ok (.bipush 29, 2) := by decide +kernel
theorem dX7_isSign_6 : decode cX7_isSign 6 = .ok (.if_icmp .ne 20, 3) := by decide +kernel
theorem dX7_isSign_9 : decode cX7_isSign 9 = .ok (.aload_n 0, 1) := by decide +kernel
theorem dX7_isSign_10 : decode cX7_isSign 10 = .ok (.getfield 25, 3) := by decide +kernel
theorem dX7_isSign_13 : decode cX7_isSign 13 = .ok (.aload_n 0, 1) := by decide +kernel
theorem dX7_isSign_14 : decode cX7_isSign 14 = .ok (.getfield 79, 3) := by decide +kernel
theorem dX7_isSign_17 : decode cX7_isSign 17 = .ok (.iaload, 1) := by decide +kernel
theorem dX7_isSign_18 : decode cX7_isSign 18 = .ok (.iload_n 1, 1) := by decide +kernel
theorem dX7_isSign_19 : decode cX7_isSign 19 = .ok (.if_icmp .ne 7, 3) := by decide +kernel
theorem dX7_isSign_22 : decode cX7_isSign 22 = .ok (.iconst 1, 1) := by decide +kernel
theorem dX7_isSign_23 : decode cX7_isSign 23 = .ok (.goto 4, 3) := by decide +kernel
theorem dX7_isSign_26 : decode cX7_isSign 26 = .ok (.iconst 0, 1) := by decide +kernel
theorem dX7_isSign_27 : decode cX7_isSign 27 = .ok (.ireturn, 1) := by decide +kernel
theorem dX7_kindOfWord_0 : decode cX7_kindOfWord 0 = .ok (.iload_n 2, 1) := by decide +kernel
theorem dX7_kindOfWord_1 : decode cX7_kindOfWord 1 = .ok (.iload_n 1, 1) := by decide +kernel
theorem dX7_kindOfWord_2 : decode cX7_kindOfWord 2 = .ok (.isub, 1) := by decide +kernel
theorem dX7_kindOfWord_3 : decode cX7_kindOfWord 3 = .ok (.istore_n 3, 1) := by decide +kernel
theorem dX7_kindOfWord_4 : decode cX7_kindOfWord 4 = .ok (.iconst 0, 1) := by decide +kernel
theorem dX7_kindOfWord_5 : decode cX7_kindOfWord 5 = .ok (.istore 4, 2) := by decide +kernel
theorem dX7_kindOfWord_7 : decode cX7_kindOfWord 7 = .ok (.iload 4, 2) := by decide +kernel
theorem dX7_kindOfWord_9 : decode cX7_kindOfWord 9 = .ok (.bipush 26, 2) := by decide +kernel
theorem dX7_kindOfWord_11 : decode cX7_kindOfWord 11 = .ok (.if_icmp .gt 82, 3) := by decide +kernel
theorem dX7_kindOfWord_14 : decode cX7_kindOfWord 14 = .ok (.iload_n 3, 1) := by decide +kernel
theorem dX7_kindOfWord_15 : decode cX7_kindOfWord 15 = .ok (.bipush 8, 2) := by decide +kernel
theorem dX7_kindOfWord_17 : decode cX7_kindOfWord 17 = .ok (.if_icmp .ge 76, 3) := by decide +kernel
theorem dX7_kindOfWord_20 : decode cX7_kindOfWord 20 = .ok (.iconst 0, 1) := by decide +kernel
theorem dX7_kindOfWord_21 : decode cX7_kindOfWord 21 = .ok (.istore 5, 2) := by decide +kernel
theorem dX7_kindOfWord_23 : decode cX7_kindOfWord 23 = .ok (.iload 5, 2) := by decide +kernel
theorem dX7_kindOfWord_25 : decode cX7_kindOfWord 25 = .ok (.iload_n 3, 1) := by decide +kernel
theorem dX7_kindOfWord_26 : decode cX7_kindOfWord 26 = .ok (.if_icmp .ge 34, 3) := by decide +kernel
theorem dX7_kindOfWord_29 : decode cX7_kindOfWord 29 = .ok (.ldc 68, 2) := by decide +kernel
theorem dX7_kindOfWord_31 : decode cX7_kindOfWord 31 = .ok (.iload 4, 2) := by decide +kernel
theorem dX7_kindOfWord_33 : decode cX7_kindOfWord 33 = .ok (.bipush 8, 2) := by decide +kernel
theorem dX7_kindOfWord_35 : decode cX7_kindOfWord 35 = .ok (.imul, 1) := by decide +kernel
theorem dX7_kindOfWord_36 : decode cX7_kindOfWord 36 = .ok (.iload 5, 2) := by decide +kernel
theorem dX7_kindOfWord_38 : decode cX7_kindOfWord 38 = .ok (.iadd, 1) := by decide +kernel
theorem dX7_kindOfWord_39 : decode cX7_kindOfWord 39 = .ok (.invokevirtual 70, 3) := by decide +kernel
theorem dX7_kindOfWord_42 : decode cX7_kindOfWord 42 = .ok (.aload_n 0, 1) := by decide +kernel
theorem dX7_kindOfWord_43 : decode cX7_kindOfWord 43 = .ok (.getfield 25, 3) := by decide +kernel
theorem dX7_kindOfWord_46 : decode cX7_kindOfWord 46 = .ok (.iload_n 1, 1) := by decide +kernel
theorem dX7_kindOfWord_47 : decode cX7_kindOfWord 47 = .ok (.iload 5, 2) := by decide +kernel
theorem dX7_kindOfWord_49 : decode cX7_kindOfWord 49 = .ok (.iadd, 1) := by decide +kernel
theorem dX7_kindOfWord_50 : decode cX7_kindOfWord 50 = .ok (.iaload, 1) := by decide +kernel
theorem dX7_kindOfWord_51 : decode cX7_kindOfWord 51 = .ok (.if_icmp .ne 9, 3) := by decide +kernel
theorem dX7_kindOfWord_54 : decode cX7_kindOfWord 54 = .ok (.iinc 5 1, 3) := by decide +kernel
theorem dX7_kindOfWord_57 : decode cX7_kindOfWord 57 = .ok (.goto (-34), 3) := by decide +kernel
theorem dX7_kindOfWord_60 : decode cX7_kindOfWord 60 = .ok (.iload 5, 2) := by decide +kernel
theorem dX7_kindOfWord_62 : decode cX7_kindOfWord 62 = .ok (.iload_n 3, 1) := by decide +kernel
theorem dX7_kindOfWord_63 : decode cX7_kindOfWord 63 = .ok (.if_icmp .ne 24, 3) := by decide +kernel
theorem dX7_kindOfWord_66 : decode cX7_kindOfWord 66 = .ok (.ldc 68, 2) := by decide +kernel
theorem dX7_kindOfWord_68 : decode cX7_kindOfWord 68 = .ok (.iload 4, 2) := by decide +kernel
theorem dX7_kindOfWord_70 : decode cX7_kindOfWord 70 = .ok (.bipush 8, 2) := by decide +kernel
theorem dX7_kindOfWord_72 : decode cX7_kindOfWord 72 = .ok (.imul, 1) := by decide +kernel
theorem dX7_kindOfWord_73 : decode cX7_kindOfWord 73 = .ok (.iload 5, 2) := by decide +kernel
theorem dX7_kindOfWord_75 : decode cX7_kindOfWord 75 = .ok (.iadd, 1) := by decide +kernel
theorem dX7_kindOfWord_76 : decode cX7_kindOfWord 76 = .ok (.invokevirtual 70, 3) := by decide +kernel
theorem dX7_kindOfWord_79 : decode cX7_kindOfWord 79 = .ok (.bipush 32, 2) := by decide +kernel
theorem dX7_kindOfWord_81 : decode cX7_kindOfWord 81 = .ok (.if_icmp .ne 6, 3) := by decide +kernel
theorem dX7_kindOfWord_84 : decode cX7_kindOfWord 84 = .ok (.iload 4, 2) := by decide +kernel
theorem dX7_kindOfWord_86 : decode cX7_kindOfWord 86 = .ok (.ireturn, 1) := by decide +kernel
theorem dX7_kindOfWord_87 : decode cX7_kindOfWord 87 = .ok (.iinc 4 1, 3) := by decide +kernel
theorem dX7_kindOfWord_90 : decode cX7_kindOfWord 90 = .ok (.goto (-83), 3) := by decide +kernel
theorem dX7_kindOfWord_93 : decode cX7_kindOfWord 93 = .ok (.bipush 27, 2) := by decide +kernel
theorem dX7_kindOfWord_95 : decode cX7_kindOfWord 95 = .ok (.ireturn, 1) := by decide +kernel
theorem dX7_letterOfToken_0 : decode cX7_letterOfToken 0 = .ok (.aload_n 0, 1) := by decide +kernel
theorem dX7_letterOfToken_1 : decode cX7_letterOfToken 1 = .ok (.getfield 79, 3) := by decide +kernel
theorem dX7_letterOfToken_4 : decode cX7_letterOfToken 4 = .ok (.iload_n 1, 1) := by decide +kernel
theorem dX7_letterOfToken_5 : decode cX7_letterOfToken 5 = .ok (.iadd, 1) := by decide +kernel
theorem dX7_letterOfToken_6 : decode cX7_letterOfToken 6 = .ok (.aload_n 0, 1) := by decide +kernel
theorem dX7_letterOfToken_7 : decode cX7_letterOfToken 7 = .ok (.getfield 42, 3) := by decide +kernel
theorem dX7_letterOfToken_10 : decode cX7_letterOfToken 10 = .ok (.if_icmp .ge 22, 3) := by decide +kernel
theorem dX7_letterOfToken_13 : decode cX7_letterOfToken 13 = .ok (.aload_n 0, 1) := by decide +kernel
theorem dX7_letterOfToken_14 : decode cX7_letterOfToken 14 = .ok (.getfield 25, 3) := by decide +kernel
theorem dX7_letterOfToken_17 : decode cX7_letterOfToken 17 = .ok (.aload_n 0, 1) := by decide +kernel
theorem dX7_letterOfToken_18 : decode cX7_letterOfToken 18 = .ok (.getfield 79, 3) := by decide +kernel
theorem dX7_letterOfToken_21 : decode cX7_letterOfToken 21 = .ok (.iload_n 1, 1) := by decide +kernel
theorem dX7_letterOfToken_22 : decode cX7_letterOfToken 22 = .ok (.iadd, 1) := by decide +kernel
theorem dX7_letterOfToken_23 : decode cX7_letterOfToken 23 = .ok (.iaload, 1) := by decide +kernel
theorem dX7_letterOfToken_24 : decode cX7_letterOfToken 24 = .ok (.bipush 97, 2) := by decide +kernel
theorem dX7_letterOfToken_26 : decode cX7_letterOfToken 26 = .ok (.isub, 1) := by decide +kernel
theorem dX7_letterOfToken_27 : decode cX7_letterOfToken 27 = .ok (.iconst 1, 1) := by decide +kernel
theorem dX7_letterOfToken_28 : decode cX7_letterOfToken 28 = .ok (.iadd, 1) := by decide +kernel
theorem dX7_letterOfToken_29 : decode cX7_letterOfToken 29 = .ok (.goto 4, 3) := by decide +kernel
theorem dX7_letterOfToken_32 : decode cX7_letterOfToken 32 = .ok (.iconst 0, 1) := by decide +kernel
theorem dX7_letterOfToken_33 : decode cX7_letterOfToken 33 = .ok (.ireturn, 1) := by decide +kernel
theorem dX7_more_0 : decode cX7_more 0 = .ok (.aload_n 0, 1) := by decide +kernel
theorem dX7_more_1 : decode cX7_more 1 = .ok (.getfield 45, 3) := by decide +kernel
theorem dX7_more_4 : decode cX7_more 4 = .ok (.bipush 30, 2) := by decide +kernel
theorem dX7_more_6 : decode cX7_more 6 = .ok (.if_icmp .eq 7, 3) := by decide +kernel
theorem dX7_more_9 : decode cX7_more 9 = .ok (.iconst 1, 1) := by decide +kernel
theorem dX7_more_10 : decode cX7_more 10 = .ok (.goto 4, 3) := by decide +kernel
theorem dX7_more_13 : decode cX7_more 13 = .ok (.iconst 0, 1) := by decide +kernel
theorem dX7_more_14 : decode cX7_more 14 = .ok (.ireturn, 1) := by decide +kernel
theorem dX7_nameStands_0 : decode cX7_nameStands 0 = .ok (.aload_n 0, 1) := by decide +kernel
theorem dX7_nameStands_1 : decode cX7_nameStands 1 = .ok (.getfield 45, 3) := by decide +kernel
theorem dX7_nameStands_4 : decode cX7_nameStands 4 = .ok (.bipush 27, 2) := by decide +kernel
theorem dX7_nameStands_6 : decode cX7_nameStands 6 = .ok (.if_icmp .ne 10, 3) := by decide +kernel
theorem dX7_nameStands_9 : decode cX7_nameStands 9 = .ok (.aload_n 0, 1) := by decide +kernel
theorem dX7_nameStands_10 : decode cX7_nameStands 10 = .ok (.getfield 82, 3) := by decide +kernel
theorem dX7_nameStands_13 : decode cX7_nameStands 13 = .ok (.ifCond .eq 13, 3) := by decide +kernel
theorem dX7_nameStands_16 : decode cX7_nameStands 16 = .ok (.aload_n 0, 1) := by decide +kernel
theorem dX7_nameStands_17 : decode cX7_nameStands 17 = .ok (.iconst 1, 1) := by decide +kernel
theorem dX7_nameStands_18 : decode cX7_nameStands 18 = .ok (.aload_n 0, 1) := by decide +kernel
theorem dX7_nameStands_19 : decode cX7_nameStands 19 = .ok (.getfield 79, 3) := by decide +kernel
theorem dX7_nameStands_22 : decode cX7_nameStands 22 = .ok (.invokevirtual 119, 3) := by decide +kernel
theorem dX7_nameStands_25 : decode cX7_nameStands 25 = .ok (.ireturn, 1) := by decide +kernel
theorem dX7_nameStands_26 : decode cX7_nameStands 26 = .ok (.aload_n 0, 1) := by decide +kernel
theorem dX7_nameStands_27 : decode cX7_nameStands 27 = .ok (.getfield 42, 3) := by decide +kernel
theorem dX7_nameStands_30 : decode cX7_nameStands 30 = .ok (.aload_n 0, 1) := by decide +kernel
theorem dX7_nameStands_31 : decode cX7_nameStands 31 = .ok (.getfield 79, 3) := by decide +kernel
theorem dX7_nameStands_34 : decode cX7_nameStands 34 = .ok (.isub, 1) := by decide +kernel
theorem dX7_nameStands_35 : decode cX7_nameStands 35 = .ok (.bipush 6, 2) := by decide +kernel
theorem dX7_nameStands_37 : decode cX7_nameStands 37 = .ok (.if_icmp .le 18, 3) := by decide +kernel
theorem dX7_nameStands_40 : decode cX7_nameStands 40 = .ok (.aload_n 0, 1) := by decide +kernel
theorem dX7_nameStands_41 : decode cX7_nameStands 41 = .ok (.iconst 1, 1) := by decide +kernel
theorem dX7_nameStands_42 : decode cX7_nameStands 42 = .ok (.aload_n 0, 1) := by decide +kernel
theorem dX7_nameStands_43 : decode cX7_nameStands 43 = .ok (.getfield 79, 3) := by decide +kernel
theorem dX7_nameStands_46 : decode cX7_nameStands 46 = .ok (.bipush 6, 2) := by decide +kernel
theorem dX7_nameStands_48 : decode cX7_nameStands 48 = .ok (.iadd, 1) := by decide +kernel
theorem dX7_nameStands_49 : decode cX7_nameStands 49 = .ok (.invokevirtual 119, 3) := by decide +kernel
theorem dX7_nameStands_52 : decode cX7_nameStands 52 = .ok (.ifCond .eq 7, 3) := by decide +kernel
theorem dX7_nameStands_55 : decode cX7_nameStands 55 = .ok (.iconst 1, 1) := by decide +kernel
theorem dX7_nameStands_56 : decode cX7_nameStands 56 = .ok (.goto 4, 3) := by decide +kernel
theorem dX7_nameStands_59 : decode cX7_nameStands 59 = .ok (.iconst 0, 1) := by decide +kernel
theorem dX7_nameStands_60 : decode cX7_nameStands 60 = .ok (.ireturn, 1) := by decide +kernel
theorem dX7_named_0 : decode cX7_named 0 = .ok (.iconst 0, 1) := by decide +kernel
theorem dX7_named_1 : decode cX7_named 1 = .ok (.istore_n 3, 1) := by decide +kernel
theorem dX7_named_2 : decode cX7_named 2 = .ok (.iload_n 3, 1) := by decide +kernel
theorem dX7_named_3 : decode cX7_named 3 = .ok (.iload_n 2, 1) := by decide +kernel
theorem dX7_named_4 : decode cX7_named 4 = .ok (.if_icmp .ge 52, 3) := by decide +kernel
theorem dX7_named_7 : decode cX7_named 7 = .ok (.iconst 0, 1) := by decide +kernel
theorem dX7_named_8 : decode cX7_named 8 = .ok (.istore 4, 2) := by decide +kernel
theorem dX7_named_10 : decode cX7_named 10 = .ok (.iload 4, 2) := by decide +kernel
theorem dX7_named_12 : decode cX7_named 12 = .ok (.bipush 6, 2) := by decide +kernel
theorem dX7_named_14 : decode cX7_named 14 = .ok (.if_icmp .ge 27, 3) := by decide +kernel
theorem dX7_named_17 : decode cX7_named 17 = .ok (.aload_n 1, 1) := by decide +kernel
theorem dX7_named_18 : decode cX7_named 18 = .ok (.iload_n 3, 1) := by decide +kernel
theorem dX7_named_19 : decode cX7_named 19 = .ok (.bipush 6, 2) := by decide +kernel
theorem dX7_named_21 : decode cX7_named 21 = .ok (.imul, 1) := by decide +kernel
theorem dX7_named_22 : decode cX7_named 22 = .ok (.iload 4, 2) := by decide +kernel
theorem dX7_named_24 : decode cX7_named 24 = .ok (.iadd, 1) := by decide +kernel
theorem dX7_named_25 : decode cX7_named 25 = .ok (.iaload, 1) := by decide +kernel
theorem dX7_named_26 : decode cX7_named 26 = .ok (.aload_n 0, 1) := by decide +kernel
theorem dX7_named_27 : decode cX7_named 27 = .ok (.iload 4, 2) := by decide +kernel
theorem dX7_named_29 : decode cX7_named 29 = .ok (.invokevirtual 167, 3) := by decide +kernel
theorem dX7_named_32 : decode cX7_named 32 = .ok (.if_icmp .ne 9, 3) := by decide +kernel
theorem dX7_named_35 : decode cX7_named 35 = .ok (.iinc 4 1, 3) := by decide +kernel
theorem dX7_named_38 : decode cX7_named 38 = .ok (.goto (-28), 3) := by decide +kernel
theorem dX7_named_41 : decode cX7_named 41 = .ok (.iload 4, 2) := by decide +kernel
theorem dX7_named_43 : decode cX7_named 43 = .ok (.bipush 6, 2) := by decide +kernel
theorem dX7_named_45 : decode cX7_named 45 = .ok (.if_icmp .ne 5, 3) := by decide +kernel
theorem dX7_named_48 : decode cX7_named 48 = .ok (.iload_n 3, 1) := by decide +kernel
theorem dX7_named_49 : decode cX7_named 49 = .ok (.ireturn, 1) := by decide +kernel
theorem dX7_named_50 : decode cX7_named 50 = .ok (.iinc 3 1, 3) := by decide +kernel
theorem dX7_named_53 : decode cX7_named 53 = .ok (.goto (-51), 3) := by decide +kernel
theorem dX7_named_56 : decode cX7_named 56 = .ok (.iconst (-1), 1) := by decide +kernel
theorem dX7_named_57 : decode cX7_named 57 = .ok (.ireturn, 1) := by decide +kernel
theorem dX7_newName_0 : decode cX7_newName 0 = .ok (.aload_n 0, 1) := by decide +kernel
theorem dX7_newName_1 : decode cX7_newName 1 = .ok (.invokevirtual 170, 3) := by decide +kernel
theorem dX7_newName_4 : decode cX7_newName 4 = .ok (.ifCond .ne 5, 3) := by decide +kernel
theorem dX7_newName_7 : decode cX7_newName 7 = .ok (.iconst 0, 1) := by decide +kernel
theorem dX7_newName_8 : decode cX7_newName 8 = .ok (.ireturn, 1) := by decide +kernel
theorem dX7_newName_9 : decode cX7_newName 9 = .ok (.aload_n 0, 1) := by decide +kernel
theorem dX7_newName_10 : decode cX7_newName 10 = .ok (.aload_n 0, 1) := by decide +kernel
theorem dX7_newName_11 : decode cX7_newName 11 = .ok (.getfield 21, 3) := by decide +kernel
theorem dX7_newName_14 : decode cX7_newName 14 = .ok (.getfield 128, 3) := by decide +kernel
theorem dX7_newName_17 : decode cX7_newName 17 = .ok (.aload_n 0, 1) := by decide +kernel
theorem dX7_newName_18 : decode cX7_newName 18 = .ok (.getfield 21, 3) := by decide +kernel
theorem dX7_newName_21 : decode cX7_newName 21 = .ok (.getfield 125, 3) := by decide +kernel
theorem dX7_newName_24 : decode cX7_newName 24 = .ok (.iconst 0, 1) := by decide +kernel
theorem dX7_newName_25 : decode cX7_newName 25 = .ok (.iaload, 1) := by decide +kernel
theorem dX7_newName_26 : decode cX7_newName 26 = .ok (.invokevirtual 173, 3) := by decide +kernel
theorem dX7_newName_29 : decode cX7_newName 29 = .ok (.iconst (-1), 1) := by decide +kernel
theorem dX7_newName_30 : decode cX7_newName 30 = .ok (.if_icmp .ne 27, 3) := by decide +kernel
theorem dX7_newName_33 : decode cX7_newName 33 = .ok (.aload_n 0, 1) := by decide +kernel
theorem dX7_newName_34 : decode cX7_newName 34 = .ok (.aload_n 0, 1) := by decide +kernel
theorem dX7_newName_35 : decode cX7_newName 35 = .ok (.getfield 21, 3) := by decide +kernel
theorem dX7_newName_38 : decode cX7_newName 38 = .ok (.getfield 149, 3) := by decide +kernel
theorem dX7_newName_41 : decode cX7_newName 41 = .ok (.aload_n 0, 1) := by decide +kernel
theorem dX7_newName_42 : decode cX7_newName 42 = .ok (.getfield 21, 3) := by decide +kernel
theorem dX7_newName_45 : decode cX7_newName 45 = .ok (.getfield 125, 3) := by decide +kernel
theorem dX7_newName_48 : decode cX7_newName 48 = .ok (.iconst 2, 1) := by decide +kernel
theorem dX7_newName_49 : decode cX7_newName 49 = .ok (.iaload, 1) := by decide +kernel
theorem dX7_newName_50 : decode cX7_newName 50 = .ok (.invokevirtual 173, 3) := by decide +kernel
theorem dX7_newName_53 : decode cX7_newName 53 = .ok (.iconst (-1), 1) := by decide +kernel
theorem dX7_newName_54 : decode cX7_newName 54 = .ok (.if_icmp .eq 13, 3) := by decide +kernel
theorem dX7_newName_57 : decode cX7_newName 57 = .ok (.aload_n 0, 1) := by decide +kernel
theorem dX7_newName_58 : decode cX7_newName 58 = .ok (.iconst 3, 1) := by decide +kernel
theorem dX7_newName_59 : decode cX7_newName 59 = .ok (.aload_n 0, 1) := by decide +kernel
theorem dX7_newName_60 : decode cX7_newName 60 = .ok (.getfield 79, 3) := by decide +kernel
theorem dX7_newName_63 : decode cX7_newName 63 = .ok (.invokevirtual 119, 3) := by decide +kernel
theorem dX7_newName_66 : decode cX7_newName 66 = .ok (.ireturn, 1) := by decide +kernel
theorem dX7_newName_67 : decode cX7_newName 67 = .ok (.iconst 0, 1) := by decide +kernel
theorem dX7_newName_68 : decode cX7_newName 68 = .ok (.istore_n 3, 1) := by decide +kernel
theorem dX7_newName_69 : decode cX7_newName 69 = .ok (.iload_n 3, 1) := by decide +kernel
theorem dX7_newName_70 : decode cX7_newName 70 = .ok (.bipush 6, 2) := by decide +kernel
theorem dX7_newName_72 : decode cX7_newName 72 = .ok (.if_icmp .ge 22, 3) := by decide +kernel
theorem dX7_newName_75 : decode cX7_newName 75 = .ok (.aload_n 1, 1) := by decide +kernel
theorem dX7_newName_76 : decode cX7_newName 76 = .ok (.iload_n 2, 1) := by decide +kernel
theorem dX7_newName_77 : decode cX7_newName 77 = .ok (.bipush 6, 2) := by decide +kernel
theorem dX7_newName_79 : decode cX7_newName 79 = .ok (.imul, 1) := by decide +kernel
theorem dX7_newName_80 : decode cX7_newName 80 = .ok (.iload_n 3, 1) := by decide +kernel
theorem dX7_newName_81 : decode cX7_newName 81 = .ok (.iadd, 1) := by decide +kernel
theorem dX7_newName_82 : decode cX7_newName 82 = .ok (.aload_n 0, 1) := by decide +kernel
theorem dX7_newName_83 : decode cX7_newName 83 = .ok (.iload_n 3, 1) := by decide +kernel
theorem dX7_newName_84 : decode cX7_newName 84 = .ok (.invokevirtual 167, 3) := by decide +kernel
theorem dX7_newName_87 : decode cX7_newName 87 = .ok (.iastore, 1) := by decide +kernel
theorem dX7_newName_88 : decode cX7_newName 88 = .ok (.iinc 3 1, 3) := by decide +kernel
theorem dX7_newName_91 : decode cX7_newName 91 = .ok (.goto (-22), 3) := by decide +kernel
theorem dX7_newName_94 : decode cX7_newName 94 = .ok (.aload_n 0, 1) := by decide +kernel
theorem dX7_newName_95 : decode cX7_newName 95 = .ok (.invokevirtual 62, 3) := by decide +kernel
theorem dX7_newName_98 : decode cX7_newName 98 = .ok (.iconst 1, 1) := by decide +kernel
theorem dX7_newName_99 : decode cX7_newName 99 = .ok (.ireturn, 1) := by decide +kernel
theorem dX7_number_0 : decode cX7_number 0 = .ok (.aload_n 0, 1) := by decide +kernel
theorem dX7_number_1 : decode cX7_number 1 = .ok (.getfield 45, 3) := by decide +kernel
theorem dX7_number_4 : decode cX7_number 4 = .ok (.bipush 28, 2) := by decide +kernel
theorem dX7_number_6 : decode cX7_number 6 = .ok (.if_icmp .ne 10, 3) := by decide +kernel
theorem dX7_number_9 : decode cX7_number 9 = .ok (.aload_n 0, 1) := by decide +kernel
theorem dX7_number_10 : decode cX7_number 10 = .ok (.getfield 82, 3) := by decide +kernel
theorem dX7_number_13 : decode cX7_number 13 = .ok (.ifCond .eq 13, 3) := by decide +kernel
theorem dX7_number_16 : decode cX7_number 16 = .ok (.aload_n 0, 1) := by decide +kernel
theorem dX7_number_17 : decode cX7_number 17 = .ok (.iconst 1, 1) := by decide +kernel
theorem dX7_number_18 : decode cX7_number 18 = .ok (.aload_n 0, 1) := by decide +kernel
theorem dX7_number_19 : decode cX7_number 19 = .ok (.getfield 79, 3) := by decide +kernel
theorem dX7_number_22 : decode cX7_number 22 = .ok (.invokevirtual 119, 3) := by decide +kernel
theorem dX7_number_25 : decode cX7_number 25 = .ok (.ireturn, 1) := by decide +kernel
theorem dX7_number_26 : decode cX7_number 26 = .ok (.aload_n 0, 1) := by decide +kernel
theorem dX7_number_27 : decode cX7_number 27 = .ok (.getfield 42, 3) := by decide +kernel
theorem dX7_number_30 : decode cX7_number 30 = .ok (.aload_n 0, 1) := by decide +kernel
theorem dX7_number_31 : decode cX7_number 31 = .ok (.getfield 79, 3) := by decide +kernel
theorem dX7_number_34 : decode cX7_number 34 = .ok (.isub, 1) := by decide +kernel
theorem dX7_number_35 : decode cX7_number 35 = .ok (.iconst 4, 1) := by decide +kernel
theorem dX7_number_36 : decode cX7_number 36 = .ok (.if_icmp .le 15, 3) := by decide +kernel
theorem dX7_number_39 : decode cX7_number 39 = .ok (.aload_n 0, 1) := by decide +kernel
theorem dX7_number_40 : decode cX7_number 40 = .ok (.iconst 1, 1) := by decide +kernel
theorem dX7_number_41 : decode cX7_number 41 = .ok (.aload_n 0, 1) := by decide +kernel
theorem dX7_number_42 : decode cX7_number 42 = .ok (.getfield 79, 3) := by decide +kernel
theorem dX7_number_45 : decode cX7_number 45 = .ok (.iconst 4, 1) := by decide +kernel
theorem dX7_number_46 : decode cX7_number 46 = .ok (.iadd, 1) := by decide +kernel
theorem dX7_number_47 : decode cX7_number 47 = .ok (.invokevirtual 119, 3) := by decide +kernel
theorem dX7_number_50 : decode cX7_number 50 = .ok (.ireturn, 1) := by decide +kernel
theorem dX7_number_51 : decode cX7_number 51 = .ok (.aload_n 0, 1) := by decide +kernel
theorem dX7_number_52 : decode cX7_number 52 = .ok (.iconst 0, 1) := by decide +kernel
theorem dX7_number_53 : decode cX7_number 53 = .ok (.putfield 113, 3) := by decide +kernel
theorem dX7_number_56 : decode cX7_number 56 = .ok (.aload_n 0, 1) := by decide +kernel
theorem dX7_number_57 : decode cX7_number 57 = .ok (.getfield 79, 3) := by decide +kernel
theorem dX7_number_60 : decode cX7_number 60 = .ok (.istore_n 3, 1) := by decide +kernel
theorem dX7_number_61 : decode cX7_number 61 = .ok (.iload_n 3, 1) := by decide +kernel
theorem dX7_number_62 : decode cX7_number 62 = .ok (.aload_n 0, 1) := by decide +kernel
theorem dX7_number_63 : decode cX7_number 63 = .ok (.getfield 42, 3) := by decide +kernel
theorem dX7_number_66 : decode cX7_number 66 = .ok (.if_icmp .ge 30, 3) := by decide +kernel
theorem dX7_number_69 : decode cX7_number 69 = .ok (.aload_n 0, 1) := by decide +kernel
theorem dX7_number_70 : decode cX7_number 70 = .ok (.aload_n 0, 1) := by decide +kernel
theorem dX7_number_71 : decode cX7_number 71 = .ok (.getfield 113, 3) := by decide +kernel
theorem dX7_number_74 : decode cX7_number 74 = .ok (.bipush 10, 2) := by decide +kernel
theorem dX7_number_76 : decode cX7_number 76 = .ok (.imul, 1) := by decide +kernel
theorem dX7_number_77 : decode cX7_number 77 = .ok (.aload_n 0, 1) := by decide +kernel
theorem dX7_number_78 : decode cX7_number 78 = .ok (.getfield 25, 3) := by decide +kernel
theorem dX7_number_81 : decode cX7_number 81 = .ok (.iload_n 3, 1) := by decide +kernel
theorem dX7_number_82 : decode cX7_number 82 = .ok (.iaload, 1) := by decide +kernel
theorem dX7_number_83 : decode cX7_number 83 = .ok (.iadd, 1) := by decide +kernel
theorem dX7_number_84 : decode cX7_number 84 = .ok (.bipush 48, 2) := by decide +kernel
theorem dX7_number_86 : decode cX7_number 86 = .ok (.isub, 1) := by decide +kernel
theorem dX7_number_87 : decode cX7_number 87 = .ok (.putfield 113, 3) := by decide +kernel
theorem dX7_number_90 : decode cX7_number 90 = .ok (.iinc 3 1, 3) := by decide +kernel
theorem dX7_number_93 : decode cX7_number 93 = .ok (.goto (-32), 3) := by decide +kernel
theorem dX7_number_96 : decode cX7_number 96 = .ok (.aload_n 0, 1) := by decide +kernel
theorem dX7_number_97 : decode cX7_number 97 = .ok (.getfield 113, 3) := by decide +kernel
theorem dX7_number_100 : decode cX7_number 100 = .ok (.iload_n 1, 1) := by decide +kernel
theorem dX7_number_101 : decode cX7_number 101 = .ok (.if_icmp .lt 11, 3) := by decide +kernel
theorem dX7_number_104 : decode cX7_number 104 = .ok (.aload_n 0, 1) := by decide +kernel
theorem dX7_number_105 : decode cX7_number 105 = .ok (.getfield 113, 3) := by decide +kernel
theorem dX7_number_108 : decode cX7_number 108 = .ok (.iload_n 2, 1) := by decide +kernel
theorem dX7_number_109 : decode cX7_number 109 = .ok (.if_icmp .le 13, 3) := by decide +kernel
theorem dX7_number_112 : decode cX7_number 112 = .ok (.aload_n 0, 1) := by decide +kernel
theorem dX7_number_113 : decode cX7_number 113 = .ok (.iconst 2, 1) := by decide +kernel
theorem dX7_number_114 : decode cX7_number 114 = .ok (.aload_n 0, 1) := by decide +kernel
theorem dX7_number_115 : decode cX7_number 115 = .ok (.getfield 79, 3) := by decide +kernel
theorem dX7_number_118 : decode cX7_number 118 = .ok (.invokevirtual 119, 3) := by decide +kernel
theorem dX7_number_121 : decode cX7_number 121 = .ok (.ireturn, 1) := by decide +kernel
theorem dX7_number_122 : decode cX7_number 122 = .ok (.aload_n 0, 1) := by decide +kernel
theorem dX7_number_123 : decode cX7_number 123 = .ok (.invokevirtual 62, 3) := by decide +kernel
theorem dX7_number_126 : decode cX7_number 126 = .ok (.iconst 1, 1) := by decide +kernel
theorem dX7_number_127 : decode cX7_number 127 = .ok (.ireturn, 1) := by decide +kernel
theorem dX7_open_0 : decode cX7_open 0 = .ok (.aload_n 0, 1) := by decide +kernel
theorem dX7_open_1 : decode cX7_open 1 = .ok (.iload_n 1, 1) := by decide +kernel
theorem dX7_open_2 : decode cX7_open 2 = .ok (.sipush 1600, 3) := by decide +kernel
theorem dX7_open_5 : decode cX7_open 5 = .ok (.invokestatic 28, 3) := by decide +kernel
theorem dX7_open_8 : decode cX7_open 8 = .ok (.invokevirtual 34, 3) := by decide +kernel
theorem dX7_open_11 : decode cX7_open 11 = .ok (.aload_n 0, 1) := by decide +kernel
theorem dX7_open_12 : decode cX7_open 12 = .ok (.iconst 0, 1) := by decide +kernel
theorem dX7_open_13 : decode cX7_open 13 = .ok (.putfield 38, 3) := by decide +kernel
theorem dX7_open_16 : decode cX7_open 16 = .ok (.aload_n 0, 1) := by decide +kernel
theorem dX7_open_17 : decode cX7_open 17 = .ok (.iconst 0, 1) := by decide +kernel
theorem dX7_open_18 : decode cX7_open 18 = .ok (.putfield 42, 3) := by decide +kernel
theorem dX7_open_21 : decode cX7_open 21 = .ok (.aload_n 0, 1) := by decide +kernel
theorem dX7_open_22 : decode cX7_open 22 = .ok (.bipush 29, 2) := by decide +kernel
theorem dX7_open_24 : decode cX7_open 24 = .ok (.putfield 45, 3) := by decide +kernel
theorem dX7_open_27 : decode cX7_open 27 = .ok (.aload_n 0, 1) := by decide +kernel
theorem dX7_open_28 : decode cX7_open 28 = .ok (.iconst 0, 1) := by decide +kernel
theorem dX7_open_29 : decode cX7_open 29 = .ok (.putfield 48, 3) := by decide +kernel
theorem dX7_open_32 : decode cX7_open 32 = .ok (.aload_n 0, 1) := by decide +kernel
theorem dX7_open_33 : decode cX7_open 33 = .ok (.iconst 0, 1) := by decide +kernel
theorem dX7_open_34 : decode cX7_open 34 = .ok (.putfield 51, 3) := by decide +kernel
theorem dX7_open_37 : decode cX7_open 37 = .ok (.aload_n 0, 1) := by decide +kernel
theorem dX7_open_38 : decode cX7_open 38 = .ok (.iconst (-1), 1) := by decide +kernel
theorem dX7_open_39 : decode cX7_open 39 = .ok (.putfield 54, 3) := by decide +kernel
theorem dX7_open_42 : decode cX7_open 42 = .ok (.aload_n 0, 1) := by decide +kernel
theorem dX7_open_43 : decode cX7_open 43 = .ok (.getfield 21, 3) := by decide +kernel
theorem dX7_open_46 : decode cX7_open 46 = .ok (.invokevirtual 57, 3) := by decide +kernel
theorem dX7_open_49 : decode cX7_open 49 = .ok (.aload_n 0, 1) := by decide +kernel
theorem dX7_open_50 : decode cX7_open 50 = .ok (.invokevirtual 62, 3) := by decide +kernel
theorem dX7_open_53 : decode cX7_open 53 = .ok (.return_, 1) := by decide +kernel
theorem dX7_part_0 : decode cX7_part 0 = .ok (.aload_n 0, 1) := by decide +kernel
theorem dX7_part_1 : decode cX7_part 1 = .ok (.bipush 40, 2) := by decide +kernel
theorem dX7_part_3 : decode cX7_part 3 = .ok (.invokevirtual 164, 3) := by decide +kernel
theorem dX7_part_6 : decode cX7_part 6 = .ok (.ifCond .eq 45, 3) := by decide +kernel
theorem dX7_part_9 : decode cX7_part 9 = .ok (.aload_n 0, 1) := by decide +kernel
theorem dX7_part_10 : decode cX7_part 10 = .ok (.iload_n 1, 1) := by decide +kernel
theorem dX7_part_11 : decode cX7_part 11 = .ok (.invokevirtual 189, 3) := by decide +kernel
theorem dX7_part_14 : decode cX7_part 14 = .ok (.ifCond .eq 35, 3) := by decide +kernel
theorem dX7_part_17 : decode cX7_part 17 = .ok (.aload_n 0, 1) := by decide +kernel
theorem dX7_part_18 : decode cX7_part 18 = .ok (.bipush 40, 2) := by decide +kernel
theorem dX7_part_20 : decode cX7_part 20 = .ok (.invokevirtual 122, 3) := by decide +kernel
theorem dX7_part_23 : decode cX7_part 23 = .ok (.ifCond .eq 26, 3) := by decide +kernel
theorem dX7_part_26 : decode cX7_part 26 = .ok (.aload_n 0, 1) := by decide +kernel
theorem dX7_part_27 : decode cX7_part 27 = .ok (.iload_n 1, 1) := by decide +kernel
theorem dX7_part_28 : decode cX7_part 28 = .ok (.iconst 1, 1) := by decide +kernel
theorem dX7_part_29 : decode cX7_part 29 = .ok (.iadd, 1) := by decide +kernel
theorem dX7_part_30 : decode cX7_part 30 = .ok (.invokevirtual 192, 3) := by decide +kernel
theorem dX7_part_33 : decode cX7_part 33 = .ok (.ifCond .eq 16, 3) := by decide +kernel
theorem dX7_part_36 : decode cX7_part 36 = .ok (.aload_n 0, 1) := by decide +kernel
theorem dX7_part_37 : decode cX7_part 37 = .ok (.bipush 41, 2) := by decide +kernel
theorem dX7_part_39 : decode cX7_part 39 = .ok (.invokevirtual 122, 3) := by decide +kernel
theorem dX7_part_42 : decode cX7_part 42 = .ok (.ifCond .eq 7, 3) := by decide +kernel
theorem dX7_part_45 : decode cX7_part 45 = .ok (.iconst 1, 1) := by decide +kernel
theorem dX7_part_46 : decode cX7_part 46 = .ok (.goto 4, 3) := by decide +kernel
theorem dX7_part_49 : decode cX7_part 49 = .ok (.iconst 0, 1) := by decide +kernel
theorem dX7_part_50 : decode cX7_part 50 = .ok (.ireturn, 1) := by decide +kernel
theorem dX7_part_51 : decode cX7_part 51 = .ok (.aload_n 0, 1) := by decide +kernel
theorem dX7_part_52 : decode cX7_part 52 = .ok (.getfield 45, 3) := by decide +kernel
theorem dX7_part_55 : decode cX7_part 55 = .ok (.bipush 20, 2) := by decide +kernel
theorem dX7_part_57 : decode cX7_part 57 = .ok (.if_icmp .lt 31, 3) := by decide +kernel
theorem dX7_part_60 : decode cX7_part 60 = .ok (.aload_n 0, 1) := by decide +kernel
theorem dX7_part_61 : decode cX7_part 61 = .ok (.getfield 45, 3) := by decide +kernel
theorem dX7_part_64 : decode cX7_part 64 = .ok (.bipush 24, 2) := by decide +kernel
theorem dX7_part_66 : decode cX7_part 66 = .ok (.if_icmp .gt 22, 3) := by decide +kernel
theorem dX7_part_69 : decode cX7_part 69 = .ok (.aload_n 0, 1) := by decide +kernel
theorem dX7_part_70 : decode cX7_part 70 = .ok (.iconst (-1), 1) := by decide +kernel
theorem dX7_part_71 : decode cX7_part 71 = .ok (.aload_n 0, 1) := by decide +kernel
theorem dX7_part_72 : decode cX7_part 72 = .ok (.getfield 45, 3) := by decide +kernel
theorem dX7_part_75 : decode cX7_part 75 = .ok (.bipush 20, 2) := by decide +kernel
theorem dX7_part_77 : decode cX7_part 77 = .ok (.isub, 1) := by decide +kernel
theorem dX7_part_78 : decode cX7_part 78 = .ok (.isub, 1) := by decide +kernel
theorem dX7_part_79 : decode cX7_part 79 = .ok (.invokevirtual 186, 3) := by decide +kernel
theorem dX7_part_82 : decode cX7_part 82 = .ok (.aload_n 0, 1) := by decide +kernel
theorem dX7_part_83 : decode cX7_part 83 = .ok (.invokevirtual 62, 3) := by decide +kernel
theorem dX7_part_86 : decode cX7_part 86 = .ok (.iconst 1, 1) := by decide +kernel
theorem dX7_part_87 : decode cX7_part 87 = .ok (.ireturn, 1) := by decide +kernel
theorem dX7_part_88 : decode cX7_part 88 = .ok (.aload_n 0, 1) := by decide +kernel
theorem dX7_part_89 : decode cX7_part 89 = .ok (.getfield 45, 3) := by decide +kernel
theorem dX7_part_92 : decode cX7_part 92 = .ok (.bipush 25, 2) := by decide +kernel
theorem dX7_part_94 : decode cX7_part 94 = .ok (.if_icmp .eq 12, 3) := by decide +kernel
theorem dX7_part_97 : decode cX7_part 97 = .ok (.aload_n 0, 1) := by decide +kernel
theorem dX7_part_98 : decode cX7_part 98 = .ok (.getfield 45, 3) := by decide +kernel
theorem dX7_part_101 : decode cX7_part 101 = .ok (.bipush 26, 2) := by decide +kernel
theorem dX7_part_103 : decode cX7_part 103 = .ok (.if_icmp .ne 125, 3) := by decide +kernel
theorem dX7_part_106 : decode cX7_part 106 = .ok (.aload_n 0, 1) := by decide +kernel
theorem dX7_part_107 : decode cX7_part 107 = .ok (.getfield 45, 3) := by decide +kernel
theorem dX7_part_110 : decode cX7_part 110 = .ok (.bipush 25, 2) := by decide +kernel
theorem dX7_part_112 : decode cX7_part 112 = .ok (.if_icmp .ne 8, 3) := by decide +kernel
theorem dX7_part_115 : decode cX7_part 115 = .ok (.bipush (-10), 2) := by decide +kernel
theorem dX7_part_117 : decode cX7_part 117 = .ok (.goto 5, 3) := by decide +kernel
theorem dX7_part_120 : decode cX7_part 120 = .ok (.bipush (-11), 2) := by decide +kernel
theorem dX7_part_122 : decode cX7_part 122 = .ok (.istore_n 2, 1) := by decide +kernel
theorem dX7_part_123 : decode cX7_part 123 = .ok (.aload_n 0, 1) := by decide +kernel
theorem dX7_part_124 : decode cX7_part 124 = .ok (.invokevirtual 62, 3) := by decide +kernel
theorem dX7_part_127 : decode cX7_part 127 = .ok (.aload_n 0, 1) := by decide +kernel
theorem dX7_part_128 : decode cX7_part 128 = .ok (.bipush 40, 2) := by decide +kernel
theorem dX7_part_130 : decode cX7_part 130 = .ok (.invokevirtual 164, 3) := by decide +kernel
theorem dX7_part_133 : decode cX7_part 133 = .ok (.ifCond .eq 28, 3) := by decide +kernel
theorem dX7_part_136 : decode cX7_part 136 = .ok (.aload_n 0, 1) := by decide +kernel
theorem dX7_part_137 : decode cX7_part 137 = .ok (.iload_n 1, 1) := by decide +kernel
theorem dX7_part_138 : decode cX7_part 138 = .ok (.invokevirtual 189, 3) := by decide +kernel
theorem dX7_part_141 : decode cX7_part 141 = .ok (.ifCond .eq 16, 3) := by decide +kernel
theorem dX7_part_144 : decode cX7_part 144 = .ok (.aload_n 0, 1) := by decide +kernel
theorem dX7_part_145 : decode cX7_part 145 = .ok (.bipush 40, 2) := by decide +kernel
theorem dX7_part_147 : decode cX7_part 147 = .ok (.invokevirtual 122, 3) := by decide +kernel
theorem dX7_part_150 : decode cX7_part 150 = .ok (.ifCond .eq 7, 3) := by decide +kernel
theorem dX7_part_153 : decode cX7_part 153 = .ok (.iconst 1, 1) := by decide +kernel
theorem dX7_part_154 : decode cX7_part 154 = .ok (.goto 16, 3) := by decide +kernel
theorem dX7_part_157 : decode cX7_part 157 = .ok (.iconst 0, 1) := by decide +kernel
theorem dX7_part_158 : decode cX7_part 158 = .ok (.goto 12, 3) := by decide +kernel
theorem dX7_part_161 : decode cX7_part 161 = .ok (.aload_n 0, 1) := by decide +kernel
theorem dX7_part_162 : decode cX7_part 162 = .ok (.iconst 1, 1) := by decide +kernel
theorem dX7_part_163 : decode cX7_part 163 = .ok (.aload_n 0, 1) := by decide +kernel
theorem dX7_part_164 : decode cX7_part 164 = .ok (.getfield 79, 3) := by decide +kernel
theorem dX7_part_167 : decode cX7_part 167 = .ok (.invokevirtual 119, 3) := by decide +kernel
theorem dX7_part_170 : decode cX7_part 170 = .ok (.istore_n 3, 1) := by decide +kernel
theorem dX7_part_171 : decode cX7_part 171 = .ok (.iload_n 3, 1) := by decide +kernel
theorem dX7_part_172 : decode cX7_part 172 = .ok (.ifCond .eq 45, 3) := by decide +kernel
theorem dX7_part_175 : decode cX7_part 175 = .ok (.aload_n 0, 1) := by decide +kernel
theorem dX7_part_176 : decode cX7_part 176 = .ok (.iload_n 1, 1) := by decide +kernel
theorem dX7_part_177 : decode cX7_part 177 = .ok (.iconst 1, 1) := by decide +kernel
theorem dX7_part_178 : decode cX7_part 178 = .ok (.iadd, 1) := by decide +kernel
theorem dX7_part_179 : decode cX7_part 179 = .ok (.invokevirtual 192, 3) := by decide +kernel
theorem dX7_part_182 : decode cX7_part 182 = .ok (.ifCond .eq 35, 3) := by decide +kernel
theorem dX7_part_185 : decode cX7_part 185 = .ok (.aload_n 0, 1) := by decide +kernel
theorem dX7_part_186 : decode cX7_part 186 = .ok (.bipush 44, 2) := by decide +kernel
theorem dX7_part_188 : decode cX7_part 188 = .ok (.invokevirtual 122, 3) := by decide +kernel
theorem dX7_part_191 : decode cX7_part 191 = .ok (.ifCond .eq 26, 3) := by decide +kernel
theorem dX7_part_194 : decode cX7_part 194 = .ok (.aload_n 0, 1) := by decide +kernel
theorem dX7_part_195 : decode cX7_part 195 = .ok (.iload_n 1, 1) := by decide +kernel
theorem dX7_part_196 : decode cX7_part 196 = .ok (.iconst 1, 1) := by decide +kernel
theorem dX7_part_197 : decode cX7_part 197 = .ok (.iadd, 1) := by decide +kernel
theorem dX7_part_198 : decode cX7_part 198 = .ok (.invokevirtual 192, 3) := by decide +kernel
theorem dX7_part_201 : decode cX7_part 201 = .ok (.ifCond .eq 16, 3) := by decide +kernel
theorem dX7_part_204 : decode cX7_part 204 = .ok (.aload_n 0, 1) := by decide +kernel
theorem dX7_part_205 : decode cX7_part 205 = .ok (.bipush 41, 2) := by decide +kernel
theorem dX7_part_207 : decode cX7_part 207 = .ok (.invokevirtual 122, 3) := by decide +kernel
theorem dX7_part_210 : decode cX7_part 210 = .ok (.ifCond .eq 7, 3) := by decide +kernel
theorem dX7_part_213 : decode cX7_part 213 = .ok (.iconst 1, 1) := by decide +kernel
theorem dX7_part_214 : decode cX7_part 214 = .ok (.goto 4, 3) := by decide +kernel
theorem dX7_part_217 : decode cX7_part 217 = .ok (.iconst 0, 1) := by decide +kernel
theorem dX7_part_218 : decode cX7_part 218 = .ok (.istore 4, 2) := by decide +kernel
theorem dX7_part_220 : decode cX7_part 220 = .ok (.aload_n 0, 1) := by decide +kernel
theorem dX7_part_221 : decode cX7_part 221 = .ok (.iload_n 2, 1) := by decide +kernel
theorem dX7_part_222 : decode cX7_part 222 = .ok (.invokevirtual 186, 3) := by decide +kernel
theorem dX7_part_225 : decode cX7_part 225 = .ok (.iload 4, 2) := by decide +kernel
theorem dX7_part_227 : decode cX7_part 227 = .ok (.ireturn, 1) := by decide +kernel
theorem dX7_part_228 : decode cX7_part 228 = .ok (.aload_n 0, 1) := by decide +kernel
theorem dX7_part_229 : decode cX7_part 229 = .ok (.iconst 0, 1) := by decide +kernel
theorem dX7_part_230 : decode cX7_part 230 = .ok (.sipush 9999, 3) := by decide +kernel
theorem dX7_part_233 : decode cX7_part 233 = .ok (.invokevirtual 110, 3) := by decide +kernel
theorem dX7_part_236 : decode cX7_part 236 = .ok (.istore_n 2, 1) := by decide +kernel
theorem dX7_part_237 : decode cX7_part 237 = .ok (.aload_n 0, 1) := by decide +kernel
theorem dX7_part_238 : decode cX7_part 238 = .ok (.aload_n 0, 1) := by decide +kernel
theorem dX7_part_239 : decode cX7_part 239 = .ok (.getfield 113, 3) := by decide +kernel
theorem dX7_part_242 : decode cX7_part 242 = .ok (.invokevirtual 186, 3) := by decide +kernel
theorem dX7_part_245 : decode cX7_part 245 = .ok (.iload_n 2, 1) := by decide +kernel
theorem dX7_part_246 : decode cX7_part 246 = .ok (.ireturn, 1) := by decide +kernel
theorem dX7_roomIn_0 : decode cX7_roomIn 0 = .ok (.iload_n 1, 1) := by decide +kernel
theorem dX7_roomIn_1 : decode cX7_roomIn 1 = .ok (.bipush 6, 2) := by decide +kernel
theorem dX7_roomIn_3 : decode cX7_roomIn 3 = .ok (.if_icmp .lt 15, 3) := by decide +kernel
theorem dX7_roomIn_6 : decode cX7_roomIn 6 = .ok (.aload_n 0, 1) := by decide +kernel
theorem dX7_roomIn_7 : decode cX7_roomIn 7 = .ok (.iconst 4, 1) := by decide +kernel
theorem dX7_roomIn_8 : decode cX7_roomIn 8 = .ok (.aload_n 0, 1) := by decide +kernel
theorem dX7_roomIn_9 : decode cX7_roomIn 9 = .ok (.getfield 79, 3) := by decide +kernel
theorem dX7_roomIn_12 : decode cX7_roomIn 12 = .ok (.invokevirtual 119, 3) := by decide +kernel
theorem dX7_roomIn_15 : decode cX7_roomIn 15 = .ok (.ifCond .eq 7, 3) := by decide +kernel
theorem dX7_roomIn_18 : decode cX7_roomIn 18 = .ok (.iconst 1, 1) := by decide +kernel
theorem dX7_roomIn_19 : decode cX7_roomIn 19 = .ok (.goto 4, 3) := by decide +kernel
theorem dX7_roomIn_22 : decode cX7_roomIn 22 = .ok (.iconst 0, 1) := by decide +kernel
theorem dX7_roomIn_23 : decode cX7_roomIn 23 = .ok (.ireturn, 1) := by decide +kernel
theorem dX7_sign_0 : decode cX7_sign 0 = .ok (.aload_n 0, 1) := by decide +kernel
theorem dX7_sign_1 : decode cX7_sign 1 = .ok (.iload_n 1, 1) := by decide +kernel
theorem dX7_sign_2 : decode cX7_sign 2 = .ok (.invokevirtual 164, 3) := by decide +kernel
theorem dX7_sign_5 : decode cX7_sign 5 = .ok (.ifCond .ne 13, 3) := by decide +kernel
theorem dX7_sign_8 : decode cX7_sign 8 = .ok (.aload_n 0, 1) := by decide +kernel
theorem dX7_sign_9 : decode cX7_sign 9 = .ok (.iconst 1, 1) := by decide +kernel
theorem dX7_sign_10 : decode cX7_sign 10 = .ok (.aload_n 0, 1) := by decide +kernel
theorem dX7_sign_11 : decode cX7_sign 11 = .ok (.getfield 79, 3) := by decide +kernel
theorem dX7_sign_14 : decode cX7_sign 14 = .ok (.invokevirtual 119, 3) := by decide +kernel
theorem dX7_sign_17 : decode cX7_sign 17 = .ok (.ireturn, 1) := by decide +kernel
theorem dX7_sign_18 : decode cX7_sign 18 = .ok (.aload_n 0, 1) := by decide +kernel
theorem dX7_sign_19 : decode cX7_sign 19 = .ok (.invokevirtual 62, 3) := by decide +kernel
theorem dX7_sign_22 : decode cX7_sign 22 = .ok (.iconst 1, 1) := by decide +kernel
theorem dX7_sign_23 : decode cX7_sign 23 = .ok (.ireturn, 1) := by decide +kernel
theorem dX7_statement_0 : decode cX7_statement 0 = .ok (.aload_n 0, 1) := by decide +kernel
theorem dX7_statement_1 : decode cX7_statement 1 = .ok (.getfield 45, 3) := by decide +kernel
theorem dX7_statement_4 : decode cX7_statement 4 = .ok (.tableswitch 173 0 15 #[80, 173, 88, 173, 173, 96, 173, 173, 173, 173, 104, 173, 173, 173, 112, 146], 80) := by decide +kernel
theorem dX7_statement_84 : decode cX7_statement 84 = .ok (.aload_n 0, 1) := by decide +kernel
theorem dX7_statement_85 : decode cX7_statement 85 = .ok (.invokevirtual 86, 3) := by decide +kernel
theorem dX7_statement_88 : decode cX7_statement 88 = .ok (.istore_n 1, 1) := by decide +kernel
theorem dX7_statement_89 : decode cX7_statement 89 = .ok (.goto 98, 3) := by decide +kernel
theorem dX7_statement_92 : decode cX7_statement 92 = .ok (.aload_n 0, 1) := by decide +kernel
theorem dX7_statement_93 : decode cX7_statement 93 = .ok (.invokevirtual 90, 3) := by decide +kernel
theorem dX7_statement_96 : decode cX7_statement 96 = .ok (.istore_n 1, 1) := by decide +kernel
theorem dX7_statement_97 : decode cX7_statement 97 = .ok (.goto 90, 3) := by decide +kernel
theorem dX7_statement_100 : decode cX7_statement 100 = .ok (.aload_n 0, 1) := by decide +kernel
theorem dX7_statement_101 : decode cX7_statement 101 = .ok (.invokevirtual 93, 3) := by decide +kernel
theorem dX7_statement_104 : decode cX7_statement 104 = .ok (.istore_n 1, 1) := by decide +kernel
theorem dX7_statement_105 : decode cX7_statement 105 = .ok (.goto 82, 3) := by decide +kernel
theorem dX7_statement_108 : decode cX7_statement 108 = .ok (.aload_n 0, 1) := by decide +kernel
theorem dX7_statement_109 : decode cX7_statement 109 = .ok (.invokevirtual 96, 3) := by decide +kernel
theorem dX7_statement_112 : decode cX7_statement 112 = .ok (.istore_n 1, 1) := by decide +kernel
theorem dX7_statement_113 : decode cX7_statement 113 = .ok (.goto 74, 3) := by decide +kernel
theorem dX7_statement_116 : decode cX7_statement 116 = .ok (.aload_n 0, 1) := by decide +kernel
theorem dX7_statement_117 : decode cX7_statement 117 = .ok (.iconst 4, 1) := by decide +kernel
theorem dX7_statement_118 : decode cX7_statement 118 = .ok (.bipush 6, 2) := by decide +kernel
theorem dX7_statement_120 : decode cX7_statement 120 = .ok (.invokevirtual 99, 3) := by decide +kernel
theorem dX7_statement_123 : decode cX7_statement 123 = .ok (.ifCond .ne 22, 3) := by decide +kernel
theorem dX7_statement_126 : decode cX7_statement 126 = .ok (.aload_n 0, 1) := by decide +kernel
theorem dX7_statement_127 : decode cX7_statement 127 = .ok (.iconst 0, 1) := by decide +kernel
theorem dX7_statement_128 : decode cX7_statement 128 = .ok (.invokevirtual 103, 3) := by decide +kernel
theorem dX7_statement_131 : decode cX7_statement 131 = .ok (.ifCond .eq 14, 3) := by decide +kernel
theorem dX7_statement_134 : decode cX7_statement 134 = .ok (.aload_n 0, 1) := by decide +kernel
theorem dX7_statement_135 : decode cX7_statement 135 = .ok (.invokevirtual 107, 3) := by decide +kernel
theorem dX7_statement_138 : decode cX7_statement 138 = .ok (.ifCond .eq 7, 3) := by decide +kernel
theorem dX7_statement_141 : decode cX7_statement 141 = .ok (.iconst 1, 1) := by decide +kernel
theorem dX7_statement_142 : decode cX7_statement 142 = .ok (.goto 4, 3) := by decide +kernel
theorem dX7_statement_145 : decode cX7_statement 145 = .ok (.iconst 0, 1) := by decide +kernel
theorem dX7_statement_146 : decode cX7_statement 146 = .ok (.istore_n 1, 1) := by decide +kernel
theorem dX7_statement_147 : decode cX7_statement 147 = .ok (.goto 40, 3) := by decide +kernel
theorem dX7_statement_150 : decode cX7_statement 150 = .ok (.aload_n 0, 1) := by decide +kernel
theorem dX7_statement_151 : decode cX7_statement 151 = .ok (.invokevirtual 62, 3) := by decide +kernel
theorem dX7_statement_154 : decode cX7_statement 154 = .ok (.aload_n 0, 1) := by decide +kernel
theorem dX7_statement_155 : decode cX7_statement 155 = .ok (.iconst 0, 1) := by decide +kernel
theorem dX7_statement_156 : decode cX7_statement 156 = .ok (.sipush 999, 3) := by decide +kernel
theorem dX7_statement_159 : decode cX7_statement 159 = .ok (.invokevirtual 110, 3) := by decide +kernel
theorem dX7_statement_162 : decode cX7_statement 162 = .ok (.istore_n 1, 1) := by decide +kernel
theorem dX7_statement_163 : decode cX7_statement 163 = .ok (.aload_n 0, 1) := by decide +kernel
theorem dX7_statement_164 : decode cX7_statement 164 = .ok (.getfield 21, 3) := by decide +kernel
theorem dX7_statement_167 : decode cX7_statement 167 = .ok (.aload_n 0, 1) := by decide +kernel
theorem dX7_statement_168 : decode cX7_statement 168 = .ok (.getfield 113, 3) := by decide +kernel
theorem dX7_statement_171 : decode cX7_statement 171 = .ok (.putfield 116, 3) := by decide +kernel
theorem dX7_statement_174 : decode cX7_statement 174 = .ok (.goto 13, 3) := by decide +kernel
theorem dX7_statement_177 : decode cX7_statement 177 = .ok (.aload_n 0, 1) := by decide +kernel
theorem dX7_statement_178 : decode cX7_statement 178 = .ok (.iconst 1, 1) := by decide +kernel
theorem dX7_statement_179 : decode cX7_statement 179 = .ok (.aload_n 0, 1) := by decide +kernel
theorem dX7_statement_180 : decode cX7_statement 180 = .ok (.getfield 79, 3) := by decide +kernel
theorem dX7_statement_183 : decode cX7_statement 183 = .ok (.invokevirtual 119, 3) := by decide +kernel
theorem dX7_statement_186 : decode cX7_statement 186 = .ok (.istore_n 1, 1) := by decide +kernel
theorem dX7_statement_187 : decode cX7_statement 187 = .ok (.iload_n 1, 1) := by decide +kernel
theorem dX7_statement_188 : decode cX7_statement 188 = .ok (.ifCond .eq 16, 3) := by decide +kernel
theorem dX7_statement_191 : decode cX7_statement 191 = .ok (.aload_n 0, 1) := by decide +kernel
theorem dX7_statement_192 : decode cX7_statement 192 = .ok (.bipush 59, 2) := by decide +kernel
theorem dX7_statement_194 : decode cX7_statement 194 = .ok (.invokevirtual 122, 3) := by decide +kernel
theorem dX7_statement_197 : decode cX7_statement 197 = .ok (.ifCond .eq 7, 3) := by decide +kernel
theorem dX7_statement_200 : decode cX7_statement 200 = .ok (.iconst 1, 1) := by decide +kernel
theorem dX7_statement_201 : decode cX7_statement 201 = .ok (.goto 4, 3) := by decide +kernel
theorem dX7_statement_204 : decode cX7_statement 204 = .ok (.iconst 0, 1) := by decide +kernel
theorem dX7_statement_205 : decode cX7_statement 205 = .ok (.ireturn, 1) := by decide +kernel
theorem dX7_sum_0 : decode cX7_sum 0 = .ok (.iconst 0, 1) := by decide +kernel
theorem dX7_sum_1 : decode cX7_sum 1 = .ok (.istore_n 2, 1) := by decide +kernel
theorem dX7_sum_2 : decode cX7_sum 2 = .ok (.iconst 0, 1) := by decide +kernel
theorem dX7_sum_3 : decode cX7_sum 3 = .ok (.istore_n 3, 1) := by decide +kernel
theorem dX7_sum_4 : decode cX7_sum 4 = .ok (.iconst 0, 1) := by decide +kernel
theorem dX7_sum_5 : decode cX7_sum 5 = .ok (.istore 4, 2) := by decide +kernel
theorem dX7_sum_7 : decode cX7_sum 7 = .ok (.iload 4, 2) := by decide +kernel
theorem dX7_sum_9 : decode cX7_sum 9 = .ok (.sipush 1600, 3) := by decide +kernel
theorem dX7_sum_12 : decode cX7_sum 12 = .ok (.if_icmp .ge 111, 3) := by decide +kernel
theorem dX7_sum_15 : decode cX7_sum 15 = .ok (.aload_n 0, 1) := by decide +kernel
theorem dX7_sum_16 : decode cX7_sum 16 = .ok (.iload_n 1, 1) := by decide +kernel
theorem dX7_sum_17 : decode cX7_sum 17 = .ok (.invokevirtual 195, 3) := by decide +kernel
theorem dX7_sum_20 : decode cX7_sum 20 = .ok (.ifCond .ne 5, 3) := by decide +kernel
theorem dX7_sum_23 : decode cX7_sum 23 = .ok (.iconst 0, 1) := by decide +kernel
theorem dX7_sum_24 : decode cX7_sum 24 = .ok (.ireturn, 1) := by decide +kernel
theorem dX7_sum_25 : decode cX7_sum 25 = .ok (.iload_n 2, 1) := by decide +kernel
theorem dX7_sum_26 : decode cX7_sum 26 = .ok (.ifCond .eq 8, 3) := by decide +kernel
theorem dX7_sum_29 : decode cX7_sum 29 = .ok (.aload_n 0, 1) := by decide +kernel
theorem dX7_sum_30 : decode cX7_sum 30 = .ok (.iload_n 2, 1) := by decide +kernel
theorem dX7_sum_31 : decode cX7_sum 31 = .ok (.invokevirtual 186, 3) := by decide +kernel
theorem dX7_sum_34 : decode cX7_sum 34 = .ok (.aload_n 0, 1) := by decide +kernel
theorem dX7_sum_35 : decode cX7_sum 35 = .ok (.bipush 42, 2) := by decide +kernel
theorem dX7_sum_37 : decode cX7_sum 37 = .ok (.invokevirtual 164, 3) := by decide +kernel
theorem dX7_sum_40 : decode cX7_sum 40 = .ok (.ifCond .eq 8, 3) := by decide +kernel
theorem dX7_sum_43 : decode cX7_sum 43 = .ok (.bipush (-8), 2) := by decide +kernel
theorem dX7_sum_45 : decode cX7_sum 45 = .ok (.goto 18, 3) := by decide +kernel
theorem dX7_sum_48 : decode cX7_sum 48 = .ok (.aload_n 0, 1) := by decide +kernel
theorem dX7_sum_49 : decode cX7_sum 49 = .ok (.bipush 47, 2) := by decide +kernel
theorem dX7_sum_51 : decode cX7_sum 51 = .ok (.invokevirtual 164, 3) := by decide +kernel
theorem dX7_sum_54 : decode cX7_sum 54 = .ok (.ifCond .eq 8, 3) := by decide +kernel
theorem dX7_sum_57 : decode cX7_sum 57 = .ok (.bipush (-9), 2) := by decide +kernel
theorem dX7_sum_59 : decode cX7_sum 59 = .ok (.goto 4, 3) := by decide +kernel
theorem dX7_sum_62 : decode cX7_sum 62 = .ok (.iconst 0, 1) := by decide +kernel
theorem dX7_sum_63 : decode cX7_sum 63 = .ok (.istore_n 2, 1) := by decide +kernel
theorem dX7_sum_64 : decode cX7_sum 64 = .ok (.iload_n 2, 1) := by decide +kernel
theorem dX7_sum_65 : decode cX7_sum 65 = .ok (.ifCond .ne 48, 3) := by decide +kernel
theorem dX7_sum_68 : decode cX7_sum 68 = .ok (.iload_n 3, 1) := by decide +kernel
theorem dX7_sum_69 : decode cX7_sum 69 = .ok (.ifCond .eq 8, 3) := by decide +kernel
theorem dX7_sum_72 : decode cX7_sum 72 = .ok (.aload_n 0, 1) := by decide +kernel
theorem dX7_sum_73 : decode cX7_sum 73 = .ok (.iload_n 3, 1) := by decide +kernel
theorem dX7_sum_74 : decode cX7_sum 74 = .ok (.invokevirtual 186, 3) := by decide +kernel
theorem dX7_sum_77 : decode cX7_sum 77 = .ok (.aload_n 0, 1) := by decide +kernel
theorem dX7_sum_78 : decode cX7_sum 78 = .ok (.bipush 43, 2) := by decide +kernel
theorem dX7_sum_80 : decode cX7_sum 80 = .ok (.invokevirtual 164, 3) := by decide +kernel
theorem dX7_sum_83 : decode cX7_sum 83 = .ok (.ifCond .eq 8, 3) := by decide +kernel
theorem dX7_sum_86 : decode cX7_sum 86 = .ok (.bipush (-6), 2) := by decide +kernel
theorem dX7_sum_88 : decode cX7_sum 88 = .ok (.goto 18, 3) := by decide +kernel
theorem dX7_sum_91 : decode cX7_sum 91 = .ok (.aload_n 0, 1) := by decide +kernel
theorem dX7_sum_92 : decode cX7_sum 92 = .ok (.bipush 45, 2) := by decide +kernel
theorem dX7_sum_94 : decode cX7_sum 94 = .ok (.invokevirtual 164, 3) := by decide +kernel
theorem dX7_sum_97 : decode cX7_sum 97 = .ok (.ifCond .eq 8, 3) := by decide +kernel
theorem dX7_sum_100 : decode cX7_sum 100 = .ok (.bipush (-7), 2) := by decide +kernel
theorem dX7_sum_102 : decode cX7_sum 102 = .ok (.goto 4, 3) := by decide +kernel
theorem dX7_sum_105 : decode cX7_sum 105 = .ok (.iconst 0, 1) := by decide +kernel
theorem dX7_sum_106 : decode cX7_sum 106 = .ok (.istore_n 3, 1) := by decide +kernel
theorem dX7_sum_107 : decode cX7_sum 107 = .ok (.iload_n 3, 1) := by decide +kernel
theorem dX7_sum_108 : decode cX7_sum 108 = .ok (.ifCond .ne 5, 3) := by decide +kernel
theorem dX7_sum_111 : decode cX7_sum 111 = .ok (.iconst 1, 1) := by decide +kernel
theorem dX7_sum_112 : decode cX7_sum 112 = .ok (.ireturn, 1) := by decide +kernel
theorem dX7_sum_113 : decode cX7_sum 113 = .ok (.aload_n 0, 1) := by decide +kernel
theorem dX7_sum_114 : decode cX7_sum 114 = .ok (.invokevirtual 62, 3) := by decide +kernel
theorem dX7_sum_117 : decode cX7_sum 117 = .ok (.iinc 4 1, 3) := by decide +kernel
theorem dX7_sum_120 : decode cX7_sum 120 = .ok (.goto (-113), 3) := by decide +kernel
theorem dX7_sum_123 : decode cX7_sum 123 = .ok (.aload_n 0, 1) := by decide +kernel
theorem dX7_sum_124 : decode cX7_sum 124 = .ok (.iconst 1, 1) := by decide +kernel
theorem dX7_sum_125 : decode cX7_sum 125 = .ok (.aload_n 0, 1) := by decide +kernel
theorem dX7_sum_126 : decode cX7_sum 126 = .ok (.getfield 79, 3) := by decide +kernel
theorem dX7_sum_129 : decode cX7_sum 129 = .ok (.invokevirtual 119, 3) := by decide +kernel
theorem dX7_sum_132 : decode cX7_sum 132 = .ok (.ireturn, 1) := by decide +kernel
theorem dX7_tellBalcony_0 : decode cX7_tellBalcony 0 = .ok (.aload_n 0, 1) := by decide +kernel
theorem dX7_tellBalcony_1 : decode cX7_tellBalcony 1 = .ok (.iconst 3, 1) := by decide +kernel
theorem dX7_tellBalcony_2 : decode cX7_tellBalcony 2 = .ok (.bipush 10, 2) := by decide +kernel
theorem dX7_tellBalcony_4 : decode cX7_tellBalcony 4 = .ok (.invokevirtual 99, 3) := by decide +kernel
theorem dX7_tellBalcony_7 : decode cX7_tellBalcony 7 = .ok (.ifCond .ne 12, 3) := by decide +kernel
theorem dX7_tellBalcony_10 : decode cX7_tellBalcony 10 = .ok (.aload_n 0, 1) := by decide +kernel
theorem dX7_tellBalcony_11 : decode cX7_tellBalcony 11 = .ok (.bipush 6, 2) := by decide +kernel
theorem dX7_tellBalcony_13 : decode cX7_tellBalcony 13 = .ok (.invokevirtual 135, 3) := by decide +kernel
theorem dX7_tellBalcony_16 : decode cX7_tellBalcony 16 = .ok (.ifCond .ne 5, 3) := by decide +kernel
theorem dX7_tellBalcony_19 : decode cX7_tellBalcony 19 = .ok (.iconst 0, 1) := by decide +kernel
theorem dX7_tellBalcony_20 : decode cX7_tellBalcony 20 = .ok (.ireturn, 1) := by decide +kernel
theorem dX7_tellBalcony_21 : decode cX7_tellBalcony 21 = .ok (.aload_n 0, 1) := by decide +kernel
theorem dX7_tellBalcony_22 : decode cX7_tellBalcony 22 = .ok (.getfield 21, 3) := by decide +kernel
theorem dX7_tellBalcony_25 : decode cX7_tellBalcony 25 = .ok (.getfield 125, 3) := by decide +kernel
theorem dX7_tellBalcony_28 : decode cX7_tellBalcony 28 = .ok (.iconst 3, 1) := by decide +kernel
theorem dX7_tellBalcony_29 : decode cX7_tellBalcony 29 = .ok (.iaload, 1) := by decide +kernel
theorem dX7_tellBalcony_30 : decode cX7_tellBalcony 30 = .ok (.iconst 4, 1) := by decide +kernel
theorem dX7_tellBalcony_31 : decode cX7_tellBalcony 31 = .ok (.imul, 1) := by decide +kernel
theorem dX7_tellBalcony_32 : decode cX7_tellBalcony 32 = .ok (.istore_n 1, 1) := by decide +kernel
theorem dX7_tellBalcony_33 : decode cX7_tellBalcony 33 = .ok (.aload_n 0, 1) := by decide +kernel
theorem dX7_tellBalcony_34 : decode cX7_tellBalcony 34 = .ok (.iconst (-1), 1) := by decide +kernel
theorem dX7_tellBalcony_35 : decode cX7_tellBalcony 35 = .ok (.invokevirtual 141, 3) := by decide +kernel
theorem dX7_tellBalcony_38 : decode cX7_tellBalcony 38 = .ok (.istore_n 2, 1) := by decide +kernel
theorem dX7_tellBalcony_39 : decode cX7_tellBalcony 39 = .ok (.aload_n 0, 1) := by decide +kernel
theorem dX7_tellBalcony_40 : decode cX7_tellBalcony 40 = .ok (.getfield 21, 3) := by decide +kernel
theorem dX7_tellBalcony_43 : decode cX7_tellBalcony 43 = .ok (.getfield 155, 3) := by decide +kernel
theorem dX7_tellBalcony_46 : decode cX7_tellBalcony 46 = .ok (.iload_n 1, 1) := by decide +kernel
theorem dX7_tellBalcony_47 : decode cX7_tellBalcony 47 = .ok (.iload_n 2, 1) := by decide +kernel
theorem dX7_tellBalcony_48 : decode cX7_tellBalcony 48 = .ok (.iastore, 1) := by decide +kernel
theorem dX7_tellBalcony_49 : decode cX7_tellBalcony 49 = .ok (.iload_n 2, 1) := by decide +kernel
theorem dX7_tellBalcony_50 : decode cX7_tellBalcony 50 = .ok (.iconst (-1), 1) := by decide +kernel
theorem dX7_tellBalcony_51 : decode cX7_tellBalcony 51 = .ok (.if_icmp .eq 23, 3) := by decide +kernel
theorem dX7_tellBalcony_54 : decode cX7_tellBalcony 54 = .ok (.aload_n 0, 1) := by decide +kernel
theorem dX7_tellBalcony_55 : decode cX7_tellBalcony 55 = .ok (.bipush 11, 2) := by decide +kernel
theorem dX7_tellBalcony_57 : decode cX7_tellBalcony 57 = .ok (.invokevirtual 135, 3) := by decide +kernel
theorem dX7_tellBalcony_60 : decode cX7_tellBalcony 60 = .ok (.ifCond .eq 14, 3) := by decide +kernel
theorem dX7_tellBalcony_63 : decode cX7_tellBalcony 63 = .ok (.aload_n 0, 1) := by decide +kernel
theorem dX7_tellBalcony_64 : decode cX7_tellBalcony 64 = .ok (.iconst 0, 1) := by decide +kernel
theorem dX7_tellBalcony_65 : decode cX7_tellBalcony 65 = .ok (.sipush 999, 3) := by decide +kernel
theorem dX7_tellBalcony_68 : decode cX7_tellBalcony 68 = .ok (.invokevirtual 110, 3) := by decide +kernel
theorem dX7_tellBalcony_71 : decode cX7_tellBalcony 71 = .ok (.ifCond .ne 5, 3) := by decide +kernel
theorem dX7_tellBalcony_74 : decode cX7_tellBalcony 74 = .ok (.iconst 0, 1) := by decide +kernel
theorem dX7_tellBalcony_75 : decode cX7_tellBalcony 75 = .ok (.ireturn, 1) := by decide +kernel
theorem dX7_tellBalcony_76 : decode cX7_tellBalcony 76 = .ok (.aload_n 0, 1) := by decide +kernel
theorem dX7_tellBalcony_77 : decode cX7_tellBalcony 77 = .ok (.getfield 21, 3) := by decide +kernel
theorem dX7_tellBalcony_80 : decode cX7_tellBalcony 80 = .ok (.getfield 155, 3) := by decide +kernel
theorem dX7_tellBalcony_83 : decode cX7_tellBalcony 83 = .ok (.iload_n 1, 1) := by decide +kernel
theorem dX7_tellBalcony_84 : decode cX7_tellBalcony 84 = .ok (.iconst 1, 1) := by decide +kernel
theorem dX7_tellBalcony_85 : decode cX7_tellBalcony 85 = .ok (.iadd, 1) := by decide +kernel
theorem dX7_tellBalcony_86 : decode cX7_tellBalcony 86 = .ok (.aload_n 0, 1) := by decide +kernel
theorem dX7_tellBalcony_87 : decode cX7_tellBalcony 87 = .ok (.getfield 113, 3) := by decide +kernel
theorem dX7_tellBalcony_90 : decode cX7_tellBalcony 90 = .ok (.iastore, 1) := by decide +kernel
theorem dX7_tellBalcony_91 : decode cX7_tellBalcony 91 = .ok (.aload_n 0, 1) := by decide +kernel
theorem dX7_tellBalcony_92 : decode cX7_tellBalcony 92 = .ok (.bipush 12, 2) := by decide +kernel
theorem dX7_tellBalcony_94 : decode cX7_tellBalcony 94 = .ok (.invokevirtual 135, 3) := by decide +kernel
theorem dX7_tellBalcony_97 : decode cX7_tellBalcony 97 = .ok (.ifCond .eq 17, 3) := by decide +kernel
theorem dX7_tellBalcony_100 : decode cX7_tellBalcony 100 = .ok (.aload_n 0, 1) := by decide +kernel
theorem dX7_tellBalcony_101 : decode cX7_tellBalcony 101 = .ok (.aload_n 0, 1) := by decide +kernel
theorem dX7_tellBalcony_102 : decode cX7_tellBalcony 102 = .ok (.getfield 113, 3) := by decide +kernel
theorem dX7_tellBalcony_105 : decode cX7_tellBalcony 105 = .ok (.sipush 999, 3) := by decide +kernel
theorem dX7_tellBalcony_108 : decode cX7_tellBalcony 108 = .ok (.invokevirtual 110, 3) := by decide +kernel
theorem dX7_tellBalcony_111 : decode cX7_tellBalcony 111 = .ok (.ifCond .ne 5, 3) := by decide +kernel
theorem dX7_tellBalcony_114 : decode cX7_tellBalcony 114 = .ok (.iconst 0, 1) := by decide +kernel
theorem dX7_tellBalcony_115 : decode cX7_tellBalcony 115 = .ok (.ireturn, 1) := by decide +kernel
theorem dX7_tellBalcony_116 : decode cX7_tellBalcony 116 = .ok (.aload_n 0, 1) := by decide +kernel
theorem dX7_tellBalcony_117 : decode cX7_tellBalcony 117 = .ok (.getfield 21, 3) := by decide +kernel
theorem dX7_tellBalcony_120 : decode cX7_tellBalcony 120 = .ok (.getfield 155, 3) := by decide +kernel
theorem dX7_tellBalcony_123 : decode cX7_tellBalcony 123 = .ok (.iload_n 1, 1) := by decide +kernel
theorem dX7_tellBalcony_124 : decode cX7_tellBalcony 124 = .ok (.iconst 2, 1) := by decide +kernel
theorem dX7_tellBalcony_125 : decode cX7_tellBalcony 125 = .ok (.iadd, 1) := by decide +kernel
theorem dX7_tellBalcony_126 : decode cX7_tellBalcony 126 = .ok (.aload_n 0, 1) := by decide +kernel
theorem dX7_tellBalcony_127 : decode cX7_tellBalcony 127 = .ok (.getfield 113, 3) := by decide +kernel
theorem dX7_tellBalcony_130 : decode cX7_tellBalcony 130 = .ok (.iastore, 1) := by decide +kernel
theorem dX7_tellBalcony_131 : decode cX7_tellBalcony 131 = .ok (.aload_n 0, 1) := by decide +kernel
theorem dX7_tellBalcony_132 : decode cX7_tellBalcony 132 = .ok (.bipush 13, 2) := by decide +kernel
theorem dX7_tellBalcony_134 : decode cX7_tellBalcony 134 = .ok (.invokevirtual 135, 3) := by decide +kernel
theorem dX7_tellBalcony_137 : decode cX7_tellBalcony 137 = .ok (.ifCond .eq 13, 3) := by decide +kernel
theorem dX7_tellBalcony_140 : decode cX7_tellBalcony 140 = .ok (.aload_n 0, 1) := by decide +kernel
theorem dX7_tellBalcony_141 : decode cX7_tellBalcony 141 = .ok (.iconst 1, 1) := by decide +kernel
theorem dX7_tellBalcony_142 : decode cX7_tellBalcony 142 = .ok (.bipush 99, 2) := by decide +kernel
theorem dX7_tellBalcony_144 : decode cX7_tellBalcony 144 = .ok (.invokevirtual 110, 3) := by decide +kernel
theorem dX7_tellBalcony_147 : decode cX7_tellBalcony 147 = .ok (.ifCond .ne 5, 3) := by decide +kernel
theorem dX7_tellBalcony_150 : decode cX7_tellBalcony 150 = .ok (.iconst 0, 1) := by decide +kernel
theorem dX7_tellBalcony_151 : decode cX7_tellBalcony 151 = .ok (.ireturn, 1) := by decide +kernel
theorem dX7_tellBalcony_152 : decode cX7_tellBalcony 152 = .ok (.aload_n 0, 1) := by decide +kernel
theorem dX7_tellBalcony_153 : decode cX7_tellBalcony 153 = .ok (.getfield 21, 3) := by decide +kernel
theorem dX7_tellBalcony_156 : decode cX7_tellBalcony 156 = .ok (.getfield 155, 3) := by decide +kernel
theorem dX7_tellBalcony_159 : decode cX7_tellBalcony 159 = .ok (.iload_n 1, 1) := by decide +kernel
theorem dX7_tellBalcony_160 : decode cX7_tellBalcony 160 = .ok (.iconst 3, 1) := by decide +kernel
theorem dX7_tellBalcony_161 : decode cX7_tellBalcony 161 = .ok (.iadd, 1) := by decide +kernel
theorem dX7_tellBalcony_162 : decode cX7_tellBalcony 162 = .ok (.aload_n 0, 1) := by decide +kernel
theorem dX7_tellBalcony_163 : decode cX7_tellBalcony 163 = .ok (.getfield 113, 3) := by decide +kernel
theorem dX7_tellBalcony_166 : decode cX7_tellBalcony 166 = .ok (.iastore, 1) := by decide +kernel
theorem dX7_tellBalcony_167 : decode cX7_tellBalcony 167 = .ok (.aload_n 0, 1) := by decide +kernel
theorem dX7_tellBalcony_168 : decode cX7_tellBalcony 168 = .ok (.getfield 21, 3) := by decide +kernel
theorem dX7_tellBalcony_171 : decode cX7_tellBalcony 171 = .ok (.getfield 125, 3) := by decide +kernel
theorem dX7_tellBalcony_174 : decode cX7_tellBalcony 174 = .ok (.iconst 3, 1) := by decide +kernel
theorem dX7_tellBalcony_175 : decode cX7_tellBalcony 175 = .ok (.dup2, 1) := by decide +kernel
theorem dX7_tellBalcony_176 : decode cX7_tellBalcony 176 = .ok (.iaload, 1) := by decide +kernel
theorem dX7_tellBalcony_177 : decode cX7_tellBalcony 177 = .ok (.iconst 1, 1) := by decide +kernel
theorem dX7_tellBalcony_178 : decode cX7_tellBalcony 178 = .ok (.iadd, 1) := by decide +kernel
theorem dX7_tellBalcony_179 : decode cX7_tellBalcony 179 = .ok (.iastore, 1) := by decide +kernel
theorem dX7_tellBalcony_180 : decode cX7_tellBalcony 180 = .ok (.iconst 1, 1) := by decide +kernel
theorem dX7_tellBalcony_181 : decode cX7_tellBalcony 181 = .ok (.ireturn, 1) := by decide +kernel
theorem dX7_tellCorner_0 : decode cX7_tellCorner 0 = .ok (.aload_n 0, 1) := by decide +kernel
theorem dX7_tellCorner_1 : decode cX7_tellCorner 1 = .ok (.iconst 0, 1) := by decide +kernel
theorem dX7_tellCorner_2 : decode cX7_tellCorner 2 = .ok (.bipush 10, 2) := by decide +kernel
theorem dX7_tellCorner_4 : decode cX7_tellCorner 4 = .ok (.invokevirtual 99, 3) := by decide +kernel
theorem dX7_tellCorner_7 : decode cX7_tellCorner 7 = .ok (.ifCond .eq 5, 3) := by decide +kernel
theorem dX7_tellCorner_10 : decode cX7_tellCorner 10 = .ok (.iconst 0, 1) := by decide +kernel
theorem dX7_tellCorner_11 : decode cX7_tellCorner 11 = .ok (.ireturn, 1) := by decide +kernel
theorem dX7_tellCorner_12 : decode cX7_tellCorner 12 = .ok (.aload_n 0, 1) := by decide +kernel
theorem dX7_tellCorner_13 : decode cX7_tellCorner 13 = .ok (.getfield 21, 3) := by decide +kernel
theorem dX7_tellCorner_16 : decode cX7_tellCorner 16 = .ok (.getfield 125, 3) := by decide +kernel
theorem dX7_tellCorner_19 : decode cX7_tellCorner 19 = .ok (.iconst 0, 1) := by decide +kernel
theorem dX7_tellCorner_20 : decode cX7_tellCorner 20 = .ok (.iaload, 1) := by decide +kernel
theorem dX7_tellCorner_21 : decode cX7_tellCorner 21 = .ok (.istore_n 1, 1) := by decide +kernel
theorem dX7_tellCorner_22 : decode cX7_tellCorner 22 = .ok (.aload_n 0, 1) := by decide +kernel
theorem dX7_tellCorner_23 : decode cX7_tellCorner 23 = .ok (.aload_n 0, 1) := by decide +kernel
theorem dX7_tellCorner_24 : decode cX7_tellCorner 24 = .ok (.getfield 21, 3) := by decide +kernel
theorem dX7_tellCorner_27 : decode cX7_tellCorner 27 = .ok (.getfield 128, 3) := by decide +kernel
theorem dX7_tellCorner_30 : decode cX7_tellCorner 30 = .ok (.iload_n 1, 1) := by decide +kernel
theorem dX7_tellCorner_31 : decode cX7_tellCorner 31 = .ok (.invokevirtual 131, 3) := by decide +kernel
theorem dX7_tellCorner_34 : decode cX7_tellCorner 34 = .ok (.ifCond .eq 21, 3) := by decide +kernel
theorem dX7_tellCorner_37 : decode cX7_tellCorner 37 = .ok (.aload_n 0, 1) := by decide +kernel
theorem dX7_tellCorner_38 : decode cX7_tellCorner 38 = .ok (.iconst 1, 1) := by decide +kernel
theorem dX7_tellCorner_39 : decode cX7_tellCorner 39 = .ok (.invokevirtual 135, 3) := by decide +kernel
theorem dX7_tellCorner_42 : decode cX7_tellCorner 42 = .ok (.ifCond .eq 13, 3) := by decide +kernel
theorem dX7_tellCorner_45 : decode cX7_tellCorner 45 = .ok (.aload_n 0, 1) := by decide +kernel
theorem dX7_tellCorner_46 : decode cX7_tellCorner 46 = .ok (.iconst 1, 1) := by decide +kernel
theorem dX7_tellCorner_47 : decode cX7_tellCorner 47 = .ok (.bipush 9, 2) := by decide +kernel
theorem dX7_tellCorner_49 : decode cX7_tellCorner 49 = .ok (.invokevirtual 110, 3) := by decide +kernel
theorem dX7_tellCorner_52 : decode cX7_tellCorner 52 = .ok (.ifCond .ne 5, 3) := by decide +kernel
theorem dX7_tellCorner_55 : decode cX7_tellCorner 55 = .ok (.iconst 0, 1) := by decide +kernel
theorem dX7_tellCorner_56 : decode cX7_tellCorner 56 = .ok (.ireturn, 1) := by decide +kernel
theorem dX7_tellCorner_57 : decode cX7_tellCorner 57 = .ok (.aload_n 0, 1) := by decide +kernel
theorem dX7_tellCorner_58 : decode cX7_tellCorner 58 = .ok (.getfield 21, 3) := by decide +kernel
theorem dX7_tellCorner_61 : decode cX7_tellCorner 61 = .ok (.getfield 138, 3) := by decide +kernel
theorem dX7_tellCorner_64 : decode cX7_tellCorner 64 = .ok (.iload_n 1, 1) := by decide +kernel
theorem dX7_tellCorner_65 : decode cX7_tellCorner 65 = .ok (.aload_n 0, 1) := by decide +kernel
theorem dX7_tellCorner_66 : decode cX7_tellCorner 66 = .ok (.getfield 113, 3) := by decide +kernel
theorem dX7_tellCorner_69 : decode cX7_tellCorner 69 = .ok (.iastore, 1) := by decide +kernel
theorem dX7_tellCorner_70 : decode cX7_tellCorner 70 = .ok (.aload_n 0, 1) := by decide +kernel
theorem dX7_tellCorner_71 : decode cX7_tellCorner 71 = .ok (.getfield 21, 3) := by decide +kernel
theorem dX7_tellCorner_74 : decode cX7_tellCorner 74 = .ok (.getfield 125, 3) := by decide +kernel
theorem dX7_tellCorner_77 : decode cX7_tellCorner 77 = .ok (.iconst 0, 1) := by decide +kernel
theorem dX7_tellCorner_78 : decode cX7_tellCorner 78 = .ok (.dup2, 1) := by decide +kernel
theorem dX7_tellCorner_79 : decode cX7_tellCorner 79 = .ok (.iaload, 1) := by decide +kernel
theorem dX7_tellCorner_80 : decode cX7_tellCorner 80 = .ok (.iconst 1, 1) := by decide +kernel
theorem dX7_tellCorner_81 : decode cX7_tellCorner 81 = .ok (.iadd, 1) := by decide +kernel
theorem dX7_tellCorner_82 : decode cX7_tellCorner 82 = .ok (.iastore, 1) := by decide +kernel
theorem dX7_tellCorner_83 : decode cX7_tellCorner 83 = .ok (.iconst 1, 1) := by decide +kernel
theorem dX7_tellCorner_84 : decode cX7_tellCorner 84 = .ok (.ireturn, 1) := by decide +kernel
theorem dX7_tellLane_0 : decode cX7_tellLane 0 = .ok (.aload_n 0, 1) := by decide +kernel
theorem dX7_tellLane_1 : decode cX7_tellLane 1 = .ok (.iconst 1, 1) := by decide +kernel
theorem dX7_tellLane_2 : decode cX7_tellLane 2 = .ok (.bipush 16, 2) := by decide +kernel
theorem dX7_tellLane_4 : decode cX7_tellLane 4 = .ok (.invokevirtual 99, 3) := by decide +kernel
theorem dX7_tellLane_7 : decode cX7_tellLane 7 = .ok (.ifCond .eq 5, 3) := by decide +kernel
theorem dX7_tellLane_10 : decode cX7_tellLane 10 = .ok (.iconst 0, 1) := by decide +kernel
theorem dX7_tellLane_11 : decode cX7_tellLane 11 = .ok (.ireturn, 1) := by decide +kernel
theorem dX7_tellLane_12 : decode cX7_tellLane 12 = .ok (.aload_n 0, 1) := by decide +kernel
theorem dX7_tellLane_13 : decode cX7_tellLane 13 = .ok (.iconst (-1), 1) := by decide +kernel
theorem dX7_tellLane_14 : decode cX7_tellLane 14 = .ok (.invokevirtual 141, 3) := by decide +kernel
theorem dX7_tellLane_17 : decode cX7_tellLane 17 = .ok (.istore_n 1, 1) := by decide +kernel
theorem dX7_tellLane_18 : decode cX7_tellLane 18 = .ok (.iload_n 1, 1) := by decide +kernel
theorem dX7_tellLane_19 : decode cX7_tellLane 19 = .ok (.iconst (-1), 1) := by decide +kernel
theorem dX7_tellLane_20 : decode cX7_tellLane 20 = .ok (.if_icmp .ne 5, 3) := by decide +kernel
theorem dX7_tellLane_23 : decode cX7_tellLane 23 = .ok (.iconst 0, 1) := by decide +kernel
theorem dX7_tellLane_24 : decode cX7_tellLane 24 = .ok (.ireturn, 1) := by decide +kernel
theorem dX7_tellLane_25 : decode cX7_tellLane 25 = .ok (.aload_n 0, 1) := by decide +kernel
theorem dX7_tellLane_26 : decode cX7_tellLane 26 = .ok (.iload_n 1, 1) := by decide +kernel
theorem dX7_tellLane_27 : decode cX7_tellLane 27 = .ok (.invokevirtual 141, 3) := by decide +kernel
theorem dX7_tellLane_30 : decode cX7_tellLane 30 = .ok (.istore_n 2, 1) := by decide +kernel
theorem dX7_tellLane_31 : decode cX7_tellLane 31 = .ok (.iload_n 2, 1) := by decide +kernel
theorem dX7_tellLane_32 : decode cX7_tellLane 32 = .ok (.iconst (-1), 1) := by decide +kernel
theorem dX7_tellLane_33 : decode cX7_tellLane 33 = .ok (.if_icmp .eq 21, 3) := by decide +kernel
theorem dX7_tellLane_36 : decode cX7_tellLane 36 = .ok (.aload_n 0, 1) := by decide +kernel
theorem dX7_tellLane_37 : decode cX7_tellLane 37 = .ok (.iconst 3, 1) := by decide +kernel
theorem dX7_tellLane_38 : decode cX7_tellLane 38 = .ok (.invokevirtual 135, 3) := by decide +kernel
theorem dX7_tellLane_41 : decode cX7_tellLane 41 = .ok (.ifCond .eq 13, 3) := by decide +kernel
theorem dX7_tellLane_44 : decode cX7_tellLane 44 = .ok (.aload_n 0, 1) := by decide +kernel
theorem dX7_tellLane_45 : decode cX7_tellLane 45 = .ok (.iconst 1, 1) := by decide +kernel
theorem dX7_tellLane_46 : decode cX7_tellLane 46 = .ok (.bipush 9, 2) := by decide +kernel
theorem dX7_tellLane_48 : decode cX7_tellLane 48 = .ok (.invokevirtual 110, 3) := by decide +kernel
theorem dX7_tellLane_51 : decode cX7_tellLane 51 = .ok (.ifCond .ne 5, 3) := by decide +kernel
theorem dX7_tellLane_54 : decode cX7_tellLane 54 = .ok (.iconst 0, 1) := by decide +kernel
theorem dX7_tellLane_55 : decode cX7_tellLane 55 = .ok (.ireturn, 1) := by decide +kernel
theorem dX7_tellLane_56 : decode cX7_tellLane 56 = .ok (.aload_n 0, 1) := by decide +kernel
theorem dX7_tellLane_57 : decode cX7_tellLane 57 = .ok (.getfield 113, 3) := by decide +kernel
theorem dX7_tellLane_60 : decode cX7_tellLane 60 = .ok (.istore_n 3, 1) := by decide +kernel
theorem dX7_tellLane_61 : decode cX7_tellLane 61 = .ok (.aload_n 0, 1) := by decide +kernel
theorem dX7_tellLane_62 : decode cX7_tellLane 62 = .ok (.iconst 4, 1) := by decide +kernel
theorem dX7_tellLane_63 : decode cX7_tellLane 63 = .ok (.invokevirtual 135, 3) := by decide +kernel
theorem dX7_tellLane_66 : decode cX7_tellLane 66 = .ok (.ifCond .eq 13, 3) := by decide +kernel
theorem dX7_tellLane_69 : decode cX7_tellLane 69 = .ok (.aload_n 0, 1) := by decide +kernel
theorem dX7_tellLane_70 : decode cX7_tellLane 70 = .ok (.iconst 0, 1) := by decide +kernel
theorem dX7_tellLane_71 : decode cX7_tellLane 71 = .ok (.bipush 9, 2) := by decide +kernel
theorem dX7_tellLane_73 : decode cX7_tellLane 73 = .ok (.invokevirtual 110, 3) := by decide +kernel
theorem dX7_tellLane_76 : decode cX7_tellLane 76 = .ok (.ifCond .ne 5, 3) := by decide +kernel
theorem dX7_tellLane_79 : decode cX7_tellLane 79 = .ok (.iconst 0, 1) := by decide +kernel
theorem dX7_tellLane_80 : decode cX7_tellLane 80 = .ok (.ireturn, 1) := by decide +kernel
theorem dX7_tellLane_81 : decode cX7_tellLane 81 = .ok (.aload_n 0, 1) := by decide +kernel
theorem dX7_tellLane_82 : decode cX7_tellLane 82 = .ok (.getfield 21, 3) := by decide +kernel
theorem dX7_tellLane_85 : decode cX7_tellLane 85 = .ok (.iload_n 1, 1) := by decide +kernel
theorem dX7_tellLane_86 : decode cX7_tellLane 86 = .ok (.iload_n 2, 1) := by decide +kernel
theorem dX7_tellLane_87 : decode cX7_tellLane 87 = .ok (.iload_n 3, 1) := by decide +kernel
theorem dX7_tellLane_88 : decode cX7_tellLane 88 = .ok (.aload_n 0, 1) := by decide +kernel
theorem dX7_tellLane_89 : decode cX7_tellLane 89 = .ok (.getfield 113, 3) := by decide +kernel
theorem dX7_tellLane_92 : decode cX7_tellLane 92 = .ok (.invokevirtual 145, 3) := by decide +kernel
theorem dX7_tellLane_95 : decode cX7_tellLane 95 = .ok (.iconst 1, 1) := by decide +kernel
theorem dX7_tellLane_96 : decode cX7_tellLane 96 = .ok (.ireturn, 1) := by decide +kernel
theorem dX7_tellSaint_0 : decode cX7_tellSaint 0 = .ok (.aload_n 0, 1) := by decide +kernel
theorem dX7_tellSaint_1 : decode cX7_tellSaint 1 = .ok (.iconst 2, 1) := by decide +kernel
theorem dX7_tellSaint_2 : decode cX7_tellSaint 2 = .ok (.iconst 4, 1) := by decide +kernel
theorem dX7_tellSaint_3 : decode cX7_tellSaint 3 = .ok (.invokevirtual 99, 3) := by decide +kernel
theorem dX7_tellSaint_6 : decode cX7_tellSaint 6 = .ok (.ifCond .eq 5, 3) := by decide +kernel
theorem dX7_tellSaint_9 : decode cX7_tellSaint 9 = .ok (.iconst 0, 1) := by decide +kernel
theorem dX7_tellSaint_10 : decode cX7_tellSaint 10 = .ok (.ireturn, 1) := by decide +kernel
theorem dX7_tellSaint_11 : decode cX7_tellSaint 11 = .ok (.aload_n 0, 1) := by decide +kernel
theorem dX7_tellSaint_12 : decode cX7_tellSaint 12 = .ok (.getfield 21, 3) := by decide +kernel
theorem dX7_tellSaint_15 : decode cX7_tellSaint 15 = .ok (.getfield 125, 3) := by decide +kernel
theorem dX7_tellSaint_18 : decode cX7_tellSaint 18 = .ok (.iconst 2, 1) := by decide +kernel
theorem dX7_tellSaint_19 : decode cX7_tellSaint 19 = .ok (.iaload, 1) := by decide +kernel
theorem dX7_tellSaint_20 : decode cX7_tellSaint 20 = .ok (.istore_n 1, 1) := by decide +kernel
theorem dX7_tellSaint_21 : decode cX7_tellSaint 21 = .ok (.aload_n 0, 1) := by decide +kernel
theorem dX7_tellSaint_22 : decode cX7_tellSaint 22 = .ok (.aload_n 0, 1) := by decide +kernel
theorem dX7_tellSaint_23 : decode cX7_tellSaint 23 = .ok (.getfield 21, 3) := by decide +kernel
theorem dX7_tellSaint_26 : decode cX7_tellSaint 26 = .ok (.getfield 149, 3) := by decide +kernel
theorem dX7_tellSaint_29 : decode cX7_tellSaint 29 = .ok (.iload_n 1, 1) := by decide +kernel
theorem dX7_tellSaint_30 : decode cX7_tellSaint 30 = .ok (.invokevirtual 131, 3) := by decide +kernel
theorem dX7_tellSaint_33 : decode cX7_tellSaint 33 = .ok (.ifCond .eq 12, 3) := by decide +kernel
theorem dX7_tellSaint_36 : decode cX7_tellSaint 36 = .ok (.aload_n 0, 1) := by decide +kernel
theorem dX7_tellSaint_37 : decode cX7_tellSaint 37 = .ok (.bipush 6, 2) := by decide +kernel
theorem dX7_tellSaint_39 : decode cX7_tellSaint 39 = .ok (.invokevirtual 135, 3) := by decide +kernel
theorem dX7_tellSaint_42 : decode cX7_tellSaint 42 = .ok (.ifCond .ne 5, 3) := by decide +kernel
theorem dX7_tellSaint_45 : decode cX7_tellSaint 45 = .ok (.iconst 0, 1) := by decide +kernel
theorem dX7_tellSaint_46 : decode cX7_tellSaint 46 = .ok (.ireturn, 1) := by decide +kernel
theorem dX7_tellSaint_47 : decode cX7_tellSaint 47 = .ok (.aload_n 0, 1) := by decide +kernel
theorem dX7_tellSaint_48 : decode cX7_tellSaint 48 = .ok (.iconst (-1), 1) := by decide +kernel
theorem dX7_tellSaint_49 : decode cX7_tellSaint 49 = .ok (.invokevirtual 141, 3) := by decide +kernel
theorem dX7_tellSaint_52 : decode cX7_tellSaint 52 = .ok (.istore_n 2, 1) := by decide +kernel
theorem dX7_tellSaint_53 : decode cX7_tellSaint 53 = .ok (.aload_n 0, 1) := by decide +kernel
theorem dX7_tellSaint_54 : decode cX7_tellSaint 54 = .ok (.getfield 21, 3) := by decide +kernel
theorem dX7_tellSaint_57 : decode cX7_tellSaint 57 = .ok (.getfield 152, 3) := by decide +kernel
theorem dX7_tellSaint_60 : decode cX7_tellSaint 60 = .ok (.iload_n 1, 1) := by decide +kernel
theorem dX7_tellSaint_61 : decode cX7_tellSaint 61 = .ok (.iconst 4, 1) := by decide +kernel
theorem dX7_tellSaint_62 : decode cX7_tellSaint 62 = .ok (.imul, 1) := by decide +kernel
theorem dX7_tellSaint_63 : decode cX7_tellSaint 63 = .ok (.iload_n 2, 1) := by decide +kernel
theorem dX7_tellSaint_64 : decode cX7_tellSaint 64 = .ok (.iastore, 1) := by decide +kernel
theorem dX7_tellSaint_65 : decode cX7_tellSaint 65 = .ok (.iload_n 2, 1) := by decide +kernel
theorem dX7_tellSaint_66 : decode cX7_tellSaint 66 = .ok (.iconst (-1), 1) := by decide +kernel
theorem dX7_tellSaint_67 : decode cX7_tellSaint 67 = .ok (.if_icmp .eq 21, 3) := by decide +kernel
theorem dX7_tellSaint_70 : decode cX7_tellSaint 70 = .ok (.aload_n 0, 1) := by decide +kernel
theorem dX7_tellSaint_71 : decode cX7_tellSaint 71 = .ok (.bipush 7, 2) := by decide +kernel
theorem dX7_tellSaint_73 : decode cX7_tellSaint 73 = .ok (.invokevirtual 135, 3) := by decide +kernel
theorem dX7_tellSaint_76 : decode cX7_tellSaint 76 = .ok (.ifCond .eq 12, 3) := by decide +kernel
theorem dX7_tellSaint_79 : decode cX7_tellSaint 79 = .ok (.aload_n 0, 1) := by decide +kernel
theorem dX7_tellSaint_80 : decode cX7_tellSaint 80 = .ok (.iconst 1, 1) := by decide +kernel
theorem dX7_tellSaint_81 : decode cX7_tellSaint 81 = .ok (.iconst 5, 1) := by decide +kernel
theorem dX7_tellSaint_82 : decode cX7_tellSaint 82 = .ok (.invokevirtual 110, 3) := by decide +kernel
theorem dX7_tellSaint_85 : decode cX7_tellSaint 85 = .ok (.ifCond .ne 5, 3) := by decide +kernel
theorem dX7_tellSaint_88 : decode cX7_tellSaint 88 = .ok (.iconst 0, 1) := by decide +kernel
theorem dX7_tellSaint_89 : decode cX7_tellSaint 89 = .ok (.ireturn, 1) := by decide +kernel
theorem dX7_tellSaint_90 : decode cX7_tellSaint 90 = .ok (.aload_n 0, 1) := by decide +kernel
theorem dX7_tellSaint_91 : decode cX7_tellSaint 91 = .ok (.getfield 21, 3) := by decide +kernel
theorem dX7_tellSaint_94 : decode cX7_tellSaint 94 = .ok (.getfield 152, 3) := by decide +kernel
theorem dX7_tellSaint_97 : decode cX7_tellSaint 97 = .ok (.iload_n 1, 1) := by decide +kernel
theorem dX7_tellSaint_98 : decode cX7_tellSaint 98 = .ok (.iconst 4, 1) := by decide +kernel
theorem dX7_tellSaint_99 : decode cX7_tellSaint 99 = .ok (.imul, 1) := by decide +kernel
theorem dX7_tellSaint_100 : decode cX7_tellSaint 100 = .ok (.iconst 1, 1) := by decide +kernel
theorem dX7_tellSaint_101 : decode cX7_tellSaint 101 = .ok (.iadd, 1) := by decide +kernel
theorem dX7_tellSaint_102 : decode cX7_tellSaint 102 = .ok (.aload_n 0, 1) := by decide +kernel
theorem dX7_tellSaint_103 : decode cX7_tellSaint 103 = .ok (.getfield 113, 3) := by decide +kernel
theorem dX7_tellSaint_106 : decode cX7_tellSaint 106 = .ok (.iastore, 1) := by decide +kernel
theorem dX7_tellSaint_107 : decode cX7_tellSaint 107 = .ok (.aload_n 0, 1) := by decide +kernel
theorem dX7_tellSaint_108 : decode cX7_tellSaint 108 = .ok (.bipush 8, 2) := by decide +kernel
theorem dX7_tellSaint_110 : decode cX7_tellSaint 110 = .ok (.invokevirtual 135, 3) := by decide +kernel
theorem dX7_tellSaint_113 : decode cX7_tellSaint 113 = .ok (.ifCond .eq 13, 3) := by decide +kernel
theorem dX7_tellSaint_116 : decode cX7_tellSaint 116 = .ok (.aload_n 0, 1) := by decide +kernel
theorem dX7_tellSaint_117 : decode cX7_tellSaint 117 = .ok (.iconst 0, 1) := by decide +kernel
theorem dX7_tellSaint_118 : decode cX7_tellSaint 118 = .ok (.bipush 20, 2) := by decide +kernel
theorem dX7_tellSaint_120 : decode cX7_tellSaint 120 = .ok (.invokevirtual 110, 3) := by decide +kernel
theorem dX7_tellSaint_123 : decode cX7_tellSaint 123 = .ok (.ifCond .ne 5, 3) := by decide +kernel
theorem dX7_tellSaint_126 : decode cX7_tellSaint 126 = .ok (.iconst 0, 1) := by decide +kernel
theorem dX7_tellSaint_127 : decode cX7_tellSaint 127 = .ok (.ireturn, 1) := by decide +kernel
theorem dX7_tellSaint_128 : decode cX7_tellSaint 128 = .ok (.aload_n 0, 1) := by decide +kernel
theorem dX7_tellSaint_129 : decode cX7_tellSaint 129 = .ok (.getfield 21, 3) := by decide +kernel
theorem dX7_tellSaint_132 : decode cX7_tellSaint 132 = .ok (.getfield 152, 3) := by decide +kernel
theorem dX7_tellSaint_135 : decode cX7_tellSaint 135 = .ok (.iload_n 1, 1) := by decide +kernel
theorem dX7_tellSaint_136 : decode cX7_tellSaint 136 = .ok (.iconst 4, 1) := by decide +kernel
theorem dX7_tellSaint_137 : decode cX7_tellSaint 137 = .ok (.imul, 1) := by decide +kernel
theorem dX7_tellSaint_138 : decode cX7_tellSaint 138 = .ok (.iconst 2, 1) := by decide +kernel
theorem dX7_tellSaint_139 : decode cX7_tellSaint 139 = .ok (.iadd, 1) := by decide +kernel
theorem dX7_tellSaint_140 : decode cX7_tellSaint 140 = .ok (.aload_n 0, 1) := by decide +kernel
theorem dX7_tellSaint_141 : decode cX7_tellSaint 141 = .ok (.getfield 113, 3) := by decide +kernel
theorem dX7_tellSaint_144 : decode cX7_tellSaint 144 = .ok (.iastore, 1) := by decide +kernel
theorem dX7_tellSaint_145 : decode cX7_tellSaint 145 = .ok (.aload_n 0, 1) := by decide +kernel
theorem dX7_tellSaint_146 : decode cX7_tellSaint 146 = .ok (.bipush 9, 2) := by decide +kernel
theorem dX7_tellSaint_148 : decode cX7_tellSaint 148 = .ok (.invokevirtual 135, 3) := by decide +kernel
theorem dX7_tellSaint_151 : decode cX7_tellSaint 151 = .ok (.ifCond .eq 13, 3) := by decide +kernel
theorem dX7_tellSaint_154 : decode cX7_tellSaint 154 = .ok (.aload_n 0, 1) := by decide +kernel
theorem dX7_tellSaint_155 : decode cX7_tellSaint 155 = .ok (.iconst 0, 1) := by decide +kernel
theorem dX7_tellSaint_156 : decode cX7_tellSaint 156 = .ok (.bipush 99, 2) := by decide +kernel
theorem dX7_tellSaint_158 : decode cX7_tellSaint 158 = .ok (.invokevirtual 110, 3) := by decide +kernel
theorem dX7_tellSaint_161 : decode cX7_tellSaint 161 = .ok (.ifCond .ne 5, 3) := by decide +kernel
theorem dX7_tellSaint_164 : decode cX7_tellSaint 164 = .ok (.iconst 0, 1) := by decide +kernel
theorem dX7_tellSaint_165 : decode cX7_tellSaint 165 = .ok (.ireturn, 1) := by decide +kernel
theorem dX7_tellSaint_166 : decode cX7_tellSaint 166 = .ok (.aload_n 0, 1) := by decide +kernel
theorem dX7_tellSaint_167 : decode cX7_tellSaint 167 = .ok (.getfield 21, 3) := by decide +kernel
theorem dX7_tellSaint_170 : decode cX7_tellSaint 170 = .ok (.getfield 152, 3) := by decide +kernel
theorem dX7_tellSaint_173 : decode cX7_tellSaint 173 = .ok (.iload_n 1, 1) := by decide +kernel
theorem dX7_tellSaint_174 : decode cX7_tellSaint 174 = .ok (.iconst 4, 1) := by decide +kernel
theorem dX7_tellSaint_175 : decode cX7_tellSaint 175 = .ok (.imul, 1) := by decide +kernel
theorem dX7_tellSaint_176 : decode cX7_tellSaint 176 = .ok (.iconst 3, 1) := by decide +kernel
theorem dX7_tellSaint_177 : decode cX7_tellSaint 177 = .ok (.iadd, 1) := by decide +kernel
theorem dX7_tellSaint_178 : decode cX7_tellSaint 178 = .ok (.aload_n 0, 1) := by decide +kernel
theorem dX7_tellSaint_179 : decode cX7_tellSaint 179 = .ok (.getfield 113, 3) := by decide +kernel
theorem dX7_tellSaint_182 : decode cX7_tellSaint 182 = .ok (.iastore, 1) := by decide +kernel
theorem dX7_tellSaint_183 : decode cX7_tellSaint 183 = .ok (.aload_n 0, 1) := by decide +kernel
theorem dX7_tellSaint_184 : decode cX7_tellSaint 184 = .ok (.getfield 21, 3) := by decide +kernel
theorem dX7_tellSaint_187 : decode cX7_tellSaint 187 = .ok (.getfield 125, 3) := by decide +kernel
theorem dX7_tellSaint_190 : decode cX7_tellSaint 190 = .ok (.iconst 2, 1) := by decide +kernel
theorem dX7_tellSaint_191 : decode cX7_tellSaint 191 = .ok (.dup2, 1) := by decide +kernel
theorem dX7_tellSaint_192 : decode cX7_tellSaint 192 = .ok (.iaload, 1) := by decide +kernel
theorem dX7_tellSaint_193 : decode cX7_tellSaint 193 = .ok (.iconst 1, 1) := by decide +kernel
theorem dX7_tellSaint_194 : decode cX7_tellSaint 194 = .ok (.iadd, 1) := by decide +kernel
theorem dX7_tellSaint_195 : decode cX7_tellSaint 195 = .ok (.iastore, 1) := by decide +kernel
theorem dX7_tellSaint_196 : decode cX7_tellSaint 196 = .ok (.iconst 1, 1) := by decide +kernel
theorem dX7_tellSaint_197 : decode cX7_tellSaint 197 = .ok (.ireturn, 1) := by decide +kernel
theorem dX7_test_0 : decode cX7_test 0 = .ok (.iconst 0, 1) := by decide +kernel
theorem dX7_test_1 : decode cX7_test 1 = .ok (.istore_n 2, 1) := by decide +kernel
theorem dX7_test_2 : decode cX7_test 2 = .ok (.iconst 0, 1) := by decide +kernel
theorem dX7_test_3 : decode cX7_test 3 = .ok (.istore_n 3, 1) := by decide +kernel
theorem dX7_test_4 : decode cX7_test 4 = .ok (.iconst 0, 1) := by decide +kernel
theorem dX7_test_5 : decode cX7_test 5 = .ok (.istore 4, 2) := by decide +kernel
theorem dX7_test_7 : decode cX7_test 7 = .ok (.iload 4, 2) := by decide +kernel
theorem dX7_test_9 : decode cX7_test 9 = .ok (.sipush 1600, 3) := by decide +kernel
theorem dX7_test_12 : decode cX7_test 12 = .ok (.if_icmp .ge 97, 3) := by decide +kernel
theorem dX7_test_15 : decode cX7_test 15 = .ok (.aload_n 0, 1) := by decide +kernel
theorem dX7_test_16 : decode cX7_test 16 = .ok (.iload_n 1, 1) := by decide +kernel
theorem dX7_test_17 : decode cX7_test 17 = .ok (.invokevirtual 183, 3) := by decide +kernel
theorem dX7_test_20 : decode cX7_test 20 = .ok (.ifCond .ne 5, 3) := by decide +kernel
theorem dX7_test_23 : decode cX7_test 23 = .ok (.iconst 0, 1) := by decide +kernel
theorem dX7_test_24 : decode cX7_test 24 = .ok (.ireturn, 1) := by decide +kernel
theorem dX7_test_25 : decode cX7_test 25 = .ok (.iload_n 2, 1) := by decide +kernel
theorem dX7_test_26 : decode cX7_test 26 = .ok (.ifCond .eq 9, 3) := by decide +kernel
theorem dX7_test_29 : decode cX7_test 29 = .ok (.aload_n 0, 1) := by decide +kernel
theorem dX7_test_30 : decode cX7_test 30 = .ok (.bipush (-16), 2) := by decide +kernel
theorem dX7_test_32 : decode cX7_test 32 = .ok (.invokevirtual 186, 3) := by decide +kernel
theorem dX7_test_35 : decode cX7_test 35 = .ok (.aload_n 0, 1) := by decide +kernel
theorem dX7_test_36 : decode cX7_test 36 = .ok (.getfield 45, 3) := by decide +kernel
theorem dX7_test_39 : decode cX7_test 39 = .ok (.bipush 17, 2) := by decide +kernel
theorem dX7_test_41 : decode cX7_test 41 = .ok (.if_icmp .ne 14, 3) := by decide +kernel
theorem dX7_test_44 : decode cX7_test 44 = .ok (.aload_n 0, 1) := by decide +kernel
theorem dX7_test_45 : decode cX7_test 45 = .ok (.getfield 82, 3) := by decide +kernel
theorem dX7_test_48 : decode cX7_test 48 = .ok (.ifCond .ne 7, 3) := by decide +kernel
theorem dX7_test_51 : decode cX7_test 51 = .ok (.iconst 1, 1) := by decide +kernel
theorem dX7_test_52 : decode cX7_test 52 = .ok (.goto 4, 3) := by decide +kernel
theorem dX7_test_55 : decode cX7_test 55 = .ok (.iconst 0, 1) := by decide +kernel
theorem dX7_test_56 : decode cX7_test 56 = .ok (.istore_n 2, 1) := by decide +kernel
theorem dX7_test_57 : decode cX7_test 57 = .ok (.iload_n 2, 1) := by decide +kernel
theorem dX7_test_58 : decode cX7_test 58 = .ok (.ifCond .ne 41, 3) := by decide +kernel
theorem dX7_test_61 : decode cX7_test 61 = .ok (.iload_n 3, 1) := by decide +kernel
theorem dX7_test_62 : decode cX7_test 62 = .ok (.ifCond .eq 9, 3) := by decide +kernel
theorem dX7_test_65 : decode cX7_test 65 = .ok (.aload_n 0, 1) := by decide +kernel
theorem dX7_test_66 : decode cX7_test 66 = .ok (.bipush (-17), 2) := by decide +kernel
theorem dX7_test_68 : decode cX7_test 68 = .ok (.invokevirtual 186, 3) := by decide +kernel
theorem dX7_test_71 : decode cX7_test 71 = .ok (.aload_n 0, 1) := by decide +kernel
theorem dX7_test_72 : decode cX7_test 72 = .ok (.getfield 45, 3) := by decide +kernel
theorem dX7_test_75 : decode cX7_test 75 = .ok (.bipush 16, 2) := by decide +kernel
theorem dX7_test_77 : decode cX7_test 77 = .ok (.if_icmp .ne 14, 3) := by decide +kernel
theorem dX7_test_80 : decode cX7_test 80 = .ok (.aload_n 0, 1) := by decide +kernel
theorem dX7_test_81 : decode cX7_test 81 = .ok (.getfield 82, 3) := by decide +kernel
theorem dX7_test_84 : decode cX7_test 84 = .ok (.ifCond .ne 7, 3) := by decide +kernel
theorem dX7_test_87 : decode cX7_test 87 = .ok (.iconst 1, 1) := by decide +kernel
theorem dX7_test_88 : decode cX7_test 88 = .ok (.goto 4, 3) := by decide +kernel
theorem dX7_test_91 : decode cX7_test 91 = .ok (.iconst 0, 1) := by decide +kernel
theorem dX7_test_92 : decode cX7_test 92 = .ok (.istore_n 3, 1) := by decide +kernel
theorem dX7_test_93 : decode cX7_test 93 = .ok (.iload_n 3, 1) := by decide +kernel
theorem dX7_test_94 : decode cX7_test 94 = .ok (.ifCond .ne 5, 3) := by decide +kernel
theorem dX7_test_97 : decode cX7_test 97 = .ok (.iconst 1, 1) := by decide +kernel
theorem dX7_test_98 : decode cX7_test 98 = .ok (.ireturn, 1) := by decide +kernel
theorem dX7_test_99 : decode cX7_test 99 = .ok (.aload_n 0, 1) := by decide +kernel
theorem dX7_test_100 : decode cX7_test 100 = .ok (.invokevirtual 62, 3) := by decide +kernel
theorem dX7_test_103 : decode cX7_test 103 = .ok (.iinc 4 1, 3) := by decide +kernel
theorem dX7_test_106 : decode cX7_test 106 = .ok (.goto (-99), 3) := by decide +kernel
theorem dX7_test_109 : decode cX7_test 109 = .ok (.aload_n 0, 1) := by decide +kernel
theorem dX7_test_110 : decode cX7_test 110 = .ok (.iconst 1, 1) := by decide +kernel
theorem dX7_test_111 : decode cX7_test 111 = .ok (.aload_n 0, 1) := by decide +kernel
theorem dX7_test_112 : decode cX7_test 112 = .ok (.getfield 79, 3) := by decide +kernel
theorem dX7_test_115 : decode cX7_test 115 = .ok (.invokevirtual 119, 3) := by decide +kernel
theorem dX7_test_118 : decode cX7_test 118 = .ok (.ireturn, 1) := by decide +kernel
theorem dX7_word_0 : decode cX7_word 0 = .ok (.aload_n 0, 1) := by decide +kernel
theorem dX7_word_1 : decode cX7_word 1 = .ok (.getfield 45, 3) := by decide +kernel
theorem dX7_word_4 : decode cX7_word 4 = .ok (.iload_n 1, 1) := by decide +kernel
theorem dX7_word_5 : decode cX7_word 5 = .ok (.if_icmp .ne 10, 3) := by decide +kernel
theorem dX7_word_8 : decode cX7_word 8 = .ok (.aload_n 0, 1) := by decide +kernel
theorem dX7_word_9 : decode cX7_word 9 = .ok (.getfield 82, 3) := by decide +kernel
theorem dX7_word_12 : decode cX7_word 12 = .ok (.ifCond .eq 13, 3) := by decide +kernel
theorem dX7_word_15 : decode cX7_word 15 = .ok (.aload_n 0, 1) := by decide +kernel
theorem dX7_word_16 : decode cX7_word 16 = .ok (.iconst 1, 1) := by decide +kernel
theorem dX7_word_17 : decode cX7_word 17 = .ok (.aload_n 0, 1) := by decide +kernel
theorem dX7_word_18 : decode cX7_word 18 = .ok (.getfield 79, 3) := by decide +kernel
theorem dX7_word_21 : decode cX7_word 21 = .ok (.invokevirtual 119, 3) := by decide +kernel
theorem dX7_word_24 : decode cX7_word 24 = .ok (.ireturn, 1) := by decide +kernel
theorem dX7_word_25 : decode cX7_word 25 = .ok (.aload_n 0, 1) := by decide +kernel
theorem dX7_word_26 : decode cX7_word 26 = .ok (.invokevirtual 62, 3) := by decide +kernel
theorem dX7_word_29 : decode cX7_word 29 = .ok (.iconst 1, 1) := by decide +kernel
theorem dX7_word_30 : decode cX7_word 30 = .ok (.ireturn, 1) := by decide +kernel
theorem dX8_cornerAt_0 : decode cX8_cornerAt 0 = .ok (.iconst 0, 1) := by decide +kernel
theorem dX8_cornerAt_1 : decode cX8_cornerAt 1 = .ok (.istore_n 2, 1) := by decide +kernel
theorem dX8_cornerAt_2 : decode cX8_cornerAt 2 = .ok (.iconst 1, 1) := by decide +kernel
theorem dX8_cornerAt_3 : decode cX8_cornerAt 3 = .ok (.istore_n 3, 1) := by decide +kernel
theorem dX8_cornerAt_4 : decode cX8_cornerAt 4 = .ok (.iload_n 3, 1) := by decide +kernel
theorem dX8_cornerAt_5 : decode cX8_cornerAt 5 = .ok (.aload_n 0, 1) := by decide +kernel
theorem dX8_cornerAt_6 : decode cX8_cornerAt 6 = .ok (.getfield 24, 3) := by decide +kernel
theorem dX8_cornerAt_9 : decode cX8_cornerAt 9 = .ok (.if_icmp .ge 21, 3) := by decide +kernel
theorem dX8_cornerAt_12 : decode cX8_cornerAt 12 = .ok (.aload_n 0, 1) := by decide +kernel
theorem dX8_cornerAt_13 : decode cX8_cornerAt 13 = .ok (.getfield 21, 3) := by decide +kernel
theorem dX8_cornerAt_16 : decode cX8_cornerAt 16 = .ok (.iload_n 3, 1) := by decide +kernel
theorem dX8_cornerAt_17 : decode cX8_cornerAt 17 = .ok (.iaload, 1) := by decide +kernel
theorem dX8_cornerAt_18 : decode cX8_cornerAt 18 = .ok (.iload_n 1, 1) := by decide +kernel
theorem dX8_cornerAt_19 : decode cX8_cornerAt 19 = .ok (.if_icmp .gt 11, 3) := by decide +kernel
theorem dX8_cornerAt_22 : decode cX8_cornerAt 22 = .ok (.iload_n 3, 1) := by decide +kernel
theorem dX8_cornerAt_23 : decode cX8_cornerAt 23 = .ok (.istore_n 2, 1) := by decide +kernel
theorem dX8_cornerAt_24 : decode cX8_cornerAt 24 = .ok (.iinc 3 1, 3) := by decide +kernel
theorem dX8_cornerAt_27 : decode cX8_cornerAt 27 = .ok (.goto (-23), 3) := by decide +kernel
theorem dX8_cornerAt_30 : decode cX8_cornerAt 30 = .ok (.aload_n 0, 1) := by decide +kernel
theorem dX8_cornerAt_31 : decode cX8_cornerAt 31 = .ok (.getfield 9, 3) := by decide +kernel
theorem dX8_cornerAt_34 : decode cX8_cornerAt 34 = .ok (.iload_n 2, 1) := by decide +kernel
theorem dX8_cornerAt_35 : decode cX8_cornerAt 35 = .ok (.iaload, 1) := by decide +kernel
theorem dX8_cornerAt_36 : decode cX8_cornerAt 36 = .ok (.ireturn, 1) := by decide +kernel
theorem dX8_init_0 : decode cX8_init 0 = .ok (.aload_n 0, 1) := by decide +kernel
theorem dX8_init_1 : decode cX8_init 1 = .ok (.invokespecial 3, 3) := by decide +kernel
theorem dX8_init_4 : decode cX8_init 4 = .ok (.aload_n 0, 1) := by decide +kernel
theorem dX8_init_5 : decode cX8_init 5 = .ok (.iload_n 1, 1) := by decide +kernel
theorem dX8_init_6 : decode cX8_init 6 = .ok (.newarray .int, 2) := by decide +kernel
theorem dX8_init_8 : decode cX8_init 8 = .ok (.putfield 9, 3) := by decide +kernel
theorem dX8_init_11 : decode cX8_init 11 = .ok (.aload_n 0, 1) := by decide +kernel
theorem dX8_init_12 : decode cX8_init 12 = .ok (.iload_n 1, 1) := by decide +kernel
theorem dX8_init_13 : decode cX8_init 13 = .ok (.newarray .int, 2) := by decide +kernel
theorem dX8_init_15 : decode cX8_init 15 = .ok (.putfield 15, 3) := by decide +kernel
theorem dX8_init_18 : decode cX8_init 18 = .ok (.aload_n 0, 1) := by decide +kernel
theorem dX8_init_19 : decode cX8_init 19 = .ok (.iload_n 1, 1) := by decide +kernel
theorem dX8_init_20 : decode cX8_init 20 = .ok (.newarray .int, 2) := by decide +kernel
theorem dX8_init_22 : decode cX8_init 22 = .ok (.putfield 18, 3) := by decide +kernel
theorem dX8_init_25 : decode cX8_init 25 = .ok (.aload_n 0, 1) := by decide +kernel
theorem dX8_init_26 : decode cX8_init 26 = .ok (.iload_n 1, 1) := by decide +kernel
theorem dX8_init_27 : decode cX8_init 27 = .ok (.newarray .int, 2) := by decide +kernel
theorem dX8_init_29 : decode cX8_init 29 = .ok (.putfield 21, 3) := by decide +kernel
theorem dX8_init_32 : decode cX8_init 32 = .ok (.return_, 1) := by decide +kernel
theorem dX8_laneAt_0 : decode cX8_laneAt 0 = .ok (.iconst 1, 1) := by decide +kernel
theorem dX8_laneAt_1 : decode cX8_laneAt 1 = .ok (.istore_n 2, 1) := by decide +kernel
theorem dX8_laneAt_2 : decode cX8_laneAt 2 = .ok (.iload_n 2, 1) := by decide +kernel
theorem dX8_laneAt_3 : decode cX8_laneAt 3 = .ok (.aload_n 0, 1) := by decide +kernel
theorem dX8_laneAt_4 : decode cX8_laneAt 4 = .ok (.getfield 24, 3) := by decide +kernel
theorem dX8_laneAt_7 : decode cX8_laneAt 7 = .ok (.if_icmp .ge 36, 3) := by decide +kernel
theorem dX8_laneAt_10 : decode cX8_laneAt 10 = .ok (.aload_n 0, 1) := by decide +kernel
theorem dX8_laneAt_11 : decode cX8_laneAt 11 = .ok (.getfield 18, 3) := by decide +kernel
theorem dX8_laneAt_14 : decode cX8_laneAt 14 = .ok (.iload_n 2, 1) := by decide +kernel
theorem dX8_laneAt_15 : decode cX8_laneAt 15 = .ok (.iaload, 1) := by decide +kernel
theorem dX8_laneAt_16 : decode cX8_laneAt 16 = .ok (.iload_n 1, 1) := by decide +kernel
theorem dX8_laneAt_17 : decode cX8_laneAt 17 = .ok (.if_icmp .ge 20, 3) := by decide +kernel
theorem dX8_laneAt_20 : decode cX8_laneAt 20 = .ok (.iload_n 1, 1) := by decide +kernel
theorem dX8_laneAt_21 : decode cX8_laneAt 21 = .ok (.aload_n 0, 1) := by decide +kernel
theorem dX8_laneAt_22 : decode cX8_laneAt 22 = .ok (.getfield 21, 3) := by decide +kernel
theorem dX8_laneAt_25 : decode cX8_laneAt 25 = .ok (.iload_n 2, 1) := by decide +kernel
theorem dX8_laneAt_26 : decode cX8_laneAt 26 = .ok (.iaload, 1) := by decide +kernel
theorem dX8_laneAt_27 : decode cX8_laneAt 27 = .ok (.if_icmp .gt 10, 3) := by decide +kernel
theorem dX8_laneAt_30 : decode cX8_laneAt 30 = .ok (.aload_n 0, 1) := by decide +kernel
theorem dX8_laneAt_31 : decode cX8_laneAt 31 = .ok (.getfield 15, 3) := by decide +kernel
theorem dX8_laneAt_34 : decode cX8_laneAt 34 = .ok (.iload_n 2, 1) := by decide +kernel
theorem dX8_laneAt_35 : decode cX8_laneAt 35 = .ok (.iaload, 1) := by decide +kernel
theorem dX8_laneAt_36 : decode cX8_laneAt 36 = .ok (.ireturn, 1) := by decide +kernel
theorem dX8_laneAt_37 : decode cX8_laneAt 37 = .ok (.iinc 2 1, 3) := by decide +kernel
theorem dX8_laneAt_40 : decode cX8_laneAt 40 = .ok (.goto (-38), 3) := by decide +kernel
theorem dX8_laneAt_43 : decode cX8_laneAt 43 = .ok (.iconst (-1), 1) := by decide +kernel
theorem dX8_laneAt_44 : decode cX8_laneAt 44 = .ok (.ireturn, 1) := by decide +kernel
theorem dX8_lastCorner_0 : decode cX8_lastCorner 0 = .ok (.aload_n 0, 1) := by decide +kernel
theorem dX8_lastCorner_1 : decode cX8_lastCorner 1 = .ok (.getfield 24, 3) := by decide +kernel
theorem dX8_lastCorner_4 : decode cX8_lastCorner 4 = .ok (.ifCond .le 29, 3) := by decide +kernel
theorem dX8_lastCorner_7 : decode cX8_lastCorner 7 = .ok (.aload_n 0, 1) := by decide +kernel
theorem dX8_lastCorner_8 : decode cX8_lastCorner 8 = .ok (.getfield 24, 3) := by decide +kernel
theorem dX8_lastCorner_11 : decode cX8_lastCorner 11 = .ok (.aload_n 0, 1) := by decide +kernel
theorem dX8_lastCorner_12 : decode cX8_lastCorner 12 = .ok (.getfield 9, 3) := by decide +kernel
theorem dX8_lastCorner_15 : decode cX8_lastCorner 15 = .ok (.arraylength, 1) := by decide +kernel
theorem dX8_lastCorner_16 : decode cX8_lastCorner 16 = .ok (.if_icmp .gt 17, 3) := by decide +kernel
theorem dX8_lastCorner_19 : decode cX8_lastCorner 19 = .ok (.aload_n 0, 1) := by decide +kernel
theorem dX8_lastCorner_20 : decode cX8_lastCorner 20 = .ok (.getfield 9, 3) := by decide +kernel
theorem dX8_lastCorner_23 : decode cX8_lastCorner 23 = .ok (.aload_n 0, 1) := by decide +kernel
theorem dX8_lastCorner_24 : decode cX8_lastCorner 24 = .ok (.getfield 24, 3) := by decide +kernel
theorem dX8_lastCorner_27 : decode cX8_lastCorner 27 = .ok (.iconst 1, 1) := by decide +kernel
theorem dX8_lastCorner_28 : decode cX8_lastCorner 28 = .ok (.isub, 1) := by decide +kernel
theorem dX8_lastCorner_29 : decode cX8_lastCorner 29 = .ok (.iaload, 1) := by decide +kernel
theorem dX8_lastCorner_30 : decode cX8_lastCorner 30 = .ok (.goto 4, 3) := by decide +kernel
theorem dX8_lastCorner_33 : decode cX8_lastCorner 33 = .ok (.iconst 0, 1) := by decide +kernel
theorem dX8_lastCorner_34 : decode cX8_lastCorner 34 = .ok (.ireturn, 1) := by decide +kernel
theorem dX8_start_0 : decode cX8_start 0 = .ok (.aload_n 0, 1) := by decide +kernel
theorem dX8_start_1 : decode cX8_start 1 = .ok (.getfield 9, 3) := by decide +kernel
theorem dX8_start_4 : decode cX8_start 4 = .ok (.arraylength, 1) := by decide +kernel
theorem dX8_start_5 : decode cX8_start 5 = .ok (.ifCond .le 22, 3) := by decide +kernel
theorem dX8_start_8 : decode cX8_start 8 = .ok (.aload_n 0, 1) := by decide +kernel
theorem dX8_start_9 : decode cX8_start 9 = .ok (.getfield 9, 3) := by decide +kernel
theorem dX8_start_12 : decode cX8_start 12 = .ok (.iconst 0, 1) := by decide +kernel
theorem dX8_start_13 : decode cX8_start 13 = .ok (.iload_n 1, 1) := by decide +kernel
theorem dX8_start_14 : decode cX8_start 14 = .ok (.iastore, 1) := by decide +kernel
theorem dX8_start_15 : decode cX8_start 15 = .ok (.aload_n 0, 1) := by decide +kernel
theorem dX8_start_16 : decode cX8_start 16 = .ok (.getfield 15, 3) := by decide +kernel
theorem dX8_start_19 : decode cX8_start 19 = .ok (.iconst 0, 1) := by decide +kernel
theorem dX8_start_20 : decode cX8_start 20 = .ok (.iconst (-1), 1) := by decide +kernel
theorem dX8_start_21 : decode cX8_start 21 = .ok (.iastore, 1) := by decide +kernel
theorem dX8_start_22 : decode cX8_start 22 = .ok (.aload_n 0, 1) := by decide +kernel
theorem dX8_start_23 : decode cX8_start 23 = .ok (.iconst 1, 1) := by decide +kernel
theorem dX8_start_24 : decode cX8_start 24 = .ok (.putfield 24, 3) := by decide +kernel
theorem dX8_start_27 : decode cX8_start 27 = .ok (.aload_n 0, 1) := by decide +kernel
theorem dX8_start_28 : decode cX8_start 28 = .ok (.iconst 0, 1) := by decide +kernel
theorem dX8_start_29 : decode cX8_start 29 = .ok (.putfield 28, 3) := by decide +kernel
theorem dX8_start_32 : decode cX8_start 32 = .ok (.aload_n 0, 1) := by decide +kernel
theorem dX8_start_33 : decode cX8_start 33 = .ok (.iconst 0, 1) := by decide +kernel
theorem dX8_start_34 : decode cX8_start 34 = .ok (.putfield 31, 3) := by decide +kernel
theorem dX8_start_37 : decode cX8_start 37 = .ok (.aload_n 0, 1) := by decide +kernel
theorem dX8_start_38 : decode cX8_start 38 = .ok (.iconst 0, 1) := by decide +kernel
theorem dX8_start_39 : decode cX8_start 39 = .ok (.putfield 34, 3) := by decide +kernel
theorem dX8_start_42 : decode cX8_start 42 = .ok (.return_, 1) := by decide +kernel
theorem dX8_stay_0 : decode cX8_stay 0 = .ok (.aload_n 0, 1) := by decide +kernel
theorem dX8_stay_1 : decode cX8_stay 1 = .ok (.dup, 1) := by decide +kernel
theorem dX8_stay_2 : decode cX8_stay 2 = .ok (.getfield 28, 3) := by decide +kernel
theorem dX8_stay_5 : decode cX8_stay 5 = .ok (.iload_n 1, 1) := by decide +kernel
theorem dX8_stay_6 : decode cX8_stay 6 = .ok (.iadd, 1) := by decide +kernel
theorem dX8_stay_7 : decode cX8_stay 7 = .ok (.putfield 28, 3) := by decide +kernel
theorem dX8_stay_10 : decode cX8_stay 10 = .ok (.aload_n 0, 1) := by decide +kernel
theorem dX8_stay_11 : decode cX8_stay 11 = .ok (.iconst 1, 1) := by decide +kernel
theorem dX8_stay_12 : decode cX8_stay 12 = .ok (.putfield 34, 3) := by decide +kernel
theorem dX8_stay_15 : decode cX8_stay 15 = .ok (.return_, 1) := by decide +kernel
theorem dX8_walkBy_0 : decode cX8_walkBy 0 = .ok (.aload_n 0, 1) := by decide +kernel
theorem dX8_walkBy_1 : decode cX8_walkBy 1 = .ok (.getfield 24, 3) := by decide +kernel
theorem dX8_walkBy_4 : decode cX8_walkBy 4 = .ok (.aload_n 0, 1) := by decide +kernel
theorem dX8_walkBy_5 : decode cX8_walkBy 5 = .ok (.getfield 9, 3) := by decide +kernel
theorem dX8_walkBy_8 : decode cX8_walkBy 8 = .ok (.arraylength, 1) := by decide +kernel
theorem dX8_walkBy_9 : decode cX8_walkBy 9 = .ok (.if_icmp .ge 86, 3) := by decide +kernel
theorem dX8_walkBy_12 : decode cX8_walkBy 12 = .ok (.aload_n 0, 1) := by decide +kernel
theorem dX8_walkBy_13 : decode cX8_walkBy 13 = .ok (.getfield 9, 3) := by decide +kernel
theorem dX8_walkBy_16 : decode cX8_walkBy 16 = .ok (.aload_n 0, 1) := by decide +kernel
theorem dX8_walkBy_17 : decode cX8_walkBy 17 = .ok (.getfield 24, 3) := by decide +kernel
theorem dX8_walkBy_20 : decode cX8_walkBy 20 = .ok (.iload_n 2, 1) := by decide +kernel
theorem dX8_walkBy_21 : decode cX8_walkBy 21 = .ok (.iastore, 1) := by decide +kernel
theorem dX8_walkBy_22 : decode cX8_walkBy 22 = .ok (.aload_n 0, 1) := by decide +kernel
theorem dX8_walkBy_23 : decode cX8_walkBy 23 = .ok (.getfield 15, 3) := by decide +kernel
theorem dX8_walkBy_26 : decode cX8_walkBy 26 = .ok (.aload_n 0, 1) := by decide +kernel
theorem dX8_walkBy_27 : decode cX8_walkBy 27 = .ok (.getfield 24, 3) := by decide +kernel
theorem dX8_walkBy_30 : decode cX8_walkBy 30 = .ok (.iload_n 1, 1) := by decide +kernel
theorem dX8_walkBy_31 : decode cX8_walkBy 31 = .ok (.iastore, 1) := by decide +kernel
theorem dX8_walkBy_32 : decode cX8_walkBy 32 = .ok (.aload_n 0, 1) := by decide +kernel
theorem dX8_walkBy_33 : decode cX8_walkBy 33 = .ok (.getfield 18, 3) := by decide +kernel
theorem dX8_walkBy_36 : decode cX8_walkBy 36 = .ok (.aload_n 0, 1) := by decide +kernel
theorem dX8_walkBy_37 : decode cX8_walkBy 37 = .ok (.getfield 24, 3) := by decide +kernel
theorem dX8_walkBy_40 : decode cX8_walkBy 40 = .ok (.aload_n 0, 1) := by decide +kernel
theorem dX8_walkBy_41 : decode cX8_walkBy 41 = .ok (.getfield 28, 3) := by decide +kernel
theorem dX8_walkBy_44 : decode cX8_walkBy 44 = .ok (.iastore, 1) := by decide +kernel
theorem dX8_walkBy_45 : decode cX8_walkBy 45 = .ok (.aload_n 0, 1) := by decide +kernel
theorem dX8_walkBy_46 : decode cX8_walkBy 46 = .ok (.dup, 1) := by decide +kernel
theorem dX8_walkBy_47 : decode cX8_walkBy 47 = .ok (.getfield 28, 3) := by decide +kernel
theorem dX8_walkBy_50 : decode cX8_walkBy 50 = .ok (.iload_n 3, 1) := by decide +kernel
theorem dX8_walkBy_51 : decode cX8_walkBy 51 = .ok (.iadd, 1) := by decide +kernel
theorem dX8_walkBy_52 : decode cX8_walkBy 52 = .ok (.putfield 28, 3) := by decide +kernel
theorem dX8_walkBy_55 : decode cX8_walkBy 55 = .ok (.aload_n 0, 1) := by decide +kernel
theorem dX8_walkBy_56 : decode cX8_walkBy 56 = .ok (.getfield 21, 3) := by decide +kernel
theorem dX8_walkBy_59 : decode cX8_walkBy 59 = .ok (.aload_n 0, 1) := by decide +kernel
theorem dX8_walkBy_60 : decode cX8_walkBy 60 = .ok (.getfield 24, 3) := by decide +kernel
theorem dX8_walkBy_63 : decode cX8_walkBy 63 = .ok (.aload_n 0, 1) := by decide +kernel
theorem dX8_walkBy_64 : decode cX8_walkBy 64 = .ok (.getfield 28, 3) := by decide +kernel
theorem dX8_walkBy_67 : decode cX8_walkBy 67 = .ok (.iastore, 1) := by decide +kernel
theorem dX8_walkBy_68 : decode cX8_walkBy 68 = .ok (.aload_n 0, 1) := by decide +kernel
theorem dX8_walkBy_69 : decode cX8_walkBy 69 = .ok (.dup, 1) := by decide +kernel
theorem dX8_walkBy_70 : decode cX8_walkBy 70 = .ok (.getfield 24, 3) := by decide +kernel
theorem dX8_walkBy_73 : decode cX8_walkBy 73 = .ok (.iconst 1, 1) := by decide +kernel
theorem dX8_walkBy_74 : decode cX8_walkBy 74 = .ok (.iadd, 1) := by decide +kernel
theorem dX8_walkBy_75 : decode cX8_walkBy 75 = .ok (.putfield 24, 3) := by decide +kernel
theorem dX8_walkBy_78 : decode cX8_walkBy 78 = .ok (.aload_n 0, 1) := by decide +kernel
theorem dX8_walkBy_79 : decode cX8_walkBy 79 = .ok (.dup, 1) := by decide +kernel
theorem dX8_walkBy_80 : decode cX8_walkBy 80 = .ok (.getfield 31, 3) := by decide +kernel
theorem dX8_walkBy_83 : decode cX8_walkBy 83 = .ok (.iconst 1, 1) := by decide +kernel
theorem dX8_walkBy_84 : decode cX8_walkBy 84 = .ok (.iload_n 1, 1) := by decide +kernel
theorem dX8_walkBy_85 : decode cX8_walkBy 85 = .ok (.ishl, 1) := by decide +kernel
theorem dX8_walkBy_86 : decode cX8_walkBy 86 = .ok (.ior, 1) := by decide +kernel
theorem dX8_walkBy_87 : decode cX8_walkBy 87 = .ok (.putfield 31, 3) := by decide +kernel
theorem dX8_walkBy_90 : decode cX8_walkBy 90 = .ok (.aload_n 0, 1) := by decide +kernel
theorem dX8_walkBy_91 : decode cX8_walkBy 91 = .ok (.iconst 1, 1) := by decide +kernel
theorem dX8_walkBy_92 : decode cX8_walkBy 92 = .ok (.putfield 34, 3) := by decide +kernel
theorem dX8_walkBy_95 : decode cX8_walkBy 95 = .ok (.return_, 1) := by decide +kernel
theorem dX9_accept_0 : decode cX9_accept 0 = .ok (.aload_n 0, 1) := by decide +kernel
theorem dX9_accept_1 : decode cX9_accept 1 = .ok (.getfield 15, 3) := by decide +kernel
theorem dX9_accept_4 : decode cX9_accept 4 = .ok (.iconst 0, 1) := by decide +kernel
theorem dX9_accept_5 : decode cX9_accept 5 = .ok (.invokestatic 44, 3) := by decide +kernel
theorem dX9_accept_8 : decode cX9_accept 8 = .ok (.iconst 0, 1) := by decide +kernel
theorem dX9_accept_9 : decode cX9_accept 9 = .ok (.istore_n 3, 1) := by decide +kernel
theorem dX9_accept_10 : decode cX9_accept 10 = .ok (.iconst 0, 1) := by decide +kernel
theorem dX9_accept_11 : decode cX9_accept 11 = .ok (.istore 4, 2) := by decide +kernel
theorem dX9_accept_13 : decode cX9_accept 13 = .ok (.iload 4, 2) := by decide +kernel
theorem dX9_accept_15 : decode cX9_accept 15 = .ok (.aload_n 0, 1) := by decide +kernel
theorem dX9_accept_16 : decode cX9_accept 16 = .ok (.getfield 37, 3) := by decide +kernel
theorem dX9_accept_19 : decode cX9_accept 19 = .ok (.getfield 60, 3) := by decide +kernel
theorem dX9_accept_22 : decode cX9_accept 22 = .ok (.iconst 2, 1) := by decide +kernel
theorem dX9_accept_23 : decode cX9_accept 23 = .ok (.iaload, 1) := by decide +kernel
theorem dX9_accept_24 : decode cX9_accept 24 = .ok (.if_icmp .ge 24, 3) := by decide +kernel
theorem dX9_accept_27 : decode cX9_accept 27 = .ok (.iload_n 3, 1) := by decide +kernel
theorem dX9_accept_28 : decode cX9_accept 28 = .ok (.iconst (-1), 1) := by decide +kernel
theorem dX9_accept_29 : decode cX9_accept 29 = .ok (.if_icmp .eq 19, 3) := by decide +kernel
theorem dX9_accept_32 : decode cX9_accept 32 = .ok (.aload_n 0, 1) := by decide +kernel
theorem dX9_accept_33 : decode cX9_accept 33 = .ok (.iload 4, 2) := by decide +kernel
theorem dX9_accept_35 : decode cX9_accept 35 = .ok (.aload_n 1, 1) := by decide +kernel
theorem dX9_accept_36 : decode cX9_accept 36 = .ok (.iload_n 3, 1) := by decide +kernel
theorem dX9_accept_37 : decode cX9_accept 37 = .ok (.iload_n 2, 1) := by decide +kernel
theorem dX9_accept_38 : decode cX9_accept 38 = .ok (.invokevirtual 127, 3) := by decide +kernel
theorem dX9_accept_41 : decode cX9_accept 41 = .ok (.istore_n 3, 1) := by decide +kernel
theorem dX9_accept_42 : decode cX9_accept 42 = .ok (.iinc 4 1, 3) := by decide +kernel
theorem dX9_accept_45 : decode cX9_accept 45 = .ok (.goto (-32), 3) := by decide +kernel
theorem dX9_accept_48 : decode cX9_accept 48 = .ok (.iload_n 3, 1) := by decide +kernel
theorem dX9_accept_49 : decode cX9_accept 49 = .ok (.iconst (-1), 1) := by decide +kernel
theorem dX9_accept_50 : decode cX9_accept 50 = .ok (.if_icmp .eq 10, 3) := by decide +kernel
theorem dX9_accept_53 : decode cX9_accept 53 = .ok (.iload_n 3, 1) := by decide +kernel
theorem dX9_accept_54 : decode cX9_accept 54 = .ok (.iconst 4, 1) := by decide +kernel
theorem dX9_accept_55 : decode cX9_accept 55 = .ok (.iadd, 1) := by decide +kernel
theorem dX9_accept_56 : decode cX9_accept 56 = .ok (.iload_n 2, 1) := by decide +kernel
theorem dX9_accept_57 : decode cX9_accept 57 = .ok (.if_icmp .eq 5, 3) := by decide +kernel
theorem dX9_accept_60 : decode cX9_accept 60 = .ok (.iconst 0, 1) := by decide +kernel
theorem dX9_accept_61 : decode cX9_accept 61 = .ok (.ireturn, 1) := by decide +kernel
theorem dX9_accept_62 : decode cX9_accept 62 = .ok (.aload_n 0, 1) := by decide +kernel
theorem dX9_accept_63 : decode cX9_accept 63 = .ok (.getfield 15, 3) := by decide +kernel
theorem dX9_accept_66 : decode cX9_accept 66 = .ok (.bipush 100, 2) := by decide +kernel
theorem dX9_accept_68 : decode cX9_accept 68 = .ok (.aload_n 1, 1) := by decide +kernel
theorem dX9_accept_69 : decode cX9_accept 69 = .ok (.iload_n 3, 1) := by decide +kernel
theorem dX9_accept_70 : decode cX9_accept 70 = .ok (.iaload, 1) := by decide +kernel
theorem dX9_accept_71 : decode cX9_accept 71 = .ok (.bipush 8, 2) := by decide +kernel
theorem dX9_accept_73 : decode cX9_accept 73 = .ok (.ishl, 1) := by decide +kernel
theorem dX9_accept_74 : decode cX9_accept 74 = .ok (.aload_n 1, 1) := by decide +kernel
theorem dX9_accept_75 : decode cX9_accept 75 = .ok (.iload_n 3, 1) := by decide +kernel
theorem dX9_accept_76 : decode cX9_accept 76 = .ok (.iconst 1, 1) := by decide +kernel
theorem dX9_accept_77 : decode cX9_accept 77 = .ok (.iadd, 1) := by decide +kernel
theorem dX9_accept_78 : decode cX9_accept 78 = .ok (.iaload, 1) := by decide +kernel
theorem dX9_accept_79 : decode cX9_accept 79 = .ok (.ior, 1) := by decide +kernel
theorem dX9_accept_80 : decode cX9_accept 80 = .ok (.iastore, 1) := by decide +kernel
theorem dX9_accept_81 : decode cX9_accept 81 = .ok (.aload_n 0, 1) := by decide +kernel
theorem dX9_accept_82 : decode cX9_accept 82 = .ok (.getfield 15, 3) := by decide +kernel
theorem dX9_accept_85 : decode cX9_accept 85 = .ok (.bipush 101, 2) := by decide +kernel
theorem dX9_accept_87 : decode cX9_accept 87 = .ok (.aload_n 1, 1) := by decide +kernel
theorem dX9_accept_88 : decode cX9_accept 88 = .ok (.iload_n 3, 1) := by decide +kernel
theorem dX9_accept_89 : decode cX9_accept 89 = .ok (.iconst 2, 1) := by decide +kernel
theorem dX9_accept_90 : decode cX9_accept 90 = .ok (.iadd, 1) := by decide +kernel
theorem dX9_accept_91 : decode cX9_accept 91 = .ok (.iaload, 1) := by decide +kernel
theorem dX9_accept_92 : decode cX9_accept 92 = .ok (.iastore, 1) := by decide +kernel
theorem dX9_accept_93 : decode cX9_accept 93 = .ok (.aload_n 0, 1) := by decide +kernel
theorem dX9_accept_94 : decode cX9_accept 94 = .ok (.getfield 15, 3) := by decide +kernel
theorem dX9_accept_97 : decode cX9_accept 97 = .ok (.bipush 100, 2) := by decide +kernel
theorem dX9_accept_99 : decode cX9_accept 99 = .ok (.iaload, 1) := by decide +kernel
theorem dX9_accept_100 : decode cX9_accept 100 = .ok (.iconst 1, 1) := by decide +kernel
theorem dX9_accept_101 : decode cX9_accept 101 = .ok (.aload_n 0, 1) := by decide +kernel
theorem dX9_accept_102 : decode cX9_accept 102 = .ok (.getfield 37, 3) := by decide +kernel
theorem dX9_accept_105 : decode cX9_accept 105 = .ok (.getfield 60, 3) := by decide +kernel
theorem dX9_accept_108 : decode cX9_accept 108 = .ok (.iconst 1, 1) := by decide +kernel
theorem dX9_accept_109 : decode cX9_accept 109 = .ok (.iaload, 1) := by decide +kernel
theorem dX9_accept_110 : decode cX9_accept 110 = .ok (.ishl, 1) := by decide +kernel
theorem dX9_accept_111 : decode cX9_accept 111 = .ok (.if_icmp .ge 40, 3) := by decide +kernel
theorem dX9_accept_114 : decode cX9_accept 114 = .ok (.aload_n 0, 1) := by decide +kernel
theorem dX9_accept_115 : decode cX9_accept 115 = .ok (.getfield 15, 3) := by decide +kernel
theorem dX9_accept_118 : decode cX9_accept 118 = .ok (.bipush 101, 2) := by decide +kernel
theorem dX9_accept_120 : decode cX9_accept 120 = .ok (.iaload, 1) := by decide +kernel
theorem dX9_accept_121 : decode cX9_accept 121 = .ok (.iconst 1, 1) := by decide +kernel
theorem dX9_accept_122 : decode cX9_accept 122 = .ok (.aload_n 0, 1) := by decide +kernel
theorem dX9_accept_123 : decode cX9_accept 123 = .ok (.getfield 37, 3) := by decide +kernel
theorem dX9_accept_126 : decode cX9_accept 126 = .ok (.getfield 60, 3) := by decide +kernel
theorem dX9_accept_129 : decode cX9_accept 129 = .ok (.iconst 4, 1) := by decide +kernel
theorem dX9_accept_130 : decode cX9_accept 130 = .ok (.iaload, 1) := by decide +kernel
theorem dX9_accept_131 : decode cX9_accept 131 = .ok (.ishl, 1) := by decide +kernel
theorem dX9_accept_132 : decode cX9_accept 132 = .ok (.if_icmp .ge 19, 3) := by decide +kernel
theorem dX9_accept_135 : decode cX9_accept 135 = .ok (.aload_n 1, 1) := by decide +kernel
theorem dX9_accept_136 : decode cX9_accept 136 = .ok (.iload_n 3, 1) := by decide +kernel
theorem dX9_accept_137 : decode cX9_accept 137 = .ok (.iconst 3, 1) := by decide +kernel
theorem dX9_accept_138 : decode cX9_accept 138 = .ok (.iadd, 1) := by decide +kernel
theorem dX9_accept_139 : decode cX9_accept 139 = .ok (.iaload, 1) := by decide +kernel
theorem dX9_accept_140 : decode cX9_accept 140 = .ok (.aload_n 0, 1) := by decide +kernel
theorem dX9_accept_141 : decode cX9_accept 141 = .ok (.aload_n 1, 1) := by decide +kernel
theorem dX9_accept_142 : decode cX9_accept 142 = .ok (.iload_n 3, 1) := by decide +kernel
theorem dX9_accept_143 : decode cX9_accept 143 = .ok (.iconst 3, 1) := by decide +kernel
theorem dX9_accept_144 : decode cX9_accept 144 = .ok (.iadd, 1) := by decide +kernel
theorem dX9_accept_145 : decode cX9_accept 145 = .ok (.invokevirtual 123, 3) := by decide +kernel
theorem dX9_accept_148 : decode cX9_accept 148 = .ok (.if_icmp .eq 5, 3) := by decide +kernel
theorem dX9_accept_151 : decode cX9_accept 151 = .ok (.iconst 0, 1) := by decide +kernel
theorem dX9_accept_152 : decode cX9_accept 152 = .ok (.ireturn, 1) := by decide +kernel
theorem dX9_accept_153 : decode cX9_accept 153 = .ok (.aload_n 0, 1) := by decide +kernel
theorem dX9_accept_154 : decode cX9_accept 154 = .ok (.getfield 15, 3) := by decide +kernel
theorem dX9_accept_157 : decode cX9_accept 157 = .ok (.iconst 0, 1) := by decide +kernel
theorem dX9_accept_158 : decode cX9_accept 158 = .ok (.aload_n 0, 1) := by decide +kernel
theorem dX9_accept_159 : decode cX9_accept 159 = .ok (.getfield 11, 3) := by decide +kernel
theorem dX9_accept_162 : decode cX9_accept 162 = .ok (.iconst 0, 1) := by decide +kernel
theorem dX9_accept_163 : decode cX9_accept 163 = .ok (.bipush 102, 2) := by decide +kernel
theorem dX9_accept_165 : decode cX9_accept 165 = .ok (.invokestatic 98, 3) := by decide +kernel
theorem dX9_accept_168 : decode cX9_accept 168 = .ok (.aload_n 0, 1) := by decide +kernel
theorem dX9_accept_169 : decode cX9_accept 169 = .ok (.iconst 0, 1) := by decide +kernel
theorem dX9_accept_170 : decode cX9_accept 170 = .ok (.putfield 50, 3) := by decide +kernel
theorem dX9_accept_173 : decode cX9_accept 173 = .ok (.aload_n 0, 1) := by decide +kernel
theorem dX9_accept_174 : decode cX9_accept 174 = .ok (.invokevirtual 54, 3) := by decide +kernel
theorem dX9_accept_177 : decode cX9_accept 177 = .ok (.iconst 1, 1) := by decide +kernel
theorem dX9_accept_178 : decode cX9_accept 178 = .ok (.ireturn, 1) := by decide +kernel
theorem dX9_addStep_0 : decode cX9_addStep 0 = .ok (.aload_n 0, 1) := by decide +kernel
theorem dX9_addStep_1 : decode cX9_addStep 1 = .ok (.invokevirtual 104, 3) := by decide +kernel
theorem dX9_addStep_4 : decode cX9_addStep 4 = .ok (.aload_n 0, 1) := by decide +kernel
theorem dX9_addStep_5 : decode cX9_addStep 5 = .ok (.invokevirtual 107, 3) := by decide +kernel
theorem dX9_addStep_8 : decode cX9_addStep 8 = .ok (.aload_n 0, 1) := by decide +kernel
theorem dX9_addStep_9 : decode cX9_addStep 9 = .ok (.getfield 11, 3) := by decide +kernel
theorem dX9_addStep_12 : decode cX9_addStep 12 = .ok (.iconst 4, 1) := by decide +kernel
theorem dX9_addStep_13 : decode cX9_addStep 13 = .ok (.iload_n 1, 1) := by decide +kernel
theorem dX9_addStep_14 : decode cX9_addStep 14 = .ok (.bipush 24, 2) := by decide +kernel
theorem dX9_addStep_16 : decode cX9_addStep 16 = .ok (.imul, 1) := by decide +kernel
theorem dX9_addStep_17 : decode cX9_addStep 17 = .ok (.iadd, 1) := by decide +kernel
theorem dX9_addStep_18 : decode cX9_addStep 18 = .ok (.aload_n 0, 1) := by decide +kernel
theorem dX9_addStep_19 : decode cX9_addStep 19 = .ok (.getfield 11, 3) := by decide +kernel
theorem dX9_addStep_22 : decode cX9_addStep 22 = .ok (.iload_n 1, 1) := by decide +kernel
theorem dX9_addStep_23 : decode cX9_addStep 23 = .ok (.iaload, 1) := by decide +kernel
theorem dX9_addStep_24 : decode cX9_addStep 24 = .ok (.iadd, 1) := by decide +kernel
theorem dX9_addStep_25 : decode cX9_addStep 25 = .ok (.iload_n 2, 1) := by decide +kernel
theorem dX9_addStep_26 : decode cX9_addStep 26 = .ok (.iastore, 1) := by decide +kernel
theorem dX9_addStep_27 : decode cX9_addStep 27 = .ok (.aload_n 0, 1) := by decide +kernel
theorem dX9_addStep_28 : decode cX9_addStep 28 = .ok (.getfield 11, 3) := by decide +kernel
theorem dX9_addStep_31 : decode cX9_addStep 31 = .ok (.iload_n 1, 1) := by decide +kernel
theorem dX9_addStep_32 : decode cX9_addStep 32 = .ok (.dup2, 1) := by decide +kernel
theorem dX9_addStep_33 : decode cX9_addStep 33 = .ok (.iaload, 1) := by decide +kernel
theorem dX9_addStep_34 : decode cX9_addStep 34 = .ok (.iconst 1, 1) := by decide +kernel
theorem dX9_addStep_35 : decode cX9_addStep 35 = .ok (.iadd, 1) := by decide +kernel
theorem dX9_addStep_36 : decode cX9_addStep 36 = .ok (.iastore, 1) := by decide +kernel
theorem dX9_addStep_37 : decode cX9_addStep 37 = .ok (.aload_n 0, 1) := by decide +kernel
theorem dX9_addStep_38 : decode cX9_addStep 38 = .ok (.iconst 1, 1) := by decide +kernel
theorem dX9_addStep_39 : decode cX9_addStep 39 = .ok (.putfield 27, 3) := by decide +kernel
theorem dX9_addStep_42 : decode cX9_addStep 42 = .ok (.return_, 1) := by decide +kernel
theorem dX9_adopt_0 : decode cX9_adopt 0 = .ok (.iconst 4, 1) := by decide +kernel
theorem dX9_adopt_1 : decode cX9_adopt 1 = .ok (.iload_n 1, 1) := by decide +kernel
theorem dX9_adopt_2 : decode cX9_adopt 2 = .ok (.bipush 24, 2) := by decide +kernel
theorem dX9_adopt_4 : decode cX9_adopt 4 = .ok (.imul, 1) := by decide +kernel
theorem dX9_adopt_5 : decode cX9_adopt 5 = .ok (.iadd, 1) := by decide +kernel
theorem dX9_adopt_6 : decode cX9_adopt 6 = .ok (.istore 4, 2) := by decide +kernel
theorem dX9_adopt_8 : decode cX9_adopt 8 = .ok (.iconst 0, 1) := by decide +kernel
theorem dX9_adopt_9 : decode cX9_adopt 9 = .ok (.istore 5, 2) := by decide +kernel
theorem dX9_adopt_11 : decode cX9_adopt 11 = .ok (.iload_n 3, 1) := by decide +kernel
theorem dX9_adopt_12 : decode cX9_adopt 12 = .ok (.ifCond .le 20, 3) := by decide +kernel
theorem dX9_adopt_15 : decode cX9_adopt 15 = .ok (.aload_n 0, 1) := by decide +kernel
theorem dX9_adopt_16 : decode cX9_adopt 16 = .ok (.getfield 11, 3) := by decide +kernel
theorem dX9_adopt_19 : decode cX9_adopt 19 = .ok (.iload 4, 2) := by decide +kernel
theorem dX9_adopt_21 : decode cX9_adopt 21 = .ok (.iload 5, 2) := by decide +kernel
theorem dX9_adopt_23 : decode cX9_adopt 23 = .ok (.iinc 5 1, 3) := by decide +kernel
theorem dX9_adopt_26 : decode cX9_adopt 26 = .ok (.iadd, 1) := by decide +kernel
theorem dX9_adopt_27 : decode cX9_adopt 27 = .ok (.bipush 100, 2) := by decide +kernel
theorem dX9_adopt_29 : decode cX9_adopt 29 = .ok (.iload_n 3, 1) := by decide +kernel
theorem dX9_adopt_30 : decode cX9_adopt 30 = .ok (.iadd, 1) := by decide +kernel
theorem dX9_adopt_31 : decode cX9_adopt 31 = .ok (.iastore, 1) := by decide +kernel
theorem dX9_adopt_32 : decode cX9_adopt 32 = .ok (.iconst 1, 1) := by decide +kernel
theorem dX9_adopt_33 : decode cX9_adopt 33 = .ok (.istore 6, 2) := by decide +kernel
theorem dX9_adopt_35 : decode cX9_adopt 35 = .ok (.iload 6, 2) := by decide +kernel
theorem dX9_adopt_37 : decode cX9_adopt 37 = .ok (.aload_n 2, 1) := by decide +kernel
theorem dX9_adopt_38 : decode cX9_adopt 38 = .ok (.getfield 117, 3) := by decide +kernel
theorem dX9_adopt_41 : decode cX9_adopt 41 = .ok (.if_icmp .ge 29, 3) := by decide +kernel
theorem dX9_adopt_44 : decode cX9_adopt 44 = .ok (.aload_n 0, 1) := by decide +kernel
theorem dX9_adopt_45 : decode cX9_adopt 45 = .ok (.getfield 11, 3) := by decide +kernel
theorem dX9_adopt_48 : decode cX9_adopt 48 = .ok (.iload 4, 2) := by decide +kernel
theorem dX9_adopt_50 : decode cX9_adopt 50 = .ok (.iload 5, 2) := by decide +kernel
theorem dX9_adopt_52 : decode cX9_adopt 52 = .ok (.iinc 5 1, 3) := by decide +kernel
theorem dX9_adopt_55 : decode cX9_adopt 55 = .ok (.iadd, 1) := by decide +kernel
theorem dX9_adopt_56 : decode cX9_adopt 56 = .ok (.aload_n 2, 1) := by decide +kernel
theorem dX9_adopt_57 : decode cX9_adopt 57 = .ok (.getfield 120, 3) := by decide +kernel
theorem dX9_adopt_60 : decode cX9_adopt 60 = .ok (.iload 6, 2) := by decide +kernel
theorem dX9_adopt_62 : decode cX9_adopt 62 = .ok (.iaload, 1) := by decide +kernel
theorem dX9_adopt_63 : decode cX9_adopt 63 = .ok (.iastore, 1) := by decide +kernel
theorem dX9_adopt_64 : decode cX9_adopt 64 = .ok (.iinc 6 1, 3) := by decide +kernel
theorem dX9_adopt_67 : decode cX9_adopt 67 = .ok (.goto (-32), 3) := by decide +kernel
theorem dX9_adopt_70 : decode cX9_adopt 70 = .ok (.aload_n 0, 1) := by decide +kernel
theorem dX9_adopt_71 : decode cX9_adopt 71 = .ok (.getfield 11, 3) := by decide +kernel
theorem dX9_adopt_74 : decode cX9_adopt 74 = .ok (.iload_n 1, 1) := by decide +kernel
theorem dX9_adopt_75 : decode cX9_adopt 75 = .ok (.iload 5, 2) := by decide +kernel
theorem dX9_adopt_77 : decode cX9_adopt 77 = .ok (.iastore, 1) := by decide +kernel
theorem dX9_adopt_78 : decode cX9_adopt 78 = .ok (.aload_n 0, 1) := by decide +kernel
theorem dX9_adopt_79 : decode cX9_adopt 79 = .ok (.iload_n 1, 1) := by decide +kernel
theorem dX9_adopt_80 : decode cX9_adopt 80 = .ok (.invokevirtual 65, 3) := by decide +kernel
theorem dX9_adopt_83 : decode cX9_adopt 83 = .ok (.aload_n 0, 1) := by decide +kernel
theorem dX9_adopt_84 : decode cX9_adopt 84 = .ok (.iconst 1, 1) := by decide +kernel
theorem dX9_adopt_85 : decode cX9_adopt 85 = .ok (.putfield 27, 3) := by decide +kernel
theorem dX9_adopt_88 : decode cX9_adopt 88 = .ok (.return_, 1) := by decide +kernel
theorem dX9_bar_0 : decode cX9_bar 0 = .ok (.aload_n 0, 1) := by decide +kernel
theorem dX9_bar_1 : decode cX9_bar 1 = .ok (.getfield 11, 3) := by decide +kernel
theorem dX9_bar_4 : decode cX9_bar 4 = .ok (.bipush 100, 2) := by decide +kernel
theorem dX9_bar_6 : decode cX9_bar 6 = .ok (.iaload, 1) := by decide +kernel
theorem dX9_bar_7 : decode cX9_bar 7 = .ok (.iload_n 1, 1) := by decide +kernel
theorem dX9_bar_8 : decode cX9_bar 8 = .ok (.ishr, 1) := by decide +kernel
theorem dX9_bar_9 : decode cX9_bar 9 = .ok (.iconst 1, 1) := by decide +kernel
theorem dX9_bar_10 : decode cX9_bar 10 = .ok (.iand, 1) := by decide +kernel
theorem dX9_bar_11 : decode cX9_bar 11 = .ok (.ifCond .eq 7, 3) := by decide +kernel
theorem dX9_bar_14 : decode cX9_bar 14 = .ok (.iconst 1, 1) := by decide +kernel
theorem dX9_bar_15 : decode cX9_bar 15 = .ok (.goto 4, 3) := by decide +kernel
theorem dX9_bar_18 : decode cX9_bar 18 = .ok (.iconst 0, 1) := by decide +kernel
theorem dX9_bar_19 : decode cX9_bar 19 = .ok (.iload_n 2, 1) := by decide +kernel
theorem dX9_bar_20 : decode cX9_bar 20 = .ok (.if_icmp .ne 5, 3) := by decide +kernel
theorem dX9_bar_23 : decode cX9_bar 23 = .ok (.iconst 0, 1) := by decide +kernel
theorem dX9_bar_24 : decode cX9_bar 24 = .ok (.ireturn, 1) := by decide +kernel
theorem dX9_bar_25 : decode cX9_bar 25 = .ok (.aload_n 0, 1) := by decide +kernel
theorem dX9_bar_26 : decode cX9_bar 26 = .ok (.invokevirtual 104, 3) := by decide +kernel
theorem dX9_bar_29 : decode cX9_bar 29 = .ok (.aload_n 0, 1) := by decide +kernel
theorem dX9_bar_30 : decode cX9_bar 30 = .ok (.invokevirtual 107, 3) := by decide +kernel
theorem dX9_bar_33 : decode cX9_bar 33 = .ok (.aload_n 0, 1) := by decide +kernel
theorem dX9_bar_34 : decode cX9_bar 34 = .ok (.getfield 11, 3) := by decide +kernel
theorem dX9_bar_37 : decode cX9_bar 37 = .ok (.bipush 100, 2) := by decide +kernel
theorem dX9_bar_39 : decode cX9_bar 39 = .ok (.dup2, 1) := by decide +kernel
theorem dX9_bar_40 : decode cX9_bar 40 = .ok (.iaload, 1) := by decide +kernel
theorem dX9_bar_41 : decode cX9_bar 41 = .ok (.iconst 1, 1) := by decide +kernel
theorem dX9_bar_42 : decode cX9_bar 42 = .ok (.iload_n 1, 1) := by decide +kernel
theorem dX9_bar_43 : decode cX9_bar 43 = .ok (.ishl, 1) := by decide +kernel
theorem dX9_bar_44 : decode cX9_bar 44 = .ok (.ixor, 1) := by decide +kernel
theorem dX9_bar_45 : decode cX9_bar 45 = .ok (.iastore, 1) := by decide +kernel
theorem dX9_bar_46 : decode cX9_bar 46 = .ok (.aload_n 0, 1) := by decide +kernel
theorem dX9_bar_47 : decode cX9_bar 47 = .ok (.iconst 1, 1) := by decide +kernel
theorem dX9_bar_48 : decode cX9_bar 48 = .ok (.putfield 31, 3) := by decide +kernel
theorem dX9_bar_51 : decode cX9_bar 51 = .ok (.iconst 1, 1) := by decide +kernel
theorem dX9_bar_52 : decode cX9_bar 52 = .ok (.ireturn, 1) := by decide +kernel
theorem dX9_begin_0 : decode cX9_begin 0 = .ok (.aload_n 0, 1) := by decide +kernel
theorem dX9_begin_1 : decode cX9_begin 1 = .ok (.getfield 11, 3) := by decide +kernel
theorem dX9_begin_4 : decode cX9_begin 4 = .ok (.iconst 0, 1) := by decide +kernel
theorem dX9_begin_5 : decode cX9_begin 5 = .ok (.invokestatic 44, 3) := by decide +kernel
theorem dX9_begin_8 : decode cX9_begin 8 = .ok (.aload_n 0, 1) := by decide +kernel
theorem dX9_begin_9 : decode cX9_begin 9 = .ok (.iconst 0, 1) := by decide +kernel
theorem dX9_begin_10 : decode cX9_begin 10 = .ok (.putfield 50, 3) := by decide +kernel
theorem dX9_begin_13 : decode cX9_begin 13 = .ok (.aload_n 0, 1) := by decide +kernel
theorem dX9_begin_14 : decode cX9_begin 14 = .ok (.invokevirtual 54, 3) := by decide +kernel
theorem dX9_begin_17 : decode cX9_begin 17 = .ok (.return_, 1) := by decide +kernel
theorem dX9_blocked_0 : decode cX9_blocked 0 = .ok (.aload_n 0, 1) := by decide +kernel
theorem dX9_blocked_1 : decode cX9_blocked 1 = .ok (.getfield 23, 3) := by decide +kernel
theorem dX9_blocked_4 : decode cX9_blocked 4 = .ok (.iload_n 1, 1) := by decide +kernel
theorem dX9_blocked_5 : decode cX9_blocked 5 = .ok (.aaload, 1) := by decide +kernel
theorem dX9_blocked_6 : decode cX9_blocked 6 = .ok (.getfield 57, 3) := by decide +kernel
theorem dX9_blocked_9 : decode cX9_blocked 9 = .ok (.aload_n 0, 1) := by decide +kernel
theorem dX9_blocked_10 : decode cX9_blocked 10 = .ok (.getfield 11, 3) := by decide +kernel
theorem dX9_blocked_13 : decode cX9_blocked 13 = .ok (.bipush 100, 2) := by decide +kernel
theorem dX9_blocked_15 : decode cX9_blocked 15 = .ok (.iaload, 1) := by decide +kernel
theorem dX9_blocked_16 : decode cX9_blocked 16 = .ok (.iand, 1) := by decide +kernel
theorem dX9_blocked_17 : decode cX9_blocked 17 = .ok (.ifCond .eq 7, 3) := by decide +kernel
theorem dX9_blocked_20 : decode cX9_blocked 20 = .ok (.iconst 1, 1) := by decide +kernel
theorem dX9_blocked_21 : decode cX9_blocked 21 = .ok (.goto 4, 3) := by decide +kernel
theorem dX9_blocked_24 : decode cX9_blocked 24 = .ok (.iconst 0, 1) := by decide +kernel
theorem dX9_blocked_25 : decode cX9_blocked 25 = .ok (.ireturn, 1) := by decide +kernel
theorem dX9_commit_0 : decode cX9_commit 0 = .ok (.aload_n 0, 1) := by decide +kernel
theorem dX9_commit_1 : decode cX9_commit 1 = .ok (.getfield 50, 3) := by decide +kernel
theorem dX9_commit_4 : decode cX9_commit 4 = .ok (.bipush 20, 2) := by decide +kernel
theorem dX9_commit_6 : decode cX9_commit 6 = .ok (.if_icmp .ge 16, 3) := by decide +kernel
theorem dX9_commit_9 : decode cX9_commit 9 = .ok (.aload_n 0, 1) := by decide +kernel
theorem dX9_commit_10 : decode cX9_commit 10 = .ok (.dup, 1) := by decide +kernel
theorem dX9_commit_11 : decode cX9_commit 11 = .ok (.getfield 50, 3) := by decide +kernel
theorem dX9_commit_14 : decode cX9_commit 14 = .ok (.iconst 1, 1) := by decide +kernel
theorem dX9_commit_15 : decode cX9_commit 15 = .ok (.iadd, 1) := by decide +kernel
theorem dX9_commit_16 : decode cX9_commit 16 = .ok (.putfield 50, 3) := by decide +kernel
theorem dX9_commit_19 : decode cX9_commit 19 = .ok (.goto 16, 3) := by decide +kernel
theorem dX9_commit_22 : decode cX9_commit 22 = .ok (.aload_n 0, 1) := by decide +kernel
theorem dX9_commit_23 : decode cX9_commit 23 = .ok (.aload_n 0, 1) := by decide +kernel
theorem dX9_commit_24 : decode cX9_commit 24 = .ok (.getfield 95, 3) := by decide +kernel
theorem dX9_commit_27 : decode cX9_commit 27 = .ok (.iconst 1, 1) := by decide +kernel
theorem dX9_commit_28 : decode cX9_commit 28 = .ok (.iadd, 1) := by decide +kernel
theorem dX9_commit_29 : decode cX9_commit 29 = .ok (.bipush 21, 2) := by decide +kernel
theorem dX9_commit_31 : decode cX9_commit 31 = .ok (.irem, 1) := by decide +kernel
theorem dX9_commit_32 : decode cX9_commit 32 = .ok (.putfield 95, 3) := by decide +kernel
theorem dX9_commit_35 : decode cX9_commit 35 = .ok (.return_, 1) := by decide +kernel
theorem dX9_draw_0 : decode cX9_draw 0 = .ok (.iconst 0, 1) := by decide +kernel
theorem dX9_draw_1 : decode cX9_draw 1 = .ok (.istore_n 2, 1) := by decide +kernel
theorem dX9_draw_2 : decode cX9_draw 2 = .ok (.iconst 0, 1) := by decide +kernel
theorem dX9_draw_3 : decode cX9_draw 3 = .ok (.istore_n 3, 1) := by decide +kernel
theorem dX9_draw_4 : decode cX9_draw 4 = .ok (.iload_n 3, 1) := by decide +kernel
theorem dX9_draw_5 : decode cX9_draw 5 = .ok (.aload_n 0, 1) := by decide +kernel
theorem dX9_draw_6 : decode cX9_draw 6 = .ok (.getfield 37, 3) := by decide +kernel
theorem dX9_draw_9 : decode cX9_draw 9 = .ok (.getfield 60, 3) := by decide +kernel
theorem dX9_draw_12 : decode cX9_draw 12 = .ok (.iconst 2, 1) := by decide +kernel
theorem dX9_draw_13 : decode cX9_draw 13 = .ok (.iaload, 1) := by decide +kernel
theorem dX9_draw_14 : decode cX9_draw 14 = .ok (.if_icmp .ge 61, 3) := by decide +kernel
theorem dX9_draw_17 : decode cX9_draw 17 = .ok (.aload_n 1, 1) := by decide +kernel
theorem dX9_draw_18 : decode cX9_draw 18 = .ok (.iload_n 2, 1) := by decide +kernel
theorem dX9_draw_19 : decode cX9_draw 19 = .ok (.iinc 2 1, 3) := by decide +kernel
theorem dX9_draw_22 : decode cX9_draw 22 = .ok (.aload_n 0, 1) := by decide +kernel
theorem dX9_draw_23 : decode cX9_draw 23 = .ok (.getfield 11, 3) := by decide +kernel
theorem dX9_draw_26 : decode cX9_draw 26 = .ok (.iload_n 3, 1) := by decide +kernel
theorem dX9_draw_27 : decode cX9_draw 27 = .ok (.iaload, 1) := by decide +kernel
theorem dX9_draw_28 : decode cX9_draw 28 = .ok (.iastore, 1) := by decide +kernel
theorem dX9_draw_29 : decode cX9_draw 29 = .ok (.iconst 0, 1) := by decide +kernel
theorem dX9_draw_30 : decode cX9_draw 30 = .ok (.istore 4, 2) := by decide +kernel
theorem dX9_draw_32 : decode cX9_draw 32 = .ok (.iload 4, 2) := by decide +kernel
theorem dX9_draw_34 : decode cX9_draw 34 = .ok (.aload_n 0, 1) := by decide +kernel
theorem dX9_draw_35 : decode cX9_draw 35 = .ok (.getfield 11, 3) := by decide +kernel
theorem dX9_draw_38 : decode cX9_draw 38 = .ok (.iload_n 3, 1) := by decide +kernel
theorem dX9_draw_39 : decode cX9_draw 39 = .ok (.iaload, 1) := by decide +kernel
theorem dX9_draw_40 : decode cX9_draw 40 = .ok (.if_icmp .ge 29, 3) := by decide +kernel
theorem dX9_draw_43 : decode cX9_draw 43 = .ok (.aload_n 1, 1) := by decide +kernel
theorem dX9_draw_44 : decode cX9_draw 44 = .ok (.iload_n 2, 1) := by decide +kernel
theorem dX9_draw_45 : decode cX9_draw 45 = .ok (.iinc 2 1, 3) := by decide +kernel
theorem dX9_draw_48 : decode cX9_draw 48 = .ok (.aload_n 0, 1) := by decide +kernel
theorem dX9_draw_49 : decode cX9_draw 49 = .ok (.getfield 11, 3) := by decide +kernel
theorem dX9_draw_52 : decode cX9_draw 52 = .ok (.iconst 4, 1) := by decide +kernel
theorem dX9_draw_53 : decode cX9_draw 53 = .ok (.iload_n 3, 1) := by decide +kernel
theorem dX9_draw_54 : decode cX9_draw 54 = .ok (.bipush 24, 2) := by decide +kernel
theorem dX9_draw_56 : decode cX9_draw 56 = .ok (.imul, 1) := by decide +kernel
theorem dX9_draw_57 : decode cX9_draw 57 = .ok (.iadd, 1) := by decide +kernel
theorem dX9_draw_58 : decode cX9_draw 58 = .ok (.iload 4, 2) := by decide +kernel
theorem dX9_draw_60 : decode cX9_draw 60 = .ok (.iadd, 1) := by decide +kernel
theorem dX9_draw_61 : decode cX9_draw 61 = .ok (.iaload, 1) := by decide +kernel
theorem dX9_draw_62 : decode cX9_draw 62 = .ok (.iastore, 1) := by decide +kernel
theorem dX9_draw_63 : decode cX9_draw 63 = .ok (.iinc 4 1, 3) := by decide +kernel
theorem dX9_draw_66 : decode cX9_draw 66 = .ok (.goto (-34), 3) := by decide +kernel
theorem dX9_draw_69 : decode cX9_draw 69 = .ok (.iinc 3 1, 3) := by decide +kernel
theorem dX9_draw_72 : decode cX9_draw 72 = .ok (.goto (-68), 3) := by decide +kernel
theorem dX9_draw_75 : decode cX9_draw 75 = .ok (.aload_n 1, 1) := by decide +kernel
theorem dX9_draw_76 : decode cX9_draw 76 = .ok (.iload_n 2, 1) := by decide +kernel
theorem dX9_draw_77 : decode cX9_draw 77 = .ok (.iinc 2 1, 3) := by decide +kernel
theorem dX9_draw_80 : decode cX9_draw 80 = .ok (.aload_n 0, 1) := by decide +kernel
theorem dX9_draw_81 : decode cX9_draw 81 = .ok (.getfield 11, 3) := by decide +kernel
theorem dX9_draw_84 : decode cX9_draw 84 = .ok (.bipush 100, 2) := by decide +kernel
theorem dX9_draw_86 : decode cX9_draw 86 = .ok (.iaload, 1) := by decide +kernel
theorem dX9_draw_87 : decode cX9_draw 87 = .ok (.bipush 8, 2) := by decide +kernel
theorem dX9_draw_89 : decode cX9_draw 89 = .ok (.ishr, 1) := by decide +kernel
theorem dX9_draw_90 : decode cX9_draw 90 = .ok (.iastore, 1) := by decide +kernel
theorem dX9_draw_91 : decode cX9_draw 91 = .ok (.aload_n 1, 1) := by decide +kernel
theorem dX9_draw_92 : decode cX9_draw 92 = .ok (.iload_n 2, 1) := by decide +kernel
theorem dX9_draw_93 : decode cX9_draw 93 = .ok (.iinc 2 1, 3) := by decide +kernel
theorem dX9_draw_96 : decode cX9_draw 96 = .ok (.aload_n 0, 1) := by decide +kernel
theorem dX9_draw_97 : decode cX9_draw 97 = .ok (.getfield 11, 3) := by decide +kernel
theorem dX9_draw_100 : decode cX9_draw 100 = .ok (.bipush 100, 2) := by decide +kernel
theorem dX9_draw_102 : decode cX9_draw 102 = .ok (.iaload, 1) := by decide +kernel
theorem dX9_draw_103 : decode cX9_draw 103 = .ok (.sipush 255, 3) := by decide +kernel
theorem dX9_draw_106 : decode cX9_draw 106 = .ok (.iand, 1) := by decide +kernel
theorem dX9_draw_107 : decode cX9_draw 107 = .ok (.iastore, 1) := by decide +kernel
theorem dX9_draw_108 : decode cX9_draw 108 = .ok (.aload_n 1, 1) := by decide +kernel
theorem dX9_draw_109 : decode cX9_draw 109 = .ok (.iload_n 2, 1) := by decide +kernel
theorem dX9_draw_110 : decode cX9_draw 110 = .ok (.iinc 2 1, 3) := by decide +kernel
theorem dX9_draw_113 : decode cX9_draw 113 = .ok (.aload_n 0, 1) := by decide +kernel
theorem dX9_draw_114 : decode cX9_draw 114 = .ok (.getfield 11, 3) := by decide +kernel
theorem dX9_draw_117 : decode cX9_draw 117 = .ok (.bipush 101, 2) := by decide +kernel
theorem dX9_draw_119 : decode cX9_draw 119 = .ok (.iaload, 1) := by decide +kernel
theorem dX9_draw_120 : decode cX9_draw 120 = .ok (.iastore, 1) := by decide +kernel
theorem dX9_draw_121 : decode cX9_draw 121 = .ok (.aload_n 1, 1) := by decide +kernel
theorem dX9_draw_122 : decode cX9_draw 122 = .ok (.iload_n 2, 1) := by decide +kernel
theorem dX9_draw_123 : decode cX9_draw 123 = .ok (.aload_n 0, 1) := by decide +kernel
theorem dX9_draw_124 : decode cX9_draw 124 = .ok (.aload_n 1, 1) := by decide +kernel
theorem dX9_draw_125 : decode cX9_draw 125 = .ok (.iload_n 2, 1) := by decide +kernel
theorem dX9_draw_126 : decode cX9_draw 126 = .ok (.invokevirtual 123, 3) := by decide +kernel
theorem dX9_draw_129 : decode cX9_draw 129 = .ok (.iastore, 1) := by decide +kernel
theorem dX9_draw_130 : decode cX9_draw 130 = .ok (.iload_n 2, 1) := by decide +kernel
theorem dX9_draw_131 : decode cX9_draw 131 = .ok (.iconst 1, 1) := by decide +kernel
theorem dX9_draw_132 : decode cX9_draw 132 = .ok (.iadd, 1) := by decide +kernel
theorem dX9_draw_133 : decode cX9_draw 133 = .ok (.ireturn, 1) := by decide +kernel
theorem dX9_init_0 : decode cX9_init 0 = .ok (.aload_n 0, 1) := by decide +kernel
theorem dX9_init_1 : decode cX9_init 1 = .ok (.invokespecial 5, 3) := by decide +kernel
theorem dX9_init_4 : decode cX9_init 4 = .ok (.aload_n 0, 1) := by decide +kernel
theorem dX9_init_5 : decode cX9_init 5 = .ok (.bipush 102, 2) := by decide +kernel
theorem dX9_init_7 : decode cX9_init 7 = .ok (.newarray .int, 2) := by decide +kernel
theorem dX9_init_9 : decode cX9_init 9 = .ok (.putfield 11, 3) := by decide +kernel
theorem dX9_init_12 : decode cX9_init 12 = .ok (.aload_n 0, 1) := by decide +kernel
theorem dX9_init_13 : decode cX9_init 13 = .ok (.bipush 102, 2) := by decide +kernel
theorem dX9_init_15 : decode cX9_init 15 = .ok (.newarray .int, 2) := by decide +kernel
theorem dX9_init_17 : decode cX9_init 17 = .ok (.putfield 15, 3) := by decide +kernel
theorem dX9_init_20 : decode cX9_init 20 = .ok (.aload_n 0, 1) := by decide +kernel
theorem dX9_init_21 : decode cX9_init 21 = .ok (.sipush 2142, 3) := by decide +kernel
theorem dX9_init_24 : decode cX9_init 24 = .ok (.newarray .int, 2) := by decide +kernel
theorem dX9_init_26 : decode cX9_init 26 = .ok (.putfield 18, 3) := by decide +kernel
theorem dX9_init_29 : decode cX9_init 29 = .ok (.aload_n 0, 1) := by decide +kernel
theorem dX9_init_30 : decode cX9_init 30 = .ok (.iconst 4, 1) := by decide +kernel
theorem dX9_init_31 : decode cX9_init 31 = .ok (.anewarray 21, 3) := by decide +kernel
theorem dX9_init_34 : decode cX9_init 34 = .ok (.putfield 23, 3) := by decide +kernel
theorem dX9_init_37 : decode cX9_init 37 = .ok (.aload_n 0, 1) := by decide +kernel
theorem dX9_init_38 : decode cX9_init 38 = .ok (.iconst 1, 1) := by decide +kernel
theorem dX9_init_39 : decode cX9_init 39 = .ok (.putfield 27, 3) := by decide +kernel
theorem dX9_init_42 : decode cX9_init 42 = .ok (.aload_n 0, 1) := by decide +kernel
theorem dX9_init_43 : decode cX9_init 43 = .ok (.iconst 1, 1) := by decide +kernel
theorem dX9_init_44 : decode cX9_init 44 = .ok (.putfield 31, 3) := by decide +kernel
theorem dX9_init_47 : decode cX9_init 47 = .ok (.aload_n 0, 1) := by decide +kernel
theorem dX9_init_48 : decode cX9_init 48 = .ok (.iconst 1, 1) := by decide +kernel
theorem dX9_init_49 : decode cX9_init 49 = .ok (.putfield 34, 3) := by decide +kernel
theorem dX9_init_52 : decode cX9_init 52 = .ok (.aload_n 0, 1) := by decide +kernel
theorem dX9_init_53 : decode cX9_init 53 = .ok (.aload_n 1, 1) := by decide +kernel
theorem dX9_init_54 : decode cX9_init 54 = .ok (.putfield 37, 3) := by decide +kernel
theorem dX9_init_57 : decode cX9_init 57 = .ok (.iconst 0, 1) := by decide +kernel
theorem dX9_init_58 : decode cX9_init 58 = .ok (.istore_n 2, 1) := by decide +kernel
theorem dX9_init_59 : decode cX9_init 59 = .ok (.iload_n 2, 1) := by decide +kernel
theorem dX9_init_60 : decode cX9_init 60 = .ok (.iconst 4, 1) := by decide +kernel
theorem dX9_init_61 : decode cX9_init 61 = .ok (.if_icmp .ge 24, 3) := by decide +kernel
theorem dX9_init_64 : decode cX9_init 64 = .ok (.aload_n 0, 1) := by decide +kernel
theorem dX9_init_65 : decode cX9_init 65 = .ok (.getfield 23, 3) := by decide +kernel
theorem dX9_init_68 : decode cX9_init 68 = .ok (.iload_n 2, 1) := by decide +kernel
theorem dX9_init_69 : decode cX9_init 69 = .ok (.new 21, 3) := by decide +kernel
theorem dX9_init_72 : decode cX9_init 72 = .ok (.dup, 1) := by decide +kernel
theorem dX9_init_73 : decode cX9_init 73 = .ok (.bipush 25, 2) := by decide +kernel
theorem dX9_init_75 : decode cX9_init 75 = .ok (.invokespecial 41, 3) := by decide +kernel
theorem dX9_init_78 : decode cX9_init 78 = .ok (.aastore, 1) := by decide +kernel
theorem dX9_init_79 : decode cX9_init 79 = .ok (.iinc 2 1, 3) := by decide +kernel
theorem dX9_init_82 : decode cX9_init 82 = .ok (.goto (-23), 3) := by decide +kernel
theorem dX9_init_85 : decode cX9_init 85 = .ok (.return_, 1) := by decide +kernel
theorem dX9_keep_0 : decode cX9_keep 0 = .ok (.aload_n 0, 1) := by decide +kernel
theorem dX9_keep_1 : decode cX9_keep 1 = .ok (.getfield 11, 3) := by decide +kernel
theorem dX9_keep_4 : decode cX9_keep 4 = .ok (.iconst 0, 1) := by decide +kernel
theorem dX9_keep_5 : decode cX9_keep 5 = .ok (.aload_n 0, 1) := by decide +kernel
theorem dX9_keep_6 : decode cX9_keep 6 = .ok (.getfield 18, 3) := by decide +kernel
theorem dX9_keep_9 : decode cX9_keep 9 = .ok (.aload_n 0, 1) := by decide +kernel
theorem dX9_keep_10 : decode cX9_keep 10 = .ok (.getfield 95, 3) := by decide +kernel
theorem dX9_keep_13 : decode cX9_keep 13 = .ok (.aload_n 0, 1) := by decide +kernel
theorem dX9_keep_14 : decode cX9_keep 14 = .ok (.getfield 50, 3) := by decide +kernel
theorem dX9_keep_17 : decode cX9_keep 17 = .ok (.iadd, 1) := by decide +kernel
theorem dX9_keep_18 : decode cX9_keep 18 = .ok (.bipush 21, 2) := by decide +kernel
theorem dX9_keep_20 : decode cX9_keep 20 = .ok (.irem, 1) := by decide +kernel
theorem dX9_keep_21 : decode cX9_keep 21 = .ok (.bipush 102, 2) := by decide +kernel
theorem dX9_keep_23 : decode cX9_keep 23 = .ok (.imul, 1) := by decide +kernel
theorem dX9_keep_24 : decode cX9_keep 24 = .ok (.bipush 102, 2) := by decide +kernel
theorem dX9_keep_26 : decode cX9_keep 26 = .ok (.invokestatic 98, 3) := by decide +kernel
theorem dX9_keep_29 : decode cX9_keep 29 = .ok (.return_, 1) := by decide +kernel
theorem dX9_laneTo_0 : decode cX9_laneTo 0 = .ok (.iload_n 2, 1) := by decide +kernel
theorem dX9_laneTo_1 : decode cX9_laneTo 1 = .ok (.ifCond .lt 16, 3) := by decide +kernel
theorem dX9_laneTo_4 : decode cX9_laneTo 4 = .ok (.iload_n 2, 1) := by decide +kernel
theorem dX9_laneTo_5 : decode cX9_laneTo 5 = .ok (.aload_n 0, 1) := by decide +kernel
theorem dX9_laneTo_6 : decode cX9_laneTo 6 = .ok (.getfield 37, 3) := by decide +kernel
theorem dX9_laneTo_9 : decode cX9_laneTo 9 = .ok (.getfield 60, 3) := by decide +kernel
theorem dX9_laneTo_12 : decode cX9_laneTo 12 = .ok (.iconst 0, 1) := by decide +kernel
theorem dX9_laneTo_13 : decode cX9_laneTo 13 = .ok (.iaload, 1) := by decide +kernel
theorem dX9_laneTo_14 : decode cX9_laneTo 14 = .ok (.if_icmp .lt 7, 3) := by decide +kernel
theorem dX9_laneTo_17 : decode cX9_laneTo 17 = .ok (.iconst (-1), 1) := by decide +kernel
theorem dX9_laneTo_18 : decode cX9_laneTo 18 = .ok (.goto 17, 3) := by decide +kernel
theorem dX9_laneTo_21 : decode cX9_laneTo 21 = .ok (.aload_n 0, 1) := by decide +kernel
theorem dX9_laneTo_22 : decode cX9_laneTo 22 = .ok (.getfield 37, 3) := by decide +kernel
theorem dX9_laneTo_25 : decode cX9_laneTo 25 = .ok (.getfield 92, 3) := by decide +kernel
theorem dX9_laneTo_28 : decode cX9_laneTo 28 = .ok (.iload_n 1, 1) := by decide +kernel
theorem dX9_laneTo_29 : decode cX9_laneTo 29 = .ok (.bipush 10, 2) := by decide +kernel
theorem dX9_laneTo_31 : decode cX9_laneTo 31 = .ok (.imul, 1) := by decide +kernel
theorem dX9_laneTo_32 : decode cX9_laneTo 32 = .ok (.iload_n 2, 1) := by decide +kernel
theorem dX9_laneTo_33 : decode cX9_laneTo 33 = .ok (.iadd, 1) := by decide +kernel
theorem dX9_laneTo_34 : decode cX9_laneTo 34 = .ok (.iaload, 1) := by decide +kernel
theorem dX9_laneTo_35 : decode cX9_laneTo 35 = .ok (.ireturn, 1) := by decide +kernel
theorem dX9_onBits_0 : decode cX9_onBits 0 = .ok (.aload_n 0, 1) := by decide +kernel
theorem dX9_onBits_1 : decode cX9_onBits 1 = .ok (.getfield 11, 3) := by decide +kernel
theorem dX9_onBits_4 : decode cX9_onBits 4 = .ok (.bipush 101, 2) := by decide +kernel
theorem dX9_onBits_6 : decode cX9_onBits 6 = .ok (.iaload, 1) := by decide +kernel
theorem dX9_onBits_7 : decode cX9_onBits 7 = .ok (.ireturn, 1) := by decide +kernel
theorem dX9_pause_0 : decode cX9_pause 0 = .ok (.aload_n 0, 1) := by decide +kernel
theorem dX9_pause_1 : decode cX9_pause 1 = .ok (.getfield 23, 3) := by decide +kernel
theorem dX9_pause_4 : decode cX9_pause 4 = .ok (.iload_n 1, 1) := by decide +kernel
theorem dX9_pause_5 : decode cX9_pause 5 = .ok (.aaload, 1) := by decide +kernel
theorem dX9_pause_6 : decode cX9_pause 6 = .ok (.astore_n 3, 1) := by decide +kernel
theorem dX9_pause_7 : decode cX9_pause 7 = .ok (.aload_n 0, 1) := by decide +kernel
theorem dX9_pause_8 : decode cX9_pause 8 = .ok (.getfield 11, 3) := by decide +kernel
theorem dX9_pause_11 : decode cX9_pause 11 = .ok (.iload_n 1, 1) := by decide +kernel
theorem dX9_pause_12 : decode cX9_pause 12 = .ok (.iaload, 1) := by decide +kernel
theorem dX9_pause_13 : decode cX9_pause 13 = .ok (.bipush 24, 2) := by decide +kernel
theorem dX9_pause_15 : decode cX9_pause 15 = .ok (.if_icmp .ge 15, 3) := by decide +kernel
theorem dX9_pause_18 : decode cX9_pause 18 = .ok (.aload_n 3, 1) := by decide +kernel
theorem dX9_pause_19 : decode cX9_pause 19 = .ok (.getfield 110, 3) := by decide +kernel
theorem dX9_pause_22 : decode cX9_pause 22 = .ok (.iload_n 2, 1) := by decide +kernel
theorem dX9_pause_23 : decode cX9_pause 23 = .ok (.iadd, 1) := by decide +kernel
theorem dX9_pause_24 : decode cX9_pause 24 = .ok (.sipush 999, 3) := by decide +kernel
theorem dX9_pause_27 : decode cX9_pause 27 = .ok (.if_icmp .le 5, 3) := by decide +kernel
theorem dX9_pause_30 : decode cX9_pause 30 = .ok (.iconst (-1), 1) := by decide +kernel
theorem dX9_pause_31 : decode cX9_pause 31 = .ok (.ireturn, 1) := by decide +kernel
theorem dX9_pause_32 : decode cX9_pause 32 = .ok (.aload_n 0, 1) := by decide +kernel
theorem dX9_pause_33 : decode cX9_pause 33 = .ok (.iload_n 1, 1) := by decide +kernel
theorem dX9_pause_34 : decode cX9_pause 34 = .ok (.bipush 100, 2) := by decide +kernel
theorem dX9_pause_36 : decode cX9_pause 36 = .ok (.iload_n 2, 1) := by decide +kernel
theorem dX9_pause_37 : decode cX9_pause 37 = .ok (.iadd, 1) := by decide +kernel
theorem dX9_pause_38 : decode cX9_pause 38 = .ok (.invokevirtual 113, 3) := by decide +kernel
theorem dX9_pause_41 : decode cX9_pause 41 = .ok (.aload_n 3, 1) := by decide +kernel
theorem dX9_pause_42 : decode cX9_pause 42 = .ok (.iload_n 2, 1) := by decide +kernel
theorem dX9_pause_43 : decode cX9_pause 43 = .ok (.invokevirtual 74, 3) := by decide +kernel
theorem dX9_pause_46 : decode cX9_pause 46 = .ok (.aload_n 3, 1) := by decide +kernel
theorem dX9_pause_47 : decode cX9_pause 47 = .ok (.getfield 110, 3) := by decide +kernel
theorem dX9_pause_50 : decode cX9_pause 50 = .ok (.ireturn, 1) := by decide +kernel
theorem dX9_replay_0 : decode cX9_replay 0 = .ok (.aload_n 0, 1) := by decide +kernel
theorem dX9_replay_1 : decode cX9_replay 1 = .ok (.getfield 23, 3) := by decide +kernel
theorem dX9_replay_4 : decode cX9_replay 4 = .ok (.iload_n 1, 1) := by decide +kernel
theorem dX9_replay_5 : decode cX9_replay 5 = .ok (.aaload, 1) := by decide +kernel
theorem dX9_replay_6 : decode cX9_replay 6 = .ok (.astore_n 2, 1) := by decide +kernel
theorem dX9_replay_7 : decode cX9_replay 7 = .ok (.aload_n 2, 1) := by decide +kernel
theorem dX9_replay_8 : decode cX9_replay 8 = .ok (.aload_n 0, 1) := by decide +kernel
theorem dX9_replay_9 : decode cX9_replay 9 = .ok (.getfield 37, 3) := by decide +kernel
theorem dX9_replay_12 : decode cX9_replay 12 = .ok (.getfield 68, 3) := by decide +kernel
theorem dX9_replay_15 : decode cX9_replay 15 = .ok (.iload_n 1, 1) := by decide +kernel
theorem dX9_replay_16 : decode cX9_replay 16 = .ok (.iconst 4, 1) := by decide +kernel
theorem dX9_replay_17 : decode cX9_replay 17 = .ok (.imul, 1) := by decide +kernel
theorem dX9_replay_18 : decode cX9_replay 18 = .ok (.iaload, 1) := by decide +kernel
theorem dX9_replay_19 : decode cX9_replay 19 = .ok (.invokevirtual 71, 3) := by decide +kernel
theorem dX9_replay_22 : decode cX9_replay 22 = .ok (.iconst 0, 1) := by decide +kernel
theorem dX9_replay_23 : decode cX9_replay 23 = .ok (.istore_n 3, 1) := by decide +kernel
theorem dX9_replay_24 : decode cX9_replay 24 = .ok (.iload_n 3, 1) := by decide +kernel
theorem dX9_replay_25 : decode cX9_replay 25 = .ok (.aload_n 0, 1) := by decide +kernel
theorem dX9_replay_26 : decode cX9_replay 26 = .ok (.getfield 11, 3) := by decide +kernel
theorem dX9_replay_29 : decode cX9_replay 29 = .ok (.iload_n 1, 1) := by decide +kernel
theorem dX9_replay_30 : decode cX9_replay 30 = .ok (.iaload, 1) := by decide +kernel
theorem dX9_replay_31 : decode cX9_replay 31 = .ok (.if_icmp .ge 85, 3) := by decide +kernel
theorem dX9_replay_34 : decode cX9_replay 34 = .ok (.iload_n 3, 1) := by decide +kernel
theorem dX9_replay_35 : decode cX9_replay 35 = .ok (.bipush 24, 2) := by decide +kernel
theorem dX9_replay_37 : decode cX9_replay 37 = .ok (.if_icmp .ge 79, 3) := by decide +kernel
theorem dX9_replay_40 : decode cX9_replay 40 = .ok (.aload_n 0, 1) := by decide +kernel
theorem dX9_replay_41 : decode cX9_replay 41 = .ok (.getfield 11, 3) := by decide +kernel
theorem dX9_replay_44 : decode cX9_replay 44 = .ok (.iconst 4, 1) := by decide +kernel
theorem dX9_replay_45 : decode cX9_replay 45 = .ok (.iload_n 1, 1) := by decide +kernel
theorem dX9_replay_46 : decode cX9_replay 46 = .ok (.bipush 24, 2) := by decide +kernel
theorem dX9_replay_48 : decode cX9_replay 48 = .ok (.imul, 1) := by decide +kernel
theorem dX9_replay_49 : decode cX9_replay 49 = .ok (.iadd, 1) := by decide +kernel
theorem dX9_replay_50 : decode cX9_replay 50 = .ok (.iload_n 3, 1) := by decide +kernel
theorem dX9_replay_51 : decode cX9_replay 51 = .ok (.iadd, 1) := by decide +kernel
theorem dX9_replay_52 : decode cX9_replay 52 = .ok (.iaload, 1) := by decide +kernel
theorem dX9_replay_53 : decode cX9_replay 53 = .ok (.istore 4, 2) := by decide +kernel
theorem dX9_replay_55 : decode cX9_replay 55 = .ok (.iload 4, 2) := by decide +kernel
theorem dX9_replay_57 : decode cX9_replay 57 = .ok (.bipush 100, 2) := by decide +kernel
theorem dX9_replay_59 : decode cX9_replay 59 = .ok (.if_icmp .le 15, 3) := by decide +kernel
theorem dX9_replay_62 : decode cX9_replay 62 = .ok (.aload_n 2, 1) := by decide +kernel
theorem dX9_replay_63 : decode cX9_replay 63 = .ok (.iload 4, 2) := by decide +kernel
theorem dX9_replay_65 : decode cX9_replay 65 = .ok (.bipush 100, 2) := by decide +kernel
theorem dX9_replay_67 : decode cX9_replay 67 = .ok (.isub, 1) := by decide +kernel
theorem dX9_replay_68 : decode cX9_replay 68 = .ok (.invokevirtual 74, 3) := by decide +kernel
theorem dX9_replay_71 : decode cX9_replay 71 = .ok (.goto 39, 3) := by decide +kernel
theorem dX9_replay_74 : decode cX9_replay 74 = .ok (.aload_n 0, 1) := by decide +kernel
theorem dX9_replay_75 : decode cX9_replay 75 = .ok (.aload_n 2, 1) := by decide +kernel
theorem dX9_replay_76 : decode cX9_replay 76 = .ok (.invokevirtual 77, 3) := by decide +kernel
theorem dX9_replay_79 : decode cX9_replay 79 = .ok (.iload 4, 2) := by decide +kernel
theorem dX9_replay_81 : decode cX9_replay 81 = .ok (.invokevirtual 81, 3) := by decide +kernel
theorem dX9_replay_84 : decode cX9_replay 84 = .ok (.istore 5, 2) := by decide +kernel
theorem dX9_replay_86 : decode cX9_replay 86 = .ok (.iload 5, 2) := by decide +kernel
theorem dX9_replay_88 : decode cX9_replay 88 = .ok (.iconst (-1), 1) := by decide +kernel
theorem dX9_replay_89 : decode cX9_replay 89 = .ok (.if_icmp .eq 21, 3) := by decide +kernel
theorem dX9_replay_92 : decode cX9_replay 92 = .ok (.aload_n 2, 1) := by decide +kernel
theorem dX9_replay_93 : decode cX9_replay 93 = .ok (.iload 5, 2) := by decide +kernel
theorem dX9_replay_95 : decode cX9_replay 95 = .ok (.iload 4, 2) := by decide +kernel
theorem dX9_replay_97 : decode cX9_replay 97 = .ok (.aload_n 0, 1) := by decide +kernel
theorem dX9_replay_98 : decode cX9_replay 98 = .ok (.getfield 37, 3) := by decide +kernel
theorem dX9_replay_101 : decode cX9_replay 101 = .ok (.iload_n 1, 1) := by decide +kernel
theorem dX9_replay_102 : decode cX9_replay 102 = .ok (.iload 5, 2) := by decide +kernel
theorem dX9_replay_104 : decode cX9_replay 104 = .ok (.invokevirtual 85, 3) := by decide +kernel
theorem dX9_replay_107 : decode cX9_replay 107 = .ok (.invokevirtual 88, 3) := by decide +kernel
theorem dX9_replay_110 : decode cX9_replay 110 = .ok (.iinc 3 1, 3) := by decide +kernel
theorem dX9_replay_113 : decode cX9_replay 113 = .ok (.goto (-89), 3) := by decide +kernel
theorem dX9_replay_116 : decode cX9_replay 116 = .ok (.return_, 1) := by decide +kernel
theorem dX9_replayAll_0 : decode cX9_replayAll 0 = .ok (.iconst 0, 1) := by decide +kernel
theorem dX9_replayAll_1 : decode cX9_replayAll 1 = .ok (.istore_n 1, 1) := by decide +kernel
theorem dX9_replayAll_2 : decode cX9_replayAll 2 = .ok (.iload_n 1, 1) := by decide +kernel
theorem dX9_replayAll_3 : decode cX9_replayAll 3 = .ok (.aload_n 0, 1) := by decide +kernel
theorem dX9_replayAll_4 : decode cX9_replayAll 4 = .ok (.getfield 37, 3) := by decide +kernel
theorem dX9_replayAll_7 : decode cX9_replayAll 7 = .ok (.getfield 60, 3) := by decide +kernel
theorem dX9_replayAll_10 : decode cX9_replayAll 10 = .ok (.iconst 2, 1) := by decide +kernel
theorem dX9_replayAll_11 : decode cX9_replayAll 11 = .ok (.iaload, 1) := by decide +kernel
theorem dX9_replayAll_12 : decode cX9_replayAll 12 = .ok (.if_icmp .ge 14, 3) := by decide +kernel
theorem dX9_replayAll_15 : decode cX9_replayAll 15 = .ok (.aload_n 0, 1) := by decide +kernel
theorem dX9_replayAll_16 : decode cX9_replayAll 16 = .ok (.iload_n 1, 1) := by decide +kernel
theorem dX9_replayAll_17 : decode cX9_replayAll 17 = .ok (.invokevirtual 65, 3) := by decide +kernel
theorem dX9_replayAll_20 : decode cX9_replayAll 20 = .ok (.iinc 1 1, 3) := by decide +kernel
theorem dX9_replayAll_23 : decode cX9_replayAll 23 = .ok (.goto (-21), 3) := by decide +kernel
theorem dX9_replayAll_26 : decode cX9_replayAll 26 = .ok (.aload_n 0, 1) := by decide +kernel
theorem dX9_replayAll_27 : decode cX9_replayAll 27 = .ok (.iconst 1, 1) := by decide +kernel
theorem dX9_replayAll_28 : decode cX9_replayAll 28 = .ok (.putfield 27, 3) := by decide +kernel
theorem dX9_replayAll_31 : decode cX9_replayAll 31 = .ok (.aload_n 0, 1) := by decide +kernel
theorem dX9_replayAll_32 : decode cX9_replayAll 32 = .ok (.iconst 1, 1) := by decide +kernel
theorem dX9_replayAll_33 : decode cX9_replayAll 33 = .ok (.putfield 31, 3) := by decide +kernel
theorem dX9_replayAll_36 : decode cX9_replayAll 36 = .ok (.aload_n 0, 1) := by decide +kernel
theorem dX9_replayAll_37 : decode cX9_replayAll 37 = .ok (.iconst 1, 1) := by decide +kernel
theorem dX9_replayAll_38 : decode cX9_replayAll 38 = .ok (.putfield 34, 3) := by decide +kernel
theorem dX9_replayAll_41 : decode cX9_replayAll 41 = .ok (.return_, 1) := by decide +kernel
theorem dX9_revert_0 : decode cX9_revert 0 = .ok (.aload_n 0, 1) := by decide +kernel
theorem dX9_revert_1 : decode cX9_revert 1 = .ok (.getfield 50, 3) := by decide +kernel
theorem dX9_revert_4 : decode cX9_revert 4 = .ok (.ifCond .ne 5, 3) := by decide +kernel
theorem dX9_revert_7 : decode cX9_revert 7 = .ok (.iconst 0, 1) := by decide +kernel
theorem dX9_revert_8 : decode cX9_revert 8 = .ok (.ireturn, 1) := by decide +kernel
theorem dX9_revert_9 : decode cX9_revert 9 = .ok (.aload_n 0, 1) := by decide +kernel
theorem dX9_revert_10 : decode cX9_revert 10 = .ok (.dup, 1) := by decide +kernel
theorem dX9_revert_11 : decode cX9_revert 11 = .ok (.getfield 50, 3) := by decide +kernel
theorem dX9_revert_14 : decode cX9_revert 14 = .ok (.iconst 1, 1) := by decide +kernel
theorem dX9_revert_15 : decode cX9_revert 15 = .ok (.isub, 1) := by decide +kernel
theorem dX9_revert_16 : decode cX9_revert 16 = .ok (.putfield 50, 3) := by decide +kernel
theorem dX9_revert_19 : decode cX9_revert 19 = .ok (.aload_n 0, 1) := by decide +kernel
theorem dX9_revert_20 : decode cX9_revert 20 = .ok (.getfield 18, 3) := by decide +kernel
theorem dX9_revert_23 : decode cX9_revert 23 = .ok (.aload_n 0, 1) := by decide +kernel
theorem dX9_revert_24 : decode cX9_revert 24 = .ok (.getfield 95, 3) := by decide +kernel
theorem dX9_revert_27 : decode cX9_revert 27 = .ok (.aload_n 0, 1) := by decide +kernel
theorem dX9_revert_28 : decode cX9_revert 28 = .ok (.getfield 50, 3) := by decide +kernel
theorem dX9_revert_31 : decode cX9_revert 31 = .ok (.iadd, 1) := by decide +kernel
theorem dX9_revert_32 : decode cX9_revert 32 = .ok (.bipush 21, 2) := by decide +kernel
theorem dX9_revert_34 : decode cX9_revert 34 = .ok (.irem, 1) := by decide +kernel
theorem dX9_revert_35 : decode cX9_revert 35 = .ok (.bipush 102, 2) := by decide +kernel
theorem dX9_revert_37 : decode cX9_revert 37 = .ok (.imul, 1) := by decide +kernel
theorem dX9_revert_38 : decode cX9_revert 38 = .ok (.aload_n 0, 1) := by decide +kernel
theorem dX9_revert_39 : decode cX9_revert 39 = .ok (.getfield 11, 3) := by decide +kernel
theorem dX9_revert_42 : decode cX9_revert 42 = .ok (.iconst 0, 1) := by decide +kernel
theorem dX9_revert_43 : decode cX9_revert 43 = .ok (.bipush 102, 2) := by decide +kernel
theorem dX9_revert_45 : decode cX9_revert 45 = .ok (.invokestatic 98, 3) := by decide +kernel
theorem dX9_revert_48 : decode cX9_revert 48 = .ok (.aload_n 0, 1) := by decide +kernel
theorem dX9_revert_49 : decode cX9_revert 49 = .ok (.invokevirtual 54, 3) := by decide +kernel
theorem dX9_revert_52 : decode cX9_revert 52 = .ok (.iconst 1, 1) := by decide +kernel
theorem dX9_revert_53 : decode cX9_revert 53 = .ok (.ireturn, 1) := by decide +kernel
theorem dX9_shutBits_0 : decode cX9_shutBits 0 = .ok (.aload_n 0, 1) := by decide +kernel
theorem dX9_shutBits_1 : decode cX9_shutBits 1 = .ok (.getfield 11, 3) := by decide +kernel
theorem dX9_shutBits_4 : decode cX9_shutBits 4 = .ok (.bipush 100, 2) := by decide +kernel
theorem dX9_shutBits_6 : decode cX9_shutBits 6 = .ok (.iaload, 1) := by decide +kernel
theorem dX9_shutBits_7 : decode cX9_shutBits 7 = .ok (.ireturn, 1) := by decide +kernel
theorem dX9_soften_0 : decode cX9_soften 0 = .ok (.aload_n 0, 1) := by decide +kernel
theorem dX9_soften_1 : decode cX9_soften 1 = .ok (.getfield 11, 3) := by decide +kernel
theorem dX9_soften_4 : decode cX9_soften 4 = .ok (.bipush 101, 2) := by decide +kernel
theorem dX9_soften_6 : decode cX9_soften 6 = .ok (.iaload, 1) := by decide +kernel
theorem dX9_soften_7 : decode cX9_soften 7 = .ok (.iload_n 1, 1) := by decide +kernel
theorem dX9_soften_8 : decode cX9_soften 8 = .ok (.if_icmp .ne 5, 3) := by decide +kernel
theorem dX9_soften_11 : decode cX9_soften 11 = .ok (.iconst 0, 1) := by decide +kernel
theorem dX9_soften_12 : decode cX9_soften 12 = .ok (.ireturn, 1) := by decide +kernel
theorem dX9_soften_13 : decode cX9_soften 13 = .ok (.aload_n 0, 1) := by decide +kernel
theorem dX9_soften_14 : decode cX9_soften 14 = .ok (.invokevirtual 104, 3) := by decide +kernel
theorem dX9_soften_17 : decode cX9_soften 17 = .ok (.aload_n 0, 1) := by decide +kernel
theorem dX9_soften_18 : decode cX9_soften 18 = .ok (.invokevirtual 107, 3) := by decide +kernel
theorem dX9_soften_21 : decode cX9_soften 21 = .ok (.aload_n 0, 1) := by decide +kernel
theorem dX9_soften_22 : decode cX9_soften 22 = .ok (.getfield 11, 3) := by decide +kernel
theorem dX9_soften_25 : decode cX9_soften 25 = .ok (.bipush 101, 2) := by decide +kernel
theorem dX9_soften_27 : decode cX9_soften 27 = .ok (.iload_n 1, 1) := by decide +kernel
theorem dX9_soften_28 : decode cX9_soften 28 = .ok (.iastore, 1) := by decide +kernel
theorem dX9_soften_29 : decode cX9_soften 29 = .ok (.aload_n 0, 1) := by decide +kernel
theorem dX9_soften_30 : decode cX9_soften 30 = .ok (.iconst 1, 1) := by decide +kernel
theorem dX9_soften_31 : decode cX9_soften 31 = .ok (.putfield 34, 3) := by decide +kernel
theorem dX9_soften_34 : decode cX9_soften 34 = .ok (.iconst 1, 1) := by decide +kernel
theorem dX9_soften_35 : decode cX9_soften 35 = .ok (.ireturn, 1) := by decide +kernel
theorem dX9_steps_0 : decode cX9_steps 0 = .ok (.aload_n 0, 1) := by decide +kernel
theorem dX9_steps_1 : decode cX9_steps 1 = .ok (.getfield 11, 3) := by decide +kernel
theorem dX9_steps_4 : decode cX9_steps 4 = .ok (.iload_n 1, 1) := by decide +kernel
theorem dX9_steps_5 : decode cX9_steps 5 = .ok (.iaload, 1) := by decide +kernel
theorem dX9_steps_6 : decode cX9_steps 6 = .ok (.ireturn, 1) := by decide +kernel
theorem dX9_sumOf_0 : decode cX9_sumOf 0 = .ok (.bipush 83, 2) := by decide +kernel
theorem dX9_sumOf_2 : decode cX9_sumOf 2 = .ok (.istore_n 3, 1) := by decide +kernel
theorem dX9_sumOf_3 : decode cX9_sumOf 3 = .ok (.iconst 0, 1) := by decide +kernel
theorem dX9_sumOf_4 : decode cX9_sumOf 4 = .ok (.istore 4, 2) := by decide +kernel
theorem dX9_sumOf_6 : decode cX9_sumOf 6 = .ok (.iload 4, 2) := by decide +kernel
theorem dX9_sumOf_8 : decode cX9_sumOf 8 = .ok (.iload_n 2, 1) := by decide +kernel
theorem dX9_sumOf_9 : decode cX9_sumOf 9 = .ok (.if_icmp .ge 22, 3) := by decide +kernel
theorem dX9_sumOf_12 : decode cX9_sumOf 12 = .ok (.iconst 3, 1) := by decide +kernel
theorem dX9_sumOf_13 : decode cX9_sumOf 13 = .ok (.iload_n 3, 1) := by decide +kernel
theorem dX9_sumOf_14 : decode cX9_sumOf 14 = .ok (.imul, 1) := by decide +kernel
theorem dX9_sumOf_15 : decode cX9_sumOf 15 = .ok (.aload_n 1, 1) := by decide +kernel
theorem dX9_sumOf_16 : decode cX9_sumOf 16 = .ok (.iload 4, 2) := by decide +kernel
theorem dX9_sumOf_18 : decode cX9_sumOf 18 = .ok (.iaload, 1) := by decide +kernel
theorem dX9_sumOf_19 : decode cX9_sumOf 19 = .ok (.iadd, 1) := by decide +kernel
theorem dX9_sumOf_20 : decode cX9_sumOf 20 = .ok (.sipush 247, 3) := by decide +kernel
theorem dX9_sumOf_23 : decode cX9_sumOf 23 = .ok (.irem, 1) := by decide +kernel
theorem dX9_sumOf_24 : decode cX9_sumOf 24 = .ok (.istore_n 3, 1) := by decide +kernel
theorem dX9_sumOf_25 : decode cX9_sumOf 25 = .ok (.iinc 4 1, 3) := by decide +kernel
theorem dX9_sumOf_28 : decode cX9_sumOf 28 = .ok (.goto (-22), 3) := by decide +kernel
theorem dX9_sumOf_31 : decode cX9_sumOf 31 = .ok (.iload_n 3, 1) := by decide +kernel
theorem dX9_sumOf_32 : decode cX9_sumOf 32 = .ok (.ireturn, 1) := by decide +kernel
theorem dX9_tryWay_0 : decode cX9_tryWay 0 = .ok (.iload_n 3, 1) := by decide +kernel
theorem dX9_tryWay_1 : decode cX9_tryWay 1 = .ok (.iload 4, 2) := by decide +kernel
theorem dX9_tryWay_3 : decode cX9_tryWay 3 = .ok (.if_icmp .ge 21, 3) := by decide +kernel
theorem dX9_tryWay_6 : decode cX9_tryWay 6 = .ok (.aload_n 2, 1) := by decide +kernel
theorem dX9_tryWay_7 : decode cX9_tryWay 7 = .ok (.iload_n 3, 1) := by decide +kernel
theorem dX9_tryWay_8 : decode cX9_tryWay 8 = .ok (.iaload, 1) := by decide +kernel
theorem dX9_tryWay_9 : decode cX9_tryWay 9 = .ok (.bipush 24, 2) := by decide +kernel
theorem dX9_tryWay_11 : decode cX9_tryWay 11 = .ok (.if_icmp .gt 13, 3) := by decide +kernel
theorem dX9_tryWay_14 : decode cX9_tryWay 14 = .ok (.iload_n 3, 1) := by decide +kernel
theorem dX9_tryWay_15 : decode cX9_tryWay 15 = .ok (.aload_n 2, 1) := by decide +kernel
theorem dX9_tryWay_16 : decode cX9_tryWay 16 = .ok (.iload_n 3, 1) := by decide +kernel
theorem dX9_tryWay_17 : decode cX9_tryWay 17 = .ok (.iaload, 1) := by decide +kernel
theorem dX9_tryWay_18 : decode cX9_tryWay 18 = .ok (.iadd, 1) := by decide +kernel
theorem dX9_tryWay_19 : decode cX9_tryWay 19 = .ok (.iload 4, 2) := by decide +kernel
theorem dX9_tryWay_21 : decode cX9_tryWay 21 = .ok (.if_icmp .lt 5, 3) := by decide +kernel
theorem dX9_tryWay_24 : decode cX9_tryWay 24 = .ok (.iconst (-1), 1) := by decide +kernel
theorem dX9_tryWay_25 : decode cX9_tryWay 25 = .ok (.ireturn, 1) := by decide +kernel
theorem dX9_tryWay_26 : decode cX9_tryWay 26 = .ok (.aload_n 0, 1) := by decide +kernel
theorem dX9_tryWay_27 : decode cX9_tryWay 27 = .ok (.getfield 37, 3) := by decide +kernel
theorem dX9_tryWay_30 : decode cX9_tryWay 30 = .ok (.getfield 68, 3) := by decide +kernel
theorem dX9_tryWay_33 : decode cX9_tryWay 33 = .ok (.iload_n 1, 1) := by decide +kernel
theorem dX9_tryWay_34 : decode cX9_tryWay 34 = .ok (.iconst 4, 1) := by decide +kernel
theorem dX9_tryWay_35 : decode cX9_tryWay 35 = .ok (.imul, 1) := by decide +kernel
theorem dX9_tryWay_36 : decode cX9_tryWay 36 = .ok (.iaload, 1) := by decide +kernel
theorem dX9_tryWay_37 : decode cX9_tryWay 37 = .ok (.istore 5, 2) := by decide +kernel
theorem dX9_tryWay_39 : decode cX9_tryWay 39 = .ok (.iconst 0, 1) := by decide +kernel
theorem dX9_tryWay_40 : decode cX9_tryWay 40 = .ok (.istore 6, 2) := by decide +kernel
theorem dX9_tryWay_42 : decode cX9_tryWay 42 = .ok (.aload_n 0, 1) := by decide +kernel
theorem dX9_tryWay_43 : decode cX9_tryWay 43 = .ok (.getfield 15, 3) := by decide +kernel
theorem dX9_tryWay_46 : decode cX9_tryWay 46 = .ok (.iload_n 1, 1) := by decide +kernel
theorem dX9_tryWay_47 : decode cX9_tryWay 47 = .ok (.aload_n 2, 1) := by decide +kernel
theorem dX9_tryWay_48 : decode cX9_tryWay 48 = .ok (.iload_n 3, 1) := by decide +kernel
theorem dX9_tryWay_49 : decode cX9_tryWay 49 = .ok (.iaload, 1) := by decide +kernel
theorem dX9_tryWay_50 : decode cX9_tryWay 50 = .ok (.iastore, 1) := by decide +kernel
theorem dX9_tryWay_51 : decode cX9_tryWay 51 = .ok (.iconst 0, 1) := by decide +kernel
theorem dX9_tryWay_52 : decode cX9_tryWay 52 = .ok (.istore 7, 2) := by decide +kernel
theorem dX9_tryWay_54 : decode cX9_tryWay 54 = .ok (.iload 7, 2) := by decide +kernel
theorem dX9_tryWay_56 : decode cX9_tryWay 56 = .ok (.aload_n 0, 1) := by decide +kernel
theorem dX9_tryWay_57 : decode cX9_tryWay 57 = .ok (.getfield 15, 3) := by decide +kernel
theorem dX9_tryWay_60 : decode cX9_tryWay 60 = .ok (.iload_n 1, 1) := by decide +kernel
theorem dX9_tryWay_61 : decode cX9_tryWay 61 = .ok (.iaload, 1) := by decide +kernel
theorem dX9_tryWay_62 : decode cX9_tryWay 62 = .ok (.if_icmp .ge 100, 3) := by decide +kernel
theorem dX9_tryWay_65 : decode cX9_tryWay 65 = .ok (.aload_n 2, 1) := by decide +kernel
theorem dX9_tryWay_66 : decode cX9_tryWay 66 = .ok (.iload_n 3, 1) := by decide +kernel
theorem dX9_tryWay_67 : decode cX9_tryWay 67 = .ok (.iconst 1, 1) := by decide +kernel
theorem dX9_tryWay_68 : decode cX9_tryWay 68 = .ok (.iadd, 1) := by decide +kernel
theorem dX9_tryWay_69 : decode cX9_tryWay 69 = .ok (.iload 7, 2) := by decide +kernel
theorem dX9_tryWay_71 : decode cX9_tryWay 71 = .ok (.iadd, 1) := by decide +kernel
theorem dX9_tryWay_72 : decode cX9_tryWay 72 = .ok (.iaload, 1) := by decide +kernel
theorem dX9_tryWay_73 : decode cX9_tryWay 73 = .ok (.istore 8, 2) := by decide +kernel
theorem dX9_tryWay_75 : decode cX9_tryWay 75 = .ok (.iload 8, 2) := by decide +kernel
theorem dX9_tryWay_77 : decode cX9_tryWay 77 = .ok (.bipush 100, 2) := by decide +kernel
theorem dX9_tryWay_79 : decode cX9_tryWay 79 = .ok (.if_icmp .le 24, 3) := by decide +kernel
theorem dX9_tryWay_82 : decode cX9_tryWay 82 = .ok (.iload 8, 2) := by decide +kernel
theorem dX9_tryWay_84 : decode cX9_tryWay 84 = .ok (.sipush 130, 3) := by decide +kernel
theorem dX9_tryWay_87 : decode cX9_tryWay 87 = .ok (.if_icmp .gt 16, 3) := by decide +kernel
theorem dX9_tryWay_90 : decode cX9_tryWay 90 = .ok (.iload 6, 2) := by decide +kernel
theorem dX9_tryWay_92 : decode cX9_tryWay 92 = .ok (.iload 8, 2) := by decide +kernel
theorem dX9_tryWay_94 : decode cX9_tryWay 94 = .ok (.bipush 100, 2) := by decide +kernel
theorem dX9_tryWay_96 : decode cX9_tryWay 96 = .ok (.isub, 1) := by decide +kernel
theorem dX9_tryWay_97 : decode cX9_tryWay 97 = .ok (.iadd, 1) := by decide +kernel
theorem dX9_tryWay_98 : decode cX9_tryWay 98 = .ok (.istore 6, 2) := by decide +kernel
theorem dX9_tryWay_100 : decode cX9_tryWay 100 = .ok (.goto 40, 3) := by decide +kernel
theorem dX9_tryWay_103 : decode cX9_tryWay 103 = .ok (.aload_n 0, 1) := by decide +kernel
theorem dX9_tryWay_104 : decode cX9_tryWay 104 = .ok (.iload 5, 2) := by decide +kernel
theorem dX9_tryWay_106 : decode cX9_tryWay 106 = .ok (.iload 8, 2) := by decide +kernel
theorem dX9_tryWay_108 : decode cX9_tryWay 108 = .ok (.invokevirtual 81, 3) := by decide +kernel
theorem dX9_tryWay_111 : decode cX9_tryWay 111 = .ok (.istore 9, 2) := by decide +kernel
theorem dX9_tryWay_113 : decode cX9_tryWay 113 = .ok (.iload 9, 2) := by decide +kernel
theorem dX9_tryWay_115 : decode cX9_tryWay 115 = .ok (.iconst (-1), 1) := by decide +kernel
theorem dX9_tryWay_116 : decode cX9_tryWay 116 = .ok (.if_icmp .ne 5, 3) := by decide +kernel
theorem dX9_tryWay_119 : decode cX9_tryWay 119 = .ok (.iconst (-1), 1) := by decide +kernel
theorem dX9_tryWay_120 : decode cX9_tryWay 120 = .ok (.ireturn, 1) := by decide +kernel
theorem dX9_tryWay_121 : decode cX9_tryWay 121 = .ok (.iload 6, 2) := by decide +kernel
theorem dX9_tryWay_123 : decode cX9_tryWay 123 = .ok (.aload_n 0, 1) := by decide +kernel
theorem dX9_tryWay_124 : decode cX9_tryWay 124 = .ok (.getfield 37, 3) := by decide +kernel
theorem dX9_tryWay_127 : decode cX9_tryWay 127 = .ok (.iload_n 1, 1) := by decide +kernel
theorem dX9_tryWay_128 : decode cX9_tryWay 128 = .ok (.iload 9, 2) := by decide +kernel
theorem dX9_tryWay_130 : decode cX9_tryWay 130 = .ok (.invokevirtual 85, 3) := by decide +kernel
theorem dX9_tryWay_133 : decode cX9_tryWay 133 = .ok (.iadd, 1) := by decide +kernel
theorem dX9_tryWay_134 : decode cX9_tryWay 134 = .ok (.istore 6, 2) := by decide +kernel
theorem dX9_tryWay_136 : decode cX9_tryWay 136 = .ok (.iload 8, 2) := by decide +kernel
theorem dX9_tryWay_138 : decode cX9_tryWay 138 = .ok (.istore 5, 2) := by decide +kernel
theorem dX9_tryWay_140 : decode cX9_tryWay 140 = .ok (.aload_n 0, 1) := by decide +kernel
theorem dX9_tryWay_141 : decode cX9_tryWay 141 = .ok (.getfield 15, 3) := by decide +kernel
theorem dX9_tryWay_144 : decode cX9_tryWay 144 = .ok (.iconst 4, 1) := by decide +kernel
theorem dX9_tryWay_145 : decode cX9_tryWay 145 = .ok (.iload_n 1, 1) := by decide +kernel
theorem dX9_tryWay_146 : decode cX9_tryWay 146 = .ok (.bipush 24, 2) := by decide +kernel
theorem dX9_tryWay_148 : decode cX9_tryWay 148 = .ok (.imul, 1) := by decide +kernel
theorem dX9_tryWay_149 : decode cX9_tryWay 149 = .ok (.iadd, 1) := by decide +kernel
theorem dX9_tryWay_150 : decode cX9_tryWay 150 = .ok (.iload 7, 2) := by decide +kernel
theorem dX9_tryWay_152 : decode cX9_tryWay 152 = .ok (.iadd, 1) := by decide +kernel
theorem dX9_tryWay_153 : decode cX9_tryWay 153 = .ok (.iload 8, 2) := by decide +kernel
theorem dX9_tryWay_155 : decode cX9_tryWay 155 = .ok (.iastore, 1) := by decide +kernel
theorem dX9_tryWay_156 : decode cX9_tryWay 156 = .ok (.iinc 7 1, 3) := by decide +kernel
theorem dX9_tryWay_159 : decode cX9_tryWay 159 = .ok (.goto (-105), 3) := by decide +kernel
theorem dX9_tryWay_162 : decode cX9_tryWay 162 = .ok (.iload 6, 2) := by decide +kernel
theorem dX9_tryWay_164 : decode cX9_tryWay 164 = .ok (.sipush 999, 3) := by decide +kernel
theorem dX9_tryWay_167 : decode cX9_tryWay 167 = .ok (.if_icmp .le 7, 3) := by decide +kernel
theorem dX9_tryWay_170 : decode cX9_tryWay 170 = .ok (.iconst (-1), 1) := by decide +kernel
theorem dX9_tryWay_171 : decode cX9_tryWay 171 = .ok (.goto 13, 3) := by decide +kernel
theorem dX9_tryWay_174 : decode cX9_tryWay 174 = .ok (.iload_n 3, 1) := by decide +kernel
theorem dX9_tryWay_175 : decode cX9_tryWay 175 = .ok (.iconst 1, 1) := by decide +kernel
theorem dX9_tryWay_176 : decode cX9_tryWay 176 = .ok (.iadd, 1) := by decide +kernel
theorem dX9_tryWay_177 : decode cX9_tryWay 177 = .ok (.aload_n 0, 1) := by decide +kernel
theorem dX9_tryWay_178 : decode cX9_tryWay 178 = .ok (.getfield 15, 3) := by decide +kernel
theorem dX9_tryWay_181 : decode cX9_tryWay 181 = .ok (.iload_n 1, 1) := by decide +kernel
theorem dX9_tryWay_182 : decode cX9_tryWay 182 = .ok (.iaload, 1) := by decide +kernel
theorem dX9_tryWay_183 : decode cX9_tryWay 183 = .ok (.iadd, 1) := by decide +kernel
theorem dX9_tryWay_184 : decode cX9_tryWay 184 = .ok (.ireturn, 1) := by decide +kernel
theorem dX9_walk_0 : decode cX9_walk 0 = .ok (.aload_n 0, 1) := by decide +kernel
theorem dX9_walk_1 : decode cX9_walk 1 = .ok (.getfield 23, 3) := by decide +kernel
theorem dX9_walk_4 : decode cX9_walk 4 = .ok (.iload_n 1, 1) := by decide +kernel
theorem dX9_walk_5 : decode cX9_walk 5 = .ok (.aaload, 1) := by decide +kernel
theorem dX9_walk_6 : decode cX9_walk 6 = .ok (.astore_n 3, 1) := by decide +kernel
theorem dX9_walk_7 : decode cX9_walk 7 = .ok (.aload_n 0, 1) := by decide +kernel
theorem dX9_walk_8 : decode cX9_walk 8 = .ok (.aload_n 3, 1) := by decide +kernel
theorem dX9_walk_9 : decode cX9_walk 9 = .ok (.invokevirtual 77, 3) := by decide +kernel
theorem dX9_walk_12 : decode cX9_walk 12 = .ok (.iload_n 2, 1) := by decide +kernel
theorem dX9_walk_13 : decode cX9_walk 13 = .ok (.invokevirtual 81, 3) := by decide +kernel
theorem dX9_walk_16 : decode cX9_walk 16 = .ok (.istore 4, 2) := by decide +kernel
theorem dX9_walk_18 : decode cX9_walk 18 = .ok (.aload_n 0, 1) := by decide +kernel
theorem dX9_walk_19 : decode cX9_walk 19 = .ok (.getfield 11, 3) := by decide +kernel
theorem dX9_walk_22 : decode cX9_walk 22 = .ok (.iload_n 1, 1) := by decide +kernel
theorem dX9_walk_23 : decode cX9_walk 23 = .ok (.iaload, 1) := by decide +kernel
theorem dX9_walk_24 : decode cX9_walk 24 = .ok (.bipush 24, 2) := by decide +kernel
theorem dX9_walk_26 : decode cX9_walk 26 = .ok (.if_icmp .ge 24, 3) := by decide +kernel
theorem dX9_walk_29 : decode cX9_walk 29 = .ok (.iload 4, 2) := by decide +kernel
theorem dX9_walk_31 : decode cX9_walk 31 = .ok (.iconst (-1), 1) := by decide +kernel
theorem dX9_walk_32 : decode cX9_walk 32 = .ok (.if_icmp .eq 18, 3) := by decide +kernel
theorem dX9_walk_35 : decode cX9_walk 35 = .ok (.aload_n 0, 1) := by decide +kernel
theorem dX9_walk_36 : decode cX9_walk 36 = .ok (.getfield 11, 3) := by decide +kernel
theorem dX9_walk_39 : decode cX9_walk 39 = .ok (.bipush 100, 2) := by decide +kernel
theorem dX9_walk_41 : decode cX9_walk 41 = .ok (.iaload, 1) := by decide +kernel
theorem dX9_walk_42 : decode cX9_walk 42 = .ok (.iload 4, 2) := by decide +kernel
theorem dX9_walk_44 : decode cX9_walk 44 = .ok (.ishr, 1) := by decide +kernel
theorem dX9_walk_45 : decode cX9_walk 45 = .ok (.iconst 1, 1) := by decide +kernel
theorem dX9_walk_46 : decode cX9_walk 46 = .ok (.iand, 1) := by decide +kernel
theorem dX9_walk_47 : decode cX9_walk 47 = .ok (.ifCond .eq 5, 3) := by decide +kernel
theorem dX9_walk_50 : decode cX9_walk 50 = .ok (.iconst (-1), 1) := by decide +kernel
theorem dX9_walk_51 : decode cX9_walk 51 = .ok (.ireturn, 1) := by decide +kernel
theorem dX9_walk_52 : decode cX9_walk 52 = .ok (.aload_n 0, 1) := by decide +kernel
theorem dX9_walk_53 : decode cX9_walk 53 = .ok (.getfield 37, 3) := by decide +kernel
theorem dX9_walk_56 : decode cX9_walk 56 = .ok (.iload_n 1, 1) := by decide +kernel
theorem dX9_walk_57 : decode cX9_walk 57 = .ok (.iload 4, 2) := by decide +kernel
theorem dX9_walk_59 : decode cX9_walk 59 = .ok (.invokevirtual 85, 3) := by decide +kernel
theorem dX9_walk_62 : decode cX9_walk 62 = .ok (.istore 5, 2) := by decide +kernel
theorem dX9_walk_64 : decode cX9_walk 64 = .ok (.aload_n 3, 1) := by decide +kernel
theorem dX9_walk_65 : decode cX9_walk 65 = .ok (.getfield 110, 3) := by decide +kernel
theorem dX9_walk_68 : decode cX9_walk 68 = .ok (.iload 5, 2) := by decide +kernel
theorem dX9_walk_70 : decode cX9_walk 70 = .ok (.iadd, 1) := by decide +kernel
theorem dX9_walk_71 : decode cX9_walk 71 = .ok (.sipush 999, 3) := by decide +kernel
theorem dX9_walk_74 : decode cX9_walk 74 = .ok (.if_icmp .le 5, 3) := by decide +kernel
theorem dX9_walk_77 : decode cX9_walk 77 = .ok (.iconst (-1), 1) := by decide +kernel
theorem dX9_walk_78 : decode cX9_walk 78 = .ok (.ireturn, 1) := by decide +kernel
theorem dX9_walk_79 : decode cX9_walk 79 = .ok (.aload_n 0, 1) := by decide +kernel
theorem dX9_walk_80 : decode cX9_walk 80 = .ok (.iload_n 1, 1) := by decide +kernel
theorem dX9_walk_81 : decode cX9_walk 81 = .ok (.iload_n 2, 1) := by decide +kernel
theorem dX9_walk_82 : decode cX9_walk 82 = .ok (.invokevirtual 113, 3) := by decide +kernel
theorem dX9_walk_85 : decode cX9_walk 85 = .ok (.aload_n 3, 1) := by decide +kernel
theorem dX9_walk_86 : decode cX9_walk 86 = .ok (.iload 4, 2) := by decide +kernel
theorem dX9_walk_88 : decode cX9_walk 88 = .ok (.iload_n 2, 1) := by decide +kernel
theorem dX9_walk_89 : decode cX9_walk 89 = .ok (.iload 5, 2) := by decide +kernel
theorem dX9_walk_91 : decode cX9_walk 91 = .ok (.invokevirtual 88, 3) := by decide +kernel
theorem dX9_walk_94 : decode cX9_walk 94 = .ok (.aload_n 3, 1) := by decide +kernel
theorem dX9_walk_95 : decode cX9_walk 95 = .ok (.getfield 110, 3) := by decide +kernel
theorem dX9_walk_98 : decode cX9_walk 98 = .ok (.ireturn, 1) := by decide +kernel
theorem dX9_wipe_0 : decode cX9_wipe 0 = .ok (.aload_n 0, 1) := by decide +kernel
theorem dX9_wipe_1 : decode cX9_wipe 1 = .ok (.getfield 11, 3) := by decide +kernel
theorem dX9_wipe_4 : decode cX9_wipe 4 = .ok (.iload_n 1, 1) := by decide +kernel
theorem dX9_wipe_5 : decode cX9_wipe 5 = .ok (.iaload, 1) := by decide +kernel
theorem dX9_wipe_6 : decode cX9_wipe 6 = .ok (.ifCond .ne 5, 3) := by decide +kernel
theorem dX9_wipe_9 : decode cX9_wipe 9 = .ok (.iconst 0, 1) := by decide +kernel
theorem dX9_wipe_10 : decode cX9_wipe 10 = .ok (.ireturn, 1) := by decide +kernel
theorem dX9_wipe_11 : decode cX9_wipe 11 = .ok (.aload_n 0, 1) := by decide +kernel
theorem dX9_wipe_12 : decode cX9_wipe 12 = .ok (.invokevirtual 104, 3) := by decide +kernel
theorem dX9_wipe_15 : decode cX9_wipe 15 = .ok (.aload_n 0, 1) := by decide +kernel
theorem dX9_wipe_16 : decode cX9_wipe 16 = .ok (.invokevirtual 107, 3) := by decide +kernel
theorem dX9_wipe_19 : decode cX9_wipe 19 = .ok (.aload_n 0, 1) := by decide +kernel
theorem dX9_wipe_20 : decode cX9_wipe 20 = .ok (.getfield 11, 3) := by decide +kernel
theorem dX9_wipe_23 : decode cX9_wipe 23 = .ok (.iload_n 1, 1) := by decide +kernel
theorem dX9_wipe_24 : decode cX9_wipe 24 = .ok (.iconst 0, 1) := by decide +kernel
theorem dX9_wipe_25 : decode cX9_wipe 25 = .ok (.iastore, 1) := by decide +kernel
theorem dX9_wipe_26 : decode cX9_wipe 26 = .ok (.aload_n 0, 1) := by decide +kernel
theorem dX9_wipe_27 : decode cX9_wipe 27 = .ok (.iload_n 1, 1) := by decide +kernel
theorem dX9_wipe_28 : decode cX9_wipe 28 = .ok (.invokevirtual 65, 3) := by decide +kernel
theorem dX9_wipe_31 : decode cX9_wipe 31 = .ok (.aload_n 0, 1) := by decide +kernel
theorem dX9_wipe_32 : decode cX9_wipe 32 = .ok (.iconst 1, 1) := by decide +kernel
theorem dX9_wipe_33 : decode cX9_wipe 33 = .ok (.putfield 27, 3) := by decide +kernel
theorem dX9_wipe_36 : decode cX9_wipe 36 = .ok (.iconst 1, 1) := by decide +kernel
theorem dX9_wipe_37 : decode cX9_wipe 37 = .ok (.ireturn, 1) := by decide +kernel
theorem dX10_allSaints_0 : decode cX10_allSaints 0 = .ok (.iconst 1, 1) := by decide +kernel
theorem dX10_allSaints_1 : decode cX10_allSaints 1 = .ok (.aload_n 0, 1) := by decide +kernel
theorem dX10_allSaints_2 : decode cX10_allSaints 2 = .ok (.getfield 10, 3) := by decide +kernel
theorem dX10_allSaints_5 : decode cX10_allSaints 5 = .ok (.getfield 140, 3) := by decide +kernel
theorem dX10_allSaints_8 : decode cX10_allSaints 8 = .ok (.iconst 2, 1) := by decide +kernel
theorem dX10_allSaints_9 : decode cX10_allSaints 9 = .ok (.iaload, 1) := by decide +kernel
theorem dX10_allSaints_10 : decode cX10_allSaints 10 = .ok (.ishl, 1) := by decide +kernel
theorem dX10_allSaints_11 : decode cX10_allSaints 11 = .ok (.iconst 1, 1) := by decide +kernel
theorem dX10_allSaints_12 : decode cX10_allSaints 12 = .ok (.isub, 1) := by decide +kernel
theorem dX10_allSaints_13 : decode cX10_allSaints 13 = .ok (.ireturn, 1) := by decide +kernel
theorem dX10_back_0 : decode cX10_back 0 = .ok (.aload_n 0, 1) := by decide +kernel
theorem dX10_back_1 : decode cX10_back 1 = .ok (.getfield 102, 3) := by decide +kernel
theorem dX10_back_4 : decode cX10_back 4 = .ok (.istore_n 1, 1) := by decide +kernel
theorem dX10_back_5 : decode cX10_back 5 = .ok (.aload_n 0, 1) := by decide +kernel
theorem dX10_back_6 : decode cX10_back 6 = .ok (.iconst 0, 1) := by decide +kernel
theorem dX10_back_7 : decode cX10_back 7 = .ok (.putfield 102, 3) := by decide +kernel
theorem dX10_back_10 : decode cX10_back 10 = .ok (.aload_n 0, 1) := by decide +kernel
theorem dX10_back_11 : decode cX10_back 11 = .ok (.getfield 37, 3) := by decide +kernel
theorem dX10_back_14 : decode cX10_back 14 = .ok (.aload_n 0, 1) := by decide +kernel
theorem dX10_back_15 : decode cX10_back 15 = .ok (.getfield 19, 3) := by decide +kernel
theorem dX10_back_18 : decode cX10_back 18 = .ok (.iload_n 1, 1) := by decide +kernel
theorem dX10_back_19 : decode cX10_back 19 = .ok (.invokevirtual 331, 3) := by decide +kernel
theorem dX10_back_22 : decode cX10_back 22 = .ok (.ireturn, 1) := by decide +kernel
theorem dX10_bars_0 : decode cX10_bars 0 = .ok (.aload_n 0, 1) := by decide +kernel
theorem dX10_bars_1 : decode cX10_bars 1 = .ok (.invokevirtual 283, 3) := by decide +kernel
theorem dX10_bars_4 : decode cX10_bars 4 = .ok (.istore_n 1, 1) := by decide +kernel
theorem dX10_bars_5 : decode cX10_bars 5 = .ok (.iconst 0, 1) := by decide +kernel
theorem dX10_bars_6 : decode cX10_bars 6 = .ok (.istore_n 2, 1) := by decide +kernel
theorem dX10_bars_7 : decode cX10_bars 7 = .ok (.iload_n 2, 1) := by decide +kernel
theorem dX10_bars_8 : decode cX10_bars 8 = .ok (.iconst 4, 1) := by decide +kernel
theorem dX10_bars_9 : decode cX10_bars 9 = .ok (.if_icmp .gt 49, 3) := by decide +kernel
theorem dX10_bars_12 : decode cX10_bars 12 = .ok (.iconst 0, 1) := by decide +kernel
theorem dX10_bars_13 : decode cX10_bars 13 = .ok (.istore_n 3, 1) := by decide +kernel
theorem dX10_bars_14 : decode cX10_bars 14 = .ok (.iload_n 3, 1) := by decide +kernel
theorem dX10_bars_15 : decode cX10_bars 15 = .ok (.iload_n 1, 1) := by decide +kernel
theorem dX10_bars_16 : decode cX10_bars 16 = .ok (.if_icmp .gt 36, 3) := by decide +kernel
theorem dX10_bars_19 : decode cX10_bars 19 = .ok (.iload_n 3, 1) := by decide +kernel
theorem dX10_bars_20 : decode cX10_bars 20 = .ok (.invokestatic 149, 3) := by decide +kernel
theorem dX10_bars_23 : decode cX10_bars 23 = .ok (.iload_n 2, 1) := by decide +kernel
theorem dX10_bars_24 : decode cX10_bars 24 = .ok (.if_icmp .ne 22, 3) := by decide +kernel
theorem dX10_bars_27 : decode cX10_bars 27 = .ok (.aload_n 0, 1) := by decide +kernel
theorem dX10_bars_28 : decode cX10_bars 28 = .ok (.getfield 76, 3) := by decide +kernel
theorem dX10_bars_31 : decode cX10_bars 31 = .ok (.iload_n 1, 1) := by decide +kernel
theorem dX10_bars_32 : decode cX10_bars 32 = .ok (.iload_n 3, 1) := by decide +kernel
theorem dX10_bars_33 : decode cX10_bars 33 = .ok (.iconst (-1), 1) := by decide +kernel
theorem dX10_bars_34 : decode cX10_bars 34 = .ok (.ixor, 1) := by decide +kernel
theorem dX10_bars_35 : decode cX10_bars 35 = .ok (.iand, 1) := by decide +kernel
theorem dX10_bars_36 : decode cX10_bars 36 = .ok (.iconst 0, 1) := by decide +kernel
theorem dX10_bars_37 : decode cX10_bars 37 = .ok (.invokevirtual 286, 3) := by decide +kernel
theorem dX10_bars_40 : decode cX10_bars 40 = .ok (.iconst (-1), 1) := by decide +kernel
theorem dX10_bars_41 : decode cX10_bars 41 = .ok (.if_icmp .eq 5, 3) := by decide +kernel
theorem dX10_bars_44 : decode cX10_bars 44 = .ok (.iload_n 3, 1) := by decide +kernel
theorem dX10_bars_45 : decode cX10_bars 45 = .ok (.ireturn, 1) := by decide +kernel
theorem dX10_bars_46 : decode cX10_bars 46 = .ok (.iinc 3 1, 3) := by decide +kernel
theorem dX10_bars_49 : decode cX10_bars 49 = .ok (.goto (-35), 3) := by decide +kernel
theorem dX10_bars_52 : decode cX10_bars 52 = .ok (.iinc 2 1, 3) := by decide +kernel
theorem dX10_bars_55 : decode cX10_bars 55 = .ok (.goto (-48), 3) := by decide +kernel
theorem dX10_bars_58 : decode cX10_bars 58 = .ok (.iload_n 1, 1) := by decide +kernel
theorem dX10_bars_59 : decode cX10_bars 59 = .ok (.ireturn, 1) := by decide +kernel
theorem dX10_but_0 : decode cX10_but 0 = .ok (.iload_n 1, 1) := by decide +kernel
theorem dX10_but_1 : decode cX10_but 1 = .ok (.ifCond .lt 33, 3) := by decide +kernel
theorem dX10_but_4 : decode cX10_but 4 = .ok (.iload_n 1, 1) := by decide +kernel
theorem dX10_but_5 : decode cX10_but 5 = .ok (.iconst 1, 1) := by decide +kernel
theorem dX10_but_6 : decode cX10_but 6 = .ok (.aload_n 0, 1) := by decide +kernel
theorem dX10_but_7 : decode cX10_but 7 = .ok (.getfield 10, 3) := by decide +kernel
theorem dX10_but_10 : decode cX10_but 10 = .ok (.getfield 140, 3) := by decide +kernel
theorem dX10_but_13 : decode cX10_but 13 = .ok (.iconst 4, 1) := by decide +kernel
theorem dX10_but_14 : decode cX10_but 14 = .ok (.iaload, 1) := by decide +kernel
theorem dX10_but_15 : decode cX10_but 15 = .ok (.ishl, 1) := by decide +kernel
theorem dX10_but_16 : decode cX10_but 16 = .ok (.if_icmp .ge 18, 3) := by decide +kernel
theorem dX10_but_19 : decode cX10_but 19 = .ok (.aload_n 0, 1) := by decide +kernel
theorem dX10_but_20 : decode cX10_but 20 = .ok (.getfield 37, 3) := by decide +kernel
theorem dX10_but_23 : decode cX10_but 23 = .ok (.iload_n 1, 1) := by decide +kernel
theorem dX10_but_24 : decode cX10_but 24 = .ok (.invokevirtual 254, 3) := by decide +kernel
theorem dX10_but_27 : decode cX10_but 27 = .ok (.ifCond .eq 7, 3) := by decide +kernel
theorem dX10_but_30 : decode cX10_but 30 = .ok (.iconst 1, 1) := by decide +kernel
theorem dX10_but_31 : decode cX10_but 31 = .ok (.goto 4, 3) := by decide +kernel
theorem dX10_but_34 : decode cX10_but 34 = .ok (.iconst 0, 1) := by decide +kernel
theorem dX10_but_35 : decode cX10_but 35 = .ok (.ireturn, 1) := by decide +kernel
theorem dX10_city_0 : decode cX10_city 0 = .ok (.aload_n 0, 1) := by decide +kernel
theorem dX10_city_1 : decode cX10_city 1 = .ok (.getfield 28, 3) := by decide +kernel
theorem dX10_city_4 : decode cX10_city 4 = .ok (.aload_n 0, 1) := by decide +kernel
theorem dX10_city_5 : decode cX10_city 5 = .ok (.getfield 102, 3) := by decide +kernel
theorem dX10_city_8 : decode cX10_city 8 = .ok (.invokevirtual 109, 3) := by decide +kernel
theorem dX10_city_11 : decode cX10_city 11 = .ok (.aload_n 0, 1) := by decide +kernel
theorem dX10_city_12 : decode cX10_city 12 = .ok (.iconst 0, 1) := by decide +kernel
theorem dX10_city_13 : decode cX10_city 13 = .ok (.putfield 102, 3) := by decide +kernel
theorem dX10_city_16 : decode cX10_city 16 = .ok (.iconst 0, 1) := by decide +kernel
theorem dX10_city_17 : decode cX10_city 17 = .ok (.istore_n 1, 1) := by decide +kernel
theorem dX10_city_18 : decode cX10_city 18 = .ok (.iconst 1, 1) := by decide +kernel
theorem dX10_city_19 : decode cX10_city 19 = .ok (.istore_n 2, 1) := by decide +kernel
theorem dX10_city_20 : decode cX10_city 20 = .ok (.iload_n 2, 1) := by decide +kernel
theorem dX10_city_21 : decode cX10_city 21 = .ok (.ifCond .eq 57, 3) := by decide +kernel
theorem dX10_city_24 : decode cX10_city 24 = .ok (.iload_n 1, 1) := by decide +kernel
theorem dX10_city_25 : decode cX10_city 25 = .ok (.bipush 70, 2) := by decide +kernel
theorem dX10_city_27 : decode cX10_city 27 = .ok (.if_icmp .gt 51, 3) := by decide +kernel
theorem dX10_city_30 : decode cX10_city 30 = .ok (.aload_n 0, 1) := by decide +kernel
theorem dX10_city_31 : decode cX10_city 31 = .ok (.getfield 28, 3) := by decide +kernel
theorem dX10_city_34 : decode cX10_city 34 = .ok (.invokevirtual 112, 3) := by decide +kernel
theorem dX10_city_37 : decode cX10_city 37 = .ok (.ifCond .eq 41, 3) := by decide +kernel
theorem dX10_city_40 : decode cX10_city 40 = .ok (.iload_n 1, 1) := by decide +kernel
theorem dX10_city_41 : decode cX10_city 41 = .ok (.bipush 70, 2) := by decide +kernel
theorem dX10_city_43 : decode cX10_city 43 = .ok (.if_icmp .ge 13, 3) := by decide +kernel
theorem dX10_city_46 : decode cX10_city 46 = .ok (.aload_n 0, 1) := by decide +kernel
theorem dX10_city_47 : decode cX10_city 47 = .ok (.getfield 28, 3) := by decide +kernel
theorem dX10_city_50 : decode cX10_city 50 = .ok (.invokevirtual 116, 3) := by decide +kernel
theorem dX10_city_53 : decode cX10_city 53 = .ok (.goto 18, 3) := by decide +kernel
theorem dX10_city_56 : decode cX10_city 56 = .ok (.aload_n 0, 1) := by decide +kernel
theorem dX10_city_57 : decode cX10_city 57 = .ok (.getfield 28, 3) := by decide +kernel
theorem dX10_city_60 : decode cX10_city 60 = .ok (.iconst 5, 1) := by decide +kernel
theorem dX10_city_61 : decode cX10_city 61 = .ok (.aload_n 0, 1) := by decide +kernel
theorem dX10_city_62 : decode cX10_city 62 = .ok (.getfield 28, 3) := by decide +kernel
theorem dX10_city_65 : decode cX10_city 65 = .ok (.getfield 119, 3) := by decide +kernel
theorem dX10_city_68 : decode cX10_city 68 = .ok (.invokevirtual 122, 3) := by decide +kernel
theorem dX10_city_71 : decode cX10_city 71 = .ok (.istore_n 2, 1) := by decide +kernel
theorem dX10_city_72 : decode cX10_city 72 = .ok (.iinc 1 1, 3) := by decide +kernel
theorem dX10_city_75 : decode cX10_city 75 = .ok (.goto (-55), 3) := by decide +kernel
theorem dX10_city_78 : decode cX10_city 78 = .ok (.aload_n 0, 1) := by decide +kernel
theorem dX10_city_79 : decode cX10_city 79 = .ok (.aload_n 0, 1) := by decide +kernel
theorem dX10_city_80 : decode cX10_city 80 = .ok (.getfield 28, 3) := by decide +kernel
theorem dX10_city_83 : decode cX10_city 83 = .ok (.getfield 126, 3) := by decide +kernel
theorem dX10_city_86 : decode cX10_city 86 = .ok (.putfield 129, 3) := by decide +kernel
theorem dX10_city_89 : decode cX10_city 89 = .ok (.aload_n 0, 1) := by decide +kernel
theorem dX10_city_90 : decode cX10_city 90 = .ok (.aload_n 0, 1) := by decide +kernel
theorem dX10_city_91 : decode cX10_city 91 = .ok (.getfield 28, 3) := by decide +kernel
theorem dX10_city_94 : decode cX10_city 94 = .ok (.getfield 130, 3) := by decide +kernel
theorem dX10_city_97 : decode cX10_city 97 = .ok (.putfield 92, 3) := by decide +kernel
theorem dX10_city_100 : decode cX10_city 100 = .ok (.iload_n 2, 1) := by decide +kernel
theorem dX10_city_101 : decode cX10_city 101 = .ok (.ifCond .ne 5, 3) := by decide +kernel
theorem dX10_city_104 : decode cX10_city 104 = .ok (.iconst (-1), 1) := by decide +kernel
theorem dX10_city_105 : decode cX10_city 105 = .ok (.ireturn, 1) := by decide +kernel
theorem dX10_city_106 : decode cX10_city 106 = .ok (.aload_n 0, 1) := by decide +kernel
theorem dX10_city_107 : decode cX10_city 107 = .ok (.getfield 16, 3) := by decide +kernel
theorem dX10_city_110 : decode cX10_city 110 = .ok (.invokevirtual 131, 3) := by decide +kernel
theorem dX10_city_113 : decode cX10_city 113 = .ok (.aload_n 0, 1) := by decide +kernel
theorem dX10_city_114 : decode cX10_city 114 = .ok (.getfield 10, 3) := by decide +kernel
theorem dX10_city_117 : decode cX10_city 117 = .ok (.aload_n 0, 1) := by decide +kernel
theorem dX10_city_118 : decode cX10_city 118 = .ok (.getfield 16, 3) := by decide +kernel
theorem dX10_city_121 : decode cX10_city 121 = .ok (.invokevirtual 134, 3) := by decide +kernel
theorem dX10_city_124 : decode cX10_city 124 = .ok (.aload_n 0, 1) := by decide +kernel
theorem dX10_city_125 : decode cX10_city 125 = .ok (.getfield 37, 3) := by decide +kernel
theorem dX10_city_128 : decode cX10_city 128 = .ok (.invokevirtual 99, 3) := by decide +kernel
theorem dX10_city_131 : decode cX10_city 131 = .ok (.aload_n 0, 1) := by decide +kernel
theorem dX10_city_132 : decode cX10_city 132 = .ok (.getfield 51, 3) := by decide +kernel
theorem dX10_city_135 : decode cX10_city 135 = .ok (.invokevirtual 137, 3) := by decide +kernel
theorem dX10_city_138 : decode cX10_city 138 = .ok (.iload_n 1, 1) := by decide +kernel
theorem dX10_city_139 : decode cX10_city 139 = .ok (.ireturn, 1) := by decide +kernel
theorem dX10_clash_0 : decode cX10_clash 0 = .ok (.iload_n 1, 1) := by decide +kernel
theorem dX10_clash_1 : decode cX10_clash 1 = .ok (.ifCond .lt 8, 3) := by decide +kernel
theorem dX10_clash_4 : decode cX10_clash 4 = .ok (.iload_n 1, 1) := by decide +kernel
theorem dX10_clash_5 : decode cX10_clash 5 = .ok (.iconst 3, 1) := by decide +kernel
theorem dX10_clash_6 : decode cX10_clash 6 = .ok (.if_icmp .le 7, 3) := by decide +kernel
theorem dX10_clash_9 : decode cX10_clash 9 = .ok (.iconst (-1), 1) := by decide +kernel
theorem dX10_clash_10 : decode cX10_clash 10 = .ok (.goto 11, 3) := by decide +kernel
theorem dX10_clash_13 : decode cX10_clash 13 = .ok (.aload_n 0, 1) := by decide +kernel
theorem dX10_clash_14 : decode cX10_clash 14 = .ok (.getfield 60, 3) := by decide +kernel
theorem dX10_clash_17 : decode cX10_clash 17 = .ok (.iload_n 1, 1) := by decide +kernel
theorem dX10_clash_18 : decode cX10_clash 18 = .ok (.invokevirtual 234, 3) := by decide +kernel
theorem dX10_clash_21 : decode cX10_clash 21 = .ok (.ireturn, 1) := by decide +kernel
theorem dX10_clashes_0 : decode cX10_clashes 0 = .ok (.iload_n 1, 1) := by decide +kernel
theorem dX10_clashes_1 : decode cX10_clashes 1 = .ok (.ifCond .lt 8, 3) := by decide +kernel
theorem dX10_clashes_4 : decode cX10_clashes 4 = .ok (.iload_n 1, 1) := by decide +kernel
theorem dX10_clashes_5 : decode cX10_clashes 5 = .ok (.iconst 1, 1) := by decide +kernel
theorem dX10_clashes_6 : decode cX10_clashes 6 = .ok (.if_icmp .le 7, 3) := by decide +kernel
theorem dX10_clashes_9 : decode cX10_clashes 9 = .ok (.iconst (-1), 1) := by decide +kernel
theorem dX10_clashes_10 : decode cX10_clashes 10 = .ok (.goto 11, 3) := by decide +kernel
theorem dX10_clashes_13 : decode cX10_clashes 13 = .ok (.aload_n 0, 1) := by decide +kernel
theorem dX10_clashes_14 : decode cX10_clashes 14 = .ok (.getfield 60, 3) := by decide +kernel
theorem dX10_clashes_17 : decode cX10_clashes 17 = .ok (.iload_n 1, 1) := by decide +kernel
theorem dX10_clashes_18 : decode cX10_clashes 18 = .ok (.invokevirtual 237, 3) := by decide +kernel
theorem dX10_clashes_21 : decode cX10_clashes 21 = .ok (.ireturn, 1) := by decide +kernel
theorem dX10_clear_0 : decode cX10_clear 0 = .ok (.aload_n 0, 1) := by decide +kernel
theorem dX10_clear_1 : decode cX10_clear 1 = .ok (.iload_n 1, 1) := by decide +kernel
theorem dX10_clear_2 : decode cX10_clear 2 = .ok (.invokevirtual 184, 3) := by decide +kernel
theorem dX10_clear_5 : decode cX10_clear 5 = .ok (.ifCond .eq 18, 3) := by decide +kernel
theorem dX10_clear_8 : decode cX10_clear 8 = .ok (.aload_n 0, 1) := by decide +kernel
theorem dX10_clear_9 : decode cX10_clear 9 = .ok (.getfield 37, 3) := by decide +kernel
theorem dX10_clear_12 : decode cX10_clear 12 = .ok (.iload_n 1, 1) := by decide +kernel
theorem dX10_clear_13 : decode cX10_clear 13 = .ok (.invokevirtual 212, 3) := by decide +kernel
theorem dX10_clear_16 : decode cX10_clear 16 = .ok (.ifCond .eq 7, 3) := by decide +kernel
theorem dX10_clear_19 : decode cX10_clear 19 = .ok (.iconst 1, 1) := by decide +kernel
theorem dX10_clear_20 : decode cX10_clear 20 = .ok (.goto 4, 3) := by decide +kernel
theorem dX10_clear_23 : decode cX10_clear 23 = .ok (.iconst 0, 1) := by decide +kernel
theorem dX10_clear_24 : decode cX10_clear 24 = .ok (.ireturn, 1) := by decide +kernel
theorem dX10_dawn_0 : decode cX10_dawn 0 = .ok (.iload_n 1, 1) := by decide +kernel
theorem dX10_dawn_1 : decode cX10_dawn 1 = .ok (.ifCond .lt 26, 3) := by decide +kernel
theorem dX10_dawn_4 : decode cX10_dawn 4 = .ok (.iload_n 1, 1) := by decide +kernel
theorem dX10_dawn_5 : decode cX10_dawn 5 = .ok (.iconst 1, 1) := by decide +kernel
theorem dX10_dawn_6 : decode cX10_dawn 6 = .ok (.aload_n 0, 1) := by decide +kernel
theorem dX10_dawn_7 : decode cX10_dawn 7 = .ok (.getfield 10, 3) := by decide +kernel
theorem dX10_dawn_10 : decode cX10_dawn 10 = .ok (.getfield 140, 3) := by decide +kernel
theorem dX10_dawn_13 : decode cX10_dawn 13 = .ok (.iconst 1, 1) := by decide +kernel
theorem dX10_dawn_14 : decode cX10_dawn 14 = .ok (.iaload, 1) := by decide +kernel
theorem dX10_dawn_15 : decode cX10_dawn 15 = .ok (.ishl, 1) := by decide +kernel
theorem dX10_dawn_16 : decode cX10_dawn 16 = .ok (.if_icmp .ge 11, 3) := by decide +kernel
theorem dX10_dawn_19 : decode cX10_dawn 19 = .ok (.aload_n 0, 1) := by decide +kernel
theorem dX10_dawn_20 : decode cX10_dawn 20 = .ok (.iload_n 2, 1) := by decide +kernel
theorem dX10_dawn_21 : decode cX10_dawn 21 = .ok (.invokevirtual 218, 3) := by decide +kernel
theorem dX10_dawn_24 : decode cX10_dawn 24 = .ok (.ifCond .ne 5, 3) := by decide +kernel
theorem dX10_dawn_27 : decode cX10_dawn 27 = .ok (.iconst (-1), 1) := by decide +kernel
theorem dX10_dawn_28 : decode cX10_dawn 28 = .ok (.ireturn, 1) := by decide +kernel
theorem dX10_dawn_29 : decode cX10_dawn 29 = .ok (.iload_n 3, 1) := by decide +kernel
theorem dX10_dawn_30 : decode cX10_dawn 30 = .ok (.ifCond .lt 21, 3) := by decide +kernel
theorem dX10_dawn_33 : decode cX10_dawn 33 = .ok (.iload_n 3, 1) := by decide +kernel
theorem dX10_dawn_34 : decode cX10_dawn 34 = .ok (.iconst 2, 1) := by decide +kernel
theorem dX10_dawn_35 : decode cX10_dawn 35 = .ok (.if_icmp .gt 16, 3) := by decide +kernel
theorem dX10_dawn_38 : decode cX10_dawn 38 = .ok (.aload_n 0, 1) := by decide +kernel
theorem dX10_dawn_39 : decode cX10_dawn 39 = .ok (.getfield 10, 3) := by decide +kernel
theorem dX10_dawn_42 : decode cX10_dawn 42 = .ok (.getfield 140, 3) := by decide +kernel
theorem dX10_dawn_45 : decode cX10_dawn 45 = .ok (.iconst 2, 1) := by decide +kernel
theorem dX10_dawn_46 : decode cX10_dawn 46 = .ok (.iaload, 1) := by decide +kernel
theorem dX10_dawn_47 : decode cX10_dawn 47 = .ok (.iconst 3, 1) := by decide +kernel
theorem dX10_dawn_48 : decode cX10_dawn 48 = .ok (.if_icmp .le 5, 3) := by decide +kernel
theorem dX10_dawn_51 : decode cX10_dawn 51 = .ok (.iconst (-1), 1) := by decide +kernel
theorem dX10_dawn_52 : decode cX10_dawn 52 = .ok (.ireturn, 1) := by decide +kernel
theorem dX10_dawn_53 : decode cX10_dawn 53 = .ok (.aload_n 0, 1) := by decide +kernel
theorem dX10_dawn_54 : decode cX10_dawn 54 = .ok (.getfield 85, 3) := by decide +kernel
theorem dX10_dawn_57 : decode cX10_dawn 57 = .ok (.iload_n 1, 1) := by decide +kernel
theorem dX10_dawn_58 : decode cX10_dawn 58 = .ok (.iload_n 2, 1) := by decide +kernel
theorem dX10_dawn_59 : decode cX10_dawn 59 = .ok (.invokevirtual 311, 3) := by decide +kernel
theorem dX10_dawn_62 : decode cX10_dawn 62 = .ok (.iload_n 3, 1) := by decide +kernel
theorem dX10_dawn_63 : decode cX10_dawn 63 = .ok (.lookupswitch 55 #[(0, 25), (1, 33)], 25) := by decide +kernel
theorem dX10_dawn_88 : decode cX10_dawn 88 = .ok (.aload_n 0, 1) := by decide +kernel
theorem dX10_dawn_89 : decode cX10_dawn 89 = .ok (.getfield 85, 3) := by decide +kernel
theorem dX10_dawn_92 : decode cX10_dawn 92 = .ok (.getfield 315, 3) := by decide +kernel
theorem dX10_dawn_95 : decode cX10_dawn 95 = .ok (.ireturn, 1) := by decide +kernel
theorem dX10_dawn_96 : decode cX10_dawn 96 = .ok (.aload_n 0, 1) := by decide +kernel
theorem dX10_dawn_97 : decode cX10_dawn 97 = .ok (.getfield 85, 3) := by decide +kernel
theorem dX10_dawn_100 : decode cX10_dawn 100 = .ok (.getfield 315, 3) := by decide +kernel
theorem dX10_dawn_103 : decode cX10_dawn 103 = .ok (.ifCond .ne 7, 3) := by decide +kernel
theorem dX10_dawn_106 : decode cX10_dawn 106 = .ok (.iconst 0, 1) := by decide +kernel
theorem dX10_dawn_107 : decode cX10_dawn 107 = .ok (.goto 10, 3) := by decide +kernel
theorem dX10_dawn_110 : decode cX10_dawn 110 = .ok (.aload_n 0, 1) := by decide +kernel
theorem dX10_dawn_111 : decode cX10_dawn 111 = .ok (.getfield 85, 3) := by decide +kernel
theorem dX10_dawn_114 : decode cX10_dawn 114 = .ok (.getfield 318, 3) := by decide +kernel
theorem dX10_dawn_117 : decode cX10_dawn 117 = .ok (.ireturn, 1) := by decide +kernel
theorem dX10_dawn_118 : decode cX10_dawn 118 = .ok (.aload_n 0, 1) := by decide +kernel
theorem dX10_dawn_119 : decode cX10_dawn 119 = .ok (.getfield 85, 3) := by decide +kernel
theorem dX10_dawn_122 : decode cX10_dawn 122 = .ok (.getfield 315, 3) := by decide +kernel
theorem dX10_dawn_125 : decode cX10_dawn 125 = .ok (.ifCond .ne 7, 3) := by decide +kernel
theorem dX10_dawn_128 : decode cX10_dawn 128 = .ok (.iconst 0, 1) := by decide +kernel
theorem dX10_dawn_129 : decode cX10_dawn 129 = .ok (.goto 17, 3) := by decide +kernel
theorem dX10_dawn_132 : decode cX10_dawn 132 = .ok (.aload_n 0, 1) := by decide +kernel
theorem dX10_dawn_133 : decode cX10_dawn 133 = .ok (.invokevirtual 283, 3) := by decide +kernel
theorem dX10_dawn_136 : decode cX10_dawn 136 = .ok (.aload_n 0, 1) := by decide +kernel
theorem dX10_dawn_137 : decode cX10_dawn 137 = .ok (.getfield 85, 3) := by decide +kernel
theorem dX10_dawn_140 : decode cX10_dawn 140 = .ok (.getfield 321, 3) := by decide +kernel
theorem dX10_dawn_143 : decode cX10_dawn 143 = .ok (.iconst (-1), 1) := by decide +kernel
theorem dX10_dawn_144 : decode cX10_dawn 144 = .ok (.ixor, 1) := by decide +kernel
theorem dX10_dawn_145 : decode cX10_dawn 145 = .ok (.iand, 1) := by decide +kernel
theorem dX10_dawn_146 : decode cX10_dawn 146 = .ok (.ireturn, 1) := by decide +kernel
theorem dX10_end_0 : decode cX10_end 0 = .ok (.iload_n 1, 1) := by decide +kernel
theorem dX10_end_1 : decode cX10_end 1 = .ok (.ifCond .lt 11, 3) := by decide +kernel
theorem dX10_end_4 : decode cX10_end 4 = .ok (.iload_n 1, 1) := by decide +kernel
theorem dX10_end_5 : decode cX10_end 5 = .ok (.aload_n 0, 1) := by decide +kernel
theorem dX10_end_6 : decode cX10_end 6 = .ok (.getfield 102, 3) := by decide +kernel
theorem dX10_end_9 : decode cX10_end 9 = .ok (.if_icmp .le 5, 3) := by decide +kernel
theorem dX10_end_12 : decode cX10_end 12 = .ok (.iconst 0, 1) := by decide +kernel
theorem dX10_end_13 : decode cX10_end 13 = .ok (.ireturn, 1) := by decide +kernel
theorem dX10_end_14 : decode cX10_end 14 = .ok (.aload_n 0, 1) := by decide +kernel
theorem dX10_end_15 : decode cX10_end 15 = .ok (.iload_n 1, 1) := by decide +kernel
theorem dX10_end_16 : decode cX10_end 16 = .ok (.putfield 102, 3) := by decide +kernel
theorem dX10_end_19 : decode cX10_end 19 = .ok (.iconst 1, 1) := by decide +kernel
theorem dX10_end_20 : decode cX10_end 20 = .ok (.ireturn, 1) := by decide +kernel
theorem dX10_fault_0 : decode cX10_fault 0 = .ok (.iload_n 1, 1) := by decide +kernel
theorem dX10_fault_1 : decode cX10_fault 1 = .ok (.lookupswitch 37 #[(0, 27), (1, 32)], 27) := by decide +kernel
theorem dX10_fault_28 : decode cX10_fault 28 = .ok (.aload_n 0, 1) := by decide +kernel
theorem dX10_fault_29 : decode cX10_fault 29 = .ok (.getfield 129, 3) := by decide +kernel
theorem dX10_fault_32 : decode cX10_fault 32 = .ok (.ireturn, 1) := by decide +kernel
theorem dX10_fault_33 : decode cX10_fault 33 = .ok (.aload_n 0, 1) := by decide +kernel
theorem dX10_fault_34 : decode cX10_fault 34 = .ok (.getfield 92, 3) := by decide +kernel
theorem dX10_fault_37 : decode cX10_fault 37 = .ok (.ireturn, 1) := by decide +kernel
theorem dX10_fault_38 : decode cX10_fault 38 = .ok (.iconst (-1), 1) := by decide +kernel
theorem dX10_fault_39 : decode cX10_fault 39 = .ok (.ireturn, 1) := by decide +kernel
theorem dX10_feed_0 : decode cX10_feed 0 = .ok (.aload_n 0, 1) := by decide +kernel
theorem dX10_feed_1 : decode cX10_feed 1 = .ok (.getfield 102, 3) := by decide +kernel
theorem dX10_feed_4 : decode cX10_feed 4 = .ok (.bipush 20, 2) := by decide +kernel
theorem dX10_feed_6 : decode cX10_feed 6 = .ok (.iadd, 1) := by decide +kernel
theorem dX10_feed_7 : decode cX10_feed 7 = .ok (.sipush 1600, 3) := by decide +kernel
theorem dX10_feed_10 : decode cX10_feed 10 = .ok (.if_icmp .le 5, 3) := by decide +kernel
theorem dX10_feed_13 : decode cX10_feed 13 = .ok (.iconst (-1), 1) := by decide +kernel
theorem dX10_feed_14 : decode cX10_feed 14 = .ok (.ireturn, 1) := by decide +kernel
theorem dX10_feed_15 : decode cX10_feed 15 = .ok (.aload_n 0, 1) := by decide +kernel
theorem dX10_feed_16 : decode cX10_feed 16 = .ok (.iload_n 1, 1) := by decide +kernel
theorem dX10_feed_17 : decode cX10_feed 17 = .ok (.invokevirtual 105, 3) := by decide +kernel
theorem dX10_feed_20 : decode cX10_feed 20 = .ok (.aload_n 0, 1) := by decide +kernel
theorem dX10_feed_21 : decode cX10_feed 21 = .ok (.iload_n 2, 1) := by decide +kernel
theorem dX10_feed_22 : decode cX10_feed 22 = .ok (.invokevirtual 105, 3) := by decide +kernel
theorem dX10_feed_25 : decode cX10_feed 25 = .ok (.aload_n 0, 1) := by decide +kernel
theorem dX10_feed_26 : decode cX10_feed 26 = .ok (.iload_n 3, 1) := by decide +kernel
theorem dX10_feed_27 : decode cX10_feed 27 = .ok (.invokevirtual 105, 3) := by decide +kernel
theorem dX10_feed_30 : decode cX10_feed 30 = .ok (.aload_n 0, 1) := by decide +kernel
theorem dX10_feed_31 : decode cX10_feed 31 = .ok (.iload 4, 2) := by decide +kernel
theorem dX10_feed_33 : decode cX10_feed 33 = .ok (.invokevirtual 105, 3) := by decide +kernel
theorem dX10_feed_36 : decode cX10_feed 36 = .ok (.aload_n 0, 1) := by decide +kernel
theorem dX10_feed_37 : decode cX10_feed 37 = .ok (.iload 5, 2) := by decide +kernel
theorem dX10_feed_39 : decode cX10_feed 39 = .ok (.invokevirtual 105, 3) := by decide +kernel
theorem dX10_feed_42 : decode cX10_feed 42 = .ok (.aload_n 0, 1) := by decide +kernel
theorem dX10_feed_43 : decode cX10_feed 43 = .ok (.getfield 102, 3) := by decide +kernel
theorem dX10_feed_46 : decode cX10_feed 46 = .ok (.ireturn, 1) := by decide +kernel
theorem dX10_go_0 : decode cX10_go 0 = .ok (.aload_n 0, 1) := by decide +kernel
theorem dX10_go_1 : decode cX10_go 1 = .ok (.iload_n 1, 1) := by decide +kernel
theorem dX10_go_2 : decode cX10_go 2 = .ok (.invokevirtual 184, 3) := by decide +kernel
theorem dX10_go_5 : decode cX10_go 5 = .ok (.ifCond .eq 23, 3) := by decide +kernel
theorem dX10_go_8 : decode cX10_go 8 = .ok (.aload_n 0, 1) := by decide +kernel
theorem dX10_go_9 : decode cX10_go 9 = .ok (.iload_n 2, 1) := by decide +kernel
theorem dX10_go_10 : decode cX10_go 10 = .ok (.invokevirtual 178, 3) := by decide +kernel
theorem dX10_go_13 : decode cX10_go 13 = .ok (.ifCond .eq 15, 3) := by decide +kernel
theorem dX10_go_16 : decode cX10_go 16 = .ok (.aload_n 0, 1) := by decide +kernel
theorem dX10_go_17 : decode cX10_go 17 = .ok (.getfield 37, 3) := by decide +kernel
theorem dX10_go_20 : decode cX10_go 20 = .ok (.iload_n 1, 1) := by decide +kernel
theorem dX10_go_21 : decode cX10_go 21 = .ok (.iload_n 2, 1) := by decide +kernel
theorem dX10_go_22 : decode cX10_go 22 = .ok (.invokevirtual 205, 3) := by decide +kernel
theorem dX10_go_25 : decode cX10_go 25 = .ok (.goto 4, 3) := by decide +kernel
theorem dX10_go_28 : decode cX10_go 28 = .ok (.iconst (-1), 1) := by decide +kernel
theorem dX10_go_29 : decode cX10_go 29 = .ok (.ireturn, 1) := by decide +kernel
theorem dX10_has_0 : decode cX10_has 0 = .ok (.iload_n 1, 1) := by decide +kernel
theorem dX10_has_1 : decode cX10_has 1 = .ok (.tableswitch 111 0 9 #[55, 55, 55, 55, 55, 65, 73, 84, 95, 103], 55) := by decide +kernel
theorem dX10_has_56 : decode cX10_has 56 = .ok (.aload_n 0, 1) := by decide +kernel
theorem dX10_has_57 : decode cX10_has 57 = .ok (.getfield 10, 3) := by decide +kernel
theorem dX10_has_60 : decode cX10_has 60 = .ok (.getfield 140, 3) := by decide +kernel
theorem dX10_has_63 : decode cX10_has 63 = .ok (.iload_n 1, 1) := by decide +kernel
theorem dX10_has_64 : decode cX10_has 64 = .ok (.iaload, 1) := by decide +kernel
theorem dX10_has_65 : decode cX10_has 65 = .ok (.ireturn, 1) := by decide +kernel
theorem dX10_has_66 : decode cX10_has 66 = .ok (.aload_n 0, 1) := by decide +kernel
theorem dX10_has_67 : decode cX10_has 67 = .ok (.getfield 10, 3) := by decide +kernel
theorem dX10_has_70 : decode cX10_has 70 = .ok (.getfield 143, 3) := by decide +kernel
theorem dX10_has_73 : decode cX10_has 73 = .ok (.ireturn, 1) := by decide +kernel
theorem dX10_has_74 : decode cX10_has 74 = .ok (.aload_n 0, 1) := by decide +kernel
theorem dX10_has_75 : decode cX10_has 75 = .ok (.getfield 10, 3) := by decide +kernel
theorem dX10_has_78 : decode cX10_has 78 = .ok (.getfield 146, 3) := by decide +kernel
theorem dX10_has_81 : decode cX10_has 81 = .ok (.invokestatic 149, 3) := by decide +kernel
theorem dX10_has_84 : decode cX10_has 84 = .ok (.ireturn, 1) := by decide +kernel
theorem dX10_has_85 : decode cX10_has 85 = .ok (.aload_n 0, 1) := by decide +kernel
theorem dX10_has_86 : decode cX10_has 86 = .ok (.getfield 37, 3) := by decide +kernel
theorem dX10_has_89 : decode cX10_has 89 = .ok (.invokevirtual 155, 3) := by decide +kernel
theorem dX10_has_92 : decode cX10_has 92 = .ok (.invokestatic 149, 3) := by decide +kernel
theorem dX10_has_95 : decode cX10_has 95 = .ok (.ireturn, 1) := by decide +kernel
theorem dX10_has_96 : decode cX10_has 96 = .ok (.aload_n 0, 1) := by decide +kernel
theorem dX10_has_97 : decode cX10_has 97 = .ok (.getfield 37, 3) := by decide +kernel
theorem dX10_has_100 : decode cX10_has 100 = .ok (.invokevirtual 159, 3) := by decide +kernel
theorem dX10_has_103 : decode cX10_has 103 = .ok (.ireturn, 1) := by decide +kernel
theorem dX10_has_104 : decode cX10_has 104 = .ok (.aload_n 0, 1) := by decide +kernel
theorem dX10_has_105 : decode cX10_has 105 = .ok (.getfield 37, 3) := by decide +kernel
theorem dX10_has_108 : decode cX10_has 108 = .ok (.getfield 162, 3) := by decide +kernel
theorem dX10_has_111 : decode cX10_has 111 = .ok (.ireturn, 1) := by decide +kernel
theorem dX10_has_112 : decode cX10_has 112 = .ok (.iconst (-1), 1) := by decide +kernel
theorem dX10_has_113 : decode cX10_has 113 = .ok (.ireturn, 1) := by decide +kernel
theorem dX10_image_0 : decode cX10_image 0 = .ok (.aload_n 0, 1) := by decide +kernel
theorem dX10_image_1 : decode cX10_image 1 = .ok (.aload_n 0, 1) := by decide +kernel
theorem dX10_image_2 : decode cX10_image 2 = .ok (.getfield 37, 3) := by decide +kernel
theorem dX10_image_5 : decode cX10_image 5 = .ok (.aload_n 0, 1) := by decide +kernel
theorem dX10_image_6 : decode cX10_image 6 = .ok (.getfield 89, 3) := by decide +kernel
theorem dX10_image_9 : decode cX10_image 9 = .ok (.invokevirtual 324, 3) := by decide +kernel
theorem dX10_image_12 : decode cX10_image 12 = .ok (.putfield 328, 3) := by decide +kernel
theorem dX10_image_15 : decode cX10_image 15 = .ok (.aload_n 0, 1) := by decide +kernel
theorem dX10_image_16 : decode cX10_image 16 = .ok (.getfield 328, 3) := by decide +kernel
theorem dX10_image_19 : decode cX10_image 19 = .ok (.ireturn, 1) := by decide +kernel
theorem dX10_init_0 : decode cX10_init 0 = .ok (.aload_n 0, 1) := by decide +kernel
theorem dX10_init_1 : decode cX10_init 1 = .ok (.invokespecial 1, 3) := by decide +kernel
theorem dX10_init_4 : decode cX10_init 4 = .ok (.aload_n 0, 1) := by decide +kernel
theorem dX10_init_5 : decode cX10_init 5 = .ok (.new 7, 3) := by decide +kernel
theorem dX10_init_8 : decode cX10_init 8 = .ok (.dup, 1) := by decide +kernel
theorem dX10_init_9 : decode cX10_init 9 = .ok (.invokespecial 9, 3) := by decide +kernel
theorem dX10_init_12 : decode cX10_init 12 = .ok (.putfield 10, 3) := by decide +kernel
theorem dX10_init_15 : decode cX10_init 15 = .ok (.aload_n 0, 1) := by decide +kernel
theorem dX10_init_16 : decode cX10_init 16 = .ok (.new 7, 3) := by decide +kernel
theorem dX10_init_19 : decode cX10_init 19 = .ok (.dup, 1) := by decide +kernel
theorem dX10_init_20 : decode cX10_init 20 = .ok (.invokespecial 9, 3) := by decide +kernel
theorem dX10_init_23 : decode cX10_init 23 = .ok (.putfield 16, 3) := by decide +kernel
theorem dX10_init_26 : decode cX10_init 26 = .ok (.aload_n 0, 1) := by decide +kernel
theorem dX10_init_27 : decode cX10_init 27 = .ok (.sipush 1600, 3) := by decide +kernel
theorem dX10_init_30 : decode cX10_init 30 = .ok (.newarray .int, 2) := by decide +kernel
theorem dX10_init_32 : decode cX10_init 32 = .ok (.putfield 19, 3) := by decide +kernel
theorem dX10_init_35 : decode cX10_init 35 = .ok (.aload_n 0, 1) := by decide +kernel
theorem dX10_init_36 : decode cX10_init 36 = .ok (.new 23, 3) := by decide +kernel
theorem dX10_init_39 : decode cX10_init 39 = .ok (.dup, 1) := by decide +kernel
theorem dX10_init_40 : decode cX10_init 40 = .ok (.aload_n 0, 1) := by decide +kernel
theorem dX10_init_41 : decode cX10_init 41 = .ok (.getfield 16, 3) := by decide +kernel
theorem dX10_init_44 : decode cX10_init 44 = .ok (.aload_n 0, 1) := by decide +kernel
theorem dX10_init_45 : decode cX10_init 45 = .ok (.getfield 19, 3) := by decide +kernel
theorem dX10_init_48 : decode cX10_init 48 = .ok (.invokespecial 25, 3) := by decide +kernel
theorem dX10_init_51 : decode cX10_init 51 = .ok (.putfield 28, 3) := by decide +kernel
theorem dX10_init_54 : decode cX10_init 54 = .ok (.aload_n 0, 1) := by decide +kernel
theorem dX10_init_55 : decode cX10_init 55 = .ok (.new 32, 3) := by decide +kernel
theorem dX10_init_58 : decode cX10_init 58 = .ok (.dup, 1) := by decide +kernel
theorem dX10_init_59 : decode cX10_init 59 = .ok (.aload_n 0, 1) := by decide +kernel
theorem dX10_init_60 : decode cX10_init 60 = .ok (.getfield 10, 3) := by decide +kernel
theorem dX10_init_63 : decode cX10_init 63 = .ok (.invokespecial 34, 3) := by decide +kernel
theorem dX10_init_66 : decode cX10_init 66 = .ok (.putfield 37, 3) := by decide +kernel
theorem dX10_init_69 : decode cX10_init 69 = .ok (.aload_n 0, 1) := by decide +kernel
theorem dX10_init_70 : decode cX10_init 70 = .ok (.new 41, 3) := by decide +kernel
theorem dX10_init_73 : decode cX10_init 73 = .ok (.dup, 1) := by decide +kernel
theorem dX10_init_74 : decode cX10_init 74 = .ok (.aload_n 0, 1) := by decide +kernel
theorem dX10_init_75 : decode cX10_init 75 = .ok (.getfield 10, 3) := by decide +kernel
theorem dX10_init_78 : decode cX10_init 78 = .ok (.invokespecial 43, 3) := by decide +kernel
theorem dX10_init_81 : decode cX10_init 81 = .ok (.putfield 44, 3) := by decide +kernel
theorem dX10_init_84 : decode cX10_init 84 = .ok (.aload_n 0, 1) := by decide +kernel
theorem dX10_init_85 : decode cX10_init 85 = .ok (.new 48, 3) := by decide +kernel
theorem dX10_init_88 : decode cX10_init 88 = .ok (.dup, 1) := by decide +kernel
theorem dX10_init_89 : decode cX10_init 89 = .ok (.aload_n 0, 1) := by decide +kernel
theorem dX10_init_90 : decode cX10_init 90 = .ok (.getfield 10, 3) := by decide +kernel
theorem dX10_init_93 : decode cX10_init 93 = .ok (.invokespecial 50, 3) := by decide +kernel
theorem dX10_init_96 : decode cX10_init 96 = .ok (.putfield 51, 3) := by decide +kernel
theorem dX10_init_99 : decode cX10_init 99 = .ok (.aload_n 0, 1) := by decide +kernel
theorem dX10_init_100 : decode cX10_init 100 = .ok (.new 55, 3) := by decide +kernel
theorem dX10_init_103 : decode cX10_init 103 = .ok (.dup, 1) := by decide +kernel
theorem dX10_init_104 : decode cX10_init 104 = .ok (.aload_n 0, 1) := by decide +kernel
theorem dX10_init_105 : decode cX10_init 105 = .ok (.getfield 10, 3) := by decide +kernel
theorem dX10_init_108 : decode cX10_init 108 = .ok (.aload_n 0, 1) := by decide +kernel
theorem dX10_init_109 : decode cX10_init 109 = .ok (.getfield 37, 3) := by decide +kernel
theorem dX10_init_112 : decode cX10_init 112 = .ok (.aload_n 0, 1) := by decide +kernel
theorem dX10_init_113 : decode cX10_init 113 = .ok (.getfield 44, 3) := by decide +kernel
theorem dX10_init_116 : decode cX10_init 116 = .ok (.aload_n 0, 1) := by decide +kernel
theorem dX10_init_117 : decode cX10_init 117 = .ok (.getfield 51, 3) := by decide +kernel
theorem dX10_init_120 : decode cX10_init 120 = .ok (.invokespecial 57, 3) := by decide +kernel
theorem dX10_init_123 : decode cX10_init 123 = .ok (.putfield 60, 3) := by decide +kernel
theorem dX10_init_126 : decode cX10_init 126 = .ok (.aload_n 0, 1) := by decide +kernel
theorem dX10_init_127 : decode cX10_init 127 = .ok (.new 64, 3) := by decide +kernel
theorem dX10_init_130 : decode cX10_init 130 = .ok (.dup, 1) := by decide +kernel
theorem dX10_init_131 : decode cX10_init 131 = .ok (.aload_n 0, 1) := by decide +kernel
theorem dX10_init_132 : decode cX10_init 132 = .ok (.getfield 10, 3) := by decide +kernel
theorem dX10_init_135 : decode cX10_init 135 = .ok (.aload_n 0, 1) := by decide +kernel
theorem dX10_init_136 : decode cX10_init 136 = .ok (.getfield 37, 3) := by decide +kernel
theorem dX10_init_139 : decode cX10_init 139 = .ok (.aload_n 0, 1) := by decide +kernel
theorem dX10_init_140 : decode cX10_init 140 = .ok (.getfield 44, 3) := by decide +kernel
theorem dX10_init_143 : decode cX10_init 143 = .ok (.aload_n 0, 1) := by decide +kernel
theorem dX10_init_144 : decode cX10_init 144 = .ok (.getfield 51, 3) := by decide +kernel
theorem dX10_init_147 : decode cX10_init 147 = .ok (.invokespecial 66, 3) := by decide +kernel
theorem dX10_init_150 : decode cX10_init 150 = .ok (.putfield 67, 3) := by decide +kernel
theorem dX10_init_153 : decode cX10_init 153 = .ok (.aload_n 0, 1) := by decide +kernel
theorem dX10_init_154 : decode cX10_init 154 = .ok (.new 71, 3) := by decide +kernel
theorem dX10_init_157 : decode cX10_init 157 = .ok (.dup, 1) := by decide +kernel
theorem dX10_init_158 : decode cX10_init 158 = .ok (.aload_n 0, 1) := by decide +kernel
theorem dX10_init_159 : decode cX10_init 159 = .ok (.getfield 10, 3) := by decide +kernel
theorem dX10_init_162 : decode cX10_init 162 = .ok (.aload_n 0, 1) := by decide +kernel
theorem dX10_init_163 : decode cX10_init 163 = .ok (.getfield 37, 3) := by decide +kernel
theorem dX10_init_166 : decode cX10_init 166 = .ok (.aload_n 0, 1) := by decide +kernel
theorem dX10_init_167 : decode cX10_init 167 = .ok (.getfield 67, 3) := by decide +kernel
theorem dX10_init_170 : decode cX10_init 170 = .ok (.invokespecial 73, 3) := by decide +kernel
theorem dX10_init_173 : decode cX10_init 173 = .ok (.putfield 76, 3) := by decide +kernel
theorem dX10_init_176 : decode cX10_init 176 = .ok (.aload_n 0, 1) := by decide +kernel
theorem dX10_init_177 : decode cX10_init 177 = .ok (.new 80, 3) := by decide +kernel
theorem dX10_init_180 : decode cX10_init 180 = .ok (.dup, 1) := by decide +kernel
theorem dX10_init_181 : decode cX10_init 181 = .ok (.aload_n 0, 1) := by decide +kernel
theorem dX10_init_182 : decode cX10_init 182 = .ok (.getfield 10, 3) := by decide +kernel
theorem dX10_init_185 : decode cX10_init 185 = .ok (.aload_n 0, 1) := by decide +kernel
theorem dX10_init_186 : decode cX10_init 186 = .ok (.getfield 67, 3) := by decide +kernel
theorem dX10_init_189 : decode cX10_init 189 = .ok (.invokespecial 82, 3) := by decide +kernel
theorem dX10_init_192 : decode cX10_init 192 = .ok (.putfield 85, 3) := by decide +kernel
theorem dX10_init_195 : decode cX10_init 195 = .ok (.aload_n 0, 1) := by decide +kernel
theorem dX10_init_196 : decode cX10_init 196 = .ok (.bipush 104, 2) := by decide +kernel
theorem dX10_init_198 : decode cX10_init 198 = .ok (.newarray .int, 2) := by decide +kernel
theorem dX10_init_200 : decode cX10_init 200 = .ok (.putfield 89, 3) := by decide +kernel
theorem dX10_init_203 : decode cX10_init 203 = .ok (.aload_n 0, 1) := by decide +kernel
theorem dX10_init_204 : decode cX10_init 204 = .ok (.iconst (-1), 1) := by decide +kernel
theorem dX10_init_205 : decode cX10_init 205 = .ok (.putfield 92, 3) := by decide +kernel
theorem dX10_init_208 : decode cX10_init 208 = .ok (.aload_n 0, 1) := by decide +kernel
theorem dX10_init_209 : decode cX10_init 209 = .ok (.getfield 10, 3) := by decide +kernel
theorem dX10_init_212 : decode cX10_init 212 = .ok (.invokevirtual 96, 3) := by decide +kernel
theorem dX10_init_215 : decode cX10_init 215 = .ok (.aload_n 0, 1) := by decide +kernel
theorem dX10_init_216 : decode cX10_init 216 = .ok (.getfield 37, 3) := by decide +kernel
theorem dX10_init_219 : decode cX10_init 219 = .ok (.invokevirtual 99, 3) := by decide +kernel
theorem dX10_init_222 : decode cX10_init 222 = .ok (.return_, 1) := by decide +kernel
theorem dX10_isCorner_0 : decode cX10_isCorner 0 = .ok (.iload_n 1, 1) := by decide +kernel
theorem dX10_isCorner_1 : decode cX10_isCorner 1 = .ok (.ifCond .lt 20, 3) := by decide +kernel
theorem dX10_isCorner_4 : decode cX10_isCorner 4 = .ok (.iload_n 1, 1) := by decide +kernel
theorem dX10_isCorner_5 : decode cX10_isCorner 5 = .ok (.aload_n 0, 1) := by decide +kernel
theorem dX10_isCorner_6 : decode cX10_isCorner 6 = .ok (.getfield 10, 3) := by decide +kernel
theorem dX10_isCorner_9 : decode cX10_isCorner 9 = .ok (.getfield 140, 3) := by decide +kernel
theorem dX10_isCorner_12 : decode cX10_isCorner 12 = .ok (.iconst 0, 1) := by decide +kernel
theorem dX10_isCorner_13 : decode cX10_isCorner 13 = .ok (.iaload, 1) := by decide +kernel
theorem dX10_isCorner_14 : decode cX10_isCorner 14 = .ok (.if_icmp .ge 7, 3) := by decide +kernel
theorem dX10_isCorner_17 : decode cX10_isCorner 17 = .ok (.iconst 1, 1) := by decide +kernel
theorem dX10_isCorner_18 : decode cX10_isCorner 18 = .ok (.goto 4, 3) := by decide +kernel
theorem dX10_isCorner_21 : decode cX10_isCorner 21 = .ok (.iconst 0, 1) := by decide +kernel
theorem dX10_isCorner_22 : decode cX10_isCorner 22 = .ok (.ireturn, 1) := by decide +kernel
theorem dX10_isLane_0 : decode cX10_isLane 0 = .ok (.iload_n 1, 1) := by decide +kernel
theorem dX10_isLane_1 : decode cX10_isLane 1 = .ok (.ifCond .lt 20, 3) := by decide +kernel
theorem dX10_isLane_4 : decode cX10_isLane 4 = .ok (.iload_n 1, 1) := by decide +kernel
theorem dX10_isLane_5 : decode cX10_isLane 5 = .ok (.aload_n 0, 1) := by decide +kernel
theorem dX10_isLane_6 : decode cX10_isLane 6 = .ok (.getfield 10, 3) := by decide +kernel
theorem dX10_isLane_9 : decode cX10_isLane 9 = .ok (.getfield 140, 3) := by decide +kernel
theorem dX10_isLane_12 : decode cX10_isLane 12 = .ok (.iconst 1, 1) := by decide +kernel
theorem dX10_isLane_13 : decode cX10_isLane 13 = .ok (.iaload, 1) := by decide +kernel
theorem dX10_isLane_14 : decode cX10_isLane 14 = .ok (.if_icmp .ge 7, 3) := by decide +kernel
theorem dX10_isLane_17 : decode cX10_isLane 17 = .ok (.iconst 1, 1) := by decide +kernel
theorem dX10_isLane_18 : decode cX10_isLane 18 = .ok (.goto 4, 3) := by decide +kernel
theorem dX10_isLane_21 : decode cX10_isLane 21 = .ok (.iconst 0, 1) := by decide +kernel
theorem dX10_isLane_22 : decode cX10_isLane 22 = .ok (.ireturn, 1) := by decide +kernel
theorem dX10_isMinute_0 : decode cX10_isMinute 0 = .ok (.iload_n 1, 1) := by decide +kernel
theorem dX10_isMinute_1 : decode cX10_isMinute 1 = .ok (.ifCond .lt 14, 3) := by decide +kernel
theorem dX10_isMinute_4 : decode cX10_isMinute 4 = .ok (.iload_n 1, 1) := by decide +kernel
theorem dX10_isMinute_5 : decode cX10_isMinute 5 = .ok (.sipush 999, 3) := by decide +kernel
theorem dX10_isMinute_8 : decode cX10_isMinute 8 = .ok (.if_icmp .gt 7, 3) := by decide +kernel
theorem dX10_isMinute_11 : decode cX10_isMinute 11 = .ok (.iconst 1, 1) := by decide +kernel
theorem dX10_isMinute_12 : decode cX10_isMinute 12 = .ok (.goto 4, 3) := by decide +kernel
theorem dX10_isMinute_15 : decode cX10_isMinute 15 = .ok (.iconst 0, 1) := by decide +kernel
theorem dX10_isMinute_16 : decode cX10_isMinute 16 = .ok (.ireturn, 1) := by decide +kernel
theorem dX10_isSaint_0 : decode cX10_isSaint 0 = .ok (.iload_n 1, 1) := by decide +kernel
theorem dX10_isSaint_1 : decode cX10_isSaint 1 = .ok (.ifCond .lt 20, 3) := by decide +kernel
theorem dX10_isSaint_4 : decode cX10_isSaint 4 = .ok (.iload_n 1, 1) := by decide +kernel
theorem dX10_isSaint_5 : decode cX10_isSaint 5 = .ok (.aload_n 0, 1) := by decide +kernel
theorem dX10_isSaint_6 : decode cX10_isSaint 6 = .ok (.getfield 10, 3) := by decide +kernel
theorem dX10_isSaint_9 : decode cX10_isSaint 9 = .ok (.getfield 140, 3) := by decide +kernel
theorem dX10_isSaint_12 : decode cX10_isSaint 12 = .ok (.iconst 2, 1) := by decide +kernel
theorem dX10_isSaint_13 : decode cX10_isSaint 13 = .ok (.iaload, 1) := by decide +kernel
theorem dX10_isSaint_14 : decode cX10_isSaint 14 = .ok (.if_icmp .ge 7, 3) := by decide +kernel
theorem dX10_isSaint_17 : decode cX10_isSaint 17 = .ok (.iconst 1, 1) := by decide +kernel
theorem dX10_isSaint_18 : decode cX10_isSaint 18 = .ok (.goto 4, 3) := by decide +kernel
theorem dX10_isSaint_21 : decode cX10_isSaint 21 = .ok (.iconst 0, 1) := by decide +kernel
theorem dX10_isSaint_22 : decode cX10_isSaint 22 = .ok (.ireturn, 1) := by decide +kernel
theorem dX10_lane_0 : decode cX10_lane 0 = .ok (.aload_n 0, 1) := by decide +kernel
theorem dX10_lane_1 : decode cX10_lane 1 = .ok (.iload_n 1, 1) := by decide +kernel
theorem dX10_lane_2 : decode cX10_lane 2 = .ok (.invokevirtual 171, 3) := by decide +kernel
theorem dX10_lane_5 : decode cX10_lane 5 = .ok (.ifCond .eq 12, 3) := by decide +kernel
theorem dX10_lane_8 : decode cX10_lane 8 = .ok (.iload_n 2, 1) := by decide +kernel
theorem dX10_lane_9 : decode cX10_lane 9 = .ok (.ifCond .lt 8, 3) := by decide +kernel
theorem dX10_lane_12 : decode cX10_lane 12 = .ok (.iload_n 2, 1) := by decide +kernel
theorem dX10_lane_13 : decode cX10_lane 13 = .ok (.iconst 4, 1) := by decide +kernel
theorem dX10_lane_14 : decode cX10_lane 14 = .ok (.if_icmp .le 5, 3) := by decide +kernel
theorem dX10_lane_17 : decode cX10_lane 17 = .ok (.iconst (-1), 1) := by decide +kernel
theorem dX10_lane_18 : decode cX10_lane 18 = .ok (.ireturn, 1) := by decide +kernel
theorem dX10_lane_19 : decode cX10_lane 19 = .ok (.iload_n 2, 1) := by decide +kernel
theorem dX10_lane_20 : decode cX10_lane 20 = .ok (.iconst 4, 1) := by decide +kernel
theorem dX10_lane_21 : decode cX10_lane 21 = .ok (.if_icmp .ge 19, 3) := by decide +kernel
theorem dX10_lane_24 : decode cX10_lane 24 = .ok (.aload_n 0, 1) := by decide +kernel
theorem dX10_lane_25 : decode cX10_lane 25 = .ok (.getfield 10, 3) := by decide +kernel
theorem dX10_lane_28 : decode cX10_lane 28 = .ok (.getfield 175, 3) := by decide +kernel
theorem dX10_lane_31 : decode cX10_lane 31 = .ok (.iload_n 1, 1) := by decide +kernel
theorem dX10_lane_32 : decode cX10_lane 32 = .ok (.iconst 4, 1) := by decide +kernel
theorem dX10_lane_33 : decode cX10_lane 33 = .ok (.imul, 1) := by decide +kernel
theorem dX10_lane_34 : decode cX10_lane 34 = .ok (.iload_n 2, 1) := by decide +kernel
theorem dX10_lane_35 : decode cX10_lane 35 = .ok (.iadd, 1) := by decide +kernel
theorem dX10_lane_36 : decode cX10_lane 36 = .ok (.iaload, 1) := by decide +kernel
theorem dX10_lane_37 : decode cX10_lane 37 = .ok (.goto 14, 3) := by decide +kernel
theorem dX10_lane_40 : decode cX10_lane 40 = .ok (.aload_n 0, 1) := by decide +kernel
theorem dX10_lane_41 : decode cX10_lane 41 = .ok (.getfield 37, 3) := by decide +kernel
theorem dX10_lane_44 : decode cX10_lane 44 = .ok (.invokevirtual 155, 3) := by decide +kernel
theorem dX10_lane_47 : decode cX10_lane 47 = .ok (.iload_n 1, 1) := by decide +kernel
theorem dX10_lane_48 : decode cX10_lane 48 = .ok (.ishr, 1) := by decide +kernel
theorem dX10_lane_49 : decode cX10_lane 49 = .ok (.iconst 1, 1) := by decide +kernel
theorem dX10_lane_50 : decode cX10_lane 50 = .ok (.iand, 1) := by decide +kernel
theorem dX10_lane_51 : decode cX10_lane 51 = .ok (.ireturn, 1) := by decide +kernel
theorem dX10_letter_0 : decode cX10_letter 0 = .ok (.iload_n 1, 1) := by decide +kernel
theorem dX10_letter_1 : decode cX10_letter 1 = .ok (.ifCond .lt 18, 3) := by decide +kernel
theorem dX10_letter_4 : decode cX10_letter 4 = .ok (.iload_n 1, 1) := by decide +kernel
theorem dX10_letter_5 : decode cX10_letter 5 = .ok (.iconst 1, 1) := by decide +kernel
theorem dX10_letter_6 : decode cX10_letter 6 = .ok (.if_icmp .gt 13, 3) := by decide +kernel
theorem dX10_letter_9 : decode cX10_letter 9 = .ok (.iload_n 3, 1) := by decide +kernel
theorem dX10_letter_10 : decode cX10_letter 10 = .ok (.ifCond .lt 9, 3) := by decide +kernel
theorem dX10_letter_13 : decode cX10_letter 13 = .ok (.iload_n 3, 1) := by decide +kernel
theorem dX10_letter_14 : decode cX10_letter 14 = .ok (.bipush 6, 2) := by decide +kernel
theorem dX10_letter_16 : decode cX10_letter 16 = .ok (.if_icmp .lt 5, 3) := by decide +kernel
theorem dX10_letter_19 : decode cX10_letter 19 = .ok (.iconst (-1), 1) := by decide +kernel
theorem dX10_letter_20 : decode cX10_letter 20 = .ok (.ireturn, 1) := by decide +kernel
theorem dX10_letter_21 : decode cX10_letter 21 = .ok (.iload_n 2, 1) := by decide +kernel
theorem dX10_letter_22 : decode cX10_letter 22 = .ok (.ifCond .lt 24, 3) := by decide +kernel
theorem dX10_letter_25 : decode cX10_letter 25 = .ok (.iload_n 2, 1) := by decide +kernel
theorem dX10_letter_26 : decode cX10_letter 26 = .ok (.aload_n 0, 1) := by decide +kernel
theorem dX10_letter_27 : decode cX10_letter 27 = .ok (.getfield 10, 3) := by decide +kernel
theorem dX10_letter_30 : decode cX10_letter 30 = .ok (.getfield 140, 3) := by decide +kernel
theorem dX10_letter_33 : decode cX10_letter 33 = .ok (.iload_n 1, 1) := by decide +kernel
theorem dX10_letter_34 : decode cX10_letter 34 = .ok (.ifCond .ne 7, 3) := by decide +kernel
theorem dX10_letter_37 : decode cX10_letter 37 = .ok (.iconst 0, 1) := by decide +kernel
theorem dX10_letter_38 : decode cX10_letter 38 = .ok (.goto 4, 3) := by decide +kernel
theorem dX10_letter_41 : decode cX10_letter 41 = .ok (.iconst 2, 1) := by decide +kernel
theorem dX10_letter_42 : decode cX10_letter 42 = .ok (.iaload, 1) := by decide +kernel
theorem dX10_letter_43 : decode cX10_letter 43 = .ok (.if_icmp .lt 5, 3) := by decide +kernel
theorem dX10_letter_46 : decode cX10_letter 46 = .ok (.iconst (-1), 1) := by decide +kernel
theorem dX10_letter_47 : decode cX10_letter 47 = .ok (.ireturn, 1) := by decide +kernel
theorem dX10_letter_48 : decode cX10_letter 48 = .ok (.iload_n 1, 1) := by decide +kernel
theorem dX10_letter_49 : decode cX10_letter 49 = .ok (.ifCond .ne 13, 3) := by decide +kernel
theorem dX10_letter_52 : decode cX10_letter 52 = .ok (.aload_n 0, 1) := by decide +kernel
theorem dX10_letter_53 : decode cX10_letter 53 = .ok (.getfield 10, 3) := by decide +kernel
theorem dX10_letter_56 : decode cX10_letter 56 = .ok (.getfield 165, 3) := by decide +kernel
theorem dX10_letter_59 : decode cX10_letter 59 = .ok (.goto 10, 3) := by decide +kernel
theorem dX10_letter_62 : decode cX10_letter 62 = .ok (.aload_n 0, 1) := by decide +kernel
theorem dX10_letter_63 : decode cX10_letter 63 = .ok (.getfield 10, 3) := by decide +kernel
theorem dX10_letter_66 : decode cX10_letter 66 = .ok (.getfield 168, 3) := by decide +kernel
theorem dX10_letter_69 : decode cX10_letter 69 = .ok (.iload_n 2, 1) := by decide +kernel
theorem dX10_letter_70 : decode cX10_letter 70 = .ok (.bipush 6, 2) := by decide +kernel
theorem dX10_letter_72 : decode cX10_letter 72 = .ok (.imul, 1) := by decide +kernel
theorem dX10_letter_73 : decode cX10_letter 73 = .ok (.iload_n 3, 1) := by decide +kernel
theorem dX10_letter_74 : decode cX10_letter 74 = .ok (.iadd, 1) := by decide +kernel
theorem dX10_letter_75 : decode cX10_letter 75 = .ok (.iaload, 1) := by decide +kernel
theorem dX10_letter_76 : decode cX10_letter 76 = .ok (.ireturn, 1) := by decide +kernel
theorem dX10_lots_0 : decode cX10_lots 0 = .ok (.aload_n 0, 1) := by decide +kernel
theorem dX10_lots_1 : decode cX10_lots 1 = .ok (.iload_n 1, 1) := by decide +kernel
theorem dX10_lots_2 : decode cX10_lots 2 = .ok (.invokevirtual 184, 3) := by decide +kernel
theorem dX10_lots_5 : decode cX10_lots 5 = .ok (.ifCond .ne 5, 3) := by decide +kernel
theorem dX10_lots_8 : decode cX10_lots 8 = .ok (.iconst (-1), 1) := by decide +kernel
theorem dX10_lots_9 : decode cX10_lots 9 = .ok (.ireturn, 1) := by decide +kernel
theorem dX10_lots_10 : decode cX10_lots 10 = .ok (.iconst 0, 1) := by decide +kernel
theorem dX10_lots_11 : decode cX10_lots 11 = .ok (.istore_n 2, 1) := by decide +kernel
theorem dX10_lots_12 : decode cX10_lots 12 = .ok (.iconst 0, 1) := by decide +kernel
theorem dX10_lots_13 : decode cX10_lots 13 = .ok (.istore_n 3, 1) := by decide +kernel
theorem dX10_lots_14 : decode cX10_lots 14 = .ok (.iload_n 3, 1) := by decide +kernel
theorem dX10_lots_15 : decode cX10_lots 15 = .ok (.sipush 256, 3) := by decide +kernel
theorem dX10_lots_18 : decode cX10_lots 18 = .ok (.if_icmp .ge 34, 3) := by decide +kernel
theorem dX10_lots_21 : decode cX10_lots 21 = .ok (.aload_n 0, 1) := by decide +kernel
theorem dX10_lots_22 : decode cX10_lots 22 = .ok (.getfield 76, 3) := by decide +kernel
theorem dX10_lots_25 : decode cX10_lots 25 = .ok (.iload_n 3, 1) := by decide +kernel
theorem dX10_lots_26 : decode cX10_lots 26 = .ok (.invokevirtual 305, 3) := by decide +kernel
theorem dX10_lots_29 : decode cX10_lots 29 = .ok (.ifCond .eq 17, 3) := by decide +kernel
theorem dX10_lots_32 : decode cX10_lots 32 = .ok (.aload_n 0, 1) := by decide +kernel
theorem dX10_lots_33 : decode cX10_lots 33 = .ok (.getfield 76, 3) := by decide +kernel
theorem dX10_lots_36 : decode cX10_lots 36 = .ok (.iload_n 1, 1) := by decide +kernel
theorem dX10_lots_37 : decode cX10_lots 37 = .ok (.invokevirtual 308, 3) := by decide +kernel
theorem dX10_lots_40 : decode cX10_lots 40 = .ok (.ifCond .eq 6, 3) := by decide +kernel
theorem dX10_lots_43 : decode cX10_lots 43 = .ok (.iinc 2 1, 3) := by decide +kernel
theorem dX10_lots_46 : decode cX10_lots 46 = .ok (.iinc 3 1, 3) := by decide +kernel
theorem dX10_lots_49 : decode cX10_lots 49 = .ok (.goto (-35), 3) := by decide +kernel
theorem dX10_lots_52 : decode cX10_lots 52 = .ok (.iload_n 2, 1) := by decide +kernel
theorem dX10_lots_53 : decode cX10_lots 53 = .ok (.ireturn, 1) := by decide +kernel
theorem dX10_meet_0 : decode cX10_meet 0 = .ok (.aload_n 0, 1) := by decide +kernel
theorem dX10_meet_1 : decode cX10_meet 1 = .ok (.iload_n 1, 1) := by decide +kernel
theorem dX10_meet_2 : decode cX10_meet 2 = .ok (.invokevirtual 184, 3) := by decide +kernel
theorem dX10_meet_5 : decode cX10_meet 5 = .ok (.ifCond .eq 16, 3) := by decide +kernel
theorem dX10_meet_8 : decode cX10_meet 8 = .ok (.aload_n 0, 1) := by decide +kernel
theorem dX10_meet_9 : decode cX10_meet 9 = .ok (.iload_n 2, 1) := by decide +kernel
theorem dX10_meet_10 : decode cX10_meet 10 = .ok (.invokevirtual 184, 3) := by decide +kernel
theorem dX10_meet_13 : decode cX10_meet 13 = .ok (.ifCond .eq 8, 3) := by decide +kernel
theorem dX10_meet_16 : decode cX10_meet 16 = .ok (.iload_n 1, 1) := by decide +kernel
theorem dX10_meet_17 : decode cX10_meet 17 = .ok (.iload_n 2, 1) := by decide +kernel
theorem dX10_meet_18 : decode cX10_meet 18 = .ok (.if_icmp .ne 5, 3) := by decide +kernel
theorem dX10_meet_21 : decode cX10_meet 21 = .ok (.iconst (-1), 1) := by decide +kernel
theorem dX10_meet_22 : decode cX10_meet 22 = .ok (.ireturn, 1) := by decide +kernel
theorem dX10_meet_23 : decode cX10_meet 23 = .ok (.aload_n 0, 1) := by decide +kernel
theorem dX10_meet_24 : decode cX10_meet 24 = .ok (.getfield 60, 3) := by decide +kernel
theorem dX10_meet_27 : decode cX10_meet 27 = .ok (.iload_n 1, 1) := by decide +kernel
theorem dX10_meet_28 : decode cX10_meet 28 = .ok (.iload_n 2, 1) := by decide +kernel
theorem dX10_meet_29 : decode cX10_meet 29 = .ok (.invokestatic 240, 3) := by decide +kernel
theorem dX10_meet_32 : decode cX10_meet 32 = .ok (.iload_n 1, 1) := by decide +kernel
theorem dX10_meet_33 : decode cX10_meet 33 = .ok (.iload_n 2, 1) := by decide +kernel
theorem dX10_meet_34 : decode cX10_meet 34 = .ok (.invokestatic 245, 3) := by decide +kernel
theorem dX10_meet_37 : decode cX10_meet 37 = .ok (.invokevirtual 248, 3) := by decide +kernel
theorem dX10_meet_40 : decode cX10_meet 40 = .ok (.ireturn, 1) := by decide +kernel
theorem dX10_mend_0 : decode cX10_mend 0 = .ok (.aload_n 0, 1) := by decide +kernel
theorem dX10_mend_1 : decode cX10_mend 1 = .ok (.getfield 76, 3) := by decide +kernel
theorem dX10_mend_4 : decode cX10_mend 4 = .ok (.aload_n 0, 1) := by decide +kernel
theorem dX10_mend_5 : decode cX10_mend 5 = .ok (.invokevirtual 283, 3) := by decide +kernel
theorem dX10_mend_8 : decode cX10_mend 8 = .ok (.iconst 1, 1) := by decide +kernel
theorem dX10_mend_9 : decode cX10_mend 9 = .ok (.invokevirtual 286, 3) := by decide +kernel
theorem dX10_mend_12 : decode cX10_mend 12 = .ok (.iconst (-1), 1) := by decide +kernel
theorem dX10_mend_13 : decode cX10_mend 13 = .ok (.if_icmp .ne 5, 3) := by decide +kernel
theorem dX10_mend_16 : decode cX10_mend 16 = .ok (.iconst (-1), 1) := by decide +kernel
theorem dX10_mend_17 : decode cX10_mend 17 = .ok (.ireturn, 1) := by decide +kernel
theorem dX10_mend_18 : decode cX10_mend 18 = .ok (.aload_n 0, 1) := by decide +kernel
theorem dX10_mend_19 : decode cX10_mend 19 = .ok (.getfield 37, 3) := by decide +kernel
theorem dX10_mend_22 : decode cX10_mend 22 = .ok (.invokevirtual 293, 3) := by decide +kernel
theorem dX10_mend_25 : decode cX10_mend 25 = .ok (.aload_n 0, 1) := by decide +kernel
theorem dX10_mend_26 : decode cX10_mend 26 = .ok (.getfield 76, 3) := by decide +kernel
theorem dX10_mend_29 : decode cX10_mend 29 = .ok (.invokevirtual 299, 3) := by decide +kernel
theorem dX10_mend_32 : decode cX10_mend 32 = .ok (.istore_n 1, 1) := by decide +kernel
theorem dX10_mend_33 : decode cX10_mend 33 = .ok (.iload_n 1, 1) := by decide +kernel
theorem dX10_mend_34 : decode cX10_mend 34 = .ok (.ifCond .le 10, 3) := by decide +kernel
theorem dX10_mend_37 : decode cX10_mend 37 = .ok (.aload_n 0, 1) := by decide +kernel
theorem dX10_mend_38 : decode cX10_mend 38 = .ok (.getfield 37, 3) := by decide +kernel
theorem dX10_mend_41 : decode cX10_mend 41 = .ok (.invokevirtual 296, 3) := by decide +kernel
theorem dX10_mend_44 : decode cX10_mend 44 = .ok (.iload_n 1, 1) := by decide +kernel
theorem dX10_mend_45 : decode cX10_mend 45 = .ok (.ireturn, 1) := by decide +kernel
theorem dX10_octet_0 : decode cX10_octet 0 = .ok (.iload_n 1, 1) := by decide +kernel
theorem dX10_octet_1 : decode cX10_octet 1 = .ok (.ifCond .lt 11, 3) := by decide +kernel
theorem dX10_octet_4 : decode cX10_octet 4 = .ok (.iload_n 1, 1) := by decide +kernel
theorem dX10_octet_5 : decode cX10_octet 5 = .ok (.aload_n 0, 1) := by decide +kernel
theorem dX10_octet_6 : decode cX10_octet 6 = .ok (.getfield 328, 3) := by decide +kernel
theorem dX10_octet_9 : decode cX10_octet 9 = .ok (.if_icmp .lt 7, 3) := by decide +kernel
theorem dX10_octet_12 : decode cX10_octet 12 = .ok (.iconst (-1), 1) := by decide +kernel
theorem dX10_octet_13 : decode cX10_octet 13 = .ok (.goto 9, 3) := by decide +kernel
theorem dX10_octet_16 : decode cX10_octet 16 = .ok (.aload_n 0, 1) := by decide +kernel
theorem dX10_octet_17 : decode cX10_octet 17 = .ok (.getfield 89, 3) := by decide +kernel
theorem dX10_octet_20 : decode cX10_octet 20 = .ok (.iload_n 1, 1) := by decide +kernel
theorem dX10_octet_21 : decode cX10_octet 21 = .ok (.iaload, 1) := by decide +kernel
theorem dX10_octet_22 : decode cX10_octet 22 = .ok (.ireturn, 1) := by decide +kernel
theorem dX10_on_0 : decode cX10_on 0 = .ok (.aload_n 0, 1) := by decide +kernel
theorem dX10_on_1 : decode cX10_on 1 = .ok (.iload_n 1, 1) := by decide +kernel
theorem dX10_on_2 : decode cX10_on 2 = .ok (.invokevirtual 184, 3) := by decide +kernel
theorem dX10_on_5 : decode cX10_on 5 = .ok (.ifCond .eq 27, 3) := by decide +kernel
theorem dX10_on_8 : decode cX10_on 8 = .ok (.aload_n 0, 1) := by decide +kernel
theorem dX10_on_9 : decode cX10_on 9 = .ok (.iload_n 2, 1) := by decide +kernel
theorem dX10_on_10 : decode cX10_on 10 = .ok (.invokevirtual 218, 3) := by decide +kernel
theorem dX10_on_13 : decode cX10_on 13 = .ok (.ifCond .eq 19, 3) := by decide +kernel
theorem dX10_on_16 : decode cX10_on 16 = .ok (.aload_n 0, 1) := by decide +kernel
theorem dX10_on_17 : decode cX10_on 17 = .ok (.getfield 37, 3) := by decide +kernel
theorem dX10_on_20 : decode cX10_on 20 = .ok (.getfield 193, 3) := by decide +kernel
theorem dX10_on_23 : decode cX10_on 23 = .ok (.iload_n 1, 1) := by decide +kernel
theorem dX10_on_24 : decode cX10_on 24 = .ok (.aaload, 1) := by decide +kernel
theorem dX10_on_25 : decode cX10_on 25 = .ok (.iload_n 2, 1) := by decide +kernel
theorem dX10_on_26 : decode cX10_on 26 = .ok (.invokevirtual 224, 3) := by decide +kernel
theorem dX10_on_29 : decode cX10_on 29 = .ok (.goto 4, 3) := by decide +kernel
theorem dX10_on_32 : decode cX10_on 32 = .ok (.iconst (-1), 1) := by decide +kernel
theorem dX10_on_33 : decode cX10_on 33 = .ok (.ireturn, 1) := by decide +kernel
theorem dX10_pairOf_0 : decode cX10_pairOf 0 = .ok (.iload_n 0, 1) := by decide +kernel
theorem dX10_pairOf_1 : decode cX10_pairOf 1 = .ok (.bipush 7, 2) := by decide +kernel
theorem dX10_pairOf_3 : decode cX10_pairOf 3 = .ok (.iload_n 0, 1) := by decide +kernel
theorem dX10_pairOf_4 : decode cX10_pairOf 4 = .ok (.isub, 1) := by decide +kernel
theorem dX10_pairOf_5 : decode cX10_pairOf 5 = .ok (.imul, 1) := by decide +kernel
theorem dX10_pairOf_6 : decode cX10_pairOf 6 = .ok (.iconst 2, 1) := by decide +kernel
theorem dX10_pairOf_7 : decode cX10_pairOf 7 = .ok (.idiv, 1) := by decide +kernel
theorem dX10_pairOf_8 : decode cX10_pairOf 8 = .ok (.iload_n 1, 1) := by decide +kernel
theorem dX10_pairOf_9 : decode cX10_pairOf 9 = .ok (.iadd, 1) := by decide +kernel
theorem dX10_pairOf_10 : decode cX10_pairOf 10 = .ok (.iload_n 0, 1) := by decide +kernel
theorem dX10_pairOf_11 : decode cX10_pairOf 11 = .ok (.isub, 1) := by decide +kernel
theorem dX10_pairOf_12 : decode cX10_pairOf 12 = .ok (.iconst 1, 1) := by decide +kernel
theorem dX10_pairOf_13 : decode cX10_pairOf 13 = .ok (.isub, 1) := by decide +kernel
theorem dX10_pairOf_14 : decode cX10_pairOf 14 = .ok (.ireturn, 1) := by decide +kernel
theorem dX10_passes_0 : decode cX10_passes 0 = .ok (.aload_n 0, 1) := by decide +kernel
theorem dX10_passes_1 : decode cX10_passes 1 = .ok (.iload_n 1, 1) := by decide +kernel
theorem dX10_passes_2 : decode cX10_passes 2 = .ok (.invokevirtual 184, 3) := by decide +kernel
theorem dX10_passes_5 : decode cX10_passes 5 = .ok (.ifCond .eq 15, 3) := by decide +kernel
theorem dX10_passes_8 : decode cX10_passes 8 = .ok (.aload_n 0, 1) := by decide +kernel
theorem dX10_passes_9 : decode cX10_passes 9 = .ok (.getfield 60, 3) := by decide +kernel
theorem dX10_passes_12 : decode cX10_passes 12 = .ok (.iload_n 1, 1) := by decide +kernel
theorem dX10_passes_13 : decode cX10_passes 13 = .ok (.iload_n 2, 1) := by decide +kernel
theorem dX10_passes_14 : decode cX10_passes 14 = .ok (.invokevirtual 231, 3) := by decide +kernel
theorem dX10_passes_17 : decode cX10_passes 17 = .ok (.goto 4, 3) := by decide +kernel
theorem dX10_passes_20 : decode cX10_passes 20 = .ok (.iconst (-1), 1) := by decide +kernel
theorem dX10_passes_21 : decode cX10_passes 21 = .ok (.ireturn, 1) := by decide +kernel
theorem dX10_petals_0 : decode cX10_petals 0 = .ok (.aload_n 0, 1) := by decide +kernel
theorem dX10_petals_1 : decode cX10_petals 1 = .ok (.iload_n 1, 1) := by decide +kernel
theorem dX10_petals_2 : decode cX10_petals 2 = .ok (.invokevirtual 171, 3) := by decide +kernel
theorem dX10_petals_5 : decode cX10_petals 5 = .ok (.ifCond .eq 11, 3) := by decide +kernel
theorem dX10_petals_8 : decode cX10_petals 8 = .ok (.aload_n 0, 1) := by decide +kernel
theorem dX10_petals_9 : decode cX10_petals 9 = .ok (.iload_n 2, 1) := by decide +kernel
theorem dX10_petals_10 : decode cX10_petals 10 = .ok (.invokevirtual 218, 3) := by decide +kernel
theorem dX10_petals_13 : decode cX10_petals 13 = .ok (.ifCond .ne 5, 3) := by decide +kernel
theorem dX10_petals_16 : decode cX10_petals 16 = .ok (.iconst (-1), 1) := by decide +kernel
theorem dX10_petals_17 : decode cX10_petals 17 = .ok (.ireturn, 1) := by decide +kernel
theorem dX10_petals_18 : decode cX10_petals 18 = .ok (.iconst 0, 1) := by decide +kernel
theorem dX10_petals_19 : decode cX10_petals 19 = .ok (.istore_n 3, 1) := by decide +kernel
theorem dX10_petals_20 : decode cX10_petals 20 = .ok (.iconst 0, 1) := by decide +kernel
theorem dX10_petals_21 : decode cX10_petals 21 = .ok (.istore 4, 2) := by decide +kernel
theorem dX10_petals_23 : decode cX10_petals 23 = .ok (.iload 4, 2) := by decide +kernel
theorem dX10_petals_25 : decode cX10_petals 25 = .ok (.aload_n 0, 1) := by decide +kernel
theorem dX10_petals_26 : decode cX10_petals 26 = .ok (.getfield 10, 3) := by decide +kernel
theorem dX10_petals_29 : decode cX10_petals 29 = .ok (.getfield 140, 3) := by decide +kernel
theorem dX10_petals_32 : decode cX10_petals 32 = .ok (.iconst 2, 1) := by decide +kernel
theorem dX10_petals_33 : decode cX10_petals 33 = .ok (.iaload, 1) := by decide +kernel
theorem dX10_petals_34 : decode cX10_petals 34 = .ok (.if_icmp .ge 40, 3) := by decide +kernel
theorem dX10_petals_37 : decode cX10_petals 37 = .ok (.iload_n 3, 1) := by decide +kernel
theorem dX10_petals_38 : decode cX10_petals 38 = .ok (.aload_n 0, 1) := by decide +kernel
theorem dX10_petals_39 : decode cX10_petals 39 = .ok (.getfield 10, 3) := by decide +kernel
theorem dX10_petals_42 : decode cX10_petals 42 = .ok (.iload 4, 2) := by decide +kernel
theorem dX10_petals_44 : decode cX10_petals 44 = .ok (.aload_n 0, 1) := by decide +kernel
theorem dX10_petals_45 : decode cX10_petals 45 = .ok (.getfield 37, 3) := by decide +kernel
theorem dX10_petals_48 : decode cX10_petals 48 = .ok (.getfield 193, 3) := by decide +kernel
theorem dX10_petals_51 : decode cX10_petals 51 = .ok (.iload 4, 2) := by decide +kernel
theorem dX10_petals_53 : decode cX10_petals 53 = .ok (.aaload, 1) := by decide +kernel
theorem dX10_petals_54 : decode cX10_petals 54 = .ok (.iconst 0, 1) := by decide +kernel
theorem dX10_petals_55 : decode cX10_petals 55 = .ok (.iload_n 2, 1) := by decide +kernel
theorem dX10_petals_56 : decode cX10_petals 56 = .ok (.invokevirtual 227, 3) := by decide +kernel
theorem dX10_petals_59 : decode cX10_petals 59 = .ok (.iload_n 1, 1) := by decide +kernel
theorem dX10_petals_60 : decode cX10_petals 60 = .ok (.ishr, 1) := by decide +kernel
theorem dX10_petals_61 : decode cX10_petals 61 = .ok (.iconst 1, 1) := by decide +kernel
theorem dX10_petals_62 : decode cX10_petals 62 = .ok (.iand, 1) := by decide +kernel
theorem dX10_petals_63 : decode cX10_petals 63 = .ok (.iload 4, 2) := by decide +kernel
theorem dX10_petals_65 : decode cX10_petals 65 = .ok (.ishl, 1) := by decide +kernel
theorem dX10_petals_66 : decode cX10_petals 66 = .ok (.ior, 1) := by decide +kernel
theorem dX10_petals_67 : decode cX10_petals 67 = .ok (.istore_n 3, 1) := by decide +kernel
theorem dX10_petals_68 : decode cX10_petals 68 = .ok (.iinc 4 1, 3) := by decide +kernel
theorem dX10_petals_71 : decode cX10_petals 71 = .ok (.goto (-48), 3) := by decide +kernel
theorem dX10_petals_74 : decode cX10_petals 74 = .ok (.iload_n 3, 1) := by decide +kernel
theorem dX10_petals_75 : decode cX10_petals 75 = .ok (.ireturn, 1) := by decide +kernel
theorem dX10_pleased_0 : decode cX10_pleased 0 = .ok (.aload_n 0, 1) := by decide +kernel
theorem dX10_pleased_1 : decode cX10_pleased 1 = .ok (.getfield 60, 3) := by decide +kernel
theorem dX10_pleased_4 : decode cX10_pleased 4 = .ok (.invokevirtual 251, 3) := by decide +kernel
theorem dX10_pleased_7 : decode cX10_pleased 7 = .ok (.ireturn, 1) := by decide +kernel
theorem dX10_rest_0 : decode cX10_rest 0 = .ok (.aload_n 0, 1) := by decide +kernel
theorem dX10_rest_1 : decode cX10_rest 1 = .ok (.iload_n 1, 1) := by decide +kernel
theorem dX10_rest_2 : decode cX10_rest 2 = .ok (.invokevirtual 184, 3) := by decide +kernel
theorem dX10_rest_5 : decode cX10_rest 5 = .ok (.ifCond .eq 26, 3) := by decide +kernel
theorem dX10_rest_8 : decode cX10_rest 8 = .ok (.iload_n 2, 1) := by decide +kernel
theorem dX10_rest_9 : decode cX10_rest 9 = .ok (.iconst 1, 1) := by decide +kernel
theorem dX10_rest_10 : decode cX10_rest 10 = .ok (.if_icmp .lt 21, 3) := by decide +kernel
theorem dX10_rest_13 : decode cX10_rest 13 = .ok (.iload_n 2, 1) := by decide +kernel
theorem dX10_rest_14 : decode cX10_rest 14 = .ok (.bipush 30, 2) := by decide +kernel
theorem dX10_rest_16 : decode cX10_rest 16 = .ok (.if_icmp .gt 15, 3) := by decide +kernel
theorem dX10_rest_19 : decode cX10_rest 19 = .ok (.aload_n 0, 1) := by decide +kernel
theorem dX10_rest_20 : decode cX10_rest 20 = .ok (.getfield 37, 3) := by decide +kernel
theorem dX10_rest_23 : decode cX10_rest 23 = .ok (.iload_n 1, 1) := by decide +kernel
theorem dX10_rest_24 : decode cX10_rest 24 = .ok (.iload_n 2, 1) := by decide +kernel
theorem dX10_rest_25 : decode cX10_rest 25 = .ok (.invokevirtual 209, 3) := by decide +kernel
theorem dX10_rest_28 : decode cX10_rest 28 = .ok (.goto 4, 3) := by decide +kernel
theorem dX10_rest_31 : decode cX10_rest 31 = .ok (.iconst (-1), 1) := by decide +kernel
theorem dX10_rest_32 : decode cX10_rest 32 = .ok (.ireturn, 1) := by decide +kernel
theorem dX10_route_0 : decode cX10_route 0 = .ok (.aload_n 0, 1) := by decide +kernel
theorem dX10_route_1 : decode cX10_route 1 = .ok (.iload_n 1, 1) := by decide +kernel
theorem dX10_route_2 : decode cX10_route 2 = .ok (.invokevirtual 184, 3) := by decide +kernel
theorem dX10_route_5 : decode cX10_route 5 = .ok (.ifCond .eq 19, 3) := by decide +kernel
theorem dX10_route_8 : decode cX10_route 8 = .ok (.iload_n 2, 1) := by decide +kernel
theorem dX10_route_9 : decode cX10_route 9 = .ok (.ifCond .lt 15, 3) := by decide +kernel
theorem dX10_route_12 : decode cX10_route 12 = .ok (.iload_n 2, 1) := by decide +kernel
theorem dX10_route_13 : decode cX10_route 13 = .ok (.aload_n 0, 1) := by decide +kernel
theorem dX10_route_14 : decode cX10_route 14 = .ok (.getfield 67, 3) := by decide +kernel
theorem dX10_route_17 : decode cX10_route 17 = .ok (.iload_n 1, 1) := by decide +kernel
theorem dX10_route_18 : decode cX10_route 18 = .ok (.invokevirtual 273, 3) := by decide +kernel
theorem dX10_route_21 : decode cX10_route 21 = .ok (.if_icmp .lt 5, 3) := by decide +kernel
theorem dX10_route_24 : decode cX10_route 24 = .ok (.iconst (-1), 1) := by decide +kernel
theorem dX10_route_25 : decode cX10_route 25 = .ok (.ireturn, 1) := by decide +kernel
theorem dX10_route_26 : decode cX10_route 26 = .ok (.aload_n 0, 1) := by decide +kernel
theorem dX10_route_27 : decode cX10_route 27 = .ok (.getfield 67, 3) := by decide +kernel
theorem dX10_route_30 : decode cX10_route 30 = .ok (.getfield 276, 3) := by decide +kernel
theorem dX10_route_33 : decode cX10_route 33 = .ok (.iload_n 1, 1) := by decide +kernel
theorem dX10_route_34 : decode cX10_route 34 = .ok (.bipush 20, 2) := by decide +kernel
theorem dX10_route_36 : decode cX10_route 36 = .ok (.imul, 1) := by decide +kernel
theorem dX10_route_37 : decode cX10_route 37 = .ok (.iload_n 2, 1) := by decide +kernel
theorem dX10_route_38 : decode cX10_route 38 = .ok (.iadd, 1) := by decide +kernel
theorem dX10_route_39 : decode cX10_route 39 = .ok (.aaload, 1) := by decide +kernel
theorem dX10_route_40 : decode cX10_route 40 = .ok (.astore 4, 2) := by decide +kernel
theorem dX10_route_42 : decode cX10_route 42 = .ok (.iload_n 3, 1) := by decide +kernel
theorem dX10_route_43 : decode cX10_route 43 = .ok (.ifCond .lt 12, 3) := by decide +kernel
theorem dX10_route_46 : decode cX10_route 46 = .ok (.iload_n 3, 1) := by decide +kernel
theorem dX10_route_47 : decode cX10_route 47 = .ok (.aload 4, 2) := by decide +kernel
theorem dX10_route_49 : decode cX10_route 49 = .ok (.getfield 277, 3) := by decide +kernel
theorem dX10_route_52 : decode cX10_route 52 = .ok (.if_icmp .lt 7, 3) := by decide +kernel
theorem dX10_route_55 : decode cX10_route 55 = .ok (.iconst (-1), 1) := by decide +kernel
theorem dX10_route_56 : decode cX10_route 56 = .ok (.goto 10, 3) := by decide +kernel
theorem dX10_route_59 : decode cX10_route 59 = .ok (.aload 4, 2) := by decide +kernel
theorem dX10_route_61 : decode cX10_route 61 = .ok (.getfield 280, 3) := by decide +kernel
theorem dX10_route_64 : decode cX10_route 64 = .ok (.iload_n 3, 1) := by decide +kernel
theorem dX10_route_65 : decode cX10_route 65 = .ok (.iaload, 1) := by decide +kernel
theorem dX10_route_66 : decode cX10_route 66 = .ok (.ireturn, 1) := by decide +kernel
theorem dX10_routes_0 : decode cX10_routes 0 = .ok (.aload_n 0, 1) := by decide +kernel
theorem dX10_routes_1 : decode cX10_routes 1 = .ok (.iload_n 1, 1) := by decide +kernel
theorem dX10_routes_2 : decode cX10_routes 2 = .ok (.invokevirtual 184, 3) := by decide +kernel
theorem dX10_routes_5 : decode cX10_routes 5 = .ok (.ifCond .eq 14, 3) := by decide +kernel
theorem dX10_routes_8 : decode cX10_routes 8 = .ok (.aload_n 0, 1) := by decide +kernel
theorem dX10_routes_9 : decode cX10_routes 9 = .ok (.getfield 67, 3) := by decide +kernel
theorem dX10_routes_12 : decode cX10_routes 12 = .ok (.iload_n 1, 1) := by decide +kernel
theorem dX10_routes_13 : decode cX10_routes 13 = .ok (.invokevirtual 273, 3) := by decide +kernel
theorem dX10_routes_16 : decode cX10_routes 16 = .ok (.goto 4, 3) := by decide +kernel
theorem dX10_routes_19 : decode cX10_routes 19 = .ok (.iconst (-1), 1) := by decide +kernel
theorem dX10_routes_20 : decode cX10_routes 20 = .ok (.ireturn, 1) := by decide +kernel
theorem dX10_saint_0 : decode cX10_saint 0 = .ok (.aload_n 0, 1) := by decide +kernel
theorem dX10_saint_1 : decode cX10_saint 1 = .ok (.iload_n 1, 1) := by decide +kernel
theorem dX10_saint_2 : decode cX10_saint 2 = .ok (.invokevirtual 184, 3) := by decide +kernel
theorem dX10_saint_5 : decode cX10_saint 5 = .ok (.ifCond .ne 5, 3) := by decide +kernel
theorem dX10_saint_8 : decode cX10_saint 8 = .ok (.iconst (-1), 1) := by decide +kernel
theorem dX10_saint_9 : decode cX10_saint 9 = .ok (.ireturn, 1) := by decide +kernel
theorem dX10_saint_10 : decode cX10_saint 10 = .ok (.iload_n 2, 1) := by decide +kernel
theorem dX10_saint_11 : decode cX10_saint 11 = .ok (.tableswitch 90 0 6 #[41, 41, 41, 41, 55, 64, 77], 41) := by decide +kernel
theorem dX10_saint_52 : decode cX10_saint 52 = .ok (.aload_n 0, 1) := by decide +kernel
theorem dX10_saint_53 : decode cX10_saint 53 = .ok (.getfield 10, 3) := by decide +kernel
theorem dX10_saint_56 : decode cX10_saint 56 = .ok (.getfield 187, 3) := by decide +kernel
theorem dX10_saint_59 : decode cX10_saint 59 = .ok (.iload_n 1, 1) := by decide +kernel
theorem dX10_saint_60 : decode cX10_saint 60 = .ok (.iconst 4, 1) := by decide +kernel
theorem dX10_saint_61 : decode cX10_saint 61 = .ok (.imul, 1) := by decide +kernel
theorem dX10_saint_62 : decode cX10_saint 62 = .ok (.iload_n 2, 1) := by decide +kernel
theorem dX10_saint_63 : decode cX10_saint 63 = .ok (.iadd, 1) := by decide +kernel
theorem dX10_saint_64 : decode cX10_saint 64 = .ok (.iaload, 1) := by decide +kernel
theorem dX10_saint_65 : decode cX10_saint 65 = .ok (.ireturn, 1) := by decide +kernel
theorem dX10_saint_66 : decode cX10_saint 66 = .ok (.aload_n 0, 1) := by decide +kernel
theorem dX10_saint_67 : decode cX10_saint 67 = .ok (.getfield 37, 3) := by decide +kernel
theorem dX10_saint_70 : decode cX10_saint 70 = .ok (.iload_n 1, 1) := by decide +kernel
theorem dX10_saint_71 : decode cX10_saint 71 = .ok (.invokevirtual 190, 3) := by decide +kernel
theorem dX10_saint_74 : decode cX10_saint 74 = .ok (.ireturn, 1) := by decide +kernel
theorem dX10_saint_75 : decode cX10_saint 75 = .ok (.aload_n 0, 1) := by decide +kernel
theorem dX10_saint_76 : decode cX10_saint 76 = .ok (.getfield 37, 3) := by decide +kernel
theorem dX10_saint_79 : decode cX10_saint 79 = .ok (.getfield 193, 3) := by decide +kernel
theorem dX10_saint_82 : decode cX10_saint 82 = .ok (.iload_n 1, 1) := by decide +kernel
theorem dX10_saint_83 : decode cX10_saint 83 = .ok (.aaload, 1) := by decide +kernel
theorem dX10_saint_84 : decode cX10_saint 84 = .ok (.getfield 197, 3) := by decide +kernel
theorem dX10_saint_87 : decode cX10_saint 87 = .ok (.ireturn, 1) := by decide +kernel
theorem dX10_saint_88 : decode cX10_saint 88 = .ok (.aload_n 0, 1) := by decide +kernel
theorem dX10_saint_89 : decode cX10_saint 89 = .ok (.getfield 37, 3) := by decide +kernel
theorem dX10_saint_92 : decode cX10_saint 92 = .ok (.getfield 193, 3) := by decide +kernel
theorem dX10_saint_95 : decode cX10_saint 95 = .ok (.iload_n 1, 1) := by decide +kernel
theorem dX10_saint_96 : decode cX10_saint 96 = .ok (.aaload, 1) := by decide +kernel
theorem dX10_saint_97 : decode cX10_saint 97 = .ok (.invokevirtual 202, 3) := by decide +kernel
theorem dX10_saint_100 : decode cX10_saint 100 = .ok (.ireturn, 1) := by decide +kernel
theorem dX10_saint_101 : decode cX10_saint 101 = .ok (.iconst (-1), 1) := by decide +kernel
theorem dX10_saint_102 : decode cX10_saint 102 = .ok (.ireturn, 1) := by decide +kernel
theorem dX10_shut_0 : decode cX10_shut 0 = .ok (.aload_n 0, 1) := by decide +kernel
theorem dX10_shut_1 : decode cX10_shut 1 = .ok (.iload_n 1, 1) := by decide +kernel
theorem dX10_shut_2 : decode cX10_shut 2 = .ok (.invokevirtual 171, 3) := by decide +kernel
theorem dX10_shut_5 : decode cX10_shut 5 = .ok (.ifCond .eq 19, 3) := by decide +kernel
theorem dX10_shut_8 : decode cX10_shut 8 = .ok (.aload_n 0, 1) := by decide +kernel
theorem dX10_shut_9 : decode cX10_shut 9 = .ok (.getfield 37, 3) := by decide +kernel
theorem dX10_shut_12 : decode cX10_shut 12 = .ok (.iload_n 1, 1) := by decide +kernel
theorem dX10_shut_13 : decode cX10_shut 13 = .ok (.iload_n 2, 1) := by decide +kernel
theorem dX10_shut_14 : decode cX10_shut 14 = .ok (.invokevirtual 266, 3) := by decide +kernel
theorem dX10_shut_17 : decode cX10_shut 17 = .ok (.ifCond .eq 7, 3) := by decide +kernel
theorem dX10_shut_20 : decode cX10_shut 20 = .ok (.iconst 1, 1) := by decide +kernel
theorem dX10_shut_21 : decode cX10_shut 21 = .ok (.goto 4, 3) := by decide +kernel
theorem dX10_shut_24 : decode cX10_shut 24 = .ok (.iconst 0, 1) := by decide +kernel
theorem dX10_shut_25 : decode cX10_shut 25 = .ok (.ireturn, 1) := by decide +kernel
theorem dX10_softer_0 : decode cX10_softer 0 = .ok (.iload_n 1, 1) := by decide +kernel
theorem dX10_softer_1 : decode cX10_softer 1 = .ok (.ifCond .lt 8, 3) := by decide +kernel
theorem dX10_softer_4 : decode cX10_softer 4 = .ok (.iload_n 1, 1) := by decide +kernel
theorem dX10_softer_5 : decode cX10_softer 5 = .ok (.iconst 1, 1) := by decide +kernel
theorem dX10_softer_6 : decode cX10_softer 6 = .ok (.if_icmp .le 5, 3) := by decide +kernel
theorem dX10_softer_9 : decode cX10_softer 9 = .ok (.iconst (-1), 1) := by decide +kernel
theorem dX10_softer_10 : decode cX10_softer 10 = .ok (.ireturn, 1) := by decide +kernel
theorem dX10_softer_11 : decode cX10_softer 11 = .ok (.aload_n 0, 1) := by decide +kernel
theorem dX10_softer_12 : decode cX10_softer 12 = .ok (.getfield 60, 3) := by decide +kernel
theorem dX10_softer_15 : decode cX10_softer 15 = .ok (.invokevirtual 260, 3) := by decide +kernel
theorem dX10_softer_18 : decode cX10_softer 18 = .ok (.istore_n 2, 1) := by decide +kernel
theorem dX10_softer_19 : decode cX10_softer 19 = .ok (.iload_n 1, 1) := by decide +kernel
theorem dX10_softer_20 : decode cX10_softer 20 = .ok (.ifCond .eq 8, 3) := by decide +kernel
theorem dX10_softer_23 : decode cX10_softer 23 = .ok (.iload_n 2, 1) := by decide +kernel
theorem dX10_softer_24 : decode cX10_softer 24 = .ok (.iconst (-1), 1) := by decide +kernel
theorem dX10_softer_25 : decode cX10_softer 25 = .ok (.if_icmp .ne 7, 3) := by decide +kernel
theorem dX10_softer_28 : decode cX10_softer 28 = .ok (.iload_n 2, 1) := by decide +kernel
theorem dX10_softer_29 : decode cX10_softer 29 = .ok (.goto 11, 3) := by decide +kernel
theorem dX10_softer_32 : decode cX10_softer 32 = .ok (.aload_n 0, 1) := by decide +kernel
theorem dX10_softer_33 : decode cX10_softer 33 = .ok (.getfield 10, 3) := by decide +kernel
theorem dX10_softer_36 : decode cX10_softer 36 = .ok (.iload_n 2, 1) := by decide +kernel
theorem dX10_softer_37 : decode cX10_softer 37 = .ok (.invokevirtual 263, 3) := by decide +kernel
theorem dX10_softer_40 : decode cX10_softer 40 = .ok (.ireturn, 1) := by decide +kernel
theorem dX10_sound_0 : decode cX10_sound 0 = .ok (.aload_n 0, 1) := by decide +kernel
theorem dX10_sound_1 : decode cX10_sound 1 = .ok (.iload_n 1, 1) := by decide +kernel
theorem dX10_sound_2 : decode cX10_sound 2 = .ok (.invokevirtual 178, 3) := by decide +kernel
theorem dX10_sound_5 : decode cX10_sound 5 = .ok (.ifCond .eq 28, 3) := by decide +kernel
theorem dX10_sound_8 : decode cX10_sound 8 = .ok (.aload_n 0, 1) := by decide +kernel
theorem dX10_sound_9 : decode cX10_sound 9 = .ok (.iload_n 2, 1) := by decide +kernel
theorem dX10_sound_10 : decode cX10_sound 10 = .ok (.invokevirtual 178, 3) := by decide +kernel
theorem dX10_sound_13 : decode cX10_sound 13 = .ok (.ifCond .eq 20, 3) := by decide +kernel
theorem dX10_sound_16 : decode cX10_sound 16 = .ok (.aload_n 0, 1) := by decide +kernel
theorem dX10_sound_17 : decode cX10_sound 17 = .ok (.getfield 10, 3) := by decide +kernel
theorem dX10_sound_20 : decode cX10_sound 20 = .ok (.getfield 181, 3) := by decide +kernel
theorem dX10_sound_23 : decode cX10_sound 23 = .ok (.iload_n 1, 1) := by decide +kernel
theorem dX10_sound_24 : decode cX10_sound 24 = .ok (.bipush 10, 2) := by decide +kernel
theorem dX10_sound_26 : decode cX10_sound 26 = .ok (.imul, 1) := by decide +kernel
theorem dX10_sound_27 : decode cX10_sound 27 = .ok (.iload_n 2, 1) := by decide +kernel
theorem dX10_sound_28 : decode cX10_sound 28 = .ok (.iadd, 1) := by decide +kernel
theorem dX10_sound_29 : decode cX10_sound 29 = .ok (.iaload, 1) := by decide +kernel
theorem dX10_sound_30 : decode cX10_sound 30 = .ok (.goto 4, 3) := by decide +kernel
theorem dX10_sound_33 : decode cX10_sound 33 = .ok (.iconst (-1), 1) := by decide +kernel
theorem dX10_sound_34 : decode cX10_sound 34 = .ok (.ireturn, 1) := by decide +kernel
theorem dX10_sweep_0 : decode cX10_sweep 0 = .ok (.aload_n 0, 1) := by decide +kernel
theorem dX10_sweep_1 : decode cX10_sweep 1 = .ok (.getfield 60, 3) := by decide +kernel
theorem dX10_sweep_4 : decode cX10_sweep 4 = .ok (.invokevirtual 270, 3) := by decide +kernel
theorem dX10_sweep_7 : decode cX10_sweep 7 = .ok (.istore_n 2, 1) := by decide +kernel
theorem dX10_sweep_8 : decode cX10_sweep 8 = .ok (.iload_n 1, 1) := by decide +kernel
theorem dX10_sweep_9 : decode cX10_sweep 9 = .ok (.iconst (-1), 1) := by decide +kernel
theorem dX10_sweep_10 : decode cX10_sweep 10 = .ok (.if_icmp .ne 8, 3) := by decide +kernel
theorem dX10_sweep_13 : decode cX10_sweep 13 = .ok (.iload_n 2, 1) := by decide +kernel
theorem dX10_sweep_14 : decode cX10_sweep 14 = .ok (.invokestatic 149, 3) := by decide +kernel
theorem dX10_sweep_17 : decode cX10_sweep 17 = .ok (.ireturn, 1) := by decide +kernel
theorem dX10_sweep_18 : decode cX10_sweep 18 = .ok (.iconst 0, 1) := by decide +kernel
theorem dX10_sweep_19 : decode cX10_sweep 19 = .ok (.istore_n 3, 1) := by decide +kernel
theorem dX10_sweep_20 : decode cX10_sweep 20 = .ok (.iconst 0, 1) := by decide +kernel
theorem dX10_sweep_21 : decode cX10_sweep 21 = .ok (.istore 4, 2) := by decide +kernel
theorem dX10_sweep_23 : decode cX10_sweep 23 = .ok (.iload 4, 2) := by decide +kernel
theorem dX10_sweep_25 : decode cX10_sweep 25 = .ok (.bipush 16, 2) := by decide +kernel
theorem dX10_sweep_27 : decode cX10_sweep 27 = .ok (.if_icmp .ge 29, 3) := by decide +kernel
theorem dX10_sweep_30 : decode cX10_sweep 30 = .ok (.iload_n 2, 1) := by decide +kernel
theorem dX10_sweep_31 : decode cX10_sweep 31 = .ok (.iload 4, 2) := by decide +kernel
theorem dX10_sweep_33 : decode cX10_sweep 33 = .ok (.ishr, 1) := by decide +kernel
theorem dX10_sweep_34 : decode cX10_sweep 34 = .ok (.iconst 1, 1) := by decide +kernel
theorem dX10_sweep_35 : decode cX10_sweep 35 = .ok (.iand, 1) := by decide +kernel
theorem dX10_sweep_36 : decode cX10_sweep 36 = .ok (.ifCond .eq 14, 3) := by decide +kernel
theorem dX10_sweep_39 : decode cX10_sweep 39 = .ok (.iload_n 3, 1) := by decide +kernel
theorem dX10_sweep_40 : decode cX10_sweep 40 = .ok (.iinc 3 1, 3) := by decide +kernel
theorem dX10_sweep_43 : decode cX10_sweep 43 = .ok (.iload_n 1, 1) := by decide +kernel
theorem dX10_sweep_44 : decode cX10_sweep 44 = .ok (.if_icmp .ne 6, 3) := by decide +kernel
theorem dX10_sweep_47 : decode cX10_sweep 47 = .ok (.iload 4, 2) := by decide +kernel
theorem dX10_sweep_49 : decode cX10_sweep 49 = .ok (.ireturn, 1) := by decide +kernel
theorem dX10_sweep_50 : decode cX10_sweep 50 = .ok (.iinc 4 1, 3) := by decide +kernel
theorem dX10_sweep_53 : decode cX10_sweep 53 = .ok (.goto (-30), 3) := by decide +kernel
theorem dX10_sweep_56 : decode cX10_sweep 56 = .ok (.iconst (-1), 1) := by decide +kernel
theorem dX10_sweep_57 : decode cX10_sweep 57 = .ok (.ireturn, 1) := by decide +kernel
theorem dX10_take_0 : decode cX10_take 0 = .ok (.aload_n 0, 1) := by decide +kernel
theorem dX10_take_1 : decode cX10_take 1 = .ok (.getfield 76, 3) := by decide +kernel
theorem dX10_take_4 : decode cX10_take 4 = .ok (.aload_n 0, 1) := by decide +kernel
theorem dX10_take_5 : decode cX10_take 5 = .ok (.invokevirtual 283, 3) := by decide +kernel
theorem dX10_take_8 : decode cX10_take 8 = .ok (.iconst 0, 1) := by decide +kernel
theorem dX10_take_9 : decode cX10_take 9 = .ok (.invokevirtual 286, 3) := by decide +kernel
theorem dX10_take_12 : decode cX10_take 12 = .ok (.istore_n 1, 1) := by decide +kernel
theorem dX10_take_13 : decode cX10_take 13 = .ok (.iload_n 1, 1) := by decide +kernel
theorem dX10_take_14 : decode cX10_take 14 = .ok (.iconst (-1), 1) := by decide +kernel
theorem dX10_take_15 : decode cX10_take 15 = .ok (.if_icmp .eq 15, 3) := by decide +kernel
theorem dX10_take_18 : decode cX10_take 18 = .ok (.aload_n 0, 1) := by decide +kernel
theorem dX10_take_19 : decode cX10_take 19 = .ok (.getfield 10, 3) := by decide +kernel
theorem dX10_take_22 : decode cX10_take 22 = .ok (.getfield 140, 3) := by decide +kernel
theorem dX10_take_25 : decode cX10_take 25 = .ok (.iconst 2, 1) := by decide +kernel
theorem dX10_take_26 : decode cX10_take 26 = .ok (.iaload, 1) := by decide +kernel
theorem dX10_take_27 : decode cX10_take 27 = .ok (.ifCond .ne 5, 3) := by decide +kernel
theorem dX10_take_30 : decode cX10_take 30 = .ok (.iconst (-1), 1) := by decide +kernel
theorem dX10_take_31 : decode cX10_take 31 = .ok (.ireturn, 1) := by decide +kernel
theorem dX10_take_32 : decode cX10_take 32 = .ok (.aload_n 0, 1) := by decide +kernel
theorem dX10_take_33 : decode cX10_take 33 = .ok (.getfield 37, 3) := by decide +kernel
theorem dX10_take_36 : decode cX10_take 36 = .ok (.invokevirtual 293, 3) := by decide +kernel
theorem dX10_take_39 : decode cX10_take 39 = .ok (.aload_n 0, 1) := by decide +kernel
theorem dX10_take_40 : decode cX10_take 40 = .ok (.getfield 37, 3) := by decide +kernel
theorem dX10_take_43 : decode cX10_take 43 = .ok (.invokevirtual 296, 3) := by decide +kernel
theorem dX10_take_46 : decode cX10_take 46 = .ok (.aload_n 0, 1) := by decide +kernel
theorem dX10_take_47 : decode cX10_take 47 = .ok (.getfield 76, 3) := by decide +kernel
theorem dX10_take_50 : decode cX10_take 50 = .ok (.invokevirtual 299, 3) := by decide +kernel
theorem dX10_take_53 : decode cX10_take 53 = .ok (.pop, 1) := by decide +kernel
theorem dX10_take_54 : decode cX10_take 54 = .ok (.iload_n 1, 1) := by decide +kernel
theorem dX10_take_55 : decode cX10_take 55 = .ok (.ireturn, 1) := by decide +kernel
theorem dX10_tapeNumber_0 : decode cX10_tapeNumber 0 = .ok (.bipush 24, 2) := by decide +kernel
theorem dX10_tapeNumber_2 : decode cX10_tapeNumber 2 = .ok (.istore_n 2, 1) := by decide +kernel
theorem dX10_tapeNumber_3 : decode cX10_tapeNumber 3 = .ok (.iload_n 2, 1) := by decide +kernel
theorem dX10_tapeNumber_4 : decode cX10_tapeNumber 4 = .ok (.ifCond .lt 42, 3) := by decide +kernel
theorem dX10_tapeNumber_7 : decode cX10_tapeNumber 7 = .ok (.aload_n 0, 1) := by decide +kernel
theorem dX10_tapeNumber_8 : decode cX10_tapeNumber 8 = .ok (.getfield 102, 3) := by decide +kernel
theorem dX10_tapeNumber_11 : decode cX10_tapeNumber 11 = .ok (.sipush 1600, 3) := by decide +kernel
theorem dX10_tapeNumber_14 : decode cX10_tapeNumber 14 = .ok (.if_icmp .ge 32, 3) := by decide +kernel
theorem dX10_tapeNumber_17 : decode cX10_tapeNumber 17 = .ok (.aload_n 0, 1) := by decide +kernel
theorem dX10_tapeNumber_18 : decode cX10_tapeNumber 18 = .ok (.getfield 19, 3) := by decide +kernel
theorem dX10_tapeNumber_21 : decode cX10_tapeNumber 21 = .ok (.aload_n 0, 1) := by decide +kernel
theorem dX10_tapeNumber_22 : decode cX10_tapeNumber 22 = .ok (.dup, 1) := by decide +kernel
theorem dX10_tapeNumber_23 : decode cX10_tapeNumber 23 = .ok (.getfield 102, 3) := by decide +kernel
theorem dX10_tapeNumber_26 : decode cX10_tapeNumber 26 = .ok (.dup_x1, 1) := by decide +kernel
theorem dX10_tapeNumber_27 : decode cX10_tapeNumber 27 = .ok (.iconst 1, 1) := by decide +kernel
theorem dX10_tapeNumber_28 : decode cX10_tapeNumber 28 = .ok (.iadd, 1) := by decide +kernel
theorem dX10_tapeNumber_29 : decode cX10_tapeNumber 29 = .ok (.putfield 102, 3) := by decide +kernel
theorem dX10_tapeNumber_32 : decode cX10_tapeNumber 32 = .ok (.iload_n 1, 1) := by decide +kernel
theorem dX10_tapeNumber_33 : decode cX10_tapeNumber 33 = .ok (.iload_n 2, 1) := by decide +kernel
theorem dX10_tapeNumber_34 : decode cX10_tapeNumber 34 = .ok (.iushr, 1) := by decide +kernel
theorem dX10_tapeNumber_35 : decode cX10_tapeNumber 35 = .ok (.sipush 255, 3) := by decide +kernel
theorem dX10_tapeNumber_38 : decode cX10_tapeNumber 38 = .ok (.iand, 1) := by decide +kernel
theorem dX10_tapeNumber_39 : decode cX10_tapeNumber 39 = .ok (.iastore, 1) := by decide +kernel
theorem dX10_tapeNumber_40 : decode cX10_tapeNumber 40 = .ok (.iinc 2 (-8), 3) := by decide +kernel
theorem dX10_tapeNumber_43 : decode cX10_tapeNumber 43 = .ok (.goto (-40), 3) := by decide +kernel
theorem dX10_tapeNumber_46 : decode cX10_tapeNumber 46 = .ok (.return_, 1) := by decide +kernel
theorem dX10_together_0 : decode cX10_together 0 = .ok (.aload_n 0, 1) := by decide +kernel
theorem dX10_together_1 : decode cX10_together 1 = .ok (.getfield 76, 3) := by decide +kernel
theorem dX10_together_4 : decode cX10_together 4 = .ok (.aload_n 0, 1) := by decide +kernel
theorem dX10_together_5 : decode cX10_together 5 = .ok (.invokevirtual 283, 3) := by decide +kernel
theorem dX10_together_8 : decode cX10_together 8 = .ok (.iconst 0, 1) := by decide +kernel
theorem dX10_together_9 : decode cX10_together 9 = .ok (.invokevirtual 286, 3) := by decide +kernel
theorem dX10_together_12 : decode cX10_together 12 = .ok (.istore_n 2, 1) := by decide +kernel
theorem dX10_together_13 : decode cX10_together 13 = .ok (.iload_n 1, 1) := by decide +kernel
theorem dX10_together_14 : decode cX10_together 14 = .ok (.iconst (-1), 1) := by decide +kernel
theorem dX10_together_15 : decode cX10_together 15 = .ok (.if_icmp .eq 8, 3) := by decide +kernel
theorem dX10_together_18 : decode cX10_together 18 = .ok (.iload_n 2, 1) := by decide +kernel
theorem dX10_together_19 : decode cX10_together 19 = .ok (.iconst (-1), 1) := by decide +kernel
theorem dX10_together_20 : decode cX10_together 20 = .ok (.if_icmp .ne 5, 3) := by decide +kernel
theorem dX10_together_23 : decode cX10_together 23 = .ok (.iload_n 2, 1) := by decide +kernel
theorem dX10_together_24 : decode cX10_together 24 = .ok (.ireturn, 1) := by decide +kernel
theorem dX10_together_25 : decode cX10_together 25 = .ok (.aload_n 0, 1) := by decide +kernel
theorem dX10_together_26 : decode cX10_together 26 = .ok (.iload_n 1, 1) := by decide +kernel
theorem dX10_together_27 : decode cX10_together 27 = .ok (.invokevirtual 184, 3) := by decide +kernel
theorem dX10_together_30 : decode cX10_together 30 = .ok (.ifCond .eq 17, 3) := by decide +kernel
theorem dX10_together_33 : decode cX10_together 33 = .ok (.aload_n 0, 1) := by decide +kernel
theorem dX10_together_34 : decode cX10_together 34 = .ok (.getfield 76, 3) := by decide +kernel
theorem dX10_together_37 : decode cX10_together 37 = .ok (.getfield 290, 3) := by decide +kernel
theorem dX10_together_40 : decode cX10_together 40 = .ok (.iload_n 1, 1) := by decide +kernel
theorem dX10_together_41 : decode cX10_together 41 = .ok (.iaload, 1) := by decide +kernel
theorem dX10_together_42 : decode cX10_together 42 = .ok (.iconst 1, 1) := by decide +kernel
theorem dX10_together_43 : decode cX10_together 43 = .ok (.isub, 1) := by decide +kernel
theorem dX10_together_44 : decode cX10_together 44 = .ok (.goto 4, 3) := by decide +kernel
theorem dX10_together_47 : decode cX10_together 47 = .ok (.iconst (-1), 1) := by decide +kernel
theorem dX10_together_48 : decode cX10_together 48 = .ok (.ireturn, 1) := by decide +kernel
theorem dX10_turn_0 : decode cX10_turn 0 = .ok (.aload_n 0, 1) := by decide +kernel
theorem dX10_turn_1 : decode cX10_turn 1 = .ok (.getfield 37, 3) := by decide +kernel
theorem dX10_turn_4 : decode cX10_turn 4 = .ok (.invokevirtual 293, 3) := by decide +kernel
theorem dX10_turn_7 : decode cX10_turn 7 = .ok (.iconst 0, 1) := by decide +kernel
theorem dX10_turn_8 : decode cX10_turn 8 = .ok (.istore_n 1, 1) := by decide +kernel
theorem dX10_turn_9 : decode cX10_turn 9 = .ok (.iconst 0, 1) := by decide +kernel
theorem dX10_turn_10 : decode cX10_turn 10 = .ok (.istore_n 2, 1) := by decide +kernel
theorem dX10_turn_11 : decode cX10_turn 11 = .ok (.iload_n 2, 1) := by decide +kernel
theorem dX10_turn_12 : decode cX10_turn 12 = .ok (.aload_n 0, 1) := by decide +kernel
theorem dX10_turn_13 : decode cX10_turn 13 = .ok (.getfield 10, 3) := by decide +kernel
theorem dX10_turn_16 : decode cX10_turn 16 = .ok (.getfield 140, 3) := by decide +kernel
theorem dX10_turn_19 : decode cX10_turn 19 = .ok (.iconst 2, 1) := by decide +kernel
theorem dX10_turn_20 : decode cX10_turn 20 = .ok (.iaload, 1) := by decide +kernel
theorem dX10_turn_21 : decode cX10_turn 21 = .ok (.if_icmp .ge 23, 3) := by decide +kernel
theorem dX10_turn_24 : decode cX10_turn 24 = .ok (.aload_n 0, 1) := by decide +kernel
theorem dX10_turn_25 : decode cX10_turn 25 = .ok (.getfield 76, 3) := by decide +kernel
theorem dX10_turn_28 : decode cX10_turn 28 = .ok (.iload_n 2, 1) := by decide +kernel
theorem dX10_turn_29 : decode cX10_turn 29 = .ok (.invokevirtual 302, 3) := by decide +kernel
theorem dX10_turn_32 : decode cX10_turn 32 = .ok (.ifCond .eq 6, 3) := by decide +kernel
theorem dX10_turn_35 : decode cX10_turn 35 = .ok (.iinc 1 1, 3) := by decide +kernel
theorem dX10_turn_38 : decode cX10_turn 38 = .ok (.iinc 2 1, 3) := by decide +kernel
theorem dX10_turn_41 : decode cX10_turn 41 = .ok (.goto (-30), 3) := by decide +kernel
theorem dX10_turn_44 : decode cX10_turn 44 = .ok (.iload_n 1, 1) := by decide +kernel
theorem dX10_turn_45 : decode cX10_turn 45 = .ok (.ifCond .le 10, 3) := by decide +kernel
theorem dX10_turn_48 : decode cX10_turn 48 = .ok (.aload_n 0, 1) := by decide +kernel
theorem dX10_turn_49 : decode cX10_turn 49 = .ok (.getfield 37, 3) := by decide +kernel
theorem dX10_turn_52 : decode cX10_turn 52 = .ok (.invokevirtual 296, 3) := by decide +kernel
theorem dX10_turn_55 : decode cX10_turn 55 = .ok (.iload_n 1, 1) := by decide +kernel
theorem dX10_turn_56 : decode cX10_turn 56 = .ok (.ireturn, 1) := by decide +kernel
theorem dX10_undo_0 : decode cX10_undo 0 = .ok (.aload_n 0, 1) := by decide +kernel
theorem dX10_undo_1 : decode cX10_undo 1 = .ok (.getfield 37, 3) := by decide +kernel
theorem dX10_undo_4 : decode cX10_undo 4 = .ok (.invokevirtual 215, 3) := by decide +kernel
theorem dX10_undo_7 : decode cX10_undo 7 = .ok (.ireturn, 1) := by decide +kernel
theorem dX10_where_0 : decode cX10_where 0 = .ok (.aload_n 0, 1) := by decide +kernel
theorem dX10_where_1 : decode cX10_where 1 = .ok (.iload_n 1, 1) := by decide +kernel
theorem dX10_where_2 : decode cX10_where 2 = .ok (.invokevirtual 184, 3) := by decide +kernel
theorem dX10_where_5 : decode cX10_where 5 = .ok (.ifCond .eq 27, 3) := by decide +kernel
theorem dX10_where_8 : decode cX10_where 8 = .ok (.aload_n 0, 1) := by decide +kernel
theorem dX10_where_9 : decode cX10_where 9 = .ok (.iload_n 2, 1) := by decide +kernel
theorem dX10_where_10 : decode cX10_where 10 = .ok (.invokevirtual 218, 3) := by decide +kernel
theorem dX10_where_13 : decode cX10_where 13 = .ok (.ifCond .eq 19, 3) := by decide +kernel
theorem dX10_where_16 : decode cX10_where 16 = .ok (.aload_n 0, 1) := by decide +kernel
theorem dX10_where_17 : decode cX10_where 17 = .ok (.getfield 37, 3) := by decide +kernel
theorem dX10_where_20 : decode cX10_where 20 = .ok (.getfield 193, 3) := by decide +kernel
theorem dX10_where_23 : decode cX10_where 23 = .ok (.iload_n 1, 1) := by decide +kernel
theorem dX10_where_24 : decode cX10_where 24 = .ok (.aaload, 1) := by decide +kernel
theorem dX10_where_25 : decode cX10_where 25 = .ok (.iload_n 2, 1) := by decide +kernel
theorem dX10_where_26 : decode cX10_where 26 = .ok (.invokevirtual 221, 3) := by decide +kernel
theorem dX10_where_29 : decode cX10_where 29 = .ok (.goto 4, 3) := by decide +kernel
theorem dX10_where_32 : decode cX10_where 32 = .ok (.iconst (-1), 1) := by decide +kernel
theorem dX10_where_33 : decode cX10_where 33 = .ok (.ireturn, 1) := by decide +kernel
theorem dX10_words_0 : decode cX10_words 0 = .ok (.iload_n 1, 1) := by decide +kernel
theorem dX10_words_1 : decode cX10_words 1 = .ok (.ifCond .lt 16, 3) := by decide +kernel
theorem dX10_words_4 : decode cX10_words 4 = .ok (.iload_n 1, 1) := by decide +kernel
theorem dX10_words_5 : decode cX10_words 5 = .ok (.aload_n 0, 1) := by decide +kernel
theorem dX10_words_6 : decode cX10_words 6 = .ok (.getfield 10, 3) := by decide +kernel
theorem dX10_words_9 : decode cX10_words 9 = .ok (.getfield 140, 3) := by decide +kernel
theorem dX10_words_12 : decode cX10_words 12 = .ok (.iconst 4, 1) := by decide +kernel
theorem dX10_words_13 : decode cX10_words 13 = .ok (.iaload, 1) := by decide +kernel
theorem dX10_words_14 : decode cX10_words 14 = .ok (.if_icmp .lt 7, 3) := by decide +kernel
theorem dX10_words_17 : decode cX10_words 17 = .ok (.iconst (-1), 1) := by decide +kernel
theorem dX10_words_18 : decode cX10_words 18 = .ok (.goto 12, 3) := by decide +kernel
theorem dX10_words_21 : decode cX10_words 21 = .ok (.aload_n 0, 1) := by decide +kernel
theorem dX10_words_22 : decode cX10_words 22 = .ok (.getfield 10, 3) := by decide +kernel
theorem dX10_words_25 : decode cX10_words 25 = .ok (.getfield 257, 3) := by decide +kernel
theorem dX10_words_28 : decode cX10_words 28 = .ok (.iload_n 1, 1) := by decide +kernel
theorem dX10_words_29 : decode cX10_words 29 = .ok (.iaload, 1) := by decide +kernel
theorem dX10_words_30 : decode cX10_words 30 = .ok (.ireturn, 1) := by decide +kernel
theorem dX11_areKnown_0 : decode cX11_areKnown 0 = .ok (.sipush 244, 3) := by decide +kernel
theorem dX11_areKnown_3 : decode cX11_areKnown 3 = .ok (.iload_n 1, 1) := by decide +kernel
theorem dX11_areKnown_4 : decode cX11_areKnown 4 = .ok (.imul, 1) := by decide +kernel
theorem dX11_areKnown_5 : decode cX11_areKnown 5 = .ok (.iload_n 2, 1) := by decide +kernel
theorem dX11_areKnown_6 : decode cX11_areKnown 6 = .ok (.iadd, 1) := by decide +kernel
theorem dX11_areKnown_7 : decode cX11_areKnown 7 = .ok (.istore_n 3, 1) := by decide +kernel
theorem dX11_areKnown_8 : decode cX11_areKnown 8 = .ok (.aload_n 0, 1) := by decide +kernel
theorem dX11_areKnown_9 : decode cX11_areKnown 9 = .ok (.getfield 197, 3) := by decide +kernel
theorem dX11_areKnown_12 : decode cX11_areKnown 12 = .ok (.iload_n 3, 1) := by decide +kernel
theorem dX11_areKnown_13 : decode cX11_areKnown 13 = .ok (.iaload, 1) := by decide +kernel
theorem dX11_areKnown_14 : decode cX11_areKnown 14 = .ok (.ifCond .ne 23, 3) := by decide +kernel
theorem dX11_areKnown_17 : decode cX11_areKnown 17 = .ok (.aload_n 0, 1) := by decide +kernel
theorem dX11_areKnown_18 : decode cX11_areKnown 18 = .ok (.getfield 197, 3) := by decide +kernel
theorem dX11_areKnown_21 : decode cX11_areKnown 21 = .ok (.iload_n 3, 1) := by decide +kernel
theorem dX11_areKnown_22 : decode cX11_areKnown 22 = .ok (.aload_n 0, 1) := by decide +kernel
theorem dX11_areKnown_23 : decode cX11_areKnown 23 = .ok (.iload_n 1, 1) := by decide +kernel
theorem dX11_areKnown_24 : decode cX11_areKnown 24 = .ok (.iload_n 2, 1) := by decide +kernel
theorem dX11_areKnown_25 : decode cX11_areKnown 25 = .ok (.invokevirtual 580, 3) := by decide +kernel
theorem dX11_areKnown_28 : decode cX11_areKnown 28 = .ok (.ifCond .eq 7, 3) := by decide +kernel
theorem dX11_areKnown_31 : decode cX11_areKnown 31 = .ok (.iconst 1, 1) := by decide +kernel
theorem dX11_areKnown_32 : decode cX11_areKnown 32 = .ok (.goto 4, 3) := by decide +kernel
theorem dX11_areKnown_35 : decode cX11_areKnown 35 = .ok (.iconst 2, 1) := by decide +kernel
theorem dX11_areKnown_36 : decode cX11_areKnown 36 = .ok (.iastore, 1) := by decide +kernel
theorem dX11_areKnown_37 : decode cX11_areKnown 37 = .ok (.aload_n 0, 1) := by decide +kernel
theorem dX11_areKnown_38 : decode cX11_areKnown 38 = .ok (.getfield 197, 3) := by decide +kernel
theorem dX11_areKnown_41 : decode cX11_areKnown 41 = .ok (.iload_n 3, 1) := by decide +kernel
theorem dX11_areKnown_42 : decode cX11_areKnown 42 = .ok (.iaload, 1) := by decide +kernel
theorem dX11_areKnown_43 : decode cX11_areKnown 43 = .ok (.iconst 1, 1) := by decide +kernel
theorem dX11_areKnown_44 : decode cX11_areKnown 44 = .ok (.if_icmp .ne 7, 3) := by decide +kernel
theorem dX11_areKnown_47 : decode cX11_areKnown 47 = .ok (.iconst 1, 1) := by decide +kernel
theorem dX11_areKnown_48 : decode cX11_areKnown 48 = .ok (.goto 4, 3) := by decide +kernel
theorem dX11_areKnown_51 : decode cX11_areKnown 51 = .ok (.iconst 0, 1) := by decide +kernel
theorem dX11_areKnown_52 : decode cX11_areKnown 52 = .ok (.ireturn, 1) := by decide +kernel
theorem dX11_areLawful_0 : decode cX11_areLawful 0 = .ok (.aload_n 0, 1) := by decide +kernel
theorem dX11_areLawful_1 : decode cX11_areLawful 1 = .ok (.getfield 145, 3) := by decide +kernel
theorem dX11_areLawful_4 : decode cX11_areLawful 4 = .ok (.iload_n 1, 1) := by decide +kernel
theorem dX11_areLawful_5 : decode cX11_areLawful 5 = .ok (.iaload, 1) := by decide +kernel
theorem dX11_areLawful_6 : decode cX11_areLawful 6 = .ok (.ifCond .eq 12, 3) := by decide +kernel
theorem dX11_areLawful_9 : decode cX11_areLawful 9 = .ok (.aload_n 0, 1) := by decide +kernel
theorem dX11_areLawful_10 : decode cX11_areLawful 10 = .ok (.getfield 145, 3) := by decide +kernel
theorem dX11_areLawful_13 : decode cX11_areLawful 13 = .ok (.iload_n 2, 1) := by decide +kernel
theorem dX11_areLawful_14 : decode cX11_areLawful 14 = .ok (.iaload, 1) := by decide +kernel
theorem dX11_areLawful_15 : decode cX11_areLawful 15 = .ok (.ifCond .ne 5, 3) := by decide +kernel
theorem dX11_areLawful_18 : decode cX11_areLawful 18 = .ok (.iconst 1, 1) := by decide +kernel
theorem dX11_areLawful_19 : decode cX11_areLawful 19 = .ok (.ireturn, 1) := by decide +kernel
theorem dX11_areLawful_20 : decode cX11_areLawful 20 = .ok (.aload_n 0, 1) := by decide +kernel
theorem dX11_areLawful_21 : decode cX11_areLawful 21 = .ok (.iload_n 1, 1) := by decide +kernel
theorem dX11_areLawful_22 : decode cX11_areLawful 22 = .ok (.iload_n 2, 1) := by decide +kernel
theorem dX11_areLawful_23 : decode cX11_areLawful 23 = .ok (.invokevirtual 562, 3) := by decide +kernel
theorem dX11_areLawful_26 : decode cX11_areLawful 26 = .ok (.ifCond .eq 25, 3) := by decide +kernel
theorem dX11_areLawful_29 : decode cX11_areLawful 29 = .ok (.aload_n 0, 1) := by decide +kernel
theorem dX11_areLawful_30 : decode cX11_areLawful 30 = .ok (.iload_n 1, 1) := by decide +kernel
theorem dX11_areLawful_31 : decode cX11_areLawful 31 = .ok (.iload_n 2, 1) := by decide +kernel
theorem dX11_areLawful_32 : decode cX11_areLawful 32 = .ok (.invokevirtual 565, 3) := by decide +kernel
theorem dX11_areLawful_35 : decode cX11_areLawful 35 = .ok (.ifCond .eq 16, 3) := by decide +kernel
theorem dX11_areLawful_38 : decode cX11_areLawful 38 = .ok (.aload_n 0, 1) := by decide +kernel
theorem dX11_areLawful_39 : decode cX11_areLawful 39 = .ok (.iload_n 2, 1) := by decide +kernel
theorem dX11_areLawful_40 : decode cX11_areLawful 40 = .ok (.iload_n 1, 1) := by decide +kernel
theorem dX11_areLawful_41 : decode cX11_areLawful 41 = .ok (.invokevirtual 565, 3) := by decide +kernel
theorem dX11_areLawful_44 : decode cX11_areLawful 44 = .ok (.ifCond .eq 7, 3) := by decide +kernel
theorem dX11_areLawful_47 : decode cX11_areLawful 47 = .ok (.iconst 1, 1) := by decide +kernel
theorem dX11_areLawful_48 : decode cX11_areLawful 48 = .ok (.goto 4, 3) := by decide +kernel
theorem dX11_areLawful_51 : decode cX11_areLawful 51 = .ok (.iconst 0, 1) := by decide +kernel
theorem dX11_areLawful_52 : decode cX11_areLawful 52 = .ok (.ireturn, 1) := by decide +kernel
theorem dX11_arePetals_0 : decode cX11_arePetals 0 = .ok (.bipush 24, 2) := by decide +kernel
theorem dX11_arePetals_2 : decode cX11_arePetals 2 = .ok (.iload_n 1, 1) := by decide +kernel
theorem dX11_arePetals_3 : decode cX11_arePetals 3 = .ok (.imul, 1) := by decide +kernel
theorem dX11_arePetals_4 : decode cX11_arePetals 4 = .ok (.istore 4, 2) := by decide +kernel
theorem dX11_arePetals_6 : decode cX11_arePetals 6 = .ok (.iload 4, 2) := by decide +kernel
theorem dX11_arePetals_8 : decode cX11_arePetals 8 = .ok (.bipush 24, 2) := by decide +kernel
theorem dX11_arePetals_10 : decode cX11_arePetals 10 = .ok (.iload_n 1, 1) := by decide +kernel
theorem dX11_arePetals_11 : decode cX11_arePetals 11 = .ok (.imul, 1) := by decide +kernel
theorem dX11_arePetals_12 : decode cX11_arePetals 12 = .ok (.aload_n 0, 1) := by decide +kernel
theorem dX11_arePetals_13 : decode cX11_arePetals 13 = .ok (.getfield 145, 3) := by decide +kernel
theorem dX11_arePetals_16 : decode cX11_arePetals 16 = .ok (.iload_n 1, 1) := by decide +kernel
theorem dX11_arePetals_17 : decode cX11_arePetals 17 = .ok (.iaload, 1) := by decide +kernel
theorem dX11_arePetals_18 : decode cX11_arePetals 18 = .ok (.iadd, 1) := by decide +kernel
theorem dX11_arePetals_19 : decode cX11_arePetals 19 = .ok (.if_icmp .ge 41, 3) := by decide +kernel
theorem dX11_arePetals_22 : decode cX11_arePetals 22 = .ok (.aload_n 0, 1) := by decide +kernel
theorem dX11_arePetals_23 : decode cX11_arePetals 23 = .ok (.getfield 151, 3) := by decide +kernel
theorem dX11_arePetals_26 : decode cX11_arePetals 26 = .ok (.iload 4, 2) := by decide +kernel
theorem dX11_arePetals_28 : decode cX11_arePetals 28 = .ok (.iaload, 1) := by decide +kernel
theorem dX11_arePetals_29 : decode cX11_arePetals 29 = .ok (.iload_n 2, 1) := by decide +kernel
theorem dX11_arePetals_30 : decode cX11_arePetals 30 = .ok (.if_icmp .ne 24, 3) := by decide +kernel
theorem dX11_arePetals_33 : decode cX11_arePetals 33 = .ok (.aload_n 0, 1) := by decide +kernel
theorem dX11_arePetals_34 : decode cX11_arePetals 34 = .ok (.iload_n 1, 1) := by decide +kernel
theorem dX11_arePetals_35 : decode cX11_arePetals 35 = .ok (.invokestatic 453, 3) := by decide +kernel
theorem dX11_arePetals_38 : decode cX11_arePetals 38 = .ok (.aload_n 0, 1) := by decide +kernel
theorem dX11_arePetals_39 : decode cX11_arePetals 39 = .ok (.getfield 154, 3) := by decide +kernel
theorem dX11_arePetals_42 : decode cX11_arePetals 42 = .ok (.iload 4, 2) := by decide +kernel
theorem dX11_arePetals_44 : decode cX11_arePetals 44 = .ok (.iaload, 1) := by decide +kernel
theorem dX11_arePetals_45 : decode cX11_arePetals 45 = .ok (.iload_n 3, 1) := by decide +kernel
theorem dX11_arePetals_46 : decode cX11_arePetals 46 = .ok (.invokevirtual 532, 3) := by decide +kernel
theorem dX11_arePetals_49 : decode cX11_arePetals 49 = .ok (.ifCond .eq 5, 3) := by decide +kernel
theorem dX11_arePetals_52 : decode cX11_arePetals 52 = .ok (.iconst 1, 1) := by decide +kernel
theorem dX11_arePetals_53 : decode cX11_arePetals 53 = .ok (.ireturn, 1) := by decide +kernel
theorem dX11_arePetals_54 : decode cX11_arePetals 54 = .ok (.iinc 4 1, 3) := by decide +kernel
theorem dX11_arePetals_57 : decode cX11_arePetals 57 = .ok (.goto (-51), 3) := by decide +kernel
theorem dX11_arePetals_60 : decode cX11_arePetals 60 = .ok (.iconst 0, 1) := by decide +kernel
theorem dX11_arePetals_61 : decode cX11_arePetals 61 = .ok (.ireturn, 1) := by decide +kernel
theorem dX11_arePetalsIn_0 : decode cX11_arePetalsIn 0 = .ok (.aload_n 0, 1) := by decide +kernel
theorem dX11_arePetalsIn_1 : decode cX11_arePetalsIn 1 = .ok (.getfield 145, 3) := by decide +kernel
theorem dX11_arePetalsIn_4 : decode cX11_arePetalsIn 4 = .ok (.iload_n 1, 1) := by decide +kernel
theorem dX11_arePetalsIn_5 : decode cX11_arePetalsIn 5 = .ok (.iaload, 1) := by decide +kernel
theorem dX11_arePetalsIn_6 : decode cX11_arePetalsIn 6 = .ok (.ifCond .le 36, 3) := by decide +kernel
theorem dX11_arePetalsIn_9 : decode cX11_arePetalsIn 9 = .ok (.aload_n 0, 1) := by decide +kernel
theorem dX11_arePetalsIn_10 : decode cX11_arePetalsIn 10 = .ok (.getfield 145, 3) := by decide +kernel
theorem dX11_arePetalsIn_13 : decode cX11_arePetalsIn 13 = .ok (.iload_n 2, 1) := by decide +kernel
theorem dX11_arePetalsIn_14 : decode cX11_arePetalsIn 14 = .ok (.iaload, 1) := by decide +kernel
theorem dX11_arePetalsIn_15 : decode cX11_arePetalsIn 15 = .ok (.ifCond .le 27, 3) := by decide +kernel
theorem dX11_arePetalsIn_18 : decode cX11_arePetalsIn 18 = .ok (.aload_n 0, 1) := by decide +kernel
theorem dX11_arePetalsIn_19 : decode cX11_arePetalsIn 19 = .ok (.iload_n 1, 1) := by decide +kernel
theorem dX11_arePetalsIn_20 : decode cX11_arePetalsIn 20 = .ok (.iload_n 2, 1) := by decide +kernel
theorem dX11_arePetalsIn_21 : decode cX11_arePetalsIn 21 = .ok (.iload_n 3, 1) := by decide +kernel
theorem dX11_arePetalsIn_22 : decode cX11_arePetalsIn 22 = .ok (.invokevirtual 543, 3) := by decide +kernel
theorem dX11_arePetalsIn_25 : decode cX11_arePetalsIn 25 = .ok (.ifCond .ne 13, 3) := by decide +kernel
theorem dX11_arePetalsIn_28 : decode cX11_arePetalsIn 28 = .ok (.aload_n 0, 1) := by decide +kernel
theorem dX11_arePetalsIn_29 : decode cX11_arePetalsIn 29 = .ok (.iload_n 2, 1) := by decide +kernel
theorem dX11_arePetalsIn_30 : decode cX11_arePetalsIn 30 = .ok (.iload_n 1, 1) := by decide +kernel
theorem dX11_arePetalsIn_31 : decode cX11_arePetalsIn 31 = .ok (.iload_n 3, 1) := by decide +kernel
theorem dX11_arePetalsIn_32 : decode cX11_arePetalsIn 32 = .ok (.invokevirtual 543, 3) := by decide +kernel
theorem dX11_arePetalsIn_35 : decode cX11_arePetalsIn 35 = .ok (.ifCond .eq 7, 3) := by decide +kernel
theorem dX11_arePetalsIn_38 : decode cX11_arePetalsIn 38 = .ok (.iconst 1, 1) := by decide +kernel
theorem dX11_arePetalsIn_39 : decode cX11_arePetalsIn 39 = .ok (.goto 4, 3) := by decide +kernel
theorem dX11_arePetalsIn_42 : decode cX11_arePetalsIn 42 = .ok (.iconst 0, 1) := by decide +kernel
theorem dX11_arePetalsIn_43 : decode cX11_arePetalsIn 43 = .ok (.ireturn, 1) := by decide +kernel
theorem dX11_areQuiet_0 : decode cX11_areQuiet 0 = .ok (.iload_n 1, 1) := by decide +kernel
theorem dX11_areQuiet_1 : decode cX11_areQuiet 1 = .ok (.invokestatic 453, 3) := by decide +kernel
theorem dX11_areQuiet_4 : decode cX11_areQuiet 4 = .ok (.istore_n 3, 1) := by decide +kernel
theorem dX11_areQuiet_5 : decode cX11_areQuiet 5 = .ok (.iload_n 2, 1) := by decide +kernel
theorem dX11_areQuiet_6 : decode cX11_areQuiet 6 = .ok (.invokestatic 453, 3) := by decide +kernel
theorem dX11_areQuiet_9 : decode cX11_areQuiet 9 = .ok (.istore 4, 2) := by decide +kernel
theorem dX11_areQuiet_11 : decode cX11_areQuiet 11 = .ok (.aload_n 0, 1) := by decide +kernel
theorem dX11_areQuiet_12 : decode cX11_areQuiet 12 = .ok (.iload_n 3, 1) := by decide +kernel
theorem dX11_areQuiet_13 : decode cX11_areQuiet 13 = .ok (.iload 4, 2) := by decide +kernel
theorem dX11_areQuiet_15 : decode cX11_areQuiet 15 = .ok (.invokevirtual 540, 3) := by decide +kernel
theorem dX11_areQuiet_18 : decode cX11_areQuiet 18 = .ok (.istore 5, 2) := by decide +kernel
theorem dX11_areQuiet_20 : decode cX11_areQuiet 20 = .ok (.iconst 0, 1) := by decide +kernel
theorem dX11_areQuiet_21 : decode cX11_areQuiet 21 = .ok (.istore 6, 2) := by decide +kernel
theorem dX11_areQuiet_23 : decode cX11_areQuiet 23 = .ok (.iload 6, 2) := by decide +kernel
theorem dX11_areQuiet_25 : decode cX11_areQuiet 25 = .ok (.aload_n 0, 1) := by decide +kernel
theorem dX11_areQuiet_26 : decode cX11_areQuiet 26 = .ok (.getfield 145, 3) := by decide +kernel
theorem dX11_areQuiet_29 : decode cX11_areQuiet 29 = .ok (.iload_n 1, 1) := by decide +kernel
theorem dX11_areQuiet_30 : decode cX11_areQuiet 30 = .ok (.iaload, 1) := by decide +kernel
theorem dX11_areQuiet_31 : decode cX11_areQuiet 31 = .ok (.if_icmp .gt 148, 3) := by decide +kernel
theorem dX11_areQuiet_34 : decode cX11_areQuiet 34 = .ok (.iconst 0, 1) := by decide +kernel
theorem dX11_areQuiet_35 : decode cX11_areQuiet 35 = .ok (.istore 7, 2) := by decide +kernel
theorem dX11_areQuiet_37 : decode cX11_areQuiet 37 = .ok (.iload 7, 2) := by decide +kernel
theorem dX11_areQuiet_39 : decode cX11_areQuiet 39 = .ok (.aload_n 0, 1) := by decide +kernel
theorem dX11_areQuiet_40 : decode cX11_areQuiet 40 = .ok (.getfield 145, 3) := by decide +kernel
theorem dX11_areQuiet_43 : decode cX11_areQuiet 43 = .ok (.iload_n 2, 1) := by decide +kernel
theorem dX11_areQuiet_44 : decode cX11_areQuiet 44 = .ok (.iaload, 1) := by decide +kernel
theorem dX11_areQuiet_45 : decode cX11_areQuiet 45 = .ok (.if_icmp .gt 128, 3) := by decide +kernel
theorem dX11_areQuiet_48 : decode cX11_areQuiet 48 = .ok (.aload_n 0, 1) := by decide +kernel
theorem dX11_areQuiet_49 : decode cX11_areQuiet 49 = .ok (.getfield 142, 3) := by decide +kernel
theorem dX11_areQuiet_52 : decode cX11_areQuiet 52 = .ok (.bipush 10, 2) := by decide +kernel
theorem dX11_areQuiet_54 : decode cX11_areQuiet 54 = .ok (.aload_n 0, 1) := by decide +kernel
theorem dX11_areQuiet_55 : decode cX11_areQuiet 55 = .ok (.iload_n 1, 1) := by decide +kernel
theorem dX11_areQuiet_56 : decode cX11_areQuiet 56 = .ok (.iload 6, 2) := by decide +kernel
theorem dX11_areQuiet_58 : decode cX11_areQuiet 58 = .ok (.invokevirtual 568, 3) := by decide +kernel
theorem dX11_areQuiet_61 : decode cX11_areQuiet 61 = .ok (.imul, 1) := by decide +kernel
theorem dX11_areQuiet_62 : decode cX11_areQuiet 62 = .ok (.aload_n 0, 1) := by decide +kernel
theorem dX11_areQuiet_63 : decode cX11_areQuiet 63 = .ok (.iload_n 2, 1) := by decide +kernel
theorem dX11_areQuiet_64 : decode cX11_areQuiet 64 = .ok (.iload 7, 2) := by decide +kernel
theorem dX11_areQuiet_66 : decode cX11_areQuiet 66 = .ok (.invokevirtual 568, 3) := by decide +kernel
theorem dX11_areQuiet_69 : decode cX11_areQuiet 69 = .ok (.iadd, 1) := by decide +kernel
theorem dX11_areQuiet_70 : decode cX11_areQuiet 70 = .ok (.iaload, 1) := by decide +kernel
theorem dX11_areQuiet_71 : decode cX11_areQuiet 71 = .ok (.istore 8, 2) := by decide +kernel
theorem dX11_areQuiet_73 : decode cX11_areQuiet 73 = .ok (.iload 8, 2) := by decide +kernel
theorem dX11_areQuiet_75 : decode cX11_areQuiet 75 = .ok (.iload 5, 2) := by decide +kernel
theorem dX11_areQuiet_77 : decode cX11_areQuiet 77 = .ok (.if_icmp .le 6, 3) := by decide +kernel
theorem dX11_areQuiet_80 : decode cX11_areQuiet 80 = .ok (.goto 87, 3) := by decide +kernel
theorem dX11_areQuiet_83 : decode cX11_areQuiet 83 = .ok (.aload_n 0, 1) := by decide +kernel
theorem dX11_areQuiet_84 : decode cX11_areQuiet 84 = .ok (.iload_n 1, 1) := by decide +kernel
theorem dX11_areQuiet_85 : decode cX11_areQuiet 85 = .ok (.iload 6, 2) := by decide +kernel
theorem dX11_areQuiet_87 : decode cX11_areQuiet 87 = .ok (.invokevirtual 571, 3) := by decide +kernel
theorem dX11_areQuiet_90 : decode cX11_areQuiet 90 = .ok (.aload_n 0, 1) := by decide +kernel
theorem dX11_areQuiet_91 : decode cX11_areQuiet 91 = .ok (.iload_n 2, 1) := by decide +kernel
theorem dX11_areQuiet_92 : decode cX11_areQuiet 92 = .ok (.iload 7, 2) := by decide +kernel
theorem dX11_areQuiet_94 : decode cX11_areQuiet 94 = .ok (.invokevirtual 571, 3) := by decide +kernel
theorem dX11_areQuiet_97 : decode cX11_areQuiet 97 = .ok (.invokestatic 574, 3) := by decide +kernel
theorem dX11_areQuiet_100 : decode cX11_areQuiet 100 = .ok (.aload_n 0, 1) := by decide +kernel
theorem dX11_areQuiet_101 : decode cX11_areQuiet 101 = .ok (.iload_n 1, 1) := by decide +kernel
theorem dX11_areQuiet_102 : decode cX11_areQuiet 102 = .ok (.invokevirtual 459, 3) := by decide +kernel
theorem dX11_areQuiet_105 : decode cX11_areQuiet 105 = .ok (.aload_n 0, 1) := by decide +kernel
theorem dX11_areQuiet_106 : decode cX11_areQuiet 106 = .ok (.iload_n 2, 1) := by decide +kernel
theorem dX11_areQuiet_107 : decode cX11_areQuiet 107 = .ok (.invokevirtual 459, 3) := by decide +kernel
theorem dX11_areQuiet_110 : decode cX11_areQuiet 110 = .ok (.invokestatic 574, 3) := by decide +kernel
theorem dX11_areQuiet_113 : decode cX11_areQuiet 113 = .ok (.invokestatic 574, 3) := by decide +kernel
theorem dX11_areQuiet_116 : decode cX11_areQuiet 116 = .ok (.istore 9, 2) := by decide +kernel
theorem dX11_areQuiet_118 : decode cX11_areQuiet 118 = .ok (.aload_n 0, 1) := by decide +kernel
theorem dX11_areQuiet_119 : decode cX11_areQuiet 119 = .ok (.iload_n 1, 1) := by decide +kernel
theorem dX11_areQuiet_120 : decode cX11_areQuiet 120 = .ok (.iload 6, 2) := by decide +kernel
theorem dX11_areQuiet_122 : decode cX11_areQuiet 122 = .ok (.invokevirtual 518, 3) := by decide +kernel
theorem dX11_areQuiet_125 : decode cX11_areQuiet 125 = .ok (.aload_n 0, 1) := by decide +kernel
theorem dX11_areQuiet_126 : decode cX11_areQuiet 126 = .ok (.iload_n 2, 1) := by decide +kernel
theorem dX11_areQuiet_127 : decode cX11_areQuiet 127 = .ok (.iload 7, 2) := by decide +kernel
theorem dX11_areQuiet_129 : decode cX11_areQuiet 129 = .ok (.invokevirtual 518, 3) := by decide +kernel
theorem dX11_areQuiet_132 : decode cX11_areQuiet 132 = .ok (.invokestatic 577, 3) := by decide +kernel
theorem dX11_areQuiet_135 : decode cX11_areQuiet 135 = .ok (.istore 10, 2) := by decide +kernel
theorem dX11_areQuiet_137 : decode cX11_areQuiet 137 = .ok (.iload 10, 2) := by decide +kernel
theorem dX11_areQuiet_139 : decode cX11_areQuiet 139 = .ok (.iload 9, 2) := by decide +kernel
theorem dX11_areQuiet_141 : decode cX11_areQuiet 141 = .ok (.if_icmp .gt 26, 3) := by decide +kernel
theorem dX11_areQuiet_144 : decode cX11_areQuiet 144 = .ok (.aload_n 0, 1) := by decide +kernel
theorem dX11_areQuiet_145 : decode cX11_areQuiet 145 = .ok (.iload 10, 2) := by decide +kernel
theorem dX11_areQuiet_147 : decode cX11_areQuiet 147 = .ok (.iconst 0, 1) := by decide +kernel
theorem dX11_areQuiet_148 : decode cX11_areQuiet 148 = .ok (.iload 8, 2) := by decide +kernel
theorem dX11_areQuiet_150 : decode cX11_areQuiet 150 = .ok (.iload_n 3, 1) := by decide +kernel
theorem dX11_areQuiet_151 : decode cX11_areQuiet 151 = .ok (.iload 4, 2) := by decide +kernel
theorem dX11_areQuiet_153 : decode cX11_areQuiet 153 = .ok (.invokevirtual 555, 3) := by decide +kernel
theorem dX11_areQuiet_156 : decode cX11_areQuiet 156 = .ok (.ifCond .ne 5, 3) := by decide +kernel
theorem dX11_areQuiet_159 : decode cX11_areQuiet 159 = .ok (.iconst 0, 1) := by decide +kernel
theorem dX11_areQuiet_160 : decode cX11_areQuiet 160 = .ok (.ireturn, 1) := by decide +kernel
theorem dX11_areQuiet_161 : decode cX11_areQuiet 161 = .ok (.iinc 10 1, 3) := by decide +kernel
theorem dX11_areQuiet_164 : decode cX11_areQuiet 164 = .ok (.goto (-27), 3) := by decide +kernel
theorem dX11_areQuiet_167 : decode cX11_areQuiet 167 = .ok (.iinc 7 1, 3) := by decide +kernel
theorem dX11_areQuiet_170 : decode cX11_areQuiet 170 = .ok (.goto (-133), 3) := by decide +kernel
theorem dX11_areQuiet_173 : decode cX11_areQuiet 173 = .ok (.iinc 6 1, 3) := by decide +kernel
theorem dX11_areQuiet_176 : decode cX11_areQuiet 176 = .ok (.goto (-153), 3) := by decide +kernel
theorem dX11_areQuiet_179 : decode cX11_areQuiet 179 = .ok (.iconst 1, 1) := by decide +kernel
theorem dX11_areQuiet_180 : decode cX11_areQuiet 180 = .ok (.ireturn, 1) := by decide +kernel
theorem dX11_asks_0 : decode cX11_asks 0 = .ok (.aload_n 0, 1) := by decide +kernel
theorem dX11_asks_1 : decode cX11_asks 1 = .ok (.getfield 224, 3) := by decide +kernel
theorem dX11_asks_4 : decode cX11_asks 4 = .ok (.ifCond .ne 20, 3) := by decide +kernel
theorem dX11_asks_7 : decode cX11_asks 7 = .ok (.aload_n 0, 1) := by decide +kernel
theorem dX11_asks_8 : decode cX11_asks 8 = .ok (.aload_n 1, 1) := by decide +kernel
theorem dX11_asks_9 : decode cX11_asks 9 = .ok (.invokevirtual 251, 3) := by decide +kernel
theorem dX11_asks_12 : decode cX11_asks 12 = .ok (.ifCond .ne 12, 3) := by decide +kernel
theorem dX11_asks_15 : decode cX11_asks 15 = .ok (.aload_n 0, 1) := by decide +kernel
theorem dX11_asks_16 : decode cX11_asks 16 = .ok (.iconst 1, 1) := by decide +kernel
theorem dX11_asks_17 : decode cX11_asks 17 = .ok (.aload_n 0, 1) := by decide +kernel
theorem dX11_asks_18 : decode cX11_asks 18 = .ok (.getfield 230, 3) := by decide +kernel
theorem dX11_asks_21 : decode cX11_asks 21 = .ok (.invokevirtual 254, 3) := by decide +kernel
theorem dX11_asks_24 : decode cX11_asks 24 = .ok (.return_, 1) := by decide +kernel
theorem dX11_asksSign_0 : decode cX11_asksSign 0 = .ok (.aload_n 0, 1) := by decide +kernel
theorem dX11_asksSign_1 : decode cX11_asksSign 1 = .ok (.getfield 224, 3) := by decide +kernel
theorem dX11_asksSign_4 : decode cX11_asksSign 4 = .ok (.ifCond .ne 20, 3) := by decide +kernel
theorem dX11_asksSign_7 : decode cX11_asksSign 7 = .ok (.aload_n 0, 1) := by decide +kernel
theorem dX11_asksSign_8 : decode cX11_asksSign 8 = .ok (.iload_n 1, 1) := by decide +kernel
theorem dX11_asksSign_9 : decode cX11_asksSign 9 = .ok (.invokevirtual 258, 3) := by decide +kernel
theorem dX11_asksSign_12 : decode cX11_asksSign 12 = .ok (.ifCond .ne 12, 3) := by decide +kernel
theorem dX11_asksSign_15 : decode cX11_asksSign 15 = .ok (.aload_n 0, 1) := by decide +kernel
theorem dX11_asksSign_16 : decode cX11_asksSign 16 = .ok (.iconst 1, 1) := by decide +kernel
theorem dX11_asksSign_17 : decode cX11_asksSign 17 = .ok (.aload_n 0, 1) := by decide +kernel
theorem dX11_asksSign_18 : decode cX11_asksSign 18 = .ok (.getfield 230, 3) := by decide +kernel
theorem dX11_asksSign_21 : decode cX11_asksSign 21 = .ok (.invokevirtual 254, 3) := by decide +kernel
theorem dX11_asksSign_24 : decode cX11_asksSign 24 = .ok (.return_, 1) := by decide +kernel
theorem dX11_back_0 : decode cX11_back 0 = .ok (.aload_n 0, 1) := by decide +kernel
theorem dX11_back_1 : decode cX11_back 1 = .ok (.getfield 221, 3) := by decide +kernel
theorem dX11_back_4 : decode cX11_back 4 = .ok (.istore_n 1, 1) := by decide +kernel
theorem dX11_back_5 : decode cX11_back 5 = .ok (.aload_n 0, 1) := by decide +kernel
theorem dX11_back_6 : decode cX11_back 6 = .ok (.iconst 0, 1) := by decide +kernel
theorem dX11_back_7 : decode cX11_back 7 = .ok (.putfield 221, 3) := by decide +kernel
theorem dX11_back_10 : decode cX11_back 10 = .ok (.aload_n 0, 1) := by decide +kernel
theorem dX11_back_11 : decode cX11_back 11 = .ok (.iload_n 1, 1) := by decide +kernel
theorem dX11_back_12 : decode cX11_back 12 = .ok (.invokevirtual 690, 3) := by decide +kernel
theorem dX11_back_15 : decode cX11_back 15 = .ok (.ifCond .ne 5, 3) := by decide +kernel
theorem dX11_back_18 : decode cX11_back 18 = .ok (.iconst 0, 1) := by decide +kernel
theorem dX11_back_19 : decode cX11_back 19 = .ok (.ireturn, 1) := by decide +kernel
theorem dX11_back_20 : decode cX11_back 20 = .ok (.iconst 0, 1) := by decide +kernel
theorem dX11_back_21 : decode cX11_back 21 = .ok (.istore_n 2, 1) := by decide +kernel
theorem dX11_back_22 : decode cX11_back 22 = .ok (.iload_n 2, 1) := by decide +kernel
theorem dX11_back_23 : decode cX11_back 23 = .ok (.aload_n 0, 1) := by decide +kernel
theorem dX11_back_24 : decode cX11_back 24 = .ok (.invokevirtual 447, 3) := by decide +kernel
theorem dX11_back_27 : decode cX11_back 27 = .ok (.if_icmp .ge 19, 3) := by decide +kernel
theorem dX11_back_30 : decode cX11_back 30 = .ok (.aload_n 0, 1) := by decide +kernel
theorem dX11_back_31 : decode cX11_back 31 = .ok (.iload_n 2, 1) := by decide +kernel
theorem dX11_back_32 : decode cX11_back 32 = .ok (.iload_n 2, 1) := by decide +kernel
theorem dX11_back_33 : decode cX11_back 33 = .ok (.iconst 0, 1) := by decide +kernel
theorem dX11_back_34 : decode cX11_back 34 = .ok (.invokestatic 604, 3) := by decide +kernel
theorem dX11_back_37 : decode cX11_back 37 = .ok (.invokevirtual 654, 3) := by decide +kernel
theorem dX11_back_40 : decode cX11_back 40 = .ok (.iinc 2 1, 3) := by decide +kernel
theorem dX11_back_43 : decode cX11_back 43 = .ok (.goto (-21), 3) := by decide +kernel
theorem dX11_back_46 : decode cX11_back 46 = .ok (.aload_n 0, 1) := by decide +kernel
theorem dX11_back_47 : decode cX11_back 47 = .ok (.sipush 256, 3) := by decide +kernel
theorem dX11_back_50 : decode cX11_back 50 = .ok (.aload_n 0, 1) := by decide +kernel
theorem dX11_back_51 : decode cX11_back 51 = .ok (.getfield 7, 3) := by decide +kernel
theorem dX11_back_54 : decode cX11_back 54 = .ok (.iload_n 1, 1) := by decide +kernel
theorem dX11_back_55 : decode cX11_back 55 = .ok (.iconst 4, 1) := by decide +kernel
theorem dX11_back_56 : decode cX11_back 56 = .ok (.isub, 1) := by decide +kernel
theorem dX11_back_57 : decode cX11_back 57 = .ok (.iaload, 1) := by decide +kernel
theorem dX11_back_58 : decode cX11_back 58 = .ok (.imul, 1) := by decide +kernel
theorem dX11_back_59 : decode cX11_back 59 = .ok (.aload_n 0, 1) := by decide +kernel
theorem dX11_back_60 : decode cX11_back 60 = .ok (.getfield 7, 3) := by decide +kernel
theorem dX11_back_63 : decode cX11_back 63 = .ok (.iload_n 1, 1) := by decide +kernel
theorem dX11_back_64 : decode cX11_back 64 = .ok (.iconst 3, 1) := by decide +kernel
theorem dX11_back_65 : decode cX11_back 65 = .ok (.isub, 1) := by decide +kernel
theorem dX11_back_66 : decode cX11_back 66 = .ok (.iaload, 1) := by decide +kernel
theorem dX11_back_67 : decode cX11_back 67 = .ok (.iadd, 1) := by decide +kernel
theorem dX11_back_68 : decode cX11_back 68 = .ok (.putfield 358, 3) := by decide +kernel
theorem dX11_back_71 : decode cX11_back 71 = .ok (.aload_n 0, 1) := by decide +kernel
theorem dX11_back_72 : decode cX11_back 72 = .ok (.aload_n 0, 1) := by decide +kernel
theorem dX11_back_73 : decode cX11_back 73 = .ok (.getfield 7, 3) := by decide +kernel
theorem dX11_back_76 : decode cX11_back 76 = .ok (.iload_n 1, 1) := by decide +kernel
theorem dX11_back_77 : decode cX11_back 77 = .ok (.iconst 2, 1) := by decide +kernel
theorem dX11_back_78 : decode cX11_back 78 = .ok (.isub, 1) := by decide +kernel
theorem dX11_back_79 : decode cX11_back 79 = .ok (.iaload, 1) := by decide +kernel
theorem dX11_back_80 : decode cX11_back 80 = .ok (.putfield 361, 3) := by decide +kernel
theorem dX11_back_83 : decode cX11_back 83 = .ok (.aload_n 0, 1) := by decide +kernel
theorem dX11_back_84 : decode cX11_back 84 = .ok (.iconst 0, 1) := by decide +kernel
theorem dX11_back_85 : decode cX11_back 85 = .ok (.putfield 364, 3) := by decide +kernel
theorem dX11_back_88 : decode cX11_back 88 = .ok (.iconst 1, 1) := by decide +kernel
theorem dX11_back_89 : decode cX11_back 89 = .ok (.ireturn, 1) := by decide +kernel
theorem dX11_bars_0 : decode cX11_bars 0 = .ok (.aload_n 0, 1) := by decide +kernel
theorem dX11_bars_1 : decode cX11_bars 1 = .ok (.invokevirtual 644, 3) := by decide +kernel
theorem dX11_bars_4 : decode cX11_bars 4 = .ok (.iconst 0, 1) := by decide +kernel
theorem dX11_bars_5 : decode cX11_bars 5 = .ok (.istore_n 1, 1) := by decide +kernel
theorem dX11_bars_6 : decode cX11_bars 6 = .ok (.iconst 0, 1) := by decide +kernel
theorem dX11_bars_7 : decode cX11_bars 7 = .ok (.istore_n 2, 1) := by decide +kernel
theorem dX11_bars_8 : decode cX11_bars 8 = .ok (.iload_n 2, 1) := by decide +kernel
theorem dX11_bars_9 : decode cX11_bars 9 = .ok (.aload_n 0, 1) := by decide +kernel
theorem dX11_bars_10 : decode cX11_bars 10 = .ok (.invokevirtual 447, 3) := by decide +kernel
theorem dX11_bars_13 : decode cX11_bars 13 = .ok (.if_icmp .gt 57, 3) := by decide +kernel
theorem dX11_bars_16 : decode cX11_bars 16 = .ok (.iconst 0, 1) := by decide +kernel
theorem dX11_bars_17 : decode cX11_bars 17 = .ok (.istore_n 3, 1) := by decide +kernel
theorem dX11_bars_18 : decode cX11_bars 18 = .ok (.iload_n 3, 1) := by decide +kernel
theorem dX11_bars_19 : decode cX11_bars 19 = .ok (.aload_n 0, 1) := by decide +kernel
theorem dX11_bars_20 : decode cX11_bars 20 = .ok (.invokevirtual 647, 3) := by decide +kernel
theorem dX11_bars_23 : decode cX11_bars 23 = .ok (.if_icmp .gt 41, 3) := by decide +kernel
theorem dX11_bars_26 : decode cX11_bars 26 = .ok (.iload_n 3, 1) := by decide +kernel
theorem dX11_bars_27 : decode cX11_bars 27 = .ok (.invokestatic 468, 3) := by decide +kernel
theorem dX11_bars_30 : decode cX11_bars 30 = .ok (.iload_n 2, 1) := by decide +kernel
theorem dX11_bars_31 : decode cX11_bars 31 = .ok (.if_icmp .eq 6, 3) := by decide +kernel
theorem dX11_bars_34 : decode cX11_bars 34 = .ok (.goto 24, 3) := by decide +kernel
theorem dX11_bars_37 : decode cX11_bars 37 = .ok (.iload_n 3, 1) := by decide +kernel
theorem dX11_bars_38 : decode cX11_bars 38 = .ok (.istore_n 1, 1) := by decide +kernel
theorem dX11_bars_39 : decode cX11_bars 39 = .ok (.aload_n 0, 1) := by decide +kernel
theorem dX11_bars_40 : decode cX11_bars 40 = .ok (.aload_n 0, 1) := by decide +kernel
theorem dX11_bars_41 : decode cX11_bars 41 = .ok (.invokevirtual 647, 3) := by decide +kernel
theorem dX11_bars_44 : decode cX11_bars 44 = .ok (.iload_n 3, 1) := by decide +kernel
theorem dX11_bars_45 : decode cX11_bars 45 = .ok (.iconst (-1), 1) := by decide +kernel
theorem dX11_bars_46 : decode cX11_bars 46 = .ok (.ixor, 1) := by decide +kernel
theorem dX11_bars_47 : decode cX11_bars 47 = .ok (.iand, 1) := by decide +kernel
theorem dX11_bars_48 : decode cX11_bars 48 = .ok (.iconst 0, 1) := by decide +kernel
theorem dX11_bars_49 : decode cX11_bars 49 = .ok (.iconst 1, 1) := by decide +kernel
theorem dX11_bars_50 : decode cX11_bars 50 = .ok (.invokevirtual 650, 3) := by decide +kernel
theorem dX11_bars_53 : decode cX11_bars 53 = .ok (.ifCond .eq 5, 3) := by decide +kernel
theorem dX11_bars_56 : decode cX11_bars 56 = .ok (.iload_n 1, 1) := by decide +kernel
theorem dX11_bars_57 : decode cX11_bars 57 = .ok (.ireturn, 1) := by decide +kernel
theorem dX11_bars_58 : decode cX11_bars 58 = .ok (.iinc 3 1, 3) := by decide +kernel
theorem dX11_bars_61 : decode cX11_bars 61 = .ok (.goto (-43), 3) := by decide +kernel
theorem dX11_bars_64 : decode cX11_bars 64 = .ok (.iinc 2 1, 3) := by decide +kernel
theorem dX11_bars_67 : decode cX11_bars 67 = .ok (.goto (-59), 3) := by decide +kernel
theorem dX11_bars_70 : decode cX11_bars 70 = .ok (.iload_n 1, 1) := by decide +kernel
theorem dX11_bars_71 : decode cX11_bars 71 = .ok (.ireturn, 1) := by decide +kernel
theorem dX11_bitAt_0 : decode cX11_bitAt 0 = .ok (.iconst 0, 1) := by decide +kernel
theorem dX11_bitAt_1 : decode cX11_bitAt 1 = .ok (.istore_n 2, 1) := by decide +kernel
theorem dX11_bitAt_2 : decode cX11_bitAt 2 = .ok (.iconst 0, 1) := by decide +kernel
theorem dX11_bitAt_3 : decode cX11_bitAt 3 = .ok (.istore_n 3, 1) := by decide +kernel
theorem dX11_bitAt_4 : decode cX11_bitAt 4 = .ok (.iload_n 3, 1) := by decide +kernel
theorem dX11_bitAt_5 : decode cX11_bitAt 5 = .ok (.bipush 16, 2) := by decide +kernel
theorem dX11_bitAt_7 : decode cX11_bitAt 7 = .ok (.if_icmp .ge 30, 3) := by decide +kernel
theorem dX11_bitAt_10 : decode cX11_bitAt 10 = .ok (.iload_n 0, 1) := by decide +kernel
theorem dX11_bitAt_11 : decode cX11_bitAt 11 = .ok (.iload_n 3, 1) := by decide +kernel
theorem dX11_bitAt_12 : decode cX11_bitAt 12 = .ok (.ishr, 1) := by decide +kernel
theorem dX11_bitAt_13 : decode cX11_bitAt 13 = .ok (.iconst 1, 1) := by decide +kernel
theorem dX11_bitAt_14 : decode cX11_bitAt 14 = .ok (.iand, 1) := by decide +kernel
theorem dX11_bitAt_15 : decode cX11_bitAt 15 = .ok (.ifCond .ne 6, 3) := by decide +kernel
theorem dX11_bitAt_18 : decode cX11_bitAt 18 = .ok (.goto 13, 3) := by decide +kernel
theorem dX11_bitAt_21 : decode cX11_bitAt 21 = .ok (.iload_n 2, 1) := by decide +kernel
theorem dX11_bitAt_22 : decode cX11_bitAt 22 = .ok (.iload_n 1, 1) := by decide +kernel
theorem dX11_bitAt_23 : decode cX11_bitAt 23 = .ok (.if_icmp .ne 5, 3) := by decide +kernel
theorem dX11_bitAt_26 : decode cX11_bitAt 26 = .ok (.iload_n 3, 1) := by decide +kernel
theorem dX11_bitAt_27 : decode cX11_bitAt 27 = .ok (.ireturn, 1) := by decide +kernel
theorem dX11_bitAt_28 : decode cX11_bitAt 28 = .ok (.iinc 2 1, 3) := by decide +kernel
theorem dX11_bitAt_31 : decode cX11_bitAt 31 = .ok (.iinc 3 1, 3) := by decide +kernel
theorem dX11_bitAt_34 : decode cX11_bitAt 34 = .ok (.goto (-30), 3) := by decide +kernel
theorem dX11_bitAt_37 : decode cX11_bitAt 37 = .ok (.iconst (-1), 1) := by decide +kernel
theorem dX11_bitAt_38 : decode cX11_bitAt 38 = .ok (.ireturn, 1) := by decide +kernel
theorem dX11_bits_0 : decode cX11_bits 0 = .ok (.iconst 0, 1) := by decide +kernel
theorem dX11_bits_1 : decode cX11_bits 1 = .ok (.istore_n 1, 1) := by decide +kernel
theorem dX11_bits_2 : decode cX11_bits 2 = .ok (.iload_n 0, 1) := by decide +kernel
theorem dX11_bits_3 : decode cX11_bits 3 = .ok (.istore_n 2, 1) := by decide +kernel
theorem dX11_bits_4 : decode cX11_bits 4 = .ok (.iload_n 2, 1) := by decide +kernel
theorem dX11_bits_5 : decode cX11_bits 5 = .ok (.ifCond .eq 15, 3) := by decide +kernel
theorem dX11_bits_8 : decode cX11_bits 8 = .ok (.iinc 1 1, 3) := by decide +kernel
theorem dX11_bits_11 : decode cX11_bits 11 = .ok (.iload_n 2, 1) := by decide +kernel
theorem dX11_bits_12 : decode cX11_bits 12 = .ok (.iload_n 2, 1) := by decide +kernel
theorem dX11_bits_13 : decode cX11_bits 13 = .ok (.iconst 1, 1) := by decide +kernel
theorem dX11_bits_14 : decode cX11_bits 14 = .ok (.isub, 1) := by decide +kernel
theorem dX11_bits_15 : decode cX11_bits 15 = .ok (.iand, 1) := by decide +kernel
theorem dX11_bits_16 : decode cX11_bits 16 = .ok (.istore_n 2, 1) := by decide +kernel
theorem dX11_bits_17 : decode cX11_bits 17 = .ok (.goto (-13), 3) := by decide +kernel
theorem dX11_bits_20 : decode cX11_bits 20 = .ok (.iload_n 1, 1) := by decide +kernel
theorem dX11_bits_21 : decode cX11_bits 21 = .ok (.ireturn, 1) := by decide +kernel
theorem dX11_but_0 : decode cX11_but 0 = .ok (.iload_n 1, 1) := by decide +kernel
theorem dX11_but_1 : decode cX11_but 1 = .ok (.i2l, 1) := by decide +kernel
theorem dX11_but_2 : decode cX11_but 2 = .ok (.lconst 0, 1) := by decide +kernel
theorem dX11_but_3 : decode cX11_but 3 = .ok (.iconst 1, 1) := by decide +kernel
theorem dX11_but_4 : decode cX11_but 4 = .ok (.aload_n 0, 1) := by decide +kernel
theorem dX11_but_5 : decode cX11_but 5 = .ok (.invokevirtual 438, 3) := by decide +kernel
theorem dX11_but_8 : decode cX11_but 8 = .ok (.ishl, 1) := by decide +kernel
theorem dX11_but_9 : decode cX11_but 9 = .ok (.iconst 1, 1) := by decide +kernel
theorem dX11_but_10 : decode cX11_but 10 = .ok (.isub, 1) := by decide +kernel
theorem dX11_but_11 : decode cX11_but 11 = .ok (.i2l, 1) := by decide +kernel
theorem dX11_but_12 : decode cX11_but 12 = .ok (.invokestatic 264, 3) := by decide +kernel
theorem dX11_but_15 : decode cX11_but 15 = .ok (.ifCond .eq 11, 3) := by decide +kernel
theorem dX11_but_18 : decode cX11_but 18 = .ok (.iload_n 1, 1) := by decide +kernel
theorem dX11_but_19 : decode cX11_but 19 = .ok (.aload_n 0, 1) := by decide +kernel
theorem dX11_but_20 : decode cX11_but 20 = .ok (.getfield 361, 3) := by decide +kernel
theorem dX11_but_23 : decode cX11_but 23 = .ok (.if_icmp .ne 5, 3) := by decide +kernel
theorem dX11_but_26 : decode cX11_but 26 = .ok (.iconst 0, 1) := by decide +kernel
theorem dX11_but_27 : decode cX11_but 27 = .ok (.ireturn, 1) := by decide +kernel
theorem dX11_but_28 : decode cX11_but 28 = .ok (.aload_n 0, 1) := by decide +kernel
theorem dX11_but_29 : decode cX11_but 29 = .ok (.invokevirtual 509, 3) := by decide +kernel
theorem dX11_but_32 : decode cX11_but 32 = .ok (.aload_n 0, 1) := by decide +kernel
theorem dX11_but_33 : decode cX11_but 33 = .ok (.iload_n 1, 1) := by decide +kernel
theorem dX11_but_34 : decode cX11_but 34 = .ok (.putfield 361, 3) := by decide +kernel
theorem dX11_but_37 : decode cX11_but 37 = .ok (.iconst 1, 1) := by decide +kernel
theorem dX11_but_38 : decode cX11_but 38 = .ok (.ireturn, 1) := by decide +kernel
theorem dX11_canBeBetter_0 : decode cX11_canBeBetter 0 = .ok (.aload_n 0, 1) := by decide +kernel
theorem dX11_canBeBetter_1 : decode cX11_canBeBetter 1 = .ok (.getfield 619, 3) := by decide +kernel
theorem dX11_canBeBetter_4 : decode cX11_canBeBetter 4 = .ok (.iconst (-1), 1) := by decide +kernel
theorem dX11_canBeBetter_5 : decode cX11_canBeBetter 5 = .ok (.if_icmp .ne 5, 3) := by decide +kernel
theorem dX11_canBeBetter_8 : decode cX11_canBeBetter 8 = .ok (.iconst 1, 1) := by decide +kernel
theorem dX11_canBeBetter_9 : decode cX11_canBeBetter 9 = .ok (.ireturn, 1) := by decide +kernel
theorem dX11_canBeBetter_10 : decode cX11_canBeBetter 10 = .ok (.iload_n 3, 1) := by decide +kernel
theorem dX11_canBeBetter_11 : decode cX11_canBeBetter 11 = .ok (.ifCond .eq 12, 3) := by decide +kernel
theorem dX11_canBeBetter_14 : decode cX11_canBeBetter 14 = .ok (.aload_n 0, 1) := by decide +kernel
theorem dX11_canBeBetter_15 : decode cX11_canBeBetter 15 = .ok (.iload_n 1, 1) := by decide +kernel
theorem dX11_canBeBetter_16 : decode cX11_canBeBetter 16 = .ok (.iload_n 2, 1) := by decide +kernel
theorem dX11_canBeBetter_17 : decode cX11_canBeBetter 17 = .ok (.invokevirtual 622, 3) := by decide +kernel
theorem dX11_canBeBetter_20 : decode cX11_canBeBetter 20 = .ok (.goto 4, 3) := by decide +kernel
theorem dX11_canBeBetter_23 : decode cX11_canBeBetter 23 = .ok (.iconst 0, 1) := by decide +kernel
theorem dX11_canBeBetter_24 : decode cX11_canBeBetter 24 = .ok (.istore 4, 2) := by decide +kernel
theorem dX11_canBeBetter_26 : decode cX11_canBeBetter 26 = .ok (.iload 4, 2) := by decide +kernel
theorem dX11_canBeBetter_28 : decode cX11_canBeBetter 28 = .ok (.aload_n 0, 1) := by decide +kernel
theorem dX11_canBeBetter_29 : decode cX11_canBeBetter 29 = .ok (.getfield 625, 3) := by decide +kernel
theorem dX11_canBeBetter_32 : decode cX11_canBeBetter 32 = .ok (.if_icmp .lt 25, 3) := by decide +kernel
theorem dX11_canBeBetter_35 : decode cX11_canBeBetter 35 = .ok (.iload 4, 2) := by decide +kernel
theorem dX11_canBeBetter_37 : decode cX11_canBeBetter 37 = .ok (.aload_n 0, 1) := by decide +kernel
theorem dX11_canBeBetter_38 : decode cX11_canBeBetter 38 = .ok (.getfield 625, 3) := by decide +kernel
theorem dX11_canBeBetter_41 : decode cX11_canBeBetter 41 = .ok (.if_icmp .ne 20, 3) := by decide +kernel
theorem dX11_canBeBetter_44 : decode cX11_canBeBetter 44 = .ok (.aload_n 0, 1) := by decide +kernel
theorem dX11_canBeBetter_45 : decode cX11_canBeBetter 45 = .ok (.iload_n 1, 1) := by decide +kernel
theorem dX11_canBeBetter_46 : decode cX11_canBeBetter 46 = .ok (.iload_n 2, 1) := by decide +kernel
theorem dX11_canBeBetter_47 : decode cX11_canBeBetter 47 = .ok (.invokevirtual 628, 3) := by decide +kernel
theorem dX11_canBeBetter_50 : decode cX11_canBeBetter 50 = .ok (.aload_n 0, 1) := by decide +kernel
theorem dX11_canBeBetter_51 : decode cX11_canBeBetter 51 = .ok (.getfield 619, 3) := by decide +kernel
theorem dX11_canBeBetter_54 : decode cX11_canBeBetter 54 = .ok (.if_icmp .ge 7, 3) := by decide +kernel
theorem dX11_canBeBetter_57 : decode cX11_canBeBetter 57 = .ok (.iconst 1, 1) := by decide +kernel
theorem dX11_canBeBetter_58 : decode cX11_canBeBetter 58 = .ok (.goto 4, 3) := by decide +kernel
theorem dX11_canBeBetter_61 : decode cX11_canBeBetter 61 = .ok (.iconst 0, 1) := by decide +kernel
theorem dX11_canBeBetter_62 : decode cX11_canBeBetter 62 = .ok (.ireturn, 1) := by decide +kernel
theorem dX11_canCome_0 : decode cX11_canCome 0 = .ok (.aload_n 0, 1) := by decide +kernel
theorem dX11_canCome_1 : decode cX11_canCome 1 = .ok (.aload_n 0, 1) := by decide +kernel
theorem dX11_canCome_2 : decode cX11_canCome 2 = .ok (.getfield 193, 3) := by decide +kernel
theorem dX11_canCome_5 : decode cX11_canCome 5 = .ok (.iload_n 1, 1) := by decide +kernel
theorem dX11_canCome_6 : decode cX11_canCome 6 = .ok (.iconst 1, 1) := by decide +kernel
theorem dX11_canCome_7 : decode cX11_canCome 7 = .ok (.isub, 1) := by decide +kernel
theorem dX11_canCome_8 : decode cX11_canCome 8 = .ok (.iaload, 1) := by decide +kernel
theorem dX11_canCome_9 : decode cX11_canCome 9 = .ok (.iload_n 2, 1) := by decide +kernel
theorem dX11_canCome_10 : decode cX11_canCome 10 = .ok (.invokevirtual 496, 3) := by decide +kernel
theorem dX11_canCome_13 : decode cX11_canCome 13 = .ok (.istore 4, 2) := by decide +kernel
theorem dX11_canCome_15 : decode cX11_canCome 15 = .ok (.iload 4, 2) := by decide +kernel
theorem dX11_canCome_17 : decode cX11_canCome 17 = .ok (.iconst (-1), 1) := by decide +kernel
theorem dX11_canCome_18 : decode cX11_canCome 18 = .ok (.if_icmp .eq 32, 3) := by decide +kernel
theorem dX11_canCome_21 : decode cX11_canCome 21 = .ok (.aload_n 0, 1) := by decide +kernel
theorem dX11_canCome_22 : decode cX11_canCome 22 = .ok (.iload 4, 2) := by decide +kernel
theorem dX11_canCome_24 : decode cX11_canCome 24 = .ok (.invokevirtual 499, 3) := by decide +kernel
theorem dX11_canCome_27 : decode cX11_canCome 27 = .ok (.ifCond .ne 23, 3) := by decide +kernel
theorem dX11_canCome_30 : decode cX11_canCome 30 = .ok (.iload_n 3, 1) := by decide +kernel
theorem dX11_canCome_31 : decode cX11_canCome 31 = .ok (.aload_n 0, 1) := by decide +kernel
theorem dX11_canCome_32 : decode cX11_canCome 32 = .ok (.getfield 106, 3) := by decide +kernel
theorem dX11_canCome_35 : decode cX11_canCome 35 = .ok (.bipush 10, 2) := by decide +kernel
theorem dX11_canCome_37 : decode cX11_canCome 37 = .ok (.iload_n 2, 1) := by decide +kernel
theorem dX11_canCome_38 : decode cX11_canCome 38 = .ok (.iadd, 1) := by decide +kernel
theorem dX11_canCome_39 : decode cX11_canCome 39 = .ok (.iaload, 1) := by decide +kernel
theorem dX11_canCome_40 : decode cX11_canCome 40 = .ok (.ishr, 1) := by decide +kernel
theorem dX11_canCome_41 : decode cX11_canCome 41 = .ok (.iconst 1, 1) := by decide +kernel
theorem dX11_canCome_42 : decode cX11_canCome 42 = .ok (.iand, 1) := by decide +kernel
theorem dX11_canCome_43 : decode cX11_canCome 43 = .ok (.ifCond .ne 7, 3) := by decide +kernel
theorem dX11_canCome_46 : decode cX11_canCome 46 = .ok (.iconst 1, 1) := by decide +kernel
