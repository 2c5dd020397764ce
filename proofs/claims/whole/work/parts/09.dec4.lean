theorem dX5_insert_20 : decode cX5_insert 20 = .ok (.aload_n 0, 1) := by decide +kernel
theorem dX5_insert_21 : decode cX5_insert 21 = .ok (.lload_n 1, 1) := by decide +kernel
theorem dX5_insert_22 : decode cX5_insert 22 = .ok (.invokevirtual 246, 3) := by decide +kernel
theorem dX5_insert_25 : decode cX5_insert 25 = .ok (.ifCond .eq 5, 3) := by decide +kernel
theorem dX5_insert_28 : decode cX5_insert 28 = .ok (.iconst 0, 1) := by decide +kernel
theorem dX5_insert_29 : decode cX5_insert 29 = .ok (.ireturn, 1) := by decide +kernel
theorem dX5_insert_30 : decode cX5_insert 30 = .ok (.aload_n 0, 1) := by decide +kernel
theorem dX5_insert_31 : decode cX5_insert 31 = .ok (.invokevirtual 232, 3) := by decide +kernel
theorem dX5_insert_34 : decode cX5_insert 34 = .ok (.sipush 300, 3) := by decide +kernel
theorem dX5_insert_37 : decode cX5_insert 37 = .ok (.if_icmp .ne 6, 3) := by decide +kernel
theorem dX5_insert_40 : decode cX5_insert 40 = .ok (.bipush (-3), 2) := by decide +kernel
theorem dX5_insert_42 : decode cX5_insert 42 = .ok (.ireturn, 1) := by decide +kernel
theorem dX5_insert_43 : decode cX5_insert 43 = .ok (.aload_n 0, 1) := by decide +kernel
theorem dX5_insert_44 : decode cX5_insert 44 = .ok (.getfield 146, 3) := by decide +kernel
theorem dX5_insert_47 : decode cX5_insert 47 = .ok (.istore_n 3, 1) := by decide +kernel
theorem dX5_insert_48 : decode cX5_insert 48 = .ok (.aload_n 0, 1) := by decide +kernel
theorem dX5_insert_49 : decode cX5_insert 49 = .ok (.getfield 73, 3) := by decide +kernel
theorem dX5_insert_52 : decode cX5_insert 52 = .ok (.aload_n 0, 1) := by decide +kernel
theorem dX5_insert_53 : decode cX5_insert 53 = .ok (.getfield 52, 3) := by decide +kernel
theorem dX5_insert_56 : decode cX5_insert 56 = .ok (.iload_n 3, 1) := by decide +kernel
theorem dX5_insert_57 : decode cX5_insert 57 = .ok (.iaload, 1) := by decide +kernel
theorem dX5_insert_58 : decode cX5_insert 58 = .ok (.aload_n 0, 1) := by decide +kernel
theorem dX5_insert_59 : decode cX5_insert 59 = .ok (.getfield 149, 3) := by decide +kernel
theorem dX5_insert_62 : decode cX5_insert 62 = .ok (.iadd, 1) := by decide +kernel
theorem dX5_insert_63 : decode cX5_insert 63 = .ok (.laload, 1) := by decide +kernel
theorem dX5_insert_64 : decode cX5_insert 64 = .ok (.lload_n 1, 1) := by decide +kernel
theorem dX5_insert_65 : decode cX5_insert 65 = .ok (.lcmp, 1) := by decide +kernel
theorem dX5_insert_66 : decode cX5_insert 66 = .ok (.ifCond .ne 22, 3) := by decide +kernel
theorem dX5_insert_69 : decode cX5_insert 69 = .ok (.aload_n 0, 1) := by decide +kernel
theorem dX5_insert_70 : decode cX5_insert 70 = .ok (.getfield 80, 3) := by decide +kernel
theorem dX5_insert_73 : decode cX5_insert 73 = .ok (.aload_n 0, 1) := by decide +kernel
theorem dX5_insert_74 : decode cX5_insert 74 = .ok (.getfield 52, 3) := by decide +kernel
theorem dX5_insert_77 : decode cX5_insert 77 = .ok (.iload_n 3, 1) := by decide +kernel
theorem dX5_insert_78 : decode cX5_insert 78 = .ok (.iaload, 1) := by decide +kernel
theorem dX5_insert_79 : decode cX5_insert 79 = .ok (.aload_n 0, 1) := by decide +kernel
theorem dX5_insert_80 : decode cX5_insert 80 = .ok (.getfield 149, 3) := by decide +kernel
theorem dX5_insert_83 : decode cX5_insert 83 = .ok (.iadd, 1) := by decide +kernel
theorem dX5_insert_84 : decode cX5_insert 84 = .ok (.iconst 0, 1) := by decide +kernel
theorem dX5_insert_85 : decode cX5_insert 85 = .ok (.bastore, 1) := by decide +kernel
theorem dX5_insert_86 : decode cX5_insert 86 = .ok (.iconst 1, 1) := by decide +kernel
theorem dX5_insert_87 : decode cX5_insert 87 = .ok (.ireturn, 1) := by decide +kernel
theorem dX5_insert_88 : decode cX5_insert 88 = .ok (.aload_n 0, 1) := by decide +kernel
theorem dX5_insert_89 : decode cX5_insert 89 = .ok (.getfield 61, 3) := by decide +kernel
theorem dX5_insert_92 : decode cX5_insert 92 = .ok (.iload_n 3, 1) := by decide +kernel
theorem dX5_insert_93 : decode cX5_insert 93 = .ok (.iaload, 1) := by decide +kernel
theorem dX5_insert_94 : decode cX5_insert 94 = .ok (.istore 4, 2) := by decide +kernel
theorem dX5_insert_96 : decode cX5_insert 96 = .ok (.iload 4, 2) := by decide +kernel
theorem dX5_insert_98 : decode cX5_insert 98 = .ok (.ifCond .le 54, 3) := by decide +kernel
theorem dX5_insert_101 : decode cX5_insert 101 = .ok (.aload_n 0, 1) := by decide +kernel
theorem dX5_insert_102 : decode cX5_insert 102 = .ok (.getfield 77, 3) := by decide +kernel
theorem dX5_insert_105 : decode cX5_insert 105 = .ok (.bipush 16, 2) := by decide +kernel
theorem dX5_insert_107 : decode cX5_insert 107 = .ok (.iload_n 3, 1) := by decide +kernel
theorem dX5_insert_108 : decode cX5_insert 108 = .ok (.imul, 1) := by decide +kernel
theorem dX5_insert_109 : decode cX5_insert 109 = .ok (.iload 4, 2) := by decide +kernel
theorem dX5_insert_111 : decode cX5_insert 111 = .ok (.iadd, 1) := by decide +kernel
theorem dX5_insert_112 : decode cX5_insert 112 = .ok (.iconst 1, 1) := by decide +kernel
theorem dX5_insert_113 : decode cX5_insert 113 = .ok (.isub, 1) := by decide +kernel
theorem dX5_insert_114 : decode cX5_insert 114 = .ok (.laload, 1) := by decide +kernel
theorem dX5_insert_115 : decode cX5_insert 115 = .ok (.lload_n 1, 1) := by decide +kernel
theorem dX5_insert_116 : decode cX5_insert 116 = .ok (.lcmp, 1) := by decide +kernel
theorem dX5_insert_117 : decode cX5_insert 117 = .ok (.ifCond .le 35, 3) := by decide +kernel
theorem dX5_insert_120 : decode cX5_insert 120 = .ok (.aload_n 0, 1) := by decide +kernel
theorem dX5_insert_121 : decode cX5_insert 121 = .ok (.getfield 77, 3) := by decide +kernel
theorem dX5_insert_124 : decode cX5_insert 124 = .ok (.bipush 16, 2) := by decide +kernel
theorem dX5_insert_126 : decode cX5_insert 126 = .ok (.iload_n 3, 1) := by decide +kernel
theorem dX5_insert_127 : decode cX5_insert 127 = .ok (.imul, 1) := by decide +kernel
theorem dX5_insert_128 : decode cX5_insert 128 = .ok (.iload 4, 2) := by decide +kernel
theorem dX5_insert_130 : decode cX5_insert 130 = .ok (.iadd, 1) := by decide +kernel
theorem dX5_insert_131 : decode cX5_insert 131 = .ok (.aload_n 0, 1) := by decide +kernel
theorem dX5_insert_132 : decode cX5_insert 132 = .ok (.getfield 77, 3) := by decide +kernel
theorem dX5_insert_135 : decode cX5_insert 135 = .ok (.bipush 16, 2) := by decide +kernel
theorem dX5_insert_137 : decode cX5_insert 137 = .ok (.iload_n 3, 1) := by decide +kernel
theorem dX5_insert_138 : decode cX5_insert 138 = .ok (.imul, 1) := by decide +kernel
theorem dX5_insert_139 : decode cX5_insert 139 = .ok (.iload 4, 2) := by decide +kernel
theorem dX5_insert_141 : decode cX5_insert 141 = .ok (.iadd, 1) := by decide +kernel
theorem dX5_insert_142 : decode cX5_insert 142 = .ok (.iconst 1, 1) := by decide +kernel
theorem dX5_insert_143 : decode cX5_insert 143 = .ok (.isub, 1) := by decide +kernel
theorem dX5_insert_144 : decode cX5_insert 144 = .ok (.laload, 1) := by decide +kernel
theorem dX5_insert_145 : decode cX5_insert 145 = .ok (.lastore, 1) := by decide +kernel
theorem dX5_insert_146 : decode cX5_insert 146 = .ok (.iinc 4 (-1), 3) := by decide +kernel
theorem dX5_insert_149 : decode cX5_insert 149 = .ok (.goto (-53), 3) := by decide +kernel
theorem dX5_insert_152 : decode cX5_insert 152 = .ok (.aload_n 0, 1) := by decide +kernel
theorem dX5_insert_153 : decode cX5_insert 153 = .ok (.getfield 77, 3) := by decide +kernel
theorem dX5_insert_156 : decode cX5_insert 156 = .ok (.bipush 16, 2) := by decide +kernel
theorem dX5_insert_158 : decode cX5_insert 158 = .ok (.iload_n 3, 1) := by decide +kernel
theorem dX5_insert_159 : decode cX5_insert 159 = .ok (.imul, 1) := by decide +kernel
theorem dX5_insert_160 : decode cX5_insert 160 = .ok (.iload 4, 2) := by decide +kernel
theorem dX5_insert_162 : decode cX5_insert 162 = .ok (.iadd, 1) := by decide +kernel
theorem dX5_insert_163 : decode cX5_insert 163 = .ok (.lload_n 1, 1) := by decide +kernel
theorem dX5_insert_164 : decode cX5_insert 164 = .ok (.lastore, 1) := by decide +kernel
theorem dX5_insert_165 : decode cX5_insert 165 = .ok (.aload_n 0, 1) := by decide +kernel
theorem dX5_insert_166 : decode cX5_insert 166 = .ok (.getfield 61, 3) := by decide +kernel
theorem dX5_insert_169 : decode cX5_insert 169 = .ok (.iload_n 3, 1) := by decide +kernel
theorem dX5_insert_170 : decode cX5_insert 170 = .ok (.dup2, 1) := by decide +kernel
theorem dX5_insert_171 : decode cX5_insert 171 = .ok (.iaload, 1) := by decide +kernel
theorem dX5_insert_172 : decode cX5_insert 172 = .ok (.iconst 1, 1) := by decide +kernel
theorem dX5_insert_173 : decode cX5_insert 173 = .ok (.iadd, 1) := by decide +kernel
theorem dX5_insert_174 : decode cX5_insert 174 = .ok (.iastore, 1) := by decide +kernel
theorem dX5_insert_175 : decode cX5_insert 175 = .ok (.aload_n 0, 1) := by decide +kernel
theorem dX5_insert_176 : decode cX5_insert 176 = .ok (.getfield 61, 3) := by decide +kernel
theorem dX5_insert_179 : decode cX5_insert 179 = .ok (.iload_n 3, 1) := by decide +kernel
theorem dX5_insert_180 : decode cX5_insert 180 = .ok (.iaload, 1) := by decide +kernel
theorem dX5_insert_181 : decode cX5_insert 181 = .ok (.bipush 16, 2) := by decide +kernel
theorem dX5_insert_183 : decode cX5_insert 183 = .ok (.if_icmp .ge 5, 3) := by decide +kernel
theorem dX5_insert_186 : decode cX5_insert 186 = .ok (.iconst 1, 1) := by decide +kernel
theorem dX5_insert_187 : decode cX5_insert 187 = .ok (.ireturn, 1) := by decide +kernel
theorem dX5_insert_188 : decode cX5_insert 188 = .ok (.aload_n 0, 1) := by decide +kernel
theorem dX5_insert_189 : decode cX5_insert 189 = .ok (.iconst 0, 1) := by decide +kernel
theorem dX5_insert_190 : decode cX5_insert 190 = .ok (.putfield 94, 3) := by decide +kernel
theorem dX5_insert_193 : decode cX5_insert 193 = .ok (.aload_n 0, 1) := by decide +kernel
theorem dX5_insert_194 : decode cX5_insert 194 = .ok (.iload_n 3, 1) := by decide +kernel
theorem dX5_insert_195 : decode cX5_insert 195 = .ok (.invokevirtual 228, 3) := by decide +kernel
theorem dX5_insert_198 : decode cX5_insert 198 = .ok (.aload_n 0, 1) := by decide +kernel
theorem dX5_insert_199 : decode cX5_insert 199 = .ok (.iload_n 3, 1) := by decide +kernel
theorem dX5_insert_200 : decode cX5_insert 200 = .ok (.iload_n 3, 1) := by decide +kernel
theorem dX5_insert_201 : decode cX5_insert 201 = .ok (.iconst 1, 1) := by decide +kernel
theorem dX5_insert_202 : decode cX5_insert 202 = .ok (.iadd, 1) := by decide +kernel
theorem dX5_insert_203 : decode cX5_insert 203 = .ok (.iconst 1, 1) := by decide +kernel
theorem dX5_insert_204 : decode cX5_insert 204 = .ok (.invokevirtual 224, 3) := by decide +kernel
theorem dX5_insert_207 : decode cX5_insert 207 = .ok (.aload_n 0, 1) := by decide +kernel
theorem dX5_insert_208 : decode cX5_insert 208 = .ok (.dup, 1) := by decide +kernel
theorem dX5_insert_209 : decode cX5_insert 209 = .ok (.getfield 91, 3) := by decide +kernel
theorem dX5_insert_212 : decode cX5_insert 212 = .ok (.iconst 1, 1) := by decide +kernel
theorem dX5_insert_213 : decode cX5_insert 213 = .ok (.iadd, 1) := by decide +kernel
theorem dX5_insert_214 : decode cX5_insert 214 = .ok (.putfield 91, 3) := by decide +kernel
theorem dX5_insert_217 : decode cX5_insert 217 = .ok (.iconst 1, 1) := by decide +kernel
theorem dX5_insert_218 : decode cX5_insert 218 = .ok (.ireturn, 1) := by decide +kernel
theorem dX5_drop_0 : decode cX5_drop 0 = .ok (.aload_n 0, 1) := by decide +kernel
theorem dX5_drop_1 : decode cX5_drop 1 = .ok (.getfield 84, 3) := by decide +kernel
theorem dX5_drop_4 : decode cX5_drop 4 = .ok (.ifCond .ne 5, 3) := by decide +kernel
theorem dX5_drop_7 : decode cX5_drop 7 = .ok (.iconst (-1), 1) := by decide +kernel
theorem dX5_drop_8 : decode cX5_drop 8 = .ok (.ireturn, 1) := by decide +kernel
theorem dX5_drop_9 : decode cX5_drop 9 = .ok (.aload_n 0, 1) := by decide +kernel
theorem dX5_drop_10 : decode cX5_drop 10 = .ok (.lload_n 1, 1) := by decide +kernel
theorem dX5_drop_11 : decode cX5_drop 11 = .ok (.invokevirtual 162, 3) := by decide +kernel
theorem dX5_drop_14 : decode cX5_drop 14 = .ok (.ifCond .ne 6, 3) := by decide +kernel
theorem dX5_drop_17 : decode cX5_drop 17 = .ok (.bipush (-2), 2) := by decide +kernel
theorem dX5_drop_19 : decode cX5_drop 19 = .ok (.ireturn, 1) := by decide +kernel
theorem dX5_drop_20 : decode cX5_drop 20 = .ok (.aload_n 0, 1) := by decide +kernel
theorem dX5_drop_21 : decode cX5_drop 21 = .ok (.lload_n 1, 1) := by decide +kernel
theorem dX5_drop_22 : decode cX5_drop 22 = .ok (.invokevirtual 246, 3) := by decide +kernel
theorem dX5_drop_25 : decode cX5_drop 25 = .ok (.ifCond .ne 5, 3) := by decide +kernel
theorem dX5_drop_28 : decode cX5_drop 28 = .ok (.iconst 0, 1) := by decide +kernel
theorem dX5_drop_29 : decode cX5_drop 29 = .ok (.ireturn, 1) := by decide +kernel
theorem dX5_drop_30 : decode cX5_drop 30 = .ok (.aload_n 0, 1) := by decide +kernel
theorem dX5_drop_31 : decode cX5_drop 31 = .ok (.getfield 146, 3) := by decide +kernel
theorem dX5_drop_34 : decode cX5_drop 34 = .ok (.istore_n 3, 1) := by decide +kernel
theorem dX5_drop_35 : decode cX5_drop 35 = .ok (.aload_n 0, 1) := by decide +kernel
theorem dX5_drop_36 : decode cX5_drop 36 = .ok (.getfield 152, 3) := by decide +kernel
theorem dX5_drop_39 : decode cX5_drop 39 = .ok (.ifCond .ge 22, 3) := by decide +kernel
theorem dX5_drop_42 : decode cX5_drop 42 = .ok (.aload_n 0, 1) := by decide +kernel
theorem dX5_drop_43 : decode cX5_drop 43 = .ok (.getfield 80, 3) := by decide +kernel
theorem dX5_drop_46 : decode cX5_drop 46 = .ok (.aload_n 0, 1) := by decide +kernel
theorem dX5_drop_47 : decode cX5_drop 47 = .ok (.getfield 52, 3) := by decide +kernel
theorem dX5_drop_50 : decode cX5_drop 50 = .ok (.iload_n 3, 1) := by decide +kernel
theorem dX5_drop_51 : decode cX5_drop 51 = .ok (.iaload, 1) := by decide +kernel
theorem dX5_drop_52 : decode cX5_drop 52 = .ok (.aload_n 0, 1) := by decide +kernel
theorem dX5_drop_53 : decode cX5_drop 53 = .ok (.getfield 149, 3) := by decide +kernel
theorem dX5_drop_56 : decode cX5_drop 56 = .ok (.iadd, 1) := by decide +kernel
theorem dX5_drop_57 : decode cX5_drop 57 = .ok (.iconst 1, 1) := by decide +kernel
theorem dX5_drop_58 : decode cX5_drop 58 = .ok (.bastore, 1) := by decide +kernel
theorem dX5_drop_59 : decode cX5_drop 59 = .ok (.iconst 1, 1) := by decide +kernel
theorem dX5_drop_60 : decode cX5_drop 60 = .ok (.ireturn, 1) := by decide +kernel
theorem dX5_drop_61 : decode cX5_drop 61 = .ok (.aload_n 0, 1) := by decide +kernel
theorem dX5_drop_62 : decode cX5_drop 62 = .ok (.getfield 61, 3) := by decide +kernel
theorem dX5_drop_65 : decode cX5_drop 65 = .ok (.iload_n 3, 1) := by decide +kernel
theorem dX5_drop_66 : decode cX5_drop 66 = .ok (.dup2, 1) := by decide +kernel
theorem dX5_drop_67 : decode cX5_drop 67 = .ok (.iaload, 1) := by decide +kernel
theorem dX5_drop_68 : decode cX5_drop 68 = .ok (.iconst 1, 1) := by decide +kernel
theorem dX5_drop_69 : decode cX5_drop 69 = .ok (.isub, 1) := by decide +kernel
theorem dX5_drop_70 : decode cX5_drop 70 = .ok (.iastore, 1) := by decide +kernel
theorem dX5_drop_71 : decode cX5_drop 71 = .ok (.aload_n 0, 1) := by decide +kernel
theorem dX5_drop_72 : decode cX5_drop 72 = .ok (.getfield 152, 3) := by decide +kernel
theorem dX5_drop_75 : decode cX5_drop 75 = .ok (.istore 4, 2) := by decide +kernel
theorem dX5_drop_77 : decode cX5_drop 77 = .ok (.iload 4, 2) := by decide +kernel
theorem dX5_drop_79 : decode cX5_drop 79 = .ok (.aload_n 0, 1) := by decide +kernel
theorem dX5_drop_80 : decode cX5_drop 80 = .ok (.getfield 61, 3) := by decide +kernel
theorem dX5_drop_83 : decode cX5_drop 83 = .ok (.iload_n 3, 1) := by decide +kernel
theorem dX5_drop_84 : decode cX5_drop 84 = .ok (.iaload, 1) := by decide +kernel
theorem dX5_drop_85 : decode cX5_drop 85 = .ok (.if_icmp .ge 35, 3) := by decide +kernel
theorem dX5_drop_88 : decode cX5_drop 88 = .ok (.aload_n 0, 1) := by decide +kernel
theorem dX5_drop_89 : decode cX5_drop 89 = .ok (.getfield 77, 3) := by decide +kernel
theorem dX5_drop_92 : decode cX5_drop 92 = .ok (.bipush 16, 2) := by decide +kernel
theorem dX5_drop_94 : decode cX5_drop 94 = .ok (.iload_n 3, 1) := by decide +kernel
theorem dX5_drop_95 : decode cX5_drop 95 = .ok (.imul, 1) := by decide +kernel
theorem dX5_drop_96 : decode cX5_drop 96 = .ok (.iload 4, 2) := by decide +kernel
theorem dX5_drop_98 : decode cX5_drop 98 = .ok (.iadd, 1) := by decide +kernel
theorem dX5_drop_99 : decode cX5_drop 99 = .ok (.aload_n 0, 1) := by decide +kernel
theorem dX5_drop_100 : decode cX5_drop 100 = .ok (.getfield 77, 3) := by decide +kernel
theorem dX5_drop_103 : decode cX5_drop 103 = .ok (.bipush 16, 2) := by decide +kernel
theorem dX5_drop_105 : decode cX5_drop 105 = .ok (.iload_n 3, 1) := by decide +kernel
theorem dX5_drop_106 : decode cX5_drop 106 = .ok (.imul, 1) := by decide +kernel
theorem dX5_drop_107 : decode cX5_drop 107 = .ok (.iload 4, 2) := by decide +kernel
theorem dX5_drop_109 : decode cX5_drop 109 = .ok (.iadd, 1) := by decide +kernel
theorem dX5_drop_110 : decode cX5_drop 110 = .ok (.iconst 1, 1) := by decide +kernel
theorem dX5_drop_111 : decode cX5_drop 111 = .ok (.iadd, 1) := by decide +kernel
theorem dX5_drop_112 : decode cX5_drop 112 = .ok (.laload, 1) := by decide +kernel
theorem dX5_drop_113 : decode cX5_drop 113 = .ok (.lastore, 1) := by decide +kernel
theorem dX5_drop_114 : decode cX5_drop 114 = .ok (.iinc 4 1, 3) := by decide +kernel
theorem dX5_drop_117 : decode cX5_drop 117 = .ok (.goto (-40), 3) := by decide +kernel
theorem dX5_drop_120 : decode cX5_drop 120 = .ok (.iconst 1, 1) := by decide +kernel
theorem dX5_drop_121 : decode cX5_drop 121 = .ok (.ireturn, 1) := by decide +kernel
theorem dX5_all_0 : decode cX5_all 0 = .ok (.aload_n 0, 1) := by decide +kernel
theorem dX5_all_1 : decode cX5_all 1 = .ok (.iconst 0, 1) := by decide +kernel
theorem dX5_all_2 : decode cX5_all 2 = .ok (.putfield 94, 3) := by decide +kernel
theorem dX5_all_5 : decode cX5_all 5 = .ok (.iconst 0, 1) := by decide +kernel
theorem dX5_all_6 : decode cX5_all 6 = .ok (.istore_n 1, 1) := by decide +kernel
theorem dX5_all_7 : decode cX5_all 7 = .ok (.iload_n 1, 1) := by decide +kernel
theorem dX5_all_8 : decode cX5_all 8 = .ok (.aload_n 0, 1) := by decide +kernel
theorem dX5_all_9 : decode cX5_all 9 = .ok (.getfield 84, 3) := by decide +kernel
theorem dX5_all_12 : decode cX5_all 12 = .ok (.ifCond .eq 10, 3) := by decide +kernel
theorem dX5_all_15 : decode cX5_all 15 = .ok (.aload_n 0, 1) := by decide +kernel
theorem dX5_all_16 : decode cX5_all 16 = .ok (.invokevirtual 213, 3) := by decide +kernel
theorem dX5_all_19 : decode cX5_all 19 = .ok (.goto 4, 3) := by decide +kernel
theorem dX5_all_22 : decode cX5_all 22 = .ok (.iconst 0, 1) := by decide +kernel
theorem dX5_all_23 : decode cX5_all 23 = .ok (.if_icmp .ge 14, 3) := by decide +kernel
theorem dX5_all_26 : decode cX5_all 26 = .ok (.aload_n 0, 1) := by decide +kernel
theorem dX5_all_27 : decode cX5_all 27 = .ok (.iload_n 1, 1) := by decide +kernel
theorem dX5_all_28 : decode cX5_all 28 = .ok (.invokevirtual 228, 3) := by decide +kernel
theorem dX5_all_31 : decode cX5_all 31 = .ok (.iinc 1 1, 3) := by decide +kernel
theorem dX5_all_34 : decode cX5_all 34 = .ok (.goto (-27), 3) := by decide +kernel
theorem dX5_all_37 : decode cX5_all 37 = .ok (.return_, 1) := by decide +kernel
theorem dX5_at_0 : decode cX5_at 0 = .ok (.aload_n 0, 1) := by decide +kernel
theorem dX5_at_1 : decode cX5_at 1 = .ok (.invokevirtual 249, 3) := by decide +kernel
theorem dX5_at_4 : decode cX5_at 4 = .ok (.iload_n 1, 1) := by decide +kernel
theorem dX5_at_5 : decode cX5_at 5 = .ok (.ifCond .lt 11, 3) := by decide +kernel
theorem dX5_at_8 : decode cX5_at 8 = .ok (.iload_n 1, 1) := by decide +kernel
theorem dX5_at_9 : decode cX5_at 9 = .ok (.aload_n 0, 1) := by decide +kernel
theorem dX5_at_10 : decode cX5_at 10 = .ok (.getfield 94, 3) := by decide +kernel
theorem dX5_at_13 : decode cX5_at 13 = .ok (.if_icmp .lt 9, 3) := by decide +kernel
theorem dX5_at_16 : decode cX5_at 16 = .ok (.ldc2_w 252, 3) := by decide +kernel
theorem dX5_at_19 : decode cX5_at 19 = .ok (.goto 9, 3) := by decide +kernel
theorem dX5_at_22 : decode cX5_at 22 = .ok (.aload_n 0, 1) := by decide +kernel
theorem dX5_at_23 : decode cX5_at 23 = .ok (.getfield 20, 3) := by decide +kernel
theorem dX5_at_26 : decode cX5_at 26 = .ok (.iload_n 1, 1) := by decide +kernel
theorem dX5_at_27 : decode cX5_at 27 = .ok (.laload, 1) := by decide +kernel
theorem dX5_at_28 : decode cX5_at 28 = .ok (.lreturn, 1) := by decide +kernel
theorem dX5_ahead_0 : decode cX5_ahead 0 = .ok (.aload_n 0, 1) := by decide +kernel
theorem dX5_ahead_1 : decode cX5_ahead 1 = .ok (.invokevirtual 249, 3) := by decide +kernel
theorem dX5_ahead_4 : decode cX5_ahead 4 = .ok (.iconst 0, 1) := by decide +kernel
theorem dX5_ahead_5 : decode cX5_ahead 5 = .ok (.istore_n 3, 1) := by decide +kernel
theorem dX5_ahead_6 : decode cX5_ahead 6 = .ok (.iload_n 3, 1) := by decide +kernel
theorem dX5_ahead_7 : decode cX5_ahead 7 = .ok (.aload_n 0, 1) := by decide +kernel
theorem dX5_ahead_8 : decode cX5_ahead 8 = .ok (.getfield 94, 3) := by decide +kernel
theorem dX5_ahead_11 : decode cX5_ahead 11 = .ok (.if_icmp .ge 20, 3) := by decide +kernel
theorem dX5_ahead_14 : decode cX5_ahead 14 = .ok (.aload_n 0, 1) := by decide +kernel
theorem dX5_ahead_15 : decode cX5_ahead 15 = .ok (.getfield 20, 3) := by decide +kernel
theorem dX5_ahead_18 : decode cX5_ahead 18 = .ok (.iload_n 3, 1) := by decide +kernel
theorem dX5_ahead_19 : decode cX5_ahead 19 = .ok (.laload, 1) := by decide +kernel
theorem dX5_ahead_20 : decode cX5_ahead 20 = .ok (.lload_n 1, 1) := by decide +kernel
theorem dX5_ahead_21 : decode cX5_ahead 21 = .ok (.lcmp, 1) := by decide +kernel
theorem dX5_ahead_22 : decode cX5_ahead 22 = .ok (.ifCond .ge 9, 3) := by decide +kernel
theorem dX5_ahead_25 : decode cX5_ahead 25 = .ok (.iinc 3 1, 3) := by decide +kernel
theorem dX5_ahead_28 : decode cX5_ahead 28 = .ok (.goto (-22), 3) := by decide +kernel
theorem dX5_ahead_31 : decode cX5_ahead 31 = .ok (.iload_n 3, 1) := by decide +kernel
theorem dX5_ahead_32 : decode cX5_ahead 32 = .ok (.ireturn, 1) := by decide +kernel
theorem dX5_below_0 : decode cX5_below 0 = .ok (.aload_n 0, 1) := by decide +kernel
theorem dX5_below_1 : decode cX5_below 1 = .ok (.getfield 84, 3) := by decide +kernel
theorem dX5_below_4 : decode cX5_below 4 = .ok (.ifCond .ne 5, 3) := by decide +kernel
theorem dX5_below_7 : decode cX5_below 7 = .ok (.iconst (-1), 1) := by decide +kernel
theorem dX5_below_8 : decode cX5_below 8 = .ok (.ireturn, 1) := by decide +kernel
theorem dX5_below_9 : decode cX5_below 9 = .ok (.aload_n 0, 1) := by decide +kernel
theorem dX5_below_10 : decode cX5_below 10 = .ok (.lload_n 1, 1) := by decide +kernel
theorem dX5_below_11 : decode cX5_below 11 = .ok (.invokevirtual 162, 3) := by decide +kernel
theorem dX5_below_14 : decode cX5_below 14 = .ok (.ifCond .eq 11, 3) := by decide +kernel
theorem dX5_below_17 : decode cX5_below 17 = .ok (.aload_n 0, 1) := by decide +kernel
theorem dX5_below_18 : decode cX5_below 18 = .ok (.lload_n 1, 1) := by decide +kernel
theorem dX5_below_19 : decode cX5_below 19 = .ok (.invokevirtual 254, 3) := by decide +kernel
theorem dX5_below_22 : decode cX5_below 22 = .ok (.goto 5, 3) := by decide +kernel
theorem dX5_below_25 : decode cX5_below 25 = .ok (.bipush (-2), 2) := by decide +kernel
theorem dX5_below_27 : decode cX5_below 27 = .ok (.ireturn, 1) := by decide +kernel
theorem dX5_above_0 : decode cX5_above 0 = .ok (.aload_n 0, 1) := by decide +kernel
theorem dX5_above_1 : decode cX5_above 1 = .ok (.invokevirtual 249, 3) := by decide +kernel
theorem dX5_above_4 : decode cX5_above 4 = .ok (.iconst 0, 1) := by decide +kernel
theorem dX5_above_5 : decode cX5_above 5 = .ok (.istore_n 3, 1) := by decide +kernel
theorem dX5_above_6 : decode cX5_above 6 = .ok (.iload_n 3, 1) := by decide +kernel
theorem dX5_above_7 : decode cX5_above 7 = .ok (.aload_n 0, 1) := by decide +kernel
theorem dX5_above_8 : decode cX5_above 8 = .ok (.getfield 94, 3) := by decide +kernel
theorem dX5_above_11 : decode cX5_above 11 = .ok (.if_icmp .ge 20, 3) := by decide +kernel
theorem dX5_above_14 : decode cX5_above 14 = .ok (.aload_n 0, 1) := by decide +kernel
theorem dX5_above_15 : decode cX5_above 15 = .ok (.getfield 20, 3) := by decide +kernel
theorem dX5_above_18 : decode cX5_above 18 = .ok (.iload_n 3, 1) := by decide +kernel
theorem dX5_above_19 : decode cX5_above 19 = .ok (.laload, 1) := by decide +kernel
theorem dX5_above_20 : decode cX5_above 20 = .ok (.lload_n 1, 1) := by decide +kernel
theorem dX5_above_21 : decode cX5_above 21 = .ok (.lcmp, 1) := by decide +kernel
theorem dX5_above_22 : decode cX5_above 22 = .ok (.ifCond .gt 9, 3) := by decide +kernel
theorem dX5_above_25 : decode cX5_above 25 = .ok (.iinc 3 1, 3) := by decide +kernel
theorem dX5_above_28 : decode cX5_above 28 = .ok (.goto (-22), 3) := by decide +kernel
theorem dX5_above_31 : decode cX5_above 31 = .ok (.iload_n 3, 1) := by decide +kernel
theorem dX5_above_32 : decode cX5_above 32 = .ok (.aload_n 0, 1) := by decide +kernel
theorem dX5_above_33 : decode cX5_above 33 = .ok (.getfield 94, 3) := by decide +kernel
theorem dX5_above_36 : decode cX5_above 36 = .ok (.if_icmp .ge 12, 3) := by decide +kernel
theorem dX5_above_39 : decode cX5_above 39 = .ok (.aload_n 0, 1) := by decide +kernel
theorem dX5_above_40 : decode cX5_above 40 = .ok (.getfield 20, 3) := by decide +kernel
theorem dX5_above_43 : decode cX5_above 43 = .ok (.iload_n 3, 1) := by decide +kernel
theorem dX5_above_44 : decode cX5_above 44 = .ok (.laload, 1) := by decide +kernel
theorem dX5_above_45 : decode cX5_above 45 = .ok (.goto 6, 3) := by decide +kernel
theorem dX5_above_48 : decode cX5_above 48 = .ok (.ldc2_w 252, 3) := by decide +kernel
theorem dX5_above_51 : decode cX5_above 51 = .ok (.lreturn, 1) := by decide +kernel
theorem dX5_between_0 : decode cX5_between 0 = .ok (.aload_n 0, 1) := by decide +kernel
theorem dX5_between_1 : decode cX5_between 1 = .ok (.getfield 84, 3) := by decide +kernel
theorem dX5_between_4 : decode cX5_between 4 = .ok (.ifCond .ne 5, 3) := by decide +kernel
theorem dX5_between_7 : decode cX5_between 7 = .ok (.iconst (-1), 1) := by decide +kernel
theorem dX5_between_8 : decode cX5_between 8 = .ok (.ireturn, 1) := by decide +kernel
theorem dX5_between_9 : decode cX5_between 9 = .ok (.aload_n 0, 1) := by decide +kernel
theorem dX5_between_10 : decode cX5_between 10 = .ok (.lload_n 1, 1) := by decide +kernel
theorem dX5_between_11 : decode cX5_between 11 = .ok (.invokevirtual 162, 3) := by decide +kernel
theorem dX5_between_14 : decode cX5_between 14 = .ok (.ifCond .eq 11, 3) := by decide +kernel
theorem dX5_between_17 : decode cX5_between 17 = .ok (.aload_n 0, 1) := by decide +kernel
theorem dX5_between_18 : decode cX5_between 18 = .ok (.lload_n 3, 1) := by decide +kernel
theorem dX5_between_19 : decode cX5_between 19 = .ok (.invokevirtual 162, 3) := by decide +kernel
theorem dX5_between_22 : decode cX5_between 22 = .ok (.ifCond .ne 6, 3) := by decide +kernel
theorem dX5_between_25 : decode cX5_between 25 = .ok (.bipush (-2), 2) := by decide +kernel
theorem dX5_between_27 : decode cX5_between 27 = .ok (.ireturn, 1) := by decide +kernel
theorem dX5_between_28 : decode cX5_between 28 = .ok (.lload_n 3, 1) := by decide +kernel
theorem dX5_between_29 : decode cX5_between 29 = .ok (.lload_n 1, 1) := by decide +kernel
theorem dX5_between_30 : decode cX5_between 30 = .ok (.lcmp, 1) := by decide +kernel
theorem dX5_between_31 : decode cX5_between 31 = .ok (.ifCond .gt 7, 3) := by decide +kernel
theorem dX5_between_34 : decode cX5_between 34 = .ok (.iconst 0, 1) := by decide +kernel
theorem dX5_between_35 : decode cX5_between 35 = .ok (.goto 14, 3) := by decide +kernel
theorem dX5_between_38 : decode cX5_between 38 = .ok (.aload_n 0, 1) := by decide +kernel
theorem dX5_between_39 : decode cX5_between 39 = .ok (.lload_n 3, 1) := by decide +kernel
theorem dX5_between_40 : decode cX5_between 40 = .ok (.invokevirtual 254, 3) := by decide +kernel
theorem dX5_between_43 : decode cX5_between 43 = .ok (.aload_n 0, 1) := by decide +kernel
theorem dX5_between_44 : decode cX5_between 44 = .ok (.lload_n 1, 1) := by decide +kernel
theorem dX5_between_45 : decode cX5_between 45 = .ok (.invokevirtual 254, 3) := by decide +kernel
theorem dX5_between_48 : decode cX5_between 48 = .ok (.isub, 1) := by decide +kernel
theorem dX5_between_49 : decode cX5_between 49 = .ok (.ireturn, 1) := by decide +kernel
theorem dX5_layers_0 : decode cX5_layers 0 = .ok (.aload_n 0, 1) := by decide +kernel
theorem dX5_layers_1 : decode cX5_layers 1 = .ok (.getfield 84, 3) := by decide +kernel
theorem dX5_layers_4 : decode cX5_layers 4 = .ok (.ifCond .eq 10, 3) := by decide +kernel
theorem dX5_layers_7 : decode cX5_layers 7 = .ok (.aload_n 0, 1) := by decide +kernel
theorem dX5_layers_8 : decode cX5_layers 8 = .ok (.getfield 39, 3) := by decide +kernel
theorem dX5_layers_11 : decode cX5_layers 11 = .ok (.goto 4, 3) := by decide +kernel
theorem dX5_layers_14 : decode cX5_layers 14 = .ok (.iconst (-1), 1) := by decide +kernel
theorem dX5_layers_15 : decode cX5_layers 15 = .ok (.ireturn, 1) := by decide +kernel
theorem dX5_pieces__0 : decode cX5_pieces_ 0 = .ok (.aload_n 0, 1) := by decide +kernel
theorem dX5_pieces__1 : decode cX5_pieces_ 1 = .ok (.getfield 84, 3) := by decide +kernel
theorem dX5_pieces__4 : decode cX5_pieces_ 4 = .ok (.ifCond .eq 16, 3) := by decide +kernel
theorem dX5_pieces__7 : decode cX5_pieces_ 7 = .ok (.iload_n 1, 1) := by decide +kernel
theorem dX5_pieces__8 : decode cX5_pieces_ 8 = .ok (.iconst (-1), 1) := by decide +kernel
theorem dX5_pieces__9 : decode cX5_pieces_ 9 = .ok (.if_icmp .lt 11, 3) := by decide +kernel
theorem dX5_pieces__12 : decode cX5_pieces_ 12 = .ok (.iload_n 1, 1) := by decide +kernel
theorem dX5_pieces__13 : decode cX5_pieces_ 13 = .ok (.aload_n 0, 1) := by decide +kernel
theorem dX5_pieces__14 : decode cX5_pieces_ 14 = .ok (.getfield 39, 3) := by decide +kernel
theorem dX5_pieces__17 : decode cX5_pieces_ 17 = .ok (.if_icmp .lt 7, 3) := by decide +kernel
theorem dX5_pieces__20 : decode cX5_pieces_ 20 = .ok (.iconst (-1), 1) := by decide +kernel
theorem dX5_pieces__21 : decode cX5_pieces_ 21 = .ok (.goto 20, 3) := by decide +kernel
theorem dX5_pieces__24 : decode cX5_pieces_ 24 = .ok (.aload_n 0, 1) := by decide +kernel
theorem dX5_pieces__25 : decode cX5_pieces_ 25 = .ok (.getfield 46, 3) := by decide +kernel
theorem dX5_pieces__28 : decode cX5_pieces_ 28 = .ok (.iload_n 1, 1) := by decide +kernel
theorem dX5_pieces__29 : decode cX5_pieces_ 29 = .ok (.iconst 1, 1) := by decide +kernel
theorem dX5_pieces__30 : decode cX5_pieces_ 30 = .ok (.iadd, 1) := by decide +kernel
theorem dX5_pieces__31 : decode cX5_pieces_ 31 = .ok (.iaload, 1) := by decide +kernel
theorem dX5_pieces__32 : decode cX5_pieces_ 32 = .ok (.aload_n 0, 1) := by decide +kernel
theorem dX5_pieces__33 : decode cX5_pieces_ 33 = .ok (.getfield 42, 3) := by decide +kernel
theorem dX5_pieces__36 : decode cX5_pieces_ 36 = .ok (.iload_n 1, 1) := by decide +kernel
theorem dX5_pieces__37 : decode cX5_pieces_ 37 = .ok (.iconst 1, 1) := by decide +kernel
theorem dX5_pieces__38 : decode cX5_pieces_ 38 = .ok (.iadd, 1) := by decide +kernel
theorem dX5_pieces__39 : decode cX5_pieces_ 39 = .ok (.iaload, 1) := by decide +kernel
theorem dX5_pieces__40 : decode cX5_pieces_ 40 = .ok (.isub, 1) := by decide +kernel
theorem dX5_pieces__41 : decode cX5_pieces_ 41 = .ok (.ireturn, 1) := by decide +kernel
theorem dX5_pieceOf_0 : decode cX5_pieceOf 0 = .ok (.aload_n 0, 1) := by decide +kernel
theorem dX5_pieceOf_1 : decode cX5_pieceOf 1 = .ok (.getfield 84, 3) := by decide +kernel
theorem dX5_pieceOf_4 : decode cX5_pieceOf 4 = .ok (.ifCond .eq 41, 3) := by decide +kernel
theorem dX5_pieceOf_7 : decode cX5_pieceOf 7 = .ok (.iload_n 1, 1) := by decide +kernel
theorem dX5_pieceOf_8 : decode cX5_pieceOf 8 = .ok (.iconst (-1), 1) := by decide +kernel
theorem dX5_pieceOf_9 : decode cX5_pieceOf 9 = .ok (.if_icmp .lt 36, 3) := by decide +kernel
theorem dX5_pieceOf_12 : decode cX5_pieceOf 12 = .ok (.iload_n 1, 1) := by decide +kernel
theorem dX5_pieceOf_13 : decode cX5_pieceOf 13 = .ok (.aload_n 0, 1) := by decide +kernel
theorem dX5_pieceOf_14 : decode cX5_pieceOf 14 = .ok (.getfield 39, 3) := by decide +kernel
theorem dX5_pieceOf_17 : decode cX5_pieceOf 17 = .ok (.if_icmp .ge 28, 3) := by decide +kernel
theorem dX5_pieceOf_20 : decode cX5_pieceOf 20 = .ok (.iload_n 2, 1) := by decide +kernel
theorem dX5_pieceOf_21 : decode cX5_pieceOf 21 = .ok (.ifCond .lt 24, 3) := by decide +kernel
theorem dX5_pieceOf_24 : decode cX5_pieceOf 24 = .ok (.iload_n 2, 1) := by decide +kernel
theorem dX5_pieceOf_25 : decode cX5_pieceOf 25 = .ok (.aload_n 0, 1) := by decide +kernel
theorem dX5_pieceOf_26 : decode cX5_pieceOf 26 = .ok (.getfield 46, 3) := by decide +kernel
theorem dX5_pieceOf_29 : decode cX5_pieceOf 29 = .ok (.iload_n 1, 1) := by decide +kernel
theorem dX5_pieceOf_30 : decode cX5_pieceOf 30 = .ok (.iconst 1, 1) := by decide +kernel
theorem dX5_pieceOf_31 : decode cX5_pieceOf 31 = .ok (.iadd, 1) := by decide +kernel
theorem dX5_pieceOf_32 : decode cX5_pieceOf 32 = .ok (.iaload, 1) := by decide +kernel
theorem dX5_pieceOf_33 : decode cX5_pieceOf 33 = .ok (.aload_n 0, 1) := by decide +kernel
theorem dX5_pieceOf_34 : decode cX5_pieceOf 34 = .ok (.getfield 42, 3) := by decide +kernel
theorem dX5_pieceOf_37 : decode cX5_pieceOf 37 = .ok (.iload_n 1, 1) := by decide +kernel
theorem dX5_pieceOf_38 : decode cX5_pieceOf 38 = .ok (.iconst 1, 1) := by decide +kernel
theorem dX5_pieceOf_39 : decode cX5_pieceOf 39 = .ok (.iadd, 1) := by decide +kernel
theorem dX5_pieceOf_40 : decode cX5_pieceOf 40 = .ok (.iaload, 1) := by decide +kernel
theorem dX5_pieceOf_41 : decode cX5_pieceOf 41 = .ok (.isub, 1) := by decide +kernel
theorem dX5_pieceOf_42 : decode cX5_pieceOf 42 = .ok (.if_icmp .lt 5, 3) := by decide +kernel
theorem dX5_pieceOf_45 : decode cX5_pieceOf 45 = .ok (.iconst (-1), 1) := by decide +kernel
theorem dX5_pieceOf_46 : decode cX5_pieceOf 46 = .ok (.ireturn, 1) := by decide +kernel
theorem dX5_pieceOf_47 : decode cX5_pieceOf 47 = .ok (.aload_n 0, 1) := by decide +kernel
theorem dX5_pieceOf_48 : decode cX5_pieceOf 48 = .ok (.getfield 42, 3) := by decide +kernel
theorem dX5_pieceOf_51 : decode cX5_pieceOf 51 = .ok (.iload_n 1, 1) := by decide +kernel
theorem dX5_pieceOf_52 : decode cX5_pieceOf 52 = .ok (.iconst 1, 1) := by decide +kernel
theorem dX5_pieceOf_53 : decode cX5_pieceOf 53 = .ok (.iadd, 1) := by decide +kernel
theorem dX5_pieceOf_54 : decode cX5_pieceOf 54 = .ok (.iaload, 1) := by decide +kernel
theorem dX5_pieceOf_55 : decode cX5_pieceOf 55 = .ok (.iload_n 2, 1) := by decide +kernel
theorem dX5_pieceOf_56 : decode cX5_pieceOf 56 = .ok (.iadd, 1) := by decide +kernel
theorem dX5_pieceOf_57 : decode cX5_pieceOf 57 = .ok (.ireturn, 1) := by decide +kernel
theorem dX5_piece_0 : decode cX5_piece 0 = .ok (.aload_n 0, 1) := by decide +kernel
theorem dX5_piece_1 : decode cX5_piece 1 = .ok (.iload_n 1, 1) := by decide +kernel
theorem dX5_piece_2 : decode cX5_piece 2 = .ok (.iload_n 2, 1) := by decide +kernel
theorem dX5_piece_3 : decode cX5_piece 3 = .ok (.invokevirtual 258, 3) := by decide +kernel
theorem dX5_piece_6 : decode cX5_piece 6 = .ok (.istore 4, 2) := by decide +kernel
theorem dX5_piece_8 : decode cX5_piece 8 = .ok (.iload 4, 2) := by decide +kernel
theorem dX5_piece_10 : decode cX5_piece 10 = .ok (.ifCond .ge 5, 3) := by decide +kernel
theorem dX5_piece_13 : decode cX5_piece 13 = .ok (.iconst (-1), 1) := by decide +kernel
theorem dX5_piece_14 : decode cX5_piece 14 = .ok (.ireturn, 1) := by decide +kernel
theorem dX5_piece_15 : decode cX5_piece 15 = .ok (.iconst 0, 1) := by decide +kernel
theorem dX5_piece_16 : decode cX5_piece 16 = .ok (.istore 5, 2) := by decide +kernel
theorem dX5_piece_18 : decode cX5_piece 18 = .ok (.iload_n 3, 1) := by decide +kernel
theorem dX5_piece_19 : decode cX5_piece 19 = .ok (.tableswitch 121 0 5 #[37, 45, 53, 98, 106, 114], 37) := by decide +kernel
theorem dX5_piece_56 : decode cX5_piece 56 = .ok (.aload_n 0, 1) := by decide +kernel
theorem dX5_piece_57 : decode cX5_piece 57 = .ok (.getfield 49, 3) := by decide +kernel
theorem dX5_piece_60 : decode cX5_piece 60 = .ok (.iload 4, 2) := by decide +kernel
theorem dX5_piece_62 : decode cX5_piece 62 = .ok (.iaload, 1) := by decide +kernel
theorem dX5_piece_63 : decode cX5_piece 63 = .ok (.ireturn, 1) := by decide +kernel
theorem dX5_piece_64 : decode cX5_piece 64 = .ok (.aload_n 0, 1) := by decide +kernel
theorem dX5_piece_65 : decode cX5_piece 65 = .ok (.getfield 55, 3) := by decide +kernel
theorem dX5_piece_68 : decode cX5_piece 68 = .ok (.iload 4, 2) := by decide +kernel
theorem dX5_piece_70 : decode cX5_piece 70 = .ok (.iaload, 1) := by decide +kernel
theorem dX5_piece_71 : decode cX5_piece 71 = .ok (.ireturn, 1) := by decide +kernel
theorem dX5_piece_72 : decode cX5_piece 72 = .ok (.iconst 0, 1) := by decide +kernel
theorem dX5_piece_73 : decode cX5_piece 73 = .ok (.istore 6, 2) := by decide +kernel
theorem dX5_piece_75 : decode cX5_piece 75 = .ok (.iload 6, 2) := by decide +kernel
theorem dX5_piece_77 : decode cX5_piece 77 = .ok (.aload_n 0, 1) := by decide +kernel
theorem dX5_piece_78 : decode cX5_piece 78 = .ok (.getfield 55, 3) := by decide +kernel
theorem dX5_piece_81 : decode cX5_piece 81 = .ok (.iload 4, 2) := by decide +kernel
theorem dX5_piece_83 : decode cX5_piece 83 = .ok (.iaload, 1) := by decide +kernel
theorem dX5_piece_84 : decode cX5_piece 84 = .ok (.if_icmp .ge 30, 3) := by decide +kernel
theorem dX5_piece_87 : decode cX5_piece 87 = .ok (.iload 5, 2) := by decide +kernel
theorem dX5_piece_89 : decode cX5_piece 89 = .ok (.aload_n 0, 1) := by decide +kernel
theorem dX5_piece_90 : decode cX5_piece 90 = .ok (.iload 4, 2) := by decide +kernel
theorem dX5_piece_92 : decode cX5_piece 92 = .ok (.iload 6, 2) := by decide +kernel
theorem dX5_piece_94 : decode cX5_piece 94 = .ok (.invokevirtual 209, 3) := by decide +kernel
theorem dX5_piece_97 : decode cX5_piece 97 = .ok (.ifCond .eq 7, 3) := by decide +kernel
theorem dX5_piece_100 : decode cX5_piece 100 = .ok (.iconst 0, 1) := by decide +kernel
theorem dX5_piece_101 : decode cX5_piece 101 = .ok (.goto 4, 3) := by decide +kernel
theorem dX5_piece_104 : decode cX5_piece 104 = .ok (.iconst 1, 1) := by decide +kernel
theorem dX5_piece_105 : decode cX5_piece 105 = .ok (.iadd, 1) := by decide +kernel
theorem dX5_piece_106 : decode cX5_piece 106 = .ok (.istore 5, 2) := by decide +kernel
theorem dX5_piece_108 : decode cX5_piece 108 = .ok (.iinc 6 1, 3) := by decide +kernel
theorem dX5_piece_111 : decode cX5_piece 111 = .ok (.goto (-36), 3) := by decide +kernel
theorem dX5_piece_114 : decode cX5_piece 114 = .ok (.iload 5, 2) := by decide +kernel
theorem dX5_piece_116 : decode cX5_piece 116 = .ok (.ireturn, 1) := by decide +kernel
theorem dX5_piece_117 : decode cX5_piece 117 = .ok (.aload_n 0, 1) := by decide +kernel
theorem dX5_piece_118 : decode cX5_piece 118 = .ok (.getfield 61, 3) := by decide +kernel
theorem dX5_piece_121 : decode cX5_piece 121 = .ok (.iload 4, 2) := by decide +kernel
theorem dX5_piece_123 : decode cX5_piece 123 = .ok (.iaload, 1) := by decide +kernel
theorem dX5_piece_124 : decode cX5_piece 124 = .ok (.ireturn, 1) := by decide +kernel
theorem dX5_piece_125 : decode cX5_piece 125 = .ok (.aload_n 0, 1) := by decide +kernel
theorem dX5_piece_126 : decode cX5_piece 126 = .ok (.getfield 58, 3) := by decide +kernel
theorem dX5_piece_129 : decode cX5_piece 129 = .ok (.iload 4, 2) := by decide +kernel
theorem dX5_piece_131 : decode cX5_piece 131 = .ok (.iaload, 1) := by decide +kernel
theorem dX5_piece_132 : decode cX5_piece 132 = .ok (.ireturn, 1) := by decide +kernel
theorem dX5_piece_133 : decode cX5_piece 133 = .ok (.aload_n 0, 1) := by decide +kernel
theorem dX5_piece_134 : decode cX5_piece 134 = .ok (.iload 4, 2) := by decide +kernel
theorem dX5_piece_136 : decode cX5_piece 136 = .ok (.invokevirtual 197, 3) := by decide +kernel
theorem dX5_piece_139 : decode cX5_piece 139 = .ok (.ireturn, 1) := by decide +kernel
theorem dX5_piece_140 : decode cX5_piece 140 = .ok (.iconst (-1), 1) := by decide +kernel
theorem dX5_piece_141 : decode cX5_piece 141 = .ok (.ireturn, 1) := by decide +kernel
theorem dX5_line_0 : decode cX5_line 0 = .ok (.aload_n 0, 1) := by decide +kernel
theorem dX5_line_1 : decode cX5_line 1 = .ok (.iload_n 1, 1) := by decide +kernel
theorem dX5_line_2 : decode cX5_line 2 = .ok (.iload_n 2, 1) := by decide +kernel
theorem dX5_line_3 : decode cX5_line 3 = .ok (.invokevirtual 258, 3) := by decide +kernel
theorem dX5_line_6 : decode cX5_line 6 = .ok (.istore 4, 2) := by decide +kernel
theorem dX5_line_8 : decode cX5_line 8 = .ok (.iload 4, 2) := by decide +kernel
theorem dX5_line_10 : decode cX5_line 10 = .ok (.ifCond .ge 7, 3) := by decide +kernel
theorem dX5_line_13 : decode cX5_line 13 = .ok (.ldc2_w 252, 3) := by decide +kernel
theorem dX5_line_16 : decode cX5_line 16 = .ok (.lreturn, 1) := by decide +kernel
theorem dX5_line_17 : decode cX5_line 17 = .ok (.iload_n 3, 1) := by decide +kernel
theorem dX5_line_18 : decode cX5_line 18 = .ok (.tableswitch 94 0 4 #[34, 42, 50, 58, 71], 34) := by decide +kernel
theorem dX5_line_52 : decode cX5_line 52 = .ok (.aload_n 0, 1) := by decide +kernel
theorem dX5_line_53 : decode cX5_line 53 = .ok (.getfield 64, 3) := by decide +kernel
theorem dX5_line_56 : decode cX5_line 56 = .ok (.iload 4, 2) := by decide +kernel
theorem dX5_line_58 : decode cX5_line 58 = .ok (.laload, 1) := by decide +kernel
theorem dX5_line_59 : decode cX5_line 59 = .ok (.lreturn, 1) := by decide +kernel
theorem dX5_line_60 : decode cX5_line 60 = .ok (.aload_n 0, 1) := by decide +kernel
theorem dX5_line_61 : decode cX5_line 61 = .ok (.getfield 67, 3) := by decide +kernel
theorem dX5_line_64 : decode cX5_line 64 = .ok (.iload 4, 2) := by decide +kernel
theorem dX5_line_66 : decode cX5_line 66 = .ok (.laload, 1) := by decide +kernel
theorem dX5_line_67 : decode cX5_line 67 = .ok (.lreturn, 1) := by decide +kernel
theorem dX5_line_68 : decode cX5_line 68 = .ok (.aload_n 0, 1) := by decide +kernel
theorem dX5_line_69 : decode cX5_line 69 = .ok (.getfield 70, 3) := by decide +kernel
theorem dX5_line_72 : decode cX5_line 72 = .ok (.iload 4, 2) := by decide +kernel
theorem dX5_line_74 : decode cX5_line 74 = .ok (.laload, 1) := by decide +kernel
theorem dX5_line_75 : decode cX5_line 75 = .ok (.lreturn, 1) := by decide +kernel
theorem dX5_line_76 : decode cX5_line 76 = .ok (.aload_n 0, 1) := by decide +kernel
theorem dX5_line_77 : decode cX5_line 77 = .ok (.getfield 73, 3) := by decide +kernel
theorem dX5_line_80 : decode cX5_line 80 = .ok (.aload_n 0, 1) := by decide +kernel
theorem dX5_line_81 : decode cX5_line 81 = .ok (.getfield 52, 3) := by decide +kernel
theorem dX5_line_84 : decode cX5_line 84 = .ok (.iload 4, 2) := by decide +kernel
theorem dX5_line_86 : decode cX5_line 86 = .ok (.iaload, 1) := by decide +kernel
theorem dX5_line_87 : decode cX5_line 87 = .ok (.laload, 1) := by decide +kernel
theorem dX5_line_88 : decode cX5_line 88 = .ok (.lreturn, 1) := by decide +kernel
theorem dX5_line_89 : decode cX5_line 89 = .ok (.aload_n 0, 1) := by decide +kernel
theorem dX5_line_90 : decode cX5_line 90 = .ok (.getfield 73, 3) := by decide +kernel
theorem dX5_line_93 : decode cX5_line 93 = .ok (.aload_n 0, 1) := by decide +kernel
theorem dX5_line_94 : decode cX5_line 94 = .ok (.getfield 52, 3) := by decide +kernel
theorem dX5_line_97 : decode cX5_line 97 = .ok (.iload 4, 2) := by decide +kernel
theorem dX5_line_99 : decode cX5_line 99 = .ok (.iaload, 1) := by decide +kernel
theorem dX5_line_100 : decode cX5_line 100 = .ok (.aload_n 0, 1) := by decide +kernel
theorem dX5_line_101 : decode cX5_line 101 = .ok (.getfield 55, 3) := by decide +kernel
theorem dX5_line_104 : decode cX5_line 104 = .ok (.iload 4, 2) := by decide +kernel
theorem dX5_line_106 : decode cX5_line 106 = .ok (.iaload, 1) := by decide +kernel
theorem dX5_line_107 : decode cX5_line 107 = .ok (.iadd, 1) := by decide +kernel
theorem dX5_line_108 : decode cX5_line 108 = .ok (.iconst 1, 1) := by decide +kernel
theorem dX5_line_109 : decode cX5_line 109 = .ok (.isub, 1) := by decide +kernel
theorem dX5_line_110 : decode cX5_line 110 = .ok (.laload, 1) := by decide +kernel
theorem dX5_line_111 : decode cX5_line 111 = .ok (.lreturn, 1) := by decide +kernel
theorem dX5_line_112 : decode cX5_line 112 = .ok (.ldc2_w 252, 3) := by decide +kernel
theorem dX5_line_115 : decode cX5_line 115 = .ok (.lreturn, 1) := by decide +kernel
theorem dX5_guess_0 : decode cX5_guess 0 = .ok (.aload_n 0, 1) := by decide +kernel
theorem dX5_guess_1 : decode cX5_guess 1 = .ok (.iload_n 1, 1) := by decide +kernel
theorem dX5_guess_2 : decode cX5_guess 2 = .ok (.iload_n 2, 1) := by decide +kernel
theorem dX5_guess_3 : decode cX5_guess 3 = .ok (.invokevirtual 258, 3) := by decide +kernel
theorem dX5_guess_6 : decode cX5_guess 6 = .ok (.istore 5, 2) := by decide +kernel
theorem dX5_guess_8 : decode cX5_guess 8 = .ok (.iload 5, 2) := by decide +kernel
theorem dX5_guess_10 : decode cX5_guess 10 = .ok (.ifCond .ge 5, 3) := by decide +kernel
theorem dX5_guess_13 : decode cX5_guess 13 = .ok (.iconst (-1), 1) := by decide +kernel
theorem dX5_guess_14 : decode cX5_guess 14 = .ok (.ireturn, 1) := by decide +kernel
theorem dX5_guess_15 : decode cX5_guess 15 = .ok (.aload_n 0, 1) := by decide +kernel
theorem dX5_guess_16 : decode cX5_guess 16 = .ok (.lload_n 3, 1) := by decide +kernel
theorem dX5_guess_17 : decode cX5_guess 17 = .ok (.invokevirtual 162, 3) := by decide +kernel
theorem dX5_guess_20 : decode cX5_guess 20 = .ok (.ifCond .eq 13, 3) := by decide +kernel
theorem dX5_guess_23 : decode cX5_guess 23 = .ok (.aload_n 0, 1) := by decide +kernel
theorem dX5_guess_24 : decode cX5_guess 24 = .ok (.iload 5, 2) := by decide +kernel
theorem dX5_guess_26 : decode cX5_guess 26 = .ok (.lload_n 3, 1) := by decide +kernel
theorem dX5_guess_27 : decode cX5_guess 27 = .ok (.invokevirtual 235, 3) := by decide +kernel
theorem dX5_guess_30 : decode cX5_guess 30 = .ok (.goto 5, 3) := by decide +kernel
theorem dX5_guess_33 : decode cX5_guess 33 = .ok (.bipush (-2), 2) := by decide +kernel
theorem dX5_guess_35 : decode cX5_guess 35 = .ok (.ireturn, 1) := by decide +kernel
theorem dX5_bits_0 : decode cX5_bits 0 = .ok (.aload_n 0, 1) := by decide +kernel
theorem dX5_bits_1 : decode cX5_bits 1 = .ok (.iconst (-1), 1) := by decide +kernel
theorem dX5_bits_2 : decode cX5_bits 2 = .ok (.iload_n 1, 1) := by decide +kernel
theorem dX5_bits_3 : decode cX5_bits 3 = .ok (.invokevirtual 258, 3) := by decide +kernel
theorem dX5_bits_6 : decode cX5_bits 6 = .ok (.istore_n 3, 1) := by decide +kernel
theorem dX5_bits_7 : decode cX5_bits 7 = .ok (.iload_n 3, 1) := by decide +kernel
theorem dX5_bits_8 : decode cX5_bits 8 = .ok (.ifCond .lt 22, 3) := by decide +kernel
theorem dX5_bits_11 : decode cX5_bits 11 = .ok (.aload_n 0, 1) := by decide +kernel
theorem dX5_bits_12 : decode cX5_bits 12 = .ok (.getfield 49, 3) := by decide +kernel
theorem dX5_bits_15 : decode cX5_bits 15 = .ok (.iload_n 3, 1) := by decide +kernel
theorem dX5_bits_16 : decode cX5_bits 16 = .ok (.iaload, 1) := by decide +kernel
theorem dX5_bits_17 : decode cX5_bits 17 = .ok (.iconst 2, 1) := by decide +kernel
theorem dX5_bits_18 : decode cX5_bits 18 = .ok (.if_icmp .ne 12, 3) := by decide +kernel
theorem dX5_bits_21 : decode cX5_bits 21 = .ok (.iload_n 2, 1) := by decide +kernel
theorem dX5_bits_22 : decode cX5_bits 22 = .ok (.ifCond .lt 8, 3) := by decide +kernel
theorem dX5_bits_25 : decode cX5_bits 25 = .ok (.iload_n 2, 1) := by decide +kernel
theorem dX5_bits_26 : decode cX5_bits 26 = .ok (.iconst 1, 1) := by decide +kernel
theorem dX5_bits_27 : decode cX5_bits 27 = .ok (.if_icmp .le 5, 3) := by decide +kernel
theorem dX5_bits_30 : decode cX5_bits 30 = .ok (.lconst 0, 1) := by decide +kernel
theorem dX5_bits_31 : decode cX5_bits 31 = .ok (.lreturn, 1) := by decide +kernel
theorem dX5_bits_32 : decode cX5_bits 32 = .ok (.iload_n 2, 1) := by decide +kernel
theorem dX5_bits_33 : decode cX5_bits 33 = .ok (.ifCond .ne 12, 3) := by decide +kernel
theorem dX5_bits_36 : decode cX5_bits 36 = .ok (.aload_n 0, 1) := by decide +kernel
theorem dX5_bits_37 : decode cX5_bits 37 = .ok (.getfield 64, 3) := by decide +kernel
theorem dX5_bits_40 : decode cX5_bits 40 = .ok (.iload_n 3, 1) := by decide +kernel
theorem dX5_bits_41 : decode cX5_bits 41 = .ok (.laload, 1) := by decide +kernel
theorem dX5_bits_42 : decode cX5_bits 42 = .ok (.goto 9, 3) := by decide +kernel
theorem dX5_bits_45 : decode cX5_bits 45 = .ok (.aload_n 0, 1) := by decide +kernel
theorem dX5_bits_46 : decode cX5_bits 46 = .ok (.getfield 70, 3) := by decide +kernel
theorem dX5_bits_49 : decode cX5_bits 49 = .ok (.iload_n 3, 1) := by decide +kernel
theorem dX5_bits_50 : decode cX5_bits 50 = .ok (.laload, 1) := by decide +kernel
theorem dX5_bits_51 : decode cX5_bits 51 = .ok (.l2d, 1) := by decide +kernel
theorem dX5_bits_52 : decode cX5_bits 52 = .ok (.aload_n 0, 1) := by decide +kernel
theorem dX5_bits_53 : decode cX5_bits 53 = .ok (.getfield 67, 3) := by decide +kernel
theorem dX5_bits_56 : decode cX5_bits 56 = .ok (.iload_n 3, 1) := by decide +kernel
theorem dX5_bits_57 : decode cX5_bits 57 = .ok (.laload, 1) := by decide +kernel
theorem dX5_bits_58 : decode cX5_bits 58 = .ok (.l2d, 1) := by decide +kernel
theorem dX5_bits_59 : decode cX5_bits 59 = .ok (.ddiv, 1) := by decide +kernel
theorem dX5_bits_60 : decode cX5_bits 60 = .ok (.invokestatic 262, 3) := by decide +kernel
theorem dX5_bits_63 : decode cX5_bits 63 = .ok (.lreturn, 1) := by decide +kernel
theorem dX5_key_0 : decode cX5_key 0 = .ok (.aload_n 0, 1) := by decide +kernel
theorem dX5_key_1 : decode cX5_key 1 = .ok (.iconst (-1), 1) := by decide +kernel
theorem dX5_key_2 : decode cX5_key 2 = .ok (.iload_n 1, 1) := by decide +kernel
theorem dX5_key_3 : decode cX5_key 3 = .ok (.invokevirtual 258, 3) := by decide +kernel
theorem dX5_key_6 : decode cX5_key 6 = .ok (.istore 4, 2) := by decide +kernel
theorem dX5_key_8 : decode cX5_key 8 = .ok (.iload 4, 2) := by decide +kernel
theorem dX5_key_10 : decode cX5_key 10 = .ok (.ifCond .lt 32, 3) := by decide +kernel
theorem dX5_key_13 : decode cX5_key 13 = .ok (.iload_n 2, 1) := by decide +kernel
theorem dX5_key_14 : decode cX5_key 14 = .ok (.ifCond .lt 28, 3) := by decide +kernel
theorem dX5_key_17 : decode cX5_key 17 = .ok (.iload_n 2, 1) := by decide +kernel
theorem dX5_key_18 : decode cX5_key 18 = .ok (.iload_n 3, 1) := by decide +kernel
theorem dX5_key_19 : decode cX5_key 19 = .ok (.ifCond .eq 13, 3) := by decide +kernel
theorem dX5_key_22 : decode cX5_key 22 = .ok (.aload_n 0, 1) := by decide +kernel
theorem dX5_key_23 : decode cX5_key 23 = .ok (.getfield 61, 3) := by decide +kernel
theorem dX5_key_26 : decode cX5_key 26 = .ok (.iload 4, 2) := by decide +kernel
theorem dX5_key_28 : decode cX5_key 28 = .ok (.iaload, 1) := by decide +kernel
theorem dX5_key_29 : decode cX5_key 29 = .ok (.goto 10, 3) := by decide +kernel
theorem dX5_key_32 : decode cX5_key 32 = .ok (.aload_n 0, 1) := by decide +kernel
theorem dX5_key_33 : decode cX5_key 33 = .ok (.getfield 55, 3) := by decide +kernel
theorem dX5_key_36 : decode cX5_key 36 = .ok (.iload 4, 2) := by decide +kernel
theorem dX5_key_38 : decode cX5_key 38 = .ok (.iaload, 1) := by decide +kernel
theorem dX5_key_39 : decode cX5_key 39 = .ok (.if_icmp .lt 7, 3) := by decide +kernel
theorem dX5_key_42 : decode cX5_key 42 = .ok (.ldc2_w 252, 3) := by decide +kernel
theorem dX5_key_45 : decode cX5_key 45 = .ok (.lreturn, 1) := by decide +kernel
theorem dX5_key_46 : decode cX5_key 46 = .ok (.iload_n 3, 1) := by decide +kernel
theorem dX5_key_47 : decode cX5_key 47 = .ok (.ifCond .eq 18, 3) := by decide +kernel
theorem dX5_key_50 : decode cX5_key 50 = .ok (.aload_n 0, 1) := by decide +kernel
theorem dX5_key_51 : decode cX5_key 51 = .ok (.getfield 77, 3) := by decide +kernel
theorem dX5_key_54 : decode cX5_key 54 = .ok (.bipush 16, 2) := by decide +kernel
theorem dX5_key_56 : decode cX5_key 56 = .ok (.iload 4, 2) := by decide +kernel
theorem dX5_key_58 : decode cX5_key 58 = .ok (.imul, 1) := by decide +kernel
theorem dX5_key_59 : decode cX5_key 59 = .ok (.iload_n 2, 1) := by decide +kernel
theorem dX5_key_60 : decode cX5_key 60 = .ok (.iadd, 1) := by decide +kernel
theorem dX5_key_61 : decode cX5_key 61 = .ok (.laload, 1) := by decide +kernel
theorem dX5_key_62 : decode cX5_key 62 = .ok (.goto 17, 3) := by decide +kernel
theorem dX5_key_65 : decode cX5_key 65 = .ok (.aload_n 0, 1) := by decide +kernel
theorem dX5_key_66 : decode cX5_key 66 = .ok (.getfield 73, 3) := by decide +kernel
theorem dX5_key_69 : decode cX5_key 69 = .ok (.aload_n 0, 1) := by decide +kernel
theorem dX5_key_70 : decode cX5_key 70 = .ok (.getfield 52, 3) := by decide +kernel
theorem dX5_key_73 : decode cX5_key 73 = .ok (.iload 4, 2) := by decide +kernel
theorem dX5_key_75 : decode cX5_key 75 = .ok (.iaload, 1) := by decide +kernel
theorem dX5_key_76 : decode cX5_key 76 = .ok (.iload_n 2, 1) := by decide +kernel
theorem dX5_key_77 : decode cX5_key 77 = .ok (.iadd, 1) := by decide +kernel
theorem dX5_key_78 : decode cX5_key 78 = .ok (.laload, 1) := by decide +kernel
theorem dX5_key_79 : decode cX5_key 79 = .ok (.lreturn, 1) := by decide +kernel
theorem dX5_count_0 : decode cX5_count 0 = .ok (.iload_n 1, 1) := by decide +kernel
theorem dX5_count_1 : decode cX5_count 1 = .ok (.tableswitch 60 0 4 #[35, 40, 45, 50, 55], 35) := by decide +kernel
theorem dX5_count_36 : decode cX5_count 36 = .ok (.aload_n 0, 1) := by decide +kernel
theorem dX5_count_37 : decode cX5_count 37 = .ok (.getfield 13, 3) := by decide +kernel
theorem dX5_count_40 : decode cX5_count 40 = .ok (.ireturn, 1) := by decide +kernel
theorem dX5_count_41 : decode cX5_count 41 = .ok (.aload_n 0, 1) := by decide +kernel
theorem dX5_count_42 : decode cX5_count 42 = .ok (.getfield 17, 3) := by decide +kernel
theorem dX5_count_45 : decode cX5_count 45 = .ok (.ireturn, 1) := by decide +kernel
theorem dX5_count_46 : decode cX5_count 46 = .ok (.aload_n 0, 1) := by decide +kernel
theorem dX5_count_47 : decode cX5_count 47 = .ok (.invokevirtual 232, 3) := by decide +kernel
theorem dX5_count_50 : decode cX5_count 50 = .ok (.ireturn, 1) := by decide +kernel
theorem dX5_count_51 : decode cX5_count 51 = .ok (.aload_n 0, 1) := by decide +kernel
theorem dX5_count_52 : decode cX5_count 52 = .ok (.getfield 88, 3) := by decide +kernel
theorem dX5_count_55 : decode cX5_count 55 = .ok (.ireturn, 1) := by decide +kernel
theorem dX5_count_56 : decode cX5_count 56 = .ok (.aload_n 0, 1) := by decide +kernel
theorem dX5_count_57 : decode cX5_count 57 = .ok (.getfield 91, 3) := by decide +kernel
theorem dX5_count_60 : decode cX5_count 60 = .ok (.ireturn, 1) := by decide +kernel
theorem dX5_count_61 : decode cX5_count 61 = .ok (.iconst (-1), 1) := by decide +kernel
theorem dX5_count_62 : decode cX5_count 62 = .ok (.ireturn, 1) := by decide +kernel
theorem dJxe99ae_isNaN_b9ae7_0 : decode cJxe99ae_isNaN_b9ae7 0 = .ok (.dload_n 0, 1) := by decide +kernel
theorem dJxe99ae_isNaN_b9ae7_1 : decode cJxe99ae_isNaN_b9ae7 1 = .ok (.dload_n 0, 1) := by decide +kernel
theorem dJxe99ae_isNaN_b9ae7_2 : decode cJxe99ae_isNaN_b9ae7 2 = .ok (.dcmp .l, 1) := by decide +kernel
theorem dJxe99ae_isNaN_b9ae7_3 : decode cJxe99ae_isNaN_b9ae7 3 = .ok (.ifCond .eq 7, 3) := by decide +kernel
theorem dJxe99ae_isNaN_b9ae7_6 : decode cJxe99ae_isNaN_b9ae7 6 = .ok (.iconst 1, 1) := by decide +kernel
theorem dJxe99ae_isNaN_b9ae7_7 : decode cJxe99ae_isNaN_b9ae7 7 = .ok (.goto 4, 3) := by decide +kernel
theorem dJxe99ae_isNaN_b9ae7_10 : decode cJxe99ae_isNaN_b9ae7 10 = .ok (.iconst 0, 1) := by decide +kernel
theorem dJxe99ae_isNaN_b9ae7_11 : decode cJxe99ae_isNaN_b9ae7 11 = .ok (.ireturn, 1) := by decide +kernel
theorem dJxe99ae_doubleToLongBits_ccdee_0 : decode cJxe99ae_doubleToLongBits_ccdee 0 = .ok (.dload_n 0, 1) := by decide +kernel
theorem dJxe99ae_doubleToLongBits_ccdee_1 : decode cJxe99ae_doubleToLongBits_ccdee 1 = .ok (.invokestatic 122, 3) := by decide +kernel
theorem dJxe99ae_doubleToLongBits_ccdee_4 : decode cJxe99ae_doubleToLongBits_ccdee 4 = .ok (.ifCond .ne 8, 3) := by decide +kernel
theorem dJxe99ae_doubleToLongBits_ccdee_7 : decode cJxe99ae_doubleToLongBits_ccdee 7 = .ok (.dload_n 0, 1) := by decide +kernel
theorem dJxe99ae_doubleToLongBits_ccdee_8 : decode cJxe99ae_doubleToLongBits_ccdee 8 = .ok (.invokestatic 134, 3) := by decide +kernel
theorem dJxe99ae_doubleToLongBits_ccdee_11 : decode cJxe99ae_doubleToLongBits_ccdee 11 = .ok (.lreturn, 1) := by decide +kernel
theorem dJxe99ae_doubleToLongBits_ccdee_12 : decode cJxe99ae_doubleToLongBits_ccdee 12 = .ok (.ldc2_w 137, 3) := by decide +kernel
theorem dJxe99ae_doubleToLongBits_ccdee_15 : decode cJxe99ae_doubleToLongBits_ccdee 15 = .ok (.lreturn, 1) := by decide +kernel
theorem dJ9_floorDiv_f86c9_0 : decode cJ9_floorDiv_f86c9 0 = .ok (.lload_n 0, 1) := by decide +kernel
theorem dJ9_floorDiv_f86c9_1 : decode cJ9_floorDiv_f86c9 1 = .ok (.lload_n 2, 1) := by decide +kernel
theorem dJ9_floorDiv_f86c9_2 : decode cJ9_floorDiv_f86c9 2 = .ok (.ldiv, 1) := by decide +kernel
theorem dJ9_floorDiv_f86c9_3 : decode cJ9_floorDiv_f86c9 3 = .ok (.lstore 4, 2) := by decide +kernel
theorem dJ9_floorDiv_f86c9_5 : decode cJ9_floorDiv_f86c9 5 = .ok (.lload_n 0, 1) := by decide +kernel
theorem dJ9_floorDiv_f86c9_6 : decode cJ9_floorDiv_f86c9 6 = .ok (.lload_n 2, 1) := by decide +kernel
theorem dJ9_floorDiv_f86c9_7 : decode cJ9_floorDiv_f86c9 7 = .ok (.lxor, 1) := by decide +kernel
theorem dJ9_floorDiv_f86c9_8 : decode cJ9_floorDiv_f86c9 8 = .ok (.lconst 0, 1) := by decide +kernel
theorem dJ9_floorDiv_f86c9_9 : decode cJ9_floorDiv_f86c9 9 = .ok (.lcmp, 1) := by decide +kernel
theorem dJ9_floorDiv_f86c9_10 : decode cJ9_floorDiv_f86c9 10 = .ok (.ifCond .ge 17, 3) := by decide +kernel
theorem dJ9_floorDiv_f86c9_13 : decode cJ9_floorDiv_f86c9 13 = .ok (.lload 4, 2) := by decide +kernel
theorem dJ9_floorDiv_f86c9_15 : decode cJ9_floorDiv_f86c9 15 = .ok (.lload_n 2, 1) := by decide +kernel
theorem dJ9_floorDiv_f86c9_16 : decode cJ9_floorDiv_f86c9 16 = .ok (.lmul, 1) := by decide +kernel
theorem dJ9_floorDiv_f86c9_17 : decode cJ9_floorDiv_f86c9 17 = .ok (.lload_n 0, 1) := by decide +kernel
theorem dJ9_floorDiv_f86c9_18 : decode cJ9_floorDiv_f86c9 18 = .ok (.lcmp, 1) := by decide +kernel
theorem dJ9_floorDiv_f86c9_19 : decode cJ9_floorDiv_f86c9 19 = .ok (.ifCond .eq 8, 3) := by decide +kernel
theorem dJ9_floorDiv_f86c9_22 : decode cJ9_floorDiv_f86c9 22 = .ok (.lload 4, 2) := by decide +kernel
theorem dJ9_floorDiv_f86c9_24 : decode cJ9_floorDiv_f86c9 24 = .ok (.lconst 1, 1) := by decide +kernel
theorem dJ9_floorDiv_f86c9_25 : decode cJ9_floorDiv_f86c9 25 = .ok (.lsub, 1) := by decide +kernel
theorem dJ9_floorDiv_f86c9_26 : decode cJ9_floorDiv_f86c9 26 = .ok (.lreturn, 1) := by decide +kernel
theorem dJ9_floorDiv_f86c9_27 : decode cJ9_floorDiv_f86c9 27 = .ok (.lload 4, 2) := by decide +kernel
theorem dJ9_floorDiv_f86c9_29 : decode cJ9_floorDiv_f86c9 29 = .ok (.lreturn, 1) := by decide +kernel
theorem dJ9_abs_0f7a4_0 : decode cJ9_abs_0f7a4 0 = .ok (.iload_n 0, 1) := by decide +kernel
theorem dJ9_abs_0f7a4_1 : decode cJ9_abs_0f7a4 1 = .ok (.ifCond .ge 8, 3) := by decide +kernel
theorem dJ9_abs_0f7a4_4 : decode cJ9_abs_0f7a4 4 = .ok (.iload_n 0, 1) := by decide +kernel
theorem dJ9_abs_0f7a4_5 : decode cJ9_abs_0f7a4 5 = .ok (.ineg, 1) := by decide +kernel
theorem dJ9_abs_0f7a4_6 : decode cJ9_abs_0f7a4 6 = .ok (.goto 4, 3) := by decide +kernel
theorem dJ9_abs_0f7a4_9 : decode cJ9_abs_0f7a4 9 = .ok (.iload_n 0, 1) := by decide +kernel
theorem dJ9_abs_0f7a4_10 : decode cJ9_abs_0f7a4 10 = .ok (.ireturn, 1) := by decide +kernel
theorem dJ9_max_7cf53_0 : decode cJ9_max_7cf53 0 = .ok (.iload_n 0, 1) := by decide +kernel
theorem dJ9_max_7cf53_1 : decode cJ9_max_7cf53 1 = .ok (.iload_n 1, 1) := by decide +kernel
theorem dJ9_max_7cf53_2 : decode cJ9_max_7cf53 2 = .ok (.if_icmp .lt 7, 3) := by decide +kernel
theorem dJ9_max_7cf53_5 : decode cJ9_max_7cf53 5 = .ok (.iload_n 0, 1) := by decide +kernel
theorem dJ9_max_7cf53_6 : decode cJ9_max_7cf53 6 = .ok (.goto 4, 3) := by decide +kernel
theorem dJ9_max_7cf53_9 : decode cJ9_max_7cf53 9 = .ok (.iload_n 1, 1) := by decide +kernel
theorem dJ9_max_7cf53_10 : decode cJ9_max_7cf53 10 = .ok (.ireturn, 1) := by decide +kernel
theorem dJ9_max_f86c9_0 : decode cJ9_max_f86c9 0 = .ok (.lload_n 0, 1) := by decide +kernel
theorem dJ9_max_f86c9_1 : decode cJ9_max_f86c9 1 = .ok (.lload_n 2, 1) := by decide +kernel
theorem dJ9_max_f86c9_2 : decode cJ9_max_f86c9 2 = .ok (.lcmp, 1) := by decide +kernel
theorem dJ9_max_f86c9_3 : decode cJ9_max_f86c9 3 = .ok (.ifCond .lt 7, 3) := by decide +kernel
theorem dJ9_max_f86c9_6 : decode cJ9_max_f86c9 6 = .ok (.lload_n 0, 1) := by decide +kernel
theorem dJ9_max_f86c9_7 : decode cJ9_max_f86c9 7 = .ok (.goto 4, 3) := by decide +kernel
theorem dJ9_max_f86c9_10 : decode cJ9_max_f86c9 10 = .ok (.lload_n 2, 1) := by decide +kernel
theorem dJ9_max_f86c9_11 : decode cJ9_max_f86c9 11 = .ok (.lreturn, 1) := by decide +kernel
theorem dJ9_min_7cf53_0 : decode cJ9_min_7cf53 0 = .ok (.iload_n 0, 1) := by decide +kernel
theorem dJ9_min_7cf53_1 : decode cJ9_min_7cf53 1 = .ok (.iload_n 1, 1) := by decide +kernel
theorem dJ9_min_7cf53_2 : decode cJ9_min_7cf53 2 = .ok (.if_icmp .gt 7, 3) := by decide +kernel
theorem dJ9_min_7cf53_5 : decode cJ9_min_7cf53 5 = .ok (.iload_n 0, 1) := by decide +kernel
theorem dJ9_min_7cf53_6 : decode cJ9_min_7cf53 6 = .ok (.goto 4, 3) := by decide +kernel
theorem dJ9_min_7cf53_9 : decode cJ9_min_7cf53 9 = .ok (.iload_n 1, 1) := by decide +kernel
theorem dJ9_min_7cf53_10 : decode cJ9_min_7cf53 10 = .ok (.ireturn, 1) := by decide +kernel
theorem dJ9_min_f86c9_0 : decode cJ9_min_f86c9 0 = .ok (.lload_n 0, 1) := by decide +kernel
theorem dJ9_min_f86c9_1 : decode cJ9_min_f86c9 1 = .ok (.lload_n 2, 1) := by decide +kernel
theorem dJ9_min_f86c9_2 : decode cJ9_min_f86c9 2 = .ok (.lcmp, 1) := by decide +kernel
theorem dJ9_min_f86c9_3 : decode cJ9_min_f86c9 3 = .ok (.ifCond .gt 7, 3) := by decide +kernel
theorem dJ9_min_f86c9_6 : decode cJ9_min_f86c9 6 = .ok (.lload_n 0, 1) := by decide +kernel
theorem dJ9_min_f86c9_7 : decode cJ9_min_f86c9 7 = .ok (.goto 4, 3) := by decide +kernel
theorem dJ9_min_f86c9_10 : decode cJ9_min_f86c9 10 = .ok (.lload_n 2, 1) := by decide +kernel
theorem dJ9_min_f86c9_11 : decode cJ9_min_f86c9 11 = .ok (.lreturn, 1) := by decide +kernel
theorem dL_law_0 : decode cL_law 0 = .ok (.new 7, 3) := by decide +kernel
theorem dL_law_3 : decode cL_law 3 = .ok (.dup, 1) := by decide +kernel
theorem dL_law_4 : decode cL_law 4 = .ok (.invokespecial 9, 3) := by decide +kernel
theorem dL_law_7 : decode cL_law 7 = .ok (.astore_n 1, 1) := by decide +kernel
theorem dL_law_8 : decode cL_law 8 = .ok (.new 10, 3) := by decide +kernel
theorem dL_law_11 : decode cL_law 11 = .ok (.dup, 1) := by decide +kernel
theorem dL_law_12 : decode cL_law 12 = .ok (.invokespecial 12, 3) := by decide +kernel
theorem dL_law_15 : decode cL_law 15 = .ok (.astore_n 2, 1) := by decide +kernel
theorem dL_law_16 : decode cL_law 16 = .ok (.iconst 0, 1) := by decide +kernel
theorem dL_law_17 : decode cL_law 17 = .ok (.istore_n 3, 1) := by decide +kernel
theorem dL_law_18 : decode cL_law 18 = .ok (.iload_n 3, 1) := by decide +kernel
theorem dL_law_19 : decode cL_law 19 = .ok (.aload_n 0, 1) := by decide +kernel
theorem dL_law_20 : decode cL_law 20 = .ok (.arraylength, 1) := by decide +kernel
theorem dL_law_21 : decode cL_law 21 = .ok (.bipush 6, 2) := by decide +kernel
theorem dL_law_23 : decode cL_law 23 = .ok (.isub, 1) := by decide +kernel
theorem dL_law_24 : decode cL_law 24 = .ok (.if_icmp .gt 1341, 3) := by decide +kernel
theorem dL_law_27 : decode cL_law 27 = .ok (.aload_n 0, 1) := by decide +kernel
theorem dL_law_28 : decode cL_law 28 = .ok (.iload_n 3, 1) := by decide +kernel
theorem dL_law_29 : decode cL_law 29 = .ok (.iaload, 1) := by decide +kernel
theorem dL_law_30 : decode cL_law 30 = .ok (.bipush 31, 2) := by decide +kernel
theorem dL_law_32 : decode cL_law 32 = .ok (.iand, 1) := by decide +kernel
theorem dL_law_33 : decode cL_law 33 = .ok (.tableswitch 1326 0 29 #[135, 188, 291, 304, 327, 350, 403, 436, 459, 482, 495, 518, 541, 594, 647, 700, 724, 777, 831, 924, 937, 960, 1003, 1047, 1120, 1154, 1214, 1227, 1250, 1303], 135) := by decide +kernel
theorem dL_law_168 : decode cL_law 168 = .ok (.aload_n 1, 1) := by decide +kernel
theorem dL_law_169 : decode cL_law 169 = .ok (.aload_n 0, 1) := by decide +kernel
theorem dL_law_170 : decode cL_law 170 = .ok (.iload_n 3, 1) := by decide +kernel
theorem dL_law_171 : decode cL_law 171 = .ok (.iconst 1, 1) := by decide +kernel
theorem dL_law_172 : decode cL_law 172 = .ok (.iadd, 1) := by decide +kernel
theorem dL_law_173 : decode cL_law 173 = .ok (.iaload, 1) := by decide +kernel
theorem dL_law_174 : decode cL_law 174 = .ok (.i2l, 1) := by decide +kernel
theorem dL_law_175 : decode cL_law 175 = .ok (.bipush 32, 2) := by decide +kernel
theorem dL_law_177 : decode cL_law 177 = .ok (.lshl, 1) := by decide +kernel
theorem dL_law_178 : decode cL_law 178 = .ok (.aload_n 0, 1) := by decide +kernel
theorem dL_law_179 : decode cL_law 179 = .ok (.iload_n 3, 1) := by decide +kernel
theorem dL_law_180 : decode cL_law 180 = .ok (.iconst 2, 1) := by decide +kernel
theorem dL_law_181 : decode cL_law 181 = .ok (.iadd, 1) := by decide +kernel
theorem dL_law_182 : decode cL_law 182 = .ok (.iaload, 1) := by decide +kernel
theorem dL_law_183 : decode cL_law 183 = .ok (.i2l, 1) := by decide +kernel
theorem dL_law_184 : decode cL_law 184 = .ok (.ldc2_w 13, 3) := by decide +kernel
theorem dL_law_187 : decode cL_law 187 = .ok (.land, 1) := by decide +kernel
theorem dL_law_188 : decode cL_law 188 = .ok (.lor, 1) := by decide +kernel
theorem dL_law_189 : decode cL_law 189 = .ok (.invokevirtual 15, 3) := by decide +kernel
theorem dL_law_192 : decode cL_law 192 = .ok (.aload_n 2, 1) := by decide +kernel
theorem dL_law_193 : decode cL_law 193 = .ok (.aload_n 0, 1) := by decide +kernel
theorem dL_law_194 : decode cL_law 194 = .ok (.iload_n 3, 1) := by decide +kernel
theorem dL_law_195 : decode cL_law 195 = .ok (.iconst 1, 1) := by decide +kernel
theorem dL_law_196 : decode cL_law 196 = .ok (.iadd, 1) := by decide +kernel
theorem dL_law_197 : decode cL_law 197 = .ok (.iaload, 1) := by decide +kernel
theorem dL_law_198 : decode cL_law 198 = .ok (.i2l, 1) := by decide +kernel
theorem dL_law_199 : decode cL_law 199 = .ok (.bipush 32, 2) := by decide +kernel
theorem dL_law_201 : decode cL_law 201 = .ok (.lshl, 1) := by decide +kernel
theorem dL_law_202 : decode cL_law 202 = .ok (.aload_n 0, 1) := by decide +kernel
theorem dL_law_203 : decode cL_law 203 = .ok (.iload_n 3, 1) := by decide +kernel
theorem dL_law_204 : decode cL_law 204 = .ok (.iconst 2, 1) := by decide +kernel
theorem dL_law_205 : decode cL_law 205 = .ok (.iadd, 1) := by decide +kernel
theorem dL_law_206 : decode cL_law 206 = .ok (.iaload, 1) := by decide +kernel
theorem dL_law_207 : decode cL_law 207 = .ok (.i2l, 1) := by decide +kernel
theorem dL_law_208 : decode cL_law 208 = .ok (.ldc2_w 13, 3) := by decide +kernel
theorem dL_law_211 : decode cL_law 211 = .ok (.land, 1) := by decide +kernel
theorem dL_law_212 : decode cL_law 212 = .ok (.lor, 1) := by decide +kernel
theorem dL_law_213 : decode cL_law 213 = .ok (.invokevirtual 19, 3) := by decide +kernel
theorem dL_law_216 : decode cL_law 216 = .ok (.if_icmp .eq 1143, 3) := by decide +kernel
theorem dL_law_219 : decode cL_law 219 = .ok (.iconst 0, 1) := by decide +kernel
theorem dL_law_220 : decode cL_law 220 = .ok (.ireturn, 1) := by decide +kernel
theorem dL_law_221 : decode cL_law 221 = .ok (.aload_n 1, 1) := by decide +kernel
theorem dL_law_222 : decode cL_law 222 = .ok (.aload_n 0, 1) := by decide +kernel
theorem dL_law_223 : decode cL_law 223 = .ok (.iload_n 3, 1) := by decide +kernel
theorem dL_law_224 : decode cL_law 224 = .ok (.iconst 1, 1) := by decide +kernel
theorem dL_law_225 : decode cL_law 225 = .ok (.iadd, 1) := by decide +kernel
theorem dL_law_226 : decode cL_law 226 = .ok (.iaload, 1) := by decide +kernel
theorem dL_law_227 : decode cL_law 227 = .ok (.i2l, 1) := by decide +kernel
theorem dL_law_228 : decode cL_law 228 = .ok (.bipush 32, 2) := by decide +kernel
theorem dL_law_230 : decode cL_law 230 = .ok (.lshl, 1) := by decide +kernel
theorem dL_law_231 : decode cL_law 231 = .ok (.aload_n 0, 1) := by decide +kernel
theorem dL_law_232 : decode cL_law 232 = .ok (.iload_n 3, 1) := by decide +kernel
theorem dL_law_233 : decode cL_law 233 = .ok (.iconst 2, 1) := by decide +kernel
theorem dL_law_234 : decode cL_law 234 = .ok (.iadd, 1) := by decide +kernel
theorem dL_law_235 : decode cL_law 235 = .ok (.iaload, 1) := by decide +kernel
theorem dL_law_236 : decode cL_law 236 = .ok (.i2l, 1) := by decide +kernel
theorem dL_law_237 : decode cL_law 237 = .ok (.ldc2_w 13, 3) := by decide +kernel
theorem dL_law_240 : decode cL_law 240 = .ok (.land, 1) := by decide +kernel
theorem dL_law_241 : decode cL_law 241 = .ok (.lor, 1) := by decide +kernel
theorem dL_law_242 : decode cL_law 242 = .ok (.aload_n 0, 1) := by decide +kernel
theorem dL_law_243 : decode cL_law 243 = .ok (.iload_n 3, 1) := by decide +kernel
theorem dL_law_244 : decode cL_law 244 = .ok (.iconst 3, 1) := by decide +kernel
theorem dL_law_245 : decode cL_law 245 = .ok (.iadd, 1) := by decide +kernel
theorem dL_law_246 : decode cL_law 246 = .ok (.iaload, 1) := by decide +kernel
theorem dL_law_247 : decode cL_law 247 = .ok (.i2l, 1) := by decide +kernel
theorem dL_law_248 : decode cL_law 248 = .ok (.bipush 32, 2) := by decide +kernel
theorem dL_law_250 : decode cL_law 250 = .ok (.lshl, 1) := by decide +kernel
theorem dL_law_251 : decode cL_law 251 = .ok (.aload_n 0, 1) := by decide +kernel
theorem dL_law_252 : decode cL_law 252 = .ok (.iload_n 3, 1) := by decide +kernel
theorem dL_law_253 : decode cL_law 253 = .ok (.iconst 4, 1) := by decide +kernel
theorem dL_law_254 : decode cL_law 254 = .ok (.iadd, 1) := by decide +kernel
theorem dL_law_255 : decode cL_law 255 = .ok (.iaload, 1) := by decide +kernel
theorem dL_law_256 : decode cL_law 256 = .ok (.i2l, 1) := by decide +kernel
theorem dL_law_257 : decode cL_law 257 = .ok (.ldc2_w 13, 3) := by decide +kernel
theorem dL_law_260 : decode cL_law 260 = .ok (.land, 1) := by decide +kernel
theorem dL_law_261 : decode cL_law 261 = .ok (.lor, 1) := by decide +kernel
theorem dL_law_262 : decode cL_law 262 = .ok (.aload_n 0, 1) := by decide +kernel
theorem dL_law_263 : decode cL_law 263 = .ok (.iload_n 3, 1) := by decide +kernel
theorem dL_law_264 : decode cL_law 264 = .ok (.iconst 5, 1) := by decide +kernel
theorem dL_law_265 : decode cL_law 265 = .ok (.iadd, 1) := by decide +kernel
theorem dL_law_266 : decode cL_law 266 = .ok (.iaload, 1) := by decide +kernel
theorem dL_law_267 : decode cL_law 267 = .ok (.invokevirtual 20, 3) := by decide +kernel
theorem dL_law_270 : decode cL_law 270 = .ok (.aload_n 2, 1) := by decide +kernel
theorem dL_law_271 : decode cL_law 271 = .ok (.aload_n 0, 1) := by decide +kernel
theorem dL_law_272 : decode cL_law 272 = .ok (.iload_n 3, 1) := by decide +kernel
theorem dL_law_273 : decode cL_law 273 = .ok (.iconst 1, 1) := by decide +kernel
theorem dL_law_274 : decode cL_law 274 = .ok (.iadd, 1) := by decide +kernel
theorem dL_law_275 : decode cL_law 275 = .ok (.iaload, 1) := by decide +kernel
theorem dL_law_276 : decode cL_law 276 = .ok (.i2l, 1) := by decide +kernel
theorem dL_law_277 : decode cL_law 277 = .ok (.bipush 32, 2) := by decide +kernel
theorem dL_law_279 : decode cL_law 279 = .ok (.lshl, 1) := by decide +kernel
theorem dL_law_280 : decode cL_law 280 = .ok (.aload_n 0, 1) := by decide +kernel
theorem dL_law_281 : decode cL_law 281 = .ok (.iload_n 3, 1) := by decide +kernel
theorem dL_law_282 : decode cL_law 282 = .ok (.iconst 2, 1) := by decide +kernel
theorem dL_law_283 : decode cL_law 283 = .ok (.iadd, 1) := by decide +kernel
theorem dL_law_284 : decode cL_law 284 = .ok (.iaload, 1) := by decide +kernel
theorem dL_law_285 : decode cL_law 285 = .ok (.i2l, 1) := by decide +kernel
theorem dL_law_286 : decode cL_law 286 = .ok (.ldc2_w 13, 3) := by decide +kernel
theorem dL_law_289 : decode cL_law 289 = .ok (.land, 1) := by decide +kernel
theorem dL_law_290 : decode cL_law 290 = .ok (.lor, 1) := by decide +kernel
theorem dL_law_291 : decode cL_law 291 = .ok (.aload_n 0, 1) := by decide +kernel
theorem dL_law_292 : decode cL_law 292 = .ok (.iload_n 3, 1) := by decide +kernel
theorem dL_law_293 : decode cL_law 293 = .ok (.iconst 3, 1) := by decide +kernel
theorem dL_law_294 : decode cL_law 294 = .ok (.iadd, 1) := by decide +kernel
theorem dL_law_295 : decode cL_law 295 = .ok (.iaload, 1) := by decide +kernel
theorem dL_law_296 : decode cL_law 296 = .ok (.i2l, 1) := by decide +kernel
theorem dL_law_297 : decode cL_law 297 = .ok (.bipush 32, 2) := by decide +kernel
theorem dL_law_299 : decode cL_law 299 = .ok (.lshl, 1) := by decide +kernel
theorem dL_law_300 : decode cL_law 300 = .ok (.aload_n 0, 1) := by decide +kernel
theorem dL_law_301 : decode cL_law 301 = .ok (.iload_n 3, 1) := by decide +kernel
theorem dL_law_302 : decode cL_law 302 = .ok (.iconst 4, 1) := by decide +kernel
theorem dL_law_303 : decode cL_law 303 = .ok (.iadd, 1) := by decide +kernel
theorem dL_law_304 : decode cL_law 304 = .ok (.iaload, 1) := by decide +kernel
theorem dL_law_305 : decode cL_law 305 = .ok (.i2l, 1) := by decide +kernel
theorem dL_law_306 : decode cL_law 306 = .ok (.ldc2_w 13, 3) := by decide +kernel
theorem dL_law_309 : decode cL_law 309 = .ok (.land, 1) := by decide +kernel
theorem dL_law_310 : decode cL_law 310 = .ok (.lor, 1) := by decide +kernel
theorem dL_law_311 : decode cL_law 311 = .ok (.aload_n 0, 1) := by decide +kernel
theorem dL_law_312 : decode cL_law 312 = .ok (.iload_n 3, 1) := by decide +kernel
theorem dL_law_313 : decode cL_law 313 = .ok (.iconst 5, 1) := by decide +kernel
theorem dL_law_314 : decode cL_law 314 = .ok (.iadd, 1) := by decide +kernel
theorem dL_law_315 : decode cL_law 315 = .ok (.iaload, 1) := by decide +kernel
theorem dL_law_316 : decode cL_law 316 = .ok (.invokevirtual 24, 3) := by decide +kernel
theorem dL_law_319 : decode cL_law 319 = .ok (.if_icmp .eq 1040, 3) := by decide +kernel
theorem dL_law_322 : decode cL_law 322 = .ok (.iconst 0, 1) := by decide +kernel
theorem dL_law_323 : decode cL_law 323 = .ok (.ireturn, 1) := by decide +kernel
theorem dL_law_324 : decode cL_law 324 = .ok (.aload_n 1, 1) := by decide +kernel
theorem dL_law_325 : decode cL_law 325 = .ok (.invokevirtual 25, 3) := by decide +kernel
theorem dL_law_328 : decode cL_law 328 = .ok (.aload_n 2, 1) := by decide +kernel
theorem dL_law_329 : decode cL_law 329 = .ok (.invokevirtual 29, 3) := by decide +kernel
theorem dL_law_332 : decode cL_law 332 = .ok (.if_icmp .eq 1027, 3) := by decide +kernel
theorem dL_law_335 : decode cL_law 335 = .ok (.iconst 0, 1) := by decide +kernel
theorem dL_law_336 : decode cL_law 336 = .ok (.ireturn, 1) := by decide +kernel
theorem dL_law_337 : decode cL_law 337 = .ok (.aload_n 1, 1) := by decide +kernel
theorem dL_law_338 : decode cL_law 338 = .ok (.aload_n 0, 1) := by decide +kernel
theorem dL_law_339 : decode cL_law 339 = .ok (.iload_n 3, 1) := by decide +kernel
theorem dL_law_340 : decode cL_law 340 = .ok (.iconst 1, 1) := by decide +kernel
theorem dL_law_341 : decode cL_law 341 = .ok (.iadd, 1) := by decide +kernel
theorem dL_law_342 : decode cL_law 342 = .ok (.iaload, 1) := by decide +kernel
theorem dL_law_343 : decode cL_law 343 = .ok (.invokevirtual 30, 3) := by decide +kernel
theorem dL_law_346 : decode cL_law 346 = .ok (.aload_n 2, 1) := by decide +kernel
theorem dL_law_347 : decode cL_law 347 = .ok (.aload_n 0, 1) := by decide +kernel
theorem dL_law_348 : decode cL_law 348 = .ok (.iload_n 3, 1) := by decide +kernel
theorem dL_law_349 : decode cL_law 349 = .ok (.iconst 1, 1) := by decide +kernel
theorem dL_law_350 : decode cL_law 350 = .ok (.iadd, 1) := by decide +kernel
theorem dL_law_351 : decode cL_law 351 = .ok (.iaload, 1) := by decide +kernel
theorem dL_law_352 : decode cL_law 352 = .ok (.invokevirtual 34, 3) := by decide +kernel
theorem dL_law_355 : decode cL_law 355 = .ok (.if_icmp .eq 1004, 3) := by decide +kernel
theorem dL_law_358 : decode cL_law 358 = .ok (.iconst 0, 1) := by decide +kernel
theorem dL_law_359 : decode cL_law 359 = .ok (.ireturn, 1) := by decide +kernel
theorem dL_law_360 : decode cL_law 360 = .ok (.aload_n 1, 1) := by decide +kernel
theorem dL_law_361 : decode cL_law 361 = .ok (.aload_n 0, 1) := by decide +kernel
theorem dL_law_362 : decode cL_law 362 = .ok (.iload_n 3, 1) := by decide +kernel
theorem dL_law_363 : decode cL_law 363 = .ok (.iconst 1, 1) := by decide +kernel
theorem dL_law_364 : decode cL_law 364 = .ok (.iadd, 1) := by decide +kernel
theorem dL_law_365 : decode cL_law 365 = .ok (.iaload, 1) := by decide +kernel
theorem dL_law_366 : decode cL_law 366 = .ok (.invokevirtual 35, 3) := by decide +kernel
theorem dL_law_369 : decode cL_law 369 = .ok (.aload_n 2, 1) := by decide +kernel
theorem dL_law_370 : decode cL_law 370 = .ok (.aload_n 0, 1) := by decide +kernel
theorem dL_law_371 : decode cL_law 371 = .ok (.iload_n 3, 1) := by decide +kernel
theorem dL_law_372 : decode cL_law 372 = .ok (.iconst 1, 1) := by decide +kernel
theorem dL_law_373 : decode cL_law 373 = .ok (.iadd, 1) := by decide +kernel
theorem dL_law_374 : decode cL_law 374 = .ok (.iaload, 1) := by decide +kernel
theorem dL_law_375 : decode cL_law 375 = .ok (.invokevirtual 38, 3) := by decide +kernel
theorem dL_law_378 : decode cL_law 378 = .ok (.if_icmp .eq 981, 3) := by decide +kernel
theorem dL_law_381 : decode cL_law 381 = .ok (.iconst 0, 1) := by decide +kernel
theorem dL_law_382 : decode cL_law 382 = .ok (.ireturn, 1) := by decide +kernel
theorem dL_law_383 : decode cL_law 383 = .ok (.aload_n 1, 1) := by decide +kernel
theorem dL_law_384 : decode cL_law 384 = .ok (.aload_n 0, 1) := by decide +kernel
theorem dL_law_385 : decode cL_law 385 = .ok (.iload_n 3, 1) := by decide +kernel
theorem dL_law_386 : decode cL_law 386 = .ok (.iconst 1, 1) := by decide +kernel
theorem dL_law_387 : decode cL_law 387 = .ok (.iadd, 1) := by decide +kernel
theorem dL_law_388 : decode cL_law 388 = .ok (.iaload, 1) := by decide +kernel
theorem dL_law_389 : decode cL_law 389 = .ok (.aload_n 0, 1) := by decide +kernel
theorem dL_law_390 : decode cL_law 390 = .ok (.iload_n 3, 1) := by decide +kernel
theorem dL_law_391 : decode cL_law 391 = .ok (.iconst 2, 1) := by decide +kernel
theorem dL_law_392 : decode cL_law 392 = .ok (.iadd, 1) := by decide +kernel
theorem dL_law_393 : decode cL_law 393 = .ok (.iaload, 1) := by decide +kernel
theorem dL_law_394 : decode cL_law 394 = .ok (.aload_n 0, 1) := by decide +kernel
theorem dL_law_395 : decode cL_law 395 = .ok (.iload_n 3, 1) := by decide +kernel
theorem dL_law_396 : decode cL_law 396 = .ok (.iconst 3, 1) := by decide +kernel
theorem dL_law_397 : decode cL_law 397 = .ok (.iadd, 1) := by decide +kernel
theorem dL_law_398 : decode cL_law 398 = .ok (.iaload, 1) := by decide +kernel
theorem dL_law_399 : decode cL_law 399 = .ok (.aload_n 0, 1) := by decide +kernel
theorem dL_law_400 : decode cL_law 400 = .ok (.iload_n 3, 1) := by decide +kernel
theorem dL_law_401 : decode cL_law 401 = .ok (.iconst 4, 1) := by decide +kernel
theorem dL_law_402 : decode cL_law 402 = .ok (.iadd, 1) := by decide +kernel
theorem dL_law_403 : decode cL_law 403 = .ok (.iaload, 1) := by decide +kernel
theorem dL_law_404 : decode cL_law 404 = .ok (.invokevirtual 39, 3) := by decide +kernel
theorem dL_law_407 : decode cL_law 407 = .ok (.aload_n 2, 1) := by decide +kernel
theorem dL_law_408 : decode cL_law 408 = .ok (.aload_n 0, 1) := by decide +kernel
theorem dL_law_409 : decode cL_law 409 = .ok (.iload_n 3, 1) := by decide +kernel
theorem dL_law_410 : decode cL_law 410 = .ok (.iconst 1, 1) := by decide +kernel
theorem dL_law_411 : decode cL_law 411 = .ok (.iadd, 1) := by decide +kernel
theorem dL_law_412 : decode cL_law 412 = .ok (.iaload, 1) := by decide +kernel
theorem dL_law_413 : decode cL_law 413 = .ok (.aload_n 0, 1) := by decide +kernel
theorem dL_law_414 : decode cL_law 414 = .ok (.iload_n 3, 1) := by decide +kernel
theorem dL_law_415 : decode cL_law 415 = .ok (.iconst 2, 1) := by decide +kernel
theorem dL_law_416 : decode cL_law 416 = .ok (.iadd, 1) := by decide +kernel
theorem dL_law_417 : decode cL_law 417 = .ok (.iaload, 1) := by decide +kernel
theorem dL_law_418 : decode cL_law 418 = .ok (.aload_n 0, 1) := by decide +kernel
theorem dL_law_419 : decode cL_law 419 = .ok (.iload_n 3, 1) := by decide +kernel
theorem dL_law_420 : decode cL_law 420 = .ok (.iconst 3, 1) := by decide +kernel
theorem dL_law_421 : decode cL_law 421 = .ok (.iadd, 1) := by decide +kernel
theorem dL_law_422 : decode cL_law 422 = .ok (.iaload, 1) := by decide +kernel
theorem dL_law_423 : decode cL_law 423 = .ok (.aload_n 0, 1) := by decide +kernel
theorem dL_law_424 : decode cL_law 424 = .ok (.iload_n 3, 1) := by decide +kernel
theorem dL_law_425 : decode cL_law 425 = .ok (.iconst 4, 1) := by decide +kernel
theorem dL_law_426 : decode cL_law 426 = .ok (.iadd, 1) := by decide +kernel
theorem dL_law_427 : decode cL_law 427 = .ok (.iaload, 1) := by decide +kernel
theorem dL_law_428 : decode cL_law 428 = .ok (.invokevirtual 43, 3) := by decide +kernel
theorem dL_law_431 : decode cL_law 431 = .ok (.if_icmp .eq 928, 3) := by decide +kernel
theorem dL_law_434 : decode cL_law 434 = .ok (.iconst 0, 1) := by decide +kernel
theorem dL_law_435 : decode cL_law 435 = .ok (.ireturn, 1) := by decide +kernel
theorem dL_law_436 : decode cL_law 436 = .ok (.aload_n 1, 1) := by decide +kernel
theorem dL_law_437 : decode cL_law 437 = .ok (.aload_n 0, 1) := by decide +kernel
theorem dL_law_438 : decode cL_law 438 = .ok (.iload_n 3, 1) := by decide +kernel
theorem dL_law_439 : decode cL_law 439 = .ok (.iconst 1, 1) := by decide +kernel
theorem dL_law_440 : decode cL_law 440 = .ok (.iadd, 1) := by decide +kernel
theorem dL_law_441 : decode cL_law 441 = .ok (.iaload, 1) := by decide +kernel
theorem dL_law_442 : decode cL_law 442 = .ok (.aload_n 0, 1) := by decide +kernel
theorem dL_law_443 : decode cL_law 443 = .ok (.iload_n 3, 1) := by decide +kernel
theorem dL_law_444 : decode cL_law 444 = .ok (.iconst 2, 1) := by decide +kernel
theorem dL_law_445 : decode cL_law 445 = .ok (.iadd, 1) := by decide +kernel
theorem dL_law_446 : decode cL_law 446 = .ok (.iaload, 1) := by decide +kernel
theorem dL_law_447 : decode cL_law 447 = .ok (.invokevirtual 44, 3) := by decide +kernel
theorem dL_law_450 : decode cL_law 450 = .ok (.aload_n 2, 1) := by decide +kernel
theorem dL_law_451 : decode cL_law 451 = .ok (.aload_n 0, 1) := by decide +kernel
theorem dL_law_452 : decode cL_law 452 = .ok (.iload_n 3, 1) := by decide +kernel
theorem dL_law_453 : decode cL_law 453 = .ok (.iconst 1, 1) := by decide +kernel
theorem dL_law_454 : decode cL_law 454 = .ok (.iadd, 1) := by decide +kernel
theorem dL_law_455 : decode cL_law 455 = .ok (.iaload, 1) := by decide +kernel
theorem dL_law_456 : decode cL_law 456 = .ok (.aload_n 0, 1) := by decide +kernel
theorem dL_law_457 : decode cL_law 457 = .ok (.iload_n 3, 1) := by decide +kernel
theorem dL_law_458 : decode cL_law 458 = .ok (.iconst 2, 1) := by decide +kernel
theorem dL_law_459 : decode cL_law 459 = .ok (.iadd, 1) := by decide +kernel
theorem dL_law_460 : decode cL_law 460 = .ok (.iaload, 1) := by decide +kernel
theorem dL_law_461 : decode cL_law 461 = .ok (.invokevirtual 48, 3) := by decide +kernel
theorem dL_law_464 : decode cL_law 464 = .ok (.if_icmp .eq 895, 3) := by decide +kernel
theorem dL_law_467 : decode cL_law 467 = .ok (.iconst 0, 1) := by decide +kernel
theorem dL_law_468 : decode cL_law 468 = .ok (.ireturn, 1) := by decide +kernel
theorem dL_law_469 : decode cL_law 469 = .ok (.aload_n 1, 1) := by decide +kernel
theorem dL_law_470 : decode cL_law 470 = .ok (.aload_n 0, 1) := by decide +kernel
theorem dL_law_471 : decode cL_law 471 = .ok (.iload_n 3, 1) := by decide +kernel
theorem dL_law_472 : decode cL_law 472 = .ok (.iconst 1, 1) := by decide +kernel
theorem dL_law_473 : decode cL_law 473 = .ok (.iadd, 1) := by decide +kernel
theorem dL_law_474 : decode cL_law 474 = .ok (.iaload, 1) := by decide +kernel
theorem dL_law_475 : decode cL_law 475 = .ok (.invokevirtual 49, 3) := by decide +kernel
theorem dL_law_478 : decode cL_law 478 = .ok (.aload_n 2, 1) := by decide +kernel
theorem dL_law_479 : decode cL_law 479 = .ok (.aload_n 0, 1) := by decide +kernel
theorem dL_law_480 : decode cL_law 480 = .ok (.iload_n 3, 1) := by decide +kernel
theorem dL_law_481 : decode cL_law 481 = .ok (.iconst 1, 1) := by decide +kernel
theorem dL_law_482 : decode cL_law 482 = .ok (.iadd, 1) := by decide +kernel
theorem dL_law_483 : decode cL_law 483 = .ok (.iaload, 1) := by decide +kernel
theorem dL_law_484 : decode cL_law 484 = .ok (.invokevirtual 52, 3) := by decide +kernel
theorem dL_law_487 : decode cL_law 487 = .ok (.if_icmp .eq 872, 3) := by decide +kernel
theorem dL_law_490 : decode cL_law 490 = .ok (.iconst 0, 1) := by decide +kernel
theorem dL_law_491 : decode cL_law 491 = .ok (.ireturn, 1) := by decide +kernel
theorem dL_law_492 : decode cL_law 492 = .ok (.aload_n 1, 1) := by decide +kernel
theorem dL_law_493 : decode cL_law 493 = .ok (.aload_n 0, 1) := by decide +kernel
theorem dL_law_494 : decode cL_law 494 = .ok (.iload_n 3, 1) := by decide +kernel
theorem dL_law_495 : decode cL_law 495 = .ok (.iconst 1, 1) := by decide +kernel
theorem dL_law_496 : decode cL_law 496 = .ok (.iadd, 1) := by decide +kernel
theorem dL_law_497 : decode cL_law 497 = .ok (.iaload, 1) := by decide +kernel
theorem dL_law_498 : decode cL_law 498 = .ok (.invokevirtual 53, 3) := by decide +kernel
theorem dL_law_501 : decode cL_law 501 = .ok (.aload_n 2, 1) := by decide +kernel
theorem dL_law_502 : decode cL_law 502 = .ok (.aload_n 0, 1) := by decide +kernel
theorem dL_law_503 : decode cL_law 503 = .ok (.iload_n 3, 1) := by decide +kernel
theorem dL_law_504 : decode cL_law 504 = .ok (.iconst 1, 1) := by decide +kernel
theorem dL_law_505 : decode cL_law 505 = .ok (.iadd, 1) := by decide +kernel
theorem dL_law_506 : decode cL_law 506 = .ok (.iaload, 1) := by decide +kernel
theorem dL_law_507 : decode cL_law 507 = .ok (.invokevirtual 56, 3) := by decide +kernel
theorem dL_law_510 : decode cL_law 510 = .ok (.if_icmp .eq 849, 3) := by decide +kernel
theorem dL_law_513 : decode cL_law 513 = .ok (.iconst 0, 1) := by decide +kernel
theorem dL_law_514 : decode cL_law 514 = .ok (.ireturn, 1) := by decide +kernel
theorem dL_law_515 : decode cL_law 515 = .ok (.aload_n 1, 1) := by decide +kernel
theorem dL_law_516 : decode cL_law 516 = .ok (.invokevirtual 57, 3) := by decide +kernel
theorem dL_law_519 : decode cL_law 519 = .ok (.aload_n 2, 1) := by decide +kernel
theorem dL_law_520 : decode cL_law 520 = .ok (.invokevirtual 60, 3) := by decide +kernel
theorem dL_law_523 : decode cL_law 523 = .ok (.if_icmp .eq 836, 3) := by decide +kernel
theorem dL_law_526 : decode cL_law 526 = .ok (.iconst 0, 1) := by decide +kernel
theorem dL_law_527 : decode cL_law 527 = .ok (.ireturn, 1) := by decide +kernel
theorem dL_law_528 : decode cL_law 528 = .ok (.aload_n 1, 1) := by decide +kernel
theorem dL_law_529 : decode cL_law 529 = .ok (.aload_n 0, 1) := by decide +kernel
theorem dL_law_530 : decode cL_law 530 = .ok (.iload_n 3, 1) := by decide +kernel
theorem dL_law_531 : decode cL_law 531 = .ok (.iconst 1, 1) := by decide +kernel
theorem dL_law_532 : decode cL_law 532 = .ok (.iadd, 1) := by decide +kernel
theorem dL_law_533 : decode cL_law 533 = .ok (.iaload, 1) := by decide +kernel
theorem dL_law_534 : decode cL_law 534 = .ok (.invokevirtual 61, 3) := by decide +kernel
theorem dL_law_537 : decode cL_law 537 = .ok (.aload_n 2, 1) := by decide +kernel
theorem dL_law_538 : decode cL_law 538 = .ok (.aload_n 0, 1) := by decide +kernel
theorem dL_law_539 : decode cL_law 539 = .ok (.iload_n 3, 1) := by decide +kernel
theorem dL_law_540 : decode cL_law 540 = .ok (.iconst 1, 1) := by decide +kernel
theorem dL_law_541 : decode cL_law 541 = .ok (.iadd, 1) := by decide +kernel
theorem dL_law_542 : decode cL_law 542 = .ok (.iaload, 1) := by decide +kernel
theorem dL_law_543 : decode cL_law 543 = .ok (.invokevirtual 64, 3) := by decide +kernel
theorem dL_law_546 : decode cL_law 546 = .ok (.if_icmp .eq 813, 3) := by decide +kernel
theorem dL_law_549 : decode cL_law 549 = .ok (.iconst 0, 1) := by decide +kernel
theorem dL_law_550 : decode cL_law 550 = .ok (.ireturn, 1) := by decide +kernel
theorem dL_law_551 : decode cL_law 551 = .ok (.aload_n 1, 1) := by decide +kernel
theorem dL_law_552 : decode cL_law 552 = .ok (.aload_n 0, 1) := by decide +kernel
theorem dL_law_553 : decode cL_law 553 = .ok (.iload_n 3, 1) := by decide +kernel
theorem dL_law_554 : decode cL_law 554 = .ok (.iconst 1, 1) := by decide +kernel
theorem dL_law_555 : decode cL_law 555 = .ok (.iadd, 1) := by decide +kernel
theorem dL_law_556 : decode cL_law 556 = .ok (.iaload, 1) := by decide +kernel
theorem dL_law_557 : decode cL_law 557 = .ok (.invokevirtual 65, 3) := by decide +kernel
theorem dL_law_560 : decode cL_law 560 = .ok (.aload_n 2, 1) := by decide +kernel
theorem dL_law_561 : decode cL_law 561 = .ok (.aload_n 0, 1) := by decide +kernel
theorem dL_law_562 : decode cL_law 562 = .ok (.iload_n 3, 1) := by decide +kernel
theorem dL_law_563 : decode cL_law 563 = .ok (.iconst 1, 1) := by decide +kernel
theorem dL_law_564 : decode cL_law 564 = .ok (.iadd, 1) := by decide +kernel
theorem dL_law_565 : decode cL_law 565 = .ok (.iaload, 1) := by decide +kernel
theorem dL_law_566 : decode cL_law 566 = .ok (.invokevirtual 68, 3) := by decide +kernel
theorem dL_law_569 : decode cL_law 569 = .ok (.if_icmp .eq 790, 3) := by decide +kernel
theorem dL_law_572 : decode cL_law 572 = .ok (.iconst 0, 1) := by decide +kernel
theorem dL_law_573 : decode cL_law 573 = .ok (.ireturn, 1) := by decide +kernel
theorem dL_law_574 : decode cL_law 574 = .ok (.aload_n 1, 1) := by decide +kernel
theorem dL_law_575 : decode cL_law 575 = .ok (.aload_n 0, 1) := by decide +kernel
theorem dL_law_576 : decode cL_law 576 = .ok (.iload_n 3, 1) := by decide +kernel
theorem dL_law_577 : decode cL_law 577 = .ok (.iconst 1, 1) := by decide +kernel
theorem dL_law_578 : decode cL_law 578 = .ok (.iadd, 1) := by decide +kernel
theorem dL_law_579 : decode cL_law 579 = .ok (.iaload, 1) := by decide +kernel
theorem dL_law_580 : decode cL_law 580 = .ok (.i2l, 1) := by decide +kernel
theorem dL_law_581 : decode cL_law 581 = .ok (.bipush 32, 2) := by decide +kernel
theorem dL_law_583 : decode cL_law 583 = .ok (.lshl, 1) := by decide +kernel
theorem dL_law_584 : decode cL_law 584 = .ok (.aload_n 0, 1) := by decide +kernel
theorem dL_law_585 : decode cL_law 585 = .ok (.iload_n 3, 1) := by decide +kernel
theorem dL_law_586 : decode cL_law 586 = .ok (.iconst 2, 1) := by decide +kernel
theorem dL_law_587 : decode cL_law 587 = .ok (.iadd, 1) := by decide +kernel
theorem dL_law_588 : decode cL_law 588 = .ok (.iaload, 1) := by decide +kernel
theorem dL_law_589 : decode cL_law 589 = .ok (.i2l, 1) := by decide +kernel
theorem dL_law_590 : decode cL_law 590 = .ok (.ldc2_w 13, 3) := by decide +kernel
theorem dL_law_593 : decode cL_law 593 = .ok (.land, 1) := by decide +kernel
theorem dL_law_594 : decode cL_law 594 = .ok (.lor, 1) := by decide +kernel
theorem dL_law_595 : decode cL_law 595 = .ok (.invokevirtual 69, 3) := by decide +kernel
theorem dL_law_598 : decode cL_law 598 = .ok (.aload_n 2, 1) := by decide +kernel
theorem dL_law_599 : decode cL_law 599 = .ok (.aload_n 0, 1) := by decide +kernel
theorem dL_law_600 : decode cL_law 600 = .ok (.iload_n 3, 1) := by decide +kernel
theorem dL_law_601 : decode cL_law 601 = .ok (.iconst 1, 1) := by decide +kernel
theorem dL_law_602 : decode cL_law 602 = .ok (.iadd, 1) := by decide +kernel
theorem dL_law_603 : decode cL_law 603 = .ok (.iaload, 1) := by decide +kernel
theorem dL_law_604 : decode cL_law 604 = .ok (.i2l, 1) := by decide +kernel
theorem dL_law_605 : decode cL_law 605 = .ok (.bipush 32, 2) := by decide +kernel
theorem dL_law_607 : decode cL_law 607 = .ok (.lshl, 1) := by decide +kernel
theorem dL_law_608 : decode cL_law 608 = .ok (.aload_n 0, 1) := by decide +kernel
theorem dL_law_609 : decode cL_law 609 = .ok (.iload_n 3, 1) := by decide +kernel
theorem dL_law_610 : decode cL_law 610 = .ok (.iconst 2, 1) := by decide +kernel
theorem dL_law_611 : decode cL_law 611 = .ok (.iadd, 1) := by decide +kernel
theorem dL_law_612 : decode cL_law 612 = .ok (.iaload, 1) := by decide +kernel
theorem dL_law_613 : decode cL_law 613 = .ok (.i2l, 1) := by decide +kernel
theorem dL_law_614 : decode cL_law 614 = .ok (.ldc2_w 13, 3) := by decide +kernel
theorem dL_law_617 : decode cL_law 617 = .ok (.land, 1) := by decide +kernel
theorem dL_law_618 : decode cL_law 618 = .ok (.lor, 1) := by decide +kernel
theorem dL_law_619 : decode cL_law 619 = .ok (.invokevirtual 72, 3) := by decide +kernel
theorem dL_law_622 : decode cL_law 622 = .ok (.if_icmp .eq 737, 3) := by decide +kernel
theorem dL_law_625 : decode cL_law 625 = .ok (.iconst 0, 1) := by decide +kernel
theorem dL_law_626 : decode cL_law 626 = .ok (.ireturn, 1) := by decide +kernel
theorem dL_law_627 : decode cL_law 627 = .ok (.aload_n 1, 1) := by decide +kernel
theorem dL_law_628 : decode cL_law 628 = .ok (.aload_n 0, 1) := by decide +kernel
theorem dL_law_629 : decode cL_law 629 = .ok (.iload_n 3, 1) := by decide +kernel
theorem dL_law_630 : decode cL_law 630 = .ok (.iconst 1, 1) := by decide +kernel
theorem dL_law_631 : decode cL_law 631 = .ok (.iadd, 1) := by decide +kernel
theorem dL_law_632 : decode cL_law 632 = .ok (.iaload, 1) := by decide +kernel
theorem dL_law_633 : decode cL_law 633 = .ok (.i2l, 1) := by decide +kernel
theorem dL_law_634 : decode cL_law 634 = .ok (.bipush 32, 2) := by decide +kernel
theorem dL_law_636 : decode cL_law 636 = .ok (.lshl, 1) := by decide +kernel
theorem dL_law_637 : decode cL_law 637 = .ok (.aload_n 0, 1) := by decide +kernel
theorem dL_law_638 : decode cL_law 638 = .ok (.iload_n 3, 1) := by decide +kernel
theorem dL_law_639 : decode cL_law 639 = .ok (.iconst 2, 1) := by decide +kernel
theorem dL_law_640 : decode cL_law 640 = .ok (.iadd, 1) := by decide +kernel
theorem dL_law_641 : decode cL_law 641 = .ok (.iaload, 1) := by decide +kernel
theorem dL_law_642 : decode cL_law 642 = .ok (.i2l, 1) := by decide +kernel
theorem dL_law_643 : decode cL_law 643 = .ok (.ldc2_w 13, 3) := by decide +kernel
theorem dL_law_646 : decode cL_law 646 = .ok (.land, 1) := by decide +kernel
theorem dL_law_647 : decode cL_law 647 = .ok (.lor, 1) := by decide +kernel
theorem dL_law_648 : decode cL_law 648 = .ok (.invokevirtual 73, 3) := by decide +kernel
theorem dL_law_651 : decode cL_law 651 = .ok (.aload_n 2, 1) := by decide +kernel
theorem dL_law_652 : decode cL_law 652 = .ok (.aload_n 0, 1) := by decide +kernel
theorem dL_law_653 : decode cL_law 653 = .ok (.iload_n 3, 1) := by decide +kernel
theorem dL_law_654 : decode cL_law 654 = .ok (.iconst 1, 1) := by decide +kernel
theorem dL_law_655 : decode cL_law 655 = .ok (.iadd, 1) := by decide +kernel
theorem dL_law_656 : decode cL_law 656 = .ok (.iaload, 1) := by decide +kernel
theorem dL_law_657 : decode cL_law 657 = .ok (.i2l, 1) := by decide +kernel
theorem dL_law_658 : decode cL_law 658 = .ok (.bipush 32, 2) := by decide +kernel
theorem dL_law_660 : decode cL_law 660 = .ok (.lshl, 1) := by decide +kernel
theorem dL_law_661 : decode cL_law 661 = .ok (.aload_n 0, 1) := by decide +kernel
theorem dL_law_662 : decode cL_law 662 = .ok (.iload_n 3, 1) := by decide +kernel
theorem dL_law_663 : decode cL_law 663 = .ok (.iconst 2, 1) := by decide +kernel
theorem dL_law_664 : decode cL_law 664 = .ok (.iadd, 1) := by decide +kernel
theorem dL_law_665 : decode cL_law 665 = .ok (.iaload, 1) := by decide +kernel
theorem dL_law_666 : decode cL_law 666 = .ok (.i2l, 1) := by decide +kernel
theorem dL_law_667 : decode cL_law 667 = .ok (.ldc2_w 13, 3) := by decide +kernel
theorem dL_law_670 : decode cL_law 670 = .ok (.land, 1) := by decide +kernel
theorem dL_law_671 : decode cL_law 671 = .ok (.lor, 1) := by decide +kernel
theorem dL_law_672 : decode cL_law 672 = .ok (.invokevirtual 76, 3) := by decide +kernel
theorem dL_law_675 : decode cL_law 675 = .ok (.if_icmp .eq 684, 3) := by decide +kernel
theorem dL_law_678 : decode cL_law 678 = .ok (.iconst 0, 1) := by decide +kernel
theorem dL_law_679 : decode cL_law 679 = .ok (.ireturn, 1) := by decide +kernel
theorem dL_law_680 : decode cL_law 680 = .ok (.aload_n 1, 1) := by decide +kernel
theorem dL_law_681 : decode cL_law 681 = .ok (.aload_n 0, 1) := by decide +kernel
theorem dL_law_682 : decode cL_law 682 = .ok (.iload_n 3, 1) := by decide +kernel
theorem dL_law_683 : decode cL_law 683 = .ok (.iconst 1, 1) := by decide +kernel
theorem dL_law_684 : decode cL_law 684 = .ok (.iadd, 1) := by decide +kernel
theorem dL_law_685 : decode cL_law 685 = .ok (.iaload, 1) := by decide +kernel
theorem dL_law_686 : decode cL_law 686 = .ok (.i2l, 1) := by decide +kernel
theorem dL_law_687 : decode cL_law 687 = .ok (.bipush 32, 2) := by decide +kernel
theorem dL_law_689 : decode cL_law 689 = .ok (.lshl, 1) := by decide +kernel
theorem dL_law_690 : decode cL_law 690 = .ok (.aload_n 0, 1) := by decide +kernel
theorem dL_law_691 : decode cL_law 691 = .ok (.iload_n 3, 1) := by decide +kernel
theorem dL_law_692 : decode cL_law 692 = .ok (.iconst 2, 1) := by decide +kernel
theorem dL_law_693 : decode cL_law 693 = .ok (.iadd, 1) := by decide +kernel
theorem dL_law_694 : decode cL_law 694 = .ok (.iaload, 1) := by decide +kernel
theorem dL_law_695 : decode cL_law 695 = .ok (.i2l, 1) := by decide +kernel
theorem dL_law_696 : decode cL_law 696 = .ok (.ldc2_w 13, 3) := by decide +kernel
theorem dL_law_699 : decode cL_law 699 = .ok (.land, 1) := by decide +kernel
theorem dL_law_700 : decode cL_law 700 = .ok (.lor, 1) := by decide +kernel
theorem dL_law_701 : decode cL_law 701 = .ok (.invokevirtual 77, 3) := by decide +kernel
theorem dL_law_704 : decode cL_law 704 = .ok (.aload_n 2, 1) := by decide +kernel
theorem dL_law_705 : decode cL_law 705 = .ok (.aload_n 0, 1) := by decide +kernel
theorem dL_law_706 : decode cL_law 706 = .ok (.iload_n 3, 1) := by decide +kernel
theorem dL_law_707 : decode cL_law 707 = .ok (.iconst 1, 1) := by decide +kernel
theorem dL_law_708 : decode cL_law 708 = .ok (.iadd, 1) := by decide +kernel
theorem dL_law_709 : decode cL_law 709 = .ok (.iaload, 1) := by decide +kernel
theorem dL_law_710 : decode cL_law 710 = .ok (.i2l, 1) := by decide +kernel
theorem dL_law_711 : decode cL_law 711 = .ok (.bipush 32, 2) := by decide +kernel
theorem dL_law_713 : decode cL_law 713 = .ok (.lshl, 1) := by decide +kernel
theorem dL_law_714 : decode cL_law 714 = .ok (.aload_n 0, 1) := by decide +kernel
theorem dL_law_715 : decode cL_law 715 = .ok (.iload_n 3, 1) := by decide +kernel
theorem dL_law_716 : decode cL_law 716 = .ok (.iconst 2, 1) := by decide +kernel
theorem dL_law_717 : decode cL_law 717 = .ok (.iadd, 1) := by decide +kernel
theorem dL_law_718 : decode cL_law 718 = .ok (.iaload, 1) := by decide +kernel
theorem dL_law_719 : decode cL_law 719 = .ok (.i2l, 1) := by decide +kernel
theorem dL_law_720 : decode cL_law 720 = .ok (.ldc2_w 13, 3) := by decide +kernel
theorem dL_law_723 : decode cL_law 723 = .ok (.land, 1) := by decide +kernel
theorem dL_law_724 : decode cL_law 724 = .ok (.lor, 1) := by decide +kernel
theorem dL_law_725 : decode cL_law 725 = .ok (.invokevirtual 80, 3) := by decide +kernel
theorem dL_law_728 : decode cL_law 728 = .ok (.if_icmp .eq 631, 3) := by decide +kernel
theorem dL_law_731 : decode cL_law 731 = .ok (.iconst 0, 1) := by decide +kernel
theorem dL_law_732 : decode cL_law 732 = .ok (.ireturn, 1) := by decide +kernel
theorem dL_law_733 : decode cL_law 733 = .ok (.aload_n 1, 1) := by decide +kernel
theorem dL_law_734 : decode cL_law 734 = .ok (.aload_n 0, 1) := by decide +kernel
theorem dL_law_735 : decode cL_law 735 = .ok (.iload_n 3, 1) := by decide +kernel
theorem dL_law_736 : decode cL_law 736 = .ok (.iconst 1, 1) := by decide +kernel
theorem dL_law_737 : decode cL_law 737 = .ok (.iadd, 1) := by decide +kernel
theorem dL_law_738 : decode cL_law 738 = .ok (.iaload, 1) := by decide +kernel
theorem dL_law_739 : decode cL_law 739 = .ok (.invokevirtual 81, 3) := by decide +kernel
theorem dL_law_742 : decode cL_law 742 = .ok (.aload_n 2, 1) := by decide +kernel
theorem dL_law_743 : decode cL_law 743 = .ok (.aload_n 0, 1) := by decide +kernel
theorem dL_law_744 : decode cL_law 744 = .ok (.iload_n 3, 1) := by decide +kernel
theorem dL_law_745 : decode cL_law 745 = .ok (.iconst 1, 1) := by decide +kernel
theorem dL_law_746 : decode cL_law 746 = .ok (.iadd, 1) := by decide +kernel
theorem dL_law_747 : decode cL_law 747 = .ok (.iaload, 1) := by decide +kernel
theorem dL_law_748 : decode cL_law 748 = .ok (.invokevirtual 85, 3) := by decide +kernel
theorem dL_law_751 : decode cL_law 751 = .ok (.lcmp, 1) := by decide +kernel
theorem dL_law_752 : decode cL_law 752 = .ok (.ifCond .eq 607, 3) := by decide +kernel
theorem dL_law_755 : decode cL_law 755 = .ok (.iconst 0, 1) := by decide +kernel
theorem dL_law_756 : decode cL_law 756 = .ok (.ireturn, 1) := by decide +kernel
theorem dL_law_757 : decode cL_law 757 = .ok (.aload_n 1, 1) := by decide +kernel
theorem dL_law_758 : decode cL_law 758 = .ok (.aload_n 0, 1) := by decide +kernel
theorem dL_law_759 : decode cL_law 759 = .ok (.iload_n 3, 1) := by decide +kernel
theorem dL_law_760 : decode cL_law 760 = .ok (.iconst 1, 1) := by decide +kernel
theorem dL_law_761 : decode cL_law 761 = .ok (.iadd, 1) := by decide +kernel
theorem dL_law_762 : decode cL_law 762 = .ok (.iaload, 1) := by decide +kernel
theorem dL_law_763 : decode cL_law 763 = .ok (.i2l, 1) := by decide +kernel
theorem dL_law_764 : decode cL_law 764 = .ok (.bipush 32, 2) := by decide +kernel
theorem dL_law_766 : decode cL_law 766 = .ok (.lshl, 1) := by decide +kernel
theorem dL_law_767 : decode cL_law 767 = .ok (.aload_n 0, 1) := by decide +kernel
theorem dL_law_768 : decode cL_law 768 = .ok (.iload_n 3, 1) := by decide +kernel
theorem dL_law_769 : decode cL_law 769 = .ok (.iconst 2, 1) := by decide +kernel
theorem dL_law_770 : decode cL_law 770 = .ok (.iadd, 1) := by decide +kernel
theorem dL_law_771 : decode cL_law 771 = .ok (.iaload, 1) := by decide +kernel
theorem dL_law_772 : decode cL_law 772 = .ok (.i2l, 1) := by decide +kernel
theorem dL_law_773 : decode cL_law 773 = .ok (.ldc2_w 13, 3) := by decide +kernel
theorem dL_law_776 : decode cL_law 776 = .ok (.land, 1) := by decide +kernel
theorem dL_law_777 : decode cL_law 777 = .ok (.lor, 1) := by decide +kernel
theorem dL_law_778 : decode cL_law 778 = .ok (.invokevirtual 86, 3) := by decide +kernel
theorem dL_law_781 : decode cL_law 781 = .ok (.aload_n 2, 1) := by decide +kernel
theorem dL_law_782 : decode cL_law 782 = .ok (.aload_n 0, 1) := by decide +kernel
theorem dL_law_783 : decode cL_law 783 = .ok (.iload_n 3, 1) := by decide +kernel
theorem dL_law_784 : decode cL_law 784 = .ok (.iconst 1, 1) := by decide +kernel
theorem dL_law_785 : decode cL_law 785 = .ok (.iadd, 1) := by decide +kernel
theorem dL_law_786 : decode cL_law 786 = .ok (.iaload, 1) := by decide +kernel
theorem dL_law_787 : decode cL_law 787 = .ok (.i2l, 1) := by decide +kernel
theorem dL_law_788 : decode cL_law 788 = .ok (.bipush 32, 2) := by decide +kernel
theorem dL_law_790 : decode cL_law 790 = .ok (.lshl, 1) := by decide +kernel
theorem dL_law_791 : decode cL_law 791 = .ok (.aload_n 0, 1) := by decide +kernel
theorem dL_law_792 : decode cL_law 792 = .ok (.iload_n 3, 1) := by decide +kernel
theorem dL_law_793 : decode cL_law 793 = .ok (.iconst 2, 1) := by decide +kernel
theorem dL_law_794 : decode cL_law 794 = .ok (.iadd, 1) := by decide +kernel
theorem dL_law_795 : decode cL_law 795 = .ok (.iaload, 1) := by decide +kernel
theorem dL_law_796 : decode cL_law 796 = .ok (.i2l, 1) := by decide +kernel
theorem dL_law_797 : decode cL_law 797 = .ok (.ldc2_w 13, 3) := by decide +kernel
theorem dL_law_800 : decode cL_law 800 = .ok (.land, 1) := by decide +kernel
theorem dL_law_801 : decode cL_law 801 = .ok (.lor, 1) := by decide +kernel
theorem dL_law_802 : decode cL_law 802 = .ok (.invokevirtual 89, 3) := by decide +kernel
theorem dL_law_805 : decode cL_law 805 = .ok (.if_icmp .eq 554, 3) := by decide +kernel
theorem dL_law_808 : decode cL_law 808 = .ok (.iconst 0, 1) := by decide +kernel
theorem dL_law_809 : decode cL_law 809 = .ok (.ireturn, 1) := by decide +kernel
theorem dL_law_810 : decode cL_law 810 = .ok (.aload_n 1, 1) := by decide +kernel
theorem dL_law_811 : decode cL_law 811 = .ok (.aload_n 0, 1) := by decide +kernel
theorem dL_law_812 : decode cL_law 812 = .ok (.iload_n 3, 1) := by decide +kernel
theorem dL_law_813 : decode cL_law 813 = .ok (.iconst 1, 1) := by decide +kernel
theorem dL_law_814 : decode cL_law 814 = .ok (.iadd, 1) := by decide +kernel
theorem dL_law_815 : decode cL_law 815 = .ok (.iaload, 1) := by decide +kernel
theorem dL_law_816 : decode cL_law 816 = .ok (.i2l, 1) := by decide +kernel
theorem dL_law_817 : decode cL_law 817 = .ok (.bipush 32, 2) := by decide +kernel
theorem dL_law_819 : decode cL_law 819 = .ok (.lshl, 1) := by decide +kernel
theorem dL_law_820 : decode cL_law 820 = .ok (.aload_n 0, 1) := by decide +kernel
theorem dL_law_821 : decode cL_law 821 = .ok (.iload_n 3, 1) := by decide +kernel
theorem dL_law_822 : decode cL_law 822 = .ok (.iconst 2, 1) := by decide +kernel
theorem dL_law_823 : decode cL_law 823 = .ok (.iadd, 1) := by decide +kernel
theorem dL_law_824 : decode cL_law 824 = .ok (.iaload, 1) := by decide +kernel
theorem dL_law_825 : decode cL_law 825 = .ok (.i2l, 1) := by decide +kernel
theorem dL_law_826 : decode cL_law 826 = .ok (.ldc2_w 13, 3) := by decide +kernel
theorem dL_law_829 : decode cL_law 829 = .ok (.land, 1) := by decide +kernel
theorem dL_law_830 : decode cL_law 830 = .ok (.lor, 1) := by decide +kernel
theorem dL_law_831 : decode cL_law 831 = .ok (.invokevirtual 90, 3) := by decide +kernel
theorem dL_law_834 : decode cL_law 834 = .ok (.aload_n 2, 1) := by decide +kernel
theorem dL_law_835 : decode cL_law 835 = .ok (.aload_n 0, 1) := by decide +kernel
theorem dL_law_836 : decode cL_law 836 = .ok (.iload_n 3, 1) := by decide +kernel
theorem dL_law_837 : decode cL_law 837 = .ok (.iconst 1, 1) := by decide +kernel
theorem dL_law_838 : decode cL_law 838 = .ok (.iadd, 1) := by decide +kernel
theorem dL_law_839 : decode cL_law 839 = .ok (.iaload, 1) := by decide +kernel
theorem dL_law_840 : decode cL_law 840 = .ok (.i2l, 1) := by decide +kernel
theorem dL_law_841 : decode cL_law 841 = .ok (.bipush 32, 2) := by decide +kernel
theorem dL_law_843 : decode cL_law 843 = .ok (.lshl, 1) := by decide +kernel
theorem dL_law_844 : decode cL_law 844 = .ok (.aload_n 0, 1) := by decide +kernel
theorem dL_law_845 : decode cL_law 845 = .ok (.iload_n 3, 1) := by decide +kernel
theorem dL_law_846 : decode cL_law 846 = .ok (.iconst 2, 1) := by decide +kernel
theorem dL_law_847 : decode cL_law 847 = .ok (.iadd, 1) := by decide +kernel
theorem dL_law_848 : decode cL_law 848 = .ok (.iaload, 1) := by decide +kernel
theorem dL_law_849 : decode cL_law 849 = .ok (.i2l, 1) := by decide +kernel
theorem dL_law_850 : decode cL_law 850 = .ok (.ldc2_w 13, 3) := by decide +kernel
theorem dL_law_853 : decode cL_law 853 = .ok (.land, 1) := by decide +kernel
theorem dL_law_854 : decode cL_law 854 = .ok (.lor, 1) := by decide +kernel
theorem dL_law_855 : decode cL_law 855 = .ok (.invokevirtual 94, 3) := by decide +kernel
theorem dL_law_858 : decode cL_law 858 = .ok (.lcmp, 1) := by decide +kernel
theorem dL_law_859 : decode cL_law 859 = .ok (.ifCond .eq 500, 3) := by decide +kernel
theorem dL_law_862 : decode cL_law 862 = .ok (.iconst 0, 1) := by decide +kernel
theorem dL_law_863 : decode cL_law 863 = .ok (.ireturn, 1) := by decide +kernel
theorem dL_law_864 : decode cL_law 864 = .ok (.aload_n 1, 1) := by decide +kernel
theorem dL_law_865 : decode cL_law 865 = .ok (.aload_n 0, 1) := by decide +kernel
theorem dL_law_866 : decode cL_law 866 = .ok (.iload_n 3, 1) := by decide +kernel
theorem dL_law_867 : decode cL_law 867 = .ok (.iconst 1, 1) := by decide +kernel
theorem dL_law_868 : decode cL_law 868 = .ok (.iadd, 1) := by decide +kernel
theorem dL_law_869 : decode cL_law 869 = .ok (.iaload, 1) := by decide +kernel
theorem dL_law_870 : decode cL_law 870 = .ok (.i2l, 1) := by decide +kernel
theorem dL_law_871 : decode cL_law 871 = .ok (.bipush 32, 2) := by decide +kernel
theorem dL_law_873 : decode cL_law 873 = .ok (.lshl, 1) := by decide +kernel
theorem dL_law_874 : decode cL_law 874 = .ok (.aload_n 0, 1) := by decide +kernel
theorem dL_law_875 : decode cL_law 875 = .ok (.iload_n 3, 1) := by decide +kernel
theorem dL_law_876 : decode cL_law 876 = .ok (.iconst 2, 1) := by decide +kernel
theorem dL_law_877 : decode cL_law 877 = .ok (.iadd, 1) := by decide +kernel
theorem dL_law_878 : decode cL_law 878 = .ok (.iaload, 1) := by decide +kernel
theorem dL_law_879 : decode cL_law 879 = .ok (.i2l, 1) := by decide +kernel
theorem dL_law_880 : decode cL_law 880 = .ok (.ldc2_w 13, 3) := by decide +kernel
theorem dL_law_883 : decode cL_law 883 = .ok (.land, 1) := by decide +kernel
theorem dL_law_884 : decode cL_law 884 = .ok (.lor, 1) := by decide +kernel
theorem dL_law_885 : decode cL_law 885 = .ok (.aload_n 0, 1) := by decide +kernel
theorem dL_law_886 : decode cL_law 886 = .ok (.iload_n 3, 1) := by decide +kernel
theorem dL_law_887 : decode cL_law 887 = .ok (.iconst 3, 1) := by decide +kernel
theorem dL_law_888 : decode cL_law 888 = .ok (.iadd, 1) := by decide +kernel
theorem dL_law_889 : decode cL_law 889 = .ok (.iaload, 1) := by decide +kernel
theorem dL_law_890 : decode cL_law 890 = .ok (.i2l, 1) := by decide +kernel
theorem dL_law_891 : decode cL_law 891 = .ok (.bipush 32, 2) := by decide +kernel
theorem dL_law_893 : decode cL_law 893 = .ok (.lshl, 1) := by decide +kernel
theorem dL_law_894 : decode cL_law 894 = .ok (.aload_n 0, 1) := by decide +kernel
theorem dL_law_895 : decode cL_law 895 = .ok (.iload_n 3, 1) := by decide +kernel
theorem dL_law_896 : decode cL_law 896 = .ok (.iconst 4, 1) := by decide +kernel
theorem dL_law_897 : decode cL_law 897 = .ok (.iadd, 1) := by decide +kernel
theorem dL_law_898 : decode cL_law 898 = .ok (.iaload, 1) := by decide +kernel
theorem dL_law_899 : decode cL_law 899 = .ok (.i2l, 1) := by decide +kernel
theorem dL_law_900 : decode cL_law 900 = .ok (.ldc2_w 13, 3) := by decide +kernel
theorem dL_law_903 : decode cL_law 903 = .ok (.land, 1) := by decide +kernel
theorem dL_law_904 : decode cL_law 904 = .ok (.lor, 1) := by decide +kernel
theorem dL_law_905 : decode cL_law 905 = .ok (.invokevirtual 95, 3) := by decide +kernel
theorem dL_law_908 : decode cL_law 908 = .ok (.aload_n 2, 1) := by decide +kernel
theorem dL_law_909 : decode cL_law 909 = .ok (.aload_n 0, 1) := by decide +kernel
theorem dL_law_910 : decode cL_law 910 = .ok (.iload_n 3, 1) := by decide +kernel
theorem dL_law_911 : decode cL_law 911 = .ok (.iconst 1, 1) := by decide +kernel
theorem dL_law_912 : decode cL_law 912 = .ok (.iadd, 1) := by decide +kernel
theorem dL_law_913 : decode cL_law 913 = .ok (.iaload, 1) := by decide +kernel
theorem dL_law_914 : decode cL_law 914 = .ok (.i2l, 1) := by decide +kernel
theorem dL_law_915 : decode cL_law 915 = .ok (.bipush 32, 2) := by decide +kernel
theorem dL_law_917 : decode cL_law 917 = .ok (.lshl, 1) := by decide +kernel
theorem dL_law_918 : decode cL_law 918 = .ok (.aload_n 0, 1) := by decide +kernel
theorem dL_law_919 : decode cL_law 919 = .ok (.iload_n 3, 1) := by decide +kernel
theorem dL_law_920 : decode cL_law 920 = .ok (.iconst 2, 1) := by decide +kernel
theorem dL_law_921 : decode cL_law 921 = .ok (.iadd, 1) := by decide +kernel
theorem dL_law_922 : decode cL_law 922 = .ok (.iaload, 1) := by decide +kernel
theorem dL_law_923 : decode cL_law 923 = .ok (.i2l, 1) := by decide +kernel
theorem dL_law_924 : decode cL_law 924 = .ok (.ldc2_w 13, 3) := by decide +kernel
theorem dL_law_927 : decode cL_law 927 = .ok (.land, 1) := by decide +kernel
theorem dL_law_928 : decode cL_law 928 = .ok (.lor, 1) := by decide +kernel
theorem dL_law_929 : decode cL_law 929 = .ok (.aload_n 0, 1) := by decide +kernel
theorem dL_law_930 : decode cL_law 930 = .ok (.iload_n 3, 1) := by decide +kernel
theorem dL_law_931 : decode cL_law 931 = .ok (.iconst 3, 1) := by decide +kernel
theorem dL_law_932 : decode cL_law 932 = .ok (.iadd, 1) := by decide +kernel
theorem dL_law_933 : decode cL_law 933 = .ok (.iaload, 1) := by decide +kernel
theorem dL_law_934 : decode cL_law 934 = .ok (.i2l, 1) := by decide +kernel
theorem dL_law_935 : decode cL_law 935 = .ok (.bipush 32, 2) := by decide +kernel
theorem dL_law_937 : decode cL_law 937 = .ok (.lshl, 1) := by decide +kernel
theorem dL_law_938 : decode cL_law 938 = .ok (.aload_n 0, 1) := by decide +kernel
theorem dL_law_939 : decode cL_law 939 = .ok (.iload_n 3, 1) := by decide +kernel
theorem dL_law_940 : decode cL_law 940 = .ok (.iconst 4, 1) := by decide +kernel
theorem dL_law_941 : decode cL_law 941 = .ok (.iadd, 1) := by decide +kernel
theorem dL_law_942 : decode cL_law 942 = .ok (.iaload, 1) := by decide +kernel
theorem dL_law_943 : decode cL_law 943 = .ok (.i2l, 1) := by decide +kernel
theorem dL_law_944 : decode cL_law 944 = .ok (.ldc2_w 13, 3) := by decide +kernel
theorem dL_law_947 : decode cL_law 947 = .ok (.land, 1) := by decide +kernel
theorem dL_law_948 : decode cL_law 948 = .ok (.lor, 1) := by decide +kernel
theorem dL_law_949 : decode cL_law 949 = .ok (.invokevirtual 99, 3) := by decide +kernel
theorem dL_law_952 : decode cL_law 952 = .ok (.if_icmp .eq 407, 3) := by decide +kernel
theorem dL_law_955 : decode cL_law 955 = .ok (.iconst 0, 1) := by decide +kernel
theorem dL_law_956 : decode cL_law 956 = .ok (.ireturn, 1) := by decide +kernel
theorem dL_law_957 : decode cL_law 957 = .ok (.aload_n 1, 1) := by decide +kernel
theorem dL_law_958 : decode cL_law 958 = .ok (.invokevirtual 100, 3) := by decide +kernel
theorem dL_law_961 : decode cL_law 961 = .ok (.aload_n 2, 1) := by decide +kernel
theorem dL_law_962 : decode cL_law 962 = .ok (.invokevirtual 103, 3) := by decide +kernel
theorem dL_law_965 : decode cL_law 965 = .ok (.if_icmp .eq 394, 3) := by decide +kernel
theorem dL_law_968 : decode cL_law 968 = .ok (.iconst 0, 1) := by decide +kernel
theorem dL_law_969 : decode cL_law 969 = .ok (.ireturn, 1) := by decide +kernel
theorem dL_law_970 : decode cL_law 970 = .ok (.aload_n 1, 1) := by decide +kernel
theorem dL_law_971 : decode cL_law 971 = .ok (.aload_n 0, 1) := by decide +kernel
theorem dL_law_972 : decode cL_law 972 = .ok (.iload_n 3, 1) := by decide +kernel
theorem dL_law_973 : decode cL_law 973 = .ok (.iconst 1, 1) := by decide +kernel
theorem dL_law_974 : decode cL_law 974 = .ok (.iadd, 1) := by decide +kernel
theorem dL_law_975 : decode cL_law 975 = .ok (.iaload, 1) := by decide +kernel
theorem dL_law_976 : decode cL_law 976 = .ok (.invokevirtual 104, 3) := by decide +kernel
theorem dL_law_979 : decode cL_law 979 = .ok (.aload_n 2, 1) := by decide +kernel
theorem dL_law_980 : decode cL_law 980 = .ok (.aload_n 0, 1) := by decide +kernel
theorem dL_law_981 : decode cL_law 981 = .ok (.iload_n 3, 1) := by decide +kernel
theorem dL_law_982 : decode cL_law 982 = .ok (.iconst 1, 1) := by decide +kernel
theorem dL_law_983 : decode cL_law 983 = .ok (.iadd, 1) := by decide +kernel
theorem dL_law_984 : decode cL_law 984 = .ok (.iaload, 1) := by decide +kernel
theorem dL_law_985 : decode cL_law 985 = .ok (.invokevirtual 107, 3) := by decide +kernel
theorem dL_law_988 : decode cL_law 988 = .ok (.if_icmp .eq 371, 3) := by decide +kernel
theorem dL_law_991 : decode cL_law 991 = .ok (.iconst 0, 1) := by decide +kernel
theorem dL_law_992 : decode cL_law 992 = .ok (.ireturn, 1) := by decide +kernel
theorem dL_law_993 : decode cL_law 993 = .ok (.aload_n 1, 1) := by decide +kernel
theorem dL_law_994 : decode cL_law 994 = .ok (.aload_n 0, 1) := by decide +kernel
theorem dL_law_995 : decode cL_law 995 = .ok (.iload_n 3, 1) := by decide +kernel
theorem dL_law_996 : decode cL_law 996 = .ok (.iconst 1, 1) := by decide +kernel
theorem dL_law_997 : decode cL_law 997 = .ok (.iadd, 1) := by decide +kernel
theorem dL_law_998 : decode cL_law 998 = .ok (.iaload, 1) := by decide +kernel
theorem dL_law_999 : decode cL_law 999 = .ok (.aload_n 0, 1) := by decide +kernel
theorem dL_law_1000 : decode cL_law 1000 = .ok (.iload_n 3, 1) := by decide +kernel
theorem dL_law_1001 : decode cL_law 1001 = .ok (.iconst 2, 1) := by decide +kernel
theorem dL_law_1002 : decode cL_law 1002 = .ok (.iadd, 1) := by decide +kernel
theorem dL_law_1003 : decode cL_law 1003 = .ok (.iaload, 1) := by decide +kernel
theorem dL_law_1004 : decode cL_law 1004 = .ok (.aload_n 0, 1) := by decide +kernel
theorem dL_law_1005 : decode cL_law 1005 = .ok (.iload_n 3, 1) := by decide +kernel
theorem dL_law_1006 : decode cL_law 1006 = .ok (.iconst 3, 1) := by decide +kernel
theorem dL_law_1007 : decode cL_law 1007 = .ok (.iadd, 1) := by decide +kernel
theorem dL_law_1008 : decode cL_law 1008 = .ok (.iaload, 1) := by decide +kernel
theorem dL_law_1009 : decode cL_law 1009 = .ok (.invokevirtual 108, 3) := by decide +kernel
theorem dL_law_1012 : decode cL_law 1012 = .ok (.aload_n 2, 1) := by decide +kernel
theorem dL_law_1013 : decode cL_law 1013 = .ok (.aload_n 0, 1) := by decide +kernel
theorem dL_law_1014 : decode cL_law 1014 = .ok (.iload_n 3, 1) := by decide +kernel
theorem dL_law_1015 : decode cL_law 1015 = .ok (.iconst 1, 1) := by decide +kernel
theorem dL_law_1016 : decode cL_law 1016 = .ok (.iadd, 1) := by decide +kernel
theorem dL_law_1017 : decode cL_law 1017 = .ok (.iaload, 1) := by decide +kernel
theorem dL_law_1018 : decode cL_law 1018 = .ok (.aload_n 0, 1) := by decide +kernel
theorem dL_law_1019 : decode cL_law 1019 = .ok (.iload_n 3, 1) := by decide +kernel
theorem dL_law_1020 : decode cL_law 1020 = .ok (.iconst 2, 1) := by decide +kernel
theorem dL_law_1021 : decode cL_law 1021 = .ok (.iadd, 1) := by decide +kernel
theorem dL_law_1022 : decode cL_law 1022 = .ok (.iaload, 1) := by decide +kernel
theorem dL_law_1023 : decode cL_law 1023 = .ok (.aload_n 0, 1) := by decide +kernel
theorem dL_law_1024 : decode cL_law 1024 = .ok (.iload_n 3, 1) := by decide +kernel
theorem dL_law_1025 : decode cL_law 1025 = .ok (.iconst 3, 1) := by decide +kernel
theorem dL_law_1026 : decode cL_law 1026 = .ok (.iadd, 1) := by decide +kernel
theorem dL_law_1027 : decode cL_law 1027 = .ok (.iaload, 1) := by decide +kernel
theorem dL_law_1028 : decode cL_law 1028 = .ok (.invokevirtual 112, 3) := by decide +kernel
theorem dL_law_1031 : decode cL_law 1031 = .ok (.if_icmp .eq 328, 3) := by decide +kernel
theorem dL_law_1034 : decode cL_law 1034 = .ok (.iconst 0, 1) := by decide +kernel
theorem dL_law_1035 : decode cL_law 1035 = .ok (.ireturn, 1) := by decide +kernel
theorem dL_law_1036 : decode cL_law 1036 = .ok (.aload_n 1, 1) := by decide +kernel
theorem dL_law_1037 : decode cL_law 1037 = .ok (.aload_n 0, 1) := by decide +kernel
theorem dL_law_1038 : decode cL_law 1038 = .ok (.iload_n 3, 1) := by decide +kernel
theorem dL_law_1039 : decode cL_law 1039 = .ok (.iconst 1, 1) := by decide +kernel
theorem dL_law_1040 : decode cL_law 1040 = .ok (.iadd, 1) := by decide +kernel
theorem dL_law_1041 : decode cL_law 1041 = .ok (.iaload, 1) := by decide +kernel
theorem dL_law_1042 : decode cL_law 1042 = .ok (.aload_n 0, 1) := by decide +kernel
theorem dL_law_1043 : decode cL_law 1043 = .ok (.iload_n 3, 1) := by decide +kernel
theorem dL_law_1044 : decode cL_law 1044 = .ok (.iconst 2, 1) := by decide +kernel
theorem dL_law_1045 : decode cL_law 1045 = .ok (.iadd, 1) := by decide +kernel
theorem dL_law_1046 : decode cL_law 1046 = .ok (.iaload, 1) := by decide +kernel
theorem dL_law_1047 : decode cL_law 1047 = .ok (.aload_n 0, 1) := by decide +kernel
theorem dL_law_1048 : decode cL_law 1048 = .ok (.iload_n 3, 1) := by decide +kernel
theorem dL_law_1049 : decode cL_law 1049 = .ok (.iconst 3, 1) := by decide +kernel
theorem dL_law_1050 : decode cL_law 1050 = .ok (.iadd, 1) := by decide +kernel
theorem dL_law_1051 : decode cL_law 1051 = .ok (.iaload, 1) := by decide +kernel
theorem dL_law_1052 : decode cL_law 1052 = .ok (.invokevirtual 113, 3) := by decide +kernel
theorem dL_law_1055 : decode cL_law 1055 = .ok (.aload_n 2, 1) := by decide +kernel
theorem dL_law_1056 : decode cL_law 1056 = .ok (.aload_n 0, 1) := by decide +kernel
theorem dL_law_1057 : decode cL_law 1057 = .ok (.iload_n 3, 1) := by decide +kernel
theorem dL_law_1058 : decode cL_law 1058 = .ok (.iconst 1, 1) := by decide +kernel
theorem dL_law_1059 : decode cL_law 1059 = .ok (.iadd, 1) := by decide +kernel
theorem dL_law_1060 : decode cL_law 1060 = .ok (.iaload, 1) := by decide +kernel
theorem dL_law_1061 : decode cL_law 1061 = .ok (.aload_n 0, 1) := by decide +kernel
theorem dL_law_1062 : decode cL_law 1062 = .ok (.iload_n 3, 1) := by decide +kernel
theorem dL_law_1063 : decode cL_law 1063 = .ok (.iconst 2, 1) := by decide +kernel
theorem dL_law_1064 : decode cL_law 1064 = .ok (.iadd, 1) := by decide +kernel
theorem dL_law_1065 : decode cL_law 1065 = .ok (.iaload, 1) := by decide +kernel
theorem dL_law_1066 : decode cL_law 1066 = .ok (.aload_n 0, 1) := by decide +kernel
theorem dL_law_1067 : decode cL_law 1067 = .ok (.iload_n 3, 1) := by decide +kernel
theorem dL_law_1068 : decode cL_law 1068 = .ok (.iconst 3, 1) := by decide +kernel
theorem dL_law_1069 : decode cL_law 1069 = .ok (.iadd, 1) := by decide +kernel
theorem dL_law_1070 : decode cL_law 1070 = .ok (.iaload, 1) := by decide +kernel
theorem dL_law_1071 : decode cL_law 1071 = .ok (.invokevirtual 117, 3) := by decide +kernel
theorem dL_law_1074 : decode cL_law 1074 = .ok (.lcmp, 1) := by decide +kernel
theorem dL_law_1075 : decode cL_law 1075 = .ok (.ifCond .eq 284, 3) := by decide +kernel
theorem dL_law_1078 : decode cL_law 1078 = .ok (.iconst 0, 1) := by decide +kernel
theorem dL_law_1079 : decode cL_law 1079 = .ok (.ireturn, 1) := by decide +kernel
theorem dL_law_1080 : decode cL_law 1080 = .ok (.aload_n 1, 1) := by decide +kernel
theorem dL_law_1081 : decode cL_law 1081 = .ok (.aload_n 0, 1) := by decide +kernel
theorem dL_law_1082 : decode cL_law 1082 = .ok (.iload_n 3, 1) := by decide +kernel
theorem dL_law_1083 : decode cL_law 1083 = .ok (.iconst 1, 1) := by decide +kernel
theorem dL_law_1084 : decode cL_law 1084 = .ok (.iadd, 1) := by decide +kernel
theorem dL_law_1085 : decode cL_law 1085 = .ok (.iaload, 1) := by decide +kernel
theorem dL_law_1086 : decode cL_law 1086 = .ok (.aload_n 0, 1) := by decide +kernel
theorem dL_law_1087 : decode cL_law 1087 = .ok (.iload_n 3, 1) := by decide +kernel
theorem dL_law_1088 : decode cL_law 1088 = .ok (.iconst 2, 1) := by decide +kernel
theorem dL_law_1089 : decode cL_law 1089 = .ok (.iadd, 1) := by decide +kernel
theorem dL_law_1090 : decode cL_law 1090 = .ok (.iaload, 1) := by decide +kernel
theorem dL_law_1091 : decode cL_law 1091 = .ok (.aload_n 0, 1) := by decide +kernel
theorem dL_law_1092 : decode cL_law 1092 = .ok (.iload_n 3, 1) := by decide +kernel
theorem dL_law_1093 : decode cL_law 1093 = .ok (.iconst 3, 1) := by decide +kernel
theorem dL_law_1094 : decode cL_law 1094 = .ok (.iadd, 1) := by decide +kernel
theorem dL_law_1095 : decode cL_law 1095 = .ok (.iaload, 1) := by decide +kernel
theorem dL_law_1096 : decode cL_law 1096 = .ok (.i2l, 1) := by decide +kernel
theorem dL_law_1097 : decode cL_law 1097 = .ok (.bipush 32, 2) := by decide +kernel
theorem dL_law_1099 : decode cL_law 1099 = .ok (.lshl, 1) := by decide +kernel
theorem dL_law_1100 : decode cL_law 1100 = .ok (.aload_n 0, 1) := by decide +kernel
theorem dL_law_1101 : decode cL_law 1101 = .ok (.iload_n 3, 1) := by decide +kernel
theorem dL_law_1102 : decode cL_law 1102 = .ok (.iconst 4, 1) := by decide +kernel
theorem dL_law_1103 : decode cL_law 1103 = .ok (.iadd, 1) := by decide +kernel
theorem dL_law_1104 : decode cL_law 1104 = .ok (.iaload, 1) := by decide +kernel
theorem dL_law_1105 : decode cL_law 1105 = .ok (.i2l, 1) := by decide +kernel
theorem dL_law_1106 : decode cL_law 1106 = .ok (.ldc2_w 13, 3) := by decide +kernel
theorem dL_law_1109 : decode cL_law 1109 = .ok (.land, 1) := by decide +kernel
theorem dL_law_1110 : decode cL_law 1110 = .ok (.lor, 1) := by decide +kernel
theorem dL_law_1111 : decode cL_law 1111 = .ok (.invokevirtual 118, 3) := by decide +kernel
theorem dL_law_1114 : decode cL_law 1114 = .ok (.aload_n 2, 1) := by decide +kernel
theorem dL_law_1115 : decode cL_law 1115 = .ok (.aload_n 0, 1) := by decide +kernel
theorem dL_law_1116 : decode cL_law 1116 = .ok (.iload_n 3, 1) := by decide +kernel
theorem dL_law_1117 : decode cL_law 1117 = .ok (.iconst 1, 1) := by decide +kernel
theorem dL_law_1118 : decode cL_law 1118 = .ok (.iadd, 1) := by decide +kernel
theorem dL_law_1119 : decode cL_law 1119 = .ok (.iaload, 1) := by decide +kernel
theorem dL_law_1120 : decode cL_law 1120 = .ok (.aload_n 0, 1) := by decide +kernel
theorem dL_law_1121 : decode cL_law 1121 = .ok (.iload_n 3, 1) := by decide +kernel
theorem dL_law_1122 : decode cL_law 1122 = .ok (.iconst 2, 1) := by decide +kernel
theorem dL_law_1123 : decode cL_law 1123 = .ok (.iadd, 1) := by decide +kernel
theorem dL_law_1124 : decode cL_law 1124 = .ok (.iaload, 1) := by decide +kernel
theorem dL_law_1125 : decode cL_law 1125 = .ok (.aload_n 0, 1) := by decide +kernel
theorem dL_law_1126 : decode cL_law 1126 = .ok (.iload_n 3, 1) := by decide +kernel
theorem dL_law_1127 : decode cL_law 1127 = .ok (.iconst 3, 1) := by decide +kernel
theorem dL_law_1128 : decode cL_law 1128 = .ok (.iadd, 1) := by decide +kernel
theorem dL_law_1129 : decode cL_law 1129 = .ok (.iaload, 1) := by decide +kernel
theorem dL_law_1130 : decode cL_law 1130 = .ok (.i2l, 1) := by decide +kernel
theorem dL_law_1131 : decode cL_law 1131 = .ok (.bipush 32, 2) := by decide +kernel
theorem dL_law_1133 : decode cL_law 1133 = .ok (.lshl, 1) := by decide +kernel
theorem dL_law_1134 : decode cL_law 1134 = .ok (.aload_n 0, 1) := by decide +kernel
theorem dL_law_1135 : decode cL_law 1135 = .ok (.iload_n 3, 1) := by decide +kernel
theorem dL_law_1136 : decode cL_law 1136 = .ok (.iconst 4, 1) := by decide +kernel
theorem dL_law_1137 : decode cL_law 1137 = .ok (.iadd, 1) := by decide +kernel
theorem dL_law_1138 : decode cL_law 1138 = .ok (.iaload, 1) := by decide +kernel
theorem dL_law_1139 : decode cL_law 1139 = .ok (.i2l, 1) := by decide +kernel
theorem dL_law_1140 : decode cL_law 1140 = .ok (.ldc2_w 13, 3) := by decide +kernel
theorem dL_law_1143 : decode cL_law 1143 = .ok (.land, 1) := by decide +kernel
theorem dL_law_1144 : decode cL_law 1144 = .ok (.lor, 1) := by decide +kernel
theorem dL_law_1145 : decode cL_law 1145 = .ok (.invokevirtual 122, 3) := by decide +kernel
theorem dL_law_1148 : decode cL_law 1148 = .ok (.if_icmp .eq 211, 3) := by decide +kernel
theorem dL_law_1151 : decode cL_law 1151 = .ok (.iconst 0, 1) := by decide +kernel
theorem dL_law_1152 : decode cL_law 1152 = .ok (.ireturn, 1) := by decide +kernel
theorem dL_law_1153 : decode cL_law 1153 = .ok (.aload_n 1, 1) := by decide +kernel
theorem dL_law_1154 : decode cL_law 1154 = .ok (.aload_n 0, 1) := by decide +kernel
theorem dL_law_1155 : decode cL_law 1155 = .ok (.iload_n 3, 1) := by decide +kernel
theorem dL_law_1156 : decode cL_law 1156 = .ok (.iconst 1, 1) := by decide +kernel
theorem dL_law_1157 : decode cL_law 1157 = .ok (.iadd, 1) := by decide +kernel
theorem dL_law_1158 : decode cL_law 1158 = .ok (.iaload, 1) := by decide +kernel
theorem dL_law_1159 : decode cL_law 1159 = .ok (.aload_n 0, 1) := by decide +kernel
theorem dL_law_1160 : decode cL_law 1160 = .ok (.iload_n 3, 1) := by decide +kernel
theorem dL_law_1161 : decode cL_law 1161 = .ok (.iconst 2, 1) := by decide +kernel
theorem dL_law_1162 : decode cL_law 1162 = .ok (.iadd, 1) := by decide +kernel
theorem dL_law_1163 : decode cL_law 1163 = .ok (.iaload, 1) := by decide +kernel
theorem dL_law_1164 : decode cL_law 1164 = .ok (.invokevirtual 123, 3) := by decide +kernel
theorem dL_law_1167 : decode cL_law 1167 = .ok (.aload_n 2, 1) := by decide +kernel
theorem dL_law_1168 : decode cL_law 1168 = .ok (.aload_n 0, 1) := by decide +kernel
theorem dL_law_1169 : decode cL_law 1169 = .ok (.iload_n 3, 1) := by decide +kernel
theorem dL_law_1170 : decode cL_law 1170 = .ok (.iconst 1, 1) := by decide +kernel
theorem dL_law_1171 : decode cL_law 1171 = .ok (.iadd, 1) := by decide +kernel
theorem dL_law_1172 : decode cL_law 1172 = .ok (.iaload, 1) := by decide +kernel
theorem dL_law_1173 : decode cL_law 1173 = .ok (.aload_n 0, 1) := by decide +kernel
theorem dL_law_1174 : decode cL_law 1174 = .ok (.iload_n 3, 1) := by decide +kernel
theorem dL_law_1175 : decode cL_law 1175 = .ok (.iconst 2, 1) := by decide +kernel
theorem dL_law_1176 : decode cL_law 1176 = .ok (.iadd, 1) := by decide +kernel
theorem dL_law_1177 : decode cL_law 1177 = .ok (.iaload, 1) := by decide +kernel
theorem dL_law_1178 : decode cL_law 1178 = .ok (.invokevirtual 127, 3) := by decide +kernel
theorem dL_law_1181 : decode cL_law 1181 = .ok (.lcmp, 1) := by decide +kernel
theorem dL_law_1182 : decode cL_law 1182 = .ok (.ifCond .eq 177, 3) := by decide +kernel
theorem dL_law_1185 : decode cL_law 1185 = .ok (.iconst 0, 1) := by decide +kernel
theorem dL_law_1186 : decode cL_law 1186 = .ok (.ireturn, 1) := by decide +kernel
theorem dL_law_1187 : decode cL_law 1187 = .ok (.aload_n 1, 1) := by decide +kernel
theorem dL_law_1188 : decode cL_law 1188 = .ok (.aload_n 0, 1) := by decide +kernel
theorem dL_law_1189 : decode cL_law 1189 = .ok (.iload_n 3, 1) := by decide +kernel
theorem dL_law_1190 : decode cL_law 1190 = .ok (.iconst 1, 1) := by decide +kernel
theorem dL_law_1191 : decode cL_law 1191 = .ok (.iadd, 1) := by decide +kernel
theorem dL_law_1192 : decode cL_law 1192 = .ok (.iaload, 1) := by decide +kernel
theorem dL_law_1193 : decode cL_law 1193 = .ok (.aload_n 0, 1) := by decide +kernel
theorem dL_law_1194 : decode cL_law 1194 = .ok (.iload_n 3, 1) := by decide +kernel
theorem dL_law_1195 : decode cL_law 1195 = .ok (.iconst 2, 1) := by decide +kernel
theorem dL_law_1196 : decode cL_law 1196 = .ok (.iadd, 1) := by decide +kernel
theorem dL_law_1197 : decode cL_law 1197 = .ok (.iaload, 1) := by decide +kernel
theorem dL_law_1198 : decode cL_law 1198 = .ok (.aload_n 0, 1) := by decide +kernel
theorem dL_law_1199 : decode cL_law 1199 = .ok (.iload_n 3, 1) := by decide +kernel
theorem dL_law_1200 : decode cL_law 1200 = .ok (.iconst 3, 1) := by decide +kernel
theorem dL_law_1201 : decode cL_law 1201 = .ok (.iadd, 1) := by decide +kernel
theorem dL_law_1202 : decode cL_law 1202 = .ok (.iaload, 1) := by decide +kernel
theorem dL_law_1203 : decode cL_law 1203 = .ok (.ifCond .eq 7, 3) := by decide +kernel
theorem dL_law_1206 : decode cL_law 1206 = .ok (.iconst 1, 1) := by decide +kernel
theorem dL_law_1207 : decode cL_law 1207 = .ok (.goto 4, 3) := by decide +kernel
theorem dL_law_1210 : decode cL_law 1210 = .ok (.iconst 0, 1) := by decide +kernel
theorem dL_law_1211 : decode cL_law 1211 = .ok (.invokevirtual 128, 3) := by decide +kernel
theorem dL_law_1214 : decode cL_law 1214 = .ok (.aload_n 2, 1) := by decide +kernel
theorem dL_law_1215 : decode cL_law 1215 = .ok (.aload_n 0, 1) := by decide +kernel
theorem dL_law_1216 : decode cL_law 1216 = .ok (.iload_n 3, 1) := by decide +kernel
theorem dL_law_1217 : decode cL_law 1217 = .ok (.iconst 1, 1) := by decide +kernel
theorem dL_law_1218 : decode cL_law 1218 = .ok (.iadd, 1) := by decide +kernel
theorem dL_law_1219 : decode cL_law 1219 = .ok (.iaload, 1) := by decide +kernel
theorem dL_law_1220 : decode cL_law 1220 = .ok (.aload_n 0, 1) := by decide +kernel
theorem dL_law_1221 : decode cL_law 1221 = .ok (.iload_n 3, 1) := by decide +kernel
theorem dL_law_1222 : decode cL_law 1222 = .ok (.iconst 2, 1) := by decide +kernel
theorem dL_law_1223 : decode cL_law 1223 = .ok (.iadd, 1) := by decide +kernel
theorem dL_law_1224 : decode cL_law 1224 = .ok (.iaload, 1) := by decide +kernel
theorem dL_law_1225 : decode cL_law 1225 = .ok (.aload_n 0, 1) := by decide +kernel
theorem dL_law_1226 : decode cL_law 1226 = .ok (.iload_n 3, 1) := by decide +kernel
theorem dL_law_1227 : decode cL_law 1227 = .ok (.iconst 3, 1) := by decide +kernel
theorem dL_law_1228 : decode cL_law 1228 = .ok (.iadd, 1) := by decide +kernel
theorem dL_law_1229 : decode cL_law 1229 = .ok (.iaload, 1) := by decide +kernel
theorem dL_law_1230 : decode cL_law 1230 = .ok (.ifCond .eq 7, 3) := by decide +kernel
theorem dL_law_1233 : decode cL_law 1233 = .ok (.iconst 1, 1) := by decide +kernel
theorem dL_law_1234 : decode cL_law 1234 = .ok (.goto 4, 3) := by decide +kernel
theorem dL_law_1237 : decode cL_law 1237 = .ok (.iconst 0, 1) := by decide +kernel
theorem dL_law_1238 : decode cL_law 1238 = .ok (.invokevirtual 132, 3) := by decide +kernel
theorem dL_law_1241 : decode cL_law 1241 = .ok (.lcmp, 1) := by decide +kernel
theorem dL_law_1242 : decode cL_law 1242 = .ok (.ifCond .eq 117, 3) := by decide +kernel
theorem dL_law_1245 : decode cL_law 1245 = .ok (.iconst 0, 1) := by decide +kernel
theorem dL_law_1246 : decode cL_law 1246 = .ok (.ireturn, 1) := by decide +kernel
theorem dL_law_1247 : decode cL_law 1247 = .ok (.aload_n 1, 1) := by decide +kernel
theorem dL_law_1248 : decode cL_law 1248 = .ok (.invokevirtual 133, 3) := by decide +kernel
theorem dL_law_1251 : decode cL_law 1251 = .ok (.aload_n 2, 1) := by decide +kernel
theorem dL_law_1252 : decode cL_law 1252 = .ok (.invokevirtual 136, 3) := by decide +kernel
theorem dL_law_1255 : decode cL_law 1255 = .ok (.if_icmp .eq 104, 3) := by decide +kernel
theorem dL_law_1258 : decode cL_law 1258 = .ok (.iconst 0, 1) := by decide +kernel
theorem dL_law_1259 : decode cL_law 1259 = .ok (.ireturn, 1) := by decide +kernel
theorem dL_law_1260 : decode cL_law 1260 = .ok (.aload_n 1, 1) := by decide +kernel
theorem dL_law_1261 : decode cL_law 1261 = .ok (.aload_n 0, 1) := by decide +kernel
theorem dL_law_1262 : decode cL_law 1262 = .ok (.iload_n 3, 1) := by decide +kernel
theorem dL_law_1263 : decode cL_law 1263 = .ok (.iconst 1, 1) := by decide +kernel
theorem dL_law_1264 : decode cL_law 1264 = .ok (.iadd, 1) := by decide +kernel
theorem dL_law_1265 : decode cL_law 1265 = .ok (.iaload, 1) := by decide +kernel
theorem dL_law_1266 : decode cL_law 1266 = .ok (.invokevirtual 137, 3) := by decide +kernel
theorem dL_law_1269 : decode cL_law 1269 = .ok (.aload_n 2, 1) := by decide +kernel
theorem dL_law_1270 : decode cL_law 1270 = .ok (.aload_n 0, 1) := by decide +kernel
theorem dL_law_1271 : decode cL_law 1271 = .ok (.iload_n 3, 1) := by decide +kernel
theorem dL_law_1272 : decode cL_law 1272 = .ok (.iconst 1, 1) := by decide +kernel
theorem dL_law_1273 : decode cL_law 1273 = .ok (.iadd, 1) := by decide +kernel
theorem dL_law_1274 : decode cL_law 1274 = .ok (.iaload, 1) := by decide +kernel
theorem dL_law_1275 : decode cL_law 1275 = .ok (.invokevirtual 140, 3) := by decide +kernel
theorem dL_law_1278 : decode cL_law 1278 = .ok (.if_icmp .eq 81, 3) := by decide +kernel
theorem dL_law_1281 : decode cL_law 1281 = .ok (.iconst 0, 1) := by decide +kernel
theorem dL_law_1282 : decode cL_law 1282 = .ok (.ireturn, 1) := by decide +kernel
theorem dL_law_1283 : decode cL_law 1283 = .ok (.aload_n 1, 1) := by decide +kernel
theorem dL_law_1284 : decode cL_law 1284 = .ok (.aload_n 0, 1) := by decide +kernel
theorem dL_law_1285 : decode cL_law 1285 = .ok (.iload_n 3, 1) := by decide +kernel
theorem dL_law_1286 : decode cL_law 1286 = .ok (.iconst 1, 1) := by decide +kernel
theorem dL_law_1287 : decode cL_law 1287 = .ok (.iadd, 1) := by decide +kernel
theorem dL_law_1288 : decode cL_law 1288 = .ok (.iaload, 1) := by decide +kernel
theorem dL_law_1289 : decode cL_law 1289 = .ok (.i2l, 1) := by decide +kernel
theorem dL_law_1290 : decode cL_law 1290 = .ok (.bipush 32, 2) := by decide +kernel
theorem dL_law_1292 : decode cL_law 1292 = .ok (.lshl, 1) := by decide +kernel
theorem dL_law_1293 : decode cL_law 1293 = .ok (.aload_n 0, 1) := by decide +kernel
theorem dL_law_1294 : decode cL_law 1294 = .ok (.iload_n 3, 1) := by decide +kernel
theorem dL_law_1295 : decode cL_law 1295 = .ok (.iconst 2, 1) := by decide +kernel
theorem dL_law_1296 : decode cL_law 1296 = .ok (.iadd, 1) := by decide +kernel
theorem dL_law_1297 : decode cL_law 1297 = .ok (.iaload, 1) := by decide +kernel
theorem dL_law_1298 : decode cL_law 1298 = .ok (.i2l, 1) := by decide +kernel
theorem dL_law_1299 : decode cL_law 1299 = .ok (.ldc2_w 13, 3) := by decide +kernel
theorem dL_law_1302 : decode cL_law 1302 = .ok (.land, 1) := by decide +kernel
theorem dL_law_1303 : decode cL_law 1303 = .ok (.lor, 1) := by decide +kernel
theorem dL_law_1304 : decode cL_law 1304 = .ok (.invokevirtual 141, 3) := by decide +kernel
theorem dL_law_1307 : decode cL_law 1307 = .ok (.aload_n 2, 1) := by decide +kernel
theorem dL_law_1308 : decode cL_law 1308 = .ok (.aload_n 0, 1) := by decide +kernel
theorem dL_law_1309 : decode cL_law 1309 = .ok (.iload_n 3, 1) := by decide +kernel
theorem dL_law_1310 : decode cL_law 1310 = .ok (.iconst 1, 1) := by decide +kernel
theorem dL_law_1311 : decode cL_law 1311 = .ok (.iadd, 1) := by decide +kernel
theorem dL_law_1312 : decode cL_law 1312 = .ok (.iaload, 1) := by decide +kernel
theorem dL_law_1313 : decode cL_law 1313 = .ok (.i2l, 1) := by decide +kernel
theorem dL_law_1314 : decode cL_law 1314 = .ok (.bipush 32, 2) := by decide +kernel
theorem dL_law_1316 : decode cL_law 1316 = .ok (.lshl, 1) := by decide +kernel
theorem dL_law_1317 : decode cL_law 1317 = .ok (.aload_n 0, 1) := by decide +kernel
theorem dL_law_1318 : decode cL_law 1318 = .ok (.iload_n 3, 1) := by decide +kernel
theorem dL_law_1319 : decode cL_law 1319 = .ok (.iconst 2, 1) := by decide +kernel
theorem dL_law_1320 : decode cL_law 1320 = .ok (.iadd, 1) := by decide +kernel
theorem dL_law_1321 : decode cL_law 1321 = .ok (.iaload, 1) := by decide +kernel
theorem dL_law_1322 : decode cL_law 1322 = .ok (.i2l, 1) := by decide +kernel
theorem dL_law_1323 : decode cL_law 1323 = .ok (.ldc2_w 13, 3) := by decide +kernel
theorem dL_law_1326 : decode cL_law 1326 = .ok (.land, 1) := by decide +kernel
theorem dL_law_1327 : decode cL_law 1327 = .ok (.lor, 1) := by decide +kernel
theorem dL_law_1328 : decode cL_law 1328 = .ok (.invokevirtual 144, 3) := by decide +kernel
theorem dL_law_1331 : decode cL_law 1331 = .ok (.if_icmp .eq 28, 3) := by decide +kernel
theorem dL_law_1334 : decode cL_law 1334 = .ok (.iconst 0, 1) := by decide +kernel
theorem dL_law_1335 : decode cL_law 1335 = .ok (.ireturn, 1) := by decide +kernel
theorem dL_law_1336 : decode cL_law 1336 = .ok (.aload_n 1, 1) := by decide +kernel
theorem dL_law_1337 : decode cL_law 1337 = .ok (.aload_n 0, 1) := by decide +kernel
theorem dL_law_1338 : decode cL_law 1338 = .ok (.iload_n 3, 1) := by decide +kernel
theorem dL_law_1339 : decode cL_law 1339 = .ok (.iconst 1, 1) := by decide +kernel
theorem dL_law_1340 : decode cL_law 1340 = .ok (.iadd, 1) := by decide +kernel
theorem dL_law_1341 : decode cL_law 1341 = .ok (.iaload, 1) := by decide +kernel
theorem dL_law_1342 : decode cL_law 1342 = .ok (.invokevirtual 145, 3) := by decide +kernel
theorem dL_law_1345 : decode cL_law 1345 = .ok (.aload_n 2, 1) := by decide +kernel
theorem dL_law_1346 : decode cL_law 1346 = .ok (.aload_n 0, 1) := by decide +kernel
theorem dL_law_1347 : decode cL_law 1347 = .ok (.iload_n 3, 1) := by decide +kernel
theorem dL_law_1348 : decode cL_law 1348 = .ok (.iconst 1, 1) := by decide +kernel
theorem dL_law_1349 : decode cL_law 1349 = .ok (.iadd, 1) := by decide +kernel
theorem dL_law_1350 : decode cL_law 1350 = .ok (.iaload, 1) := by decide +kernel
theorem dL_law_1351 : decode cL_law 1351 = .ok (.invokevirtual 148, 3) := by decide +kernel
theorem dL_law_1354 : decode cL_law 1354 = .ok (.if_icmp .eq 5, 3) := by decide +kernel
theorem dL_law_1357 : decode cL_law 1357 = .ok (.iconst 0, 1) := by decide +kernel
theorem dL_law_1358 : decode cL_law 1358 = .ok (.ireturn, 1) := by decide +kernel
theorem dL_law_1359 : decode cL_law 1359 = .ok (.iinc 3 6, 3) := by decide +kernel
theorem dL_law_1362 : decode cL_law 1362 = .ok (.goto (-1344), 3) := by decide +kernel
theorem dL_law_1365 : decode cL_law 1365 = .ok (.iconst 1, 1) := by decide +kernel
theorem dL_law_1366 : decode cL_law 1366 = .ok (.ireturn, 1) := by decide +kernel
