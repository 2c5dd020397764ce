theorem dX5_three_24 : decode cX5_three 24 = .ok (.iload_n 1, 1) := by decide +kernel
theorem dX5_three_25 : decode cX5_three 25 = .ok (.iload_n 3, 1) := by decide +kernel
theorem dX5_three_26 : decode cX5_three 26 = .ok (.iconst 0, 1) := by decide +kernel
theorem dX5_three_27 : decode cX5_three 27 = .ok (.iload 4, 2) := by decide +kernel
theorem dX5_three_29 : decode cX5_three 29 = .ok (.invokevirtual 168, 3) := by decide +kernel
theorem dX5_three_32 : decode cX5_three 32 = .ok (.aload_n 0, 1) := by decide +kernel
theorem dX5_three_33 : decode cX5_three 33 = .ok (.iload_n 2, 1) := by decide +kernel
theorem dX5_three_34 : decode cX5_three 34 = .ok (.iload_n 3, 1) := by decide +kernel
theorem dX5_three_35 : decode cX5_three 35 = .ok (.iconst 0, 1) := by decide +kernel
theorem dX5_three_36 : decode cX5_three 36 = .ok (.iload 4, 2) := by decide +kernel
theorem dX5_three_38 : decode cX5_three 38 = .ok (.invokevirtual 168, 3) := by decide +kernel
theorem dX5_three_41 : decode cX5_three 41 = .ok (.aload_n 0, 1) := by decide +kernel
theorem dX5_three_42 : decode cX5_three 42 = .ok (.invokevirtual 172, 3) := by decide +kernel
theorem dX5_three_45 : decode cX5_three 45 = .ok (.ireturn, 1) := by decide +kernel
theorem dX5_passes_0 : decode cX5_passes 0 = .ok (.iload 4, 2) := by decide +kernel
theorem dX5_passes_2 : decode cX5_passes 2 = .ok (.ifCond .lt 32, 3) := by decide +kernel
theorem dX5_passes_5 : decode cX5_passes 5 = .ok (.iload 4, 2) := by decide +kernel
theorem dX5_passes_7 : decode cX5_passes 7 = .ok (.bipush 40, 2) := by decide +kernel
theorem dX5_passes_9 : decode cX5_passes 9 = .ok (.if_icmp .gt 25, 3) := by decide +kernel
theorem dX5_passes_12 : decode cX5_passes 12 = .ok (.iload_n 1, 1) := by decide +kernel
theorem dX5_passes_13 : decode cX5_passes 13 = .ok (.ifCond .lt 21, 3) := by decide +kernel
theorem dX5_passes_16 : decode cX5_passes 16 = .ok (.iload_n 1, 1) := by decide +kernel
theorem dX5_passes_17 : decode cX5_passes 17 = .ok (.iload_n 2, 1) := by decide +kernel
theorem dX5_passes_18 : decode cX5_passes 18 = .ok (.if_icmp .ge 16, 3) := by decide +kernel
theorem dX5_passes_21 : decode cX5_passes 21 = .ok (.iload_n 2, 1) := by decide +kernel
theorem dX5_passes_22 : decode cX5_passes 22 = .ok (.iload_n 3, 1) := by decide +kernel
theorem dX5_passes_23 : decode cX5_passes 23 = .ok (.if_icmp .ge 11, 3) := by decide +kernel
theorem dX5_passes_26 : decode cX5_passes 26 = .ok (.iload_n 3, 1) := by decide +kernel
theorem dX5_passes_27 : decode cX5_passes 27 = .ok (.aload_n 0, 1) := by decide +kernel
theorem dX5_passes_28 : decode cX5_passes 28 = .ok (.getfield 13, 3) := by decide +kernel
theorem dX5_passes_31 : decode cX5_passes 31 = .ok (.if_icmp .lt 6, 3) := by decide +kernel
theorem dX5_passes_34 : decode cX5_passes 34 = .ok (.bipush (-2), 2) := by decide +kernel
theorem dX5_passes_36 : decode cX5_passes 36 = .ok (.ireturn, 1) := by decide +kernel
theorem dX5_passes_37 : decode cX5_passes 37 = .ok (.aload_n 0, 1) := by decide +kernel
theorem dX5_passes_38 : decode cX5_passes 38 = .ok (.iload_n 1, 1) := by decide +kernel
theorem dX5_passes_39 : decode cX5_passes 39 = .ok (.iload_n 2, 1) := by decide +kernel
theorem dX5_passes_40 : decode cX5_passes 40 = .ok (.iload_n 3, 1) := by decide +kernel
theorem dX5_passes_41 : decode cX5_passes 41 = .ok (.iload 4, 2) := by decide +kernel
theorem dX5_passes_43 : decode cX5_passes 43 = .ok (.invokevirtual 185, 3) := by decide +kernel
theorem dX5_passes_46 : decode cX5_passes 46 = .ok (.ifCond .eq 7, 3) := by decide +kernel
theorem dX5_passes_49 : decode cX5_passes 49 = .ok (.iconst 1, 1) := by decide +kernel
theorem dX5_passes_50 : decode cX5_passes 50 = .ok (.goto 4, 3) := by decide +kernel
theorem dX5_passes_53 : decode cX5_passes 53 = .ok (.iconst 0, 1) := by decide +kernel
theorem dX5_passes_54 : decode cX5_passes 54 = .ok (.ireturn, 1) := by decide +kernel
theorem dX5_span_0 : decode cX5_span 0 = .ok (.aload_n 0, 1) := by decide +kernel
theorem dX5_span_1 : decode cX5_span 1 = .ok (.invokevirtual 178, 3) := by decide +kernel
theorem dX5_span_4 : decode cX5_span 4 = .ok (.iconst 0, 1) := by decide +kernel
theorem dX5_span_5 : decode cX5_span 5 = .ok (.istore_n 3, 1) := by decide +kernel
theorem dX5_span_6 : decode cX5_span 6 = .ok (.iconst 0, 1) := by decide +kernel
theorem dX5_span_7 : decode cX5_span 7 = .ok (.istore 4, 2) := by decide +kernel
theorem dX5_span_9 : decode cX5_span 9 = .ok (.iconst 0, 1) := by decide +kernel
theorem dX5_span_10 : decode cX5_span 10 = .ok (.istore 5, 2) := by decide +kernel
theorem dX5_span_12 : decode cX5_span 12 = .ok (.iload 5, 2) := by decide +kernel
theorem dX5_span_14 : decode cX5_span 14 = .ok (.iload_n 1, 1) := by decide +kernel
theorem dX5_span_15 : decode cX5_span 15 = .ok (.if_icmp .ge 37, 3) := by decide +kernel
theorem dX5_span_18 : decode cX5_span 18 = .ok (.iload 4, 2) := by decide +kernel
theorem dX5_span_20 : decode cX5_span 20 = .ok (.aload_n 0, 1) := by decide +kernel
theorem dX5_span_21 : decode cX5_span 21 = .ok (.getfield 13, 3) := by decide +kernel
theorem dX5_span_24 : decode cX5_span 24 = .ok (.if_icmp .ge 28, 3) := by decide +kernel
theorem dX5_span_27 : decode cX5_span 27 = .ok (.iload 4, 2) := by decide +kernel
theorem dX5_span_29 : decode cX5_span 29 = .ok (.istore_n 3, 1) := by decide +kernel
theorem dX5_span_30 : decode cX5_span 30 = .ok (.aload_n 0, 1) := by decide +kernel
theorem dX5_span_31 : decode cX5_span 31 = .ok (.iload 4, 2) := by decide +kernel
theorem dX5_span_33 : decode cX5_span 33 = .ok (.aload_n 0, 1) := by decide +kernel
theorem dX5_span_34 : decode cX5_span 34 = .ok (.getfield 13, 3) := by decide +kernel
theorem dX5_span_37 : decode cX5_span 37 = .ok (.aload_n 0, 1) := by decide +kernel
theorem dX5_span_38 : decode cX5_span 38 = .ok (.getfield 17, 3) := by decide +kernel
theorem dX5_span_41 : decode cX5_span 41 = .ok (.invokevirtual 181, 3) := by decide +kernel
theorem dX5_span_44 : decode cX5_span 44 = .ok (.istore 4, 2) := by decide +kernel
theorem dX5_span_46 : decode cX5_span 46 = .ok (.iinc 5 1, 3) := by decide +kernel
theorem dX5_span_49 : decode cX5_span 49 = .ok (.goto (-37), 3) := by decide +kernel
theorem dX5_span_52 : decode cX5_span 52 = .ok (.iload_n 1, 1) := by decide +kernel
theorem dX5_span_53 : decode cX5_span 53 = .ok (.ifCond .lt 29, 3) := by decide +kernel
theorem dX5_span_56 : decode cX5_span 56 = .ok (.iload 4, 2) := by decide +kernel
theorem dX5_span_58 : decode cX5_span 58 = .ok (.aload_n 0, 1) := by decide +kernel
theorem dX5_span_59 : decode cX5_span 59 = .ok (.getfield 13, 3) := by decide +kernel
theorem dX5_span_62 : decode cX5_span 62 = .ok (.if_icmp .ge 20, 3) := by decide +kernel
theorem dX5_span_65 : decode cX5_span 65 = .ok (.iload_n 2, 1) := by decide +kernel
theorem dX5_span_66 : decode cX5_span 66 = .ok (.ifCond .lt 16, 3) := by decide +kernel
theorem dX5_span_69 : decode cX5_span 69 = .ok (.iload_n 2, 1) := by decide +kernel
theorem dX5_span_70 : decode cX5_span 70 = .ok (.iload_n 1, 1) := by decide +kernel
theorem dX5_span_71 : decode cX5_span 71 = .ok (.ifCond .le 7, 3) := by decide +kernel
theorem dX5_span_74 : decode cX5_span 74 = .ok (.iconst 3, 1) := by decide +kernel
theorem dX5_span_75 : decode cX5_span 75 = .ok (.goto 4, 3) := by decide +kernel
theorem dX5_span_78 : decode cX5_span 78 = .ok (.iconst 1, 1) := by decide +kernel
theorem dX5_span_79 : decode cX5_span 79 = .ok (.if_icmp .le 5, 3) := by decide +kernel
theorem dX5_span_82 : decode cX5_span 82 = .ok (.iconst (-1), 1) := by decide +kernel
theorem dX5_span_83 : decode cX5_span 83 = .ok (.ireturn, 1) := by decide +kernel
theorem dX5_span_84 : decode cX5_span 84 = .ok (.iload_n 2, 1) := by decide +kernel
theorem dX5_span_85 : decode cX5_span 85 = .ok (.ifCond .ne 6, 3) := by decide +kernel
theorem dX5_span_88 : decode cX5_span 88 = .ok (.iload 4, 2) := by decide +kernel
theorem dX5_span_90 : decode cX5_span 90 = .ok (.ireturn, 1) := by decide +kernel
theorem dX5_span_91 : decode cX5_span 91 = .ok (.iload_n 2, 1) := by decide +kernel
theorem dX5_span_92 : decode cX5_span 92 = .ok (.iconst 1, 1) := by decide +kernel
theorem dX5_span_93 : decode cX5_span 93 = .ok (.if_icmp .ne 21, 3) := by decide +kernel
theorem dX5_span_96 : decode cX5_span 96 = .ok (.aload_n 0, 1) := by decide +kernel
theorem dX5_span_97 : decode cX5_span 97 = .ok (.iload 4, 2) := by decide +kernel
theorem dX5_span_99 : decode cX5_span 99 = .ok (.aload_n 0, 1) := by decide +kernel
theorem dX5_span_100 : decode cX5_span 100 = .ok (.getfield 13, 3) := by decide +kernel
theorem dX5_span_103 : decode cX5_span 103 = .ok (.aload_n 0, 1) := by decide +kernel
theorem dX5_span_104 : decode cX5_span 104 = .ok (.getfield 17, 3) := by decide +kernel
theorem dX5_span_107 : decode cX5_span 107 = .ok (.invokevirtual 181, 3) := by decide +kernel
theorem dX5_span_110 : decode cX5_span 110 = .ok (.iload 4, 2) := by decide +kernel
theorem dX5_span_112 : decode cX5_span 112 = .ok (.isub, 1) := by decide +kernel
theorem dX5_span_113 : decode cX5_span 113 = .ok (.ireturn, 1) := by decide +kernel
theorem dX5_span_114 : decode cX5_span 114 = .ok (.iload_n 3, 1) := by decide +kernel
theorem dX5_span_115 : decode cX5_span 115 = .ok (.istore 6, 2) := by decide +kernel
theorem dX5_span_117 : decode cX5_span 117 = .ok (.iload 6, 2) := by decide +kernel
theorem dX5_span_119 : decode cX5_span 119 = .ok (.iload 4, 2) := by decide +kernel
theorem dX5_span_121 : decode cX5_span 121 = .ok (.if_icmp .ge 58, 3) := by decide +kernel
theorem dX5_span_124 : decode cX5_span 124 = .ok (.iload 6, 2) := by decide +kernel
theorem dX5_span_126 : decode cX5_span 126 = .ok (.iconst 1, 1) := by decide +kernel
theorem dX5_span_127 : decode cX5_span 127 = .ok (.iadd, 1) := by decide +kernel
theorem dX5_span_128 : decode cX5_span 128 = .ok (.istore 7, 2) := by decide +kernel
theorem dX5_span_130 : decode cX5_span 130 = .ok (.iload 7, 2) := by decide +kernel
theorem dX5_span_132 : decode cX5_span 132 = .ok (.iload 4, 2) := by decide +kernel
theorem dX5_span_134 : decode cX5_span 134 = .ok (.if_icmp .ge 39, 3) := by decide +kernel
theorem dX5_span_137 : decode cX5_span 137 = .ok (.aload_n 0, 1) := by decide +kernel
theorem dX5_span_138 : decode cX5_span 138 = .ok (.iload 6, 2) := by decide +kernel
theorem dX5_span_140 : decode cX5_span 140 = .ok (.iload 7, 2) := by decide +kernel
theorem dX5_span_142 : decode cX5_span 142 = .ok (.iload 4, 2) := by decide +kernel
theorem dX5_span_144 : decode cX5_span 144 = .ok (.aload_n 0, 1) := by decide +kernel
theorem dX5_span_145 : decode cX5_span 145 = .ok (.getfield 17, 3) := by decide +kernel
theorem dX5_span_148 : decode cX5_span 148 = .ok (.invokevirtual 185, 3) := by decide +kernel
theorem dX5_span_151 : decode cX5_span 151 = .ok (.ifCond .ne 16, 3) := by decide +kernel
theorem dX5_span_154 : decode cX5_span 154 = .ok (.iload_n 2, 1) := by decide +kernel
theorem dX5_span_155 : decode cX5_span 155 = .ok (.iconst 2, 1) := by decide +kernel
theorem dX5_span_156 : decode cX5_span 156 = .ok (.if_icmp .ne 8, 3) := by decide +kernel
theorem dX5_span_159 : decode cX5_span 159 = .ok (.iload 6, 2) := by decide +kernel
theorem dX5_span_161 : decode cX5_span 161 = .ok (.goto 5, 3) := by decide +kernel
theorem dX5_span_164 : decode cX5_span 164 = .ok (.iload 7, 2) := by decide +kernel
theorem dX5_span_166 : decode cX5_span 166 = .ok (.ireturn, 1) := by decide +kernel
theorem dX5_span_167 : decode cX5_span 167 = .ok (.iinc 7 1, 3) := by decide +kernel
theorem dX5_span_170 : decode cX5_span 170 = .ok (.goto (-40), 3) := by decide +kernel
theorem dX5_span_173 : decode cX5_span 173 = .ok (.iinc 6 1, 3) := by decide +kernel
theorem dX5_span_176 : decode cX5_span 176 = .ok (.goto (-59), 3) := by decide +kernel
theorem dX5_span_179 : decode cX5_span 179 = .ok (.iconst (-1), 1) := by decide +kernel
theorem dX5_span_180 : decode cX5_span 180 = .ok (.ireturn, 1) := by decide +kernel
theorem dX5_pieces_0 : decode cX5_pieces 0 = .ok (.aload_n 0, 1) := by decide +kernel
theorem dX5_pieces_1 : decode cX5_pieces 1 = .ok (.getfield 46, 3) := by decide +kernel
theorem dX5_pieces_4 : decode cX5_pieces 4 = .ok (.iconst 0, 1) := by decide +kernel
theorem dX5_pieces_5 : decode cX5_pieces 5 = .ok (.iaload, 1) := by decide +kernel
theorem dX5_pieces_6 : decode cX5_pieces 6 = .ok (.ireturn, 1) := by decide +kernel
theorem dX5_lean_0 : decode cX5_lean 0 = .ok (.aload_n 0, 1) := by decide +kernel
theorem dX5_lean_1 : decode cX5_lean 1 = .ok (.getfield 49, 3) := by decide +kernel
theorem dX5_lean_4 : decode cX5_lean 4 = .ok (.iload_n 1, 1) := by decide +kernel
theorem dX5_lean_5 : decode cX5_lean 5 = .ok (.iload_n 3, 1) := by decide +kernel
theorem dX5_lean_6 : decode cX5_lean 6 = .ok (.iload_n 2, 1) := by decide +kernel
theorem dX5_lean_7 : decode cX5_lean 7 = .ok (.isub, 1) := by decide +kernel
theorem dX5_lean_8 : decode cX5_lean 8 = .ok (.iconst 1, 1) := by decide +kernel
theorem dX5_lean_9 : decode cX5_lean 9 = .ok (.if_icmp .ne 7, 3) := by decide +kernel
theorem dX5_lean_12 : decode cX5_lean 12 = .ok (.iconst 0, 1) := by decide +kernel
theorem dX5_lean_13 : decode cX5_lean 13 = .ok (.goto 5, 3) := by decide +kernel
theorem dX5_lean_16 : decode cX5_lean 16 = .ok (.iload 5, 2) := by decide +kernel
theorem dX5_lean_18 : decode cX5_lean 18 = .ok (.iastore, 1) := by decide +kernel
theorem dX5_lean_19 : decode cX5_lean 19 = .ok (.aload_n 0, 1) := by decide +kernel
theorem dX5_lean_20 : decode cX5_lean 20 = .ok (.getfield 52, 3) := by decide +kernel
theorem dX5_lean_23 : decode cX5_lean 23 = .ok (.iload_n 1, 1) := by decide +kernel
theorem dX5_lean_24 : decode cX5_lean 24 = .ok (.iload 6, 2) := by decide +kernel
theorem dX5_lean_26 : decode cX5_lean 26 = .ok (.iastore, 1) := by decide +kernel
theorem dX5_lean_27 : decode cX5_lean 27 = .ok (.aload_n 0, 1) := by decide +kernel
theorem dX5_lean_28 : decode cX5_lean 28 = .ok (.getfield 55, 3) := by decide +kernel
theorem dX5_lean_31 : decode cX5_lean 31 = .ok (.iload_n 1, 1) := by decide +kernel
theorem dX5_lean_32 : decode cX5_lean 32 = .ok (.iload_n 3, 1) := by decide +kernel
theorem dX5_lean_33 : decode cX5_lean 33 = .ok (.iload_n 2, 1) := by decide +kernel
theorem dX5_lean_34 : decode cX5_lean 34 = .ok (.isub, 1) := by decide +kernel
theorem dX5_lean_35 : decode cX5_lean 35 = .ok (.iastore, 1) := by decide +kernel
theorem dX5_lean_36 : decode cX5_lean 36 = .ok (.aload_n 0, 1) := by decide +kernel
theorem dX5_lean_37 : decode cX5_lean 37 = .ok (.getfield 58, 3) := by decide +kernel
theorem dX5_lean_40 : decode cX5_lean 40 = .ok (.iload_n 1, 1) := by decide +kernel
theorem dX5_lean_41 : decode cX5_lean 41 = .ok (.aload_n 0, 1) := by decide +kernel
theorem dX5_lean_42 : decode cX5_lean 42 = .ok (.getfield 17, 3) := by decide +kernel
theorem dX5_lean_45 : decode cX5_lean 45 = .ok (.iastore, 1) := by decide +kernel
theorem dX5_lean_46 : decode cX5_lean 46 = .ok (.aload_n 0, 1) := by decide +kernel
theorem dX5_lean_47 : decode cX5_lean 47 = .ok (.getfield 61, 3) := by decide +kernel
theorem dX5_lean_50 : decode cX5_lean 50 = .ok (.iload_n 1, 1) := by decide +kernel
theorem dX5_lean_51 : decode cX5_lean 51 = .ok (.iconst 0, 1) := by decide +kernel
theorem dX5_lean_52 : decode cX5_lean 52 = .ok (.iastore, 1) := by decide +kernel
theorem dX5_lean_53 : decode cX5_lean 53 = .ok (.aload_n 0, 1) := by decide +kernel
theorem dX5_lean_54 : decode cX5_lean 54 = .ok (.getfield 64, 3) := by decide +kernel
theorem dX5_lean_57 : decode cX5_lean 57 = .ok (.iload_n 1, 1) := by decide +kernel
theorem dX5_lean_58 : decode cX5_lean 58 = .ok (.lconst 0, 1) := by decide +kernel
theorem dX5_lean_59 : decode cX5_lean 59 = .ok (.lastore, 1) := by decide +kernel
theorem dX5_lean_60 : decode cX5_lean 60 = .ok (.aload_n 0, 1) := by decide +kernel
theorem dX5_lean_61 : decode cX5_lean 61 = .ok (.getfield 67, 3) := by decide +kernel
theorem dX5_lean_64 : decode cX5_lean 64 = .ok (.iload_n 1, 1) := by decide +kernel
theorem dX5_lean_65 : decode cX5_lean 65 = .ok (.lconst 1, 1) := by decide +kernel
theorem dX5_lean_66 : decode cX5_lean 66 = .ok (.lastore, 1) := by decide +kernel
theorem dX5_lean_67 : decode cX5_lean 67 = .ok (.aload_n 0, 1) := by decide +kernel
theorem dX5_lean_68 : decode cX5_lean 68 = .ok (.getfield 70, 3) := by decide +kernel
theorem dX5_lean_71 : decode cX5_lean 71 = .ok (.iload_n 1, 1) := by decide +kernel
theorem dX5_lean_72 : decode cX5_lean 72 = .ok (.lconst 0, 1) := by decide +kernel
theorem dX5_lean_73 : decode cX5_lean 73 = .ok (.lastore, 1) := by decide +kernel
theorem dX5_lean_74 : decode cX5_lean 74 = .ok (.iload_n 2, 1) := by decide +kernel
theorem dX5_lean_75 : decode cX5_lean 75 = .ok (.istore 7, 2) := by decide +kernel
theorem dX5_lean_77 : decode cX5_lean 77 = .ok (.iload 7, 2) := by decide +kernel
theorem dX5_lean_79 : decode cX5_lean 79 = .ok (.iload_n 3, 1) := by decide +kernel
theorem dX5_lean_80 : decode cX5_lean 80 = .ok (.if_icmp .ge 41, 3) := by decide +kernel
theorem dX5_lean_83 : decode cX5_lean 83 = .ok (.aload_n 0, 1) := by decide +kernel
theorem dX5_lean_84 : decode cX5_lean 84 = .ok (.getfield 73, 3) := by decide +kernel
theorem dX5_lean_87 : decode cX5_lean 87 = .ok (.iload 6, 2) := by decide +kernel
theorem dX5_lean_89 : decode cX5_lean 89 = .ok (.iload 7, 2) := by decide +kernel
theorem dX5_lean_91 : decode cX5_lean 91 = .ok (.iadd, 1) := by decide +kernel
theorem dX5_lean_92 : decode cX5_lean 92 = .ok (.iload_n 2, 1) := by decide +kernel
theorem dX5_lean_93 : decode cX5_lean 93 = .ok (.isub, 1) := by decide +kernel
theorem dX5_lean_94 : decode cX5_lean 94 = .ok (.aload_n 0, 1) := by decide +kernel
theorem dX5_lean_95 : decode cX5_lean 95 = .ok (.getfield 20, 3) := by decide +kernel
theorem dX5_lean_98 : decode cX5_lean 98 = .ok (.iload 7, 2) := by decide +kernel
theorem dX5_lean_100 : decode cX5_lean 100 = .ok (.laload, 1) := by decide +kernel
theorem dX5_lean_101 : decode cX5_lean 101 = .ok (.lastore, 1) := by decide +kernel
theorem dX5_lean_102 : decode cX5_lean 102 = .ok (.aload_n 0, 1) := by decide +kernel
theorem dX5_lean_103 : decode cX5_lean 103 = .ok (.getfield 80, 3) := by decide +kernel
theorem dX5_lean_106 : decode cX5_lean 106 = .ok (.iload 6, 2) := by decide +kernel
theorem dX5_lean_108 : decode cX5_lean 108 = .ok (.iload 7, 2) := by decide +kernel
theorem dX5_lean_110 : decode cX5_lean 110 = .ok (.iadd, 1) := by decide +kernel
theorem dX5_lean_111 : decode cX5_lean 111 = .ok (.iload_n 2, 1) := by decide +kernel
theorem dX5_lean_112 : decode cX5_lean 112 = .ok (.isub, 1) := by decide +kernel
theorem dX5_lean_113 : decode cX5_lean 113 = .ok (.iconst 0, 1) := by decide +kernel
theorem dX5_lean_114 : decode cX5_lean 114 = .ok (.bastore, 1) := by decide +kernel
theorem dX5_lean_115 : decode cX5_lean 115 = .ok (.iinc 7 1, 3) := by decide +kernel
theorem dX5_lean_118 : decode cX5_lean 118 = .ok (.goto (-41), 3) := by decide +kernel
theorem dX5_lean_121 : decode cX5_lean 121 = .ok (.iload_n 3, 1) := by decide +kernel
theorem dX5_lean_122 : decode cX5_lean 122 = .ok (.iload_n 2, 1) := by decide +kernel
theorem dX5_lean_123 : decode cX5_lean 123 = .ok (.isub, 1) := by decide +kernel
theorem dX5_lean_124 : decode cX5_lean 124 = .ok (.iconst 1, 1) := by decide +kernel
theorem dX5_lean_125 : decode cX5_lean 125 = .ok (.if_icmp .ne 4, 3) := by decide +kernel
theorem dX5_lean_128 : decode cX5_lean 128 = .ok (.return_, 1) := by decide +kernel
theorem dX5_lean_129 : decode cX5_lean 129 = .ok (.aload_n 0, 1) := by decide +kernel
theorem dX5_lean_130 : decode cX5_lean 130 = .ok (.iload_n 2, 1) := by decide +kernel
theorem dX5_lean_131 : decode cX5_lean 131 = .ok (.iload_n 3, 1) := by decide +kernel
theorem dX5_lean_132 : decode cX5_lean 132 = .ok (.iload 4, 2) := by decide +kernel
theorem dX5_lean_134 : decode cX5_lean 134 = .ok (.invokevirtual 189, 3) := by decide +kernel
theorem dX5_lean_137 : decode cX5_lean 137 = .ok (.istore 7, 2) := by decide +kernel
theorem dX5_lean_139 : decode cX5_lean 139 = .ok (.aload_n 0, 1) := by decide +kernel
theorem dX5_lean_140 : decode cX5_lean 140 = .ok (.aload_n 0, 1) := by decide +kernel
theorem dX5_lean_141 : decode cX5_lean 141 = .ok (.getfield 23, 3) := by decide +kernel
theorem dX5_lean_144 : decode cX5_lean 144 = .ok (.aload_n 0, 1) := by decide +kernel
theorem dX5_lean_145 : decode cX5_lean 145 = .ok (.getfield 27, 3) := by decide +kernel
theorem dX5_lean_148 : decode cX5_lean 148 = .ok (.invokevirtual 193, 3) := by decide +kernel
theorem dX5_lean_151 : decode cX5_lean 151 = .ok (.lstore 8, 2) := by decide +kernel
theorem dX5_lean_153 : decode cX5_lean 153 = .ok (.aload_n 0, 1) := by decide +kernel
theorem dX5_lean_154 : decode cX5_lean 154 = .ok (.getfield 64, 3) := by decide +kernel
theorem dX5_lean_157 : decode cX5_lean 157 = .ok (.iload_n 1, 1) := by decide +kernel
theorem dX5_lean_158 : decode cX5_lean 158 = .ok (.aload_n 0, 1) := by decide +kernel
theorem dX5_lean_159 : decode cX5_lean 159 = .ok (.getfield 23, 3) := by decide +kernel
theorem dX5_lean_162 : decode cX5_lean 162 = .ok (.lload 8, 2) := by decide +kernel
theorem dX5_lean_164 : decode cX5_lean 164 = .ok (.ldiv, 1) := by decide +kernel
theorem dX5_lean_165 : decode cX5_lean 165 = .ok (.lastore, 1) := by decide +kernel
theorem dX5_lean_166 : decode cX5_lean 166 = .ok (.aload_n 0, 1) := by decide +kernel
theorem dX5_lean_167 : decode cX5_lean 167 = .ok (.getfield 67, 3) := by decide +kernel
theorem dX5_lean_170 : decode cX5_lean 170 = .ok (.iload_n 1, 1) := by decide +kernel
theorem dX5_lean_171 : decode cX5_lean 171 = .ok (.aload_n 0, 1) := by decide +kernel
theorem dX5_lean_172 : decode cX5_lean 172 = .ok (.getfield 27, 3) := by decide +kernel
theorem dX5_lean_175 : decode cX5_lean 175 = .ok (.lload 8, 2) := by decide +kernel
theorem dX5_lean_177 : decode cX5_lean 177 = .ok (.ldiv, 1) := by decide +kernel
theorem dX5_lean_178 : decode cX5_lean 178 = .ok (.lastore, 1) := by decide +kernel
theorem dX5_lean_179 : decode cX5_lean 179 = .ok (.aload_n 0, 1) := by decide +kernel
theorem dX5_lean_180 : decode cX5_lean 180 = .ok (.getfield 70, 3) := by decide +kernel
theorem dX5_lean_183 : decode cX5_lean 183 = .ok (.iload_n 1, 1) := by decide +kernel
theorem dX5_lean_184 : decode cX5_lean 184 = .ok (.aload_n 0, 1) := by decide +kernel
theorem dX5_lean_185 : decode cX5_lean 185 = .ok (.getfield 67, 3) := by decide +kernel
theorem dX5_lean_188 : decode cX5_lean 188 = .ok (.iload_n 1, 1) := by decide +kernel
theorem dX5_lean_189 : decode cX5_lean 189 = .ok (.laload, 1) := by decide +kernel
theorem dX5_lean_190 : decode cX5_lean 190 = .ok (.aload_n 0, 1) := by decide +kernel
theorem dX5_lean_191 : decode cX5_lean 191 = .ok (.getfield 36, 3) := by decide +kernel
theorem dX5_lean_194 : decode cX5_lean 194 = .ok (.iload_n 2, 1) := by decide +kernel
theorem dX5_lean_195 : decode cX5_lean 195 = .ok (.isub, 1) := by decide +kernel
theorem dX5_lean_196 : decode cX5_lean 196 = .ok (.iload 4, 2) := by decide +kernel
theorem dX5_lean_198 : decode cX5_lean 198 = .ok (.isub, 1) := by decide +kernel
theorem dX5_lean_199 : decode cX5_lean 199 = .ok (.i2l, 1) := by decide +kernel
theorem dX5_lean_200 : decode cX5_lean 200 = .ok (.lmul, 1) := by decide +kernel
theorem dX5_lean_201 : decode cX5_lean 201 = .ok (.aload_n 0, 1) := by decide +kernel
theorem dX5_lean_202 : decode cX5_lean 202 = .ok (.getfield 64, 3) := by decide +kernel
theorem dX5_lean_205 : decode cX5_lean 205 = .ok (.iload_n 1, 1) := by decide +kernel
theorem dX5_lean_206 : decode cX5_lean 206 = .ok (.laload, 1) := by decide +kernel
theorem dX5_lean_207 : decode cX5_lean 207 = .ok (.aload_n 0, 1) := by decide +kernel
theorem dX5_lean_208 : decode cX5_lean 208 = .ok (.getfield 20, 3) := by decide +kernel
theorem dX5_lean_211 : decode cX5_lean 211 = .ok (.aload_n 0, 1) := by decide +kernel
theorem dX5_lean_212 : decode cX5_lean 212 = .ok (.getfield 36, 3) := by decide +kernel
theorem dX5_lean_215 : decode cX5_lean 215 = .ok (.laload, 1) := by decide +kernel
theorem dX5_lean_216 : decode cX5_lean 216 = .ok (.aload_n 0, 1) := by decide +kernel
theorem dX5_lean_217 : decode cX5_lean 217 = .ok (.getfield 20, 3) := by decide +kernel
theorem dX5_lean_220 : decode cX5_lean 220 = .ok (.iload_n 2, 1) := by decide +kernel
theorem dX5_lean_221 : decode cX5_lean 221 = .ok (.laload, 1) := by decide +kernel
theorem dX5_lean_222 : decode cX5_lean 222 = .ok (.lsub, 1) := by decide +kernel
theorem dX5_lean_223 : decode cX5_lean 223 = .ok (.lmul, 1) := by decide +kernel
theorem dX5_lean_224 : decode cX5_lean 224 = .ok (.lsub, 1) := by decide +kernel
theorem dX5_lean_225 : decode cX5_lean 225 = .ok (.lastore, 1) := by decide +kernel
theorem dX5_lean_226 : decode cX5_lean 226 = .ok (.iload 5, 2) := by decide +kernel
theorem dX5_lean_228 : decode cX5_lean 228 = .ok (.iconst 2, 1) := by decide +kernel
theorem dX5_lean_229 : decode cX5_lean 229 = .ok (.if_icmp .ne 22, 3) := by decide +kernel
theorem dX5_lean_232 : decode cX5_lean 232 = .ok (.aload_n 0, 1) := by decide +kernel
theorem dX5_lean_233 : decode cX5_lean 233 = .ok (.iload_n 1, 1) := by decide +kernel
theorem dX5_lean_234 : decode cX5_lean 234 = .ok (.invokevirtual 197, 3) := by decide +kernel
theorem dX5_lean_237 : decode cX5_lean 237 = .ok (.aload_n 0, 1) := by decide +kernel
theorem dX5_lean_238 : decode cX5_lean 238 = .ok (.getfield 17, 3) := by decide +kernel
theorem dX5_lean_241 : decode cX5_lean 241 = .ok (.if_icmp .le 10, 3) := by decide +kernel
theorem dX5_lean_244 : decode cX5_lean 244 = .ok (.aload_n 0, 1) := by decide +kernel
theorem dX5_lean_245 : decode cX5_lean 245 = .ok (.getfield 49, 3) := by decide +kernel
theorem dX5_lean_248 : decode cX5_lean 248 = .ok (.iload_n 1, 1) := by decide +kernel
theorem dX5_lean_249 : decode cX5_lean 249 = .ok (.iconst 1, 1) := by decide +kernel
theorem dX5_lean_250 : decode cX5_lean 250 = .ok (.iastore, 1) := by decide +kernel
theorem dX5_lean_251 : decode cX5_lean 251 = .ok (.return_, 1) := by decide +kernel
theorem dX5_divisor_0 : decode cX5_divisor 0 = .ok (.lload_n 1, 1) := by decide +kernel
theorem dX5_divisor_1 : decode cX5_divisor 1 = .ok (.lstore 5, 2) := by decide +kernel
theorem dX5_divisor_3 : decode cX5_divisor 3 = .ok (.lload_n 3, 1) := by decide +kernel
theorem dX5_divisor_4 : decode cX5_divisor 4 = .ok (.lstore 7, 2) := by decide +kernel
theorem dX5_divisor_6 : decode cX5_divisor 6 = .ok (.lload 7, 2) := by decide +kernel
theorem dX5_divisor_8 : decode cX5_divisor 8 = .ok (.lconst 0, 1) := by decide +kernel
theorem dX5_divisor_9 : decode cX5_divisor 9 = .ok (.lcmp, 1) := by decide +kernel
theorem dX5_divisor_10 : decode cX5_divisor 10 = .ok (.ifCond .eq 21, 3) := by decide +kernel
theorem dX5_divisor_13 : decode cX5_divisor 13 = .ok (.lload 5, 2) := by decide +kernel
theorem dX5_divisor_15 : decode cX5_divisor 15 = .ok (.lload 7, 2) := by decide +kernel
theorem dX5_divisor_17 : decode cX5_divisor 17 = .ok (.lrem, 1) := by decide +kernel
theorem dX5_divisor_18 : decode cX5_divisor 18 = .ok (.lstore 9, 2) := by decide +kernel
theorem dX5_divisor_20 : decode cX5_divisor 20 = .ok (.lload 7, 2) := by decide +kernel
theorem dX5_divisor_22 : decode cX5_divisor 22 = .ok (.lstore 5, 2) := by decide +kernel
theorem dX5_divisor_24 : decode cX5_divisor 24 = .ok (.lload 9, 2) := by decide +kernel
theorem dX5_divisor_26 : decode cX5_divisor 26 = .ok (.lstore 7, 2) := by decide +kernel
theorem dX5_divisor_28 : decode cX5_divisor 28 = .ok (.goto (-22), 3) := by decide +kernel
theorem dX5_divisor_31 : decode cX5_divisor 31 = .ok (.lload 5, 2) := by decide +kernel
theorem dX5_divisor_33 : decode cX5_divisor 33 = .ok (.lreturn, 1) := by decide +kernel
theorem dX5_make_0 : decode cX5_make 0 = .ok (.iload 4, 2) := by decide +kernel
theorem dX5_make_2 : decode cX5_make 2 = .ok (.iconst 2, 1) := by decide +kernel
theorem dX5_make_3 : decode cX5_make 3 = .ok (.if_icmp .ne 12, 3) := by decide +kernel
theorem dX5_make_6 : decode cX5_make 6 = .ok (.aload_n 0, 1) := by decide +kernel
theorem dX5_make_7 : decode cX5_make 7 = .ok (.getfield 17, 3) := by decide +kernel
theorem dX5_make_10 : decode cX5_make 10 = .ok (.iconst 1, 1) := by decide +kernel
theorem dX5_make_11 : decode cX5_make 11 = .ok (.isub, 1) := by decide +kernel
theorem dX5_make_12 : decode cX5_make 12 = .ok (.goto 7, 3) := by decide +kernel
theorem dX5_make_15 : decode cX5_make 15 = .ok (.aload_n 0, 1) := by decide +kernel
theorem dX5_make_16 : decode cX5_make 16 = .ok (.getfield 17, 3) := by decide +kernel
theorem dX5_make_19 : decode cX5_make 19 = .ok (.istore 5, 2) := by decide +kernel
theorem dX5_make_21 : decode cX5_make 21 = .ok (.iconst 0, 1) := by decide +kernel
theorem dX5_make_22 : decode cX5_make 22 = .ok (.istore 6, 2) := by decide +kernel
theorem dX5_make_24 : decode cX5_make 24 = .ok (.iconst 0, 1) := by decide +kernel
theorem dX5_make_25 : decode cX5_make 25 = .ok (.istore 7, 2) := by decide +kernel
theorem dX5_make_27 : decode cX5_make 27 = .ok (.iload 6, 2) := by decide +kernel
theorem dX5_make_29 : decode cX5_make 29 = .ok (.iload_n 1, 1) := by decide +kernel
theorem dX5_make_30 : decode cX5_make 30 = .ok (.if_icmp .ge 44, 3) := by decide +kernel
theorem dX5_make_33 : decode cX5_make 33 = .ok (.aload_n 0, 1) := by decide +kernel
theorem dX5_make_34 : decode cX5_make 34 = .ok (.iload 6, 2) := by decide +kernel
theorem dX5_make_36 : decode cX5_make 36 = .ok (.iload_n 1, 1) := by decide +kernel
theorem dX5_make_37 : decode cX5_make 37 = .ok (.iload 5, 2) := by decide +kernel
theorem dX5_make_39 : decode cX5_make 39 = .ok (.invokevirtual 181, 3) := by decide +kernel
theorem dX5_make_42 : decode cX5_make 42 = .ok (.istore 8, 2) := by decide +kernel
theorem dX5_make_44 : decode cX5_make 44 = .ok (.aload_n 0, 1) := by decide +kernel
theorem dX5_make_45 : decode cX5_make 45 = .ok (.iload_n 2, 1) := by decide +kernel
theorem dX5_make_46 : decode cX5_make 46 = .ok (.iload 7, 2) := by decide +kernel
theorem dX5_make_48 : decode cX5_make 48 = .ok (.iadd, 1) := by decide +kernel
theorem dX5_make_49 : decode cX5_make 49 = .ok (.iload 6, 2) := by decide +kernel
theorem dX5_make_51 : decode cX5_make 51 = .ok (.iload 8, 2) := by decide +kernel
theorem dX5_make_53 : decode cX5_make 53 = .ok (.iload 5, 2) := by decide +kernel
theorem dX5_make_55 : decode cX5_make 55 = .ok (.iload 4, 2) := by decide +kernel
theorem dX5_make_57 : decode cX5_make 57 = .ok (.iload_n 3, 1) := by decide +kernel
theorem dX5_make_58 : decode cX5_make 58 = .ok (.iload 6, 2) := by decide +kernel
theorem dX5_make_60 : decode cX5_make 60 = .ok (.iadd, 1) := by decide +kernel
theorem dX5_make_61 : decode cX5_make 61 = .ok (.invokevirtual 201, 3) := by decide +kernel
theorem dX5_make_64 : decode cX5_make 64 = .ok (.iload 8, 2) := by decide +kernel
theorem dX5_make_66 : decode cX5_make 66 = .ok (.istore 6, 2) := by decide +kernel
theorem dX5_make_68 : decode cX5_make 68 = .ok (.iinc 7 1, 3) := by decide +kernel
theorem dX5_make_71 : decode cX5_make 71 = .ok (.goto (-44), 3) := by decide +kernel
theorem dX5_make_74 : decode cX5_make 74 = .ok (.iload 7, 2) := by decide +kernel
theorem dX5_make_76 : decode cX5_make 76 = .ok (.ireturn, 1) := by decide +kernel
theorem dX5_layersAnew_0 : decode cX5_layersAnew 0 = .ok (.aload_n 0, 1) := by decide +kernel
theorem dX5_layersAnew_1 : decode cX5_layersAnew 1 = .ok (.iconst 0, 1) := by decide +kernel
theorem dX5_layersAnew_2 : decode cX5_layersAnew 2 = .ok (.putfield 39, 3) := by decide +kernel
theorem dX5_layersAnew_5 : decode cX5_layersAnew 5 = .ok (.aload_n 0, 1) := by decide +kernel
theorem dX5_layersAnew_6 : decode cX5_layersAnew 6 = .ok (.getfield 46, 3) := by decide +kernel
theorem dX5_layersAnew_9 : decode cX5_layersAnew 9 = .ok (.aload_n 0, 1) := by decide +kernel
theorem dX5_layersAnew_10 : decode cX5_layersAnew 10 = .ok (.getfield 39, 3) := by decide +kernel
theorem dX5_layersAnew_13 : decode cX5_layersAnew 13 = .ok (.iaload, 1) := by decide +kernel
theorem dX5_layersAnew_14 : decode cX5_layersAnew 14 = .ok (.aload_n 0, 1) := by decide +kernel
theorem dX5_layersAnew_15 : decode cX5_layersAnew 15 = .ok (.getfield 42, 3) := by decide +kernel
theorem dX5_layersAnew_18 : decode cX5_layersAnew 18 = .ok (.aload_n 0, 1) := by decide +kernel
theorem dX5_layersAnew_19 : decode cX5_layersAnew 19 = .ok (.getfield 39, 3) := by decide +kernel
theorem dX5_layersAnew_22 : decode cX5_layersAnew 22 = .ok (.iaload, 1) := by decide +kernel
theorem dX5_layersAnew_23 : decode cX5_layersAnew 23 = .ok (.isub, 1) := by decide +kernel
theorem dX5_layersAnew_24 : decode cX5_layersAnew 24 = .ok (.iconst 1, 1) := by decide +kernel
theorem dX5_layersAnew_25 : decode cX5_layersAnew 25 = .ok (.if_icmp .le 143, 3) := by decide +kernel
theorem dX5_layersAnew_28 : decode cX5_layersAnew 28 = .ok (.aload_n 0, 1) := by decide +kernel
theorem dX5_layersAnew_29 : decode cX5_layersAnew 29 = .ok (.getfield 46, 3) := by decide +kernel
theorem dX5_layersAnew_32 : decode cX5_layersAnew 32 = .ok (.aload_n 0, 1) := by decide +kernel
theorem dX5_layersAnew_33 : decode cX5_layersAnew 33 = .ok (.getfield 39, 3) := by decide +kernel
theorem dX5_layersAnew_36 : decode cX5_layersAnew 36 = .ok (.iaload, 1) := by decide +kernel
theorem dX5_layersAnew_37 : decode cX5_layersAnew 37 = .ok (.aload_n 0, 1) := by decide +kernel
theorem dX5_layersAnew_38 : decode cX5_layersAnew 38 = .ok (.getfield 42, 3) := by decide +kernel
theorem dX5_layersAnew_41 : decode cX5_layersAnew 41 = .ok (.aload_n 0, 1) := by decide +kernel
theorem dX5_layersAnew_42 : decode cX5_layersAnew 42 = .ok (.getfield 39, 3) := by decide +kernel
theorem dX5_layersAnew_45 : decode cX5_layersAnew 45 = .ok (.iaload, 1) := by decide +kernel
theorem dX5_layersAnew_46 : decode cX5_layersAnew 46 = .ok (.isub, 1) := by decide +kernel
theorem dX5_layersAnew_47 : decode cX5_layersAnew 47 = .ok (.istore_n 1, 1) := by decide +kernel
theorem dX5_layersAnew_48 : decode cX5_layersAnew 48 = .ok (.iconst 0, 1) := by decide +kernel
theorem dX5_layersAnew_49 : decode cX5_layersAnew 49 = .ok (.istore_n 2, 1) := by decide +kernel
theorem dX5_layersAnew_50 : decode cX5_layersAnew 50 = .ok (.iload_n 2, 1) := by decide +kernel
theorem dX5_layersAnew_51 : decode cX5_layersAnew 51 = .ok (.iload_n 1, 1) := by decide +kernel
theorem dX5_layersAnew_52 : decode cX5_layersAnew 52 = .ok (.if_icmp .ge 36, 3) := by decide +kernel
theorem dX5_layersAnew_55 : decode cX5_layersAnew 55 = .ok (.aload_n 0, 1) := by decide +kernel
theorem dX5_layersAnew_56 : decode cX5_layersAnew 56 = .ok (.getfield 20, 3) := by decide +kernel
theorem dX5_layersAnew_59 : decode cX5_layersAnew 59 = .ok (.iload_n 2, 1) := by decide +kernel
theorem dX5_layersAnew_60 : decode cX5_layersAnew 60 = .ok (.aload_n 0, 1) := by decide +kernel
theorem dX5_layersAnew_61 : decode cX5_layersAnew 61 = .ok (.getfield 73, 3) := by decide +kernel
theorem dX5_layersAnew_64 : decode cX5_layersAnew 64 = .ok (.aload_n 0, 1) := by decide +kernel
theorem dX5_layersAnew_65 : decode cX5_layersAnew 65 = .ok (.getfield 52, 3) := by decide +kernel
theorem dX5_layersAnew_68 : decode cX5_layersAnew 68 = .ok (.aload_n 0, 1) := by decide +kernel
theorem dX5_layersAnew_69 : decode cX5_layersAnew 69 = .ok (.getfield 42, 3) := by decide +kernel
theorem dX5_layersAnew_72 : decode cX5_layersAnew 72 = .ok (.aload_n 0, 1) := by decide +kernel
theorem dX5_layersAnew_73 : decode cX5_layersAnew 73 = .ok (.getfield 39, 3) := by decide +kernel
theorem dX5_layersAnew_76 : decode cX5_layersAnew 76 = .ok (.iaload, 1) := by decide +kernel
theorem dX5_layersAnew_77 : decode cX5_layersAnew 77 = .ok (.iload_n 2, 1) := by decide +kernel
theorem dX5_layersAnew_78 : decode cX5_layersAnew 78 = .ok (.iadd, 1) := by decide +kernel
theorem dX5_layersAnew_79 : decode cX5_layersAnew 79 = .ok (.iaload, 1) := by decide +kernel
theorem dX5_layersAnew_80 : decode cX5_layersAnew 80 = .ok (.laload, 1) := by decide +kernel
theorem dX5_layersAnew_81 : decode cX5_layersAnew 81 = .ok (.lastore, 1) := by decide +kernel
theorem dX5_layersAnew_82 : decode cX5_layersAnew 82 = .ok (.iinc 2 1, 3) := by decide +kernel
theorem dX5_layersAnew_85 : decode cX5_layersAnew 85 = .ok (.goto (-35), 3) := by decide +kernel
theorem dX5_layersAnew_88 : decode cX5_layersAnew 88 = .ok (.aload_n 0, 1) := by decide +kernel
theorem dX5_layersAnew_89 : decode cX5_layersAnew 89 = .ok (.getfield 46, 3) := by decide +kernel
theorem dX5_layersAnew_92 : decode cX5_layersAnew 92 = .ok (.aload_n 0, 1) := by decide +kernel
theorem dX5_layersAnew_93 : decode cX5_layersAnew 93 = .ok (.getfield 39, 3) := by decide +kernel
theorem dX5_layersAnew_96 : decode cX5_layersAnew 96 = .ok (.iaload, 1) := by decide +kernel
theorem dX5_layersAnew_97 : decode cX5_layersAnew 97 = .ok (.iconst 1, 1) := by decide +kernel
theorem dX5_layersAnew_98 : decode cX5_layersAnew 98 = .ok (.isub, 1) := by decide +kernel
theorem dX5_layersAnew_99 : decode cX5_layersAnew 99 = .ok (.istore_n 2, 1) := by decide +kernel
theorem dX5_layersAnew_100 : decode cX5_layersAnew 100 = .ok (.aload_n 0, 1) := by decide +kernel
theorem dX5_layersAnew_101 : decode cX5_layersAnew 101 = .ok (.getfield 46, 3) := by decide +kernel
theorem dX5_layersAnew_104 : decode cX5_layersAnew 104 = .ok (.aload_n 0, 1) := by decide +kernel
theorem dX5_layersAnew_105 : decode cX5_layersAnew 105 = .ok (.getfield 39, 3) := by decide +kernel
theorem dX5_layersAnew_108 : decode cX5_layersAnew 108 = .ok (.iaload, 1) := by decide +kernel
theorem dX5_layersAnew_109 : decode cX5_layersAnew 109 = .ok (.istore_n 3, 1) := by decide +kernel
theorem dX5_layersAnew_110 : decode cX5_layersAnew 110 = .ok (.aload_n 0, 1) := by decide +kernel
theorem dX5_layersAnew_111 : decode cX5_layersAnew 111 = .ok (.iload_n 1, 1) := by decide +kernel
theorem dX5_layersAnew_112 : decode cX5_layersAnew 112 = .ok (.iload_n 3, 1) := by decide +kernel
theorem dX5_layersAnew_113 : decode cX5_layersAnew 113 = .ok (.aload_n 0, 1) := by decide +kernel
theorem dX5_layersAnew_114 : decode cX5_layersAnew 114 = .ok (.getfield 52, 3) := by decide +kernel
theorem dX5_layersAnew_117 : decode cX5_layersAnew 117 = .ok (.iload_n 2, 1) := by decide +kernel
theorem dX5_layersAnew_118 : decode cX5_layersAnew 118 = .ok (.iaload, 1) := by decide +kernel
theorem dX5_layersAnew_119 : decode cX5_layersAnew 119 = .ok (.aload_n 0, 1) := by decide +kernel
theorem dX5_layersAnew_120 : decode cX5_layersAnew 120 = .ok (.getfield 55, 3) := by decide +kernel
theorem dX5_layersAnew_123 : decode cX5_layersAnew 123 = .ok (.iload_n 2, 1) := by decide +kernel
theorem dX5_layersAnew_124 : decode cX5_layersAnew 124 = .ok (.iaload, 1) := by decide +kernel
theorem dX5_layersAnew_125 : decode cX5_layersAnew 125 = .ok (.iadd, 1) := by decide +kernel
theorem dX5_layersAnew_126 : decode cX5_layersAnew 126 = .ok (.iconst 1, 1) := by decide +kernel
theorem dX5_layersAnew_127 : decode cX5_layersAnew 127 = .ok (.invokevirtual 205, 3) := by decide +kernel
theorem dX5_layersAnew_130 : decode cX5_layersAnew 130 = .ok (.istore 4, 2) := by decide +kernel
theorem dX5_layersAnew_132 : decode cX5_layersAnew 132 = .ok (.aload_n 0, 1) := by decide +kernel
theorem dX5_layersAnew_133 : decode cX5_layersAnew 133 = .ok (.dup, 1) := by decide +kernel
theorem dX5_layersAnew_134 : decode cX5_layersAnew 134 = .ok (.getfield 39, 3) := by decide +kernel
theorem dX5_layersAnew_137 : decode cX5_layersAnew 137 = .ok (.iconst 1, 1) := by decide +kernel
theorem dX5_layersAnew_138 : decode cX5_layersAnew 138 = .ok (.iadd, 1) := by decide +kernel
theorem dX5_layersAnew_139 : decode cX5_layersAnew 139 = .ok (.putfield 39, 3) := by decide +kernel
theorem dX5_layersAnew_142 : decode cX5_layersAnew 142 = .ok (.aload_n 0, 1) := by decide +kernel
theorem dX5_layersAnew_143 : decode cX5_layersAnew 143 = .ok (.getfield 42, 3) := by decide +kernel
theorem dX5_layersAnew_146 : decode cX5_layersAnew 146 = .ok (.aload_n 0, 1) := by decide +kernel
theorem dX5_layersAnew_147 : decode cX5_layersAnew 147 = .ok (.getfield 39, 3) := by decide +kernel
theorem dX5_layersAnew_150 : decode cX5_layersAnew 150 = .ok (.iload_n 3, 1) := by decide +kernel
theorem dX5_layersAnew_151 : decode cX5_layersAnew 151 = .ok (.iastore, 1) := by decide +kernel
theorem dX5_layersAnew_152 : decode cX5_layersAnew 152 = .ok (.aload_n 0, 1) := by decide +kernel
theorem dX5_layersAnew_153 : decode cX5_layersAnew 153 = .ok (.getfield 46, 3) := by decide +kernel
theorem dX5_layersAnew_156 : decode cX5_layersAnew 156 = .ok (.aload_n 0, 1) := by decide +kernel
theorem dX5_layersAnew_157 : decode cX5_layersAnew 157 = .ok (.getfield 39, 3) := by decide +kernel
theorem dX5_layersAnew_160 : decode cX5_layersAnew 160 = .ok (.iload_n 3, 1) := by decide +kernel
theorem dX5_layersAnew_161 : decode cX5_layersAnew 161 = .ok (.iload 4, 2) := by decide +kernel
theorem dX5_layersAnew_163 : decode cX5_layersAnew 163 = .ok (.iadd, 1) := by decide +kernel
theorem dX5_layersAnew_164 : decode cX5_layersAnew 164 = .ok (.iastore, 1) := by decide +kernel
theorem dX5_layersAnew_165 : decode cX5_layersAnew 165 = .ok (.goto (-160), 3) := by decide +kernel
theorem dX5_layersAnew_168 : decode cX5_layersAnew 168 = .ok (.return_, 1) := by decide +kernel
theorem dX5_isThere_0 : decode cX5_isThere 0 = .ok (.aload_n 0, 1) := by decide +kernel
theorem dX5_isThere_1 : decode cX5_isThere 1 = .ok (.getfield 80, 3) := by decide +kernel
theorem dX5_isThere_4 : decode cX5_isThere 4 = .ok (.aload_n 0, 1) := by decide +kernel
theorem dX5_isThere_5 : decode cX5_isThere 5 = .ok (.getfield 52, 3) := by decide +kernel
theorem dX5_isThere_8 : decode cX5_isThere 8 = .ok (.iload_n 1, 1) := by decide +kernel
theorem dX5_isThere_9 : decode cX5_isThere 9 = .ok (.iaload, 1) := by decide +kernel
theorem dX5_isThere_10 : decode cX5_isThere 10 = .ok (.iload_n 2, 1) := by decide +kernel
theorem dX5_isThere_11 : decode cX5_isThere 11 = .ok (.iadd, 1) := by decide +kernel
theorem dX5_isThere_12 : decode cX5_isThere 12 = .ok (.baload, 1) := by decide +kernel
theorem dX5_isThere_13 : decode cX5_isThere 13 = .ok (.ifCond .ne 7, 3) := by decide +kernel
theorem dX5_isThere_16 : decode cX5_isThere 16 = .ok (.iconst 1, 1) := by decide +kernel
theorem dX5_isThere_17 : decode cX5_isThere 17 = .ok (.goto 4, 3) := by decide +kernel
theorem dX5_isThere_20 : decode cX5_isThere 20 = .ok (.iconst 0, 1) := by decide +kernel
theorem dX5_isThere_21 : decode cX5_isThere 21 = .ok (.ireturn, 1) := by decide +kernel
theorem dX5_gather_0 : decode cX5_gather 0 = .ok (.iconst 0, 1) := by decide +kernel
theorem dX5_gather_1 : decode cX5_gather 1 = .ok (.istore_n 2, 1) := by decide +kernel
theorem dX5_gather_2 : decode cX5_gather 2 = .ok (.iconst 0, 1) := by decide +kernel
theorem dX5_gather_3 : decode cX5_gather 3 = .ok (.istore_n 3, 1) := by decide +kernel
theorem dX5_gather_4 : decode cX5_gather 4 = .ok (.iload_n 2, 1) := by decide +kernel
theorem dX5_gather_5 : decode cX5_gather 5 = .ok (.aload_n 0, 1) := by decide +kernel
theorem dX5_gather_6 : decode cX5_gather 6 = .ok (.getfield 55, 3) := by decide +kernel
theorem dX5_gather_9 : decode cX5_gather 9 = .ok (.iload_n 1, 1) := by decide +kernel
theorem dX5_gather_10 : decode cX5_gather 10 = .ok (.iaload, 1) := by decide +kernel
theorem dX5_gather_11 : decode cX5_gather 11 = .ok (.if_icmp .lt 13, 3) := by decide +kernel
theorem dX5_gather_14 : decode cX5_gather 14 = .ok (.iload_n 3, 1) := by decide +kernel
theorem dX5_gather_15 : decode cX5_gather 15 = .ok (.aload_n 0, 1) := by decide +kernel
theorem dX5_gather_16 : decode cX5_gather 16 = .ok (.getfield 61, 3) := by decide +kernel
theorem dX5_gather_19 : decode cX5_gather 19 = .ok (.iload_n 1, 1) := by decide +kernel
theorem dX5_gather_20 : decode cX5_gather 20 = .ok (.iaload, 1) := by decide +kernel
theorem dX5_gather_21 : decode cX5_gather 21 = .ok (.if_icmp .ge 152, 3) := by decide +kernel
theorem dX5_gather_24 : decode cX5_gather 24 = .ok (.iload_n 3, 1) := by decide +kernel
theorem dX5_gather_25 : decode cX5_gather 25 = .ok (.aload_n 0, 1) := by decide +kernel
theorem dX5_gather_26 : decode cX5_gather 26 = .ok (.getfield 61, 3) := by decide +kernel
theorem dX5_gather_29 : decode cX5_gather 29 = .ok (.iload_n 1, 1) := by decide +kernel
theorem dX5_gather_30 : decode cX5_gather 30 = .ok (.iaload, 1) := by decide +kernel
theorem dX5_gather_31 : decode cX5_gather 31 = .ok (.if_icmp .eq 41, 3) := by decide +kernel
theorem dX5_gather_34 : decode cX5_gather 34 = .ok (.iload_n 2, 1) := by decide +kernel
theorem dX5_gather_35 : decode cX5_gather 35 = .ok (.aload_n 0, 1) := by decide +kernel
theorem dX5_gather_36 : decode cX5_gather 36 = .ok (.getfield 55, 3) := by decide +kernel
theorem dX5_gather_39 : decode cX5_gather 39 = .ok (.iload_n 1, 1) := by decide +kernel
theorem dX5_gather_40 : decode cX5_gather 40 = .ok (.iaload, 1) := by decide +kernel
theorem dX5_gather_41 : decode cX5_gather 41 = .ok (.if_icmp .ge 35, 3) := by decide +kernel
theorem dX5_gather_44 : decode cX5_gather 44 = .ok (.aload_n 0, 1) := by decide +kernel
theorem dX5_gather_45 : decode cX5_gather 45 = .ok (.getfield 73, 3) := by decide +kernel
theorem dX5_gather_48 : decode cX5_gather 48 = .ok (.aload_n 0, 1) := by decide +kernel
theorem dX5_gather_49 : decode cX5_gather 49 = .ok (.getfield 52, 3) := by decide +kernel
theorem dX5_gather_52 : decode cX5_gather 52 = .ok (.iload_n 1, 1) := by decide +kernel
theorem dX5_gather_53 : decode cX5_gather 53 = .ok (.iaload, 1) := by decide +kernel
theorem dX5_gather_54 : decode cX5_gather 54 = .ok (.iload_n 2, 1) := by decide +kernel
theorem dX5_gather_55 : decode cX5_gather 55 = .ok (.iadd, 1) := by decide +kernel
theorem dX5_gather_56 : decode cX5_gather 56 = .ok (.laload, 1) := by decide +kernel
theorem dX5_gather_57 : decode cX5_gather 57 = .ok (.aload_n 0, 1) := by decide +kernel
theorem dX5_gather_58 : decode cX5_gather 58 = .ok (.getfield 77, 3) := by decide +kernel
theorem dX5_gather_61 : decode cX5_gather 61 = .ok (.bipush 16, 2) := by decide +kernel
theorem dX5_gather_63 : decode cX5_gather 63 = .ok (.iload_n 1, 1) := by decide +kernel
theorem dX5_gather_64 : decode cX5_gather 64 = .ok (.imul, 1) := by decide +kernel
theorem dX5_gather_65 : decode cX5_gather 65 = .ok (.iload_n 3, 1) := by decide +kernel
theorem dX5_gather_66 : decode cX5_gather 66 = .ok (.iadd, 1) := by decide +kernel
theorem dX5_gather_67 : decode cX5_gather 67 = .ok (.laload, 1) := by decide +kernel
theorem dX5_gather_68 : decode cX5_gather 68 = .ok (.lcmp, 1) := by decide +kernel
theorem dX5_gather_69 : decode cX5_gather 69 = .ok (.ifCond .ge 7, 3) := by decide +kernel
theorem dX5_gather_72 : decode cX5_gather 72 = .ok (.iconst 1, 1) := by decide +kernel
theorem dX5_gather_73 : decode cX5_gather 73 = .ok (.goto 4, 3) := by decide +kernel
theorem dX5_gather_76 : decode cX5_gather 76 = .ok (.iconst 0, 1) := by decide +kernel
theorem dX5_gather_77 : decode cX5_gather 77 = .ok (.istore 4, 2) := by decide +kernel
theorem dX5_gather_79 : decode cX5_gather 79 = .ok (.iload 4, 2) := by decide +kernel
theorem dX5_gather_81 : decode cX5_gather 81 = .ok (.ifCond .eq 12, 3) := by decide +kernel
theorem dX5_gather_84 : decode cX5_gather 84 = .ok (.aload_n 0, 1) := by decide +kernel
theorem dX5_gather_85 : decode cX5_gather 85 = .ok (.iload_n 1, 1) := by decide +kernel
theorem dX5_gather_86 : decode cX5_gather 86 = .ok (.iload_n 2, 1) := by decide +kernel
theorem dX5_gather_87 : decode cX5_gather 87 = .ok (.invokevirtual 209, 3) := by decide +kernel
theorem dX5_gather_90 : decode cX5_gather 90 = .ok (.ifCond .eq 54, 3) := by decide +kernel
theorem dX5_gather_93 : decode cX5_gather 93 = .ok (.aload_n 0, 1) := by decide +kernel
theorem dX5_gather_94 : decode cX5_gather 94 = .ok (.getfield 20, 3) := by decide +kernel
theorem dX5_gather_97 : decode cX5_gather 97 = .ok (.aload_n 0, 1) := by decide +kernel
theorem dX5_gather_98 : decode cX5_gather 98 = .ok (.getfield 94, 3) := by decide +kernel
theorem dX5_gather_101 : decode cX5_gather 101 = .ok (.iload 4, 2) := by decide +kernel
theorem dX5_gather_103 : decode cX5_gather 103 = .ok (.ifCond .eq 19, 3) := by decide +kernel
theorem dX5_gather_106 : decode cX5_gather 106 = .ok (.aload_n 0, 1) := by decide +kernel
theorem dX5_gather_107 : decode cX5_gather 107 = .ok (.getfield 73, 3) := by decide +kernel
theorem dX5_gather_110 : decode cX5_gather 110 = .ok (.aload_n 0, 1) := by decide +kernel
theorem dX5_gather_111 : decode cX5_gather 111 = .ok (.getfield 52, 3) := by decide +kernel
theorem dX5_gather_114 : decode cX5_gather 114 = .ok (.iload_n 1, 1) := by decide +kernel
theorem dX5_gather_115 : decode cX5_gather 115 = .ok (.iaload, 1) := by decide +kernel
theorem dX5_gather_116 : decode cX5_gather 116 = .ok (.iload_n 2, 1) := by decide +kernel
theorem dX5_gather_117 : decode cX5_gather 117 = .ok (.iadd, 1) := by decide +kernel
theorem dX5_gather_118 : decode cX5_gather 118 = .ok (.laload, 1) := by decide +kernel
theorem dX5_gather_119 : decode cX5_gather 119 = .ok (.goto 14, 3) := by decide +kernel
theorem dX5_gather_122 : decode cX5_gather 122 = .ok (.aload_n 0, 1) := by decide +kernel
theorem dX5_gather_123 : decode cX5_gather 123 = .ok (.getfield 77, 3) := by decide +kernel
theorem dX5_gather_126 : decode cX5_gather 126 = .ok (.bipush 16, 2) := by decide +kernel
theorem dX5_gather_128 : decode cX5_gather 128 = .ok (.iload_n 1, 1) := by decide +kernel
theorem dX5_gather_129 : decode cX5_gather 129 = .ok (.imul, 1) := by decide +kernel
theorem dX5_gather_130 : decode cX5_gather 130 = .ok (.iload_n 3, 1) := by decide +kernel
theorem dX5_gather_131 : decode cX5_gather 131 = .ok (.iadd, 1) := by decide +kernel
theorem dX5_gather_132 : decode cX5_gather 132 = .ok (.laload, 1) := by decide +kernel
theorem dX5_gather_133 : decode cX5_gather 133 = .ok (.lastore, 1) := by decide +kernel
theorem dX5_gather_134 : decode cX5_gather 134 = .ok (.aload_n 0, 1) := by decide +kernel
theorem dX5_gather_135 : decode cX5_gather 135 = .ok (.dup, 1) := by decide +kernel
theorem dX5_gather_136 : decode cX5_gather 136 = .ok (.getfield 94, 3) := by decide +kernel
theorem dX5_gather_139 : decode cX5_gather 139 = .ok (.iconst 1, 1) := by decide +kernel
theorem dX5_gather_140 : decode cX5_gather 140 = .ok (.iadd, 1) := by decide +kernel
theorem dX5_gather_141 : decode cX5_gather 141 = .ok (.putfield 94, 3) := by decide +kernel
theorem dX5_gather_144 : decode cX5_gather 144 = .ok (.iload_n 2, 1) := by decide +kernel
theorem dX5_gather_145 : decode cX5_gather 145 = .ok (.iload 4, 2) := by decide +kernel
theorem dX5_gather_147 : decode cX5_gather 147 = .ok (.ifCond .eq 7, 3) := by decide +kernel
theorem dX5_gather_150 : decode cX5_gather 150 = .ok (.iconst 1, 1) := by decide +kernel
theorem dX5_gather_151 : decode cX5_gather 151 = .ok (.goto 4, 3) := by decide +kernel
theorem dX5_gather_154 : decode cX5_gather 154 = .ok (.iconst 0, 1) := by decide +kernel
theorem dX5_gather_155 : decode cX5_gather 155 = .ok (.iadd, 1) := by decide +kernel
theorem dX5_gather_156 : decode cX5_gather 156 = .ok (.istore_n 2, 1) := by decide +kernel
theorem dX5_gather_157 : decode cX5_gather 157 = .ok (.iload_n 3, 1) := by decide +kernel
theorem dX5_gather_158 : decode cX5_gather 158 = .ok (.iload 4, 2) := by decide +kernel
theorem dX5_gather_160 : decode cX5_gather 160 = .ok (.ifCond .eq 7, 3) := by decide +kernel
theorem dX5_gather_163 : decode cX5_gather 163 = .ok (.iconst 0, 1) := by decide +kernel
theorem dX5_gather_164 : decode cX5_gather 164 = .ok (.goto 4, 3) := by decide +kernel
theorem dX5_gather_167 : decode cX5_gather 167 = .ok (.iconst 1, 1) := by decide +kernel
theorem dX5_gather_168 : decode cX5_gather 168 = .ok (.iadd, 1) := by decide +kernel
theorem dX5_gather_169 : decode cX5_gather 169 = .ok (.istore_n 3, 1) := by decide +kernel
theorem dX5_gather_170 : decode cX5_gather 170 = .ok (.goto (-166), 3) := by decide +kernel
theorem dX5_gather_173 : decode cX5_gather 173 = .ok (.return_, 1) := by decide +kernel
theorem dX5_replace_0 : decode cX5_replace 0 = .ok (.aload_n 0, 1) := by decide +kernel
theorem dX5_replace_1 : decode cX5_replace 1 = .ok (.invokevirtual 213, 3) := by decide +kernel
theorem dX5_replace_4 : decode cX5_replace 4 = .ok (.iload_n 2, 1) := by decide +kernel
theorem dX5_replace_5 : decode cX5_replace 5 = .ok (.isub, 1) := by decide +kernel
theorem dX5_replace_6 : decode cX5_replace 6 = .ok (.istore 4, 2) := by decide +kernel
theorem dX5_replace_8 : decode cX5_replace 8 = .ok (.iconst 0, 1) := by decide +kernel
theorem dX5_replace_9 : decode cX5_replace 9 = .ok (.istore 5, 2) := by decide +kernel
theorem dX5_replace_11 : decode cX5_replace 11 = .ok (.iconst 0, 1) := by decide +kernel
theorem dX5_replace_12 : decode cX5_replace 12 = .ok (.istore 6, 2) := by decide +kernel
theorem dX5_replace_14 : decode cX5_replace 14 = .ok (.iload 6, 2) := by decide +kernel
theorem dX5_replace_16 : decode cX5_replace 16 = .ok (.iload 4, 2) := by decide +kernel
theorem dX5_replace_18 : decode cX5_replace 18 = .ok (.if_icmp .ge 228, 3) := by decide +kernel
theorem dX5_replace_21 : decode cX5_replace 21 = .ok (.iload_n 2, 1) := by decide +kernel
theorem dX5_replace_22 : decode cX5_replace 22 = .ok (.iload 6, 2) := by decide +kernel
theorem dX5_replace_24 : decode cX5_replace 24 = .ok (.iadd, 1) := by decide +kernel
theorem dX5_replace_25 : decode cX5_replace 25 = .ok (.istore 7, 2) := by decide +kernel
theorem dX5_replace_27 : decode cX5_replace 27 = .ok (.aload_n 0, 1) := by decide +kernel
theorem dX5_replace_28 : decode cX5_replace 28 = .ok (.getfield 97, 3) := by decide +kernel
theorem dX5_replace_31 : decode cX5_replace 31 = .ok (.iload 6, 2) := by decide +kernel
theorem dX5_replace_33 : decode cX5_replace 33 = .ok (.aload_n 0, 1) := by decide +kernel
theorem dX5_replace_34 : decode cX5_replace 34 = .ok (.getfield 49, 3) := by decide +kernel
theorem dX5_replace_37 : decode cX5_replace 37 = .ok (.iload 7, 2) := by decide +kernel
theorem dX5_replace_39 : decode cX5_replace 39 = .ok (.iaload, 1) := by decide +kernel
theorem dX5_replace_40 : decode cX5_replace 40 = .ok (.iastore, 1) := by decide +kernel
theorem dX5_replace_41 : decode cX5_replace 41 = .ok (.aload_n 0, 1) := by decide +kernel
theorem dX5_replace_42 : decode cX5_replace 42 = .ok (.getfield 100, 3) := by decide +kernel
theorem dX5_replace_45 : decode cX5_replace 45 = .ok (.iload 6, 2) := by decide +kernel
theorem dX5_replace_47 : decode cX5_replace 47 = .ok (.aload_n 0, 1) := by decide +kernel
theorem dX5_replace_48 : decode cX5_replace 48 = .ok (.getfield 55, 3) := by decide +kernel
theorem dX5_replace_51 : decode cX5_replace 51 = .ok (.iload 7, 2) := by decide +kernel
theorem dX5_replace_53 : decode cX5_replace 53 = .ok (.iaload, 1) := by decide +kernel
theorem dX5_replace_54 : decode cX5_replace 54 = .ok (.iastore, 1) := by decide +kernel
theorem dX5_replace_55 : decode cX5_replace 55 = .ok (.aload_n 0, 1) := by decide +kernel
theorem dX5_replace_56 : decode cX5_replace 56 = .ok (.getfield 103, 3) := by decide +kernel
theorem dX5_replace_59 : decode cX5_replace 59 = .ok (.iload 6, 2) := by decide +kernel
theorem dX5_replace_61 : decode cX5_replace 61 = .ok (.aload_n 0, 1) := by decide +kernel
theorem dX5_replace_62 : decode cX5_replace 62 = .ok (.getfield 58, 3) := by decide +kernel
theorem dX5_replace_65 : decode cX5_replace 65 = .ok (.iload 7, 2) := by decide +kernel
theorem dX5_replace_67 : decode cX5_replace 67 = .ok (.iaload, 1) := by decide +kernel
theorem dX5_replace_68 : decode cX5_replace 68 = .ok (.iastore, 1) := by decide +kernel
theorem dX5_replace_69 : decode cX5_replace 69 = .ok (.aload_n 0, 1) := by decide +kernel
theorem dX5_replace_70 : decode cX5_replace 70 = .ok (.getfield 106, 3) := by decide +kernel
theorem dX5_replace_73 : decode cX5_replace 73 = .ok (.iload 6, 2) := by decide +kernel
theorem dX5_replace_75 : decode cX5_replace 75 = .ok (.aload_n 0, 1) := by decide +kernel
theorem dX5_replace_76 : decode cX5_replace 76 = .ok (.getfield 61, 3) := by decide +kernel
theorem dX5_replace_79 : decode cX5_replace 79 = .ok (.iload 7, 2) := by decide +kernel
theorem dX5_replace_81 : decode cX5_replace 81 = .ok (.iaload, 1) := by decide +kernel
theorem dX5_replace_82 : decode cX5_replace 82 = .ok (.iastore, 1) := by decide +kernel
theorem dX5_replace_83 : decode cX5_replace 83 = .ok (.aload_n 0, 1) := by decide +kernel
theorem dX5_replace_84 : decode cX5_replace 84 = .ok (.getfield 109, 3) := by decide +kernel
theorem dX5_replace_87 : decode cX5_replace 87 = .ok (.iload 6, 2) := by decide +kernel
theorem dX5_replace_89 : decode cX5_replace 89 = .ok (.aload_n 0, 1) := by decide +kernel
theorem dX5_replace_90 : decode cX5_replace 90 = .ok (.getfield 64, 3) := by decide +kernel
theorem dX5_replace_93 : decode cX5_replace 93 = .ok (.iload 7, 2) := by decide +kernel
theorem dX5_replace_95 : decode cX5_replace 95 = .ok (.laload, 1) := by decide +kernel
theorem dX5_replace_96 : decode cX5_replace 96 = .ok (.lastore, 1) := by decide +kernel
theorem dX5_replace_97 : decode cX5_replace 97 = .ok (.aload_n 0, 1) := by decide +kernel
theorem dX5_replace_98 : decode cX5_replace 98 = .ok (.getfield 112, 3) := by decide +kernel
theorem dX5_replace_101 : decode cX5_replace 101 = .ok (.iload 6, 2) := by decide +kernel
theorem dX5_replace_103 : decode cX5_replace 103 = .ok (.aload_n 0, 1) := by decide +kernel
theorem dX5_replace_104 : decode cX5_replace 104 = .ok (.getfield 67, 3) := by decide +kernel
theorem dX5_replace_107 : decode cX5_replace 107 = .ok (.iload 7, 2) := by decide +kernel
theorem dX5_replace_109 : decode cX5_replace 109 = .ok (.laload, 1) := by decide +kernel
theorem dX5_replace_110 : decode cX5_replace 110 = .ok (.lastore, 1) := by decide +kernel
theorem dX5_replace_111 : decode cX5_replace 111 = .ok (.aload_n 0, 1) := by decide +kernel
theorem dX5_replace_112 : decode cX5_replace 112 = .ok (.getfield 115, 3) := by decide +kernel
theorem dX5_replace_115 : decode cX5_replace 115 = .ok (.iload 6, 2) := by decide +kernel
theorem dX5_replace_117 : decode cX5_replace 117 = .ok (.aload_n 0, 1) := by decide +kernel
theorem dX5_replace_118 : decode cX5_replace 118 = .ok (.getfield 70, 3) := by decide +kernel
theorem dX5_replace_121 : decode cX5_replace 121 = .ok (.iload 7, 2) := by decide +kernel
theorem dX5_replace_123 : decode cX5_replace 123 = .ok (.laload, 1) := by decide +kernel
theorem dX5_replace_124 : decode cX5_replace 124 = .ok (.lastore, 1) := by decide +kernel
theorem dX5_replace_125 : decode cX5_replace 125 = .ok (.iconst 0, 1) := by decide +kernel
theorem dX5_replace_126 : decode cX5_replace 126 = .ok (.istore 8, 2) := by decide +kernel
theorem dX5_replace_128 : decode cX5_replace 128 = .ok (.iload 8, 2) := by decide +kernel
theorem dX5_replace_130 : decode cX5_replace 130 = .ok (.aload_n 0, 1) := by decide +kernel
theorem dX5_replace_131 : decode cX5_replace 131 = .ok (.getfield 61, 3) := by decide +kernel
theorem dX5_replace_134 : decode cX5_replace 134 = .ok (.iload 7, 2) := by decide +kernel
theorem dX5_replace_136 : decode cX5_replace 136 = .ok (.iaload, 1) := by decide +kernel
theorem dX5_replace_137 : decode cX5_replace 137 = .ok (.if_icmp .ge 35, 3) := by decide +kernel
theorem dX5_replace_140 : decode cX5_replace 140 = .ok (.aload_n 0, 1) := by decide +kernel
theorem dX5_replace_141 : decode cX5_replace 141 = .ok (.getfield 122, 3) := by decide +kernel
theorem dX5_replace_144 : decode cX5_replace 144 = .ok (.bipush 16, 2) := by decide +kernel
theorem dX5_replace_146 : decode cX5_replace 146 = .ok (.iload 6, 2) := by decide +kernel
theorem dX5_replace_148 : decode cX5_replace 148 = .ok (.imul, 1) := by decide +kernel
theorem dX5_replace_149 : decode cX5_replace 149 = .ok (.iload 8, 2) := by decide +kernel
theorem dX5_replace_151 : decode cX5_replace 151 = .ok (.iadd, 1) := by decide +kernel
theorem dX5_replace_152 : decode cX5_replace 152 = .ok (.aload_n 0, 1) := by decide +kernel
theorem dX5_replace_153 : decode cX5_replace 153 = .ok (.getfield 77, 3) := by decide +kernel
theorem dX5_replace_156 : decode cX5_replace 156 = .ok (.bipush 16, 2) := by decide +kernel
theorem dX5_replace_158 : decode cX5_replace 158 = .ok (.iload 7, 2) := by decide +kernel
theorem dX5_replace_160 : decode cX5_replace 160 = .ok (.imul, 1) := by decide +kernel
theorem dX5_replace_161 : decode cX5_replace 161 = .ok (.iload 8, 2) := by decide +kernel
theorem dX5_replace_163 : decode cX5_replace 163 = .ok (.iadd, 1) := by decide +kernel
theorem dX5_replace_164 : decode cX5_replace 164 = .ok (.laload, 1) := by decide +kernel
theorem dX5_replace_165 : decode cX5_replace 165 = .ok (.lastore, 1) := by decide +kernel
theorem dX5_replace_166 : decode cX5_replace 166 = .ok (.iinc 8 1, 3) := by decide +kernel
theorem dX5_replace_169 : decode cX5_replace 169 = .ok (.goto (-41), 3) := by decide +kernel
theorem dX5_replace_172 : decode cX5_replace 172 = .ok (.iconst 0, 1) := by decide +kernel
theorem dX5_replace_173 : decode cX5_replace 173 = .ok (.istore 8, 2) := by decide +kernel
theorem dX5_replace_175 : decode cX5_replace 175 = .ok (.iload 8, 2) := by decide +kernel
theorem dX5_replace_177 : decode cX5_replace 177 = .ok (.aload_n 0, 1) := by decide +kernel
theorem dX5_replace_178 : decode cX5_replace 178 = .ok (.getfield 55, 3) := by decide +kernel
theorem dX5_replace_181 : decode cX5_replace 181 = .ok (.iload 7, 2) := by decide +kernel
theorem dX5_replace_183 : decode cX5_replace 183 = .ok (.iaload, 1) := by decide +kernel
theorem dX5_replace_184 : decode cX5_replace 184 = .ok (.if_icmp .ge 56, 3) := by decide +kernel
theorem dX5_replace_187 : decode cX5_replace 187 = .ok (.aload_n 0, 1) := by decide +kernel
theorem dX5_replace_188 : decode cX5_replace 188 = .ok (.getfield 118, 3) := by decide +kernel
theorem dX5_replace_191 : decode cX5_replace 191 = .ok (.iload 5, 2) := by decide +kernel
theorem dX5_replace_193 : decode cX5_replace 193 = .ok (.aload_n 0, 1) := by decide +kernel
theorem dX5_replace_194 : decode cX5_replace 194 = .ok (.getfield 73, 3) := by decide +kernel
theorem dX5_replace_197 : decode cX5_replace 197 = .ok (.aload_n 0, 1) := by decide +kernel
theorem dX5_replace_198 : decode cX5_replace 198 = .ok (.getfield 52, 3) := by decide +kernel
theorem dX5_replace_201 : decode cX5_replace 201 = .ok (.iload 7, 2) := by decide +kernel
theorem dX5_replace_203 : decode cX5_replace 203 = .ok (.iaload, 1) := by decide +kernel
theorem dX5_replace_204 : decode cX5_replace 204 = .ok (.iload 8, 2) := by decide +kernel
theorem dX5_replace_206 : decode cX5_replace 206 = .ok (.iadd, 1) := by decide +kernel
theorem dX5_replace_207 : decode cX5_replace 207 = .ok (.laload, 1) := by decide +kernel
theorem dX5_replace_208 : decode cX5_replace 208 = .ok (.lastore, 1) := by decide +kernel
theorem dX5_replace_209 : decode cX5_replace 209 = .ok (.aload_n 0, 1) := by decide +kernel
theorem dX5_replace_210 : decode cX5_replace 210 = .ok (.getfield 125, 3) := by decide +kernel
theorem dX5_replace_213 : decode cX5_replace 213 = .ok (.iload 5, 2) := by decide +kernel
theorem dX5_replace_215 : decode cX5_replace 215 = .ok (.aload_n 0, 1) := by decide +kernel
theorem dX5_replace_216 : decode cX5_replace 216 = .ok (.getfield 80, 3) := by decide +kernel
theorem dX5_replace_219 : decode cX5_replace 219 = .ok (.aload_n 0, 1) := by decide +kernel
theorem dX5_replace_220 : decode cX5_replace 220 = .ok (.getfield 52, 3) := by decide +kernel
theorem dX5_replace_223 : decode cX5_replace 223 = .ok (.iload 7, 2) := by decide +kernel
theorem dX5_replace_225 : decode cX5_replace 225 = .ok (.iaload, 1) := by decide +kernel
theorem dX5_replace_226 : decode cX5_replace 226 = .ok (.iload 8, 2) := by decide +kernel
theorem dX5_replace_228 : decode cX5_replace 228 = .ok (.iadd, 1) := by decide +kernel
theorem dX5_replace_229 : decode cX5_replace 229 = .ok (.baload, 1) := by decide +kernel
theorem dX5_replace_230 : decode cX5_replace 230 = .ok (.bastore, 1) := by decide +kernel
theorem dX5_replace_231 : decode cX5_replace 231 = .ok (.iinc 5 1, 3) := by decide +kernel
theorem dX5_replace_234 : decode cX5_replace 234 = .ok (.iinc 8 1, 3) := by decide +kernel
theorem dX5_replace_237 : decode cX5_replace 237 = .ok (.goto (-62), 3) := by decide +kernel
theorem dX5_replace_240 : decode cX5_replace 240 = .ok (.iinc 6 1, 3) := by decide +kernel
theorem dX5_replace_243 : decode cX5_replace 243 = .ok (.goto (-229), 3) := by decide +kernel
theorem dX5_replace_246 : decode cX5_replace 246 = .ok (.iload_n 1, 1) := by decide +kernel
theorem dX5_replace_247 : decode cX5_replace 247 = .ok (.ifCond .ne 7, 3) := by decide +kernel
theorem dX5_replace_250 : decode cX5_replace 250 = .ok (.iconst 0, 1) := by decide +kernel
theorem dX5_replace_251 : decode cX5_replace 251 = .ok (.goto 20, 3) := by decide +kernel
theorem dX5_replace_254 : decode cX5_replace 254 = .ok (.aload_n 0, 1) := by decide +kernel
theorem dX5_replace_255 : decode cX5_replace 255 = .ok (.getfield 52, 3) := by decide +kernel
theorem dX5_replace_258 : decode cX5_replace 258 = .ok (.iload_n 1, 1) := by decide +kernel
theorem dX5_replace_259 : decode cX5_replace 259 = .ok (.iconst 1, 1) := by decide +kernel
theorem dX5_replace_260 : decode cX5_replace 260 = .ok (.isub, 1) := by decide +kernel
theorem dX5_replace_261 : decode cX5_replace 261 = .ok (.iaload, 1) := by decide +kernel
theorem dX5_replace_262 : decode cX5_replace 262 = .ok (.aload_n 0, 1) := by decide +kernel
theorem dX5_replace_263 : decode cX5_replace 263 = .ok (.getfield 55, 3) := by decide +kernel
theorem dX5_replace_266 : decode cX5_replace 266 = .ok (.iload_n 1, 1) := by decide +kernel
theorem dX5_replace_267 : decode cX5_replace 267 = .ok (.iconst 1, 1) := by decide +kernel
theorem dX5_replace_268 : decode cX5_replace 268 = .ok (.isub, 1) := by decide +kernel
theorem dX5_replace_269 : decode cX5_replace 269 = .ok (.iaload, 1) := by decide +kernel
theorem dX5_replace_270 : decode cX5_replace 270 = .ok (.iadd, 1) := by decide +kernel
theorem dX5_replace_271 : decode cX5_replace 271 = .ok (.istore 6, 2) := by decide +kernel
theorem dX5_replace_273 : decode cX5_replace 273 = .ok (.aload_n 0, 1) := by decide +kernel
theorem dX5_replace_274 : decode cX5_replace 274 = .ok (.aload_n 0, 1) := by decide +kernel
theorem dX5_replace_275 : decode cX5_replace 275 = .ok (.getfield 94, 3) := by decide +kernel
theorem dX5_replace_278 : decode cX5_replace 278 = .ok (.iload_n 1, 1) := by decide +kernel
theorem dX5_replace_279 : decode cX5_replace 279 = .ok (.iload 6, 2) := by decide +kernel
theorem dX5_replace_281 : decode cX5_replace 281 = .ok (.iload_n 3, 1) := by decide +kernel
theorem dX5_replace_282 : decode cX5_replace 282 = .ok (.invokevirtual 205, 3) := by decide +kernel
theorem dX5_replace_285 : decode cX5_replace 285 = .ok (.istore 7, 2) := by decide +kernel
theorem dX5_replace_287 : decode cX5_replace 287 = .ok (.aload_n 0, 1) := by decide +kernel
theorem dX5_replace_288 : decode cX5_replace 288 = .ok (.dup, 1) := by decide +kernel
theorem dX5_replace_289 : decode cX5_replace 289 = .ok (.getfield 88, 3) := by decide +kernel
theorem dX5_replace_292 : decode cX5_replace 292 = .ok (.iload 7, 2) := by decide +kernel
theorem dX5_replace_294 : decode cX5_replace 294 = .ok (.iadd, 1) := by decide +kernel
theorem dX5_replace_295 : decode cX5_replace 295 = .ok (.putfield 88, 3) := by decide +kernel
theorem dX5_replace_298 : decode cX5_replace 298 = .ok (.iload 6, 2) := by decide +kernel
theorem dX5_replace_300 : decode cX5_replace 300 = .ok (.aload_n 0, 1) := by decide +kernel
theorem dX5_replace_301 : decode cX5_replace 301 = .ok (.getfield 94, 3) := by decide +kernel
theorem dX5_replace_304 : decode cX5_replace 304 = .ok (.iadd, 1) := by decide +kernel
theorem dX5_replace_305 : decode cX5_replace 305 = .ok (.istore 6, 2) := by decide +kernel
theorem dX5_replace_307 : decode cX5_replace 307 = .ok (.iconst 0, 1) := by decide +kernel
theorem dX5_replace_308 : decode cX5_replace 308 = .ok (.istore 5, 2) := by decide +kernel
theorem dX5_replace_310 : decode cX5_replace 310 = .ok (.iconst 0, 1) := by decide +kernel
theorem dX5_replace_311 : decode cX5_replace 311 = .ok (.istore 8, 2) := by decide +kernel
theorem dX5_replace_313 : decode cX5_replace 313 = .ok (.iload 8, 2) := by decide +kernel
theorem dX5_replace_315 : decode cX5_replace 315 = .ok (.iload 4, 2) := by decide +kernel
theorem dX5_replace_317 : decode cX5_replace 317 = .ok (.if_icmp .ge 227, 3) := by decide +kernel
theorem dX5_replace_320 : decode cX5_replace 320 = .ok (.iload_n 1, 1) := by decide +kernel
theorem dX5_replace_321 : decode cX5_replace 321 = .ok (.iload 7, 2) := by decide +kernel
theorem dX5_replace_323 : decode cX5_replace 323 = .ok (.iadd, 1) := by decide +kernel
theorem dX5_replace_324 : decode cX5_replace 324 = .ok (.iload 8, 2) := by decide +kernel
theorem dX5_replace_326 : decode cX5_replace 326 = .ok (.iadd, 1) := by decide +kernel
theorem dX5_replace_327 : decode cX5_replace 327 = .ok (.istore 9, 2) := by decide +kernel
theorem dX5_replace_329 : decode cX5_replace 329 = .ok (.aload_n 0, 1) := by decide +kernel
theorem dX5_replace_330 : decode cX5_replace 330 = .ok (.getfield 49, 3) := by decide +kernel
theorem dX5_replace_333 : decode cX5_replace 333 = .ok (.iload 9, 2) := by decide +kernel
theorem dX5_replace_335 : decode cX5_replace 335 = .ok (.aload_n 0, 1) := by decide +kernel
theorem dX5_replace_336 : decode cX5_replace 336 = .ok (.getfield 97, 3) := by decide +kernel
theorem dX5_replace_339 : decode cX5_replace 339 = .ok (.iload 8, 2) := by decide +kernel
theorem dX5_replace_341 : decode cX5_replace 341 = .ok (.iaload, 1) := by decide +kernel
theorem dX5_replace_342 : decode cX5_replace 342 = .ok (.iastore, 1) := by decide +kernel
theorem dX5_replace_343 : decode cX5_replace 343 = .ok (.aload_n 0, 1) := by decide +kernel
theorem dX5_replace_344 : decode cX5_replace 344 = .ok (.getfield 55, 3) := by decide +kernel
theorem dX5_replace_347 : decode cX5_replace 347 = .ok (.iload 9, 2) := by decide +kernel
theorem dX5_replace_349 : decode cX5_replace 349 = .ok (.aload_n 0, 1) := by decide +kernel
theorem dX5_replace_350 : decode cX5_replace 350 = .ok (.getfield 100, 3) := by decide +kernel
theorem dX5_replace_353 : decode cX5_replace 353 = .ok (.iload 8, 2) := by decide +kernel
theorem dX5_replace_355 : decode cX5_replace 355 = .ok (.iaload, 1) := by decide +kernel
theorem dX5_replace_356 : decode cX5_replace 356 = .ok (.iastore, 1) := by decide +kernel
theorem dX5_replace_357 : decode cX5_replace 357 = .ok (.aload_n 0, 1) := by decide +kernel
theorem dX5_replace_358 : decode cX5_replace 358 = .ok (.getfield 58, 3) := by decide +kernel
theorem dX5_replace_361 : decode cX5_replace 361 = .ok (.iload 9, 2) := by decide +kernel
theorem dX5_replace_363 : decode cX5_replace 363 = .ok (.aload_n 0, 1) := by decide +kernel
theorem dX5_replace_364 : decode cX5_replace 364 = .ok (.getfield 103, 3) := by decide +kernel
theorem dX5_replace_367 : decode cX5_replace 367 = .ok (.iload 8, 2) := by decide +kernel
theorem dX5_replace_369 : decode cX5_replace 369 = .ok (.iaload, 1) := by decide +kernel
theorem dX5_replace_370 : decode cX5_replace 370 = .ok (.iastore, 1) := by decide +kernel
theorem dX5_replace_371 : decode cX5_replace 371 = .ok (.aload_n 0, 1) := by decide +kernel
theorem dX5_replace_372 : decode cX5_replace 372 = .ok (.getfield 61, 3) := by decide +kernel
theorem dX5_replace_375 : decode cX5_replace 375 = .ok (.iload 9, 2) := by decide +kernel
theorem dX5_replace_377 : decode cX5_replace 377 = .ok (.aload_n 0, 1) := by decide +kernel
theorem dX5_replace_378 : decode cX5_replace 378 = .ok (.getfield 106, 3) := by decide +kernel
theorem dX5_replace_381 : decode cX5_replace 381 = .ok (.iload 8, 2) := by decide +kernel
theorem dX5_replace_383 : decode cX5_replace 383 = .ok (.iaload, 1) := by decide +kernel
theorem dX5_replace_384 : decode cX5_replace 384 = .ok (.iastore, 1) := by decide +kernel
theorem dX5_replace_385 : decode cX5_replace 385 = .ok (.aload_n 0, 1) := by decide +kernel
theorem dX5_replace_386 : decode cX5_replace 386 = .ok (.getfield 64, 3) := by decide +kernel
theorem dX5_replace_389 : decode cX5_replace 389 = .ok (.iload 9, 2) := by decide +kernel
theorem dX5_replace_391 : decode cX5_replace 391 = .ok (.aload_n 0, 1) := by decide +kernel
theorem dX5_replace_392 : decode cX5_replace 392 = .ok (.getfield 109, 3) := by decide +kernel
theorem dX5_replace_395 : decode cX5_replace 395 = .ok (.iload 8, 2) := by decide +kernel
theorem dX5_replace_397 : decode cX5_replace 397 = .ok (.laload, 1) := by decide +kernel
theorem dX5_replace_398 : decode cX5_replace 398 = .ok (.lastore, 1) := by decide +kernel
theorem dX5_replace_399 : decode cX5_replace 399 = .ok (.aload_n 0, 1) := by decide +kernel
theorem dX5_replace_400 : decode cX5_replace 400 = .ok (.getfield 67, 3) := by decide +kernel
theorem dX5_replace_403 : decode cX5_replace 403 = .ok (.iload 9, 2) := by decide +kernel
theorem dX5_replace_405 : decode cX5_replace 405 = .ok (.aload_n 0, 1) := by decide +kernel
theorem dX5_replace_406 : decode cX5_replace 406 = .ok (.getfield 112, 3) := by decide +kernel
theorem dX5_replace_409 : decode cX5_replace 409 = .ok (.iload 8, 2) := by decide +kernel
theorem dX5_replace_411 : decode cX5_replace 411 = .ok (.laload, 1) := by decide +kernel
theorem dX5_replace_412 : decode cX5_replace 412 = .ok (.lastore, 1) := by decide +kernel
theorem dX5_replace_413 : decode cX5_replace 413 = .ok (.aload_n 0, 1) := by decide +kernel
theorem dX5_replace_414 : decode cX5_replace 414 = .ok (.getfield 70, 3) := by decide +kernel
theorem dX5_replace_417 : decode cX5_replace 417 = .ok (.iload 9, 2) := by decide +kernel
theorem dX5_replace_419 : decode cX5_replace 419 = .ok (.aload_n 0, 1) := by decide +kernel
theorem dX5_replace_420 : decode cX5_replace 420 = .ok (.getfield 115, 3) := by decide +kernel
theorem dX5_replace_423 : decode cX5_replace 423 = .ok (.iload 8, 2) := by decide +kernel
theorem dX5_replace_425 : decode cX5_replace 425 = .ok (.laload, 1) := by decide +kernel
theorem dX5_replace_426 : decode cX5_replace 426 = .ok (.lastore, 1) := by decide +kernel
theorem dX5_replace_427 : decode cX5_replace 427 = .ok (.aload_n 0, 1) := by decide +kernel
theorem dX5_replace_428 : decode cX5_replace 428 = .ok (.getfield 52, 3) := by decide +kernel
theorem dX5_replace_431 : decode cX5_replace 431 = .ok (.iload 9, 2) := by decide +kernel
theorem dX5_replace_433 : decode cX5_replace 433 = .ok (.iload 6, 2) := by decide +kernel
theorem dX5_replace_435 : decode cX5_replace 435 = .ok (.iastore, 1) := by decide +kernel
theorem dX5_replace_436 : decode cX5_replace 436 = .ok (.iconst 0, 1) := by decide +kernel
theorem dX5_replace_437 : decode cX5_replace 437 = .ok (.istore 10, 2) := by decide +kernel
theorem dX5_replace_439 : decode cX5_replace 439 = .ok (.iload 10, 2) := by decide +kernel
theorem dX5_replace_441 : decode cX5_replace 441 = .ok (.aload_n 0, 1) := by decide +kernel
theorem dX5_replace_442 : decode cX5_replace 442 = .ok (.getfield 61, 3) := by decide +kernel
theorem dX5_replace_445 : decode cX5_replace 445 = .ok (.iload 9, 2) := by decide +kernel
theorem dX5_replace_447 : decode cX5_replace 447 = .ok (.iaload, 1) := by decide +kernel
theorem dX5_replace_448 : decode cX5_replace 448 = .ok (.if_icmp .ge 35, 3) := by decide +kernel
theorem dX5_replace_451 : decode cX5_replace 451 = .ok (.aload_n 0, 1) := by decide +kernel
theorem dX5_replace_452 : decode cX5_replace 452 = .ok (.getfield 77, 3) := by decide +kernel
theorem dX5_replace_455 : decode cX5_replace 455 = .ok (.bipush 16, 2) := by decide +kernel
theorem dX5_replace_457 : decode cX5_replace 457 = .ok (.iload 9, 2) := by decide +kernel
theorem dX5_replace_459 : decode cX5_replace 459 = .ok (.imul, 1) := by decide +kernel
theorem dX5_replace_460 : decode cX5_replace 460 = .ok (.iload 10, 2) := by decide +kernel
theorem dX5_replace_462 : decode cX5_replace 462 = .ok (.iadd, 1) := by decide +kernel
theorem dX5_replace_463 : decode cX5_replace 463 = .ok (.aload_n 0, 1) := by decide +kernel
theorem dX5_replace_464 : decode cX5_replace 464 = .ok (.getfield 122, 3) := by decide +kernel
theorem dX5_replace_467 : decode cX5_replace 467 = .ok (.bipush 16, 2) := by decide +kernel
theorem dX5_replace_469 : decode cX5_replace 469 = .ok (.iload 8, 2) := by decide +kernel
theorem dX5_replace_471 : decode cX5_replace 471 = .ok (.imul, 1) := by decide +kernel
theorem dX5_replace_472 : decode cX5_replace 472 = .ok (.iload 10, 2) := by decide +kernel
theorem dX5_replace_474 : decode cX5_replace 474 = .ok (.iadd, 1) := by decide +kernel
theorem dX5_replace_475 : decode cX5_replace 475 = .ok (.laload, 1) := by decide +kernel
theorem dX5_replace_476 : decode cX5_replace 476 = .ok (.lastore, 1) := by decide +kernel
theorem dX5_replace_477 : decode cX5_replace 477 = .ok (.iinc 10 1, 3) := by decide +kernel
theorem dX5_replace_480 : decode cX5_replace 480 = .ok (.goto (-41), 3) := by decide +kernel
theorem dX5_replace_483 : decode cX5_replace 483 = .ok (.iconst 0, 1) := by decide +kernel
theorem dX5_replace_484 : decode cX5_replace 484 = .ok (.istore 10, 2) := by decide +kernel
theorem dX5_replace_486 : decode cX5_replace 486 = .ok (.iload 10, 2) := by decide +kernel
theorem dX5_replace_488 : decode cX5_replace 488 = .ok (.aload_n 0, 1) := by decide +kernel
theorem dX5_replace_489 : decode cX5_replace 489 = .ok (.getfield 55, 3) := by decide +kernel
theorem dX5_replace_492 : decode cX5_replace 492 = .ok (.iload 9, 2) := by decide +kernel
theorem dX5_replace_494 : decode cX5_replace 494 = .ok (.iaload, 1) := by decide +kernel
theorem dX5_replace_495 : decode cX5_replace 495 = .ok (.if_icmp .ge 43, 3) := by decide +kernel
theorem dX5_replace_498 : decode cX5_replace 498 = .ok (.aload_n 0, 1) := by decide +kernel
theorem dX5_replace_499 : decode cX5_replace 499 = .ok (.getfield 73, 3) := by decide +kernel
theorem dX5_replace_502 : decode cX5_replace 502 = .ok (.iload 6, 2) := by decide +kernel
theorem dX5_replace_504 : decode cX5_replace 504 = .ok (.aload_n 0, 1) := by decide +kernel
theorem dX5_replace_505 : decode cX5_replace 505 = .ok (.getfield 118, 3) := by decide +kernel
theorem dX5_replace_508 : decode cX5_replace 508 = .ok (.iload 5, 2) := by decide +kernel
theorem dX5_replace_510 : decode cX5_replace 510 = .ok (.laload, 1) := by decide +kernel
theorem dX5_replace_511 : decode cX5_replace 511 = .ok (.lastore, 1) := by decide +kernel
theorem dX5_replace_512 : decode cX5_replace 512 = .ok (.aload_n 0, 1) := by decide +kernel
theorem dX5_replace_513 : decode cX5_replace 513 = .ok (.getfield 80, 3) := by decide +kernel
theorem dX5_replace_516 : decode cX5_replace 516 = .ok (.iload 6, 2) := by decide +kernel
theorem dX5_replace_518 : decode cX5_replace 518 = .ok (.aload_n 0, 1) := by decide +kernel
theorem dX5_replace_519 : decode cX5_replace 519 = .ok (.getfield 125, 3) := by decide +kernel
theorem dX5_replace_522 : decode cX5_replace 522 = .ok (.iload 5, 2) := by decide +kernel
theorem dX5_replace_524 : decode cX5_replace 524 = .ok (.baload, 1) := by decide +kernel
theorem dX5_replace_525 : decode cX5_replace 525 = .ok (.bastore, 1) := by decide +kernel
theorem dX5_replace_526 : decode cX5_replace 526 = .ok (.iinc 6 1, 3) := by decide +kernel
theorem dX5_replace_529 : decode cX5_replace 529 = .ok (.iinc 5 1, 3) := by decide +kernel
theorem dX5_replace_532 : decode cX5_replace 532 = .ok (.iinc 10 1, 3) := by decide +kernel
theorem dX5_replace_535 : decode cX5_replace 535 = .ok (.goto (-49), 3) := by decide +kernel
theorem dX5_replace_538 : decode cX5_replace 538 = .ok (.iinc 8 1, 3) := by decide +kernel
theorem dX5_replace_541 : decode cX5_replace 541 = .ok (.goto (-228), 3) := by decide +kernel
theorem dX5_replace_544 : decode cX5_replace 544 = .ok (.aload_n 0, 1) := by decide +kernel
theorem dX5_replace_545 : decode cX5_replace 545 = .ok (.getfield 42, 3) := by decide +kernel
theorem dX5_replace_548 : decode cX5_replace 548 = .ok (.iconst 0, 1) := by decide +kernel
theorem dX5_replace_549 : decode cX5_replace 549 = .ok (.iconst 0, 1) := by decide +kernel
theorem dX5_replace_550 : decode cX5_replace 550 = .ok (.iastore, 1) := by decide +kernel
theorem dX5_replace_551 : decode cX5_replace 551 = .ok (.aload_n 0, 1) := by decide +kernel
theorem dX5_replace_552 : decode cX5_replace 552 = .ok (.getfield 46, 3) := by decide +kernel
theorem dX5_replace_555 : decode cX5_replace 555 = .ok (.iconst 0, 1) := by decide +kernel
theorem dX5_replace_556 : decode cX5_replace 556 = .ok (.iload_n 1, 1) := by decide +kernel
theorem dX5_replace_557 : decode cX5_replace 557 = .ok (.iload 7, 2) := by decide +kernel
theorem dX5_replace_559 : decode cX5_replace 559 = .ok (.iadd, 1) := by decide +kernel
theorem dX5_replace_560 : decode cX5_replace 560 = .ok (.iload 4, 2) := by decide +kernel
theorem dX5_replace_562 : decode cX5_replace 562 = .ok (.iadd, 1) := by decide +kernel
theorem dX5_replace_563 : decode cX5_replace 563 = .ok (.iastore, 1) := by decide +kernel
theorem dX5_replace_564 : decode cX5_replace 564 = .ok (.aload_n 0, 1) := by decide +kernel
theorem dX5_replace_565 : decode cX5_replace 565 = .ok (.aload_n 0, 1) := by decide +kernel
theorem dX5_replace_566 : decode cX5_replace 566 = .ok (.invokevirtual 213, 3) := by decide +kernel
theorem dX5_replace_569 : decode cX5_replace 569 = .ok (.ifCond .le 7, 3) := by decide +kernel
theorem dX5_replace_572 : decode cX5_replace 572 = .ok (.iconst 1, 1) := by decide +kernel
theorem dX5_replace_573 : decode cX5_replace 573 = .ok (.goto 4, 3) := by decide +kernel
theorem dX5_replace_576 : decode cX5_replace 576 = .ok (.iconst 0, 1) := by decide +kernel
theorem dX5_replace_577 : decode cX5_replace 577 = .ok (.putfield 84, 3) := by decide +kernel
theorem dX5_replace_580 : decode cX5_replace 580 = .ok (.aload_n 0, 1) := by decide +kernel
theorem dX5_replace_581 : decode cX5_replace 581 = .ok (.getfield 84, 3) := by decide +kernel
theorem dX5_replace_584 : decode cX5_replace 584 = .ok (.ifCond .eq 10, 3) := by decide +kernel
theorem dX5_replace_587 : decode cX5_replace 587 = .ok (.aload_n 0, 1) := by decide +kernel
theorem dX5_replace_588 : decode cX5_replace 588 = .ok (.invokevirtual 217, 3) := by decide +kernel
theorem dX5_replace_591 : decode cX5_replace 591 = .ok (.goto 8, 3) := by decide +kernel
theorem dX5_replace_594 : decode cX5_replace 594 = .ok (.aload_n 0, 1) := by decide +kernel
theorem dX5_replace_595 : decode cX5_replace 595 = .ok (.iconst 0, 1) := by decide +kernel
theorem dX5_replace_596 : decode cX5_replace 596 = .ok (.putfield 39, 3) := by decide +kernel
theorem dX5_replace_599 : decode cX5_replace 599 = .ok (.return_, 1) := by decide +kernel
theorem dX5_there_0 : decode cX5_there 0 = .ok (.iconst 0, 1) := by decide +kernel
theorem dX5_there_1 : decode cX5_there 1 = .ok (.istore_n 1, 1) := by decide +kernel
theorem dX5_there_2 : decode cX5_there 2 = .ok (.iconst 0, 1) := by decide +kernel
theorem dX5_there_3 : decode cX5_there 3 = .ok (.istore_n 2, 1) := by decide +kernel
theorem dX5_there_4 : decode cX5_there 4 = .ok (.iload_n 2, 1) := by decide +kernel
theorem dX5_there_5 : decode cX5_there 5 = .ok (.aload_n 0, 1) := by decide +kernel
theorem dX5_there_6 : decode cX5_there 6 = .ok (.getfield 84, 3) := by decide +kernel
theorem dX5_there_9 : decode cX5_there 9 = .ok (.ifCond .eq 10, 3) := by decide +kernel
theorem dX5_there_12 : decode cX5_there 12 = .ok (.aload_n 0, 1) := by decide +kernel
theorem dX5_there_13 : decode cX5_there 13 = .ok (.invokevirtual 213, 3) := by decide +kernel
theorem dX5_there_16 : decode cX5_there 16 = .ok (.goto 4, 3) := by decide +kernel
theorem dX5_there_19 : decode cX5_there 19 = .ok (.iconst 0, 1) := by decide +kernel
theorem dX5_there_20 : decode cX5_there 20 = .ok (.if_icmp .ge 53, 3) := by decide +kernel
theorem dX5_there_23 : decode cX5_there 23 = .ok (.iload_n 1, 1) := by decide +kernel
theorem dX5_there_24 : decode cX5_there 24 = .ok (.aload_n 0, 1) := by decide +kernel
theorem dX5_there_25 : decode cX5_there 25 = .ok (.getfield 61, 3) := by decide +kernel
theorem dX5_there_28 : decode cX5_there 28 = .ok (.iload_n 2, 1) := by decide +kernel
theorem dX5_there_29 : decode cX5_there 29 = .ok (.iaload, 1) := by decide +kernel
theorem dX5_there_30 : decode cX5_there 30 = .ok (.iadd, 1) := by decide +kernel
theorem dX5_there_31 : decode cX5_there 31 = .ok (.istore_n 1, 1) := by decide +kernel
theorem dX5_there_32 : decode cX5_there 32 = .ok (.iconst 0, 1) := by decide +kernel
theorem dX5_there_33 : decode cX5_there 33 = .ok (.istore_n 3, 1) := by decide +kernel
theorem dX5_there_34 : decode cX5_there 34 = .ok (.iload_n 3, 1) := by decide +kernel
theorem dX5_there_35 : decode cX5_there 35 = .ok (.aload_n 0, 1) := by decide +kernel
theorem dX5_there_36 : decode cX5_there 36 = .ok (.getfield 55, 3) := by decide +kernel
theorem dX5_there_39 : decode cX5_there 39 = .ok (.iload_n 2, 1) := by decide +kernel
theorem dX5_there_40 : decode cX5_there 40 = .ok (.iaload, 1) := by decide +kernel
theorem dX5_there_41 : decode cX5_there 41 = .ok (.if_icmp .ge 26, 3) := by decide +kernel
theorem dX5_there_44 : decode cX5_there 44 = .ok (.iload_n 1, 1) := by decide +kernel
theorem dX5_there_45 : decode cX5_there 45 = .ok (.aload_n 0, 1) := by decide +kernel
theorem dX5_there_46 : decode cX5_there 46 = .ok (.iload_n 2, 1) := by decide +kernel
theorem dX5_there_47 : decode cX5_there 47 = .ok (.iload_n 3, 1) := by decide +kernel
theorem dX5_there_48 : decode cX5_there 48 = .ok (.invokevirtual 209, 3) := by decide +kernel
theorem dX5_there_51 : decode cX5_there 51 = .ok (.ifCond .eq 7, 3) := by decide +kernel
theorem dX5_there_54 : decode cX5_there 54 = .ok (.iconst 1, 1) := by decide +kernel
theorem dX5_there_55 : decode cX5_there 55 = .ok (.goto 4, 3) := by decide +kernel
theorem dX5_there_58 : decode cX5_there 58 = .ok (.iconst 0, 1) := by decide +kernel
theorem dX5_there_59 : decode cX5_there 59 = .ok (.iadd, 1) := by decide +kernel
theorem dX5_there_60 : decode cX5_there 60 = .ok (.istore_n 1, 1) := by decide +kernel
theorem dX5_there_61 : decode cX5_there 61 = .ok (.iinc 3 1, 3) := by decide +kernel
theorem dX5_there_64 : decode cX5_there 64 = .ok (.goto (-30), 3) := by decide +kernel
theorem dX5_there_67 : decode cX5_there 67 = .ok (.iinc 2 1, 3) := by decide +kernel
theorem dX5_there_70 : decode cX5_there 70 = .ok (.goto (-66), 3) := by decide +kernel
theorem dX5_there_73 : decode cX5_there 73 = .ok (.iload_n 1, 1) := by decide +kernel
theorem dX5_there_74 : decode cX5_there 74 = .ok (.ireturn, 1) := by decide +kernel
theorem dX5_isBuilt_0 : decode cX5_isBuilt 0 = .ok (.iload_n 1, 1) := by decide +kernel
theorem dX5_isBuilt_1 : decode cX5_isBuilt 1 = .ok (.iconst 1, 1) := by decide +kernel
theorem dX5_isBuilt_2 : decode cX5_isBuilt 2 = .ok (.if_icmp .eq 15, 3) := by decide +kernel
theorem dX5_isBuilt_5 : decode cX5_isBuilt 5 = .ok (.iload_n 1, 1) := by decide +kernel
theorem dX5_isBuilt_6 : decode cX5_isBuilt 6 = .ok (.iconst 2, 1) := by decide +kernel
theorem dX5_isBuilt_7 : decode cX5_isBuilt 7 = .ok (.if_icmp .ne 14, 3) := by decide +kernel
theorem dX5_isBuilt_10 : decode cX5_isBuilt 10 = .ok (.aload_n 0, 1) := by decide +kernel
theorem dX5_isBuilt_11 : decode cX5_isBuilt 11 = .ok (.getfield 17, 3) := by decide +kernel
theorem dX5_isBuilt_14 : decode cX5_isBuilt 14 = .ok (.ifCond .le 7, 3) := by decide +kernel
theorem dX5_isBuilt_17 : decode cX5_isBuilt 17 = .ok (.iconst 1, 1) := by decide +kernel
theorem dX5_isBuilt_18 : decode cX5_isBuilt 18 = .ok (.goto 4, 3) := by decide +kernel
theorem dX5_isBuilt_21 : decode cX5_isBuilt 21 = .ok (.iconst 0, 1) := by decide +kernel
theorem dX5_isBuilt_22 : decode cX5_isBuilt 22 = .ok (.ireturn, 1) := by decide +kernel
theorem dX5_build_0 : decode cX5_build 0 = .ok (.aload_n 0, 1) := by decide +kernel
theorem dX5_build_1 : decode cX5_build 1 = .ok (.iload_n 1, 1) := by decide +kernel
theorem dX5_build_2 : decode cX5_build 2 = .ok (.invokevirtual 220, 3) := by decide +kernel
theorem dX5_build_5 : decode cX5_build 5 = .ok (.ifCond .eq 10, 3) := by decide +kernel
theorem dX5_build_8 : decode cX5_build 8 = .ok (.aload_n 0, 1) := by decide +kernel
theorem dX5_build_9 : decode cX5_build 9 = .ok (.getfield 13, 3) := by decide +kernel
theorem dX5_build_12 : decode cX5_build 12 = .ok (.ifCond .ne 6, 3) := by decide +kernel
theorem dX5_build_15 : decode cX5_build 15 = .ok (.bipush (-2), 2) := by decide +kernel
theorem dX5_build_17 : decode cX5_build 17 = .ok (.ireturn, 1) := by decide +kernel
theorem dX5_build_18 : decode cX5_build 18 = .ok (.aload_n 0, 1) := by decide +kernel
theorem dX5_build_19 : decode cX5_build 19 = .ok (.invokevirtual 178, 3) := by decide +kernel
theorem dX5_build_22 : decode cX5_build 22 = .ok (.aload_n 0, 1) := by decide +kernel
theorem dX5_build_23 : decode cX5_build 23 = .ok (.aload_n 0, 1) := by decide +kernel
theorem dX5_build_24 : decode cX5_build 24 = .ok (.getfield 13, 3) := by decide +kernel
theorem dX5_build_27 : decode cX5_build 27 = .ok (.putfield 94, 3) := by decide +kernel
theorem dX5_build_30 : decode cX5_build 30 = .ok (.aload_n 0, 1) := by decide +kernel
theorem dX5_build_31 : decode cX5_build 31 = .ok (.getfield 46, 3) := by decide +kernel
theorem dX5_build_34 : decode cX5_build 34 = .ok (.iconst 0, 1) := by decide +kernel
theorem dX5_build_35 : decode cX5_build 35 = .ok (.iconst 0, 1) := by decide +kernel
theorem dX5_build_36 : decode cX5_build 36 = .ok (.iastore, 1) := by decide +kernel
theorem dX5_build_37 : decode cX5_build 37 = .ok (.aload_n 0, 1) := by decide +kernel
theorem dX5_build_38 : decode cX5_build 38 = .ok (.iconst 0, 1) := by decide +kernel
theorem dX5_build_39 : decode cX5_build 39 = .ok (.iconst 0, 1) := by decide +kernel
theorem dX5_build_40 : decode cX5_build 40 = .ok (.iload_n 1, 1) := by decide +kernel
theorem dX5_build_41 : decode cX5_build 41 = .ok (.invokevirtual 224, 3) := by decide +kernel
theorem dX5_build_44 : decode cX5_build 44 = .ok (.aload_n 0, 1) := by decide +kernel
theorem dX5_build_45 : decode cX5_build 45 = .ok (.invokevirtual 213, 3) := by decide +kernel
theorem dX5_build_48 : decode cX5_build 48 = .ok (.ireturn, 1) := by decide +kernel
theorem dX5_again_0 : decode cX5_again 0 = .ok (.aload_n 0, 1) := by decide +kernel
theorem dX5_again_1 : decode cX5_again 1 = .ok (.getfield 84, 3) := by decide +kernel
theorem dX5_again_4 : decode cX5_again 4 = .ok (.ifCond .ne 5, 3) := by decide +kernel
theorem dX5_again_7 : decode cX5_again 7 = .ok (.iconst (-1), 1) := by decide +kernel
theorem dX5_again_8 : decode cX5_again 8 = .ok (.ireturn, 1) := by decide +kernel
theorem dX5_again_9 : decode cX5_again 9 = .ok (.aload_n 0, 1) := by decide +kernel
theorem dX5_again_10 : decode cX5_again 10 = .ok (.iload_n 1, 1) := by decide +kernel
theorem dX5_again_11 : decode cX5_again 11 = .ok (.invokevirtual 220, 3) := by decide +kernel
theorem dX5_again_14 : decode cX5_again 14 = .ok (.ifCond .ne 6, 3) := by decide +kernel
theorem dX5_again_17 : decode cX5_again 17 = .ok (.bipush (-2), 2) := by decide +kernel
theorem dX5_again_19 : decode cX5_again 19 = .ok (.ireturn, 1) := by decide +kernel
theorem dX5_again_20 : decode cX5_again 20 = .ok (.aload_n 0, 1) := by decide +kernel
theorem dX5_again_21 : decode cX5_again 21 = .ok (.iconst 0, 1) := by decide +kernel
theorem dX5_again_22 : decode cX5_again 22 = .ok (.putfield 94, 3) := by decide +kernel
theorem dX5_again_25 : decode cX5_again 25 = .ok (.iconst 0, 1) := by decide +kernel
theorem dX5_again_26 : decode cX5_again 26 = .ok (.istore_n 2, 1) := by decide +kernel
theorem dX5_again_27 : decode cX5_again 27 = .ok (.iload_n 2, 1) := by decide +kernel
theorem dX5_again_28 : decode cX5_again 28 = .ok (.aload_n 0, 1) := by decide +kernel
theorem dX5_again_29 : decode cX5_again 29 = .ok (.invokevirtual 213, 3) := by decide +kernel
theorem dX5_again_32 : decode cX5_again 32 = .ok (.if_icmp .ge 14, 3) := by decide +kernel
theorem dX5_again_35 : decode cX5_again 35 = .ok (.aload_n 0, 1) := by decide +kernel
theorem dX5_again_36 : decode cX5_again 36 = .ok (.iload_n 2, 1) := by decide +kernel
theorem dX5_again_37 : decode cX5_again 37 = .ok (.invokevirtual 228, 3) := by decide +kernel
theorem dX5_again_40 : decode cX5_again 40 = .ok (.iinc 2 1, 3) := by decide +kernel
theorem dX5_again_43 : decode cX5_again 43 = .ok (.goto (-16), 3) := by decide +kernel
theorem dX5_again_46 : decode cX5_again 46 = .ok (.aload_n 0, 1) := by decide +kernel
theorem dX5_again_47 : decode cX5_again 47 = .ok (.getfield 46, 3) := by decide +kernel
theorem dX5_again_50 : decode cX5_again 50 = .ok (.iconst 0, 1) := by decide +kernel
theorem dX5_again_51 : decode cX5_again 51 = .ok (.iconst 0, 1) := by decide +kernel
theorem dX5_again_52 : decode cX5_again 52 = .ok (.iastore, 1) := by decide +kernel
theorem dX5_again_53 : decode cX5_again 53 = .ok (.aload_n 0, 1) := by decide +kernel
theorem dX5_again_54 : decode cX5_again 54 = .ok (.iconst 0, 1) := by decide +kernel
theorem dX5_again_55 : decode cX5_again 55 = .ok (.iconst 0, 1) := by decide +kernel
theorem dX5_again_56 : decode cX5_again 56 = .ok (.iload_n 1, 1) := by decide +kernel
theorem dX5_again_57 : decode cX5_again 57 = .ok (.invokevirtual 224, 3) := by decide +kernel
theorem dX5_again_60 : decode cX5_again 60 = .ok (.aload_n 0, 1) := by decide +kernel
theorem dX5_again_61 : decode cX5_again 61 = .ok (.invokevirtual 213, 3) := by decide +kernel
theorem dX5_again_64 : decode cX5_again 64 = .ok (.ireturn, 1) := by decide +kernel
theorem dX5_clear_0 : decode cX5_clear 0 = .ok (.aload_n 0, 1) := by decide +kernel
theorem dX5_clear_1 : decode cX5_clear 1 = .ok (.invokevirtual 232, 3) := by decide +kernel
theorem dX5_clear_4 : decode cX5_clear 4 = .ok (.istore_n 1, 1) := by decide +kernel
theorem dX5_clear_5 : decode cX5_clear 5 = .ok (.aload_n 0, 1) := by decide +kernel
theorem dX5_clear_6 : decode cX5_clear 6 = .ok (.iconst 0, 1) := by decide +kernel
theorem dX5_clear_7 : decode cX5_clear 7 = .ok (.putfield 84, 3) := by decide +kernel
theorem dX5_clear_10 : decode cX5_clear 10 = .ok (.aload_n 0, 1) := by decide +kernel
theorem dX5_clear_11 : decode cX5_clear 11 = .ok (.iconst 0, 1) := by decide +kernel
theorem dX5_clear_12 : decode cX5_clear 12 = .ok (.putfield 39, 3) := by decide +kernel
theorem dX5_clear_15 : decode cX5_clear 15 = .ok (.aload_n 0, 1) := by decide +kernel
theorem dX5_clear_16 : decode cX5_clear 16 = .ok (.getfield 46, 3) := by decide +kernel
theorem dX5_clear_19 : decode cX5_clear 19 = .ok (.iconst 0, 1) := by decide +kernel
theorem dX5_clear_20 : decode cX5_clear 20 = .ok (.iconst 0, 1) := by decide +kernel
theorem dX5_clear_21 : decode cX5_clear 21 = .ok (.iastore, 1) := by decide +kernel
theorem dX5_clear_22 : decode cX5_clear 22 = .ok (.iload_n 1, 1) := by decide +kernel
theorem dX5_clear_23 : decode cX5_clear 23 = .ok (.ireturn, 1) := by decide +kernel
theorem dX5_round_0 : decode cX5_round 0 = .ok (.aload_n 0, 1) := by decide +kernel
theorem dX5_round_1 : decode cX5_round 1 = .ok (.getfield 84, 3) := by decide +kernel
theorem dX5_round_4 : decode cX5_round 4 = .ok (.ifCond .eq 15, 3) := by decide +kernel
theorem dX5_round_7 : decode cX5_round 7 = .ok (.iload_n 1, 1) := by decide +kernel
theorem dX5_round_8 : decode cX5_round 8 = .ok (.ifCond .lt 11, 3) := by decide +kernel
theorem dX5_round_11 : decode cX5_round 11 = .ok (.iload_n 1, 1) := by decide +kernel
theorem dX5_round_12 : decode cX5_round 12 = .ok (.aload_n 0, 1) := by decide +kernel
theorem dX5_round_13 : decode cX5_round 13 = .ok (.invokevirtual 213, 3) := by decide +kernel
theorem dX5_round_16 : decode cX5_round 16 = .ok (.if_icmp .lt 5, 3) := by decide +kernel
theorem dX5_round_19 : decode cX5_round 19 = .ok (.iconst (-1), 1) := by decide +kernel
theorem dX5_round_20 : decode cX5_round 20 = .ok (.ireturn, 1) := by decide +kernel
theorem dX5_round_21 : decode cX5_round 21 = .ok (.aload_n 0, 1) := by decide +kernel
theorem dX5_round_22 : decode cX5_round 22 = .ok (.getfield 49, 3) := by decide +kernel
theorem dX5_round_25 : decode cX5_round 25 = .ok (.iload_n 1, 1) := by decide +kernel
theorem dX5_round_26 : decode cX5_round 26 = .ok (.iaload, 1) := by decide +kernel
theorem dX5_round_27 : decode cX5_round 27 = .ok (.iconst 1, 1) := by decide +kernel
theorem dX5_round_28 : decode cX5_round 28 = .ok (.if_icmp .eq 6, 3) := by decide +kernel
theorem dX5_round_31 : decode cX5_round 31 = .ok (.bipush (-2), 2) := by decide +kernel
theorem dX5_round_33 : decode cX5_round 33 = .ok (.ireturn, 1) := by decide +kernel
theorem dX5_round_34 : decode cX5_round 34 = .ok (.aload_n 0, 1) := by decide +kernel
theorem dX5_round_35 : decode cX5_round 35 = .ok (.getfield 49, 3) := by decide +kernel
theorem dX5_round_38 : decode cX5_round 38 = .ok (.iload_n 1, 1) := by decide +kernel
theorem dX5_round_39 : decode cX5_round 39 = .ok (.iconst 2, 1) := by decide +kernel
theorem dX5_round_40 : decode cX5_round 40 = .ok (.iastore, 1) := by decide +kernel
theorem dX5_round_41 : decode cX5_round 41 = .ok (.aload_n 0, 1) := by decide +kernel
theorem dX5_round_42 : decode cX5_round 42 = .ok (.iload_n 1, 1) := by decide +kernel
theorem dX5_round_43 : decode cX5_round 43 = .ok (.invokevirtual 197, 3) := by decide +kernel
theorem dX5_round_46 : decode cX5_round 46 = .ok (.aload_n 0, 1) := by decide +kernel
theorem dX5_round_47 : decode cX5_round 47 = .ok (.getfield 58, 3) := by decide +kernel
theorem dX5_round_50 : decode cX5_round 50 = .ok (.iload_n 1, 1) := by decide +kernel
theorem dX5_round_51 : decode cX5_round 51 = .ok (.iaload, 1) := by decide +kernel
theorem dX5_round_52 : decode cX5_round 52 = .ok (.if_icmp .gt 5, 3) := by decide +kernel
theorem dX5_round_55 : decode cX5_round 55 = .ok (.iconst 1, 1) := by decide +kernel
theorem dX5_round_56 : decode cX5_round 56 = .ok (.ireturn, 1) := by decide +kernel
theorem dX5_round_57 : decode cX5_round 57 = .ok (.aload_n 0, 1) := by decide +kernel
theorem dX5_round_58 : decode cX5_round 58 = .ok (.getfield 49, 3) := by decide +kernel
theorem dX5_round_61 : decode cX5_round 61 = .ok (.iload_n 1, 1) := by decide +kernel
theorem dX5_round_62 : decode cX5_round 62 = .ok (.iconst 1, 1) := by decide +kernel
theorem dX5_round_63 : decode cX5_round 63 = .ok (.iastore, 1) := by decide +kernel
theorem dX5_round_64 : decode cX5_round 64 = .ok (.iconst 0, 1) := by decide +kernel
theorem dX5_round_65 : decode cX5_round 65 = .ok (.ireturn, 1) := by decide +kernel
theorem dX5_merge_0 : decode cX5_merge 0 = .ok (.aload_n 0, 1) := by decide +kernel
theorem dX5_merge_1 : decode cX5_merge 1 = .ok (.getfield 84, 3) := by decide +kernel
theorem dX5_merge_4 : decode cX5_merge 4 = .ok (.ifCond .eq 17, 3) := by decide +kernel
theorem dX5_merge_7 : decode cX5_merge 7 = .ok (.iload_n 1, 1) := by decide +kernel
theorem dX5_merge_8 : decode cX5_merge 8 = .ok (.ifCond .lt 13, 3) := by decide +kernel
theorem dX5_merge_11 : decode cX5_merge 11 = .ok (.iload_n 1, 1) := by decide +kernel
theorem dX5_merge_12 : decode cX5_merge 12 = .ok (.aload_n 0, 1) := by decide +kernel
theorem dX5_merge_13 : decode cX5_merge 13 = .ok (.invokevirtual 213, 3) := by decide +kernel
theorem dX5_merge_16 : decode cX5_merge 16 = .ok (.iconst 1, 1) := by decide +kernel
theorem dX5_merge_17 : decode cX5_merge 17 = .ok (.isub, 1) := by decide +kernel
theorem dX5_merge_18 : decode cX5_merge 18 = .ok (.if_icmp .lt 5, 3) := by decide +kernel
theorem dX5_merge_21 : decode cX5_merge 21 = .ok (.iconst (-1), 1) := by decide +kernel
theorem dX5_merge_22 : decode cX5_merge 22 = .ok (.ireturn, 1) := by decide +kernel
theorem dX5_merge_23 : decode cX5_merge 23 = .ok (.aload_n 0, 1) := by decide +kernel
theorem dX5_merge_24 : decode cX5_merge 24 = .ok (.iconst 0, 1) := by decide +kernel
theorem dX5_merge_25 : decode cX5_merge 25 = .ok (.putfield 94, 3) := by decide +kernel
theorem dX5_merge_28 : decode cX5_merge 28 = .ok (.aload_n 0, 1) := by decide +kernel
theorem dX5_merge_29 : decode cX5_merge 29 = .ok (.iload_n 1, 1) := by decide +kernel
theorem dX5_merge_30 : decode cX5_merge 30 = .ok (.invokevirtual 228, 3) := by decide +kernel
theorem dX5_merge_33 : decode cX5_merge 33 = .ok (.aload_n 0, 1) := by decide +kernel
theorem dX5_merge_34 : decode cX5_merge 34 = .ok (.iload_n 1, 1) := by decide +kernel
theorem dX5_merge_35 : decode cX5_merge 35 = .ok (.iconst 1, 1) := by decide +kernel
theorem dX5_merge_36 : decode cX5_merge 36 = .ok (.iadd, 1) := by decide +kernel
theorem dX5_merge_37 : decode cX5_merge 37 = .ok (.invokevirtual 228, 3) := by decide +kernel
theorem dX5_merge_40 : decode cX5_merge 40 = .ok (.aload_n 0, 1) := by decide +kernel
theorem dX5_merge_41 : decode cX5_merge 41 = .ok (.invokevirtual 213, 3) := by decide +kernel
theorem dX5_merge_44 : decode cX5_merge 44 = .ok (.iconst 2, 1) := by decide +kernel
theorem dX5_merge_45 : decode cX5_merge 45 = .ok (.isub, 1) := by decide +kernel
theorem dX5_merge_46 : decode cX5_merge 46 = .ok (.istore_n 2, 1) := by decide +kernel
theorem dX5_merge_47 : decode cX5_merge 47 = .ok (.aload_n 0, 1) := by decide +kernel
theorem dX5_merge_48 : decode cX5_merge 48 = .ok (.iload_n 1, 1) := by decide +kernel
theorem dX5_merge_49 : decode cX5_merge 49 = .ok (.iload_n 1, 1) := by decide +kernel
theorem dX5_merge_50 : decode cX5_merge 50 = .ok (.iconst 2, 1) := by decide +kernel
theorem dX5_merge_51 : decode cX5_merge 51 = .ok (.iadd, 1) := by decide +kernel
theorem dX5_merge_52 : decode cX5_merge 52 = .ok (.iconst 1, 1) := by decide +kernel
theorem dX5_merge_53 : decode cX5_merge 53 = .ok (.invokevirtual 224, 3) := by decide +kernel
theorem dX5_merge_56 : decode cX5_merge 56 = .ok (.aload_n 0, 1) := by decide +kernel
theorem dX5_merge_57 : decode cX5_merge 57 = .ok (.invokevirtual 213, 3) := by decide +kernel
theorem dX5_merge_60 : decode cX5_merge 60 = .ok (.iload_n 2, 1) := by decide +kernel
theorem dX5_merge_61 : decode cX5_merge 61 = .ok (.isub, 1) := by decide +kernel
theorem dX5_merge_62 : decode cX5_merge 62 = .ok (.ireturn, 1) := by decide +kernel
theorem dX5_guessOf_0 : decode cX5_guessOf 0 = .ok (.aload_n 0, 1) := by decide +kernel
theorem dX5_guessOf_1 : decode cX5_guessOf 1 = .ok (.getfield 55, 3) := by decide +kernel
theorem dX5_guessOf_4 : decode cX5_guessOf 4 = .ok (.iload_n 1, 1) := by decide +kernel
theorem dX5_guessOf_5 : decode cX5_guessOf 5 = .ok (.iaload, 1) := by decide +kernel
theorem dX5_guessOf_6 : decode cX5_guessOf 6 = .ok (.iconst 1, 1) := by decide +kernel
theorem dX5_guessOf_7 : decode cX5_guessOf 7 = .ok (.isub, 1) := by decide +kernel
theorem dX5_guessOf_8 : decode cX5_guessOf 8 = .ok (.istore 4, 2) := by decide +kernel
theorem dX5_guessOf_10 : decode cX5_guessOf 10 = .ok (.aload_n 0, 1) := by decide +kernel
theorem dX5_guessOf_11 : decode cX5_guessOf 11 = .ok (.getfield 49, 3) := by decide +kernel
theorem dX5_guessOf_14 : decode cX5_guessOf 14 = .ok (.iload_n 1, 1) := by decide +kernel
theorem dX5_guessOf_15 : decode cX5_guessOf 15 = .ok (.iaload, 1) := by decide +kernel
theorem dX5_guessOf_16 : decode cX5_guessOf 16 = .ok (.ifCond .ne 5, 3) := by decide +kernel
theorem dX5_guessOf_19 : decode cX5_guessOf 19 = .ok (.iconst 0, 1) := by decide +kernel
theorem dX5_guessOf_20 : decode cX5_guessOf 20 = .ok (.ireturn, 1) := by decide +kernel
theorem dX5_guessOf_21 : decode cX5_guessOf 21 = .ok (.aload_n 0, 1) := by decide +kernel
theorem dX5_guessOf_22 : decode cX5_guessOf 22 = .ok (.getfield 49, 3) := by decide +kernel
theorem dX5_guessOf_25 : decode cX5_guessOf 25 = .ok (.iload_n 1, 1) := by decide +kernel
theorem dX5_guessOf_26 : decode cX5_guessOf 26 = .ok (.iaload, 1) := by decide +kernel
theorem dX5_guessOf_27 : decode cX5_guessOf 27 = .ok (.iconst 2, 1) := by decide +kernel
theorem dX5_guessOf_28 : decode cX5_guessOf 28 = .ok (.if_icmp .ne 80, 3) := by decide +kernel
theorem dX5_guessOf_31 : decode cX5_guessOf 31 = .ok (.aload_n 0, 1) := by decide +kernel
theorem dX5_guessOf_32 : decode cX5_guessOf 32 = .ok (.getfield 70, 3) := by decide +kernel
theorem dX5_guessOf_35 : decode cX5_guessOf 35 = .ok (.iload_n 1, 1) := by decide +kernel
theorem dX5_guessOf_36 : decode cX5_guessOf 36 = .ok (.laload, 1) := by decide +kernel
theorem dX5_guessOf_37 : decode cX5_guessOf 37 = .ok (.l2d, 1) := by decide +kernel
theorem dX5_guessOf_38 : decode cX5_guessOf 38 = .ok (.aload_n 0, 1) := by decide +kernel
theorem dX5_guessOf_39 : decode cX5_guessOf 39 = .ok (.getfield 67, 3) := by decide +kernel
theorem dX5_guessOf_42 : decode cX5_guessOf 42 = .ok (.iload_n 1, 1) := by decide +kernel
theorem dX5_guessOf_43 : decode cX5_guessOf 43 = .ok (.laload, 1) := by decide +kernel
theorem dX5_guessOf_44 : decode cX5_guessOf 44 = .ok (.l2d, 1) := by decide +kernel
theorem dX5_guessOf_45 : decode cX5_guessOf 45 = .ok (.ddiv, 1) := by decide +kernel
theorem dX5_guessOf_46 : decode cX5_guessOf 46 = .ok (.aload_n 0, 1) := by decide +kernel
theorem dX5_guessOf_47 : decode cX5_guessOf 47 = .ok (.getfield 64, 3) := by decide +kernel
theorem dX5_guessOf_50 : decode cX5_guessOf 50 = .ok (.iload_n 1, 1) := by decide +kernel
theorem dX5_guessOf_51 : decode cX5_guessOf 51 = .ok (.laload, 1) := by decide +kernel
theorem dX5_guessOf_52 : decode cX5_guessOf 52 = .ok (.l2d, 1) := by decide +kernel
theorem dX5_guessOf_53 : decode cX5_guessOf 53 = .ok (.aload_n 0, 1) := by decide +kernel
theorem dX5_guessOf_54 : decode cX5_guessOf 54 = .ok (.getfield 67, 3) := by decide +kernel
theorem dX5_guessOf_57 : decode cX5_guessOf 57 = .ok (.iload_n 1, 1) := by decide +kernel
theorem dX5_guessOf_58 : decode cX5_guessOf 58 = .ok (.laload, 1) := by decide +kernel
theorem dX5_guessOf_59 : decode cX5_guessOf 59 = .ok (.l2d, 1) := by decide +kernel
theorem dX5_guessOf_60 : decode cX5_guessOf 60 = .ok (.ddiv, 1) := by decide +kernel
theorem dX5_guessOf_61 : decode cX5_guessOf 61 = .ok (.lload_n 2, 1) := by decide +kernel
theorem dX5_guessOf_62 : decode cX5_guessOf 62 = .ok (.aload_n 0, 1) := by decide +kernel
theorem dX5_guessOf_63 : decode cX5_guessOf 63 = .ok (.getfield 73, 3) := by decide +kernel
theorem dX5_guessOf_66 : decode cX5_guessOf 66 = .ok (.aload_n 0, 1) := by decide +kernel
theorem dX5_guessOf_67 : decode cX5_guessOf 67 = .ok (.getfield 52, 3) := by decide +kernel
theorem dX5_guessOf_70 : decode cX5_guessOf 70 = .ok (.iload_n 1, 1) := by decide +kernel
theorem dX5_guessOf_71 : decode cX5_guessOf 71 = .ok (.iaload, 1) := by decide +kernel
theorem dX5_guessOf_72 : decode cX5_guessOf 72 = .ok (.laload, 1) := by decide +kernel
theorem dX5_guessOf_73 : decode cX5_guessOf 73 = .ok (.lsub, 1) := by decide +kernel
theorem dX5_guessOf_74 : decode cX5_guessOf 74 = .ok (.l2d, 1) := by decide +kernel
theorem dX5_guessOf_75 : decode cX5_guessOf 75 = .ok (.dmul, 1) := by decide +kernel
theorem dX5_guessOf_76 : decode cX5_guessOf 76 = .ok (.dadd, 1) := by decide +kernel
theorem dX5_guessOf_77 : decode cX5_guessOf 77 = .ok (.dstore 5, 2) := by decide +kernel
theorem dX5_guessOf_79 : decode cX5_guessOf 79 = .ok (.dload 5, 2) := by decide +kernel
theorem dX5_guessOf_81 : decode cX5_guessOf 81 = .ok (.iload 4, 2) := by decide +kernel
theorem dX5_guessOf_83 : decode cX5_guessOf 83 = .ok (.i2d, 1) := by decide +kernel
theorem dX5_guessOf_84 : decode cX5_guessOf 84 = .ok (.dcmp .l, 1) := by decide +kernel
theorem dX5_guessOf_85 : decode cX5_guessOf 85 = .ok (.ifCond .lt 8, 3) := by decide +kernel
theorem dX5_guessOf_88 : decode cX5_guessOf 88 = .ok (.iload 4, 2) := by decide +kernel
theorem dX5_guessOf_90 : decode cX5_guessOf 90 = .ok (.goto 17, 3) := by decide +kernel
theorem dX5_guessOf_93 : decode cX5_guessOf 93 = .ok (.dload 5, 2) := by decide +kernel
theorem dX5_guessOf_95 : decode cX5_guessOf 95 = .ok (.dconst 0, 1) := by decide +kernel
theorem dX5_guessOf_96 : decode cX5_guessOf 96 = .ok (.dcmp .l, 1) := by decide +kernel
theorem dX5_guessOf_97 : decode cX5_guessOf 97 = .ok (.ifCond .le 9, 3) := by decide +kernel
theorem dX5_guessOf_100 : decode cX5_guessOf 100 = .ok (.dload 5, 2) := by decide +kernel
theorem dX5_guessOf_102 : decode cX5_guessOf 102 = .ok (.d2i, 1) := by decide +kernel
theorem dX5_guessOf_103 : decode cX5_guessOf 103 = .ok (.goto 4, 3) := by decide +kernel
theorem dX5_guessOf_106 : decode cX5_guessOf 106 = .ok (.iconst 0, 1) := by decide +kernel
theorem dX5_guessOf_107 : decode cX5_guessOf 107 = .ok (.ireturn, 1) := by decide +kernel
theorem dX5_guessOf_108 : decode cX5_guessOf 108 = .ok (.aload_n 0, 1) := by decide +kernel
theorem dX5_guessOf_109 : decode cX5_guessOf 109 = .ok (.getfield 70, 3) := by decide +kernel
theorem dX5_guessOf_112 : decode cX5_guessOf 112 = .ok (.iload_n 1, 1) := by decide +kernel
theorem dX5_guessOf_113 : decode cX5_guessOf 113 = .ok (.laload, 1) := by decide +kernel
theorem dX5_guessOf_114 : decode cX5_guessOf 114 = .ok (.aload_n 0, 1) := by decide +kernel
theorem dX5_guessOf_115 : decode cX5_guessOf 115 = .ok (.getfield 64, 3) := by decide +kernel
theorem dX5_guessOf_118 : decode cX5_guessOf 118 = .ok (.iload_n 1, 1) := by decide +kernel
theorem dX5_guessOf_119 : decode cX5_guessOf 119 = .ok (.laload, 1) := by decide +kernel
theorem dX5_guessOf_120 : decode cX5_guessOf 120 = .ok (.lload_n 2, 1) := by decide +kernel
theorem dX5_guessOf_121 : decode cX5_guessOf 121 = .ok (.aload_n 0, 1) := by decide +kernel
theorem dX5_guessOf_122 : decode cX5_guessOf 122 = .ok (.getfield 73, 3) := by decide +kernel
theorem dX5_guessOf_125 : decode cX5_guessOf 125 = .ok (.aload_n 0, 1) := by decide +kernel
theorem dX5_guessOf_126 : decode cX5_guessOf 126 = .ok (.getfield 52, 3) := by decide +kernel
theorem dX5_guessOf_129 : decode cX5_guessOf 129 = .ok (.iload_n 1, 1) := by decide +kernel
theorem dX5_guessOf_130 : decode cX5_guessOf 130 = .ok (.iaload, 1) := by decide +kernel
theorem dX5_guessOf_131 : decode cX5_guessOf 131 = .ok (.laload, 1) := by decide +kernel
theorem dX5_guessOf_132 : decode cX5_guessOf 132 = .ok (.lsub, 1) := by decide +kernel
theorem dX5_guessOf_133 : decode cX5_guessOf 133 = .ok (.lmul, 1) := by decide +kernel
theorem dX5_guessOf_134 : decode cX5_guessOf 134 = .ok (.ladd, 1) := by decide +kernel
theorem dX5_guessOf_135 : decode cX5_guessOf 135 = .ok (.lstore 5, 2) := by decide +kernel
theorem dX5_guessOf_137 : decode cX5_guessOf 137 = .ok (.lload 5, 2) := by decide +kernel
theorem dX5_guessOf_139 : decode cX5_guessOf 139 = .ok (.lconst 0, 1) := by decide +kernel
theorem dX5_guessOf_140 : decode cX5_guessOf 140 = .ok (.lcmp, 1) := by decide +kernel
theorem dX5_guessOf_141 : decode cX5_guessOf 141 = .ok (.ifCond .ge 5, 3) := by decide +kernel
theorem dX5_guessOf_144 : decode cX5_guessOf 144 = .ok (.iconst 0, 1) := by decide +kernel
theorem dX5_guessOf_145 : decode cX5_guessOf 145 = .ok (.ireturn, 1) := by decide +kernel
theorem dX5_guessOf_146 : decode cX5_guessOf 146 = .ok (.lload 5, 2) := by decide +kernel
theorem dX5_guessOf_148 : decode cX5_guessOf 148 = .ok (.aload_n 0, 1) := by decide +kernel
theorem dX5_guessOf_149 : decode cX5_guessOf 149 = .ok (.getfield 67, 3) := by decide +kernel
theorem dX5_guessOf_152 : decode cX5_guessOf 152 = .ok (.iload_n 1, 1) := by decide +kernel
theorem dX5_guessOf_153 : decode cX5_guessOf 153 = .ok (.laload, 1) := by decide +kernel
theorem dX5_guessOf_154 : decode cX5_guessOf 154 = .ok (.ldiv, 1) := by decide +kernel
theorem dX5_guessOf_155 : decode cX5_guessOf 155 = .ok (.lstore 7, 2) := by decide +kernel
theorem dX5_guessOf_157 : decode cX5_guessOf 157 = .ok (.lload 7, 2) := by decide +kernel
theorem dX5_guessOf_159 : decode cX5_guessOf 159 = .ok (.iload 4, 2) := by decide +kernel
theorem dX5_guessOf_161 : decode cX5_guessOf 161 = .ok (.i2l, 1) := by decide +kernel
theorem dX5_guessOf_162 : decode cX5_guessOf 162 = .ok (.lcmp, 1) := by decide +kernel
theorem dX5_guessOf_163 : decode cX5_guessOf 163 = .ok (.ifCond .le 8, 3) := by decide +kernel
theorem dX5_guessOf_166 : decode cX5_guessOf 166 = .ok (.iload 4, 2) := by decide +kernel
theorem dX5_guessOf_168 : decode cX5_guessOf 168 = .ok (.goto 6, 3) := by decide +kernel
theorem dX5_guessOf_171 : decode cX5_guessOf 171 = .ok (.lload 7, 2) := by decide +kernel
theorem dX5_guessOf_173 : decode cX5_guessOf 173 = .ok (.l2i, 1) := by decide +kernel
theorem dX5_guessOf_174 : decode cX5_guessOf 174 = .ok (.ireturn, 1) := by decide +kernel
theorem dX5_miss_0 : decode cX5_miss 0 = .ok (.iconst 0, 1) := by decide +kernel
theorem dX5_miss_1 : decode cX5_miss 1 = .ok (.istore_n 2, 1) := by decide +kernel
theorem dX5_miss_2 : decode cX5_miss 2 = .ok (.iconst 0, 1) := by decide +kernel
theorem dX5_miss_3 : decode cX5_miss 3 = .ok (.istore_n 3, 1) := by decide +kernel
theorem dX5_miss_4 : decode cX5_miss 4 = .ok (.iload_n 3, 1) := by decide +kernel
theorem dX5_miss_5 : decode cX5_miss 5 = .ok (.aload_n 0, 1) := by decide +kernel
theorem dX5_miss_6 : decode cX5_miss 6 = .ok (.getfield 55, 3) := by decide +kernel
theorem dX5_miss_9 : decode cX5_miss 9 = .ok (.iload_n 1, 1) := by decide +kernel
theorem dX5_miss_10 : decode cX5_miss 10 = .ok (.iaload, 1) := by decide +kernel
theorem dX5_miss_11 : decode cX5_miss 11 = .ok (.if_icmp .ge 57, 3) := by decide +kernel
theorem dX5_miss_14 : decode cX5_miss 14 = .ok (.aload_n 0, 1) := by decide +kernel
theorem dX5_miss_15 : decode cX5_miss 15 = .ok (.iload_n 1, 1) := by decide +kernel
theorem dX5_miss_16 : decode cX5_miss 16 = .ok (.aload_n 0, 1) := by decide +kernel
theorem dX5_miss_17 : decode cX5_miss 17 = .ok (.getfield 73, 3) := by decide +kernel
theorem dX5_miss_20 : decode cX5_miss 20 = .ok (.aload_n 0, 1) := by decide +kernel
theorem dX5_miss_21 : decode cX5_miss 21 = .ok (.getfield 52, 3) := by decide +kernel
theorem dX5_miss_24 : decode cX5_miss 24 = .ok (.iload_n 1, 1) := by decide +kernel
theorem dX5_miss_25 : decode cX5_miss 25 = .ok (.iaload, 1) := by decide +kernel
theorem dX5_miss_26 : decode cX5_miss 26 = .ok (.iload_n 3, 1) := by decide +kernel
theorem dX5_miss_27 : decode cX5_miss 27 = .ok (.iadd, 1) := by decide +kernel
theorem dX5_miss_28 : decode cX5_miss 28 = .ok (.laload, 1) := by decide +kernel
theorem dX5_miss_29 : decode cX5_miss 29 = .ok (.invokevirtual 235, 3) := by decide +kernel
theorem dX5_miss_32 : decode cX5_miss 32 = .ok (.iload_n 3, 1) := by decide +kernel
theorem dX5_miss_33 : decode cX5_miss 33 = .ok (.isub, 1) := by decide +kernel
theorem dX5_miss_34 : decode cX5_miss 34 = .ok (.istore 4, 2) := by decide +kernel
theorem dX5_miss_36 : decode cX5_miss 36 = .ok (.iload 4, 2) := by decide +kernel
theorem dX5_miss_38 : decode cX5_miss 38 = .ok (.iload_n 2, 1) := by decide +kernel
theorem dX5_miss_39 : decode cX5_miss 39 = .ok (.if_icmp .le 8, 3) := by decide +kernel
theorem dX5_miss_42 : decode cX5_miss 42 = .ok (.iload 4, 2) := by decide +kernel
theorem dX5_miss_44 : decode cX5_miss 44 = .ok (.goto 17, 3) := by decide +kernel
theorem dX5_miss_47 : decode cX5_miss 47 = .ok (.iload 4, 2) := by decide +kernel
theorem dX5_miss_49 : decode cX5_miss 49 = .ok (.ineg, 1) := by decide +kernel
theorem dX5_miss_50 : decode cX5_miss 50 = .ok (.iload_n 2, 1) := by decide +kernel
theorem dX5_miss_51 : decode cX5_miss 51 = .ok (.if_icmp .le 9, 3) := by decide +kernel
theorem dX5_miss_54 : decode cX5_miss 54 = .ok (.iload 4, 2) := by decide +kernel
theorem dX5_miss_56 : decode cX5_miss 56 = .ok (.ineg, 1) := by decide +kernel
theorem dX5_miss_57 : decode cX5_miss 57 = .ok (.goto 4, 3) := by decide +kernel
theorem dX5_miss_60 : decode cX5_miss 60 = .ok (.iload_n 2, 1) := by decide +kernel
theorem dX5_miss_61 : decode cX5_miss 61 = .ok (.istore_n 2, 1) := by decide +kernel
theorem dX5_miss_62 : decode cX5_miss 62 = .ok (.iinc 3 1, 3) := by decide +kernel
theorem dX5_miss_65 : decode cX5_miss 65 = .ok (.goto (-61), 3) := by decide +kernel
theorem dX5_miss_68 : decode cX5_miss 68 = .ok (.iload_n 2, 1) := by decide +kernel
theorem dX5_miss_69 : decode cX5_miss 69 = .ok (.ireturn, 1) := by decide +kernel
theorem dX5_say_0 : decode cX5_say 0 = .ok (.aload_n 0, 1) := by decide +kernel
theorem dX5_say_1 : decode cX5_say 1 = .ok (.getfield 128, 3) := by decide +kernel
theorem dX5_say_4 : decode cX5_say 4 = .ok (.aload_n 0, 1) := by decide +kernel
theorem dX5_say_5 : decode cX5_say 5 = .ok (.getfield 134, 3) := by decide +kernel
theorem dX5_say_8 : decode cX5_say 8 = .ok (.iload_n 1, 1) := by decide +kernel
theorem dX5_say_9 : decode cX5_say 9 = .ok (.iastore, 1) := by decide +kernel
theorem dX5_say_10 : decode cX5_say 10 = .ok (.aload_n 0, 1) := by decide +kernel
theorem dX5_say_11 : decode cX5_say 11 = .ok (.dup, 1) := by decide +kernel
theorem dX5_say_12 : decode cX5_say 12 = .ok (.getfield 134, 3) := by decide +kernel
theorem dX5_say_15 : decode cX5_say 15 = .ok (.iconst 1, 1) := by decide +kernel
theorem dX5_say_16 : decode cX5_say 16 = .ok (.iadd, 1) := by decide +kernel
theorem dX5_say_17 : decode cX5_say 17 = .ok (.putfield 134, 3) := by decide +kernel
theorem dX5_say_20 : decode cX5_say 20 = .ok (.return_, 1) := by decide +kernel
theorem dX5_found_0 : decode cX5_found 0 = .ok (.aload_n 0, 1) := by decide +kernel
theorem dX5_found_1 : decode cX5_found 1 = .ok (.iconst 0, 1) := by decide +kernel
theorem dX5_found_2 : decode cX5_found 2 = .ok (.putfield 134, 3) := by decide +kernel
theorem dX5_found_5 : decode cX5_found 5 = .ok (.aload_n 0, 1) := by decide +kernel
theorem dX5_found_6 : decode cX5_found 6 = .ok (.iconst 0, 1) := by decide +kernel
theorem dX5_found_7 : decode cX5_found 7 = .ok (.putfield 140, 3) := by decide +kernel
theorem dX5_found_10 : decode cX5_found 10 = .ok (.aload_n 0, 1) := by decide +kernel
theorem dX5_found_11 : decode cX5_found 11 = .ok (.getfield 39, 3) := by decide +kernel
theorem dX5_found_14 : decode cX5_found 14 = .ok (.istore_n 3, 1) := by decide +kernel
theorem dX5_found_15 : decode cX5_found 15 = .ok (.aload_n 0, 1) := by decide +kernel
theorem dX5_found_16 : decode cX5_found 16 = .ok (.getfield 42, 3) := by decide +kernel
theorem dX5_found_19 : decode cX5_found 19 = .ok (.iload_n 3, 1) := by decide +kernel
theorem dX5_found_20 : decode cX5_found 20 = .ok (.iaload, 1) := by decide +kernel
theorem dX5_found_21 : decode cX5_found 21 = .ok (.istore 4, 2) := by decide +kernel
theorem dX5_found_23 : decode cX5_found 23 = .ok (.aload_n 0, 1) := by decide +kernel
theorem dX5_found_24 : decode cX5_found 24 = .ok (.iload 4, 2) := by decide +kernel
theorem dX5_found_26 : decode cX5_found 26 = .ok (.iload_n 3, 1) := by decide +kernel
theorem dX5_found_27 : decode cX5_found 27 = .ok (.lload_n 1, 1) := by decide +kernel
theorem dX5_found_28 : decode cX5_found 28 = .ok (.invokevirtual 239, 3) := by decide +kernel
theorem dX5_found_31 : decode cX5_found 31 = .ok (.istore 5, 2) := by decide +kernel
theorem dX5_found_33 : decode cX5_found 33 = .ok (.iload_n 3, 1) := by decide +kernel
theorem dX5_found_34 : decode cX5_found 34 = .ok (.ifCond .le 54, 3) := by decide +kernel
theorem dX5_found_37 : decode cX5_found 37 = .ok (.aload_n 0, 1) := by decide +kernel
theorem dX5_found_38 : decode cX5_found 38 = .ok (.getfield 52, 3) := by decide +kernel
theorem dX5_found_41 : decode cX5_found 41 = .ok (.iload 4, 2) := by decide +kernel
theorem dX5_found_43 : decode cX5_found 43 = .ok (.iaload, 1) := by decide +kernel
theorem dX5_found_44 : decode cX5_found 44 = .ok (.iload 5, 2) := by decide +kernel
theorem dX5_found_46 : decode cX5_found 46 = .ok (.iadd, 1) := by decide +kernel
theorem dX5_found_47 : decode cX5_found 47 = .ok (.aload_n 0, 1) := by decide +kernel
theorem dX5_found_48 : decode cX5_found 48 = .ok (.getfield 52, 3) := by decide +kernel
theorem dX5_found_51 : decode cX5_found 51 = .ok (.aload_n 0, 1) := by decide +kernel
theorem dX5_found_52 : decode cX5_found 52 = .ok (.getfield 42, 3) := by decide +kernel
theorem dX5_found_55 : decode cX5_found 55 = .ok (.iload_n 3, 1) := by decide +kernel
theorem dX5_found_56 : decode cX5_found 56 = .ok (.iaload, 1) := by decide +kernel
theorem dX5_found_57 : decode cX5_found 57 = .ok (.iaload, 1) := by decide +kernel
theorem dX5_found_58 : decode cX5_found 58 = .ok (.isub, 1) := by decide +kernel
theorem dX5_found_59 : decode cX5_found 59 = .ok (.istore 6, 2) := by decide +kernel
theorem dX5_found_61 : decode cX5_found 61 = .ok (.iinc 3 (-1), 3) := by decide +kernel
theorem dX5_found_64 : decode cX5_found 64 = .ok (.aload_n 0, 1) := by decide +kernel
theorem dX5_found_65 : decode cX5_found 65 = .ok (.getfield 42, 3) := by decide +kernel
theorem dX5_found_68 : decode cX5_found 68 = .ok (.iload_n 3, 1) := by decide +kernel
theorem dX5_found_69 : decode cX5_found 69 = .ok (.iaload, 1) := by decide +kernel
theorem dX5_found_70 : decode cX5_found 70 = .ok (.iload 6, 2) := by decide +kernel
theorem dX5_found_72 : decode cX5_found 72 = .ok (.iadd, 1) := by decide +kernel
theorem dX5_found_73 : decode cX5_found 73 = .ok (.istore 4, 2) := by decide +kernel
theorem dX5_found_75 : decode cX5_found 75 = .ok (.aload_n 0, 1) := by decide +kernel
theorem dX5_found_76 : decode cX5_found 76 = .ok (.iload 4, 2) := by decide +kernel
theorem dX5_found_78 : decode cX5_found 78 = .ok (.iload_n 3, 1) := by decide +kernel
theorem dX5_found_79 : decode cX5_found 79 = .ok (.lload_n 1, 1) := by decide +kernel
theorem dX5_found_80 : decode cX5_found 80 = .ok (.invokevirtual 239, 3) := by decide +kernel
theorem dX5_found_83 : decode cX5_found 83 = .ok (.istore 5, 2) := by decide +kernel
theorem dX5_found_85 : decode cX5_found 85 = .ok (.goto (-52), 3) := by decide +kernel
theorem dX5_found_88 : decode cX5_found 88 = .ok (.aload_n 0, 1) := by decide +kernel
theorem dX5_found_89 : decode cX5_found 89 = .ok (.iload 4, 2) := by decide +kernel
theorem dX5_found_91 : decode cX5_found 91 = .ok (.putfield 146, 3) := by decide +kernel
theorem dX5_found_94 : decode cX5_found 94 = .ok (.aload_n 0, 1) := by decide +kernel
theorem dX5_found_95 : decode cX5_found 95 = .ok (.iload 5, 2) := by decide +kernel
theorem dX5_found_97 : decode cX5_found 97 = .ok (.putfield 149, 3) := by decide +kernel
theorem dX5_found_100 : decode cX5_found 100 = .ok (.aload_n 0, 1) := by decide +kernel
theorem dX5_found_101 : decode cX5_found 101 = .ok (.iconst (-1), 1) := by decide +kernel
theorem dX5_found_102 : decode cX5_found 102 = .ok (.putfield 152, 3) := by decide +kernel
theorem dX5_found_105 : decode cX5_found 105 = .ok (.aload_n 0, 1) := by decide +kernel
theorem dX5_found_106 : decode cX5_found 106 = .ok (.dup, 1) := by decide +kernel
theorem dX5_found_107 : decode cX5_found 107 = .ok (.getfield 140, 3) := by decide +kernel
theorem dX5_found_110 : decode cX5_found 110 = .ok (.iconst 1, 1) := by decide +kernel
theorem dX5_found_111 : decode cX5_found 111 = .ok (.iadd, 1) := by decide +kernel
theorem dX5_found_112 : decode cX5_found 112 = .ok (.putfield 140, 3) := by decide +kernel
theorem dX5_found_115 : decode cX5_found 115 = .ok (.aload_n 0, 1) := by decide +kernel
theorem dX5_found_116 : decode cX5_found 116 = .ok (.getfield 73, 3) := by decide +kernel
theorem dX5_found_119 : decode cX5_found 119 = .ok (.aload_n 0, 1) := by decide +kernel
theorem dX5_found_120 : decode cX5_found 120 = .ok (.getfield 52, 3) := by decide +kernel
theorem dX5_found_123 : decode cX5_found 123 = .ok (.iload 4, 2) := by decide +kernel
theorem dX5_found_125 : decode cX5_found 125 = .ok (.iaload, 1) := by decide +kernel
theorem dX5_found_126 : decode cX5_found 126 = .ok (.iload 5, 2) := by decide +kernel
theorem dX5_found_128 : decode cX5_found 128 = .ok (.iadd, 1) := by decide +kernel
theorem dX5_found_129 : decode cX5_found 129 = .ok (.laload, 1) := by decide +kernel
theorem dX5_found_130 : decode cX5_found 130 = .ok (.lload_n 1, 1) := by decide +kernel
theorem dX5_found_131 : decode cX5_found 131 = .ok (.lcmp, 1) := by decide +kernel
theorem dX5_found_132 : decode cX5_found 132 = .ok (.ifCond .ne 18, 3) := by decide +kernel
theorem dX5_found_135 : decode cX5_found 135 = .ok (.aload_n 0, 1) := by decide +kernel
theorem dX5_found_136 : decode cX5_found 136 = .ok (.iload 4, 2) := by decide +kernel
theorem dX5_found_138 : decode cX5_found 138 = .ok (.iload 5, 2) := by decide +kernel
theorem dX5_found_140 : decode cX5_found 140 = .ok (.invokevirtual 209, 3) := by decide +kernel
theorem dX5_found_143 : decode cX5_found 143 = .ok (.ifCond .eq 7, 3) := by decide +kernel
theorem dX5_found_146 : decode cX5_found 146 = .ok (.iconst 1, 1) := by decide +kernel
theorem dX5_found_147 : decode cX5_found 147 = .ok (.goto 4, 3) := by decide +kernel
theorem dX5_found_150 : decode cX5_found 150 = .ok (.iconst 0, 1) := by decide +kernel
theorem dX5_found_151 : decode cX5_found 151 = .ok (.istore 6, 2) := by decide +kernel
theorem dX5_found_153 : decode cX5_found 153 = .ok (.iload 6, 2) := by decide +kernel
theorem dX5_found_155 : decode cX5_found 155 = .ok (.ifCond .ne 115, 3) := by decide +kernel
theorem dX5_found_158 : decode cX5_found 158 = .ok (.aload_n 0, 1) := by decide +kernel
theorem dX5_found_159 : decode cX5_found 159 = .ok (.getfield 61, 3) := by decide +kernel
theorem dX5_found_162 : decode cX5_found 162 = .ok (.iload 4, 2) := by decide +kernel
theorem dX5_found_164 : decode cX5_found 164 = .ok (.iaload, 1) := by decide +kernel
theorem dX5_found_165 : decode cX5_found 165 = .ok (.iconst 1, 1) := by decide +kernel
theorem dX5_found_166 : decode cX5_found 166 = .ok (.isub, 1) := by decide +kernel
theorem dX5_found_167 : decode cX5_found 167 = .ok (.istore 7, 2) := by decide +kernel
theorem dX5_found_169 : decode cX5_found 169 = .ok (.iload 7, 2) := by decide +kernel
theorem dX5_found_171 : decode cX5_found 171 = .ok (.ifCond .lt 7, 3) := by decide +kernel
theorem dX5_found_174 : decode cX5_found 174 = .ok (.iconst 1, 1) := by decide +kernel
theorem dX5_found_175 : decode cX5_found 175 = .ok (.goto 4, 3) := by decide +kernel
theorem dX5_found_178 : decode cX5_found 178 = .ok (.iconst 0, 1) := by decide +kernel
theorem dX5_found_179 : decode cX5_found 179 = .ok (.istore 8, 2) := by decide +kernel
theorem dX5_found_181 : decode cX5_found 181 = .ok (.iload 8, 2) := by decide +kernel
theorem dX5_found_183 : decode cX5_found 183 = .ok (.ifCond .eq 73, 3) := by decide +kernel
theorem dX5_found_186 : decode cX5_found 186 = .ok (.aload_n 0, 1) := by decide +kernel
theorem dX5_found_187 : decode cX5_found 187 = .ok (.dup, 1) := by decide +kernel
theorem dX5_found_188 : decode cX5_found 188 = .ok (.getfield 140, 3) := by decide +kernel
theorem dX5_found_191 : decode cX5_found 191 = .ok (.iconst 1, 1) := by decide +kernel
theorem dX5_found_192 : decode cX5_found 192 = .ok (.iadd, 1) := by decide +kernel
theorem dX5_found_193 : decode cX5_found 193 = .ok (.putfield 140, 3) := by decide +kernel
theorem dX5_found_196 : decode cX5_found 196 = .ok (.aload_n 0, 1) := by decide +kernel
theorem dX5_found_197 : decode cX5_found 197 = .ok (.getfield 77, 3) := by decide +kernel
theorem dX5_found_200 : decode cX5_found 200 = .ok (.bipush 16, 2) := by decide +kernel
theorem dX5_found_202 : decode cX5_found 202 = .ok (.iload 4, 2) := by decide +kernel
theorem dX5_found_204 : decode cX5_found 204 = .ok (.imul, 1) := by decide +kernel
theorem dX5_found_205 : decode cX5_found 205 = .ok (.iload 7, 2) := by decide +kernel
theorem dX5_found_207 : decode cX5_found 207 = .ok (.iadd, 1) := by decide +kernel
theorem dX5_found_208 : decode cX5_found 208 = .ok (.laload, 1) := by decide +kernel
theorem dX5_found_209 : decode cX5_found 209 = .ok (.lload_n 1, 1) := by decide +kernel
theorem dX5_found_210 : decode cX5_found 210 = .ok (.lcmp, 1) := by decide +kernel
theorem dX5_found_211 : decode cX5_found 211 = .ok (.ifCond .le 12, 3) := by decide +kernel
theorem dX5_found_214 : decode cX5_found 214 = .ok (.iload 7, 2) := by decide +kernel
theorem dX5_found_216 : decode cX5_found 216 = .ok (.ifCond .le 7, 3) := by decide +kernel
theorem dX5_found_219 : decode cX5_found 219 = .ok (.iconst 1, 1) := by decide +kernel
theorem dX5_found_220 : decode cX5_found 220 = .ok (.goto 4, 3) := by decide +kernel
theorem dX5_found_223 : decode cX5_found 223 = .ok (.iconst 0, 1) := by decide +kernel
theorem dX5_found_224 : decode cX5_found 224 = .ok (.istore 8, 2) := by decide +kernel
theorem dX5_found_226 : decode cX5_found 226 = .ok (.aload_n 0, 1) := by decide +kernel
theorem dX5_found_227 : decode cX5_found 227 = .ok (.getfield 77, 3) := by decide +kernel
theorem dX5_found_230 : decode cX5_found 230 = .ok (.bipush 16, 2) := by decide +kernel
theorem dX5_found_232 : decode cX5_found 232 = .ok (.iload 4, 2) := by decide +kernel
theorem dX5_found_234 : decode cX5_found 234 = .ok (.imul, 1) := by decide +kernel
theorem dX5_found_235 : decode cX5_found 235 = .ok (.iload 7, 2) := by decide +kernel
theorem dX5_found_237 : decode cX5_found 237 = .ok (.iadd, 1) := by decide +kernel
theorem dX5_found_238 : decode cX5_found 238 = .ok (.laload, 1) := by decide +kernel
theorem dX5_found_239 : decode cX5_found 239 = .ok (.lload_n 1, 1) := by decide +kernel
theorem dX5_found_240 : decode cX5_found 240 = .ok (.lcmp, 1) := by decide +kernel
theorem dX5_found_241 : decode cX5_found 241 = .ok (.ifCond .ne 9, 3) := by decide +kernel
theorem dX5_found_244 : decode cX5_found 244 = .ok (.aload_n 0, 1) := by decide +kernel
theorem dX5_found_245 : decode cX5_found 245 = .ok (.iload 7, 2) := by decide +kernel
theorem dX5_found_247 : decode cX5_found 247 = .ok (.putfield 152, 3) := by decide +kernel
theorem dX5_found_250 : decode cX5_found 250 = .ok (.iinc 7 (-1), 3) := by decide +kernel
theorem dX5_found_253 : decode cX5_found 253 = .ok (.goto (-72), 3) := by decide +kernel
theorem dX5_found_256 : decode cX5_found 256 = .ok (.aload_n 0, 1) := by decide +kernel
theorem dX5_found_257 : decode cX5_found 257 = .ok (.getfield 152, 3) := by decide +kernel
theorem dX5_found_260 : decode cX5_found 260 = .ok (.ifCond .lt 7, 3) := by decide +kernel
theorem dX5_found_263 : decode cX5_found 263 = .ok (.iconst 1, 1) := by decide +kernel
theorem dX5_found_264 : decode cX5_found 264 = .ok (.goto 4, 3) := by decide +kernel
theorem dX5_found_267 : decode cX5_found 267 = .ok (.iconst 0, 1) := by decide +kernel
theorem dX5_found_268 : decode cX5_found 268 = .ok (.istore 6, 2) := by decide +kernel
theorem dX5_found_270 : decode cX5_found 270 = .ok (.aload_n 0, 1) := by decide +kernel
theorem dX5_found_271 : decode cX5_found 271 = .ok (.iload 6, 2) := by decide +kernel
theorem dX5_found_273 : decode cX5_found 273 = .ok (.ifCond .eq 7, 3) := by decide +kernel
theorem dX5_found_276 : decode cX5_found 276 = .ok (.iconst 1, 1) := by decide +kernel
theorem dX5_found_277 : decode cX5_found 277 = .ok (.goto 4, 3) := by decide +kernel
theorem dX5_found_280 : decode cX5_found 280 = .ok (.iconst 0, 1) := by decide +kernel
theorem dX5_found_281 : decode cX5_found 281 = .ok (.invokevirtual 243, 3) := by decide +kernel
theorem dX5_found_284 : decode cX5_found 284 = .ok (.iload 6, 2) := by decide +kernel
theorem dX5_found_286 : decode cX5_found 286 = .ok (.ireturn, 1) := by decide +kernel
theorem dX5_down_0 : decode cX5_down 0 = .ok (.aload_n 0, 1) := by decide +kernel
theorem dX5_down_1 : decode cX5_down 1 = .ok (.iload_n 1, 1) := by decide +kernel
theorem dX5_down_2 : decode cX5_down 2 = .ok (.lload_n 3, 1) := by decide +kernel
theorem dX5_down_3 : decode cX5_down 3 = .ok (.invokevirtual 235, 3) := by decide +kernel
theorem dX5_down_6 : decode cX5_down 6 = .ok (.istore 5, 2) := by decide +kernel
theorem dX5_down_8 : decode cX5_down 8 = .ok (.iload 5, 2) := by decide +kernel
theorem dX5_down_10 : decode cX5_down 10 = .ok (.aload_n 0, 1) := by decide +kernel
theorem dX5_down_11 : decode cX5_down 11 = .ok (.getfield 58, 3) := by decide +kernel
theorem dX5_down_14 : decode cX5_down 14 = .ok (.iload_n 1, 1) := by decide +kernel
theorem dX5_down_15 : decode cX5_down 15 = .ok (.iaload, 1) := by decide +kernel
theorem dX5_down_16 : decode cX5_down 16 = .ok (.iadd, 1) := by decide +kernel
theorem dX5_down_17 : decode cX5_down 17 = .ok (.aload_n 0, 1) := by decide +kernel
theorem dX5_down_18 : decode cX5_down 18 = .ok (.getfield 55, 3) := by decide +kernel
theorem dX5_down_21 : decode cX5_down 21 = .ok (.iload_n 1, 1) := by decide +kernel
theorem dX5_down_22 : decode cX5_down 22 = .ok (.iaload, 1) := by decide +kernel
theorem dX5_down_23 : decode cX5_down 23 = .ok (.iconst 1, 1) := by decide +kernel
theorem dX5_down_24 : decode cX5_down 24 = .ok (.isub, 1) := by decide +kernel
theorem dX5_down_25 : decode cX5_down 25 = .ok (.if_icmp .ge 15, 3) := by decide +kernel
theorem dX5_down_28 : decode cX5_down 28 = .ok (.iload 5, 2) := by decide +kernel
theorem dX5_down_30 : decode cX5_down 30 = .ok (.aload_n 0, 1) := by decide +kernel
theorem dX5_down_31 : decode cX5_down 31 = .ok (.getfield 58, 3) := by decide +kernel
theorem dX5_down_34 : decode cX5_down 34 = .ok (.iload_n 1, 1) := by decide +kernel
theorem dX5_down_35 : decode cX5_down 35 = .ok (.iaload, 1) := by decide +kernel
theorem dX5_down_36 : decode cX5_down 36 = .ok (.iadd, 1) := by decide +kernel
theorem dX5_down_37 : decode cX5_down 37 = .ok (.goto 11, 3) := by decide +kernel
theorem dX5_down_40 : decode cX5_down 40 = .ok (.aload_n 0, 1) := by decide +kernel
theorem dX5_down_41 : decode cX5_down 41 = .ok (.getfield 55, 3) := by decide +kernel
theorem dX5_down_44 : decode cX5_down 44 = .ok (.iload_n 1, 1) := by decide +kernel
theorem dX5_down_45 : decode cX5_down 45 = .ok (.iaload, 1) := by decide +kernel
theorem dX5_down_46 : decode cX5_down 46 = .ok (.iconst 1, 1) := by decide +kernel
theorem dX5_down_47 : decode cX5_down 47 = .ok (.isub, 1) := by decide +kernel
theorem dX5_down_48 : decode cX5_down 48 = .ok (.istore 6, 2) := by decide +kernel
theorem dX5_down_50 : decode cX5_down 50 = .ok (.iload 6, 2) := by decide +kernel
theorem dX5_down_52 : decode cX5_down 52 = .ok (.ifCond .le 7, 3) := by decide +kernel
theorem dX5_down_55 : decode cX5_down 55 = .ok (.iconst 1, 1) := by decide +kernel
theorem dX5_down_56 : decode cX5_down 56 = .ok (.goto 4, 3) := by decide +kernel
theorem dX5_down_59 : decode cX5_down 59 = .ok (.iconst 0, 1) := by decide +kernel
theorem dX5_down_60 : decode cX5_down 60 = .ok (.istore 7, 2) := by decide +kernel
theorem dX5_down_62 : decode cX5_down 62 = .ok (.iload 7, 2) := by decide +kernel
theorem dX5_down_64 : decode cX5_down 64 = .ok (.ifCond .eq 61, 3) := by decide +kernel
theorem dX5_down_67 : decode cX5_down 67 = .ok (.aload_n 0, 1) := by decide +kernel
theorem dX5_down_68 : decode cX5_down 68 = .ok (.dup, 1) := by decide +kernel
theorem dX5_down_69 : decode cX5_down 69 = .ok (.getfield 140, 3) := by decide +kernel
theorem dX5_down_72 : decode cX5_down 72 = .ok (.iconst 1, 1) := by decide +kernel
theorem dX5_down_73 : decode cX5_down 73 = .ok (.iadd, 1) := by decide +kernel
theorem dX5_down_74 : decode cX5_down 74 = .ok (.putfield 140, 3) := by decide +kernel
theorem dX5_down_77 : decode cX5_down 77 = .ok (.aload_n 0, 1) := by decide +kernel
theorem dX5_down_78 : decode cX5_down 78 = .ok (.getfield 73, 3) := by decide +kernel
theorem dX5_down_81 : decode cX5_down 81 = .ok (.aload_n 0, 1) := by decide +kernel
theorem dX5_down_82 : decode cX5_down 82 = .ok (.getfield 52, 3) := by decide +kernel
theorem dX5_down_85 : decode cX5_down 85 = .ok (.iload_n 1, 1) := by decide +kernel
theorem dX5_down_86 : decode cX5_down 86 = .ok (.iaload, 1) := by decide +kernel
theorem dX5_down_87 : decode cX5_down 87 = .ok (.iload 6, 2) := by decide +kernel
theorem dX5_down_89 : decode cX5_down 89 = .ok (.iadd, 1) := by decide +kernel
theorem dX5_down_90 : decode cX5_down 90 = .ok (.laload, 1) := by decide +kernel
theorem dX5_down_91 : decode cX5_down 91 = .ok (.lload_n 3, 1) := by decide +kernel
theorem dX5_down_92 : decode cX5_down 92 = .ok (.lcmp, 1) := by decide +kernel
theorem dX5_down_93 : decode cX5_down 93 = .ok (.ifCond .le 9, 3) := by decide +kernel
theorem dX5_down_96 : decode cX5_down 96 = .ok (.iinc 6 (-1), 3) := by decide +kernel
theorem dX5_down_99 : decode cX5_down 99 = .ok (.goto 6, 3) := by decide +kernel
theorem dX5_down_102 : decode cX5_down 102 = .ok (.iconst 0, 1) := by decide +kernel
theorem dX5_down_103 : decode cX5_down 103 = .ok (.istore 7, 2) := by decide +kernel
theorem dX5_down_105 : decode cX5_down 105 = .ok (.iload 7, 2) := by decide +kernel
theorem dX5_down_107 : decode cX5_down 107 = .ok (.ifCond .eq 12, 3) := by decide +kernel
theorem dX5_down_110 : decode cX5_down 110 = .ok (.iload 6, 2) := by decide +kernel
theorem dX5_down_112 : decode cX5_down 112 = .ok (.ifCond .le 7, 3) := by decide +kernel
theorem dX5_down_115 : decode cX5_down 115 = .ok (.iconst 1, 1) := by decide +kernel
theorem dX5_down_116 : decode cX5_down 116 = .ok (.goto 4, 3) := by decide +kernel
theorem dX5_down_119 : decode cX5_down 119 = .ok (.iconst 0, 1) := by decide +kernel
theorem dX5_down_120 : decode cX5_down 120 = .ok (.istore 7, 2) := by decide +kernel
theorem dX5_down_122 : decode cX5_down 122 = .ok (.goto (-60), 3) := by decide +kernel
theorem dX5_down_125 : decode cX5_down 125 = .ok (.aload_n 0, 1) := by decide +kernel
theorem dX5_down_126 : decode cX5_down 126 = .ok (.iload_n 1, 1) := by decide +kernel
theorem dX5_down_127 : decode cX5_down 127 = .ok (.aload_n 0, 1) := by decide +kernel
theorem dX5_down_128 : decode cX5_down 128 = .ok (.getfield 42, 3) := by decide +kernel
theorem dX5_down_131 : decode cX5_down 131 = .ok (.iload_n 2, 1) := by decide +kernel
theorem dX5_down_132 : decode cX5_down 132 = .ok (.iaload, 1) := by decide +kernel
theorem dX5_down_133 : decode cX5_down 133 = .ok (.isub, 1) := by decide +kernel
theorem dX5_down_134 : decode cX5_down 134 = .ok (.invokevirtual 243, 3) := by decide +kernel
theorem dX5_down_137 : decode cX5_down 137 = .ok (.aload_n 0, 1) := by decide +kernel
theorem dX5_down_138 : decode cX5_down 138 = .ok (.iload 5, 2) := by decide +kernel
theorem dX5_down_140 : decode cX5_down 140 = .ok (.invokevirtual 243, 3) := by decide +kernel
theorem dX5_down_143 : decode cX5_down 143 = .ok (.aload_n 0, 1) := by decide +kernel
theorem dX5_down_144 : decode cX5_down 144 = .ok (.iload 6, 2) := by decide +kernel
theorem dX5_down_146 : decode cX5_down 146 = .ok (.invokevirtual 243, 3) := by decide +kernel
theorem dX5_down_149 : decode cX5_down 149 = .ok (.iload 6, 2) := by decide +kernel
theorem dX5_down_151 : decode cX5_down 151 = .ok (.ireturn, 1) := by decide +kernel
theorem dX5_find_0 : decode cX5_find 0 = .ok (.aload_n 0, 1) := by decide +kernel
theorem dX5_find_1 : decode cX5_find 1 = .ok (.getfield 84, 3) := by decide +kernel
theorem dX5_find_4 : decode cX5_find 4 = .ok (.ifCond .ne 5, 3) := by decide +kernel
theorem dX5_find_7 : decode cX5_find 7 = .ok (.iconst (-1), 1) := by decide +kernel
theorem dX5_find_8 : decode cX5_find 8 = .ok (.ireturn, 1) := by decide +kernel
theorem dX5_find_9 : decode cX5_find 9 = .ok (.aload_n 0, 1) := by decide +kernel
theorem dX5_find_10 : decode cX5_find 10 = .ok (.lload_n 1, 1) := by decide +kernel
theorem dX5_find_11 : decode cX5_find 11 = .ok (.invokevirtual 162, 3) := by decide +kernel
theorem dX5_find_14 : decode cX5_find 14 = .ok (.ifCond .ne 6, 3) := by decide +kernel
theorem dX5_find_17 : decode cX5_find 17 = .ok (.bipush (-2), 2) := by decide +kernel
theorem dX5_find_19 : decode cX5_find 19 = .ok (.ireturn, 1) := by decide +kernel
theorem dX5_find_20 : decode cX5_find 20 = .ok (.aload_n 0, 1) := by decide +kernel
theorem dX5_find_21 : decode cX5_find 21 = .ok (.lload_n 1, 1) := by decide +kernel
theorem dX5_find_22 : decode cX5_find 22 = .ok (.invokevirtual 246, 3) := by decide +kernel
theorem dX5_find_25 : decode cX5_find 25 = .ok (.istore_n 3, 1) := by decide +kernel
theorem dX5_find_26 : decode cX5_find 26 = .ok (.aload_n 0, 1) := by decide +kernel
theorem dX5_find_27 : decode cX5_find 27 = .ok (.aload_n 0, 1) := by decide +kernel
theorem dX5_find_28 : decode cX5_find 28 = .ok (.getfield 140, 3) := by decide +kernel
theorem dX5_find_31 : decode cX5_find 31 = .ok (.putfield 143, 3) := by decide +kernel
theorem dX5_find_34 : decode cX5_find 34 = .ok (.aload_n 0, 1) := by decide +kernel
theorem dX5_find_35 : decode cX5_find 35 = .ok (.aload_n 0, 1) := by decide +kernel
theorem dX5_find_36 : decode cX5_find 36 = .ok (.getfield 134, 3) := by decide +kernel
theorem dX5_find_39 : decode cX5_find 39 = .ok (.putfield 137, 3) := by decide +kernel
theorem dX5_find_42 : decode cX5_find 42 = .ok (.iconst 0, 1) := by decide +kernel
theorem dX5_find_43 : decode cX5_find 43 = .ok (.istore 4, 2) := by decide +kernel
theorem dX5_find_45 : decode cX5_find 45 = .ok (.iload 4, 2) := by decide +kernel
theorem dX5_find_47 : decode cX5_find 47 = .ok (.aload_n 0, 1) := by decide +kernel
theorem dX5_find_48 : decode cX5_find 48 = .ok (.getfield 134, 3) := by decide +kernel
theorem dX5_find_51 : decode cX5_find 51 = .ok (.if_icmp .ge 23, 3) := by decide +kernel
theorem dX5_find_54 : decode cX5_find 54 = .ok (.aload_n 0, 1) := by decide +kernel
theorem dX5_find_55 : decode cX5_find 55 = .ok (.getfield 131, 3) := by decide +kernel
theorem dX5_find_58 : decode cX5_find 58 = .ok (.iload 4, 2) := by decide +kernel
theorem dX5_find_60 : decode cX5_find 60 = .ok (.aload_n 0, 1) := by decide +kernel
theorem dX5_find_61 : decode cX5_find 61 = .ok (.getfield 128, 3) := by decide +kernel
theorem dX5_find_64 : decode cX5_find 64 = .ok (.iload 4, 2) := by decide +kernel
theorem dX5_find_66 : decode cX5_find 66 = .ok (.iaload, 1) := by decide +kernel
theorem dX5_find_67 : decode cX5_find 67 = .ok (.iastore, 1) := by decide +kernel
theorem dX5_find_68 : decode cX5_find 68 = .ok (.iinc 4 1, 3) := by decide +kernel
theorem dX5_find_71 : decode cX5_find 71 = .ok (.goto (-26), 3) := by decide +kernel
theorem dX5_find_74 : decode cX5_find 74 = .ok (.aload_n 0, 1) := by decide +kernel
theorem dX5_find_75 : decode cX5_find 75 = .ok (.iconst 1, 1) := by decide +kernel
theorem dX5_find_76 : decode cX5_find 76 = .ok (.putfield 155, 3) := by decide +kernel
theorem dX5_find_79 : decode cX5_find 79 = .ok (.iload_n 3, 1) := by decide +kernel
theorem dX5_find_80 : decode cX5_find 80 = .ok (.ifCond .eq 7, 3) := by decide +kernel
theorem dX5_find_83 : decode cX5_find 83 = .ok (.iconst 1, 1) := by decide +kernel
theorem dX5_find_84 : decode cX5_find 84 = .ok (.goto 4, 3) := by decide +kernel
theorem dX5_find_87 : decode cX5_find 87 = .ok (.iconst 0, 1) := by decide +kernel
theorem dX5_find_88 : decode cX5_find 88 = .ok (.ireturn, 1) := by decide +kernel
theorem dX5_check_0 : decode cX5_check 0 = .ok (.aload_n 0, 1) := by decide +kernel
theorem dX5_check_1 : decode cX5_check 1 = .ok (.getfield 84, 3) := by decide +kernel
theorem dX5_check_4 : decode cX5_check 4 = .ok (.ifCond .ne 5, 3) := by decide +kernel
theorem dX5_check_7 : decode cX5_check 7 = .ok (.iconst (-1), 1) := by decide +kernel
theorem dX5_check_8 : decode cX5_check 8 = .ok (.ireturn, 1) := by decide +kernel
theorem dX5_check_9 : decode cX5_check 9 = .ok (.aload_n 0, 1) := by decide +kernel
theorem dX5_check_10 : decode cX5_check 10 = .ok (.lload_n 1, 1) := by decide +kernel
theorem dX5_check_11 : decode cX5_check 11 = .ok (.invokevirtual 162, 3) := by decide +kernel
theorem dX5_check_14 : decode cX5_check 14 = .ok (.ifCond .eq 10, 3) := by decide +kernel
theorem dX5_check_17 : decode cX5_check 17 = .ok (.aload_n 0, 1) := by decide +kernel
theorem dX5_check_18 : decode cX5_check 18 = .ok (.getfield 155, 3) := by decide +kernel
theorem dX5_check_21 : decode cX5_check 21 = .ok (.ifCond .ne 6, 3) := by decide +kernel
theorem dX5_check_24 : decode cX5_check 24 = .ok (.bipush (-2), 2) := by decide +kernel
theorem dX5_check_26 : decode cX5_check 26 = .ok (.ireturn, 1) := by decide +kernel
theorem dX5_check_27 : decode cX5_check 27 = .ok (.aload_n 0, 1) := by decide +kernel
theorem dX5_check_28 : decode cX5_check 28 = .ok (.lload_n 1, 1) := by decide +kernel
theorem dX5_check_29 : decode cX5_check 29 = .ok (.invokevirtual 246, 3) := by decide +kernel
theorem dX5_check_32 : decode cX5_check 32 = .ok (.istore_n 3, 1) := by decide +kernel
theorem dX5_check_33 : decode cX5_check 33 = .ok (.aload_n 0, 1) := by decide +kernel
theorem dX5_check_34 : decode cX5_check 34 = .ok (.getfield 134, 3) := by decide +kernel
theorem dX5_check_37 : decode cX5_check 37 = .ok (.aload_n 0, 1) := by decide +kernel
theorem dX5_check_38 : decode cX5_check 38 = .ok (.getfield 137, 3) := by decide +kernel
theorem dX5_check_41 : decode cX5_check 41 = .ok (.if_icmp .ne 7, 3) := by decide +kernel
theorem dX5_check_44 : decode cX5_check 44 = .ok (.iconst 1, 1) := by decide +kernel
theorem dX5_check_45 : decode cX5_check 45 = .ok (.goto 4, 3) := by decide +kernel
theorem dX5_check_48 : decode cX5_check 48 = .ok (.iconst 0, 1) := by decide +kernel
theorem dX5_check_49 : decode cX5_check 49 = .ok (.istore 4, 2) := by decide +kernel
theorem dX5_check_51 : decode cX5_check 51 = .ok (.iconst 0, 1) := by decide +kernel
theorem dX5_check_52 : decode cX5_check 52 = .ok (.istore 5, 2) := by decide +kernel
theorem dX5_check_54 : decode cX5_check 54 = .ok (.iload 5, 2) := by decide +kernel
theorem dX5_check_56 : decode cX5_check 56 = .ok (.aload_n 0, 1) := by decide +kernel
theorem dX5_check_57 : decode cX5_check 57 = .ok (.getfield 134, 3) := by decide +kernel
theorem dX5_check_60 : decode cX5_check 60 = .ok (.if_icmp .ge 38, 3) := by decide +kernel
theorem dX5_check_63 : decode cX5_check 63 = .ok (.iload 4, 2) := by decide +kernel
theorem dX5_check_65 : decode cX5_check 65 = .ok (.ifCond .eq 33, 3) := by decide +kernel
theorem dX5_check_68 : decode cX5_check 68 = .ok (.aload_n 0, 1) := by decide +kernel
theorem dX5_check_69 : decode cX5_check 69 = .ok (.getfield 128, 3) := by decide +kernel
theorem dX5_check_72 : decode cX5_check 72 = .ok (.iload 5, 2) := by decide +kernel
theorem dX5_check_74 : decode cX5_check 74 = .ok (.iaload, 1) := by decide +kernel
theorem dX5_check_75 : decode cX5_check 75 = .ok (.aload_n 0, 1) := by decide +kernel
theorem dX5_check_76 : decode cX5_check 76 = .ok (.getfield 131, 3) := by decide +kernel
theorem dX5_check_79 : decode cX5_check 79 = .ok (.iload 5, 2) := by decide +kernel
theorem dX5_check_81 : decode cX5_check 81 = .ok (.iaload, 1) := by decide +kernel
theorem dX5_check_82 : decode cX5_check 82 = .ok (.if_icmp .ne 7, 3) := by decide +kernel
theorem dX5_check_85 : decode cX5_check 85 = .ok (.iconst 1, 1) := by decide +kernel
theorem dX5_check_86 : decode cX5_check 86 = .ok (.goto 4, 3) := by decide +kernel
theorem dX5_check_89 : decode cX5_check 89 = .ok (.iconst 0, 1) := by decide +kernel
theorem dX5_check_90 : decode cX5_check 90 = .ok (.istore 4, 2) := by decide +kernel
theorem dX5_check_92 : decode cX5_check 92 = .ok (.iinc 5 1, 3) := by decide +kernel
theorem dX5_check_95 : decode cX5_check 95 = .ok (.goto (-41), 3) := by decide +kernel
theorem dX5_check_98 : decode cX5_check 98 = .ok (.iload_n 3, 1) := by decide +kernel
theorem dX5_check_99 : decode cX5_check 99 = .ok (.ifCond .eq 7, 3) := by decide +kernel
theorem dX5_check_102 : decode cX5_check 102 = .ok (.iconst 2, 1) := by decide +kernel
theorem dX5_check_103 : decode cX5_check 103 = .ok (.goto 4, 3) := by decide +kernel
theorem dX5_check_106 : decode cX5_check 106 = .ok (.iconst 0, 1) := by decide +kernel
theorem dX5_check_107 : decode cX5_check 107 = .ok (.iload 4, 2) := by decide +kernel
theorem dX5_check_109 : decode cX5_check 109 = .ok (.ifCond .eq 7, 3) := by decide +kernel
theorem dX5_check_112 : decode cX5_check 112 = .ok (.iconst 1, 1) := by decide +kernel
theorem dX5_check_113 : decode cX5_check 113 = .ok (.goto 4, 3) := by decide +kernel
theorem dX5_check_116 : decode cX5_check 116 = .ok (.iconst 0, 1) := by decide +kernel
theorem dX5_check_117 : decode cX5_check 117 = .ok (.iadd, 1) := by decide +kernel
theorem dX5_check_118 : decode cX5_check 118 = .ok (.ireturn, 1) := by decide +kernel
theorem dX5_looks_0 : decode cX5_looks 0 = .ok (.aload_n 0, 1) := by decide +kernel
theorem dX5_looks_1 : decode cX5_looks 1 = .ok (.getfield 143, 3) := by decide +kernel
theorem dX5_looks_4 : decode cX5_looks 4 = .ok (.ireturn, 1) := by decide +kernel
theorem dX5_told_0 : decode cX5_told 0 = .ok (.iload_n 1, 1) := by decide +kernel
theorem dX5_told_1 : decode cX5_told 1 = .ok (.ifCond .lt 11, 3) := by decide +kernel
theorem dX5_told_4 : decode cX5_told 4 = .ok (.iload_n 1, 1) := by decide +kernel
theorem dX5_told_5 : decode cX5_told 5 = .ok (.aload_n 0, 1) := by decide +kernel
theorem dX5_told_6 : decode cX5_told 6 = .ok (.getfield 137, 3) := by decide +kernel
theorem dX5_told_9 : decode cX5_told 9 = .ok (.if_icmp .lt 8, 3) := by decide +kernel
theorem dX5_told_12 : decode cX5_told 12 = .ok (.bipush (-2), 2) := by decide +kernel
theorem dX5_told_14 : decode cX5_told 14 = .ok (.goto 9, 3) := by decide +kernel
theorem dX5_told_17 : decode cX5_told 17 = .ok (.aload_n 0, 1) := by decide +kernel
theorem dX5_told_18 : decode cX5_told 18 = .ok (.getfield 131, 3) := by decide +kernel
theorem dX5_told_21 : decode cX5_told 21 = .ok (.iload_n 1, 1) := by decide +kernel
theorem dX5_told_22 : decode cX5_told 22 = .ok (.iaload, 1) := by decide +kernel
theorem dX5_told_23 : decode cX5_told 23 = .ok (.ireturn, 1) := by decide +kernel
theorem dX5_insert_0 : decode cX5_insert 0 = .ok (.aload_n 0, 1) := by decide +kernel
theorem dX5_insert_1 : decode cX5_insert 1 = .ok (.getfield 84, 3) := by decide +kernel
theorem dX5_insert_4 : decode cX5_insert 4 = .ok (.ifCond .ne 5, 3) := by decide +kernel
theorem dX5_insert_7 : decode cX5_insert 7 = .ok (.iconst (-1), 1) := by decide +kernel
theorem dX5_insert_8 : decode cX5_insert 8 = .ok (.ireturn, 1) := by decide +kernel
theorem dX5_insert_9 : decode cX5_insert 9 = .ok (.aload_n 0, 1) := by decide +kernel
theorem dX5_insert_10 : decode cX5_insert 10 = .ok (.lload_n 1, 1) := by decide +kernel
theorem dX5_insert_11 : decode cX5_insert 11 = .ok (.invokevirtual 162, 3) := by decide +kernel
theorem dX5_insert_14 : decode cX5_insert 14 = .ok (.ifCond .ne 6, 3) := by decide +kernel
theorem dX5_insert_17 : decode cX5_insert 17 = .ok (.bipush (-2), 2) := by decide +kernel
theorem dX5_insert_19 : decode cX5_insert 19 = .ok (.ireturn, 1) := by decide +kernel
