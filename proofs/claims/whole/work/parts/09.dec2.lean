theorem dX4_fill_111 : decode cX4_fill 111 = .ok (.aload_n 0, 1) := by decide +kernel
theorem dX4_fill_112 : decode cX4_fill 112 = .ok (.getfield 15, 3) := by decide +kernel
theorem dX4_fill_115 : decode cX4_fill 115 = .ok (.ireturn, 1) := by decide +kernel
theorem dX4_wipe_0 : decode cX4_wipe 0 = .ok (.aload_n 0, 1) := by decide +kernel
theorem dX4_wipe_1 : decode cX4_wipe 1 = .ok (.getfield 15, 3) := by decide +kernel
theorem dX4_wipe_4 : decode cX4_wipe 4 = .ok (.istore_n 1, 1) := by decide +kernel
theorem dX4_wipe_5 : decode cX4_wipe 5 = .ok (.aload_n 0, 1) := by decide +kernel
theorem dX4_wipe_6 : decode cX4_wipe 6 = .ok (.iconst 0, 1) := by decide +kernel
theorem dX4_wipe_7 : decode cX4_wipe 7 = .ok (.putfield 15, 3) := by decide +kernel
theorem dX4_wipe_10 : decode cX4_wipe 10 = .ok (.iload_n 1, 1) := by decide +kernel
theorem dX4_wipe_11 : decode cX4_wipe 11 = .ok (.ireturn, 1) := by decide +kernel
theorem dX4_margin_0 : decode cX4_margin 0 = .ok (.iload_n 1, 1) := by decide +kernel
theorem dX4_margin_1 : decode cX4_margin 1 = .ok (.invokestatic 79, 3) := by decide +kernel
theorem dX4_margin_4 : decode cX4_margin 4 = .ok (.ifCond .ne 6, 3) := by decide +kernel
theorem dX4_margin_7 : decode cX4_margin 7 = .ok (.bipush (-2), 2) := by decide +kernel
theorem dX4_margin_9 : decode cX4_margin 9 = .ok (.ireturn, 1) := by decide +kernel
theorem dX4_margin_10 : decode cX4_margin 10 = .ok (.aload_n 0, 1) := by decide +kernel
theorem dX4_margin_11 : decode cX4_margin 11 = .ok (.getfield 19, 3) := by decide +kernel
theorem dX4_margin_14 : decode cX4_margin 14 = .ok (.istore_n 2, 1) := by decide +kernel
theorem dX4_margin_15 : decode cX4_margin 15 = .ok (.aload_n 0, 1) := by decide +kernel
theorem dX4_margin_16 : decode cX4_margin 16 = .ok (.iload_n 1, 1) := by decide +kernel
theorem dX4_margin_17 : decode cX4_margin 17 = .ok (.putfield 19, 3) := by decide +kernel
theorem dX4_margin_20 : decode cX4_margin 20 = .ok (.iload_n 2, 1) := by decide +kernel
theorem dX4_margin_21 : decode cX4_margin 21 = .ok (.ireturn, 1) := by decide +kernel
theorem dX4_few_0 : decode cX4_few 0 = .ok (.iload_n 1, 1) := by decide +kernel
theorem dX4_few_1 : decode cX4_few 1 = .ok (.invokestatic 79, 3) := by decide +kernel
theorem dX4_few_4 : decode cX4_few 4 = .ok (.ifCond .ne 6, 3) := by decide +kernel
theorem dX4_few_7 : decode cX4_few 7 = .ok (.bipush (-2), 2) := by decide +kernel
theorem dX4_few_9 : decode cX4_few 9 = .ok (.ireturn, 1) := by decide +kernel
theorem dX4_few_10 : decode cX4_few 10 = .ok (.iconst 0, 1) := by decide +kernel
theorem dX4_few_11 : decode cX4_few 11 = .ok (.istore_n 2, 1) := by decide +kernel
theorem dX4_few_12 : decode cX4_few 12 = .ok (.iconst 0, 1) := by decide +kernel
theorem dX4_few_13 : decode cX4_few 13 = .ok (.istore_n 3, 1) := by decide +kernel
theorem dX4_few_14 : decode cX4_few 14 = .ok (.iload_n 3, 1) := by decide +kernel
theorem dX4_few_15 : decode cX4_few 15 = .ok (.aload_n 0, 1) := by decide +kernel
theorem dX4_few_16 : decode cX4_few 16 = .ok (.getfield 15, 3) := by decide +kernel
theorem dX4_few_19 : decode cX4_few 19 = .ok (.if_icmp .ge 35, 3) := by decide +kernel
theorem dX4_few_22 : decode cX4_few 22 = .ok (.iload_n 2, 1) := by decide +kernel
theorem dX4_few_23 : decode cX4_few 23 = .ok (.aload_n 0, 1) := by decide +kernel
theorem dX4_few_24 : decode cX4_few 24 = .ok (.getfield 15, 3) := by decide +kernel
theorem dX4_few_27 : decode cX4_few 27 = .ok (.if_icmp .ge 27, 3) := by decide +kernel
theorem dX4_few_30 : decode cX4_few 30 = .ok (.aload_n 0, 1) := by decide +kernel
theorem dX4_few_31 : decode cX4_few 31 = .ok (.getfield 63, 3) := by decide +kernel
theorem dX4_few_34 : decode cX4_few 34 = .ok (.aload_n 0, 1) := by decide +kernel
theorem dX4_few_35 : decode cX4_few 35 = .ok (.getfield 11, 3) := by decide +kernel
theorem dX4_few_38 : decode cX4_few 38 = .ok (.iload_n 3, 1) := by decide +kernel
theorem dX4_few_39 : decode cX4_few 39 = .ok (.aload_n 0, 1) := by decide +kernel
theorem dX4_few_40 : decode cX4_few 40 = .ok (.getfield 15, 3) := by decide +kernel
theorem dX4_few_43 : decode cX4_few 43 = .ok (.iload_n 1, 1) := by decide +kernel
theorem dX4_few_44 : decode cX4_few 44 = .ok (.invokevirtual 83, 3) := by decide +kernel
theorem dX4_few_47 : decode cX4_few 47 = .ok (.istore_n 3, 1) := by decide +kernel
theorem dX4_few_48 : decode cX4_few 48 = .ok (.iinc 2 1, 3) := by decide +kernel
theorem dX4_few_51 : decode cX4_few 51 = .ok (.goto (-37), 3) := by decide +kernel
theorem dX4_few_54 : decode cX4_few 54 = .ok (.iload_n 2, 1) := by decide +kernel
theorem dX4_few_55 : decode cX4_few 55 = .ok (.ireturn, 1) := by decide +kernel
theorem dX4_passes_0 : decode cX4_passes 0 = .ok (.iload 4, 2) := by decide +kernel
theorem dX4_passes_2 : decode cX4_passes 2 = .ok (.invokestatic 79, 3) := by decide +kernel
theorem dX4_passes_5 : decode cX4_passes 5 = .ok (.ifCond .eq 25, 3) := by decide +kernel
theorem dX4_passes_8 : decode cX4_passes 8 = .ok (.iload_n 1, 1) := by decide +kernel
theorem dX4_passes_9 : decode cX4_passes 9 = .ok (.ifCond .lt 21, 3) := by decide +kernel
theorem dX4_passes_12 : decode cX4_passes 12 = .ok (.iload_n 2, 1) := by decide +kernel
theorem dX4_passes_13 : decode cX4_passes 13 = .ok (.iload_n 1, 1) := by decide +kernel
theorem dX4_passes_14 : decode cX4_passes 14 = .ok (.if_icmp .le 16, 3) := by decide +kernel
theorem dX4_passes_17 : decode cX4_passes 17 = .ok (.iload_n 3, 1) := by decide +kernel
theorem dX4_passes_18 : decode cX4_passes 18 = .ok (.iload_n 2, 1) := by decide +kernel
theorem dX4_passes_19 : decode cX4_passes 19 = .ok (.if_icmp .le 11, 3) := by decide +kernel
theorem dX4_passes_22 : decode cX4_passes 22 = .ok (.iload_n 3, 1) := by decide +kernel
theorem dX4_passes_23 : decode cX4_passes 23 = .ok (.aload_n 0, 1) := by decide +kernel
theorem dX4_passes_24 : decode cX4_passes 24 = .ok (.getfield 15, 3) := by decide +kernel
theorem dX4_passes_27 : decode cX4_passes 27 = .ok (.if_icmp .lt 6, 3) := by decide +kernel
theorem dX4_passes_30 : decode cX4_passes 30 = .ok (.bipush (-2), 2) := by decide +kernel
theorem dX4_passes_32 : decode cX4_passes 32 = .ok (.ireturn, 1) := by decide +kernel
theorem dX4_passes_33 : decode cX4_passes 33 = .ok (.aload_n 0, 1) := by decide +kernel
theorem dX4_passes_34 : decode cX4_passes 34 = .ok (.getfield 63, 3) := by decide +kernel
theorem dX4_passes_37 : decode cX4_passes 37 = .ok (.aload_n 0, 1) := by decide +kernel
theorem dX4_passes_38 : decode cX4_passes 38 = .ok (.getfield 11, 3) := by decide +kernel
theorem dX4_passes_41 : decode cX4_passes 41 = .ok (.iload_n 1, 1) := by decide +kernel
theorem dX4_passes_42 : decode cX4_passes 42 = .ok (.iload_n 2, 1) := by decide +kernel
theorem dX4_passes_43 : decode cX4_passes 43 = .ok (.iload_n 3, 1) := by decide +kernel
theorem dX4_passes_44 : decode cX4_passes 44 = .ok (.iload 4, 2) := by decide +kernel
theorem dX4_passes_46 : decode cX4_passes 46 = .ok (.invokevirtual 87, 3) := by decide +kernel
theorem dX4_passes_49 : decode cX4_passes 49 = .ok (.ifCond .eq 7, 3) := by decide +kernel
theorem dX4_passes_52 : decode cX4_passes 52 = .ok (.iconst 1, 1) := by decide +kernel
theorem dX4_passes_53 : decode cX4_passes 53 = .ok (.goto 4, 3) := by decide +kernel
theorem dX4_passes_56 : decode cX4_passes 56 = .ok (.iconst 0, 1) := by decide +kernel
theorem dX4_passes_57 : decode cX4_passes 57 = .ok (.ireturn, 1) := by decide +kernel
theorem dX4_span_0 : decode cX4_span 0 = .ok (.iload_n 1, 1) := by decide +kernel
theorem dX4_span_1 : decode cX4_span 1 = .ok (.ifCond .le 7, 3) := by decide +kernel
theorem dX4_span_4 : decode cX4_span 4 = .ok (.iconst 3, 1) := by decide +kernel
theorem dX4_span_5 : decode cX4_span 5 = .ok (.goto 4, 3) := by decide +kernel
theorem dX4_span_8 : decode cX4_span 8 = .ok (.iconst 1, 1) := by decide +kernel
theorem dX4_span_9 : decode cX4_span 9 = .ok (.istore_n 3, 1) := by decide +kernel
theorem dX4_span_10 : decode cX4_span 10 = .ok (.iload_n 1, 1) := by decide +kernel
theorem dX4_span_11 : decode cX4_span 11 = .ok (.ifCond .lt 12, 3) := by decide +kernel
theorem dX4_span_14 : decode cX4_span 14 = .ok (.iload_n 2, 1) := by decide +kernel
theorem dX4_span_15 : decode cX4_span 15 = .ok (.ifCond .lt 8, 3) := by decide +kernel
theorem dX4_span_18 : decode cX4_span 18 = .ok (.iload_n 2, 1) := by decide +kernel
theorem dX4_span_19 : decode cX4_span 19 = .ok (.iload_n 3, 1) := by decide +kernel
theorem dX4_span_20 : decode cX4_span 20 = .ok (.if_icmp .le 5, 3) := by decide +kernel
theorem dX4_span_23 : decode cX4_span 23 = .ok (.iconst (-1), 1) := by decide +kernel
theorem dX4_span_24 : decode cX4_span 24 = .ok (.ireturn, 1) := by decide +kernel
theorem dX4_span_25 : decode cX4_span 25 = .ok (.iconst 0, 1) := by decide +kernel
theorem dX4_span_26 : decode cX4_span 26 = .ok (.istore 4, 2) := by decide +kernel
theorem dX4_span_28 : decode cX4_span 28 = .ok (.iconst 0, 1) := by decide +kernel
theorem dX4_span_29 : decode cX4_span 29 = .ok (.istore 5, 2) := by decide +kernel
theorem dX4_span_31 : decode cX4_span 31 = .ok (.iconst 0, 1) := by decide +kernel
theorem dX4_span_32 : decode cX4_span 32 = .ok (.istore 6, 2) := by decide +kernel
theorem dX4_span_34 : decode cX4_span 34 = .ok (.iload 6, 2) := by decide +kernel
theorem dX4_span_36 : decode cX4_span 36 = .ok (.iload_n 1, 1) := by decide +kernel
theorem dX4_span_37 : decode cX4_span 37 = .ok (.if_icmp .ge 45, 3) := by decide +kernel
theorem dX4_span_40 : decode cX4_span 40 = .ok (.iload 5, 2) := by decide +kernel
theorem dX4_span_42 : decode cX4_span 42 = .ok (.aload_n 0, 1) := by decide +kernel
theorem dX4_span_43 : decode cX4_span 43 = .ok (.getfield 15, 3) := by decide +kernel
theorem dX4_span_46 : decode cX4_span 46 = .ok (.if_icmp .ge 36, 3) := by decide +kernel
theorem dX4_span_49 : decode cX4_span 49 = .ok (.iload 5, 2) := by decide +kernel
theorem dX4_span_51 : decode cX4_span 51 = .ok (.istore 4, 2) := by decide +kernel
theorem dX4_span_53 : decode cX4_span 53 = .ok (.aload_n 0, 1) := by decide +kernel
theorem dX4_span_54 : decode cX4_span 54 = .ok (.getfield 63, 3) := by decide +kernel
theorem dX4_span_57 : decode cX4_span 57 = .ok (.aload_n 0, 1) := by decide +kernel
theorem dX4_span_58 : decode cX4_span 58 = .ok (.getfield 11, 3) := by decide +kernel
theorem dX4_span_61 : decode cX4_span 61 = .ok (.iload 5, 2) := by decide +kernel
theorem dX4_span_63 : decode cX4_span 63 = .ok (.aload_n 0, 1) := by decide +kernel
theorem dX4_span_64 : decode cX4_span 64 = .ok (.getfield 15, 3) := by decide +kernel
theorem dX4_span_67 : decode cX4_span 67 = .ok (.aload_n 0, 1) := by decide +kernel
theorem dX4_span_68 : decode cX4_span 68 = .ok (.getfield 19, 3) := by decide +kernel
theorem dX4_span_71 : decode cX4_span 71 = .ok (.invokevirtual 83, 3) := by decide +kernel
theorem dX4_span_74 : decode cX4_span 74 = .ok (.istore 5, 2) := by decide +kernel
theorem dX4_span_76 : decode cX4_span 76 = .ok (.iinc 6 1, 3) := by decide +kernel
theorem dX4_span_79 : decode cX4_span 79 = .ok (.goto (-45), 3) := by decide +kernel
theorem dX4_span_82 : decode cX4_span 82 = .ok (.iload 5, 2) := by decide +kernel
theorem dX4_span_84 : decode cX4_span 84 = .ok (.aload_n 0, 1) := by decide +kernel
theorem dX4_span_85 : decode cX4_span 85 = .ok (.getfield 15, 3) := by decide +kernel
theorem dX4_span_88 : decode cX4_span 88 = .ok (.if_icmp .lt 5, 3) := by decide +kernel
theorem dX4_span_91 : decode cX4_span 91 = .ok (.iconst (-1), 1) := by decide +kernel
theorem dX4_span_92 : decode cX4_span 92 = .ok (.ireturn, 1) := by decide +kernel
theorem dX4_span_93 : decode cX4_span 93 = .ok (.iload_n 2, 1) := by decide +kernel
theorem dX4_span_94 : decode cX4_span 94 = .ok (.ifCond .ne 6, 3) := by decide +kernel
theorem dX4_span_97 : decode cX4_span 97 = .ok (.iload 5, 2) := by decide +kernel
theorem dX4_span_99 : decode cX4_span 99 = .ok (.ireturn, 1) := by decide +kernel
theorem dX4_span_100 : decode cX4_span 100 = .ok (.iload_n 2, 1) := by decide +kernel
theorem dX4_span_101 : decode cX4_span 101 = .ok (.iconst 1, 1) := by decide +kernel
theorem dX4_span_102 : decode cX4_span 102 = .ok (.if_icmp .ne 28, 3) := by decide +kernel
theorem dX4_span_105 : decode cX4_span 105 = .ok (.aload_n 0, 1) := by decide +kernel
theorem dX4_span_106 : decode cX4_span 106 = .ok (.getfield 63, 3) := by decide +kernel
theorem dX4_span_109 : decode cX4_span 109 = .ok (.aload_n 0, 1) := by decide +kernel
theorem dX4_span_110 : decode cX4_span 110 = .ok (.getfield 11, 3) := by decide +kernel
theorem dX4_span_113 : decode cX4_span 113 = .ok (.iload 5, 2) := by decide +kernel
theorem dX4_span_115 : decode cX4_span 115 = .ok (.aload_n 0, 1) := by decide +kernel
theorem dX4_span_116 : decode cX4_span 116 = .ok (.getfield 15, 3) := by decide +kernel
theorem dX4_span_119 : decode cX4_span 119 = .ok (.aload_n 0, 1) := by decide +kernel
theorem dX4_span_120 : decode cX4_span 120 = .ok (.getfield 19, 3) := by decide +kernel
theorem dX4_span_123 : decode cX4_span 123 = .ok (.invokevirtual 83, 3) := by decide +kernel
theorem dX4_span_126 : decode cX4_span 126 = .ok (.iload 5, 2) := by decide +kernel
theorem dX4_span_128 : decode cX4_span 128 = .ok (.isub, 1) := by decide +kernel
theorem dX4_span_129 : decode cX4_span 129 = .ok (.ireturn, 1) := by decide +kernel
theorem dX4_span_130 : decode cX4_span 130 = .ok (.aload_n 0, 1) := by decide +kernel
theorem dX4_span_131 : decode cX4_span 131 = .ok (.iload 4, 2) := by decide +kernel
theorem dX4_span_133 : decode cX4_span 133 = .ok (.iload 5, 2) := by decide +kernel
theorem dX4_span_135 : decode cX4_span 135 = .ok (.iload_n 2, 1) := by decide +kernel
theorem dX4_span_136 : decode cX4_span 136 = .ok (.iconst 2, 1) := by decide +kernel
theorem dX4_span_137 : decode cX4_span 137 = .ok (.if_icmp .ne 7, 3) := by decide +kernel
theorem dX4_span_140 : decode cX4_span 140 = .ok (.iconst 1, 1) := by decide +kernel
theorem dX4_span_141 : decode cX4_span 141 = .ok (.goto 4, 3) := by decide +kernel
theorem dX4_span_144 : decode cX4_span 144 = .ok (.iconst 0, 1) := by decide +kernel
theorem dX4_span_145 : decode cX4_span 145 = .ok (.invokevirtual 91, 3) := by decide +kernel
theorem dX4_span_148 : decode cX4_span 148 = .ok (.ireturn, 1) := by decide +kernel
theorem dX4_oneOfTwoThatBar_0 : decode cX4_oneOfTwoThatBar 0 = .ok (.iload_n 1, 1) := by decide +kernel
theorem dX4_oneOfTwoThatBar_1 : decode cX4_oneOfTwoThatBar 1 = .ok (.istore 4, 2) := by decide +kernel
theorem dX4_oneOfTwoThatBar_3 : decode cX4_oneOfTwoThatBar 3 = .ok (.iload 4, 2) := by decide +kernel
theorem dX4_oneOfTwoThatBar_5 : decode cX4_oneOfTwoThatBar 5 = .ok (.iload_n 2, 1) := by decide +kernel
theorem dX4_oneOfTwoThatBar_6 : decode cX4_oneOfTwoThatBar 6 = .ok (.if_icmp .ge 62, 3) := by decide +kernel
theorem dX4_oneOfTwoThatBar_9 : decode cX4_oneOfTwoThatBar 9 = .ok (.iload 4, 2) := by decide +kernel
theorem dX4_oneOfTwoThatBar_11 : decode cX4_oneOfTwoThatBar 11 = .ok (.iconst 1, 1) := by decide +kernel
theorem dX4_oneOfTwoThatBar_12 : decode cX4_oneOfTwoThatBar 12 = .ok (.iadd, 1) := by decide +kernel
theorem dX4_oneOfTwoThatBar_13 : decode cX4_oneOfTwoThatBar 13 = .ok (.istore 5, 2) := by decide +kernel
theorem dX4_oneOfTwoThatBar_15 : decode cX4_oneOfTwoThatBar 15 = .ok (.iload 5, 2) := by decide +kernel
theorem dX4_oneOfTwoThatBar_17 : decode cX4_oneOfTwoThatBar 17 = .ok (.iload_n 2, 1) := by decide +kernel
theorem dX4_oneOfTwoThatBar_18 : decode cX4_oneOfTwoThatBar 18 = .ok (.if_icmp .ge 44, 3) := by decide +kernel
theorem dX4_oneOfTwoThatBar_21 : decode cX4_oneOfTwoThatBar 21 = .ok (.aload_n 0, 1) := by decide +kernel
theorem dX4_oneOfTwoThatBar_22 : decode cX4_oneOfTwoThatBar 22 = .ok (.getfield 63, 3) := by decide +kernel
theorem dX4_oneOfTwoThatBar_25 : decode cX4_oneOfTwoThatBar 25 = .ok (.aload_n 0, 1) := by decide +kernel
theorem dX4_oneOfTwoThatBar_26 : decode cX4_oneOfTwoThatBar 26 = .ok (.getfield 11, 3) := by decide +kernel
theorem dX4_oneOfTwoThatBar_29 : decode cX4_oneOfTwoThatBar 29 = .ok (.iload 4, 2) := by decide +kernel
theorem dX4_oneOfTwoThatBar_31 : decode cX4_oneOfTwoThatBar 31 = .ok (.iload 5, 2) := by decide +kernel
theorem dX4_oneOfTwoThatBar_33 : decode cX4_oneOfTwoThatBar 33 = .ok (.iload_n 2, 1) := by decide +kernel
theorem dX4_oneOfTwoThatBar_34 : decode cX4_oneOfTwoThatBar 34 = .ok (.aload_n 0, 1) := by decide +kernel
theorem dX4_oneOfTwoThatBar_35 : decode cX4_oneOfTwoThatBar 35 = .ok (.getfield 19, 3) := by decide +kernel
theorem dX4_oneOfTwoThatBar_38 : decode cX4_oneOfTwoThatBar 38 = .ok (.invokevirtual 87, 3) := by decide +kernel
theorem dX4_oneOfTwoThatBar_41 : decode cX4_oneOfTwoThatBar 41 = .ok (.ifCond .ne 15, 3) := by decide +kernel
theorem dX4_oneOfTwoThatBar_44 : decode cX4_oneOfTwoThatBar 44 = .ok (.iload_n 3, 1) := by decide +kernel
theorem dX4_oneOfTwoThatBar_45 : decode cX4_oneOfTwoThatBar 45 = .ok (.ifCond .eq 8, 3) := by decide +kernel
theorem dX4_oneOfTwoThatBar_48 : decode cX4_oneOfTwoThatBar 48 = .ok (.iload 4, 2) := by decide +kernel
theorem dX4_oneOfTwoThatBar_50 : decode cX4_oneOfTwoThatBar 50 = .ok (.goto 5, 3) := by decide +kernel
theorem dX4_oneOfTwoThatBar_53 : decode cX4_oneOfTwoThatBar 53 = .ok (.iload 5, 2) := by decide +kernel
theorem dX4_oneOfTwoThatBar_55 : decode cX4_oneOfTwoThatBar 55 = .ok (.ireturn, 1) := by decide +kernel
theorem dX4_oneOfTwoThatBar_56 : decode cX4_oneOfTwoThatBar 56 = .ok (.iinc 5 1, 3) := by decide +kernel
theorem dX4_oneOfTwoThatBar_59 : decode cX4_oneOfTwoThatBar 59 = .ok (.goto (-44), 3) := by decide +kernel
theorem dX4_oneOfTwoThatBar_62 : decode cX4_oneOfTwoThatBar 62 = .ok (.iinc 4 1, 3) := by decide +kernel
theorem dX4_oneOfTwoThatBar_65 : decode cX4_oneOfTwoThatBar 65 = .ok (.goto (-62), 3) := by decide +kernel
theorem dX4_oneOfTwoThatBar_68 : decode cX4_oneOfTwoThatBar 68 = .ok (.iconst (-1), 1) := by decide +kernel
theorem dX4_oneOfTwoThatBar_69 : decode cX4_oneOfTwoThatBar 69 = .ok (.ireturn, 1) := by decide +kernel
theorem dX4_build_0 : decode cX4_build 0 = .ok (.aload_n 0, 1) := by decide +kernel
theorem dX4_build_1 : decode cX4_build 1 = .ok (.iload_n 1, 1) := by decide +kernel
theorem dX4_build_2 : decode cX4_build 2 = .ok (.invokevirtual 95, 3) := by decide +kernel
theorem dX4_build_5 : decode cX4_build 5 = .ok (.ifCond .eq 10, 3) := by decide +kernel
theorem dX4_build_8 : decode cX4_build 8 = .ok (.aload_n 0, 1) := by decide +kernel
theorem dX4_build_9 : decode cX4_build 9 = .ok (.getfield 15, 3) := by decide +kernel
theorem dX4_build_12 : decode cX4_build 12 = .ok (.ifCond .ne 6, 3) := by decide +kernel
theorem dX4_build_15 : decode cX4_build 15 = .ok (.bipush (-2), 2) := by decide +kernel
theorem dX4_build_17 : decode cX4_build 17 = .ok (.ireturn, 1) := by decide +kernel
theorem dX4_build_18 : decode cX4_build 18 = .ok (.aload_n 0, 1) := by decide +kernel
theorem dX4_build_19 : decode cX4_build 19 = .ok (.getfield 11, 3) := by decide +kernel
theorem dX4_build_22 : decode cX4_build 22 = .ok (.iconst 0, 1) := by decide +kernel
theorem dX4_build_23 : decode cX4_build 23 = .ok (.aload_n 0, 1) := by decide +kernel
theorem dX4_build_24 : decode cX4_build 24 = .ok (.getfield 67, 3) := by decide +kernel
theorem dX4_build_27 : decode cX4_build 27 = .ok (.iconst 0, 1) := by decide +kernel
theorem dX4_build_28 : decode cX4_build 28 = .ok (.aload_n 0, 1) := by decide +kernel
theorem dX4_build_29 : decode cX4_build 29 = .ok (.getfield 15, 3) := by decide +kernel
theorem dX4_build_32 : decode cX4_build 32 = .ok (.invokestatic 98, 3) := by decide +kernel
theorem dX4_build_35 : decode cX4_build 35 = .ok (.aload_n 0, 1) := by decide +kernel
theorem dX4_build_36 : decode cX4_build 36 = .ok (.aload_n 0, 1) := by decide +kernel
theorem dX4_build_37 : decode cX4_build 37 = .ok (.getfield 15, 3) := by decide +kernel
theorem dX4_build_40 : decode cX4_build 40 = .ok (.putfield 41, 3) := by decide +kernel
theorem dX4_build_43 : decode cX4_build 43 = .ok (.aload_n 0, 1) := by decide +kernel
theorem dX4_build_44 : decode cX4_build 44 = .ok (.iconst 0, 1) := by decide +kernel
theorem dX4_build_45 : decode cX4_build 45 = .ok (.aload_n 0, 1) := by decide +kernel
theorem dX4_build_46 : decode cX4_build 46 = .ok (.getfield 27, 3) := by decide +kernel
theorem dX4_build_49 : decode cX4_build 49 = .ok (.getfield 104, 3) := by decide +kernel
theorem dX4_build_52 : decode cX4_build 52 = .ok (.aload_n 0, 1) := by decide +kernel
theorem dX4_build_53 : decode cX4_build 53 = .ok (.getfield 15, 3) := by decide +kernel
theorem dX4_build_56 : decode cX4_build 56 = .ok (.iload_n 1, 1) := by decide +kernel
theorem dX4_build_57 : decode cX4_build 57 = .ok (.invokevirtual 107, 3) := by decide +kernel
theorem dX4_build_60 : decode cX4_build 60 = .ok (.ireturn, 1) := by decide +kernel
theorem dX4_again_0 : decode cX4_again 0 = .ok (.aload_n 0, 1) := by decide +kernel
theorem dX4_again_1 : decode cX4_again 1 = .ok (.invokevirtual 111, 3) := by decide +kernel
theorem dX4_again_4 : decode cX4_again 4 = .ok (.ifCond .ne 5, 3) := by decide +kernel
theorem dX4_again_7 : decode cX4_again 7 = .ok (.iconst (-1), 1) := by decide +kernel
theorem dX4_again_8 : decode cX4_again 8 = .ok (.ireturn, 1) := by decide +kernel
theorem dX4_again_9 : decode cX4_again 9 = .ok (.aload_n 0, 1) := by decide +kernel
theorem dX4_again_10 : decode cX4_again 10 = .ok (.iload_n 1, 1) := by decide +kernel
theorem dX4_again_11 : decode cX4_again 11 = .ok (.invokevirtual 95, 3) := by decide +kernel
theorem dX4_again_14 : decode cX4_again 14 = .ok (.ifCond .ne 6, 3) := by decide +kernel
theorem dX4_again_17 : decode cX4_again 17 = .ok (.bipush (-2), 2) := by decide +kernel
theorem dX4_again_19 : decode cX4_again 19 = .ok (.ireturn, 1) := by decide +kernel
theorem dX4_again_20 : decode cX4_again 20 = .ok (.aload_n 0, 1) := by decide +kernel
theorem dX4_again_21 : decode cX4_again 21 = .ok (.iconst 0, 1) := by decide +kernel
theorem dX4_again_22 : decode cX4_again 22 = .ok (.aload_n 0, 1) := by decide +kernel
theorem dX4_again_23 : decode cX4_again 23 = .ok (.getfield 27, 3) := by decide +kernel
theorem dX4_again_26 : decode cX4_again 26 = .ok (.getfield 104, 3) := by decide +kernel
theorem dX4_again_29 : decode cX4_again 29 = .ok (.aload_n 0, 1) := by decide +kernel
theorem dX4_again_30 : decode cX4_again 30 = .ok (.invokevirtual 115, 3) := by decide +kernel
theorem dX4_again_33 : decode cX4_again 33 = .ok (.iload_n 1, 1) := by decide +kernel
theorem dX4_again_34 : decode cX4_again 34 = .ok (.invokevirtual 107, 3) := by decide +kernel
theorem dX4_again_37 : decode cX4_again 37 = .ok (.ireturn, 1) := by decide +kernel
theorem dX4_clear_0 : decode cX4_clear 0 = .ok (.aload_n 0, 1) := by decide +kernel
theorem dX4_clear_1 : decode cX4_clear 1 = .ok (.getfield 41, 3) := by decide +kernel
theorem dX4_clear_4 : decode cX4_clear 4 = .ok (.istore_n 1, 1) := by decide +kernel
theorem dX4_clear_5 : decode cX4_clear 5 = .ok (.aload_n 0, 1) := by decide +kernel
theorem dX4_clear_6 : decode cX4_clear 6 = .ok (.getfield 27, 3) := by decide +kernel
theorem dX4_clear_9 : decode cX4_clear 9 = .ok (.invokevirtual 119, 3) := by decide +kernel
theorem dX4_clear_12 : decode cX4_clear 12 = .ok (.aload_n 0, 1) := by decide +kernel
theorem dX4_clear_13 : decode cX4_clear 13 = .ok (.iconst 0, 1) := by decide +kernel
theorem dX4_clear_14 : decode cX4_clear 14 = .ok (.putfield 38, 3) := by decide +kernel
theorem dX4_clear_17 : decode cX4_clear 17 = .ok (.aload_n 0, 1) := by decide +kernel
theorem dX4_clear_18 : decode cX4_clear 18 = .ok (.iconst 0, 1) := by decide +kernel
theorem dX4_clear_19 : decode cX4_clear 19 = .ok (.putfield 41, 3) := by decide +kernel
theorem dX4_clear_22 : decode cX4_clear 22 = .ok (.iload_n 1, 1) := by decide +kernel
theorem dX4_clear_23 : decode cX4_clear 23 = .ok (.ireturn, 1) := by decide +kernel
theorem dX4_round_0 : decode cX4_round 0 = .ok (.aload_n 0, 1) := by decide +kernel
theorem dX4_round_1 : decode cX4_round 1 = .ok (.getfield 27, 3) := by decide +kernel
theorem dX4_round_4 : decode cX4_round 4 = .ok (.iload_n 1, 1) := by decide +kernel
theorem dX4_round_5 : decode cX4_round 5 = .ok (.invokevirtual 122, 3) := by decide +kernel
theorem dX4_round_8 : decode cX4_round 8 = .ok (.astore_n 2, 1) := by decide +kernel
theorem dX4_round_9 : decode cX4_round 9 = .ok (.aload_n 2, 1) := by decide +kernel
theorem dX4_round_10 : decode cX4_round 10 = .ok (.ifnonnull 5, 3) := by decide +kernel
theorem dX4_round_13 : decode cX4_round 13 = .ok (.iconst (-1), 1) := by decide +kernel
theorem dX4_round_14 : decode cX4_round 14 = .ok (.ireturn, 1) := by decide +kernel
theorem dX4_round_15 : decode cX4_round 15 = .ok (.aload_n 2, 1) := by decide +kernel
theorem dX4_round_16 : decode cX4_round 16 = .ok (.getfield 126, 3) := by decide +kernel
theorem dX4_round_19 : decode cX4_round 19 = .ok (.iconst 1, 1) := by decide +kernel
theorem dX4_round_20 : decode cX4_round 20 = .ok (.if_icmp .eq 6, 3) := by decide +kernel
theorem dX4_round_23 : decode cX4_round 23 = .ok (.bipush (-2), 2) := by decide +kernel
theorem dX4_round_25 : decode cX4_round 25 = .ok (.ireturn, 1) := by decide +kernel
theorem dX4_round_26 : decode cX4_round 26 = .ok (.aload_n 0, 1) := by decide +kernel
theorem dX4_round_27 : decode cX4_round 27 = .ok (.getfield 27, 3) := by decide +kernel
theorem dX4_round_30 : decode cX4_round 30 = .ok (.aload_n 2, 1) := by decide +kernel
theorem dX4_round_31 : decode cX4_round 31 = .ok (.invokevirtual 131, 3) := by decide +kernel
theorem dX4_round_34 : decode cX4_round 34 = .ok (.ifCond .eq 7, 3) := by decide +kernel
theorem dX4_round_37 : decode cX4_round 37 = .ok (.iconst 1, 1) := by decide +kernel
theorem dX4_round_38 : decode cX4_round 38 = .ok (.goto 4, 3) := by decide +kernel
theorem dX4_round_41 : decode cX4_round 41 = .ok (.iconst 0, 1) := by decide +kernel
theorem dX4_round_42 : decode cX4_round 42 = .ok (.ireturn, 1) := by decide +kernel
theorem dX4_merge_0 : decode cX4_merge 0 = .ok (.iload_n 1, 1) := by decide +kernel
theorem dX4_merge_1 : decode cX4_merge 1 = .ok (.ifCond .lt 16, 3) := by decide +kernel
theorem dX4_merge_4 : decode cX4_merge 4 = .ok (.iload_n 1, 1) := by decide +kernel
theorem dX4_merge_5 : decode cX4_merge 5 = .ok (.aload_n 0, 1) := by decide +kernel
theorem dX4_merge_6 : decode cX4_merge 6 = .ok (.getfield 27, 3) := by decide +kernel
theorem dX4_merge_9 : decode cX4_merge 9 = .ok (.getfield 104, 3) := by decide +kernel
theorem dX4_merge_12 : decode cX4_merge 12 = .ok (.iconst 1, 1) := by decide +kernel
theorem dX4_merge_13 : decode cX4_merge 13 = .ok (.isub, 1) := by decide +kernel
theorem dX4_merge_14 : decode cX4_merge 14 = .ok (.if_icmp .lt 5, 3) := by decide +kernel
theorem dX4_merge_17 : decode cX4_merge 17 = .ok (.iconst (-1), 1) := by decide +kernel
theorem dX4_merge_18 : decode cX4_merge 18 = .ok (.ireturn, 1) := by decide +kernel
theorem dX4_merge_19 : decode cX4_merge 19 = .ok (.aload_n 0, 1) := by decide +kernel
theorem dX4_merge_20 : decode cX4_merge 20 = .ok (.iload_n 1, 1) := by decide +kernel
theorem dX4_merge_21 : decode cX4_merge 21 = .ok (.iload_n 1, 1) := by decide +kernel
theorem dX4_merge_22 : decode cX4_merge 22 = .ok (.iconst 2, 1) := by decide +kernel
theorem dX4_merge_23 : decode cX4_merge 23 = .ok (.iadd, 1) := by decide +kernel
theorem dX4_merge_24 : decode cX4_merge 24 = .ok (.aload_n 0, 1) := by decide +kernel
theorem dX4_merge_25 : decode cX4_merge 25 = .ok (.getfield 27, 3) := by decide +kernel
theorem dX4_merge_28 : decode cX4_merge 28 = .ok (.iload_n 1, 1) := by decide +kernel
theorem dX4_merge_29 : decode cX4_merge 29 = .ok (.iload_n 1, 1) := by decide +kernel
theorem dX4_merge_30 : decode cX4_merge 30 = .ok (.iconst 2, 1) := by decide +kernel
theorem dX4_merge_31 : decode cX4_merge 31 = .ok (.iadd, 1) := by decide +kernel
theorem dX4_merge_32 : decode cX4_merge 32 = .ok (.aload_n 0, 1) := by decide +kernel
theorem dX4_merge_33 : decode cX4_merge 33 = .ok (.getfield 67, 3) := by decide +kernel
theorem dX4_merge_36 : decode cX4_merge 36 = .ok (.invokevirtual 135, 3) := by decide +kernel
theorem dX4_merge_39 : decode cX4_merge 39 = .ok (.iconst 1, 1) := by decide +kernel
theorem dX4_merge_40 : decode cX4_merge 40 = .ok (.invokevirtual 107, 3) := by decide +kernel
theorem dX4_merge_43 : decode cX4_merge 43 = .ok (.ireturn, 1) := by decide +kernel
theorem dX4_replace_0 : decode cX4_replace 0 = .ok (.aload_n 0, 1) := by decide +kernel
theorem dX4_replace_1 : decode cX4_replace 1 = .ok (.getfield 31, 3) := by decide +kernel
theorem dX4_replace_4 : decode cX4_replace 4 = .ok (.invokevirtual 119, 3) := by decide +kernel
theorem dX4_replace_7 : decode cX4_replace 7 = .ok (.aload_n 0, 1) := by decide +kernel
theorem dX4_replace_8 : decode cX4_replace 8 = .ok (.getfield 31, 3) := by decide +kernel
theorem dX4_replace_11 : decode cX4_replace 11 = .ok (.aload_n 0, 1) := by decide +kernel
theorem dX4_replace_12 : decode cX4_replace 12 = .ok (.getfield 27, 3) := by decide +kernel
theorem dX4_replace_15 : decode cX4_replace 15 = .ok (.iconst 0, 1) := by decide +kernel
theorem dX4_replace_16 : decode cX4_replace 16 = .ok (.iload_n 1, 1) := by decide +kernel
theorem dX4_replace_17 : decode cX4_replace 17 = .ok (.invokevirtual 139, 3) := by decide +kernel
theorem dX4_replace_20 : decode cX4_replace 20 = .ok (.iload 4, 2) := by decide +kernel
theorem dX4_replace_22 : decode cX4_replace 22 = .ok (.iconst 2, 1) := by decide +kernel
theorem dX4_replace_23 : decode cX4_replace 23 = .ok (.if_icmp .ne 12, 3) := by decide +kernel
theorem dX4_replace_26 : decode cX4_replace 26 = .ok (.aload_n 0, 1) := by decide +kernel
theorem dX4_replace_27 : decode cX4_replace 27 = .ok (.getfield 19, 3) := by decide +kernel
theorem dX4_replace_30 : decode cX4_replace 30 = .ok (.iconst 1, 1) := by decide +kernel
theorem dX4_replace_31 : decode cX4_replace 31 = .ok (.isub, 1) := by decide +kernel
theorem dX4_replace_32 : decode cX4_replace 32 = .ok (.goto 7, 3) := by decide +kernel
theorem dX4_replace_35 : decode cX4_replace 35 = .ok (.aload_n 0, 1) := by decide +kernel
theorem dX4_replace_36 : decode cX4_replace 36 = .ok (.getfield 19, 3) := by decide +kernel
theorem dX4_replace_39 : decode cX4_replace 39 = .ok (.istore 5, 2) := by decide +kernel
theorem dX4_replace_41 : decode cX4_replace 41 = .ok (.aload_n 0, 1) := by decide +kernel
theorem dX4_replace_42 : decode cX4_replace 42 = .ok (.getfield 31, 3) := by decide +kernel
theorem dX4_replace_45 : decode cX4_replace 45 = .ok (.aload_n 0, 1) := by decide +kernel
theorem dX4_replace_46 : decode cX4_replace 46 = .ok (.getfield 67, 3) := by decide +kernel
theorem dX4_replace_49 : decode cX4_replace 49 = .ok (.iload_n 3, 1) := by decide +kernel
theorem dX4_replace_50 : decode cX4_replace 50 = .ok (.iload 5, 2) := by decide +kernel
theorem dX4_replace_52 : decode cX4_replace 52 = .ok (.aload_n 0, 1) := by decide +kernel
theorem dX4_replace_53 : decode cX4_replace 53 = .ok (.getfield 19, 3) := by decide +kernel
theorem dX4_replace_56 : decode cX4_replace 56 = .ok (.aload_n 0, 1) := by decide +kernel
theorem dX4_replace_57 : decode cX4_replace 57 = .ok (.getfield 63, 3) := by decide +kernel
theorem dX4_replace_60 : decode cX4_replace 60 = .ok (.invokevirtual 143, 3) := by decide +kernel
theorem dX4_replace_63 : decode cX4_replace 63 = .ok (.istore 6, 2) := by decide +kernel
theorem dX4_replace_65 : decode cX4_replace 65 = .ok (.iload 4, 2) := by decide +kernel
theorem dX4_replace_67 : decode cX4_replace 67 = .ok (.iconst 2, 1) := by decide +kernel
theorem dX4_replace_68 : decode cX4_replace 68 = .ok (.if_icmp .ne 15, 3) := by decide +kernel
theorem dX4_replace_71 : decode cX4_replace 71 = .ok (.aload_n 0, 1) := by decide +kernel
theorem dX4_replace_72 : decode cX4_replace 72 = .ok (.getfield 31, 3) := by decide +kernel
theorem dX4_replace_75 : decode cX4_replace 75 = .ok (.iload_n 1, 1) := by decide +kernel
theorem dX4_replace_76 : decode cX4_replace 76 = .ok (.iload_n 1, 1) := by decide +kernel
theorem dX4_replace_77 : decode cX4_replace 77 = .ok (.iload 6, 2) := by decide +kernel
theorem dX4_replace_79 : decode cX4_replace 79 = .ok (.iadd, 1) := by decide +kernel
theorem dX4_replace_80 : decode cX4_replace 80 = .ok (.invokevirtual 147, 3) := by decide +kernel
theorem dX4_replace_83 : decode cX4_replace 83 = .ok (.aload_n 0, 1) := by decide +kernel
theorem dX4_replace_84 : decode cX4_replace 84 = .ok (.getfield 31, 3) := by decide +kernel
theorem dX4_replace_87 : decode cX4_replace 87 = .ok (.aload_n 0, 1) := by decide +kernel
theorem dX4_replace_88 : decode cX4_replace 88 = .ok (.getfield 27, 3) := by decide +kernel
theorem dX4_replace_91 : decode cX4_replace 91 = .ok (.iload_n 2, 1) := by decide +kernel
theorem dX4_replace_92 : decode cX4_replace 92 = .ok (.aload_n 0, 1) := by decide +kernel
theorem dX4_replace_93 : decode cX4_replace 93 = .ok (.getfield 27, 3) := by decide +kernel
theorem dX4_replace_96 : decode cX4_replace 96 = .ok (.getfield 104, 3) := by decide +kernel
theorem dX4_replace_99 : decode cX4_replace 99 = .ok (.invokevirtual 139, 3) := by decide +kernel
theorem dX4_replace_102 : decode cX4_replace 102 = .ok (.aload_n 0, 1) := by decide +kernel
theorem dX4_replace_103 : decode cX4_replace 103 = .ok (.getfield 27, 3) := by decide +kernel
theorem dX4_replace_106 : decode cX4_replace 106 = .ok (.astore 7, 2) := by decide +kernel
theorem dX4_replace_108 : decode cX4_replace 108 = .ok (.aload_n 0, 1) := by decide +kernel
theorem dX4_replace_109 : decode cX4_replace 109 = .ok (.aload_n 0, 1) := by decide +kernel
theorem dX4_replace_110 : decode cX4_replace 110 = .ok (.getfield 31, 3) := by decide +kernel
theorem dX4_replace_113 : decode cX4_replace 113 = .ok (.putfield 27, 3) := by decide +kernel
theorem dX4_replace_116 : decode cX4_replace 116 = .ok (.aload_n 0, 1) := by decide +kernel
theorem dX4_replace_117 : decode cX4_replace 117 = .ok (.aload 7, 2) := by decide +kernel
theorem dX4_replace_119 : decode cX4_replace 119 = .ok (.putfield 31, 3) := by decide +kernel
theorem dX4_replace_122 : decode cX4_replace 122 = .ok (.aload_n 0, 1) := by decide +kernel
theorem dX4_replace_123 : decode cX4_replace 123 = .ok (.dup, 1) := by decide +kernel
theorem dX4_replace_124 : decode cX4_replace 124 = .ok (.getfield 44, 3) := by decide +kernel
theorem dX4_replace_127 : decode cX4_replace 127 = .ok (.iload 6, 2) := by decide +kernel
theorem dX4_replace_129 : decode cX4_replace 129 = .ok (.iadd, 1) := by decide +kernel
theorem dX4_replace_130 : decode cX4_replace 130 = .ok (.putfield 44, 3) := by decide +kernel
theorem dX4_replace_133 : decode cX4_replace 133 = .ok (.aload_n 0, 1) := by decide +kernel
theorem dX4_replace_134 : decode cX4_replace 134 = .ok (.invokevirtual 150, 3) := by decide +kernel
theorem dX4_replace_137 : decode cX4_replace 137 = .ok (.iload 6, 2) := by decide +kernel
theorem dX4_replace_139 : decode cX4_replace 139 = .ok (.ireturn, 1) := by decide +kernel
theorem dX4_makeLayers_0 : decode cX4_makeLayers 0 = .ok (.aload_n 0, 1) := by decide +kernel
theorem dX4_makeLayers_1 : decode cX4_makeLayers 1 = .ok (.iconst 0, 1) := by decide +kernel
theorem dX4_makeLayers_2 : decode cX4_makeLayers 2 = .ok (.putfield 38, 3) := by decide +kernel
theorem dX4_makeLayers_5 : decode cX4_makeLayers 5 = .ok (.aload_n 0, 1) := by decide +kernel
theorem dX4_makeLayers_6 : decode cX4_makeLayers 6 = .ok (.getfield 27, 3) := by decide +kernel
theorem dX4_makeLayers_9 : decode cX4_makeLayers 9 = .ok (.astore_n 1, 1) := by decide +kernel
theorem dX4_makeLayers_10 : decode cX4_makeLayers 10 = .ok (.aload_n 1, 1) := by decide +kernel
theorem dX4_makeLayers_11 : decode cX4_makeLayers 11 = .ok (.getfield 104, 3) := by decide +kernel
theorem dX4_makeLayers_14 : decode cX4_makeLayers 14 = .ok (.iconst 1, 1) := by decide +kernel
theorem dX4_makeLayers_15 : decode cX4_makeLayers 15 = .ok (.if_icmp .le 72, 3) := by decide +kernel
theorem dX4_makeLayers_18 : decode cX4_makeLayers 18 = .ok (.aload_n 0, 1) := by decide +kernel
theorem dX4_makeLayers_19 : decode cX4_makeLayers 19 = .ok (.getfield 38, 3) := by decide +kernel
theorem dX4_makeLayers_22 : decode cX4_makeLayers 22 = .ok (.bipush 10, 2) := by decide +kernel
theorem dX4_makeLayers_24 : decode cX4_makeLayers 24 = .ok (.if_icmp .ge 63, 3) := by decide +kernel
theorem dX4_makeLayers_27 : decode cX4_makeLayers 27 = .ok (.aload_n 1, 1) := by decide +kernel
theorem dX4_makeLayers_28 : decode cX4_makeLayers 28 = .ok (.aload_n 0, 1) := by decide +kernel
theorem dX4_makeLayers_29 : decode cX4_makeLayers 29 = .ok (.getfield 67, 3) := by decide +kernel
theorem dX4_makeLayers_32 : decode cX4_makeLayers 32 = .ok (.invokevirtual 153, 3) := by decide +kernel
theorem dX4_makeLayers_35 : decode cX4_makeLayers 35 = .ok (.istore_n 2, 1) := by decide +kernel
theorem dX4_makeLayers_36 : decode cX4_makeLayers 36 = .ok (.aload_n 0, 1) := by decide +kernel
theorem dX4_makeLayers_37 : decode cX4_makeLayers 37 = .ok (.getfield 34, 3) := by decide +kernel
theorem dX4_makeLayers_40 : decode cX4_makeLayers 40 = .ok (.aload_n 0, 1) := by decide +kernel
theorem dX4_makeLayers_41 : decode cX4_makeLayers 41 = .ok (.getfield 38, 3) := by decide +kernel
theorem dX4_makeLayers_44 : decode cX4_makeLayers 44 = .ok (.aaload, 1) := by decide +kernel
theorem dX4_makeLayers_45 : decode cX4_makeLayers 45 = .ok (.astore_n 3, 1) := by decide +kernel
theorem dX4_makeLayers_46 : decode cX4_makeLayers 46 = .ok (.aload_n 3, 1) := by decide +kernel
theorem dX4_makeLayers_47 : decode cX4_makeLayers 47 = .ok (.invokevirtual 119, 3) := by decide +kernel
theorem dX4_makeLayers_50 : decode cX4_makeLayers 50 = .ok (.aload_n 3, 1) := by decide +kernel
theorem dX4_makeLayers_51 : decode cX4_makeLayers 51 = .ok (.aload_n 0, 1) := by decide +kernel
theorem dX4_makeLayers_52 : decode cX4_makeLayers 52 = .ok (.getfield 67, 3) := by decide +kernel
theorem dX4_makeLayers_55 : decode cX4_makeLayers 55 = .ok (.iload_n 2, 1) := by decide +kernel
theorem dX4_makeLayers_56 : decode cX4_makeLayers 56 = .ok (.aload_n 0, 1) := by decide +kernel
theorem dX4_makeLayers_57 : decode cX4_makeLayers 57 = .ok (.getfield 19, 3) := by decide +kernel
theorem dX4_makeLayers_60 : decode cX4_makeLayers 60 = .ok (.aload_n 0, 1) := by decide +kernel
theorem dX4_makeLayers_61 : decode cX4_makeLayers 61 = .ok (.getfield 19, 3) := by decide +kernel
theorem dX4_makeLayers_64 : decode cX4_makeLayers 64 = .ok (.aload_n 0, 1) := by decide +kernel
theorem dX4_makeLayers_65 : decode cX4_makeLayers 65 = .ok (.getfield 63, 3) := by decide +kernel
theorem dX4_makeLayers_68 : decode cX4_makeLayers 68 = .ok (.invokevirtual 143, 3) := by decide +kernel
theorem dX4_makeLayers_71 : decode cX4_makeLayers 71 = .ok (.pop, 1) := by decide +kernel
theorem dX4_makeLayers_72 : decode cX4_makeLayers 72 = .ok (.aload_n 0, 1) := by decide +kernel
theorem dX4_makeLayers_73 : decode cX4_makeLayers 73 = .ok (.dup, 1) := by decide +kernel
theorem dX4_makeLayers_74 : decode cX4_makeLayers 74 = .ok (.getfield 38, 3) := by decide +kernel
theorem dX4_makeLayers_77 : decode cX4_makeLayers 77 = .ok (.iconst 1, 1) := by decide +kernel
theorem dX4_makeLayers_78 : decode cX4_makeLayers 78 = .ok (.iadd, 1) := by decide +kernel
theorem dX4_makeLayers_79 : decode cX4_makeLayers 79 = .ok (.putfield 38, 3) := by decide +kernel
theorem dX4_makeLayers_82 : decode cX4_makeLayers 82 = .ok (.aload_n 3, 1) := by decide +kernel
theorem dX4_makeLayers_83 : decode cX4_makeLayers 83 = .ok (.astore_n 1, 1) := by decide +kernel
theorem dX4_makeLayers_84 : decode cX4_makeLayers 84 = .ok (.goto (-74), 3) := by decide +kernel
theorem dX4_makeLayers_87 : decode cX4_makeLayers 87 = .ok (.return_, 1) := by decide +kernel
theorem dX4_find_0 : decode cX4_find 0 = .ok (.aload_n 0, 1) := by decide +kernel
theorem dX4_find_1 : decode cX4_find 1 = .ok (.invokevirtual 111, 3) := by decide +kernel
theorem dX4_find_4 : decode cX4_find 4 = .ok (.ifCond .ne 5, 3) := by decide +kernel
theorem dX4_find_7 : decode cX4_find 7 = .ok (.iconst (-1), 1) := by decide +kernel
theorem dX4_find_8 : decode cX4_find 8 = .ok (.ireturn, 1) := by decide +kernel
theorem dX4_find_9 : decode cX4_find 9 = .ok (.lload_n 1, 1) := by decide +kernel
theorem dX4_find_10 : decode cX4_find 10 = .ok (.invokestatic 70, 3) := by decide +kernel
theorem dX4_find_13 : decode cX4_find 13 = .ok (.ifCond .ne 6, 3) := by decide +kernel
theorem dX4_find_16 : decode cX4_find 16 = .ok (.bipush (-2), 2) := by decide +kernel
theorem dX4_find_18 : decode cX4_find 18 = .ok (.ireturn, 1) := by decide +kernel
theorem dX4_find_19 : decode cX4_find 19 = .ok (.aload_n 0, 1) := by decide +kernel
theorem dX4_find_20 : decode cX4_find 20 = .ok (.getfield 53, 3) := by decide +kernel
theorem dX4_find_23 : decode cX4_find 23 = .ok (.lload_n 1, 1) := by decide +kernel
theorem dX4_find_24 : decode cX4_find 24 = .ok (.aload_n 0, 1) := by decide +kernel
theorem dX4_find_25 : decode cX4_find 25 = .ok (.getfield 27, 3) := by decide +kernel
theorem dX4_find_28 : decode cX4_find 28 = .ok (.aload_n 0, 1) := by decide +kernel
theorem dX4_find_29 : decode cX4_find 29 = .ok (.getfield 34, 3) := by decide +kernel
theorem dX4_find_32 : decode cX4_find 32 = .ok (.aload_n 0, 1) := by decide +kernel
theorem dX4_find_33 : decode cX4_find 33 = .ok (.getfield 38, 3) := by decide +kernel
theorem dX4_find_36 : decode cX4_find 36 = .ok (.invokevirtual 157, 3) := by decide +kernel
theorem dX4_find_39 : decode cX4_find 39 = .ok (.aload_n 0, 1) := by decide +kernel
theorem dX4_find_40 : decode cX4_find 40 = .ok (.getfield 53, 3) := by decide +kernel
theorem dX4_find_43 : decode cX4_find 43 = .ok (.getfield 161, 3) := by decide +kernel
theorem dX4_find_46 : decode cX4_find 46 = .ok (.ireturn, 1) := by decide +kernel
theorem dX4_insert_0 : decode cX4_insert 0 = .ok (.aload_n 0, 1) := by decide +kernel
theorem dX4_insert_1 : decode cX4_insert 1 = .ok (.invokevirtual 111, 3) := by decide +kernel
theorem dX4_insert_4 : decode cX4_insert 4 = .ok (.ifCond .ne 5, 3) := by decide +kernel
theorem dX4_insert_7 : decode cX4_insert 7 = .ok (.iconst (-1), 1) := by decide +kernel
theorem dX4_insert_8 : decode cX4_insert 8 = .ok (.ireturn, 1) := by decide +kernel
theorem dX4_insert_9 : decode cX4_insert 9 = .ok (.lload_n 1, 1) := by decide +kernel
theorem dX4_insert_10 : decode cX4_insert 10 = .ok (.invokestatic 70, 3) := by decide +kernel
theorem dX4_insert_13 : decode cX4_insert 13 = .ok (.ifCond .ne 6, 3) := by decide +kernel
theorem dX4_insert_16 : decode cX4_insert 16 = .ok (.bipush (-2), 2) := by decide +kernel
theorem dX4_insert_18 : decode cX4_insert 18 = .ok (.ireturn, 1) := by decide +kernel
theorem dX4_insert_19 : decode cX4_insert 19 = .ok (.aload_n 0, 1) := by decide +kernel
theorem dX4_insert_20 : decode cX4_insert 20 = .ok (.getfield 57, 3) := by decide +kernel
theorem dX4_insert_23 : decode cX4_insert 23 = .ok (.lload_n 1, 1) := by decide +kernel
theorem dX4_insert_24 : decode cX4_insert 24 = .ok (.aload_n 0, 1) := by decide +kernel
theorem dX4_insert_25 : decode cX4_insert 25 = .ok (.getfield 27, 3) := by decide +kernel
theorem dX4_insert_28 : decode cX4_insert 28 = .ok (.aload_n 0, 1) := by decide +kernel
theorem dX4_insert_29 : decode cX4_insert 29 = .ok (.getfield 34, 3) := by decide +kernel
theorem dX4_insert_32 : decode cX4_insert 32 = .ok (.aload_n 0, 1) := by decide +kernel
theorem dX4_insert_33 : decode cX4_insert 33 = .ok (.getfield 38, 3) := by decide +kernel
theorem dX4_insert_36 : decode cX4_insert 36 = .ok (.invokevirtual 157, 3) := by decide +kernel
theorem dX4_insert_39 : decode cX4_insert 39 = .ok (.aload_n 0, 1) := by decide +kernel
theorem dX4_insert_40 : decode cX4_insert 40 = .ok (.getfield 57, 3) := by decide +kernel
theorem dX4_insert_43 : decode cX4_insert 43 = .ok (.getfield 161, 3) := by decide +kernel
theorem dX4_insert_46 : decode cX4_insert 46 = .ok (.iconst 1, 1) := by decide +kernel
theorem dX4_insert_47 : decode cX4_insert 47 = .ok (.if_icmp .ne 5, 3) := by decide +kernel
theorem dX4_insert_50 : decode cX4_insert 50 = .ok (.iconst 0, 1) := by decide +kernel
theorem dX4_insert_51 : decode cX4_insert 51 = .ok (.ireturn, 1) := by decide +kernel
theorem dX4_insert_52 : decode cX4_insert 52 = .ok (.aload_n 0, 1) := by decide +kernel
theorem dX4_insert_53 : decode cX4_insert 53 = .ok (.getfield 41, 3) := by decide +kernel
theorem dX4_insert_56 : decode cX4_insert 56 = .ok (.sipush 300, 3) := by decide +kernel
theorem dX4_insert_59 : decode cX4_insert 59 = .ok (.if_icmp .ge 13, 3) := by decide +kernel
theorem dX4_insert_62 : decode cX4_insert 62 = .ok (.aload_n 0, 1) := by decide +kernel
theorem dX4_insert_63 : decode cX4_insert 63 = .ok (.getfield 27, 3) := by decide +kernel
theorem dX4_insert_66 : decode cX4_insert 66 = .ok (.invokevirtual 164, 3) := by decide +kernel
theorem dX4_insert_69 : decode cX4_insert 69 = .ok (.ifCond .eq 6, 3) := by decide +kernel
theorem dX4_insert_72 : decode cX4_insert 72 = .ok (.bipush (-3), 2) := by decide +kernel
theorem dX4_insert_74 : decode cX4_insert 74 = .ok (.ireturn, 1) := by decide +kernel
theorem dX4_insert_75 : decode cX4_insert 75 = .ok (.aload_n 0, 1) := by decide +kernel
theorem dX4_insert_76 : decode cX4_insert 76 = .ok (.dup, 1) := by decide +kernel
theorem dX4_insert_77 : decode cX4_insert 77 = .ok (.getfield 41, 3) := by decide +kernel
theorem dX4_insert_80 : decode cX4_insert 80 = .ok (.iconst 1, 1) := by decide +kernel
theorem dX4_insert_81 : decode cX4_insert 81 = .ok (.iadd, 1) := by decide +kernel
theorem dX4_insert_82 : decode cX4_insert 82 = .ok (.putfield 41, 3) := by decide +kernel
theorem dX4_insert_85 : decode cX4_insert 85 = .ok (.aload_n 0, 1) := by decide +kernel
theorem dX4_insert_86 : decode cX4_insert 86 = .ok (.getfield 27, 3) := by decide +kernel
theorem dX4_insert_89 : decode cX4_insert 89 = .ok (.aload_n 0, 1) := by decide +kernel
theorem dX4_insert_90 : decode cX4_insert 90 = .ok (.getfield 57, 3) := by decide +kernel
theorem dX4_insert_93 : decode cX4_insert 93 = .ok (.getfield 167, 3) := by decide +kernel
theorem dX4_insert_96 : decode cX4_insert 96 = .ok (.lload_n 1, 1) := by decide +kernel
theorem dX4_insert_97 : decode cX4_insert 97 = .ok (.invokevirtual 170, 3) := by decide +kernel
theorem dX4_insert_100 : decode cX4_insert 100 = .ok (.ifCond .eq 5, 3) := by decide +kernel
theorem dX4_insert_103 : decode cX4_insert 103 = .ok (.iconst 1, 1) := by decide +kernel
theorem dX4_insert_104 : decode cX4_insert 104 = .ok (.ireturn, 1) := by decide +kernel
theorem dX4_insert_105 : decode cX4_insert 105 = .ok (.aload_n 0, 1) := by decide +kernel
theorem dX4_insert_106 : decode cX4_insert 106 = .ok (.getfield 57, 3) := by decide +kernel
theorem dX4_insert_109 : decode cX4_insert 109 = .ok (.getfield 174, 3) := by decide +kernel
theorem dX4_insert_112 : decode cX4_insert 112 = .ok (.istore_n 3, 1) := by decide +kernel
theorem dX4_insert_113 : decode cX4_insert 113 = .ok (.aload_n 0, 1) := by decide +kernel
theorem dX4_insert_114 : decode cX4_insert 114 = .ok (.getfield 27, 3) := by decide +kernel
theorem dX4_insert_117 : decode cX4_insert 117 = .ok (.iload_n 3, 1) := by decide +kernel
theorem dX4_insert_118 : decode cX4_insert 118 = .ok (.aload_n 0, 1) := by decide +kernel
theorem dX4_insert_119 : decode cX4_insert 119 = .ok (.getfield 57, 3) := by decide +kernel
theorem dX4_insert_122 : decode cX4_insert 122 = .ok (.getfield 177, 3) := by decide +kernel
theorem dX4_insert_125 : decode cX4_insert 125 = .ok (.lload_n 1, 1) := by decide +kernel
theorem dX4_insert_126 : decode cX4_insert 126 = .ok (.invokevirtual 180, 3) := by decide +kernel
theorem dX4_insert_129 : decode cX4_insert 129 = .ok (.bipush 15, 2) := by decide +kernel
theorem dX4_insert_131 : decode cX4_insert 131 = .ok (.if_icmp .le 38, 3) := by decide +kernel
theorem dX4_insert_134 : decode cX4_insert 134 = .ok (.aload_n 0, 1) := by decide +kernel
theorem dX4_insert_135 : decode cX4_insert 135 = .ok (.dup, 1) := by decide +kernel
theorem dX4_insert_136 : decode cX4_insert 136 = .ok (.getfield 47, 3) := by decide +kernel
theorem dX4_insert_139 : decode cX4_insert 139 = .ok (.iconst 1, 1) := by decide +kernel
theorem dX4_insert_140 : decode cX4_insert 140 = .ok (.iadd, 1) := by decide +kernel
theorem dX4_insert_141 : decode cX4_insert 141 = .ok (.putfield 47, 3) := by decide +kernel
theorem dX4_insert_144 : decode cX4_insert 144 = .ok (.aload_n 0, 1) := by decide +kernel
theorem dX4_insert_145 : decode cX4_insert 145 = .ok (.iload_n 3, 1) := by decide +kernel
theorem dX4_insert_146 : decode cX4_insert 146 = .ok (.iload_n 3, 1) := by decide +kernel
theorem dX4_insert_147 : decode cX4_insert 147 = .ok (.iconst 1, 1) := by decide +kernel
theorem dX4_insert_148 : decode cX4_insert 148 = .ok (.iadd, 1) := by decide +kernel
theorem dX4_insert_149 : decode cX4_insert 149 = .ok (.aload_n 0, 1) := by decide +kernel
theorem dX4_insert_150 : decode cX4_insert 150 = .ok (.getfield 27, 3) := by decide +kernel
theorem dX4_insert_153 : decode cX4_insert 153 = .ok (.iload_n 3, 1) := by decide +kernel
theorem dX4_insert_154 : decode cX4_insert 154 = .ok (.iload_n 3, 1) := by decide +kernel
theorem dX4_insert_155 : decode cX4_insert 155 = .ok (.iconst 1, 1) := by decide +kernel
theorem dX4_insert_156 : decode cX4_insert 156 = .ok (.iadd, 1) := by decide +kernel
theorem dX4_insert_157 : decode cX4_insert 157 = .ok (.aload_n 0, 1) := by decide +kernel
theorem dX4_insert_158 : decode cX4_insert 158 = .ok (.getfield 67, 3) := by decide +kernel
theorem dX4_insert_161 : decode cX4_insert 161 = .ok (.invokevirtual 135, 3) := by decide +kernel
theorem dX4_insert_164 : decode cX4_insert 164 = .ok (.iconst 1, 1) := by decide +kernel
theorem dX4_insert_165 : decode cX4_insert 165 = .ok (.invokevirtual 107, 3) := by decide +kernel
theorem dX4_insert_168 : decode cX4_insert 168 = .ok (.pop, 1) := by decide +kernel
theorem dX4_insert_169 : decode cX4_insert 169 = .ok (.iconst 1, 1) := by decide +kernel
theorem dX4_insert_170 : decode cX4_insert 170 = .ok (.ireturn, 1) := by decide +kernel
theorem dX4_drop_0 : decode cX4_drop 0 = .ok (.aload_n 0, 1) := by decide +kernel
theorem dX4_drop_1 : decode cX4_drop 1 = .ok (.invokevirtual 111, 3) := by decide +kernel
theorem dX4_drop_4 : decode cX4_drop 4 = .ok (.ifCond .ne 5, 3) := by decide +kernel
theorem dX4_drop_7 : decode cX4_drop 7 = .ok (.iconst (-1), 1) := by decide +kernel
theorem dX4_drop_8 : decode cX4_drop 8 = .ok (.ireturn, 1) := by decide +kernel
theorem dX4_drop_9 : decode cX4_drop 9 = .ok (.lload_n 1, 1) := by decide +kernel
theorem dX4_drop_10 : decode cX4_drop 10 = .ok (.invokestatic 70, 3) := by decide +kernel
theorem dX4_drop_13 : decode cX4_drop 13 = .ok (.ifCond .ne 6, 3) := by decide +kernel
theorem dX4_drop_16 : decode cX4_drop 16 = .ok (.bipush (-2), 2) := by decide +kernel
theorem dX4_drop_18 : decode cX4_drop 18 = .ok (.ireturn, 1) := by decide +kernel
theorem dX4_drop_19 : decode cX4_drop 19 = .ok (.aload_n 0, 1) := by decide +kernel
theorem dX4_drop_20 : decode cX4_drop 20 = .ok (.getfield 57, 3) := by decide +kernel
theorem dX4_drop_23 : decode cX4_drop 23 = .ok (.lload_n 1, 1) := by decide +kernel
theorem dX4_drop_24 : decode cX4_drop 24 = .ok (.aload_n 0, 1) := by decide +kernel
theorem dX4_drop_25 : decode cX4_drop 25 = .ok (.getfield 27, 3) := by decide +kernel
theorem dX4_drop_28 : decode cX4_drop 28 = .ok (.aload_n 0, 1) := by decide +kernel
theorem dX4_drop_29 : decode cX4_drop 29 = .ok (.getfield 34, 3) := by decide +kernel
theorem dX4_drop_32 : decode cX4_drop 32 = .ok (.aload_n 0, 1) := by decide +kernel
theorem dX4_drop_33 : decode cX4_drop 33 = .ok (.getfield 38, 3) := by decide +kernel
theorem dX4_drop_36 : decode cX4_drop 36 = .ok (.invokevirtual 157, 3) := by decide +kernel
theorem dX4_drop_39 : decode cX4_drop 39 = .ok (.aload_n 0, 1) := by decide +kernel
theorem dX4_drop_40 : decode cX4_drop 40 = .ok (.getfield 57, 3) := by decide +kernel
theorem dX4_drop_43 : decode cX4_drop 43 = .ok (.getfield 161, 3) := by decide +kernel
theorem dX4_drop_46 : decode cX4_drop 46 = .ok (.ifCond .ne 5, 3) := by decide +kernel
theorem dX4_drop_49 : decode cX4_drop 49 = .ok (.iconst 0, 1) := by decide +kernel
theorem dX4_drop_50 : decode cX4_drop 50 = .ok (.ireturn, 1) := by decide +kernel
theorem dX4_drop_51 : decode cX4_drop 51 = .ok (.aload_n 0, 1) := by decide +kernel
theorem dX4_drop_52 : decode cX4_drop 52 = .ok (.getfield 27, 3) := by decide +kernel
theorem dX4_drop_55 : decode cX4_drop 55 = .ok (.aload_n 0, 1) := by decide +kernel
theorem dX4_drop_56 : decode cX4_drop 56 = .ok (.getfield 57, 3) := by decide +kernel
theorem dX4_drop_59 : decode cX4_drop 59 = .ok (.getfield 167, 3) := by decide +kernel
theorem dX4_drop_62 : decode cX4_drop 62 = .ok (.lload_n 1, 1) := by decide +kernel
theorem dX4_drop_63 : decode cX4_drop 63 = .ok (.invokevirtual 184, 3) := by decide +kernel
theorem dX4_drop_66 : decode cX4_drop 66 = .ok (.ifCond .eq 20, 3) := by decide +kernel
theorem dX4_drop_69 : decode cX4_drop 69 = .ok (.aload_n 0, 1) := by decide +kernel
theorem dX4_drop_70 : decode cX4_drop 70 = .ok (.getfield 27, 3) := by decide +kernel
theorem dX4_drop_73 : decode cX4_drop 73 = .ok (.aload_n 0, 1) := by decide +kernel
theorem dX4_drop_74 : decode cX4_drop 74 = .ok (.getfield 57, 3) := by decide +kernel
theorem dX4_drop_77 : decode cX4_drop 77 = .ok (.getfield 167, 3) := by decide +kernel
theorem dX4_drop_80 : decode cX4_drop 80 = .ok (.invokevirtual 187, 3) := by decide +kernel
theorem dX4_drop_83 : decode cX4_drop 83 = .ok (.goto 26, 3) := by decide +kernel
theorem dX4_drop_86 : decode cX4_drop 86 = .ok (.aload_n 0, 1) := by decide +kernel
theorem dX4_drop_87 : decode cX4_drop 87 = .ok (.getfield 27, 3) := by decide +kernel
theorem dX4_drop_90 : decode cX4_drop 90 = .ok (.aload_n 0, 1) := by decide +kernel
theorem dX4_drop_91 : decode cX4_drop 91 = .ok (.getfield 57, 3) := by decide +kernel
theorem dX4_drop_94 : decode cX4_drop 94 = .ok (.getfield 174, 3) := by decide +kernel
theorem dX4_drop_97 : decode cX4_drop 97 = .ok (.aload_n 0, 1) := by decide +kernel
theorem dX4_drop_98 : decode cX4_drop 98 = .ok (.getfield 57, 3) := by decide +kernel
theorem dX4_drop_101 : decode cX4_drop 101 = .ok (.getfield 177, 3) := by decide +kernel
theorem dX4_drop_104 : decode cX4_drop 104 = .ok (.iconst 1, 1) := by decide +kernel
theorem dX4_drop_105 : decode cX4_drop 105 = .ok (.isub, 1) := by decide +kernel
theorem dX4_drop_106 : decode cX4_drop 106 = .ok (.invokevirtual 191, 3) := by decide +kernel
theorem dX4_drop_109 : decode cX4_drop 109 = .ok (.aload_n 0, 1) := by decide +kernel
theorem dX4_drop_110 : decode cX4_drop 110 = .ok (.dup, 1) := by decide +kernel
theorem dX4_drop_111 : decode cX4_drop 111 = .ok (.getfield 41, 3) := by decide +kernel
theorem dX4_drop_114 : decode cX4_drop 114 = .ok (.iconst 1, 1) := by decide +kernel
theorem dX4_drop_115 : decode cX4_drop 115 = .ok (.isub, 1) := by decide +kernel
theorem dX4_drop_116 : decode cX4_drop 116 = .ok (.putfield 41, 3) := by decide +kernel
theorem dX4_drop_119 : decode cX4_drop 119 = .ok (.iconst 1, 1) := by decide +kernel
theorem dX4_drop_120 : decode cX4_drop 120 = .ok (.ireturn, 1) := by decide +kernel
theorem dX4_at_0 : decode cX4_at 0 = .ok (.aload_n 0, 1) := by decide +kernel
theorem dX4_at_1 : decode cX4_at 1 = .ok (.invokevirtual 115, 3) := by decide +kernel
theorem dX4_at_4 : decode cX4_at 4 = .ok (.istore_n 2, 1) := by decide +kernel
theorem dX4_at_5 : decode cX4_at 5 = .ok (.iload_n 1, 1) := by decide +kernel
theorem dX4_at_6 : decode cX4_at 6 = .ok (.ifCond .lt 17, 3) := by decide +kernel
theorem dX4_at_9 : decode cX4_at 9 = .ok (.iload_n 1, 1) := by decide +kernel
theorem dX4_at_10 : decode cX4_at 10 = .ok (.iload_n 2, 1) := by decide +kernel
theorem dX4_at_11 : decode cX4_at 11 = .ok (.if_icmp .ge 12, 3) := by decide +kernel
theorem dX4_at_14 : decode cX4_at 14 = .ok (.aload_n 0, 1) := by decide +kernel
theorem dX4_at_15 : decode cX4_at 15 = .ok (.getfield 67, 3) := by decide +kernel
theorem dX4_at_18 : decode cX4_at 18 = .ok (.iload_n 1, 1) := by decide +kernel
theorem dX4_at_19 : decode cX4_at 19 = .ok (.laload, 1) := by decide +kernel
theorem dX4_at_20 : decode cX4_at 20 = .ok (.goto 6, 3) := by decide +kernel
theorem dX4_at_23 : decode cX4_at 23 = .ok (.ldc2_w 194, 3) := by decide +kernel
theorem dX4_at_26 : decode cX4_at 26 = .ok (.lreturn, 1) := by decide +kernel
theorem dX4_below_0 : decode cX4_below 0 = .ok (.aload_n 0, 1) := by decide +kernel
theorem dX4_below_1 : decode cX4_below 1 = .ok (.invokevirtual 111, 3) := by decide +kernel
theorem dX4_below_4 : decode cX4_below 4 = .ok (.ifCond .ne 5, 3) := by decide +kernel
theorem dX4_below_7 : decode cX4_below 7 = .ok (.iconst (-1), 1) := by decide +kernel
theorem dX4_below_8 : decode cX4_below 8 = .ok (.ireturn, 1) := by decide +kernel
theorem dX4_below_9 : decode cX4_below 9 = .ok (.lload_n 1, 1) := by decide +kernel
theorem dX4_below_10 : decode cX4_below 10 = .ok (.invokestatic 70, 3) := by decide +kernel
theorem dX4_below_13 : decode cX4_below 13 = .ok (.ifCond .ne 6, 3) := by decide +kernel
theorem dX4_below_16 : decode cX4_below 16 = .ok (.bipush (-2), 2) := by decide +kernel
theorem dX4_below_18 : decode cX4_below 18 = .ok (.ireturn, 1) := by decide +kernel
theorem dX4_below_19 : decode cX4_below 19 = .ok (.aload_n 0, 1) := by decide +kernel
theorem dX4_below_20 : decode cX4_below 20 = .ok (.lload_n 1, 1) := by decide +kernel
theorem dX4_below_21 : decode cX4_below 21 = .ok (.invokevirtual 196, 3) := by decide +kernel
theorem dX4_below_24 : decode cX4_below 24 = .ok (.ireturn, 1) := by decide +kernel
theorem dX4_above_0 : decode cX4_above 0 = .ok (.aload_n 0, 1) := by decide +kernel
theorem dX4_above_1 : decode cX4_above 1 = .ok (.invokevirtual 115, 3) := by decide +kernel
theorem dX4_above_4 : decode cX4_above 4 = .ok (.istore_n 3, 1) := by decide +kernel
theorem dX4_above_5 : decode cX4_above 5 = .ok (.iconst 0, 1) := by decide +kernel
theorem dX4_above_6 : decode cX4_above 6 = .ok (.istore 4, 2) := by decide +kernel
theorem dX4_above_8 : decode cX4_above 8 = .ok (.iload 4, 2) := by decide +kernel
theorem dX4_above_10 : decode cX4_above 10 = .ok (.iload_n 3, 1) := by decide +kernel
theorem dX4_above_11 : decode cX4_above 11 = .ok (.if_icmp .ge 29, 3) := by decide +kernel
theorem dX4_above_14 : decode cX4_above 14 = .ok (.aload_n 0, 1) := by decide +kernel
theorem dX4_above_15 : decode cX4_above 15 = .ok (.getfield 67, 3) := by decide +kernel
theorem dX4_above_18 : decode cX4_above 18 = .ok (.iload 4, 2) := by decide +kernel
theorem dX4_above_20 : decode cX4_above 20 = .ok (.laload, 1) := by decide +kernel
theorem dX4_above_21 : decode cX4_above 21 = .ok (.lload_n 1, 1) := by decide +kernel
theorem dX4_above_22 : decode cX4_above 22 = .ok (.lcmp, 1) := by decide +kernel
theorem dX4_above_23 : decode cX4_above 23 = .ok (.ifCond .le 11, 3) := by decide +kernel
theorem dX4_above_26 : decode cX4_above 26 = .ok (.aload_n 0, 1) := by decide +kernel
theorem dX4_above_27 : decode cX4_above 27 = .ok (.getfield 67, 3) := by decide +kernel
theorem dX4_above_30 : decode cX4_above 30 = .ok (.iload 4, 2) := by decide +kernel
theorem dX4_above_32 : decode cX4_above 32 = .ok (.laload, 1) := by decide +kernel
theorem dX4_above_33 : decode cX4_above 33 = .ok (.lreturn, 1) := by decide +kernel
theorem dX4_above_34 : decode cX4_above 34 = .ok (.iinc 4 1, 3) := by decide +kernel
theorem dX4_above_37 : decode cX4_above 37 = .ok (.goto (-29), 3) := by decide +kernel
theorem dX4_above_40 : decode cX4_above 40 = .ok (.ldc2_w 194, 3) := by decide +kernel
theorem dX4_above_43 : decode cX4_above 43 = .ok (.lreturn, 1) := by decide +kernel
theorem dX4_between_0 : decode cX4_between 0 = .ok (.aload_n 0, 1) := by decide +kernel
theorem dX4_between_1 : decode cX4_between 1 = .ok (.invokevirtual 111, 3) := by decide +kernel
theorem dX4_between_4 : decode cX4_between 4 = .ok (.ifCond .ne 5, 3) := by decide +kernel
theorem dX4_between_7 : decode cX4_between 7 = .ok (.iconst (-1), 1) := by decide +kernel
theorem dX4_between_8 : decode cX4_between 8 = .ok (.ireturn, 1) := by decide +kernel
theorem dX4_between_9 : decode cX4_between 9 = .ok (.lload_n 1, 1) := by decide +kernel
theorem dX4_between_10 : decode cX4_between 10 = .ok (.invokestatic 70, 3) := by decide +kernel
theorem dX4_between_13 : decode cX4_between 13 = .ok (.ifCond .eq 10, 3) := by decide +kernel
theorem dX4_between_16 : decode cX4_between 16 = .ok (.lload_n 3, 1) := by decide +kernel
theorem dX4_between_17 : decode cX4_between 17 = .ok (.invokestatic 70, 3) := by decide +kernel
theorem dX4_between_20 : decode cX4_between 20 = .ok (.ifCond .ne 6, 3) := by decide +kernel
theorem dX4_between_23 : decode cX4_between 23 = .ok (.bipush (-2), 2) := by decide +kernel
theorem dX4_between_25 : decode cX4_between 25 = .ok (.ireturn, 1) := by decide +kernel
theorem dX4_between_26 : decode cX4_between 26 = .ok (.lload_n 3, 1) := by decide +kernel
theorem dX4_between_27 : decode cX4_between 27 = .ok (.lload_n 1, 1) := by decide +kernel
theorem dX4_between_28 : decode cX4_between 28 = .ok (.lcmp, 1) := by decide +kernel
theorem dX4_between_29 : decode cX4_between 29 = .ok (.ifCond .le 17, 3) := by decide +kernel
theorem dX4_between_32 : decode cX4_between 32 = .ok (.aload_n 0, 1) := by decide +kernel
theorem dX4_between_33 : decode cX4_between 33 = .ok (.lload_n 3, 1) := by decide +kernel
theorem dX4_between_34 : decode cX4_between 34 = .ok (.invokevirtual 196, 3) := by decide +kernel
theorem dX4_between_37 : decode cX4_between 37 = .ok (.aload_n 0, 1) := by decide +kernel
theorem dX4_between_38 : decode cX4_between 38 = .ok (.lload_n 1, 1) := by decide +kernel
theorem dX4_between_39 : decode cX4_between 39 = .ok (.invokevirtual 196, 3) := by decide +kernel
theorem dX4_between_42 : decode cX4_between 42 = .ok (.isub, 1) := by decide +kernel
theorem dX4_between_43 : decode cX4_between 43 = .ok (.goto 4, 3) := by decide +kernel
theorem dX4_between_46 : decode cX4_between 46 = .ok (.iconst 0, 1) := by decide +kernel
theorem dX4_between_47 : decode cX4_between 47 = .ok (.ireturn, 1) := by decide +kernel
theorem dX4_countBelow_0 : decode cX4_countBelow 0 = .ok (.aload_n 0, 1) := by decide +kernel
theorem dX4_countBelow_1 : decode cX4_countBelow 1 = .ok (.invokevirtual 115, 3) := by decide +kernel
theorem dX4_countBelow_4 : decode cX4_countBelow 4 = .ok (.istore_n 3, 1) := by decide +kernel
theorem dX4_countBelow_5 : decode cX4_countBelow 5 = .ok (.iconst 0, 1) := by decide +kernel
theorem dX4_countBelow_6 : decode cX4_countBelow 6 = .ok (.istore 4, 2) := by decide +kernel
theorem dX4_countBelow_8 : decode cX4_countBelow 8 = .ok (.iload 4, 2) := by decide +kernel
theorem dX4_countBelow_10 : decode cX4_countBelow 10 = .ok (.iload_n 3, 1) := by decide +kernel
theorem dX4_countBelow_11 : decode cX4_countBelow 11 = .ok (.if_icmp .ge 21, 3) := by decide +kernel
theorem dX4_countBelow_14 : decode cX4_countBelow 14 = .ok (.aload_n 0, 1) := by decide +kernel
theorem dX4_countBelow_15 : decode cX4_countBelow 15 = .ok (.getfield 67, 3) := by decide +kernel
theorem dX4_countBelow_18 : decode cX4_countBelow 18 = .ok (.iload 4, 2) := by decide +kernel
theorem dX4_countBelow_20 : decode cX4_countBelow 20 = .ok (.laload, 1) := by decide +kernel
theorem dX4_countBelow_21 : decode cX4_countBelow 21 = .ok (.lload_n 1, 1) := by decide +kernel
theorem dX4_countBelow_22 : decode cX4_countBelow 22 = .ok (.lcmp, 1) := by decide +kernel
theorem dX4_countBelow_23 : decode cX4_countBelow 23 = .ok (.ifCond .ge 9, 3) := by decide +kernel
theorem dX4_countBelow_26 : decode cX4_countBelow 26 = .ok (.iinc 4 1, 3) := by decide +kernel
theorem dX4_countBelow_29 : decode cX4_countBelow 29 = .ok (.goto (-21), 3) := by decide +kernel
theorem dX4_countBelow_32 : decode cX4_countBelow 32 = .ok (.iload 4, 2) := by decide +kernel
theorem dX4_countBelow_34 : decode cX4_countBelow 34 = .ok (.ireturn, 1) := by decide +kernel
theorem dX4_gatherAll_0 : decode cX4_gatherAll 0 = .ok (.aload_n 0, 1) := by decide +kernel
theorem dX4_gatherAll_1 : decode cX4_gatherAll 1 = .ok (.getfield 27, 3) := by decide +kernel
theorem dX4_gatherAll_4 : decode cX4_gatherAll 4 = .ok (.iconst 0, 1) := by decide +kernel
theorem dX4_gatherAll_5 : decode cX4_gatherAll 5 = .ok (.aload_n 0, 1) := by decide +kernel
theorem dX4_gatherAll_6 : decode cX4_gatherAll 6 = .ok (.getfield 27, 3) := by decide +kernel
theorem dX4_gatherAll_9 : decode cX4_gatherAll 9 = .ok (.getfield 104, 3) := by decide +kernel
theorem dX4_gatherAll_12 : decode cX4_gatherAll 12 = .ok (.aload_n 0, 1) := by decide +kernel
theorem dX4_gatherAll_13 : decode cX4_gatherAll 13 = .ok (.getfield 67, 3) := by decide +kernel
theorem dX4_gatherAll_16 : decode cX4_gatherAll 16 = .ok (.invokevirtual 135, 3) := by decide +kernel
theorem dX4_gatherAll_19 : decode cX4_gatherAll 19 = .ok (.ireturn, 1) := by decide +kernel
theorem dX4_layers_0 : decode cX4_layers 0 = .ok (.aload_n 0, 1) := by decide +kernel
theorem dX4_layers_1 : decode cX4_layers 1 = .ok (.invokevirtual 111, 3) := by decide +kernel
theorem dX4_layers_4 : decode cX4_layers 4 = .ok (.ifCond .eq 10, 3) := by decide +kernel
theorem dX4_layers_7 : decode cX4_layers 7 = .ok (.aload_n 0, 1) := by decide +kernel
theorem dX4_layers_8 : decode cX4_layers 8 = .ok (.getfield 38, 3) := by decide +kernel
theorem dX4_layers_11 : decode cX4_layers 11 = .ok (.goto 4, 3) := by decide +kernel
theorem dX4_layers_14 : decode cX4_layers 14 = .ok (.iconst (-1), 1) := by decide +kernel
theorem dX4_layers_15 : decode cX4_layers 15 = .ok (.ireturn, 1) := by decide +kernel
theorem dX4_pieces_0 : decode cX4_pieces 0 = .ok (.aload_n 0, 1) := by decide +kernel
theorem dX4_pieces_1 : decode cX4_pieces 1 = .ok (.iload_n 1, 1) := by decide +kernel
theorem dX4_pieces_2 : decode cX4_pieces 2 = .ok (.invokevirtual 200, 3) := by decide +kernel
theorem dX4_pieces_5 : decode cX4_pieces 5 = .ok (.astore_n 2, 1) := by decide +kernel
theorem dX4_pieces_6 : decode cX4_pieces 6 = .ok (.aload_n 2, 1) := by decide +kernel
theorem dX4_pieces_7 : decode cX4_pieces 7 = .ok (.ifnonnull 7, 3) := by decide +kernel
theorem dX4_pieces_10 : decode cX4_pieces 10 = .ok (.iconst (-1), 1) := by decide +kernel
theorem dX4_pieces_11 : decode cX4_pieces 11 = .ok (.goto 7, 3) := by decide +kernel
theorem dX4_pieces_14 : decode cX4_pieces 14 = .ok (.aload_n 2, 1) := by decide +kernel
theorem dX4_pieces_15 : decode cX4_pieces 15 = .ok (.getfield 104, 3) := by decide +kernel
theorem dX4_pieces_18 : decode cX4_pieces 18 = .ok (.ireturn, 1) := by decide +kernel
theorem dX4_piece_0 : decode cX4_piece 0 = .ok (.aload_n 0, 1) := by decide +kernel
theorem dX4_piece_1 : decode cX4_piece 1 = .ok (.iload_n 1, 1) := by decide +kernel
theorem dX4_piece_2 : decode cX4_piece 2 = .ok (.invokevirtual 200, 3) := by decide +kernel
theorem dX4_piece_5 : decode cX4_piece 5 = .ok (.astore 4, 2) := by decide +kernel
theorem dX4_piece_7 : decode cX4_piece 7 = .ok (.aload 4, 2) := by decide +kernel
theorem dX4_piece_9 : decode cX4_piece 9 = .ok (.ifnonnull 7, 3) := by decide +kernel
theorem dX4_piece_12 : decode cX4_piece 12 = .ok (.aconst_null, 1) := by decide +kernel
theorem dX4_piece_13 : decode cX4_piece 13 = .ok (.goto 9, 3) := by decide +kernel
theorem dX4_piece_16 : decode cX4_piece 16 = .ok (.aload 4, 2) := by decide +kernel
theorem dX4_piece_18 : decode cX4_piece 18 = .ok (.iload_n 2, 1) := by decide +kernel
theorem dX4_piece_19 : decode cX4_piece 19 = .ok (.invokevirtual 122, 3) := by decide +kernel
theorem dX4_piece_22 : decode cX4_piece 22 = .ok (.astore 5, 2) := by decide +kernel
theorem dX4_piece_24 : decode cX4_piece 24 = .ok (.aload 4, 2) := by decide +kernel
theorem dX4_piece_26 : decode cX4_piece 26 = .ok (.ifnull 8, 3) := by decide +kernel
theorem dX4_piece_29 : decode cX4_piece 29 = .ok (.aload 5, 2) := by decide +kernel
theorem dX4_piece_31 : decode cX4_piece 31 = .ok (.ifnonnull 5, 3) := by decide +kernel
theorem dX4_piece_34 : decode cX4_piece 34 = .ok (.iconst (-1), 1) := by decide +kernel
theorem dX4_piece_35 : decode cX4_piece 35 = .ok (.ireturn, 1) := by decide +kernel
theorem dX4_piece_36 : decode cX4_piece 36 = .ok (.iload_n 3, 1) := by decide +kernel
theorem dX4_piece_37 : decode cX4_piece 37 = .ok (.tableswitch 79 0 5 #[39, 45, 51, 59, 65, 71], 39) := by decide +kernel
theorem dX4_piece_76 : decode cX4_piece 76 = .ok (.aload 5, 2) := by decide +kernel
theorem dX4_piece_78 : decode cX4_piece 78 = .ok (.getfield 126, 3) := by decide +kernel
theorem dX4_piece_81 : decode cX4_piece 81 = .ok (.ireturn, 1) := by decide +kernel
theorem dX4_piece_82 : decode cX4_piece 82 = .ok (.aload 5, 2) := by decide +kernel
theorem dX4_piece_84 : decode cX4_piece 84 = .ok (.getfield 204, 3) := by decide +kernel
theorem dX4_piece_87 : decode cX4_piece 87 = .ok (.ireturn, 1) := by decide +kernel
theorem dX4_piece_88 : decode cX4_piece 88 = .ok (.aload 4, 2) := by decide +kernel
theorem dX4_piece_90 : decode cX4_piece 90 = .ok (.aload 5, 2) := by decide +kernel
theorem dX4_piece_92 : decode cX4_piece 92 = .ok (.invokevirtual 207, 3) := by decide +kernel
theorem dX4_piece_95 : decode cX4_piece 95 = .ok (.ireturn, 1) := by decide +kernel
theorem dX4_piece_96 : decode cX4_piece 96 = .ok (.aload 5, 2) := by decide +kernel
theorem dX4_piece_98 : decode cX4_piece 98 = .ok (.getfield 211, 3) := by decide +kernel
theorem dX4_piece_101 : decode cX4_piece 101 = .ok (.ireturn, 1) := by decide +kernel
theorem dX4_piece_102 : decode cX4_piece 102 = .ok (.aload 5, 2) := by decide +kernel
theorem dX4_piece_104 : decode cX4_piece 104 = .ok (.getfield 214, 3) := by decide +kernel
theorem dX4_piece_107 : decode cX4_piece 107 = .ok (.ireturn, 1) := by decide +kernel
theorem dX4_piece_108 : decode cX4_piece 108 = .ok (.aload 4, 2) := by decide +kernel
theorem dX4_piece_110 : decode cX4_piece 110 = .ok (.aload 5, 2) := by decide +kernel
theorem dX4_piece_112 : decode cX4_piece 112 = .ok (.invokevirtual 217, 3) := by decide +kernel
theorem dX4_piece_115 : decode cX4_piece 115 = .ok (.ireturn, 1) := by decide +kernel
theorem dX4_piece_116 : decode cX4_piece 116 = .ok (.iconst (-1), 1) := by decide +kernel
theorem dX4_piece_117 : decode cX4_piece 117 = .ok (.ireturn, 1) := by decide +kernel
theorem dX4_line_0 : decode cX4_line 0 = .ok (.aload_n 0, 1) := by decide +kernel
theorem dX4_line_1 : decode cX4_line 1 = .ok (.iload_n 1, 1) := by decide +kernel
theorem dX4_line_2 : decode cX4_line 2 = .ok (.invokevirtual 200, 3) := by decide +kernel
theorem dX4_line_5 : decode cX4_line 5 = .ok (.astore 4, 2) := by decide +kernel
theorem dX4_line_7 : decode cX4_line 7 = .ok (.aload 4, 2) := by decide +kernel
theorem dX4_line_9 : decode cX4_line 9 = .ok (.ifnonnull 7, 3) := by decide +kernel
theorem dX4_line_12 : decode cX4_line 12 = .ok (.aconst_null, 1) := by decide +kernel
theorem dX4_line_13 : decode cX4_line 13 = .ok (.goto 9, 3) := by decide +kernel
theorem dX4_line_16 : decode cX4_line 16 = .ok (.aload 4, 2) := by decide +kernel
theorem dX4_line_18 : decode cX4_line 18 = .ok (.iload_n 2, 1) := by decide +kernel
theorem dX4_line_19 : decode cX4_line 19 = .ok (.invokevirtual 122, 3) := by decide +kernel
theorem dX4_line_22 : decode cX4_line 22 = .ok (.astore 5, 2) := by decide +kernel
theorem dX4_line_24 : decode cX4_line 24 = .ok (.aload 4, 2) := by decide +kernel
theorem dX4_line_26 : decode cX4_line 26 = .ok (.ifnull 8, 3) := by decide +kernel
theorem dX4_line_29 : decode cX4_line 29 = .ok (.aload 5, 2) := by decide +kernel
theorem dX4_line_31 : decode cX4_line 31 = .ok (.ifnonnull 7, 3) := by decide +kernel
theorem dX4_line_34 : decode cX4_line 34 = .ok (.ldc2_w 194, 3) := by decide +kernel
theorem dX4_line_37 : decode cX4_line 37 = .ok (.lreturn, 1) := by decide +kernel
theorem dX4_line_38 : decode cX4_line 38 = .ok (.iload_n 3, 1) := by decide +kernel
theorem dX4_line_39 : decode cX4_line 39 = .ok (.tableswitch 75 0 4 #[33, 39, 45, 51, 60], 33) := by decide +kernel
theorem dX4_line_72 : decode cX4_line 72 = .ok (.aload 5, 2) := by decide +kernel
theorem dX4_line_74 : decode cX4_line 74 = .ok (.getfield 220, 3) := by decide +kernel
theorem dX4_line_77 : decode cX4_line 77 = .ok (.lreturn, 1) := by decide +kernel
theorem dX4_line_78 : decode cX4_line 78 = .ok (.aload 5, 2) := by decide +kernel
theorem dX4_line_80 : decode cX4_line 80 = .ok (.getfield 224, 3) := by decide +kernel
theorem dX4_line_83 : decode cX4_line 83 = .ok (.lreturn, 1) := by decide +kernel
theorem dX4_line_84 : decode cX4_line 84 = .ok (.aload 5, 2) := by decide +kernel
theorem dX4_line_86 : decode cX4_line 86 = .ok (.getfield 227, 3) := by decide +kernel
theorem dX4_line_89 : decode cX4_line 89 = .ok (.lreturn, 1) := by decide +kernel
theorem dX4_line_90 : decode cX4_line 90 = .ok (.aload 4, 2) := by decide +kernel
theorem dX4_line_92 : decode cX4_line 92 = .ok (.aload 5, 2) := by decide +kernel
theorem dX4_line_94 : decode cX4_line 94 = .ok (.iconst 0, 1) := by decide +kernel
theorem dX4_line_95 : decode cX4_line 95 = .ok (.invokevirtual 230, 3) := by decide +kernel
theorem dX4_line_98 : decode cX4_line 98 = .ok (.lreturn, 1) := by decide +kernel
theorem dX4_line_99 : decode cX4_line 99 = .ok (.aload 4, 2) := by decide +kernel
theorem dX4_line_101 : decode cX4_line 101 = .ok (.aload 5, 2) := by decide +kernel
theorem dX4_line_103 : decode cX4_line 103 = .ok (.aload 5, 2) := by decide +kernel
theorem dX4_line_105 : decode cX4_line 105 = .ok (.getfield 204, 3) := by decide +kernel
theorem dX4_line_108 : decode cX4_line 108 = .ok (.iconst 1, 1) := by decide +kernel
theorem dX4_line_109 : decode cX4_line 109 = .ok (.isub, 1) := by decide +kernel
theorem dX4_line_110 : decode cX4_line 110 = .ok (.invokevirtual 230, 3) := by decide +kernel
theorem dX4_line_113 : decode cX4_line 113 = .ok (.lreturn, 1) := by decide +kernel
theorem dX4_line_114 : decode cX4_line 114 = .ok (.ldc2_w 194, 3) := by decide +kernel
theorem dX4_line_117 : decode cX4_line 117 = .ok (.lreturn, 1) := by decide +kernel
theorem dX4_guess_0 : decode cX4_guess 0 = .ok (.aload_n 0, 1) := by decide +kernel
theorem dX4_guess_1 : decode cX4_guess 1 = .ok (.iload_n 1, 1) := by decide +kernel
theorem dX4_guess_2 : decode cX4_guess 2 = .ok (.invokevirtual 200, 3) := by decide +kernel
theorem dX4_guess_5 : decode cX4_guess 5 = .ok (.astore 5, 2) := by decide +kernel
theorem dX4_guess_7 : decode cX4_guess 7 = .ok (.aload 5, 2) := by decide +kernel
theorem dX4_guess_9 : decode cX4_guess 9 = .ok (.ifnonnull 7, 3) := by decide +kernel
theorem dX4_guess_12 : decode cX4_guess 12 = .ok (.aconst_null, 1) := by decide +kernel
theorem dX4_guess_13 : decode cX4_guess 13 = .ok (.goto 9, 3) := by decide +kernel
theorem dX4_guess_16 : decode cX4_guess 16 = .ok (.aload 5, 2) := by decide +kernel
theorem dX4_guess_18 : decode cX4_guess 18 = .ok (.iload_n 2, 1) := by decide +kernel
theorem dX4_guess_19 : decode cX4_guess 19 = .ok (.invokevirtual 122, 3) := by decide +kernel
theorem dX4_guess_22 : decode cX4_guess 22 = .ok (.astore 6, 2) := by decide +kernel
theorem dX4_guess_24 : decode cX4_guess 24 = .ok (.aload 5, 2) := by decide +kernel
theorem dX4_guess_26 : decode cX4_guess 26 = .ok (.ifnull 8, 3) := by decide +kernel
theorem dX4_guess_29 : decode cX4_guess 29 = .ok (.aload 6, 2) := by decide +kernel
theorem dX4_guess_31 : decode cX4_guess 31 = .ok (.ifnonnull 5, 3) := by decide +kernel
theorem dX4_guess_34 : decode cX4_guess 34 = .ok (.iconst (-1), 1) := by decide +kernel
theorem dX4_guess_35 : decode cX4_guess 35 = .ok (.ireturn, 1) := by decide +kernel
theorem dX4_guess_36 : decode cX4_guess 36 = .ok (.lload_n 3, 1) := by decide +kernel
theorem dX4_guess_37 : decode cX4_guess 37 = .ok (.invokestatic 70, 3) := by decide +kernel
theorem dX4_guess_40 : decode cX4_guess 40 = .ok (.ifCond .eq 21, 3) := by decide +kernel
theorem dX4_guess_43 : decode cX4_guess 43 = .ok (.aload 6, 2) := by decide +kernel
theorem dX4_guess_45 : decode cX4_guess 45 = .ok (.lload_n 3, 1) := by decide +kernel
theorem dX4_guess_46 : decode cX4_guess 46 = .ok (.aload 5, 2) := by decide +kernel
theorem dX4_guess_48 : decode cX4_guess 48 = .ok (.aload 6, 2) := by decide +kernel
theorem dX4_guess_50 : decode cX4_guess 50 = .ok (.iconst 0, 1) := by decide +kernel
theorem dX4_guess_51 : decode cX4_guess 51 = .ok (.invokevirtual 230, 3) := by decide +kernel
theorem dX4_guess_54 : decode cX4_guess 54 = .ok (.lsub, 1) := by decide +kernel
theorem dX4_guess_55 : decode cX4_guess 55 = .ok (.invokevirtual 234, 3) := by decide +kernel
theorem dX4_guess_58 : decode cX4_guess 58 = .ok (.goto 5, 3) := by decide +kernel
theorem dX4_guess_61 : decode cX4_guess 61 = .ok (.bipush (-2), 2) := by decide +kernel
theorem dX4_guess_63 : decode cX4_guess 63 = .ok (.ireturn, 1) := by decide +kernel
theorem dX4_bits_0 : decode cX4_bits 0 = .ok (.aload_n 0, 1) := by decide +kernel
theorem dX4_bits_1 : decode cX4_bits 1 = .ok (.getfield 27, 3) := by decide +kernel
theorem dX4_bits_4 : decode cX4_bits 4 = .ok (.iload_n 1, 1) := by decide +kernel
theorem dX4_bits_5 : decode cX4_bits 5 = .ok (.invokevirtual 122, 3) := by decide +kernel
theorem dX4_bits_8 : decode cX4_bits 8 = .ok (.astore_n 3, 1) := by decide +kernel
theorem dX4_bits_9 : decode cX4_bits 9 = .ok (.aload_n 3, 1) := by decide +kernel
theorem dX4_bits_10 : decode cX4_bits 10 = .ok (.ifnull 20, 3) := by decide +kernel
theorem dX4_bits_13 : decode cX4_bits 13 = .ok (.aload_n 3, 1) := by decide +kernel
theorem dX4_bits_14 : decode cX4_bits 14 = .ok (.getfield 126, 3) := by decide +kernel
theorem dX4_bits_17 : decode cX4_bits 17 = .ok (.iconst 2, 1) := by decide +kernel
theorem dX4_bits_18 : decode cX4_bits 18 = .ok (.if_icmp .ne 12, 3) := by decide +kernel
theorem dX4_bits_21 : decode cX4_bits 21 = .ok (.iload_n 2, 1) := by decide +kernel
theorem dX4_bits_22 : decode cX4_bits 22 = .ok (.ifCond .lt 8, 3) := by decide +kernel
theorem dX4_bits_25 : decode cX4_bits 25 = .ok (.iload_n 2, 1) := by decide +kernel
theorem dX4_bits_26 : decode cX4_bits 26 = .ok (.iconst 1, 1) := by decide +kernel
theorem dX4_bits_27 : decode cX4_bits 27 = .ok (.if_icmp .le 5, 3) := by decide +kernel
theorem dX4_bits_30 : decode cX4_bits 30 = .ok (.lconst 0, 1) := by decide +kernel
theorem dX4_bits_31 : decode cX4_bits 31 = .ok (.lreturn, 1) := by decide +kernel
theorem dX4_bits_32 : decode cX4_bits 32 = .ok (.iload_n 2, 1) := by decide +kernel
theorem dX4_bits_33 : decode cX4_bits 33 = .ok (.ifCond .ne 10, 3) := by decide +kernel
theorem dX4_bits_36 : decode cX4_bits 36 = .ok (.aload_n 3, 1) := by decide +kernel
theorem dX4_bits_37 : decode cX4_bits 37 = .ok (.getfield 237, 3) := by decide +kernel
theorem dX4_bits_40 : decode cX4_bits 40 = .ok (.goto 7, 3) := by decide +kernel
theorem dX4_bits_43 : decode cX4_bits 43 = .ok (.aload_n 3, 1) := by decide +kernel
theorem dX4_bits_44 : decode cX4_bits 44 = .ok (.getfield 241, 3) := by decide +kernel
theorem dX4_bits_47 : decode cX4_bits 47 = .ok (.invokestatic 244, 3) := by decide +kernel
theorem dX4_bits_50 : decode cX4_bits 50 = .ok (.lreturn, 1) := by decide +kernel
theorem dX4_key_0 : decode cX4_key 0 = .ok (.aload_n 0, 1) := by decide +kernel
theorem dX4_key_1 : decode cX4_key 1 = .ok (.getfield 27, 3) := by decide +kernel
theorem dX4_key_4 : decode cX4_key 4 = .ok (.iload_n 1, 1) := by decide +kernel
theorem dX4_key_5 : decode cX4_key 5 = .ok (.invokevirtual 122, 3) := by decide +kernel
theorem dX4_key_8 : decode cX4_key 8 = .ok (.astore 4, 2) := by decide +kernel
theorem dX4_key_10 : decode cX4_key 10 = .ok (.aload 4, 2) := by decide +kernel
theorem dX4_key_12 : decode cX4_key 12 = .ok (.ifnonnull 7, 3) := by decide +kernel
theorem dX4_key_15 : decode cX4_key 15 = .ok (.ldc2_w 194, 3) := by decide +kernel
theorem dX4_key_18 : decode cX4_key 18 = .ok (.lreturn, 1) := by decide +kernel
theorem dX4_key_19 : decode cX4_key 19 = .ok (.iload_n 3, 1) := by decide +kernel
theorem dX4_key_20 : decode cX4_key 20 = .ok (.ifCond .eq 16, 3) := by decide +kernel
theorem dX4_key_23 : decode cX4_key 23 = .ok (.aload_n 0, 1) := by decide +kernel
theorem dX4_key_24 : decode cX4_key 24 = .ok (.getfield 27, 3) := by decide +kernel
theorem dX4_key_27 : decode cX4_key 27 = .ok (.aload 4, 2) := by decide +kernel
theorem dX4_key_29 : decode cX4_key 29 = .ok (.iload_n 2, 1) := by decide +kernel
theorem dX4_key_30 : decode cX4_key 30 = .ok (.invokevirtual 248, 3) := by decide +kernel
theorem dX4_key_33 : decode cX4_key 33 = .ok (.goto 13, 3) := by decide +kernel
theorem dX4_key_36 : decode cX4_key 36 = .ok (.aload_n 0, 1) := by decide +kernel
theorem dX4_key_37 : decode cX4_key 37 = .ok (.getfield 27, 3) := by decide +kernel
theorem dX4_key_40 : decode cX4_key 40 = .ok (.aload 4, 2) := by decide +kernel
theorem dX4_key_42 : decode cX4_key 42 = .ok (.iload_n 2, 1) := by decide +kernel
theorem dX4_key_43 : decode cX4_key 43 = .ok (.invokevirtual 230, 3) := by decide +kernel
theorem dX4_key_46 : decode cX4_key 46 = .ok (.lreturn, 1) := by decide +kernel
theorem dX4_tierOf_0 : decode cX4_tierOf 0 = .ok (.aload_n 0, 1) := by decide +kernel
theorem dX4_tierOf_1 : decode cX4_tierOf 1 = .ok (.invokevirtual 111, 3) := by decide +kernel
theorem dX4_tierOf_4 : decode cX4_tierOf 4 = .ok (.ifCond .eq 16, 3) := by decide +kernel
theorem dX4_tierOf_7 : decode cX4_tierOf 7 = .ok (.iload_n 1, 1) := by decide +kernel
theorem dX4_tierOf_8 : decode cX4_tierOf 8 = .ok (.iconst (-1), 1) := by decide +kernel
theorem dX4_tierOf_9 : decode cX4_tierOf 9 = .ok (.if_icmp .lt 11, 3) := by decide +kernel
theorem dX4_tierOf_12 : decode cX4_tierOf 12 = .ok (.iload_n 1, 1) := by decide +kernel
theorem dX4_tierOf_13 : decode cX4_tierOf 13 = .ok (.aload_n 0, 1) := by decide +kernel
theorem dX4_tierOf_14 : decode cX4_tierOf 14 = .ok (.getfield 38, 3) := by decide +kernel
theorem dX4_tierOf_17 : decode cX4_tierOf 17 = .ok (.if_icmp .lt 5, 3) := by decide +kernel
theorem dX4_tierOf_20 : decode cX4_tierOf 20 = .ok (.aconst_null, 1) := by decide +kernel
theorem dX4_tierOf_21 : decode cX4_tierOf 21 = .ok (.areturn, 1) := by decide +kernel
theorem dX4_tierOf_22 : decode cX4_tierOf 22 = .ok (.iload_n 1, 1) := by decide +kernel
theorem dX4_tierOf_23 : decode cX4_tierOf 23 = .ok (.iconst (-1), 1) := by decide +kernel
theorem dX4_tierOf_24 : decode cX4_tierOf 24 = .ok (.if_icmp .ne 10, 3) := by decide +kernel
theorem dX4_tierOf_27 : decode cX4_tierOf 27 = .ok (.aload_n 0, 1) := by decide +kernel
theorem dX4_tierOf_28 : decode cX4_tierOf 28 = .ok (.getfield 27, 3) := by decide +kernel
theorem dX4_tierOf_31 : decode cX4_tierOf 31 = .ok (.goto 9, 3) := by decide +kernel
theorem dX4_tierOf_34 : decode cX4_tierOf 34 = .ok (.aload_n 0, 1) := by decide +kernel
theorem dX4_tierOf_35 : decode cX4_tierOf 35 = .ok (.getfield 34, 3) := by decide +kernel
theorem dX4_tierOf_38 : decode cX4_tierOf 38 = .ok (.iload_n 1, 1) := by decide +kernel
theorem dX4_tierOf_39 : decode cX4_tierOf 39 = .ok (.aaload, 1) := by decide +kernel
theorem dX4_tierOf_40 : decode cX4_tierOf 40 = .ok (.areturn, 1) := by decide +kernel
theorem dX4_bitsOf_0 : decode cX4_bitsOf 0 = .ok (.dload_n 0, 1) := by decide +kernel
theorem dX4_bitsOf_1 : decode cX4_bitsOf 1 = .ok (.dconst 0, 1) := by decide +kernel
theorem dX4_bitsOf_2 : decode cX4_bitsOf 2 = .ok (.dcmp .l, 1) := by decide +kernel
theorem dX4_bitsOf_3 : decode cX4_bitsOf 3 = .ok (.ifCond .ne 5, 3) := by decide +kernel
theorem dX4_bitsOf_6 : decode cX4_bitsOf 6 = .ok (.lconst 0, 1) := by decide +kernel
theorem dX4_bitsOf_7 : decode cX4_bitsOf 7 = .ok (.lreturn, 1) := by decide +kernel
theorem dX4_bitsOf_8 : decode cX4_bitsOf 8 = .ok (.dload_n 0, 1) := by decide +kernel
theorem dX4_bitsOf_9 : decode cX4_bitsOf 9 = .ok (.dconst 0, 1) := by decide +kernel
theorem dX4_bitsOf_10 : decode cX4_bitsOf 10 = .ok (.dcmp .g, 1) := by decide +kernel
theorem dX4_bitsOf_11 : decode cX4_bitsOf 11 = .ok (.ifCond .ge 8, 3) := by decide +kernel
theorem dX4_bitsOf_14 : decode cX4_bitsOf 14 = .ok (.dload_n 0, 1) := by decide +kernel
theorem dX4_bitsOf_15 : decode cX4_bitsOf 15 = .ok (.dneg, 1) := by decide +kernel
theorem dX4_bitsOf_16 : decode cX4_bitsOf 16 = .ok (.goto 4, 3) := by decide +kernel
theorem dX4_bitsOf_19 : decode cX4_bitsOf 19 = .ok (.dload_n 0, 1) := by decide +kernel
theorem dX4_bitsOf_20 : decode cX4_bitsOf 20 = .ok (.dstore_n 2, 1) := by decide +kernel
theorem dX4_bitsOf_21 : decode cX4_bitsOf 21 = .ok (.iconst 0, 1) := by decide +kernel
theorem dX4_bitsOf_22 : decode cX4_bitsOf 22 = .ok (.istore 4, 2) := by decide +kernel
theorem dX4_bitsOf_24 : decode cX4_bitsOf 24 = .ok (.dload_n 2, 1) := by decide +kernel
theorem dX4_bitsOf_25 : decode cX4_bitsOf 25 = .ok (.ldc2_w 251, 3) := by decide +kernel
theorem dX4_bitsOf_28 : decode cX4_bitsOf 28 = .ok (.dcmp .l, 1) := by decide +kernel
theorem dX4_bitsOf_29 : decode cX4_bitsOf 29 = .ok (.ifCond .lt 23, 3) := by decide +kernel
theorem dX4_bitsOf_32 : decode cX4_bitsOf 32 = .ok (.iload 4, 2) := by decide +kernel
theorem dX4_bitsOf_34 : decode cX4_bitsOf 34 = .ok (.sipush 1023, 3) := by decide +kernel
theorem dX4_bitsOf_37 : decode cX4_bitsOf 37 = .ok (.if_icmp .ge 15, 3) := by decide +kernel
theorem dX4_bitsOf_40 : decode cX4_bitsOf 40 = .ok (.dload_n 2, 1) := by decide +kernel
theorem dX4_bitsOf_41 : decode cX4_bitsOf 41 = .ok (.ldc2_w 251, 3) := by decide +kernel
theorem dX4_bitsOf_44 : decode cX4_bitsOf 44 = .ok (.ddiv, 1) := by decide +kernel
theorem dX4_bitsOf_45 : decode cX4_bitsOf 45 = .ok (.dstore_n 2, 1) := by decide +kernel
theorem dX4_bitsOf_46 : decode cX4_bitsOf 46 = .ok (.iinc 4 1, 3) := by decide +kernel
theorem dX4_bitsOf_49 : decode cX4_bitsOf 49 = .ok (.goto (-25), 3) := by decide +kernel
theorem dX4_bitsOf_52 : decode cX4_bitsOf 52 = .ok (.dload_n 2, 1) := by decide +kernel
theorem dX4_bitsOf_53 : decode cX4_bitsOf 53 = .ok (.dconst 1, 1) := by decide +kernel
theorem dX4_bitsOf_54 : decode cX4_bitsOf 54 = .ok (.dcmp .g, 1) := by decide +kernel
theorem dX4_bitsOf_55 : decode cX4_bitsOf 55 = .ok (.ifCond .ge 23, 3) := by decide +kernel
theorem dX4_bitsOf_58 : decode cX4_bitsOf 58 = .ok (.iload 4, 2) := by decide +kernel
theorem dX4_bitsOf_60 : decode cX4_bitsOf 60 = .ok (.sipush (-1022), 3) := by decide +kernel
theorem dX4_bitsOf_63 : decode cX4_bitsOf 63 = .ok (.if_icmp .le 15, 3) := by decide +kernel
theorem dX4_bitsOf_66 : decode cX4_bitsOf 66 = .ok (.dload_n 2, 1) := by decide +kernel
theorem dX4_bitsOf_67 : decode cX4_bitsOf 67 = .ok (.ldc2_w 251, 3) := by decide +kernel
theorem dX4_bitsOf_70 : decode cX4_bitsOf 70 = .ok (.dmul, 1) := by decide +kernel
theorem dX4_bitsOf_71 : decode cX4_bitsOf 71 = .ok (.dstore_n 2, 1) := by decide +kernel
theorem dX4_bitsOf_72 : decode cX4_bitsOf 72 = .ok (.iinc 4 (-1), 3) := by decide +kernel
theorem dX4_bitsOf_75 : decode cX4_bitsOf 75 = .ok (.goto (-23), 3) := by decide +kernel
theorem dX4_bitsOf_78 : decode cX4_bitsOf 78 = .ok (.dload_n 2, 1) := by decide +kernel
theorem dX4_bitsOf_79 : decode cX4_bitsOf 79 = .ok (.dconst 1, 1) := by decide +kernel
theorem dX4_bitsOf_80 : decode cX4_bitsOf 80 = .ok (.dsub, 1) := by decide +kernel
theorem dX4_bitsOf_81 : decode cX4_bitsOf 81 = .ok (.ldc2_w 253, 3) := by decide +kernel
theorem dX4_bitsOf_84 : decode cX4_bitsOf 84 = .ok (.dmul, 1) := by decide +kernel
theorem dX4_bitsOf_85 : decode cX4_bitsOf 85 = .ok (.d2l, 1) := by decide +kernel
theorem dX4_bitsOf_86 : decode cX4_bitsOf 86 = .ok (.lstore 5, 2) := by decide +kernel
theorem dX4_bitsOf_88 : decode cX4_bitsOf 88 = .ok (.iload 4, 2) := by decide +kernel
theorem dX4_bitsOf_90 : decode cX4_bitsOf 90 = .ok (.i2l, 1) := by decide +kernel
theorem dX4_bitsOf_91 : decode cX4_bitsOf 91 = .ok (.ldc2_w 255, 3) := by decide +kernel
theorem dX4_bitsOf_94 : decode cX4_bitsOf 94 = .ok (.ladd, 1) := by decide +kernel
theorem dX4_bitsOf_95 : decode cX4_bitsOf 95 = .ok (.bipush 52, 2) := by decide +kernel
theorem dX4_bitsOf_97 : decode cX4_bitsOf 97 = .ok (.lshl, 1) := by decide +kernel
theorem dX4_bitsOf_98 : decode cX4_bitsOf 98 = .ok (.lload 5, 2) := by decide +kernel
theorem dX4_bitsOf_100 : decode cX4_bitsOf 100 = .ok (.lor, 1) := by decide +kernel
theorem dX4_bitsOf_101 : decode cX4_bitsOf 101 = .ok (.lstore 7, 2) := by decide +kernel
theorem dX4_bitsOf_103 : decode cX4_bitsOf 103 = .ok (.dload_n 0, 1) := by decide +kernel
theorem dX4_bitsOf_104 : decode cX4_bitsOf 104 = .ok (.dconst 0, 1) := by decide +kernel
theorem dX4_bitsOf_105 : decode cX4_bitsOf 105 = .ok (.dcmp .g, 1) := by decide +kernel
theorem dX4_bitsOf_106 : decode cX4_bitsOf 106 = .ok (.ifCond .ge 12, 3) := by decide +kernel
theorem dX4_bitsOf_109 : decode cX4_bitsOf 109 = .ok (.lload 7, 2) := by decide +kernel
theorem dX4_bitsOf_111 : decode cX4_bitsOf 111 = .ok (.ldc2_w 194, 3) := by decide +kernel
theorem dX4_bitsOf_114 : decode cX4_bitsOf 114 = .ok (.lor, 1) := by decide +kernel
theorem dX4_bitsOf_115 : decode cX4_bitsOf 115 = .ok (.goto 5, 3) := by decide +kernel
theorem dX4_bitsOf_118 : decode cX4_bitsOf 118 = .ok (.lload 7, 2) := by decide +kernel
theorem dX4_bitsOf_120 : decode cX4_bitsOf 120 = .ok (.lreturn, 1) := by decide +kernel
theorem dX4_looks_0 : decode cX4_looks 0 = .ok (.aload_n 0, 1) := by decide +kernel
theorem dX4_looks_1 : decode cX4_looks 1 = .ok (.getfield 53, 3) := by decide +kernel
theorem dX4_looks_4 : decode cX4_looks 4 = .ok (.getfield 257, 3) := by decide +kernel
theorem dX4_looks_7 : decode cX4_looks 7 = .ok (.ireturn, 1) := by decide +kernel
theorem dX4_told_0 : decode cX4_told 0 = .ok (.iload_n 1, 1) := by decide +kernel
theorem dX4_told_1 : decode cX4_told 1 = .ok (.ifCond .lt 26, 3) := by decide +kernel
theorem dX4_told_4 : decode cX4_told 4 = .ok (.iload_n 1, 1) := by decide +kernel
theorem dX4_told_5 : decode cX4_told 5 = .ok (.aload_n 0, 1) := by decide +kernel
theorem dX4_told_6 : decode cX4_told 6 = .ok (.getfield 53, 3) := by decide +kernel
theorem dX4_told_9 : decode cX4_told 9 = .ok (.getfield 260, 3) := by decide +kernel
theorem dX4_told_12 : decode cX4_told 12 = .ok (.if_icmp .ge 15, 3) := by decide +kernel
theorem dX4_told_15 : decode cX4_told 15 = .ok (.aload_n 0, 1) := by decide +kernel
theorem dX4_told_16 : decode cX4_told 16 = .ok (.getfield 53, 3) := by decide +kernel
theorem dX4_told_19 : decode cX4_told 19 = .ok (.getfield 261, 3) := by decide +kernel
theorem dX4_told_22 : decode cX4_told 22 = .ok (.iload_n 1, 1) := by decide +kernel
theorem dX4_told_23 : decode cX4_told 23 = .ok (.iaload, 1) := by decide +kernel
theorem dX4_told_24 : decode cX4_told 24 = .ok (.goto 5, 3) := by decide +kernel
theorem dX4_told_27 : decode cX4_told 27 = .ok (.bipush (-2), 2) := by decide +kernel
theorem dX4_told_29 : decode cX4_told 29 = .ok (.ireturn, 1) := by decide +kernel
theorem dX4_check_0 : decode cX4_check 0 = .ok (.aload_n 0, 1) := by decide +kernel
theorem dX4_check_1 : decode cX4_check 1 = .ok (.invokevirtual 111, 3) := by decide +kernel
theorem dX4_check_4 : decode cX4_check 4 = .ok (.ifCond .ne 5, 3) := by decide +kernel
theorem dX4_check_7 : decode cX4_check 7 = .ok (.iconst (-1), 1) := by decide +kernel
theorem dX4_check_8 : decode cX4_check 8 = .ok (.ireturn, 1) := by decide +kernel
theorem dX4_check_9 : decode cX4_check 9 = .ok (.lload_n 1, 1) := by decide +kernel
theorem dX4_check_10 : decode cX4_check 10 = .ok (.invokestatic 70, 3) := by decide +kernel
theorem dX4_check_13 : decode cX4_check 13 = .ok (.ifCond .eq 13, 3) := by decide +kernel
theorem dX4_check_16 : decode cX4_check 16 = .ok (.aload_n 0, 1) := by decide +kernel
theorem dX4_check_17 : decode cX4_check 17 = .ok (.getfield 53, 3) := by decide +kernel
theorem dX4_check_20 : decode cX4_check 20 = .ok (.getfield 260, 3) := by decide +kernel
theorem dX4_check_23 : decode cX4_check 23 = .ok (.ifCond .ne 6, 3) := by decide +kernel
theorem dX4_check_26 : decode cX4_check 26 = .ok (.bipush (-2), 2) := by decide +kernel
theorem dX4_check_28 : decode cX4_check 28 = .ok (.ireturn, 1) := by decide +kernel
theorem dX4_check_29 : decode cX4_check 29 = .ok (.aload_n 0, 1) := by decide +kernel
theorem dX4_check_30 : decode cX4_check 30 = .ok (.getfield 57, 3) := by decide +kernel
theorem dX4_check_33 : decode cX4_check 33 = .ok (.lload_n 1, 1) := by decide +kernel
theorem dX4_check_34 : decode cX4_check 34 = .ok (.aload_n 0, 1) := by decide +kernel
theorem dX4_check_35 : decode cX4_check 35 = .ok (.getfield 27, 3) := by decide +kernel
theorem dX4_check_38 : decode cX4_check 38 = .ok (.aload_n 0, 1) := by decide +kernel
theorem dX4_check_39 : decode cX4_check 39 = .ok (.getfield 34, 3) := by decide +kernel
theorem dX4_check_42 : decode cX4_check 42 = .ok (.aload_n 0, 1) := by decide +kernel
theorem dX4_check_43 : decode cX4_check 43 = .ok (.getfield 38, 3) := by decide +kernel
theorem dX4_check_46 : decode cX4_check 46 = .ok (.invokevirtual 157, 3) := by decide +kernel
theorem dX4_check_49 : decode cX4_check 49 = .ok (.iconst 2, 1) := by decide +kernel
theorem dX4_check_50 : decode cX4_check 50 = .ok (.aload_n 0, 1) := by decide +kernel
theorem dX4_check_51 : decode cX4_check 51 = .ok (.getfield 57, 3) := by decide +kernel
theorem dX4_check_54 : decode cX4_check 54 = .ok (.getfield 161, 3) := by decide +kernel
theorem dX4_check_57 : decode cX4_check 57 = .ok (.imul, 1) := by decide +kernel
theorem dX4_check_58 : decode cX4_check 58 = .ok (.aload_n 0, 1) := by decide +kernel
theorem dX4_check_59 : decode cX4_check 59 = .ok (.getfield 57, 3) := by decide +kernel
theorem dX4_check_62 : decode cX4_check 62 = .ok (.aload_n 0, 1) := by decide +kernel
theorem dX4_check_63 : decode cX4_check 63 = .ok (.getfield 53, 3) := by decide +kernel
theorem dX4_check_66 : decode cX4_check 66 = .ok (.invokevirtual 265, 3) := by decide +kernel
theorem dX4_check_69 : decode cX4_check 69 = .ok (.ifCond .eq 7, 3) := by decide +kernel
theorem dX4_check_72 : decode cX4_check 72 = .ok (.iconst 1, 1) := by decide +kernel
theorem dX4_check_73 : decode cX4_check 73 = .ok (.goto 4, 3) := by decide +kernel
theorem dX4_check_76 : decode cX4_check 76 = .ok (.iconst 0, 1) := by decide +kernel
theorem dX4_check_77 : decode cX4_check 77 = .ok (.iadd, 1) := by decide +kernel
theorem dX4_check_78 : decode cX4_check 78 = .ok (.ireturn, 1) := by decide +kernel
theorem dX4_count_0 : decode cX4_count 0 = .ok (.iload_n 1, 1) := by decide +kernel
theorem dX4_count_1 : decode cX4_count 1 = .ok (.tableswitch 60 0 4 #[35, 40, 45, 50, 55], 35) := by decide +kernel
theorem dX4_count_36 : decode cX4_count 36 = .ok (.aload_n 0, 1) := by decide +kernel
theorem dX4_count_37 : decode cX4_count 37 = .ok (.getfield 15, 3) := by decide +kernel
theorem dX4_count_40 : decode cX4_count 40 = .ok (.ireturn, 1) := by decide +kernel
theorem dX4_count_41 : decode cX4_count 41 = .ok (.aload_n 0, 1) := by decide +kernel
theorem dX4_count_42 : decode cX4_count 42 = .ok (.getfield 19, 3) := by decide +kernel
theorem dX4_count_45 : decode cX4_count 45 = .ok (.ireturn, 1) := by decide +kernel
theorem dX4_count_46 : decode cX4_count 46 = .ok (.aload_n 0, 1) := by decide +kernel
theorem dX4_count_47 : decode cX4_count 47 = .ok (.getfield 41, 3) := by decide +kernel
theorem dX4_count_50 : decode cX4_count 50 = .ok (.ireturn, 1) := by decide +kernel
theorem dX4_count_51 : decode cX4_count 51 = .ok (.aload_n 0, 1) := by decide +kernel
theorem dX4_count_52 : decode cX4_count 52 = .ok (.getfield 44, 3) := by decide +kernel
theorem dX4_count_55 : decode cX4_count 55 = .ok (.ireturn, 1) := by decide +kernel
theorem dX4_count_56 : decode cX4_count 56 = .ok (.aload_n 0, 1) := by decide +kernel
theorem dX4_count_57 : decode cX4_count 57 = .ok (.getfield 47, 3) := by decide +kernel
theorem dX4_count_60 : decode cX4_count 60 = .ok (.ireturn, 1) := by decide +kernel
theorem dX4_count_61 : decode cX4_count 61 = .ok (.iconst (-1), 1) := by decide +kernel
theorem dX4_count_62 : decode cX4_count 62 = .ok (.ireturn, 1) := by decide +kernel
theorem dX4_hasIndex_0 : decode cX4_hasIndex 0 = .ok (.aload_n 0, 1) := by decide +kernel
theorem dX4_hasIndex_1 : decode cX4_hasIndex 1 = .ok (.getfield 27, 3) := by decide +kernel
theorem dX4_hasIndex_4 : decode cX4_hasIndex 4 = .ok (.getfield 104, 3) := by decide +kernel
theorem dX4_hasIndex_7 : decode cX4_hasIndex 7 = .ok (.ifCond .le 7, 3) := by decide +kernel
theorem dX4_hasIndex_10 : decode cX4_hasIndex 10 = .ok (.iconst 1, 1) := by decide +kernel
theorem dX4_hasIndex_11 : decode cX4_hasIndex 11 = .ok (.goto 4, 3) := by decide +kernel
theorem dX4_hasIndex_14 : decode cX4_hasIndex 14 = .ok (.iconst 0, 1) := by decide +kernel
theorem dX4_hasIndex_15 : decode cX4_hasIndex 15 = .ok (.ireturn, 1) := by decide +kernel
theorem dX4_isAboveRow_0 : decode cX4_isAboveRow 0 = .ok (.aload_n 0, 1) := by decide +kernel
theorem dX4_isAboveRow_1 : decode cX4_isAboveRow 1 = .ok (.getfield 15, 3) := by decide +kernel
theorem dX4_isAboveRow_4 : decode cX4_isAboveRow 4 = .ok (.ifCond .eq 19, 3) := by decide +kernel
theorem dX4_isAboveRow_7 : decode cX4_isAboveRow 7 = .ok (.lload_n 1, 1) := by decide +kernel
theorem dX4_isAboveRow_8 : decode cX4_isAboveRow 8 = .ok (.aload_n 0, 1) := by decide +kernel
theorem dX4_isAboveRow_9 : decode cX4_isAboveRow 9 = .ok (.getfield 11, 3) := by decide +kernel
theorem dX4_isAboveRow_12 : decode cX4_isAboveRow 12 = .ok (.aload_n 0, 1) := by decide +kernel
theorem dX4_isAboveRow_13 : decode cX4_isAboveRow 13 = .ok (.getfield 15, 3) := by decide +kernel
theorem dX4_isAboveRow_16 : decode cX4_isAboveRow 16 = .ok (.iconst 1, 1) := by decide +kernel
theorem dX4_isAboveRow_17 : decode cX4_isAboveRow 17 = .ok (.isub, 1) := by decide +kernel
theorem dX4_isAboveRow_18 : decode cX4_isAboveRow 18 = .ok (.laload, 1) := by decide +kernel
theorem dX4_isAboveRow_19 : decode cX4_isAboveRow 19 = .ok (.lcmp, 1) := by decide +kernel
theorem dX4_isAboveRow_20 : decode cX4_isAboveRow 20 = .ok (.ifCond .le 7, 3) := by decide +kernel
theorem dX4_isAboveRow_23 : decode cX4_isAboveRow 23 = .ok (.iconst 1, 1) := by decide +kernel
theorem dX4_isAboveRow_24 : decode cX4_isAboveRow 24 = .ok (.goto 4, 3) := by decide +kernel
theorem dX4_isAboveRow_27 : decode cX4_isAboveRow 27 = .ok (.iconst 0, 1) := by decide +kernel
theorem dX4_isAboveRow_28 : decode cX4_isAboveRow 28 = .ok (.ireturn, 1) := by decide +kernel
theorem dX4_isKindToMake_0 : decode cX4_isKindToMake 0 = .ok (.iload_n 1, 1) := by decide +kernel
theorem dX4_isKindToMake_1 : decode cX4_isKindToMake 1 = .ok (.iconst 1, 1) := by decide +kernel
theorem dX4_isKindToMake_2 : decode cX4_isKindToMake 2 = .ok (.if_icmp .eq 15, 3) := by decide +kernel
theorem dX4_isKindToMake_5 : decode cX4_isKindToMake 5 = .ok (.iload_n 1, 1) := by decide +kernel
theorem dX4_isKindToMake_6 : decode cX4_isKindToMake 6 = .ok (.iconst 2, 1) := by decide +kernel
theorem dX4_isKindToMake_7 : decode cX4_isKindToMake 7 = .ok (.if_icmp .ne 14, 3) := by decide +kernel
theorem dX4_isKindToMake_10 : decode cX4_isKindToMake 10 = .ok (.aload_n 0, 1) := by decide +kernel
theorem dX4_isKindToMake_11 : decode cX4_isKindToMake 11 = .ok (.getfield 19, 3) := by decide +kernel
theorem dX4_isKindToMake_14 : decode cX4_isKindToMake 14 = .ok (.ifCond .le 7, 3) := by decide +kernel
theorem dX4_isKindToMake_17 : decode cX4_isKindToMake 17 = .ok (.iconst 1, 1) := by decide +kernel
theorem dX4_isKindToMake_18 : decode cX4_isKindToMake 18 = .ok (.goto 4, 3) := by decide +kernel
theorem dX4_isKindToMake_21 : decode cX4_isKindToMake 21 = .ok (.iconst 0, 1) := by decide +kernel
theorem dX4_isKindToMake_22 : decode cX4_isKindToMake 22 = .ok (.ireturn, 1) := by decide +kernel
theorem dX4_isKey_0 : decode cX4_isKey 0 = .ok (.lload_n 0, 1) := by decide +kernel
theorem dX4_isKey_1 : decode cX4_isKey 1 = .ok (.ldc2_w 269, 3) := by decide +kernel
theorem dX4_isKey_4 : decode cX4_isKey 4 = .ok (.lcmp, 1) := by decide +kernel
theorem dX4_isKey_5 : decode cX4_isKey 5 = .ok (.ifCond .lt 15, 3) := by decide +kernel
theorem dX4_isKey_8 : decode cX4_isKey 8 = .ok (.lload_n 0, 1) := by decide +kernel
theorem dX4_isKey_9 : decode cX4_isKey 9 = .ok (.ldc2_w 77, 3) := by decide +kernel
theorem dX4_isKey_12 : decode cX4_isKey 12 = .ok (.lcmp, 1) := by decide +kernel
theorem dX4_isKey_13 : decode cX4_isKey 13 = .ok (.ifCond .gt 7, 3) := by decide +kernel
theorem dX4_isKey_16 : decode cX4_isKey 16 = .ok (.iconst 1, 1) := by decide +kernel
theorem dX4_isKey_17 : decode cX4_isKey 17 = .ok (.goto 4, 3) := by decide +kernel
theorem dX4_isKey_20 : decode cX4_isKey 20 = .ok (.iconst 0, 1) := by decide +kernel
theorem dX4_isKey_21 : decode cX4_isKey 21 = .ok (.ireturn, 1) := by decide +kernel
theorem dX4_isMargin_0 : decode cX4_isMargin 0 = .ok (.iload_n 0, 1) := by decide +kernel
theorem dX4_isMargin_1 : decode cX4_isMargin 1 = .ok (.ifCond .lt 13, 3) := by decide +kernel
theorem dX4_isMargin_4 : decode cX4_isMargin 4 = .ok (.iload_n 0, 1) := by decide +kernel
theorem dX4_isMargin_5 : decode cX4_isMargin 5 = .ok (.bipush 40, 2) := by decide +kernel
theorem dX4_isMargin_7 : decode cX4_isMargin 7 = .ok (.if_icmp .gt 7, 3) := by decide +kernel
theorem dX4_isMargin_10 : decode cX4_isMargin 10 = .ok (.iconst 1, 1) := by decide +kernel
theorem dX4_isMargin_11 : decode cX4_isMargin 11 = .ok (.goto 4, 3) := by decide +kernel
theorem dX4_isMargin_14 : decode cX4_isMargin 14 = .ok (.iconst 0, 1) := by decide +kernel
theorem dX4_isMargin_15 : decode cX4_isMargin 15 = .ok (.ireturn, 1) := by decide +kernel
theorem dX5_init_0 : decode cX5_init 0 = .ok (.aload_n 0, 1) := by decide +kernel
theorem dX5_init_1 : decode cX5_init 1 = .ok (.invokespecial 1, 3) := by decide +kernel
theorem dX5_init_4 : decode cX5_init 4 = .ok (.aload_n 0, 1) := by decide +kernel
theorem dX5_init_5 : decode cX5_init 5 = .ok (.sipush 300, 3) := by decide +kernel
theorem dX5_init_8 : decode cX5_init 8 = .ok (.newarray .long, 2) := by decide +kernel
theorem dX5_init_10 : decode cX5_init 10 = .ok (.putfield 7, 3) := by decide +kernel
theorem dX5_init_13 : decode cX5_init 13 = .ok (.aload_n 0, 1) := by decide +kernel
theorem dX5_init_14 : decode cX5_init 14 = .ok (.iconst 0, 1) := by decide +kernel
theorem dX5_init_15 : decode cX5_init 15 = .ok (.putfield 13, 3) := by decide +kernel
theorem dX5_init_18 : decode cX5_init 18 = .ok (.aload_n 0, 1) := by decide +kernel
theorem dX5_init_19 : decode cX5_init 19 = .ok (.bipush 8, 2) := by decide +kernel
theorem dX5_init_21 : decode cX5_init 21 = .ok (.putfield 17, 3) := by decide +kernel
theorem dX5_init_24 : decode cX5_init 24 = .ok (.aload_n 0, 1) := by decide +kernel
theorem dX5_init_25 : decode cX5_init 25 = .ok (.sipush 5000, 3) := by decide +kernel
theorem dX5_init_28 : decode cX5_init 28 = .ok (.newarray .long, 2) := by decide +kernel
theorem dX5_init_30 : decode cX5_init 30 = .ok (.putfield 20, 3) := by decide +kernel
theorem dX5_init_33 : decode cX5_init 33 = .ok (.aload_n 0, 1) := by decide +kernel
theorem dX5_init_34 : decode cX5_init 34 = .ok (.lconst 0, 1) := by decide +kernel
theorem dX5_init_35 : decode cX5_init 35 = .ok (.putfield 23, 3) := by decide +kernel
theorem dX5_init_38 : decode cX5_init 38 = .ok (.aload_n 0, 1) := by decide +kernel
theorem dX5_init_39 : decode cX5_init 39 = .ok (.lconst 0, 1) := by decide +kernel
theorem dX5_init_40 : decode cX5_init 40 = .ok (.putfield 27, 3) := by decide +kernel
theorem dX5_init_43 : decode cX5_init 43 = .ok (.aload_n 0, 1) := by decide +kernel
theorem dX5_init_44 : decode cX5_init 44 = .ok (.lconst 0, 1) := by decide +kernel
theorem dX5_init_45 : decode cX5_init 45 = .ok (.putfield 30, 3) := by decide +kernel
theorem dX5_init_48 : decode cX5_init 48 = .ok (.aload_n 0, 1) := by decide +kernel
theorem dX5_init_49 : decode cX5_init 49 = .ok (.lconst 0, 1) := by decide +kernel
theorem dX5_init_50 : decode cX5_init 50 = .ok (.putfield 33, 3) := by decide +kernel
theorem dX5_init_53 : decode cX5_init 53 = .ok (.aload_n 0, 1) := by decide +kernel
theorem dX5_init_54 : decode cX5_init 54 = .ok (.iconst 0, 1) := by decide +kernel
theorem dX5_init_55 : decode cX5_init 55 = .ok (.putfield 36, 3) := by decide +kernel
theorem dX5_init_58 : decode cX5_init 58 = .ok (.aload_n 0, 1) := by decide +kernel
theorem dX5_init_59 : decode cX5_init 59 = .ok (.iconst 0, 1) := by decide +kernel
theorem dX5_init_60 : decode cX5_init 60 = .ok (.putfield 39, 3) := by decide +kernel
theorem dX5_init_63 : decode cX5_init 63 = .ok (.aload_n 0, 1) := by decide +kernel
theorem dX5_init_64 : decode cX5_init 64 = .ok (.bipush 20, 2) := by decide +kernel
theorem dX5_init_66 : decode cX5_init 66 = .ok (.newarray .int, 2) := by decide +kernel
theorem dX5_init_68 : decode cX5_init 68 = .ok (.putfield 42, 3) := by decide +kernel
theorem dX5_init_71 : decode cX5_init 71 = .ok (.aload_n 0, 1) := by decide +kernel
theorem dX5_init_72 : decode cX5_init 72 = .ok (.bipush 20, 2) := by decide +kernel
theorem dX5_init_74 : decode cX5_init 74 = .ok (.newarray .int, 2) := by decide +kernel
theorem dX5_init_76 : decode cX5_init 76 = .ok (.putfield 46, 3) := by decide +kernel
theorem dX5_init_79 : decode cX5_init 79 = .ok (.aload_n 0, 1) := by decide +kernel
theorem dX5_init_80 : decode cX5_init 80 = .ok (.sipush 10000, 3) := by decide +kernel
theorem dX5_init_83 : decode cX5_init 83 = .ok (.newarray .int, 2) := by decide +kernel
theorem dX5_init_85 : decode cX5_init 85 = .ok (.putfield 49, 3) := by decide +kernel
theorem dX5_init_88 : decode cX5_init 88 = .ok (.aload_n 0, 1) := by decide +kernel
theorem dX5_init_89 : decode cX5_init 89 = .ok (.sipush 10000, 3) := by decide +kernel
theorem dX5_init_92 : decode cX5_init 92 = .ok (.newarray .int, 2) := by decide +kernel
theorem dX5_init_94 : decode cX5_init 94 = .ok (.putfield 52, 3) := by decide +kernel
theorem dX5_init_97 : decode cX5_init 97 = .ok (.aload_n 0, 1) := by decide +kernel
theorem dX5_init_98 : decode cX5_init 98 = .ok (.sipush 10000, 3) := by decide +kernel
theorem dX5_init_101 : decode cX5_init 101 = .ok (.newarray .int, 2) := by decide +kernel
theorem dX5_init_103 : decode cX5_init 103 = .ok (.putfield 55, 3) := by decide +kernel
theorem dX5_init_106 : decode cX5_init 106 = .ok (.aload_n 0, 1) := by decide +kernel
theorem dX5_init_107 : decode cX5_init 107 = .ok (.sipush 10000, 3) := by decide +kernel
theorem dX5_init_110 : decode cX5_init 110 = .ok (.newarray .int, 2) := by decide +kernel
theorem dX5_init_112 : decode cX5_init 112 = .ok (.putfield 58, 3) := by decide +kernel
theorem dX5_init_115 : decode cX5_init 115 = .ok (.aload_n 0, 1) := by decide +kernel
theorem dX5_init_116 : decode cX5_init 116 = .ok (.sipush 10000, 3) := by decide +kernel
theorem dX5_init_119 : decode cX5_init 119 = .ok (.newarray .int, 2) := by decide +kernel
theorem dX5_init_121 : decode cX5_init 121 = .ok (.putfield 61, 3) := by decide +kernel
theorem dX5_init_124 : decode cX5_init 124 = .ok (.aload_n 0, 1) := by decide +kernel
theorem dX5_init_125 : decode cX5_init 125 = .ok (.sipush 10000, 3) := by decide +kernel
theorem dX5_init_128 : decode cX5_init 128 = .ok (.newarray .long, 2) := by decide +kernel
theorem dX5_init_130 : decode cX5_init 130 = .ok (.putfield 64, 3) := by decide +kernel
theorem dX5_init_133 : decode cX5_init 133 = .ok (.aload_n 0, 1) := by decide +kernel
theorem dX5_init_134 : decode cX5_init 134 = .ok (.sipush 10000, 3) := by decide +kernel
theorem dX5_init_137 : decode cX5_init 137 = .ok (.newarray .long, 2) := by decide +kernel
theorem dX5_init_139 : decode cX5_init 139 = .ok (.putfield 67, 3) := by decide +kernel
theorem dX5_init_142 : decode cX5_init 142 = .ok (.aload_n 0, 1) := by decide +kernel
theorem dX5_init_143 : decode cX5_init 143 = .ok (.sipush 10000, 3) := by decide +kernel
theorem dX5_init_146 : decode cX5_init 146 = .ok (.newarray .long, 2) := by decide +kernel
theorem dX5_init_148 : decode cX5_init 148 = .ok (.putfield 70, 3) := by decide +kernel
theorem dX5_init_151 : decode cX5_init 151 = .ok (.aload_n 0, 1) := by decide +kernel
theorem dX5_init_152 : decode cX5_init 152 = .ok (.sipush 12000, 3) := by decide +kernel
theorem dX5_init_155 : decode cX5_init 155 = .ok (.newarray .long, 2) := by decide +kernel
theorem dX5_init_157 : decode cX5_init 157 = .ok (.putfield 73, 3) := by decide +kernel
theorem dX5_init_160 : decode cX5_init 160 = .ok (.aload_n 0, 1) := by decide +kernel
theorem dX5_init_161 : decode cX5_init 161 = .ok (.ldc 76, 2) := by decide +kernel
theorem dX5_init_163 : decode cX5_init 163 = .ok (.newarray .long, 2) := by decide +kernel
theorem dX5_init_165 : decode cX5_init 165 = .ok (.putfield 77, 3) := by decide +kernel
theorem dX5_init_168 : decode cX5_init 168 = .ok (.aload_n 0, 1) := by decide +kernel
theorem dX5_init_169 : decode cX5_init 169 = .ok (.sipush 12000, 3) := by decide +kernel
theorem dX5_init_172 : decode cX5_init 172 = .ok (.newarray .boolean, 2) := by decide +kernel
theorem dX5_init_174 : decode cX5_init 174 = .ok (.putfield 80, 3) := by decide +kernel
theorem dX5_init_177 : decode cX5_init 177 = .ok (.aload_n 0, 1) := by decide +kernel
theorem dX5_init_178 : decode cX5_init 178 = .ok (.iconst 0, 1) := by decide +kernel
theorem dX5_init_179 : decode cX5_init 179 = .ok (.putfield 84, 3) := by decide +kernel
theorem dX5_init_182 : decode cX5_init 182 = .ok (.aload_n 0, 1) := by decide +kernel
theorem dX5_init_183 : decode cX5_init 183 = .ok (.iconst 0, 1) := by decide +kernel
theorem dX5_init_184 : decode cX5_init 184 = .ok (.putfield 88, 3) := by decide +kernel
theorem dX5_init_187 : decode cX5_init 187 = .ok (.aload_n 0, 1) := by decide +kernel
theorem dX5_init_188 : decode cX5_init 188 = .ok (.iconst 0, 1) := by decide +kernel
theorem dX5_init_189 : decode cX5_init 189 = .ok (.putfield 91, 3) := by decide +kernel
theorem dX5_init_192 : decode cX5_init 192 = .ok (.aload_n 0, 1) := by decide +kernel
theorem dX5_init_193 : decode cX5_init 193 = .ok (.iconst 0, 1) := by decide +kernel
theorem dX5_init_194 : decode cX5_init 194 = .ok (.putfield 94, 3) := by decide +kernel
theorem dX5_init_197 : decode cX5_init 197 = .ok (.aload_n 0, 1) := by decide +kernel
theorem dX5_init_198 : decode cX5_init 198 = .ok (.sipush 5000, 3) := by decide +kernel
theorem dX5_init_201 : decode cX5_init 201 = .ok (.newarray .int, 2) := by decide +kernel
theorem dX5_init_203 : decode cX5_init 203 = .ok (.putfield 97, 3) := by decide +kernel
theorem dX5_init_206 : decode cX5_init 206 = .ok (.aload_n 0, 1) := by decide +kernel
theorem dX5_init_207 : decode cX5_init 207 = .ok (.sipush 5000, 3) := by decide +kernel
theorem dX5_init_210 : decode cX5_init 210 = .ok (.newarray .int, 2) := by decide +kernel
theorem dX5_init_212 : decode cX5_init 212 = .ok (.putfield 100, 3) := by decide +kernel
theorem dX5_init_215 : decode cX5_init 215 = .ok (.aload_n 0, 1) := by decide +kernel
theorem dX5_init_216 : decode cX5_init 216 = .ok (.sipush 5000, 3) := by decide +kernel
theorem dX5_init_219 : decode cX5_init 219 = .ok (.newarray .int, 2) := by decide +kernel
theorem dX5_init_221 : decode cX5_init 221 = .ok (.putfield 103, 3) := by decide +kernel
theorem dX5_init_224 : decode cX5_init 224 = .ok (.aload_n 0, 1) := by decide +kernel
theorem dX5_init_225 : decode cX5_init 225 = .ok (.sipush 5000, 3) := by decide +kernel
theorem dX5_init_228 : decode cX5_init 228 = .ok (.newarray .int, 2) := by decide +kernel
theorem dX5_init_230 : decode cX5_init 230 = .ok (.putfield 106, 3) := by decide +kernel
theorem dX5_init_233 : decode cX5_init 233 = .ok (.aload_n 0, 1) := by decide +kernel
theorem dX5_init_234 : decode cX5_init 234 = .ok (.sipush 5000, 3) := by decide +kernel
theorem dX5_init_237 : decode cX5_init 237 = .ok (.newarray .long, 2) := by decide +kernel
theorem dX5_init_239 : decode cX5_init 239 = .ok (.putfield 109, 3) := by decide +kernel
theorem dX5_init_242 : decode cX5_init 242 = .ok (.aload_n 0, 1) := by decide +kernel
theorem dX5_init_243 : decode cX5_init 243 = .ok (.sipush 5000, 3) := by decide +kernel
theorem dX5_init_246 : decode cX5_init 246 = .ok (.newarray .long, 2) := by decide +kernel
theorem dX5_init_248 : decode cX5_init 248 = .ok (.putfield 112, 3) := by decide +kernel
theorem dX5_init_251 : decode cX5_init 251 = .ok (.aload_n 0, 1) := by decide +kernel
theorem dX5_init_252 : decode cX5_init 252 = .ok (.sipush 5000, 3) := by decide +kernel
theorem dX5_init_255 : decode cX5_init 255 = .ok (.newarray .long, 2) := by decide +kernel
theorem dX5_init_257 : decode cX5_init 257 = .ok (.putfield 115, 3) := by decide +kernel
theorem dX5_init_260 : decode cX5_init 260 = .ok (.aload_n 0, 1) := by decide +kernel
theorem dX5_init_261 : decode cX5_init 261 = .ok (.sipush 6000, 3) := by decide +kernel
theorem dX5_init_264 : decode cX5_init 264 = .ok (.newarray .long, 2) := by decide +kernel
theorem dX5_init_266 : decode cX5_init 266 = .ok (.putfield 118, 3) := by decide +kernel
theorem dX5_init_269 : decode cX5_init 269 = .ok (.aload_n 0, 1) := by decide +kernel
theorem dX5_init_270 : decode cX5_init 270 = .ok (.ldc 121, 2) := by decide +kernel
theorem dX5_init_272 : decode cX5_init 272 = .ok (.newarray .long, 2) := by decide +kernel
theorem dX5_init_274 : decode cX5_init 274 = .ok (.putfield 122, 3) := by decide +kernel
theorem dX5_init_277 : decode cX5_init 277 = .ok (.aload_n 0, 1) := by decide +kernel
theorem dX5_init_278 : decode cX5_init 278 = .ok (.sipush 6000, 3) := by decide +kernel
theorem dX5_init_281 : decode cX5_init 281 = .ok (.newarray .boolean, 2) := by decide +kernel
theorem dX5_init_283 : decode cX5_init 283 = .ok (.putfield 125, 3) := by decide +kernel
theorem dX5_init_286 : decode cX5_init 286 = .ok (.aload_n 0, 1) := by decide +kernel
theorem dX5_init_287 : decode cX5_init 287 = .ok (.bipush 64, 2) := by decide +kernel
theorem dX5_init_289 : decode cX5_init 289 = .ok (.newarray .int, 2) := by decide +kernel
theorem dX5_init_291 : decode cX5_init 291 = .ok (.putfield 128, 3) := by decide +kernel
theorem dX5_init_294 : decode cX5_init 294 = .ok (.aload_n 0, 1) := by decide +kernel
theorem dX5_init_295 : decode cX5_init 295 = .ok (.bipush 64, 2) := by decide +kernel
theorem dX5_init_297 : decode cX5_init 297 = .ok (.newarray .int, 2) := by decide +kernel
theorem dX5_init_299 : decode cX5_init 299 = .ok (.putfield 131, 3) := by decide +kernel
theorem dX5_init_302 : decode cX5_init 302 = .ok (.aload_n 0, 1) := by decide +kernel
theorem dX5_init_303 : decode cX5_init 303 = .ok (.iconst 0, 1) := by decide +kernel
theorem dX5_init_304 : decode cX5_init 304 = .ok (.putfield 134, 3) := by decide +kernel
theorem dX5_init_307 : decode cX5_init 307 = .ok (.aload_n 0, 1) := by decide +kernel
theorem dX5_init_308 : decode cX5_init 308 = .ok (.iconst 0, 1) := by decide +kernel
theorem dX5_init_309 : decode cX5_init 309 = .ok (.putfield 137, 3) := by decide +kernel
theorem dX5_init_312 : decode cX5_init 312 = .ok (.aload_n 0, 1) := by decide +kernel
theorem dX5_init_313 : decode cX5_init 313 = .ok (.iconst 0, 1) := by decide +kernel
theorem dX5_init_314 : decode cX5_init 314 = .ok (.putfield 140, 3) := by decide +kernel
theorem dX5_init_317 : decode cX5_init 317 = .ok (.aload_n 0, 1) := by decide +kernel
theorem dX5_init_318 : decode cX5_init 318 = .ok (.iconst 0, 1) := by decide +kernel
theorem dX5_init_319 : decode cX5_init 319 = .ok (.putfield 143, 3) := by decide +kernel
theorem dX5_init_322 : decode cX5_init 322 = .ok (.aload_n 0, 1) := by decide +kernel
theorem dX5_init_323 : decode cX5_init 323 = .ok (.iconst 0, 1) := by decide +kernel
theorem dX5_init_324 : decode cX5_init 324 = .ok (.putfield 146, 3) := by decide +kernel
theorem dX5_init_327 : decode cX5_init 327 = .ok (.aload_n 0, 1) := by decide +kernel
theorem dX5_init_328 : decode cX5_init 328 = .ok (.iconst 0, 1) := by decide +kernel
theorem dX5_init_329 : decode cX5_init 329 = .ok (.putfield 149, 3) := by decide +kernel
theorem dX5_init_332 : decode cX5_init 332 = .ok (.aload_n 0, 1) := by decide +kernel
theorem dX5_init_333 : decode cX5_init 333 = .ok (.iconst 0, 1) := by decide +kernel
theorem dX5_init_334 : decode cX5_init 334 = .ok (.putfield 152, 3) := by decide +kernel
theorem dX5_init_337 : decode cX5_init 337 = .ok (.aload_n 0, 1) := by decide +kernel
theorem dX5_init_338 : decode cX5_init 338 = .ok (.iconst 0, 1) := by decide +kernel
theorem dX5_init_339 : decode cX5_init 339 = .ok (.putfield 155, 3) := by decide +kernel
theorem dX5_init_342 : decode cX5_init 342 = .ok (.return_, 1) := by decide +kernel
theorem dX5_isKey_0 : decode cX5_isKey 0 = .ok (.lload_n 1, 1) := by decide +kernel
theorem dX5_isKey_1 : decode cX5_isKey 1 = .ok (.ldc2_w 158, 3) := by decide +kernel
theorem dX5_isKey_4 : decode cX5_isKey 4 = .ok (.lcmp, 1) := by decide +kernel
theorem dX5_isKey_5 : decode cX5_isKey 5 = .ok (.ifCond .lt 15, 3) := by decide +kernel
theorem dX5_isKey_8 : decode cX5_isKey 8 = .ok (.lload_n 1, 1) := by decide +kernel
theorem dX5_isKey_9 : decode cX5_isKey 9 = .ok (.ldc2_w 160, 3) := by decide +kernel
theorem dX5_isKey_12 : decode cX5_isKey 12 = .ok (.lcmp, 1) := by decide +kernel
theorem dX5_isKey_13 : decode cX5_isKey 13 = .ok (.ifCond .gt 7, 3) := by decide +kernel
theorem dX5_isKey_16 : decode cX5_isKey 16 = .ok (.iconst 1, 1) := by decide +kernel
theorem dX5_isKey_17 : decode cX5_isKey 17 = .ok (.goto 4, 3) := by decide +kernel
theorem dX5_isKey_20 : decode cX5_isKey 20 = .ok (.iconst 0, 1) := by decide +kernel
theorem dX5_isKey_21 : decode cX5_isKey 21 = .ok (.ireturn, 1) := by decide +kernel
theorem dX5_load_0 : decode cX5_load 0 = .ok (.aload_n 0, 1) := by decide +kernel
theorem dX5_load_1 : decode cX5_load 1 = .ok (.lload_n 1, 1) := by decide +kernel
theorem dX5_load_2 : decode cX5_load 2 = .ok (.invokevirtual 162, 3) := by decide +kernel
theorem dX5_load_5 : decode cX5_load 5 = .ok (.ifCond .eq 26, 3) := by decide +kernel
theorem dX5_load_8 : decode cX5_load 8 = .ok (.aload_n 0, 1) := by decide +kernel
theorem dX5_load_9 : decode cX5_load 9 = .ok (.getfield 13, 3) := by decide +kernel
theorem dX5_load_12 : decode cX5_load 12 = .ok (.ifCond .le 22, 3) := by decide +kernel
theorem dX5_load_15 : decode cX5_load 15 = .ok (.lload_n 1, 1) := by decide +kernel
theorem dX5_load_16 : decode cX5_load 16 = .ok (.aload_n 0, 1) := by decide +kernel
theorem dX5_load_17 : decode cX5_load 17 = .ok (.getfield 7, 3) := by decide +kernel
theorem dX5_load_20 : decode cX5_load 20 = .ok (.aload_n 0, 1) := by decide +kernel
theorem dX5_load_21 : decode cX5_load 21 = .ok (.getfield 13, 3) := by decide +kernel
theorem dX5_load_24 : decode cX5_load 24 = .ok (.iconst 1, 1) := by decide +kernel
theorem dX5_load_25 : decode cX5_load 25 = .ok (.isub, 1) := by decide +kernel
theorem dX5_load_26 : decode cX5_load 26 = .ok (.laload, 1) := by decide +kernel
theorem dX5_load_27 : decode cX5_load 27 = .ok (.lcmp, 1) := by decide +kernel
theorem dX5_load_28 : decode cX5_load 28 = .ok (.ifCond .gt 6, 3) := by decide +kernel
theorem dX5_load_31 : decode cX5_load 31 = .ok (.bipush (-2), 2) := by decide +kernel
theorem dX5_load_33 : decode cX5_load 33 = .ok (.ireturn, 1) := by decide +kernel
theorem dX5_load_34 : decode cX5_load 34 = .ok (.aload_n 0, 1) := by decide +kernel
theorem dX5_load_35 : decode cX5_load 35 = .ok (.getfield 13, 3) := by decide +kernel
theorem dX5_load_38 : decode cX5_load 38 = .ok (.sipush 300, 3) := by decide +kernel
theorem dX5_load_41 : decode cX5_load 41 = .ok (.if_icmp .ne 6, 3) := by decide +kernel
theorem dX5_load_44 : decode cX5_load 44 = .ok (.bipush (-3), 2) := by decide +kernel
theorem dX5_load_46 : decode cX5_load 46 = .ok (.ireturn, 1) := by decide +kernel
theorem dX5_load_47 : decode cX5_load 47 = .ok (.aload_n 0, 1) := by decide +kernel
theorem dX5_load_48 : decode cX5_load 48 = .ok (.getfield 7, 3) := by decide +kernel
theorem dX5_load_51 : decode cX5_load 51 = .ok (.aload_n 0, 1) := by decide +kernel
theorem dX5_load_52 : decode cX5_load 52 = .ok (.getfield 13, 3) := by decide +kernel
theorem dX5_load_55 : decode cX5_load 55 = .ok (.lload_n 1, 1) := by decide +kernel
theorem dX5_load_56 : decode cX5_load 56 = .ok (.lastore, 1) := by decide +kernel
theorem dX5_load_57 : decode cX5_load 57 = .ok (.aload_n 0, 1) := by decide +kernel
theorem dX5_load_58 : decode cX5_load 58 = .ok (.dup, 1) := by decide +kernel
theorem dX5_load_59 : decode cX5_load 59 = .ok (.getfield 13, 3) := by decide +kernel
theorem dX5_load_62 : decode cX5_load 62 = .ok (.iconst 1, 1) := by decide +kernel
theorem dX5_load_63 : decode cX5_load 63 = .ok (.iadd, 1) := by decide +kernel
theorem dX5_load_64 : decode cX5_load 64 = .ok (.putfield 13, 3) := by decide +kernel
theorem dX5_load_67 : decode cX5_load 67 = .ok (.aload_n 0, 1) := by decide +kernel
theorem dX5_load_68 : decode cX5_load 68 = .ok (.getfield 13, 3) := by decide +kernel
theorem dX5_load_71 : decode cX5_load 71 = .ok (.ireturn, 1) := by decide +kernel
theorem dX5_fill_0 : decode cX5_fill 0 = .ok (.iload 5, 2) := by decide +kernel
theorem dX5_fill_2 : decode cX5_fill 2 = .ok (.iconst 1, 1) := by decide +kernel
theorem dX5_fill_3 : decode cX5_fill 3 = .ok (.if_icmp .lt 40, 3) := by decide +kernel
theorem dX5_fill_6 : decode cX5_fill 6 = .ok (.lload_n 3, 1) := by decide +kernel
theorem dX5_fill_7 : decode cX5_fill 7 = .ok (.lconst 1, 1) := by decide +kernel
theorem dX5_fill_8 : decode cX5_fill 8 = .ok (.lcmp, 1) := by decide +kernel
theorem dX5_fill_9 : decode cX5_fill 9 = .ok (.ifCond .lt 34, 3) := by decide +kernel
theorem dX5_fill_12 : decode cX5_fill 12 = .ok (.aload_n 0, 1) := by decide +kernel
theorem dX5_fill_13 : decode cX5_fill 13 = .ok (.lload_n 1, 1) := by decide +kernel
theorem dX5_fill_14 : decode cX5_fill 14 = .ok (.invokevirtual 162, 3) := by decide +kernel
theorem dX5_fill_17 : decode cX5_fill 17 = .ok (.ifCond .eq 26, 3) := by decide +kernel
theorem dX5_fill_20 : decode cX5_fill 20 = .ok (.aload_n 0, 1) := by decide +kernel
theorem dX5_fill_21 : decode cX5_fill 21 = .ok (.getfield 13, 3) := by decide +kernel
theorem dX5_fill_24 : decode cX5_fill 24 = .ok (.ifCond .le 22, 3) := by decide +kernel
theorem dX5_fill_27 : decode cX5_fill 27 = .ok (.lload_n 1, 1) := by decide +kernel
theorem dX5_fill_28 : decode cX5_fill 28 = .ok (.aload_n 0, 1) := by decide +kernel
theorem dX5_fill_29 : decode cX5_fill 29 = .ok (.getfield 7, 3) := by decide +kernel
theorem dX5_fill_32 : decode cX5_fill 32 = .ok (.aload_n 0, 1) := by decide +kernel
theorem dX5_fill_33 : decode cX5_fill 33 = .ok (.getfield 13, 3) := by decide +kernel
theorem dX5_fill_36 : decode cX5_fill 36 = .ok (.iconst 1, 1) := by decide +kernel
theorem dX5_fill_37 : decode cX5_fill 37 = .ok (.isub, 1) := by decide +kernel
theorem dX5_fill_38 : decode cX5_fill 38 = .ok (.laload, 1) := by decide +kernel
theorem dX5_fill_39 : decode cX5_fill 39 = .ok (.lcmp, 1) := by decide +kernel
theorem dX5_fill_40 : decode cX5_fill 40 = .ok (.ifCond .gt 6, 3) := by decide +kernel
theorem dX5_fill_43 : decode cX5_fill 43 = .ok (.bipush (-2), 2) := by decide +kernel
theorem dX5_fill_45 : decode cX5_fill 45 = .ok (.ireturn, 1) := by decide +kernel
theorem dX5_fill_46 : decode cX5_fill 46 = .ok (.iload 5, 2) := by decide +kernel
theorem dX5_fill_48 : decode cX5_fill 48 = .ok (.iconst 1, 1) := by decide +kernel
theorem dX5_fill_49 : decode cX5_fill 49 = .ok (.if_icmp .le 22, 3) := by decide +kernel
theorem dX5_fill_52 : decode cX5_fill 52 = .ok (.lload_n 3, 1) := by decide +kernel
theorem dX5_fill_53 : decode cX5_fill 53 = .ok (.ldc2_w 160, 3) := by decide +kernel
theorem dX5_fill_56 : decode cX5_fill 56 = .ok (.lload_n 1, 1) := by decide +kernel
theorem dX5_fill_57 : decode cX5_fill 57 = .ok (.lsub, 1) := by decide +kernel
theorem dX5_fill_58 : decode cX5_fill 58 = .ok (.iload 5, 2) := by decide +kernel
theorem dX5_fill_60 : decode cX5_fill 60 = .ok (.iconst 1, 1) := by decide +kernel
theorem dX5_fill_61 : decode cX5_fill 61 = .ok (.isub, 1) := by decide +kernel
theorem dX5_fill_62 : decode cX5_fill 62 = .ok (.i2l, 1) := by decide +kernel
theorem dX5_fill_63 : decode cX5_fill 63 = .ok (.ldiv, 1) := by decide +kernel
theorem dX5_fill_64 : decode cX5_fill 64 = .ok (.lcmp, 1) := by decide +kernel
theorem dX5_fill_65 : decode cX5_fill 65 = .ok (.ifCond .le 6, 3) := by decide +kernel
theorem dX5_fill_68 : decode cX5_fill 68 = .ok (.bipush (-2), 2) := by decide +kernel
theorem dX5_fill_70 : decode cX5_fill 70 = .ok (.ireturn, 1) := by decide +kernel
theorem dX5_fill_71 : decode cX5_fill 71 = .ok (.aload_n 0, 1) := by decide +kernel
theorem dX5_fill_72 : decode cX5_fill 72 = .ok (.getfield 13, 3) := by decide +kernel
theorem dX5_fill_75 : decode cX5_fill 75 = .ok (.i2l, 1) := by decide +kernel
theorem dX5_fill_76 : decode cX5_fill 76 = .ok (.iload 5, 2) := by decide +kernel
theorem dX5_fill_78 : decode cX5_fill 78 = .ok (.i2l, 1) := by decide +kernel
theorem dX5_fill_79 : decode cX5_fill 79 = .ok (.ladd, 1) := by decide +kernel
theorem dX5_fill_80 : decode cX5_fill 80 = .ok (.ldc2_w 166, 3) := by decide +kernel
theorem dX5_fill_83 : decode cX5_fill 83 = .ok (.lcmp, 1) := by decide +kernel
theorem dX5_fill_84 : decode cX5_fill 84 = .ok (.ifCond .le 6, 3) := by decide +kernel
theorem dX5_fill_87 : decode cX5_fill 87 = .ok (.bipush (-3), 2) := by decide +kernel
theorem dX5_fill_89 : decode cX5_fill 89 = .ok (.ireturn, 1) := by decide +kernel
theorem dX5_fill_90 : decode cX5_fill 90 = .ok (.iconst 0, 1) := by decide +kernel
theorem dX5_fill_91 : decode cX5_fill 91 = .ok (.istore 6, 2) := by decide +kernel
theorem dX5_fill_93 : decode cX5_fill 93 = .ok (.iload 6, 2) := by decide +kernel
theorem dX5_fill_95 : decode cX5_fill 95 = .ok (.iload 5, 2) := by decide +kernel
theorem dX5_fill_97 : decode cX5_fill 97 = .ok (.if_icmp .ge 35, 3) := by decide +kernel
theorem dX5_fill_100 : decode cX5_fill 100 = .ok (.aload_n 0, 1) := by decide +kernel
theorem dX5_fill_101 : decode cX5_fill 101 = .ok (.getfield 7, 3) := by decide +kernel
theorem dX5_fill_104 : decode cX5_fill 104 = .ok (.aload_n 0, 1) := by decide +kernel
theorem dX5_fill_105 : decode cX5_fill 105 = .ok (.getfield 13, 3) := by decide +kernel
theorem dX5_fill_108 : decode cX5_fill 108 = .ok (.lload_n 1, 1) := by decide +kernel
theorem dX5_fill_109 : decode cX5_fill 109 = .ok (.lload_n 3, 1) := by decide +kernel
theorem dX5_fill_110 : decode cX5_fill 110 = .ok (.iload 6, 2) := by decide +kernel
theorem dX5_fill_112 : decode cX5_fill 112 = .ok (.i2l, 1) := by decide +kernel
theorem dX5_fill_113 : decode cX5_fill 113 = .ok (.lmul, 1) := by decide +kernel
theorem dX5_fill_114 : decode cX5_fill 114 = .ok (.ladd, 1) := by decide +kernel
theorem dX5_fill_115 : decode cX5_fill 115 = .ok (.lastore, 1) := by decide +kernel
theorem dX5_fill_116 : decode cX5_fill 116 = .ok (.aload_n 0, 1) := by decide +kernel
theorem dX5_fill_117 : decode cX5_fill 117 = .ok (.dup, 1) := by decide +kernel
theorem dX5_fill_118 : decode cX5_fill 118 = .ok (.getfield 13, 3) := by decide +kernel
theorem dX5_fill_121 : decode cX5_fill 121 = .ok (.iconst 1, 1) := by decide +kernel
theorem dX5_fill_122 : decode cX5_fill 122 = .ok (.iadd, 1) := by decide +kernel
theorem dX5_fill_123 : decode cX5_fill 123 = .ok (.putfield 13, 3) := by decide +kernel
theorem dX5_fill_126 : decode cX5_fill 126 = .ok (.iinc 6 1, 3) := by decide +kernel
theorem dX5_fill_129 : decode cX5_fill 129 = .ok (.goto (-36), 3) := by decide +kernel
theorem dX5_fill_132 : decode cX5_fill 132 = .ok (.aload_n 0, 1) := by decide +kernel
theorem dX5_fill_133 : decode cX5_fill 133 = .ok (.getfield 13, 3) := by decide +kernel
theorem dX5_fill_136 : decode cX5_fill 136 = .ok (.ireturn, 1) := by decide +kernel
theorem dX5_wipe_0 : decode cX5_wipe 0 = .ok (.aload_n 0, 1) := by decide +kernel
theorem dX5_wipe_1 : decode cX5_wipe 1 = .ok (.getfield 13, 3) := by decide +kernel
theorem dX5_wipe_4 : decode cX5_wipe 4 = .ok (.istore_n 1, 1) := by decide +kernel
theorem dX5_wipe_5 : decode cX5_wipe 5 = .ok (.aload_n 0, 1) := by decide +kernel
theorem dX5_wipe_6 : decode cX5_wipe 6 = .ok (.iconst 0, 1) := by decide +kernel
theorem dX5_wipe_7 : decode cX5_wipe 7 = .ok (.putfield 13, 3) := by decide +kernel
theorem dX5_wipe_10 : decode cX5_wipe 10 = .ok (.iload_n 1, 1) := by decide +kernel
theorem dX5_wipe_11 : decode cX5_wipe 11 = .ok (.ireturn, 1) := by decide +kernel
theorem dX5_margin_0 : decode cX5_margin 0 = .ok (.iload_n 1, 1) := by decide +kernel
theorem dX5_margin_1 : decode cX5_margin 1 = .ok (.ifCond .lt 9, 3) := by decide +kernel
theorem dX5_margin_4 : decode cX5_margin 4 = .ok (.iload_n 1, 1) := by decide +kernel
theorem dX5_margin_5 : decode cX5_margin 5 = .ok (.bipush 40, 2) := by decide +kernel
theorem dX5_margin_7 : decode cX5_margin 7 = .ok (.if_icmp .le 6, 3) := by decide +kernel
theorem dX5_margin_10 : decode cX5_margin 10 = .ok (.bipush (-2), 2) := by decide +kernel
theorem dX5_margin_12 : decode cX5_margin 12 = .ok (.ireturn, 1) := by decide +kernel
theorem dX5_margin_13 : decode cX5_margin 13 = .ok (.aload_n 0, 1) := by decide +kernel
theorem dX5_margin_14 : decode cX5_margin 14 = .ok (.getfield 17, 3) := by decide +kernel
theorem dX5_margin_17 : decode cX5_margin 17 = .ok (.istore_n 2, 1) := by decide +kernel
theorem dX5_margin_18 : decode cX5_margin 18 = .ok (.aload_n 0, 1) := by decide +kernel
theorem dX5_margin_19 : decode cX5_margin 19 = .ok (.iload_n 1, 1) := by decide +kernel
theorem dX5_margin_20 : decode cX5_margin 20 = .ok (.putfield 17, 3) := by decide +kernel
theorem dX5_margin_23 : decode cX5_margin 23 = .ok (.iload_n 2, 1) := by decide +kernel
theorem dX5_margin_24 : decode cX5_margin 24 = .ok (.ireturn, 1) := by decide +kernel
theorem dX5_passed_0 : decode cX5_passed 0 = .ok (.aload_n 0, 1) := by decide +kernel
theorem dX5_passed_1 : decode cX5_passed 1 = .ok (.lconst 0, 1) := by decide +kernel
theorem dX5_passed_2 : decode cX5_passed 2 = .ok (.putfield 27, 3) := by decide +kernel
theorem dX5_passed_5 : decode cX5_passed 5 = .ok (.aload_n 0, 1) := by decide +kernel
theorem dX5_passed_6 : decode cX5_passed 6 = .ok (.lconst 0, 1) := by decide +kernel
theorem dX5_passed_7 : decode cX5_passed 7 = .ok (.putfield 33, 3) := by decide +kernel
theorem dX5_passed_10 : decode cX5_passed 10 = .ok (.iload_n 1, 1) := by decide +kernel
theorem dX5_passed_11 : decode cX5_passed 11 = .ok (.iconst 1, 1) := by decide +kernel
theorem dX5_passed_12 : decode cX5_passed 12 = .ok (.iadd, 1) := by decide +kernel
theorem dX5_passed_13 : decode cX5_passed 13 = .ok (.istore 4, 2) := by decide +kernel
theorem dX5_passed_15 : decode cX5_passed 15 = .ok (.iload 4, 2) := by decide +kernel
theorem dX5_passed_17 : decode cX5_passed 17 = .ok (.iload_n 2, 1) := by decide +kernel
theorem dX5_passed_18 : decode cX5_passed 18 = .ok (.if_icmp .ge 35, 3) := by decide +kernel
theorem dX5_passed_21 : decode cX5_passed 21 = .ok (.iload_n 1, 1) := by decide +kernel
theorem dX5_passed_22 : decode cX5_passed 22 = .ok (.istore 5, 2) := by decide +kernel
theorem dX5_passed_24 : decode cX5_passed 24 = .ok (.iload 5, 2) := by decide +kernel
theorem dX5_passed_26 : decode cX5_passed 26 = .ok (.iload 4, 2) := by decide +kernel
theorem dX5_passed_28 : decode cX5_passed 28 = .ok (.if_icmp .ge 19, 3) := by decide +kernel
theorem dX5_passed_31 : decode cX5_passed 31 = .ok (.aload_n 0, 1) := by decide +kernel
theorem dX5_passed_32 : decode cX5_passed 32 = .ok (.iload 5, 2) := by decide +kernel
theorem dX5_passed_34 : decode cX5_passed 34 = .ok (.iload 4, 2) := by decide +kernel
theorem dX5_passed_36 : decode cX5_passed 36 = .ok (.iload_n 1, 1) := by decide +kernel
theorem dX5_passed_37 : decode cX5_passed 37 = .ok (.iload_n 3, 1) := by decide +kernel
theorem dX5_passed_38 : decode cX5_passed 38 = .ok (.invokevirtual 168, 3) := by decide +kernel
theorem dX5_passed_41 : decode cX5_passed 41 = .ok (.iinc 5 1, 3) := by decide +kernel
theorem dX5_passed_44 : decode cX5_passed 44 = .ok (.goto (-20), 3) := by decide +kernel
theorem dX5_passed_47 : decode cX5_passed 47 = .ok (.iinc 4 1, 3) := by decide +kernel
theorem dX5_passed_50 : decode cX5_passed 50 = .ok (.goto (-35), 3) := by decide +kernel
theorem dX5_passed_53 : decode cX5_passed 53 = .ok (.aload_n 0, 1) := by decide +kernel
theorem dX5_passed_54 : decode cX5_passed 54 = .ok (.invokevirtual 172, 3) := by decide +kernel
theorem dX5_passed_57 : decode cX5_passed 57 = .ok (.ireturn, 1) := by decide +kernel
theorem dX5_pair_0 : decode cX5_pair 0 = .ok (.aload_n 0, 1) := by decide +kernel
theorem dX5_pair_1 : decode cX5_pair 1 = .ok (.getfield 20, 3) := by decide +kernel
theorem dX5_pair_4 : decode cX5_pair 4 = .ok (.iload_n 2, 1) := by decide +kernel
theorem dX5_pair_5 : decode cX5_pair 5 = .ok (.laload, 1) := by decide +kernel
theorem dX5_pair_6 : decode cX5_pair 6 = .ok (.aload_n 0, 1) := by decide +kernel
theorem dX5_pair_7 : decode cX5_pair 7 = .ok (.getfield 20, 3) := by decide +kernel
theorem dX5_pair_10 : decode cX5_pair 10 = .ok (.iload_n 1, 1) := by decide +kernel
theorem dX5_pair_11 : decode cX5_pair 11 = .ok (.laload, 1) := by decide +kernel
theorem dX5_pair_12 : decode cX5_pair 12 = .ok (.lsub, 1) := by decide +kernel
theorem dX5_pair_13 : decode cX5_pair 13 = .ok (.lstore 5, 2) := by decide +kernel
theorem dX5_pair_15 : decode cX5_pair 15 = .ok (.iload_n 2, 1) := by decide +kernel
theorem dX5_pair_16 : decode cX5_pair 16 = .ok (.iload_n 1, 1) := by decide +kernel
theorem dX5_pair_17 : decode cX5_pair 17 = .ok (.isub, 1) := by decide +kernel
theorem dX5_pair_18 : decode cX5_pair 18 = .ok (.i2l, 1) := by decide +kernel
theorem dX5_pair_19 : decode cX5_pair 19 = .ok (.ldc2_w 176, 3) := by decide +kernel
theorem dX5_pair_22 : decode cX5_pair 22 = .ok (.iload 4, 2) := by decide +kernel
theorem dX5_pair_24 : decode cX5_pair 24 = .ok (.i2l, 1) := by decide +kernel
theorem dX5_pair_25 : decode cX5_pair 25 = .ok (.lmul, 1) := by decide +kernel
theorem dX5_pair_26 : decode cX5_pair 26 = .ok (.ladd, 1) := by decide +kernel
theorem dX5_pair_27 : decode cX5_pair 27 = .ok (.lstore 7, 2) := by decide +kernel
theorem dX5_pair_29 : decode cX5_pair 29 = .ok (.iload_n 2, 1) := by decide +kernel
theorem dX5_pair_30 : decode cX5_pair 30 = .ok (.iload_n 1, 1) := by decide +kernel
theorem dX5_pair_31 : decode cX5_pair 31 = .ok (.isub, 1) := by decide +kernel
theorem dX5_pair_32 : decode cX5_pair 32 = .ok (.i2l, 1) := by decide +kernel
theorem dX5_pair_33 : decode cX5_pair 33 = .ok (.ldc2_w 176, 3) := by decide +kernel
theorem dX5_pair_36 : decode cX5_pair 36 = .ok (.iload 4, 2) := by decide +kernel
theorem dX5_pair_38 : decode cX5_pair 38 = .ok (.i2l, 1) := by decide +kernel
theorem dX5_pair_39 : decode cX5_pair 39 = .ok (.lmul, 1) := by decide +kernel
theorem dX5_pair_40 : decode cX5_pair 40 = .ok (.lsub, 1) := by decide +kernel
theorem dX5_pair_41 : decode cX5_pair 41 = .ok (.lstore 9, 2) := by decide +kernel
theorem dX5_pair_43 : decode cX5_pair 43 = .ok (.aload_n 0, 1) := by decide +kernel
theorem dX5_pair_44 : decode cX5_pair 44 = .ok (.getfield 27, 3) := by decide +kernel
theorem dX5_pair_47 : decode cX5_pair 47 = .ok (.lconst 0, 1) := by decide +kernel
theorem dX5_pair_48 : decode cX5_pair 48 = .ok (.lcmp, 1) := by decide +kernel
theorem dX5_pair_49 : decode cX5_pair 49 = .ok (.ifCond .eq 21, 3) := by decide +kernel
theorem dX5_pair_52 : decode cX5_pair 52 = .ok (.lload 7, 2) := by decide +kernel
theorem dX5_pair_54 : decode cX5_pair 54 = .ok (.aload_n 0, 1) := by decide +kernel
theorem dX5_pair_55 : decode cX5_pair 55 = .ok (.getfield 27, 3) := by decide +kernel
theorem dX5_pair_58 : decode cX5_pair 58 = .ok (.lmul, 1) := by decide +kernel
theorem dX5_pair_59 : decode cX5_pair 59 = .ok (.aload_n 0, 1) := by decide +kernel
theorem dX5_pair_60 : decode cX5_pair 60 = .ok (.getfield 23, 3) := by decide +kernel
theorem dX5_pair_63 : decode cX5_pair 63 = .ok (.lload 5, 2) := by decide +kernel
theorem dX5_pair_65 : decode cX5_pair 65 = .ok (.lmul, 1) := by decide +kernel
theorem dX5_pair_66 : decode cX5_pair 66 = .ok (.lcmp, 1) := by decide +kernel
theorem dX5_pair_67 : decode cX5_pair 67 = .ok (.ifCond .ge 20, 3) := by decide +kernel
theorem dX5_pair_70 : decode cX5_pair 70 = .ok (.aload_n 0, 1) := by decide +kernel
theorem dX5_pair_71 : decode cX5_pair 71 = .ok (.lload 7, 2) := by decide +kernel
theorem dX5_pair_73 : decode cX5_pair 73 = .ok (.putfield 23, 3) := by decide +kernel
theorem dX5_pair_76 : decode cX5_pair 76 = .ok (.aload_n 0, 1) := by decide +kernel
theorem dX5_pair_77 : decode cX5_pair 77 = .ok (.lload 5, 2) := by decide +kernel
theorem dX5_pair_79 : decode cX5_pair 79 = .ok (.putfield 27, 3) := by decide +kernel
theorem dX5_pair_82 : decode cX5_pair 82 = .ok (.aload_n 0, 1) := by decide +kernel
theorem dX5_pair_83 : decode cX5_pair 83 = .ok (.iload_n 1, 1) := by decide +kernel
theorem dX5_pair_84 : decode cX5_pair 84 = .ok (.putfield 36, 3) := by decide +kernel
theorem dX5_pair_87 : decode cX5_pair 87 = .ok (.aload_n 0, 1) := by decide +kernel
theorem dX5_pair_88 : decode cX5_pair 88 = .ok (.getfield 33, 3) := by decide +kernel
theorem dX5_pair_91 : decode cX5_pair 91 = .ok (.lconst 0, 1) := by decide +kernel
theorem dX5_pair_92 : decode cX5_pair 92 = .ok (.lcmp, 1) := by decide +kernel
theorem dX5_pair_93 : decode cX5_pair 93 = .ok (.ifCond .eq 21, 3) := by decide +kernel
theorem dX5_pair_96 : decode cX5_pair 96 = .ok (.lload 9, 2) := by decide +kernel
theorem dX5_pair_98 : decode cX5_pair 98 = .ok (.aload_n 0, 1) := by decide +kernel
theorem dX5_pair_99 : decode cX5_pair 99 = .ok (.getfield 33, 3) := by decide +kernel
theorem dX5_pair_102 : decode cX5_pair 102 = .ok (.lmul, 1) := by decide +kernel
theorem dX5_pair_103 : decode cX5_pair 103 = .ok (.aload_n 0, 1) := by decide +kernel
theorem dX5_pair_104 : decode cX5_pair 104 = .ok (.getfield 30, 3) := by decide +kernel
theorem dX5_pair_107 : decode cX5_pair 107 = .ok (.lload 5, 2) := by decide +kernel
theorem dX5_pair_109 : decode cX5_pair 109 = .ok (.lmul, 1) := by decide +kernel
theorem dX5_pair_110 : decode cX5_pair 110 = .ok (.lcmp, 1) := by decide +kernel
theorem dX5_pair_111 : decode cX5_pair 111 = .ok (.ifCond .le 15, 3) := by decide +kernel
theorem dX5_pair_114 : decode cX5_pair 114 = .ok (.aload_n 0, 1) := by decide +kernel
theorem dX5_pair_115 : decode cX5_pair 115 = .ok (.lload 9, 2) := by decide +kernel
theorem dX5_pair_117 : decode cX5_pair 117 = .ok (.putfield 30, 3) := by decide +kernel
theorem dX5_pair_120 : decode cX5_pair 120 = .ok (.aload_n 0, 1) := by decide +kernel
theorem dX5_pair_121 : decode cX5_pair 121 = .ok (.lload 5, 2) := by decide +kernel
theorem dX5_pair_123 : decode cX5_pair 123 = .ok (.putfield 33, 3) := by decide +kernel
theorem dX5_pair_126 : decode cX5_pair 126 = .ok (.return_, 1) := by decide +kernel
theorem dX5_fits_0 : decode cX5_fits 0 = .ok (.aload_n 0, 1) := by decide +kernel
theorem dX5_fits_1 : decode cX5_fits 1 = .ok (.getfield 27, 3) := by decide +kernel
theorem dX5_fits_4 : decode cX5_fits 4 = .ok (.lconst 0, 1) := by decide +kernel
theorem dX5_fits_5 : decode cX5_fits 5 = .ok (.lcmp, 1) := by decide +kernel
theorem dX5_fits_6 : decode cX5_fits 6 = .ok (.ifCond .eq 25, 3) := by decide +kernel
theorem dX5_fits_9 : decode cX5_fits 9 = .ok (.aload_n 0, 1) := by decide +kernel
theorem dX5_fits_10 : decode cX5_fits 10 = .ok (.getfield 30, 3) := by decide +kernel
theorem dX5_fits_13 : decode cX5_fits 13 = .ok (.aload_n 0, 1) := by decide +kernel
theorem dX5_fits_14 : decode cX5_fits 14 = .ok (.getfield 27, 3) := by decide +kernel
theorem dX5_fits_17 : decode cX5_fits 17 = .ok (.lmul, 1) := by decide +kernel
theorem dX5_fits_18 : decode cX5_fits 18 = .ok (.aload_n 0, 1) := by decide +kernel
theorem dX5_fits_19 : decode cX5_fits 19 = .ok (.getfield 23, 3) := by decide +kernel
theorem dX5_fits_22 : decode cX5_fits 22 = .ok (.aload_n 0, 1) := by decide +kernel
theorem dX5_fits_23 : decode cX5_fits 23 = .ok (.getfield 33, 3) := by decide +kernel
theorem dX5_fits_26 : decode cX5_fits 26 = .ok (.lmul, 1) := by decide +kernel
theorem dX5_fits_27 : decode cX5_fits 27 = .ok (.lcmp, 1) := by decide +kernel
theorem dX5_fits_28 : decode cX5_fits 28 = .ok (.ifCond .gt 7, 3) := by decide +kernel
theorem dX5_fits_31 : decode cX5_fits 31 = .ok (.iconst 1, 1) := by decide +kernel
theorem dX5_fits_32 : decode cX5_fits 32 = .ok (.goto 4, 3) := by decide +kernel
theorem dX5_fits_35 : decode cX5_fits 35 = .ok (.iconst 0, 1) := by decide +kernel
theorem dX5_fits_36 : decode cX5_fits 36 = .ok (.ireturn, 1) := by decide +kernel
theorem dX5_spanEnd_0 : decode cX5_spanEnd 0 = .ok (.aload_n 0, 1) := by decide +kernel
theorem dX5_spanEnd_1 : decode cX5_spanEnd 1 = .ok (.lconst 0, 1) := by decide +kernel
theorem dX5_spanEnd_2 : decode cX5_spanEnd 2 = .ok (.putfield 27, 3) := by decide +kernel
theorem dX5_spanEnd_5 : decode cX5_spanEnd 5 = .ok (.aload_n 0, 1) := by decide +kernel
theorem dX5_spanEnd_6 : decode cX5_spanEnd 6 = .ok (.lconst 0, 1) := by decide +kernel
theorem dX5_spanEnd_7 : decode cX5_spanEnd 7 = .ok (.putfield 33, 3) := by decide +kernel
theorem dX5_spanEnd_10 : decode cX5_spanEnd 10 = .ok (.iload_n 1, 1) := by decide +kernel
theorem dX5_spanEnd_11 : decode cX5_spanEnd 11 = .ok (.iconst 1, 1) := by decide +kernel
theorem dX5_spanEnd_12 : decode cX5_spanEnd 12 = .ok (.iadd, 1) := by decide +kernel
theorem dX5_spanEnd_13 : decode cX5_spanEnd 13 = .ok (.istore 4, 2) := by decide +kernel
theorem dX5_spanEnd_15 : decode cX5_spanEnd 15 = .ok (.iconst 1, 1) := by decide +kernel
theorem dX5_spanEnd_16 : decode cX5_spanEnd 16 = .ok (.istore 5, 2) := by decide +kernel
theorem dX5_spanEnd_18 : decode cX5_spanEnd 18 = .ok (.iload 4, 2) := by decide +kernel
theorem dX5_spanEnd_20 : decode cX5_spanEnd 20 = .ok (.iload_n 2, 1) := by decide +kernel
theorem dX5_spanEnd_21 : decode cX5_spanEnd 21 = .ok (.if_icmp .ge 58, 3) := by decide +kernel
theorem dX5_spanEnd_24 : decode cX5_spanEnd 24 = .ok (.iload 5, 2) := by decide +kernel
theorem dX5_spanEnd_26 : decode cX5_spanEnd 26 = .ok (.ifCond .eq 53, 3) := by decide +kernel
theorem dX5_spanEnd_29 : decode cX5_spanEnd 29 = .ok (.iload_n 1, 1) := by decide +kernel
theorem dX5_spanEnd_30 : decode cX5_spanEnd 30 = .ok (.istore 6, 2) := by decide +kernel
theorem dX5_spanEnd_32 : decode cX5_spanEnd 32 = .ok (.iload 6, 2) := by decide +kernel
theorem dX5_spanEnd_34 : decode cX5_spanEnd 34 = .ok (.iload 4, 2) := by decide +kernel
theorem dX5_spanEnd_36 : decode cX5_spanEnd 36 = .ok (.if_icmp .ge 19, 3) := by decide +kernel
theorem dX5_spanEnd_39 : decode cX5_spanEnd 39 = .ok (.aload_n 0, 1) := by decide +kernel
theorem dX5_spanEnd_40 : decode cX5_spanEnd 40 = .ok (.iload 6, 2) := by decide +kernel
theorem dX5_spanEnd_42 : decode cX5_spanEnd 42 = .ok (.iload 4, 2) := by decide +kernel
theorem dX5_spanEnd_44 : decode cX5_spanEnd 44 = .ok (.iload_n 1, 1) := by decide +kernel
theorem dX5_spanEnd_45 : decode cX5_spanEnd 45 = .ok (.iload_n 3, 1) := by decide +kernel
theorem dX5_spanEnd_46 : decode cX5_spanEnd 46 = .ok (.invokevirtual 168, 3) := by decide +kernel
theorem dX5_spanEnd_49 : decode cX5_spanEnd 49 = .ok (.iinc 6 1, 3) := by decide +kernel
theorem dX5_spanEnd_52 : decode cX5_spanEnd 52 = .ok (.goto (-20), 3) := by decide +kernel
theorem dX5_spanEnd_55 : decode cX5_spanEnd 55 = .ok (.aload_n 0, 1) := by decide +kernel
theorem dX5_spanEnd_56 : decode cX5_spanEnd 56 = .ok (.invokevirtual 172, 3) := by decide +kernel
theorem dX5_spanEnd_59 : decode cX5_spanEnd 59 = .ok (.istore 5, 2) := by decide +kernel
theorem dX5_spanEnd_61 : decode cX5_spanEnd 61 = .ok (.iload 4, 2) := by decide +kernel
theorem dX5_spanEnd_63 : decode cX5_spanEnd 63 = .ok (.iload 5, 2) := by decide +kernel
theorem dX5_spanEnd_65 : decode cX5_spanEnd 65 = .ok (.ifCond .eq 7, 3) := by decide +kernel
theorem dX5_spanEnd_68 : decode cX5_spanEnd 68 = .ok (.iconst 1, 1) := by decide +kernel
theorem dX5_spanEnd_69 : decode cX5_spanEnd 69 = .ok (.goto 4, 3) := by decide +kernel
theorem dX5_spanEnd_72 : decode cX5_spanEnd 72 = .ok (.iconst 0, 1) := by decide +kernel
theorem dX5_spanEnd_73 : decode cX5_spanEnd 73 = .ok (.iadd, 1) := by decide +kernel
theorem dX5_spanEnd_74 : decode cX5_spanEnd 74 = .ok (.istore 4, 2) := by decide +kernel
theorem dX5_spanEnd_76 : decode cX5_spanEnd 76 = .ok (.goto (-58), 3) := by decide +kernel
theorem dX5_spanEnd_79 : decode cX5_spanEnd 79 = .ok (.iload 4, 2) := by decide +kernel
theorem dX5_spanEnd_81 : decode cX5_spanEnd 81 = .ok (.ireturn, 1) := by decide +kernel
theorem dX5_take_0 : decode cX5_take 0 = .ok (.iconst 0, 1) := by decide +kernel
theorem dX5_take_1 : decode cX5_take 1 = .ok (.istore_n 1, 1) := by decide +kernel
theorem dX5_take_2 : decode cX5_take 2 = .ok (.iload_n 1, 1) := by decide +kernel
theorem dX5_take_3 : decode cX5_take 3 = .ok (.aload_n 0, 1) := by decide +kernel
theorem dX5_take_4 : decode cX5_take 4 = .ok (.getfield 13, 3) := by decide +kernel
theorem dX5_take_7 : decode cX5_take 7 = .ok (.if_icmp .ge 21, 3) := by decide +kernel
theorem dX5_take_10 : decode cX5_take 10 = .ok (.aload_n 0, 1) := by decide +kernel
theorem dX5_take_11 : decode cX5_take 11 = .ok (.getfield 20, 3) := by decide +kernel
theorem dX5_take_14 : decode cX5_take 14 = .ok (.iload_n 1, 1) := by decide +kernel
theorem dX5_take_15 : decode cX5_take 15 = .ok (.aload_n 0, 1) := by decide +kernel
theorem dX5_take_16 : decode cX5_take 16 = .ok (.getfield 7, 3) := by decide +kernel
theorem dX5_take_19 : decode cX5_take 19 = .ok (.iload_n 1, 1) := by decide +kernel
theorem dX5_take_20 : decode cX5_take 20 = .ok (.laload, 1) := by decide +kernel
theorem dX5_take_21 : decode cX5_take 21 = .ok (.lastore, 1) := by decide +kernel
theorem dX5_take_22 : decode cX5_take 22 = .ok (.iinc 1 1, 3) := by decide +kernel
theorem dX5_take_25 : decode cX5_take 25 = .ok (.goto (-23), 3) := by decide +kernel
theorem dX5_take_28 : decode cX5_take 28 = .ok (.return_, 1) := by decide +kernel
theorem dX5_few_0 : decode cX5_few 0 = .ok (.iload_n 1, 1) := by decide +kernel
theorem dX5_few_1 : decode cX5_few 1 = .ok (.ifCond .lt 9, 3) := by decide +kernel
theorem dX5_few_4 : decode cX5_few 4 = .ok (.iload_n 1, 1) := by decide +kernel
theorem dX5_few_5 : decode cX5_few 5 = .ok (.bipush 40, 2) := by decide +kernel
theorem dX5_few_7 : decode cX5_few 7 = .ok (.if_icmp .le 6, 3) := by decide +kernel
theorem dX5_few_10 : decode cX5_few 10 = .ok (.bipush (-2), 2) := by decide +kernel
theorem dX5_few_12 : decode cX5_few 12 = .ok (.ireturn, 1) := by decide +kernel
theorem dX5_few_13 : decode cX5_few 13 = .ok (.aload_n 0, 1) := by decide +kernel
theorem dX5_few_14 : decode cX5_few 14 = .ok (.invokevirtual 178, 3) := by decide +kernel
theorem dX5_few_17 : decode cX5_few 17 = .ok (.iconst 0, 1) := by decide +kernel
theorem dX5_few_18 : decode cX5_few 18 = .ok (.istore_n 2, 1) := by decide +kernel
theorem dX5_few_19 : decode cX5_few 19 = .ok (.iconst 0, 1) := by decide +kernel
theorem dX5_few_20 : decode cX5_few 20 = .ok (.istore_n 3, 1) := by decide +kernel
theorem dX5_few_21 : decode cX5_few 21 = .ok (.iload_n 3, 1) := by decide +kernel
theorem dX5_few_22 : decode cX5_few 22 = .ok (.aload_n 0, 1) := by decide +kernel
theorem dX5_few_23 : decode cX5_few 23 = .ok (.getfield 13, 3) := by decide +kernel
theorem dX5_few_26 : decode cX5_few 26 = .ok (.if_icmp .ge 20, 3) := by decide +kernel
theorem dX5_few_29 : decode cX5_few 29 = .ok (.iinc 2 1, 3) := by decide +kernel
theorem dX5_few_32 : decode cX5_few 32 = .ok (.aload_n 0, 1) := by decide +kernel
theorem dX5_few_33 : decode cX5_few 33 = .ok (.iload_n 3, 1) := by decide +kernel
theorem dX5_few_34 : decode cX5_few 34 = .ok (.aload_n 0, 1) := by decide +kernel
theorem dX5_few_35 : decode cX5_few 35 = .ok (.getfield 13, 3) := by decide +kernel
theorem dX5_few_38 : decode cX5_few 38 = .ok (.iload_n 1, 1) := by decide +kernel
theorem dX5_few_39 : decode cX5_few 39 = .ok (.invokevirtual 181, 3) := by decide +kernel
theorem dX5_few_42 : decode cX5_few 42 = .ok (.istore_n 3, 1) := by decide +kernel
theorem dX5_few_43 : decode cX5_few 43 = .ok (.goto (-22), 3) := by decide +kernel
theorem dX5_few_46 : decode cX5_few 46 = .ok (.iload_n 2, 1) := by decide +kernel
theorem dX5_few_47 : decode cX5_few 47 = .ok (.ireturn, 1) := by decide +kernel
theorem dX5_three_0 : decode cX5_three 0 = .ok (.aload_n 0, 1) := by decide +kernel
theorem dX5_three_1 : decode cX5_three 1 = .ok (.invokevirtual 178, 3) := by decide +kernel
theorem dX5_three_4 : decode cX5_three 4 = .ok (.aload_n 0, 1) := by decide +kernel
theorem dX5_three_5 : decode cX5_three 5 = .ok (.lconst 0, 1) := by decide +kernel
theorem dX5_three_6 : decode cX5_three 6 = .ok (.putfield 27, 3) := by decide +kernel
theorem dX5_three_9 : decode cX5_three 9 = .ok (.aload_n 0, 1) := by decide +kernel
theorem dX5_three_10 : decode cX5_three 10 = .ok (.lconst 0, 1) := by decide +kernel
theorem dX5_three_11 : decode cX5_three 11 = .ok (.putfield 33, 3) := by decide +kernel
theorem dX5_three_14 : decode cX5_three 14 = .ok (.aload_n 0, 1) := by decide +kernel
theorem dX5_three_15 : decode cX5_three 15 = .ok (.iload_n 1, 1) := by decide +kernel
theorem dX5_three_16 : decode cX5_three 16 = .ok (.iload_n 2, 1) := by decide +kernel
theorem dX5_three_17 : decode cX5_three 17 = .ok (.iconst 0, 1) := by decide +kernel
theorem dX5_three_18 : decode cX5_three 18 = .ok (.iload 4, 2) := by decide +kernel
theorem dX5_three_20 : decode cX5_three 20 = .ok (.invokevirtual 168, 3) := by decide +kernel
theorem dX5_three_23 : decode cX5_three 23 = .ok (.aload_n 0, 1) := by decide +kernel
