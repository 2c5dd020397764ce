theorem dX0_init_0 : decode cX0_init 0 = .ok (.aload_n 0, 1) := by decide +kernel
theorem dX0_init_1 : decode cX0_init 1 = .ok (.invokespecial 3, 3) := by decide +kernel
theorem dX0_init_4 : decode cX0_init 4 = .ok (.return_, 1) := by decide +kernel
theorem dX0_beFlat_0 : decode cX0_beFlat 0 = .ok (.aload_n 0, 1) := by decide +kernel
theorem dX0_beFlat_1 : decode cX0_beFlat 1 = .ok (.iconst 0, 1) := by decide +kernel
theorem dX0_beFlat_2 : decode cX0_beFlat 2 = .ok (.putfield 9, 3) := by decide +kernel
theorem dX0_beFlat_5 : decode cX0_beFlat 5 = .ok (.aload_n 0, 1) := by decide +kernel
theorem dX0_beFlat_6 : decode cX0_beFlat 6 = .ok (.iload_n 1, 1) := by decide +kernel
theorem dX0_beFlat_7 : decode cX0_beFlat 7 = .ok (.putfield 15, 3) := by decide +kernel
theorem dX0_beFlat_10 : decode cX0_beFlat 10 = .ok (.aload_n 0, 1) := by decide +kernel
theorem dX0_beFlat_11 : decode cX0_beFlat 11 = .ok (.lconst 0, 1) := by decide +kernel
theorem dX0_beFlat_12 : decode cX0_beFlat 12 = .ok (.putfield 18, 3) := by decide +kernel
theorem dX0_beFlat_15 : decode cX0_beFlat 15 = .ok (.aload_n 0, 1) := by decide +kernel
theorem dX0_beFlat_16 : decode cX0_beFlat 16 = .ok (.lconst 1, 1) := by decide +kernel
theorem dX0_beFlat_17 : decode cX0_beFlat 17 = .ok (.putfield 22, 3) := by decide +kernel
theorem dX0_beFlat_20 : decode cX0_beFlat 20 = .ok (.aload_n 0, 1) := by decide +kernel
theorem dX0_beFlat_21 : decode cX0_beFlat 21 = .ok (.lconst 0, 1) := by decide +kernel
theorem dX0_beFlat_22 : decode cX0_beFlat 22 = .ok (.putfield 25, 3) := by decide +kernel
theorem dX0_beFlat_25 : decode cX0_beFlat 25 = .ok (.return_, 1) := by decide +kernel
theorem dX0_beLike_0 : decode cX0_beLike 0 = .ok (.aload_n 0, 1) := by decide +kernel
theorem dX0_beLike_1 : decode cX0_beLike 1 = .ok (.aload_n 1, 1) := by decide +kernel
theorem dX0_beLike_2 : decode cX0_beLike 2 = .ok (.getfield 9, 3) := by decide +kernel
theorem dX0_beLike_5 : decode cX0_beLike 5 = .ok (.putfield 9, 3) := by decide +kernel
theorem dX0_beLike_8 : decode cX0_beLike 8 = .ok (.aload_n 0, 1) := by decide +kernel
theorem dX0_beLike_9 : decode cX0_beLike 9 = .ok (.aload_n 1, 1) := by decide +kernel
theorem dX0_beLike_10 : decode cX0_beLike 10 = .ok (.getfield 15, 3) := by decide +kernel
theorem dX0_beLike_13 : decode cX0_beLike 13 = .ok (.putfield 15, 3) := by decide +kernel
theorem dX0_beLike_16 : decode cX0_beLike 16 = .ok (.aload_n 0, 1) := by decide +kernel
theorem dX0_beLike_17 : decode cX0_beLike 17 = .ok (.aload_n 1, 1) := by decide +kernel
theorem dX0_beLike_18 : decode cX0_beLike 18 = .ok (.getfield 18, 3) := by decide +kernel
theorem dX0_beLike_21 : decode cX0_beLike 21 = .ok (.putfield 18, 3) := by decide +kernel
theorem dX0_beLike_24 : decode cX0_beLike 24 = .ok (.aload_n 0, 1) := by decide +kernel
theorem dX0_beLike_25 : decode cX0_beLike 25 = .ok (.aload_n 1, 1) := by decide +kernel
theorem dX0_beLike_26 : decode cX0_beLike 26 = .ok (.getfield 22, 3) := by decide +kernel
theorem dX0_beLike_29 : decode cX0_beLike 29 = .ok (.putfield 22, 3) := by decide +kernel
theorem dX0_beLike_32 : decode cX0_beLike 32 = .ok (.aload_n 0, 1) := by decide +kernel
theorem dX0_beLike_33 : decode cX0_beLike 33 = .ok (.aload_n 1, 1) := by decide +kernel
theorem dX0_beLike_34 : decode cX0_beLike 34 = .ok (.getfield 25, 3) := by decide +kernel
theorem dX0_beLike_37 : decode cX0_beLike 37 = .ok (.putfield 25, 3) := by decide +kernel
theorem dX0_beLike_40 : decode cX0_beLike 40 = .ok (.aload_n 0, 1) := by decide +kernel
theorem dX0_beLike_41 : decode cX0_beLike 41 = .ok (.aload_n 1, 1) := by decide +kernel
theorem dX0_beLike_42 : decode cX0_beLike 42 = .ok (.getfield 28, 3) := by decide +kernel
theorem dX0_beLike_45 : decode cX0_beLike 45 = .ok (.putfield 28, 3) := by decide +kernel
theorem dX0_beLike_48 : decode cX0_beLike 48 = .ok (.aload_n 0, 1) := by decide +kernel
theorem dX0_beLike_49 : decode cX0_beLike 49 = .ok (.aload_n 1, 1) := by decide +kernel
theorem dX0_beLike_50 : decode cX0_beLike 50 = .ok (.getfield 32, 3) := by decide +kernel
theorem dX0_beLike_53 : decode cX0_beLike 53 = .ok (.putfield 32, 3) := by decide +kernel
theorem dX0_beLike_56 : decode cX0_beLike 56 = .ok (.return_, 1) := by decide +kernel
theorem dX0_guessAway_0 : decode cX0_guessAway 0 = .ok (.aload_n 0, 1) := by decide +kernel
theorem dX0_guessAway_1 : decode cX0_guessAway 1 = .ok (.getfield 9, 3) := by decide +kernel
theorem dX0_guessAway_4 : decode cX0_guessAway 4 = .ok (.ifCond .eq 12, 3) := by decide +kernel
theorem dX0_guessAway_7 : decode cX0_guessAway 7 = .ok (.aload_n 0, 1) := by decide +kernel
theorem dX0_guessAway_8 : decode cX0_guessAway 8 = .ok (.getfield 22, 3) := by decide +kernel
theorem dX0_guessAway_11 : decode cX0_guessAway 11 = .ok (.lconst 1, 1) := by decide +kernel
theorem dX0_guessAway_12 : decode cX0_guessAway 12 = .ok (.lcmp, 1) := by decide +kernel
theorem dX0_guessAway_13 : decode cX0_guessAway 13 = .ok (.ifCond .ge 5, 3) := by decide +kernel
theorem dX0_guessAway_16 : decode cX0_guessAway 16 = .ok (.iconst 0, 1) := by decide +kernel
theorem dX0_guessAway_17 : decode cX0_guessAway 17 = .ok (.ireturn, 1) := by decide +kernel
theorem dX0_guessAway_18 : decode cX0_guessAway 18 = .ok (.aload_n 0, 1) := by decide +kernel
theorem dX0_guessAway_19 : decode cX0_guessAway 19 = .ok (.getfield 9, 3) := by decide +kernel
theorem dX0_guessAway_22 : decode cX0_guessAway 22 = .ok (.iconst 2, 1) := by decide +kernel
theorem dX0_guessAway_23 : decode cX0_guessAway 23 = .ok (.if_icmp .ne 21, 3) := by decide +kernel
theorem dX0_guessAway_26 : decode cX0_guessAway 26 = .ok (.aload_n 0, 1) := by decide +kernel
theorem dX0_guessAway_27 : decode cX0_guessAway 27 = .ok (.getfield 32, 3) := by decide +kernel
theorem dX0_guessAway_30 : decode cX0_guessAway 30 = .ok (.aload_n 0, 1) := by decide +kernel
theorem dX0_guessAway_31 : decode cX0_guessAway 31 = .ok (.getfield 28, 3) := by decide +kernel
theorem dX0_guessAway_34 : decode cX0_guessAway 34 = .ok (.lload_n 1, 1) := by decide +kernel
theorem dX0_guessAway_35 : decode cX0_guessAway 35 = .ok (.l2d, 1) := by decide +kernel
theorem dX0_guessAway_36 : decode cX0_guessAway 36 = .ok (.dmul, 1) := by decide +kernel
theorem dX0_guessAway_37 : decode cX0_guessAway 37 = .ok (.dadd, 1) := by decide +kernel
theorem dX0_guessAway_38 : decode cX0_guessAway 38 = .ok (.invokestatic 35, 3) := by decide +kernel
theorem dX0_guessAway_41 : decode cX0_guessAway 41 = .ok (.goto 21, 3) := by decide +kernel
theorem dX0_guessAway_44 : decode cX0_guessAway 44 = .ok (.aload_n 0, 1) := by decide +kernel
theorem dX0_guessAway_45 : decode cX0_guessAway 45 = .ok (.getfield 25, 3) := by decide +kernel
theorem dX0_guessAway_48 : decode cX0_guessAway 48 = .ok (.aload_n 0, 1) := by decide +kernel
theorem dX0_guessAway_49 : decode cX0_guessAway 49 = .ok (.getfield 18, 3) := by decide +kernel
theorem dX0_guessAway_52 : decode cX0_guessAway 52 = .ok (.lload_n 1, 1) := by decide +kernel
theorem dX0_guessAway_53 : decode cX0_guessAway 53 = .ok (.lmul, 1) := by decide +kernel
theorem dX0_guessAway_54 : decode cX0_guessAway 54 = .ok (.ladd, 1) := by decide +kernel
theorem dX0_guessAway_55 : decode cX0_guessAway 55 = .ok (.aload_n 0, 1) := by decide +kernel
theorem dX0_guessAway_56 : decode cX0_guessAway 56 = .ok (.getfield 22, 3) := by decide +kernel
theorem dX0_guessAway_59 : decode cX0_guessAway 59 = .ok (.invokestatic 39, 3) := by decide +kernel
theorem dX0_guessAway_62 : decode cX0_guessAway 62 = .ok (.lstore_n 3, 1) := by decide +kernel
theorem dX0_guessAway_63 : decode cX0_guessAway 63 = .ok (.lconst 0, 1) := by decide +kernel
theorem dX0_guessAway_64 : decode cX0_guessAway 64 = .ok (.lload_n 3, 1) := by decide +kernel
theorem dX0_guessAway_65 : decode cX0_guessAway 65 = .ok (.aload_n 0, 1) := by decide +kernel
theorem dX0_guessAway_66 : decode cX0_guessAway 66 = .ok (.getfield 45, 3) := by decide +kernel
theorem dX0_guessAway_69 : decode cX0_guessAway 69 = .ok (.i2l, 1) := by decide +kernel
theorem dX0_guessAway_70 : decode cX0_guessAway 70 = .ok (.lconst 1, 1) := by decide +kernel
theorem dX0_guessAway_71 : decode cX0_guessAway 71 = .ok (.lsub, 1) := by decide +kernel
theorem dX0_guessAway_72 : decode cX0_guessAway 72 = .ok (.invokestatic 48, 3) := by decide +kernel
theorem dX0_guessAway_75 : decode cX0_guessAway 75 = .ok (.invokestatic 51, 3) := by decide +kernel
theorem dX0_guessAway_78 : decode cX0_guessAway 78 = .ok (.l2i, 1) := by decide +kernel
theorem dX0_guessAway_79 : decode cX0_guessAway 79 = .ok (.ireturn, 1) := by decide +kernel
theorem dX0_roundedDown_0 : decode cX0_roundedDown 0 = .ok (.dload_n 0, 1) := by decide +kernel
theorem dX0_roundedDown_1 : decode cX0_roundedDown 1 = .ok (.d2l, 1) := by decide +kernel
theorem dX0_roundedDown_2 : decode cX0_roundedDown 2 = .ok (.lstore_n 2, 1) := by decide +kernel
theorem dX0_roundedDown_3 : decode cX0_roundedDown 3 = .ok (.lload_n 2, 1) := by decide +kernel
theorem dX0_roundedDown_4 : decode cX0_roundedDown 4 = .ok (.l2d, 1) := by decide +kernel
theorem dX0_roundedDown_5 : decode cX0_roundedDown 5 = .ok (.dload_n 0, 1) := by decide +kernel
theorem dX0_roundedDown_6 : decode cX0_roundedDown 6 = .ok (.dcmp .l, 1) := by decide +kernel
theorem dX0_roundedDown_7 : decode cX0_roundedDown 7 = .ok (.ifCond .le 9, 3) := by decide +kernel
theorem dX0_roundedDown_10 : decode cX0_roundedDown 10 = .ok (.lload_n 2, 1) := by decide +kernel
theorem dX0_roundedDown_11 : decode cX0_roundedDown 11 = .ok (.lconst 1, 1) := by decide +kernel
theorem dX0_roundedDown_12 : decode cX0_roundedDown 12 = .ok (.lsub, 1) := by decide +kernel
theorem dX0_roundedDown_13 : decode cX0_roundedDown 13 = .ok (.goto 4, 3) := by decide +kernel
theorem dX0_roundedDown_16 : decode cX0_roundedDown 16 = .ok (.lload_n 2, 1) := by decide +kernel
theorem dX0_roundedDown_17 : decode cX0_roundedDown 17 = .ok (.lreturn, 1) := by decide +kernel
theorem dX1_init_0 : decode cX1_init 0 = .ok (.aload_n 0, 1) := by decide +kernel
theorem dX1_init_1 : decode cX1_init 1 = .ok (.invokespecial 1, 3) := by decide +kernel
theorem dX1_init_4 : decode cX1_init 4 = .ok (.aload_n 0, 1) := by decide +kernel
theorem dX1_init_5 : decode cX1_init 5 = .ok (.ldc2_w 7, 3) := by decide +kernel
theorem dX1_init_8 : decode cX1_init 8 = .ok (.putfield 9, 3) := by decide +kernel
theorem dX1_init_11 : decode cX1_init 11 = .ok (.aload_n 0, 1) := by decide +kernel
theorem dX1_init_12 : decode cX1_init 12 = .ok (.lconst 0, 1) := by decide +kernel
theorem dX1_init_13 : decode cX1_init 13 = .ok (.putfield 15, 3) := by decide +kernel
theorem dX1_init_16 : decode cX1_init 16 = .ok (.aload_n 0, 1) := by decide +kernel
theorem dX1_init_17 : decode cX1_init 17 = .ok (.lconst 1, 1) := by decide +kernel
theorem dX1_init_18 : decode cX1_init 18 = .ok (.putfield 18, 3) := by decide +kernel
theorem dX1_init_21 : decode cX1_init 21 = .ok (.aload_n 0, 1) := by decide +kernel
theorem dX1_init_22 : decode cX1_init 22 = .ok (.lconst 0, 1) := by decide +kernel
theorem dX1_init_23 : decode cX1_init 23 = .ok (.putfield 21, 3) := by decide +kernel
theorem dX1_init_26 : decode cX1_init 26 = .ok (.aload_n 0, 1) := by decide +kernel
theorem dX1_init_27 : decode cX1_init 27 = .ok (.iconst 0, 1) := by decide +kernel
theorem dX1_init_28 : decode cX1_init 28 = .ok (.putfield 24, 3) := by decide +kernel
theorem dX1_init_31 : decode cX1_init 31 = .ok (.return_, 1) := by decide +kernel
theorem dX1_endOfSpan_0 : decode cX1_endOfSpan 0 = .ok (.aload_n 0, 1) := by decide +kernel
theorem dX1_endOfSpan_1 : decode cX1_endOfSpan 1 = .ok (.invokevirtual 28, 3) := by decide +kernel
theorem dX1_endOfSpan_4 : decode cX1_endOfSpan 4 = .ok (.iload_n 2, 1) := by decide +kernel
theorem dX1_endOfSpan_5 : decode cX1_endOfSpan 5 = .ok (.iconst 1, 1) := by decide +kernel
theorem dX1_endOfSpan_6 : decode cX1_endOfSpan 6 = .ok (.iadd, 1) := by decide +kernel
theorem dX1_endOfSpan_7 : decode cX1_endOfSpan 7 = .ok (.istore 5, 2) := by decide +kernel
theorem dX1_endOfSpan_9 : decode cX1_endOfSpan 9 = .ok (.iload 5, 2) := by decide +kernel
theorem dX1_endOfSpan_11 : decode cX1_endOfSpan 11 = .ok (.iload_n 3, 1) := by decide +kernel
theorem dX1_endOfSpan_12 : decode cX1_endOfSpan 12 = .ok (.if_icmp .ge 22, 3) := by decide +kernel
theorem dX1_endOfSpan_15 : decode cX1_endOfSpan 15 = .ok (.aload_n 0, 1) := by decide +kernel
theorem dX1_endOfSpan_16 : decode cX1_endOfSpan 16 = .ok (.aload_n 1, 1) := by decide +kernel
theorem dX1_endOfSpan_17 : decode cX1_endOfSpan 17 = .ok (.iload_n 2, 1) := by decide +kernel
theorem dX1_endOfSpan_18 : decode cX1_endOfSpan 18 = .ok (.iload 5, 2) := by decide +kernel
theorem dX1_endOfSpan_20 : decode cX1_endOfSpan 20 = .ok (.iload 4, 2) := by decide +kernel
theorem dX1_endOfSpan_22 : decode cX1_endOfSpan 22 = .ok (.invokevirtual 31, 3) := by decide +kernel
theorem dX1_endOfSpan_25 : decode cX1_endOfSpan 25 = .ok (.ifCond .eq 9, 3) := by decide +kernel
theorem dX1_endOfSpan_28 : decode cX1_endOfSpan 28 = .ok (.iinc 5 1, 3) := by decide +kernel
theorem dX1_endOfSpan_31 : decode cX1_endOfSpan 31 = .ok (.goto (-22), 3) := by decide +kernel
theorem dX1_endOfSpan_34 : decode cX1_endOfSpan 34 = .ok (.iload 5, 2) := by decide +kernel
theorem dX1_endOfSpan_36 : decode cX1_endOfSpan 36 = .ok (.ireturn, 1) := by decide +kernel
theorem dX1_passThree_0 : decode cX1_passThree 0 = .ok (.aload_n 0, 1) := by decide +kernel
theorem dX1_passThree_1 : decode cX1_passThree 1 = .ok (.invokevirtual 28, 3) := by decide +kernel
theorem dX1_passThree_4 : decode cX1_passThree 4 = .ok (.aload_n 0, 1) := by decide +kernel
theorem dX1_passThree_5 : decode cX1_passThree 5 = .ok (.aload_n 1, 1) := by decide +kernel
theorem dX1_passThree_6 : decode cX1_passThree 6 = .ok (.iload_n 2, 1) := by decide +kernel
theorem dX1_passThree_7 : decode cX1_passThree 7 = .ok (.iload_n 3, 1) := by decide +kernel
theorem dX1_passThree_8 : decode cX1_passThree 8 = .ok (.iload 5, 2) := by decide +kernel
theorem dX1_passThree_10 : decode cX1_passThree 10 = .ok (.invokevirtual 35, 3) := by decide +kernel
theorem dX1_passThree_13 : decode cX1_passThree 13 = .ok (.aload_n 0, 1) := by decide +kernel
theorem dX1_passThree_14 : decode cX1_passThree 14 = .ok (.aload_n 1, 1) := by decide +kernel
theorem dX1_passThree_15 : decode cX1_passThree 15 = .ok (.iload_n 2, 1) := by decide +kernel
theorem dX1_passThree_16 : decode cX1_passThree 16 = .ok (.iload 4, 2) := by decide +kernel
theorem dX1_passThree_18 : decode cX1_passThree 18 = .ok (.iload 5, 2) := by decide +kernel
theorem dX1_passThree_20 : decode cX1_passThree 20 = .ok (.invokevirtual 35, 3) := by decide +kernel
theorem dX1_passThree_23 : decode cX1_passThree 23 = .ok (.aload_n 0, 1) := by decide +kernel
theorem dX1_passThree_24 : decode cX1_passThree 24 = .ok (.aload_n 1, 1) := by decide +kernel
theorem dX1_passThree_25 : decode cX1_passThree 25 = .ok (.iload_n 3, 1) := by decide +kernel
theorem dX1_passThree_26 : decode cX1_passThree 26 = .ok (.iload 4, 2) := by decide +kernel
theorem dX1_passThree_28 : decode cX1_passThree 28 = .ok (.iload 5, 2) := by decide +kernel
theorem dX1_passThree_30 : decode cX1_passThree 30 = .ok (.invokevirtual 35, 3) := by decide +kernel
theorem dX1_passThree_33 : decode cX1_passThree 33 = .ok (.aload_n 0, 1) := by decide +kernel
theorem dX1_passThree_34 : decode cX1_passThree 34 = .ok (.invokevirtual 39, 3) := by decide +kernel
theorem dX1_passThree_37 : decode cX1_passThree 37 = .ok (.ireturn, 1) := by decide +kernel
theorem dX1_tellLine_0 : decode cX1_tellLine 0 = .ok (.aload_n 0, 1) := by decide +kernel
theorem dX1_tellLine_1 : decode cX1_tellLine 1 = .ok (.getfield 18, 3) := by decide +kernel
theorem dX1_tellLine_4 : decode cX1_tellLine 4 = .ok (.aload_n 0, 1) := by decide +kernel
theorem dX1_tellLine_5 : decode cX1_tellLine 5 = .ok (.getfield 21, 3) := by decide +kernel
theorem dX1_tellLine_8 : decode cX1_tellLine 8 = .ok (.invokestatic 43, 3) := by decide +kernel
theorem dX1_tellLine_11 : decode cX1_tellLine 11 = .ok (.lstore 5, 2) := by decide +kernel
theorem dX1_tellLine_13 : decode cX1_tellLine 13 = .ok (.lload 5, 2) := by decide +kernel
theorem dX1_tellLine_15 : decode cX1_tellLine 15 = .ok (.lconst 1, 1) := by decide +kernel
theorem dX1_tellLine_16 : decode cX1_tellLine 16 = .ok (.lcmp, 1) := by decide +kernel
theorem dX1_tellLine_17 : decode cX1_tellLine 17 = .ok (.ifCond .lt 24, 3) := by decide +kernel
theorem dX1_tellLine_20 : decode cX1_tellLine 20 = .ok (.iload_n 3, 1) := by decide +kernel
theorem dX1_tellLine_21 : decode cX1_tellLine 21 = .ok (.ifCond .lt 20, 3) := by decide +kernel
theorem dX1_tellLine_24 : decode cX1_tellLine 24 = .ok (.aload_n 0, 1) := by decide +kernel
theorem dX1_tellLine_25 : decode cX1_tellLine 25 = .ok (.getfield 24, 3) := by decide +kernel
theorem dX1_tellLine_28 : decode cX1_tellLine 28 = .ok (.iload_n 3, 1) := by decide +kernel
theorem dX1_tellLine_29 : decode cX1_tellLine 29 = .ok (.if_icmp .lt 12, 3) := by decide +kernel
theorem dX1_tellLine_32 : decode cX1_tellLine 32 = .ok (.aload_n 0, 1) := by decide +kernel
theorem dX1_tellLine_33 : decode cX1_tellLine 33 = .ok (.getfield 24, 3) := by decide +kernel
theorem dX1_tellLine_36 : decode cX1_tellLine 36 = .ok (.aload_n 2, 1) := by decide +kernel
theorem dX1_tellLine_37 : decode cX1_tellLine 37 = .ok (.arraylength, 1) := by decide +kernel
theorem dX1_tellLine_38 : decode cX1_tellLine 38 = .ok (.if_icmp .lt 4, 3) := by decide +kernel
theorem dX1_tellLine_41 : decode cX1_tellLine 41 = .ok (.return_, 1) := by decide +kernel
theorem dX1_tellLine_42 : decode cX1_tellLine 42 = .ok (.aload_n 1, 1) := by decide +kernel
theorem dX1_tellLine_43 : decode cX1_tellLine 43 = .ok (.aload_n 0, 1) := by decide +kernel
theorem dX1_tellLine_44 : decode cX1_tellLine 44 = .ok (.getfield 18, 3) := by decide +kernel
theorem dX1_tellLine_47 : decode cX1_tellLine 47 = .ok (.lload 5, 2) := by decide +kernel
theorem dX1_tellLine_49 : decode cX1_tellLine 49 = .ok (.ldiv, 1) := by decide +kernel
theorem dX1_tellLine_50 : decode cX1_tellLine 50 = .ok (.putfield 47, 3) := by decide +kernel
theorem dX1_tellLine_53 : decode cX1_tellLine 53 = .ok (.aload_n 1, 1) := by decide +kernel
theorem dX1_tellLine_54 : decode cX1_tellLine 54 = .ok (.aload_n 0, 1) := by decide +kernel
theorem dX1_tellLine_55 : decode cX1_tellLine 55 = .ok (.getfield 21, 3) := by decide +kernel
theorem dX1_tellLine_58 : decode cX1_tellLine 58 = .ok (.lload 5, 2) := by decide +kernel
theorem dX1_tellLine_60 : decode cX1_tellLine 60 = .ok (.ldiv, 1) := by decide +kernel
theorem dX1_tellLine_61 : decode cX1_tellLine 61 = .ok (.putfield 52, 3) := by decide +kernel
theorem dX1_tellLine_64 : decode cX1_tellLine 64 = .ok (.aload_n 0, 1) := by decide +kernel
theorem dX1_tellLine_65 : decode cX1_tellLine 65 = .ok (.getfield 24, 3) := by decide +kernel
theorem dX1_tellLine_68 : decode cX1_tellLine 68 = .ok (.iload_n 3, 1) := by decide +kernel
theorem dX1_tellLine_69 : decode cX1_tellLine 69 = .ok (.isub, 1) := by decide +kernel
theorem dX1_tellLine_70 : decode cX1_tellLine 70 = .ok (.i2l, 1) := by decide +kernel
theorem dX1_tellLine_71 : decode cX1_tellLine 71 = .ok (.lstore 7, 2) := by decide +kernel
theorem dX1_tellLine_73 : decode cX1_tellLine 73 = .ok (.aload_n 1, 1) := by decide +kernel
theorem dX1_tellLine_74 : decode cX1_tellLine 74 = .ok (.aload_n 1, 1) := by decide +kernel
theorem dX1_tellLine_75 : decode cX1_tellLine 75 = .ok (.getfield 52, 3) := by decide +kernel
theorem dX1_tellLine_78 : decode cX1_tellLine 78 = .ok (.lload 7, 2) := by decide +kernel
theorem dX1_tellLine_80 : decode cX1_tellLine 80 = .ok (.iload 4, 2) := by decide +kernel
theorem dX1_tellLine_82 : decode cX1_tellLine 82 = .ok (.i2l, 1) := by decide +kernel
theorem dX1_tellLine_83 : decode cX1_tellLine 83 = .ok (.lsub, 1) := by decide +kernel
theorem dX1_tellLine_84 : decode cX1_tellLine 84 = .ok (.lmul, 1) := by decide +kernel
theorem dX1_tellLine_85 : decode cX1_tellLine 85 = .ok (.aload_n 1, 1) := by decide +kernel
theorem dX1_tellLine_86 : decode cX1_tellLine 86 = .ok (.getfield 47, 3) := by decide +kernel
theorem dX1_tellLine_89 : decode cX1_tellLine 89 = .ok (.aload_n 2, 1) := by decide +kernel
theorem dX1_tellLine_90 : decode cX1_tellLine 90 = .ok (.aload_n 0, 1) := by decide +kernel
theorem dX1_tellLine_91 : decode cX1_tellLine 91 = .ok (.getfield 24, 3) := by decide +kernel
theorem dX1_tellLine_94 : decode cX1_tellLine 94 = .ok (.laload, 1) := by decide +kernel
theorem dX1_tellLine_95 : decode cX1_tellLine 95 = .ok (.aload_n 2, 1) := by decide +kernel
theorem dX1_tellLine_96 : decode cX1_tellLine 96 = .ok (.iload_n 3, 1) := by decide +kernel
theorem dX1_tellLine_97 : decode cX1_tellLine 97 = .ok (.laload, 1) := by decide +kernel
theorem dX1_tellLine_98 : decode cX1_tellLine 98 = .ok (.lsub, 1) := by decide +kernel
theorem dX1_tellLine_99 : decode cX1_tellLine 99 = .ok (.lmul, 1) := by decide +kernel
theorem dX1_tellLine_100 : decode cX1_tellLine 100 = .ok (.lsub, 1) := by decide +kernel
theorem dX1_tellLine_101 : decode cX1_tellLine 101 = .ok (.putfield 55, 3) := by decide +kernel
theorem dX1_tellLine_104 : decode cX1_tellLine 104 = .ok (.return_, 1) := by decide +kernel
theorem dX1_forget_0 : decode cX1_forget 0 = .ok (.aload_n 0, 1) := by decide +kernel
theorem dX1_forget_1 : decode cX1_forget 1 = .ok (.ldc2_w 7, 3) := by decide +kernel
theorem dX1_forget_4 : decode cX1_forget 4 = .ok (.putfield 9, 3) := by decide +kernel
theorem dX1_forget_7 : decode cX1_forget 7 = .ok (.aload_n 0, 1) := by decide +kernel
theorem dX1_forget_8 : decode cX1_forget 8 = .ok (.lconst 0, 1) := by decide +kernel
theorem dX1_forget_9 : decode cX1_forget 9 = .ok (.putfield 15, 3) := by decide +kernel
theorem dX1_forget_12 : decode cX1_forget 12 = .ok (.aload_n 0, 1) := by decide +kernel
theorem dX1_forget_13 : decode cX1_forget 13 = .ok (.lconst 1, 1) := by decide +kernel
theorem dX1_forget_14 : decode cX1_forget 14 = .ok (.putfield 18, 3) := by decide +kernel
theorem dX1_forget_17 : decode cX1_forget 17 = .ok (.aload_n 0, 1) := by decide +kernel
theorem dX1_forget_18 : decode cX1_forget 18 = .ok (.lconst 0, 1) := by decide +kernel
theorem dX1_forget_19 : decode cX1_forget 19 = .ok (.putfield 21, 3) := by decide +kernel
theorem dX1_forget_22 : decode cX1_forget 22 = .ok (.aload_n 0, 1) := by decide +kernel
theorem dX1_forget_23 : decode cX1_forget 23 = .ok (.iconst 0, 1) := by decide +kernel
theorem dX1_forget_24 : decode cX1_forget 24 = .ok (.putfield 24, 3) := by decide +kernel
theorem dX1_forget_27 : decode cX1_forget 27 = .ok (.return_, 1) := by decide +kernel
theorem dX1_admit_0 : decode cX1_admit 0 = .ok (.aload_n 0, 1) := by decide +kernel
theorem dX1_admit_1 : decode cX1_admit 1 = .ok (.getfield 18, 3) := by decide +kernel
theorem dX1_admit_4 : decode cX1_admit 4 = .ok (.lstore 5, 2) := by decide +kernel
theorem dX1_admit_6 : decode cX1_admit 6 = .ok (.aload_n 0, 1) := by decide +kernel
theorem dX1_admit_7 : decode cX1_admit 7 = .ok (.getfield 21, 3) := by decide +kernel
theorem dX1_admit_10 : decode cX1_admit 10 = .ok (.lstore 7, 2) := by decide +kernel
theorem dX1_admit_12 : decode cX1_admit 12 = .ok (.aload_n 0, 1) := by decide +kernel
theorem dX1_admit_13 : decode cX1_admit 13 = .ok (.getfield 24, 3) := by decide +kernel
theorem dX1_admit_16 : decode cX1_admit 16 = .ok (.istore 9, 2) := by decide +kernel
theorem dX1_admit_18 : decode cX1_admit 18 = .ok (.iload_n 2, 1) := by decide +kernel
theorem dX1_admit_19 : decode cX1_admit 19 = .ok (.istore 10, 2) := by decide +kernel
theorem dX1_admit_21 : decode cX1_admit 21 = .ok (.iload 10, 2) := by decide +kernel
theorem dX1_admit_23 : decode cX1_admit 23 = .ok (.iload_n 3, 1) := by decide +kernel
theorem dX1_admit_24 : decode cX1_admit 24 = .ok (.if_icmp .ge 19, 3) := by decide +kernel
theorem dX1_admit_27 : decode cX1_admit 27 = .ok (.aload_n 0, 1) := by decide +kernel
theorem dX1_admit_28 : decode cX1_admit 28 = .ok (.aload_n 1, 1) := by decide +kernel
theorem dX1_admit_29 : decode cX1_admit 29 = .ok (.iload 10, 2) := by decide +kernel
theorem dX1_admit_31 : decode cX1_admit 31 = .ok (.iload_n 3, 1) := by decide +kernel
theorem dX1_admit_32 : decode cX1_admit 32 = .ok (.iload 4, 2) := by decide +kernel
theorem dX1_admit_34 : decode cX1_admit 34 = .ok (.invokevirtual 35, 3) := by decide +kernel
theorem dX1_admit_37 : decode cX1_admit 37 = .ok (.iinc 10 1, 3) := by decide +kernel
theorem dX1_admit_40 : decode cX1_admit 40 = .ok (.goto (-19), 3) := by decide +kernel
theorem dX1_admit_43 : decode cX1_admit 43 = .ok (.aload_n 0, 1) := by decide +kernel
theorem dX1_admit_44 : decode cX1_admit 44 = .ok (.invokevirtual 39, 3) := by decide +kernel
theorem dX1_admit_47 : decode cX1_admit 47 = .ok (.ifCond .eq 5, 3) := by decide +kernel
theorem dX1_admit_50 : decode cX1_admit 50 = .ok (.iconst 1, 1) := by decide +kernel
theorem dX1_admit_51 : decode cX1_admit 51 = .ok (.ireturn, 1) := by decide +kernel
theorem dX1_admit_52 : decode cX1_admit 52 = .ok (.aload_n 0, 1) := by decide +kernel
theorem dX1_admit_53 : decode cX1_admit 53 = .ok (.lload 5, 2) := by decide +kernel
theorem dX1_admit_55 : decode cX1_admit 55 = .ok (.putfield 18, 3) := by decide +kernel
theorem dX1_admit_58 : decode cX1_admit 58 = .ok (.aload_n 0, 1) := by decide +kernel
theorem dX1_admit_59 : decode cX1_admit 59 = .ok (.lload 7, 2) := by decide +kernel
theorem dX1_admit_61 : decode cX1_admit 61 = .ok (.putfield 21, 3) := by decide +kernel
theorem dX1_admit_64 : decode cX1_admit 64 = .ok (.aload_n 0, 1) := by decide +kernel
theorem dX1_admit_65 : decode cX1_admit 65 = .ok (.iload 9, 2) := by decide +kernel
theorem dX1_admit_67 : decode cX1_admit 67 = .ok (.putfield 24, 3) := by decide +kernel
theorem dX1_admit_70 : decode cX1_admit 70 = .ok (.iconst 0, 1) := by decide +kernel
theorem dX1_admit_71 : decode cX1_admit 71 = .ok (.ireturn, 1) := by decide +kernel
theorem dX1_narrow_0 : decode cX1_narrow 0 = .ok (.iload_n 2, 1) := by decide +kernel
theorem dX1_narrow_1 : decode cX1_narrow 1 = .ok (.ifCond .lt 14, 3) := by decide +kernel
theorem dX1_narrow_4 : decode cX1_narrow 4 = .ok (.iload_n 3, 1) := by decide +kernel
theorem dX1_narrow_5 : decode cX1_narrow 5 = .ok (.iload_n 2, 1) := by decide +kernel
theorem dX1_narrow_6 : decode cX1_narrow 6 = .ok (.if_icmp .le 9, 3) := by decide +kernel
theorem dX1_narrow_9 : decode cX1_narrow 9 = .ok (.iload_n 3, 1) := by decide +kernel
theorem dX1_narrow_10 : decode cX1_narrow 10 = .ok (.aload_n 1, 1) := by decide +kernel
theorem dX1_narrow_11 : decode cX1_narrow 11 = .ok (.arraylength, 1) := by decide +kernel
theorem dX1_narrow_12 : decode cX1_narrow 12 = .ok (.if_icmp .lt 4, 3) := by decide +kernel
theorem dX1_narrow_15 : decode cX1_narrow 15 = .ok (.return_, 1) := by decide +kernel
theorem dX1_narrow_16 : decode cX1_narrow 16 = .ok (.aload_n 1, 1) := by decide +kernel
theorem dX1_narrow_17 : decode cX1_narrow 17 = .ok (.iload_n 3, 1) := by decide +kernel
theorem dX1_narrow_18 : decode cX1_narrow 18 = .ok (.laload, 1) := by decide +kernel
theorem dX1_narrow_19 : decode cX1_narrow 19 = .ok (.aload_n 1, 1) := by decide +kernel
theorem dX1_narrow_20 : decode cX1_narrow 20 = .ok (.iload_n 2, 1) := by decide +kernel
theorem dX1_narrow_21 : decode cX1_narrow 21 = .ok (.laload, 1) := by decide +kernel
theorem dX1_narrow_22 : decode cX1_narrow 22 = .ok (.lsub, 1) := by decide +kernel
theorem dX1_narrow_23 : decode cX1_narrow 23 = .ok (.lstore 5, 2) := by decide +kernel
theorem dX1_narrow_25 : decode cX1_narrow 25 = .ok (.iload_n 3, 1) := by decide +kernel
theorem dX1_narrow_26 : decode cX1_narrow 26 = .ok (.iload_n 2, 1) := by decide +kernel
theorem dX1_narrow_27 : decode cX1_narrow 27 = .ok (.isub, 1) := by decide +kernel
theorem dX1_narrow_28 : decode cX1_narrow 28 = .ok (.iconst 2, 1) := by decide +kernel
theorem dX1_narrow_29 : decode cX1_narrow 29 = .ok (.iload 4, 2) := by decide +kernel
theorem dX1_narrow_31 : decode cX1_narrow 31 = .ok (.imul, 1) := by decide +kernel
theorem dX1_narrow_32 : decode cX1_narrow 32 = .ok (.iadd, 1) := by decide +kernel
theorem dX1_narrow_33 : decode cX1_narrow 33 = .ok (.i2l, 1) := by decide +kernel
theorem dX1_narrow_34 : decode cX1_narrow 34 = .ok (.lstore 7, 2) := by decide +kernel
theorem dX1_narrow_36 : decode cX1_narrow 36 = .ok (.iload_n 3, 1) := by decide +kernel
theorem dX1_narrow_37 : decode cX1_narrow 37 = .ok (.iload_n 2, 1) := by decide +kernel
theorem dX1_narrow_38 : decode cX1_narrow 38 = .ok (.isub, 1) := by decide +kernel
theorem dX1_narrow_39 : decode cX1_narrow 39 = .ok (.iconst 2, 1) := by decide +kernel
theorem dX1_narrow_40 : decode cX1_narrow 40 = .ok (.iload 4, 2) := by decide +kernel
theorem dX1_narrow_42 : decode cX1_narrow 42 = .ok (.imul, 1) := by decide +kernel
theorem dX1_narrow_43 : decode cX1_narrow 43 = .ok (.isub, 1) := by decide +kernel
theorem dX1_narrow_44 : decode cX1_narrow 44 = .ok (.i2l, 1) := by decide +kernel
theorem dX1_narrow_45 : decode cX1_narrow 45 = .ok (.lstore 9, 2) := by decide +kernel
theorem dX1_narrow_47 : decode cX1_narrow 47 = .ok (.lload 7, 2) := by decide +kernel
theorem dX1_narrow_49 : decode cX1_narrow 49 = .ok (.aload_n 0, 1) := by decide +kernel
theorem dX1_narrow_50 : decode cX1_narrow 50 = .ok (.getfield 21, 3) := by decide +kernel
theorem dX1_narrow_53 : decode cX1_narrow 53 = .ok (.lmul, 1) := by decide +kernel
theorem dX1_narrow_54 : decode cX1_narrow 54 = .ok (.aload_n 0, 1) := by decide +kernel
theorem dX1_narrow_55 : decode cX1_narrow 55 = .ok (.getfield 18, 3) := by decide +kernel
theorem dX1_narrow_58 : decode cX1_narrow 58 = .ok (.lload 5, 2) := by decide +kernel
theorem dX1_narrow_60 : decode cX1_narrow 60 = .ok (.lmul, 1) := by decide +kernel
theorem dX1_narrow_61 : decode cX1_narrow 61 = .ok (.lcmp, 1) := by decide +kernel
theorem dX1_narrow_62 : decode cX1_narrow 62 = .ok (.ifCond .ge 20, 3) := by decide +kernel
theorem dX1_narrow_65 : decode cX1_narrow 65 = .ok (.aload_n 0, 1) := by decide +kernel
theorem dX1_narrow_66 : decode cX1_narrow 66 = .ok (.lload 7, 2) := by decide +kernel
theorem dX1_narrow_68 : decode cX1_narrow 68 = .ok (.putfield 18, 3) := by decide +kernel
theorem dX1_narrow_71 : decode cX1_narrow 71 = .ok (.aload_n 0, 1) := by decide +kernel
theorem dX1_narrow_72 : decode cX1_narrow 72 = .ok (.lload 5, 2) := by decide +kernel
theorem dX1_narrow_74 : decode cX1_narrow 74 = .ok (.putfield 21, 3) := by decide +kernel
theorem dX1_narrow_77 : decode cX1_narrow 77 = .ok (.aload_n 0, 1) := by decide +kernel
theorem dX1_narrow_78 : decode cX1_narrow 78 = .ok (.iload_n 2, 1) := by decide +kernel
theorem dX1_narrow_79 : decode cX1_narrow 79 = .ok (.putfield 24, 3) := by decide +kernel
theorem dX1_narrow_82 : decode cX1_narrow 82 = .ok (.lload 9, 2) := by decide +kernel
theorem dX1_narrow_84 : decode cX1_narrow 84 = .ok (.aload_n 0, 1) := by decide +kernel
theorem dX1_narrow_85 : decode cX1_narrow 85 = .ok (.getfield 15, 3) := by decide +kernel
theorem dX1_narrow_88 : decode cX1_narrow 88 = .ok (.lmul, 1) := by decide +kernel
theorem dX1_narrow_89 : decode cX1_narrow 89 = .ok (.aload_n 0, 1) := by decide +kernel
theorem dX1_narrow_90 : decode cX1_narrow 90 = .ok (.getfield 9, 3) := by decide +kernel
theorem dX1_narrow_93 : decode cX1_narrow 93 = .ok (.lload 5, 2) := by decide +kernel
theorem dX1_narrow_95 : decode cX1_narrow 95 = .ok (.lmul, 1) := by decide +kernel
theorem dX1_narrow_96 : decode cX1_narrow 96 = .ok (.lcmp, 1) := by decide +kernel
theorem dX1_narrow_97 : decode cX1_narrow 97 = .ok (.ifCond .le 15, 3) := by decide +kernel
theorem dX1_narrow_100 : decode cX1_narrow 100 = .ok (.aload_n 0, 1) := by decide +kernel
theorem dX1_narrow_101 : decode cX1_narrow 101 = .ok (.lload 9, 2) := by decide +kernel
theorem dX1_narrow_103 : decode cX1_narrow 103 = .ok (.putfield 9, 3) := by decide +kernel
theorem dX1_narrow_106 : decode cX1_narrow 106 = .ok (.aload_n 0, 1) := by decide +kernel
theorem dX1_narrow_107 : decode cX1_narrow 107 = .ok (.lload 5, 2) := by decide +kernel
theorem dX1_narrow_109 : decode cX1_narrow 109 = .ok (.putfield 15, 3) := by decide +kernel
theorem dX1_narrow_112 : decode cX1_narrow 112 = .ok (.return_, 1) := by decide +kernel
theorem dX1_leaveSome_0 : decode cX1_leaveSome 0 = .ok (.aload_n 0, 1) := by decide +kernel
theorem dX1_leaveSome_1 : decode cX1_leaveSome 1 = .ok (.getfield 9, 3) := by decide +kernel
theorem dX1_leaveSome_4 : decode cX1_leaveSome 4 = .ok (.aload_n 0, 1) := by decide +kernel
theorem dX1_leaveSome_5 : decode cX1_leaveSome 5 = .ok (.getfield 21, 3) := by decide +kernel
theorem dX1_leaveSome_8 : decode cX1_leaveSome 8 = .ok (.lmul, 1) := by decide +kernel
theorem dX1_leaveSome_9 : decode cX1_leaveSome 9 = .ok (.aload_n 0, 1) := by decide +kernel
theorem dX1_leaveSome_10 : decode cX1_leaveSome 10 = .ok (.getfield 18, 3) := by decide +kernel
theorem dX1_leaveSome_13 : decode cX1_leaveSome 13 = .ok (.aload_n 0, 1) := by decide +kernel
theorem dX1_leaveSome_14 : decode cX1_leaveSome 14 = .ok (.getfield 15, 3) := by decide +kernel
theorem dX1_leaveSome_17 : decode cX1_leaveSome 17 = .ok (.lmul, 1) := by decide +kernel
theorem dX1_leaveSome_18 : decode cX1_leaveSome 18 = .ok (.lcmp, 1) := by decide +kernel
theorem dX1_leaveSome_19 : decode cX1_leaveSome 19 = .ok (.ifCond .gt 7, 3) := by decide +kernel
theorem dX1_leaveSome_22 : decode cX1_leaveSome 22 = .ok (.iconst 1, 1) := by decide +kernel
theorem dX1_leaveSome_23 : decode cX1_leaveSome 23 = .ok (.goto 4, 3) := by decide +kernel
theorem dX1_leaveSome_26 : decode cX1_leaveSome 26 = .ok (.iconst 0, 1) := by decide +kernel
theorem dX1_leaveSome_27 : decode cX1_leaveSome 27 = .ok (.ireturn, 1) := by decide +kernel
theorem dX1_commonDivisor_0 : decode cX1_commonDivisor 0 = .ok (.lload_n 0, 1) := by decide +kernel
theorem dX1_commonDivisor_1 : decode cX1_commonDivisor 1 = .ok (.lstore 4, 2) := by decide +kernel
theorem dX1_commonDivisor_3 : decode cX1_commonDivisor 3 = .ok (.lload_n 2, 1) := by decide +kernel
theorem dX1_commonDivisor_4 : decode cX1_commonDivisor 4 = .ok (.lstore 6, 2) := by decide +kernel
theorem dX1_commonDivisor_6 : decode cX1_commonDivisor 6 = .ok (.iconst 0, 1) := by decide +kernel
theorem dX1_commonDivisor_7 : decode cX1_commonDivisor 7 = .ok (.istore 8, 2) := by decide +kernel
theorem dX1_commonDivisor_9 : decode cX1_commonDivisor 9 = .ok (.iload 8, 2) := by decide +kernel
theorem dX1_commonDivisor_11 : decode cX1_commonDivisor 11 = .ok (.bipush 100, 2) := by decide +kernel
theorem dX1_commonDivisor_13 : decode cX1_commonDivisor 13 = .ok (.if_icmp .ge 31, 3) := by decide +kernel
theorem dX1_commonDivisor_16 : decode cX1_commonDivisor 16 = .ok (.lload 6, 2) := by decide +kernel
theorem dX1_commonDivisor_18 : decode cX1_commonDivisor 18 = .ok (.lconst 0, 1) := by decide +kernel
theorem dX1_commonDivisor_19 : decode cX1_commonDivisor 19 = .ok (.lcmp, 1) := by decide +kernel
theorem dX1_commonDivisor_20 : decode cX1_commonDivisor 20 = .ok (.ifCond .eq 24, 3) := by decide +kernel
theorem dX1_commonDivisor_23 : decode cX1_commonDivisor 23 = .ok (.lload 4, 2) := by decide +kernel
theorem dX1_commonDivisor_25 : decode cX1_commonDivisor 25 = .ok (.lload 6, 2) := by decide +kernel
theorem dX1_commonDivisor_27 : decode cX1_commonDivisor 27 = .ok (.lrem, 1) := by decide +kernel
theorem dX1_commonDivisor_28 : decode cX1_commonDivisor 28 = .ok (.lstore 9, 2) := by decide +kernel
theorem dX1_commonDivisor_30 : decode cX1_commonDivisor 30 = .ok (.lload 6, 2) := by decide +kernel
theorem dX1_commonDivisor_32 : decode cX1_commonDivisor 32 = .ok (.lstore 4, 2) := by decide +kernel
theorem dX1_commonDivisor_34 : decode cX1_commonDivisor 34 = .ok (.lload 9, 2) := by decide +kernel
theorem dX1_commonDivisor_36 : decode cX1_commonDivisor 36 = .ok (.lstore 6, 2) := by decide +kernel
theorem dX1_commonDivisor_38 : decode cX1_commonDivisor 38 = .ok (.iinc 8 1, 3) := by decide +kernel
theorem dX1_commonDivisor_41 : decode cX1_commonDivisor 41 = .ok (.goto (-32), 3) := by decide +kernel
theorem dX1_commonDivisor_44 : decode cX1_commonDivisor 44 = .ok (.lload 4, 2) := by decide +kernel
theorem dX1_commonDivisor_46 : decode cX1_commonDivisor 46 = .ok (.lreturn, 1) := by decide +kernel
theorem dX2_init_0 : decode cX2_init 0 = .ok (.aload_n 0, 1) := by decide +kernel
theorem dX2_init_1 : decode cX2_init 1 = .ok (.invokespecial 3, 3) := by decide +kernel
theorem dX2_init_4 : decode cX2_init 4 = .ok (.aload_n 0, 1) := by decide +kernel
theorem dX2_init_5 : decode cX2_init 5 = .ok (.iconst 0, 1) := by decide +kernel
theorem dX2_init_6 : decode cX2_init 6 = .ok (.putfield 9, 3) := by decide +kernel
theorem dX2_init_9 : decode cX2_init 9 = .ok (.aload_n 0, 1) := by decide +kernel
theorem dX2_init_10 : decode cX2_init 10 = .ok (.iconst 0, 1) := by decide +kernel
theorem dX2_init_11 : decode cX2_init 11 = .ok (.putfield 15, 3) := by decide +kernel
theorem dX2_init_14 : decode cX2_init 14 = .ok (.aload_n 0, 1) := by decide +kernel
theorem dX2_init_15 : decode cX2_init 15 = .ok (.iconst 0, 1) := by decide +kernel
theorem dX2_init_16 : decode cX2_init 16 = .ok (.putfield 18, 3) := by decide +kernel
theorem dX2_init_19 : decode cX2_init 19 = .ok (.aload_n 0, 1) := by decide +kernel
theorem dX2_init_20 : decode cX2_init 20 = .ok (.iload_n 1, 1) := by decide +kernel
theorem dX2_init_21 : decode cX2_init 21 = .ok (.ifCond .le 7, 3) := by decide +kernel
theorem dX2_init_24 : decode cX2_init 24 = .ok (.iload_n 1, 1) := by decide +kernel
theorem dX2_init_25 : decode cX2_init 25 = .ok (.goto 4, 3) := by decide +kernel
theorem dX2_init_28 : decode cX2_init 28 = .ok (.iconst 0, 1) := by decide +kernel
theorem dX2_init_29 : decode cX2_init 29 = .ok (.newarray .long, 2) := by decide +kernel
theorem dX2_init_31 : decode cX2_init 31 = .ok (.putfield 21, 3) := by decide +kernel
theorem dX2_init_34 : decode cX2_init 34 = .ok (.aload_n 0, 1) := by decide +kernel
theorem dX2_init_35 : decode cX2_init 35 = .ok (.iload_n 1, 1) := by decide +kernel
theorem dX2_init_36 : decode cX2_init 36 = .ok (.ifCond .le 7, 3) := by decide +kernel
theorem dX2_init_39 : decode cX2_init 39 = .ok (.iload_n 1, 1) := by decide +kernel
theorem dX2_init_40 : decode cX2_init 40 = .ok (.goto 4, 3) := by decide +kernel
theorem dX2_init_43 : decode cX2_init 43 = .ok (.iconst 0, 1) := by decide +kernel
theorem dX2_init_44 : decode cX2_init 44 = .ok (.newarray .boolean, 2) := by decide +kernel
theorem dX2_init_46 : decode cX2_init 46 = .ok (.putfield 25, 3) := by decide +kernel
theorem dX2_init_49 : decode cX2_init 49 = .ok (.aload_n 0, 1) := by decide +kernel
theorem dX2_init_50 : decode cX2_init 50 = .ok (.iload_n 2, 1) := by decide +kernel
theorem dX2_init_51 : decode cX2_init 51 = .ok (.ifCond .le 7, 3) := by decide +kernel
theorem dX2_init_54 : decode cX2_init 54 = .ok (.iload_n 2, 1) := by decide +kernel
theorem dX2_init_55 : decode cX2_init 55 = .ok (.goto 4, 3) := by decide +kernel
theorem dX2_init_58 : decode cX2_init 58 = .ok (.iconst 0, 1) := by decide +kernel
theorem dX2_init_59 : decode cX2_init 59 = .ok (.newarray .long, 2) := by decide +kernel
theorem dX2_init_61 : decode cX2_init 61 = .ok (.putfield 29, 3) := by decide +kernel
theorem dX2_init_64 : decode cX2_init 64 = .ok (.aload_n 0, 1) := by decide +kernel
theorem dX2_init_65 : decode cX2_init 65 = .ok (.iload_n 1, 1) := by decide +kernel
theorem dX2_init_66 : decode cX2_init 66 = .ok (.ifCond .le 7, 3) := by decide +kernel
theorem dX2_init_69 : decode cX2_init 69 = .ok (.iload_n 1, 1) := by decide +kernel
theorem dX2_init_70 : decode cX2_init 70 = .ok (.goto 4, 3) := by decide +kernel
theorem dX2_init_73 : decode cX2_init 73 = .ok (.iconst 0, 1) := by decide +kernel
theorem dX2_init_74 : decode cX2_init 74 = .ok (.anewarray 32, 3) := by decide +kernel
theorem dX2_init_77 : decode cX2_init 77 = .ok (.putfield 34, 3) := by decide +kernel
theorem dX2_init_80 : decode cX2_init 80 = .ok (.return_, 1) := by decide +kernel
theorem dX2_empty_0 : decode cX2_empty 0 = .ok (.aload_n 0, 1) := by decide +kernel
theorem dX2_empty_1 : decode cX2_empty 1 = .ok (.iconst 0, 1) := by decide +kernel
theorem dX2_empty_2 : decode cX2_empty 2 = .ok (.putfield 9, 3) := by decide +kernel
theorem dX2_empty_5 : decode cX2_empty 5 = .ok (.aload_n 0, 1) := by decide +kernel
theorem dX2_empty_6 : decode cX2_empty 6 = .ok (.iconst 0, 1) := by decide +kernel
theorem dX2_empty_7 : decode cX2_empty 7 = .ok (.putfield 15, 3) := by decide +kernel
theorem dX2_empty_10 : decode cX2_empty 10 = .ok (.aload_n 0, 1) := by decide +kernel
theorem dX2_empty_11 : decode cX2_empty 11 = .ok (.iconst 0, 1) := by decide +kernel
theorem dX2_empty_12 : decode cX2_empty 12 = .ok (.putfield 18, 3) := by decide +kernel
theorem dX2_empty_15 : decode cX2_empty 15 = .ok (.return_, 1) := by decide +kernel
theorem dX2_isFull_0 : decode cX2_isFull 0 = .ok (.aload_n 0, 1) := by decide +kernel
theorem dX2_isFull_1 : decode cX2_isFull 1 = .ok (.getfield 9, 3) := by decide +kernel
theorem dX2_isFull_4 : decode cX2_isFull 4 = .ok (.aload_n 0, 1) := by decide +kernel
theorem dX2_isFull_5 : decode cX2_isFull 5 = .ok (.getfield 15, 3) := by decide +kernel
theorem dX2_isFull_8 : decode cX2_isFull 8 = .ok (.iadd, 1) := by decide +kernel
theorem dX2_isFull_9 : decode cX2_isFull 9 = .ok (.aload_n 0, 1) := by decide +kernel
theorem dX2_isFull_10 : decode cX2_isFull 10 = .ok (.getfield 21, 3) := by decide +kernel
theorem dX2_isFull_13 : decode cX2_isFull 13 = .ok (.arraylength, 1) := by decide +kernel
theorem dX2_isFull_14 : decode cX2_isFull 14 = .ok (.if_icmp .ge 15, 3) := by decide +kernel
theorem dX2_isFull_17 : decode cX2_isFull 17 = .ok (.aload_n 0, 1) := by decide +kernel
theorem dX2_isFull_18 : decode cX2_isFull 18 = .ok (.getfield 15, 3) := by decide +kernel
theorem dX2_isFull_21 : decode cX2_isFull 21 = .ok (.aload_n 0, 1) := by decide +kernel
theorem dX2_isFull_22 : decode cX2_isFull 22 = .ok (.getfield 29, 3) := by decide +kernel
theorem dX2_isFull_25 : decode cX2_isFull 25 = .ok (.arraylength, 1) := by decide +kernel
theorem dX2_isFull_26 : decode cX2_isFull 26 = .ok (.if_icmp .lt 7, 3) := by decide +kernel
theorem dX2_isFull_29 : decode cX2_isFull 29 = .ok (.iconst 1, 1) := by decide +kernel
theorem dX2_isFull_30 : decode cX2_isFull 30 = .ok (.goto 4, 3) := by decide +kernel
theorem dX2_isFull_33 : decode cX2_isFull 33 = .ok (.iconst 0, 1) := by decide +kernel
theorem dX2_isFull_34 : decode cX2_isFull 34 = .ok (.ireturn, 1) := by decide +kernel
theorem dX2_pieceAt_0 : decode cX2_pieceAt 0 = .ok (.iload_n 1, 1) := by decide +kernel
theorem dX2_pieceAt_1 : decode cX2_pieceAt 1 = .ok (.ifCond .lt 20, 3) := by decide +kernel
theorem dX2_pieceAt_4 : decode cX2_pieceAt 4 = .ok (.iload_n 1, 1) := by decide +kernel
theorem dX2_pieceAt_5 : decode cX2_pieceAt 5 = .ok (.aload_n 0, 1) := by decide +kernel
theorem dX2_pieceAt_6 : decode cX2_pieceAt 6 = .ok (.getfield 18, 3) := by decide +kernel
theorem dX2_pieceAt_9 : decode cX2_pieceAt 9 = .ok (.if_icmp .ge 12, 3) := by decide +kernel
theorem dX2_pieceAt_12 : decode cX2_pieceAt 12 = .ok (.aload_n 0, 1) := by decide +kernel
theorem dX2_pieceAt_13 : decode cX2_pieceAt 13 = .ok (.getfield 34, 3) := by decide +kernel
theorem dX2_pieceAt_16 : decode cX2_pieceAt 16 = .ok (.iload_n 1, 1) := by decide +kernel
theorem dX2_pieceAt_17 : decode cX2_pieceAt 17 = .ok (.aaload, 1) := by decide +kernel
theorem dX2_pieceAt_18 : decode cX2_pieceAt 18 = .ok (.goto 4, 3) := by decide +kernel
theorem dX2_pieceAt_21 : decode cX2_pieceAt 21 = .ok (.aconst_null, 1) := by decide +kernel
theorem dX2_pieceAt_22 : decode cX2_pieceAt 22 = .ok (.areturn, 1) := by decide +kernel
theorem dX2_keyOf_0 : decode cX2_keyOf 0 = .ok (.aload_n 1, 1) := by decide +kernel
theorem dX2_keyOf_1 : decode cX2_keyOf 1 = .ok (.getfield 38, 3) := by decide +kernel
theorem dX2_keyOf_4 : decode cX2_keyOf 4 = .ok (.iload_n 2, 1) := by decide +kernel
theorem dX2_keyOf_5 : decode cX2_keyOf 5 = .ok (.iadd, 1) := by decide +kernel
theorem dX2_keyOf_6 : decode cX2_keyOf 6 = .ok (.istore_n 3, 1) := by decide +kernel
theorem dX2_keyOf_7 : decode cX2_keyOf 7 = .ok (.iload_n 2, 1) := by decide +kernel
theorem dX2_keyOf_8 : decode cX2_keyOf 8 = .ok (.ifCond .lt 32, 3) := by decide +kernel
theorem dX2_keyOf_11 : decode cX2_keyOf 11 = .ok (.iload_n 2, 1) := by decide +kernel
theorem dX2_keyOf_12 : decode cX2_keyOf 12 = .ok (.aload_n 1, 1) := by decide +kernel
theorem dX2_keyOf_13 : decode cX2_keyOf 13 = .ok (.getfield 41, 3) := by decide +kernel
theorem dX2_keyOf_16 : decode cX2_keyOf 16 = .ok (.if_icmp .ge 24, 3) := by decide +kernel
theorem dX2_keyOf_19 : decode cX2_keyOf 19 = .ok (.iload_n 3, 1) := by decide +kernel
theorem dX2_keyOf_20 : decode cX2_keyOf 20 = .ok (.ifCond .lt 20, 3) := by decide +kernel
theorem dX2_keyOf_23 : decode cX2_keyOf 23 = .ok (.iload_n 3, 1) := by decide +kernel
theorem dX2_keyOf_24 : decode cX2_keyOf 24 = .ok (.aload_n 0, 1) := by decide +kernel
theorem dX2_keyOf_25 : decode cX2_keyOf 25 = .ok (.getfield 9, 3) := by decide +kernel
theorem dX2_keyOf_28 : decode cX2_keyOf 28 = .ok (.if_icmp .ge 12, 3) := by decide +kernel
theorem dX2_keyOf_31 : decode cX2_keyOf 31 = .ok (.aload_n 0, 1) := by decide +kernel
theorem dX2_keyOf_32 : decode cX2_keyOf 32 = .ok (.getfield 21, 3) := by decide +kernel
theorem dX2_keyOf_35 : decode cX2_keyOf 35 = .ok (.iload_n 3, 1) := by decide +kernel
theorem dX2_keyOf_36 : decode cX2_keyOf 36 = .ok (.laload, 1) := by decide +kernel
theorem dX2_keyOf_37 : decode cX2_keyOf 37 = .ok (.goto 6, 3) := by decide +kernel
theorem dX2_keyOf_40 : decode cX2_keyOf 40 = .ok (.ldc2_w 42, 3) := by decide +kernel
theorem dX2_keyOf_43 : decode cX2_keyOf 43 = .ok (.lreturn, 1) := by decide +kernel
theorem dX2_lateOf_0 : decode cX2_lateOf 0 = .ok (.aload_n 1, 1) := by decide +kernel
theorem dX2_lateOf_1 : decode cX2_lateOf 1 = .ok (.getfield 44, 3) := by decide +kernel
theorem dX2_lateOf_4 : decode cX2_lateOf 4 = .ok (.iload_n 2, 1) := by decide +kernel
theorem dX2_lateOf_5 : decode cX2_lateOf 5 = .ok (.iadd, 1) := by decide +kernel
theorem dX2_lateOf_6 : decode cX2_lateOf 6 = .ok (.istore_n 3, 1) := by decide +kernel
theorem dX2_lateOf_7 : decode cX2_lateOf 7 = .ok (.iload_n 2, 1) := by decide +kernel
theorem dX2_lateOf_8 : decode cX2_lateOf 8 = .ok (.ifCond .lt 32, 3) := by decide +kernel
theorem dX2_lateOf_11 : decode cX2_lateOf 11 = .ok (.iload_n 2, 1) := by decide +kernel
theorem dX2_lateOf_12 : decode cX2_lateOf 12 = .ok (.aload_n 1, 1) := by decide +kernel
theorem dX2_lateOf_13 : decode cX2_lateOf 13 = .ok (.getfield 47, 3) := by decide +kernel
theorem dX2_lateOf_16 : decode cX2_lateOf 16 = .ok (.if_icmp .ge 24, 3) := by decide +kernel
theorem dX2_lateOf_19 : decode cX2_lateOf 19 = .ok (.iload_n 3, 1) := by decide +kernel
theorem dX2_lateOf_20 : decode cX2_lateOf 20 = .ok (.ifCond .lt 20, 3) := by decide +kernel
theorem dX2_lateOf_23 : decode cX2_lateOf 23 = .ok (.iload_n 3, 1) := by decide +kernel
theorem dX2_lateOf_24 : decode cX2_lateOf 24 = .ok (.aload_n 0, 1) := by decide +kernel
theorem dX2_lateOf_25 : decode cX2_lateOf 25 = .ok (.getfield 15, 3) := by decide +kernel
theorem dX2_lateOf_28 : decode cX2_lateOf 28 = .ok (.if_icmp .ge 12, 3) := by decide +kernel
theorem dX2_lateOf_31 : decode cX2_lateOf 31 = .ok (.aload_n 0, 1) := by decide +kernel
theorem dX2_lateOf_32 : decode cX2_lateOf 32 = .ok (.getfield 29, 3) := by decide +kernel
theorem dX2_lateOf_35 : decode cX2_lateOf 35 = .ok (.iload_n 3, 1) := by decide +kernel
theorem dX2_lateOf_36 : decode cX2_lateOf 36 = .ok (.laload, 1) := by decide +kernel
theorem dX2_lateOf_37 : decode cX2_lateOf 37 = .ok (.goto 6, 3) := by decide +kernel
theorem dX2_lateOf_40 : decode cX2_lateOf 40 = .ok (.ldc2_w 42, 3) := by decide +kernel
theorem dX2_lateOf_43 : decode cX2_lateOf 43 = .ok (.lreturn, 1) := by decide +kernel
theorem dX2_isDropped_0 : decode cX2_isDropped 0 = .ok (.aload_n 1, 1) := by decide +kernel
theorem dX2_isDropped_1 : decode cX2_isDropped 1 = .ok (.getfield 38, 3) := by decide +kernel
theorem dX2_isDropped_4 : decode cX2_isDropped 4 = .ok (.iload_n 2, 1) := by decide +kernel
theorem dX2_isDropped_5 : decode cX2_isDropped 5 = .ok (.iadd, 1) := by decide +kernel
theorem dX2_isDropped_6 : decode cX2_isDropped 6 = .ok (.istore_n 3, 1) := by decide +kernel
theorem dX2_isDropped_7 : decode cX2_isDropped 7 = .ok (.iload_n 2, 1) := by decide +kernel
theorem dX2_isDropped_8 : decode cX2_isDropped 8 = .ok (.ifCond .lt 36, 3) := by decide +kernel
theorem dX2_isDropped_11 : decode cX2_isDropped 11 = .ok (.iload_n 2, 1) := by decide +kernel
theorem dX2_isDropped_12 : decode cX2_isDropped 12 = .ok (.aload_n 1, 1) := by decide +kernel
theorem dX2_isDropped_13 : decode cX2_isDropped 13 = .ok (.getfield 41, 3) := by decide +kernel
theorem dX2_isDropped_16 : decode cX2_isDropped 16 = .ok (.if_icmp .ge 28, 3) := by decide +kernel
theorem dX2_isDropped_19 : decode cX2_isDropped 19 = .ok (.iload_n 3, 1) := by decide +kernel
theorem dX2_isDropped_20 : decode cX2_isDropped 20 = .ok (.ifCond .lt 24, 3) := by decide +kernel
theorem dX2_isDropped_23 : decode cX2_isDropped 23 = .ok (.iload_n 3, 1) := by decide +kernel
theorem dX2_isDropped_24 : decode cX2_isDropped 24 = .ok (.aload_n 0, 1) := by decide +kernel
theorem dX2_isDropped_25 : decode cX2_isDropped 25 = .ok (.getfield 9, 3) := by decide +kernel
theorem dX2_isDropped_28 : decode cX2_isDropped 28 = .ok (.if_icmp .ge 16, 3) := by decide +kernel
theorem dX2_isDropped_31 : decode cX2_isDropped 31 = .ok (.aload_n 0, 1) := by decide +kernel
theorem dX2_isDropped_32 : decode cX2_isDropped 32 = .ok (.getfield 25, 3) := by decide +kernel
theorem dX2_isDropped_35 : decode cX2_isDropped 35 = .ok (.iload_n 3, 1) := by decide +kernel
theorem dX2_isDropped_36 : decode cX2_isDropped 36 = .ok (.baload, 1) := by decide +kernel
theorem dX2_isDropped_37 : decode cX2_isDropped 37 = .ok (.ifCond .eq 7, 3) := by decide +kernel
theorem dX2_isDropped_40 : decode cX2_isDropped 40 = .ok (.iconst 1, 1) := by decide +kernel
theorem dX2_isDropped_41 : decode cX2_isDropped 41 = .ok (.goto 4, 3) := by decide +kernel
theorem dX2_isDropped_44 : decode cX2_isDropped 44 = .ok (.iconst 0, 1) := by decide +kernel
theorem dX2_isDropped_45 : decode cX2_isDropped 45 = .ok (.ireturn, 1) := by decide +kernel
theorem dX2_countDropped_0 : decode cX2_countDropped 0 = .ok (.iconst 0, 1) := by decide +kernel
theorem dX2_countDropped_1 : decode cX2_countDropped 1 = .ok (.istore_n 2, 1) := by decide +kernel
theorem dX2_countDropped_2 : decode cX2_countDropped 2 = .ok (.iconst 0, 1) := by decide +kernel
theorem dX2_countDropped_3 : decode cX2_countDropped 3 = .ok (.istore_n 3, 1) := by decide +kernel
theorem dX2_countDropped_4 : decode cX2_countDropped 4 = .ok (.iload_n 3, 1) := by decide +kernel
theorem dX2_countDropped_5 : decode cX2_countDropped 5 = .ok (.aload_n 1, 1) := by decide +kernel
theorem dX2_countDropped_6 : decode cX2_countDropped 6 = .ok (.getfield 41, 3) := by decide +kernel
theorem dX2_countDropped_9 : decode cX2_countDropped 9 = .ok (.if_icmp .ge 26, 3) := by decide +kernel
theorem dX2_countDropped_12 : decode cX2_countDropped 12 = .ok (.iload_n 2, 1) := by decide +kernel
theorem dX2_countDropped_13 : decode cX2_countDropped 13 = .ok (.aload_n 0, 1) := by decide +kernel
theorem dX2_countDropped_14 : decode cX2_countDropped 14 = .ok (.aload_n 1, 1) := by decide +kernel
theorem dX2_countDropped_15 : decode cX2_countDropped 15 = .ok (.iload_n 3, 1) := by decide +kernel
theorem dX2_countDropped_16 : decode cX2_countDropped 16 = .ok (.invokevirtual 48, 3) := by decide +kernel
theorem dX2_countDropped_19 : decode cX2_countDropped 19 = .ok (.ifCond .eq 7, 3) := by decide +kernel
theorem dX2_countDropped_22 : decode cX2_countDropped 22 = .ok (.iconst 1, 1) := by decide +kernel
theorem dX2_countDropped_23 : decode cX2_countDropped 23 = .ok (.goto 4, 3) := by decide +kernel
theorem dX2_countDropped_26 : decode cX2_countDropped 26 = .ok (.iconst 0, 1) := by decide +kernel
theorem dX2_countDropped_27 : decode cX2_countDropped 27 = .ok (.iadd, 1) := by decide +kernel
theorem dX2_countDropped_28 : decode cX2_countDropped 28 = .ok (.istore_n 2, 1) := by decide +kernel
theorem dX2_countDropped_29 : decode cX2_countDropped 29 = .ok (.iinc 3 1, 3) := by decide +kernel
theorem dX2_countDropped_32 : decode cX2_countDropped 32 = .ok (.goto (-28), 3) := by decide +kernel
theorem dX2_countDropped_35 : decode cX2_countDropped 35 = .ok (.iload_n 2, 1) := by decide +kernel
theorem dX2_countDropped_36 : decode cX2_countDropped 36 = .ok (.ireturn, 1) := by decide +kernel
theorem dX2_greatestMiss_0 : decode cX2_greatestMiss 0 = .ok (.aload_n 0, 1) := by decide +kernel
theorem dX2_greatestMiss_1 : decode cX2_greatestMiss 1 = .ok (.aload_n 1, 1) := by decide +kernel
theorem dX2_greatestMiss_2 : decode cX2_greatestMiss 2 = .ok (.iconst 0, 1) := by decide +kernel
theorem dX2_greatestMiss_3 : decode cX2_greatestMiss 3 = .ok (.invokevirtual 52, 3) := by decide +kernel
theorem dX2_greatestMiss_6 : decode cX2_greatestMiss 6 = .ok (.lstore_n 2, 1) := by decide +kernel
theorem dX2_greatestMiss_7 : decode cX2_greatestMiss 7 = .ok (.iconst 0, 1) := by decide +kernel
theorem dX2_greatestMiss_8 : decode cX2_greatestMiss 8 = .ok (.istore 4, 2) := by decide +kernel
theorem dX2_greatestMiss_10 : decode cX2_greatestMiss 10 = .ok (.iconst 0, 1) := by decide +kernel
theorem dX2_greatestMiss_11 : decode cX2_greatestMiss 11 = .ok (.istore 5, 2) := by decide +kernel
theorem dX2_greatestMiss_13 : decode cX2_greatestMiss 13 = .ok (.iload 5, 2) := by decide +kernel
theorem dX2_greatestMiss_15 : decode cX2_greatestMiss 15 = .ok (.aload_n 1, 1) := by decide +kernel
theorem dX2_greatestMiss_16 : decode cX2_greatestMiss 16 = .ok (.getfield 41, 3) := by decide +kernel
theorem dX2_greatestMiss_19 : decode cX2_greatestMiss 19 = .ok (.if_icmp .ge 39, 3) := by decide +kernel
theorem dX2_greatestMiss_22 : decode cX2_greatestMiss 22 = .ok (.aload_n 1, 1) := by decide +kernel
theorem dX2_greatestMiss_23 : decode cX2_greatestMiss 23 = .ok (.aload_n 0, 1) := by decide +kernel
theorem dX2_greatestMiss_24 : decode cX2_greatestMiss 24 = .ok (.aload_n 1, 1) := by decide +kernel
theorem dX2_greatestMiss_25 : decode cX2_greatestMiss 25 = .ok (.iload 5, 2) := by decide +kernel
theorem dX2_greatestMiss_27 : decode cX2_greatestMiss 27 = .ok (.invokevirtual 52, 3) := by decide +kernel
theorem dX2_greatestMiss_30 : decode cX2_greatestMiss 30 = .ok (.lload_n 2, 1) := by decide +kernel
theorem dX2_greatestMiss_31 : decode cX2_greatestMiss 31 = .ok (.lsub, 1) := by decide +kernel
theorem dX2_greatestMiss_32 : decode cX2_greatestMiss 32 = .ok (.invokevirtual 56, 3) := by decide +kernel
theorem dX2_greatestMiss_35 : decode cX2_greatestMiss 35 = .ok (.iload 5, 2) := by decide +kernel
theorem dX2_greatestMiss_37 : decode cX2_greatestMiss 37 = .ok (.isub, 1) := by decide +kernel
theorem dX2_greatestMiss_38 : decode cX2_greatestMiss 38 = .ok (.invokestatic 60, 3) := by decide +kernel
theorem dX2_greatestMiss_41 : decode cX2_greatestMiss 41 = .ok (.istore 6, 2) := by decide +kernel
theorem dX2_greatestMiss_43 : decode cX2_greatestMiss 43 = .ok (.iload 4, 2) := by decide +kernel
theorem dX2_greatestMiss_45 : decode cX2_greatestMiss 45 = .ok (.iload 6, 2) := by decide +kernel
theorem dX2_greatestMiss_47 : decode cX2_greatestMiss 47 = .ok (.invokestatic 66, 3) := by decide +kernel
theorem dX2_greatestMiss_50 : decode cX2_greatestMiss 50 = .ok (.istore 4, 2) := by decide +kernel
theorem dX2_greatestMiss_52 : decode cX2_greatestMiss 52 = .ok (.iinc 5 1, 3) := by decide +kernel
theorem dX2_greatestMiss_55 : decode cX2_greatestMiss 55 = .ok (.goto (-42), 3) := by decide +kernel
theorem dX2_greatestMiss_58 : decode cX2_greatestMiss 58 = .ok (.iload 4, 2) := by decide +kernel
theorem dX2_greatestMiss_60 : decode cX2_greatestMiss 60 = .ok (.ireturn, 1) := by decide +kernel
theorem dX2_firstKeys_0 : decode cX2_firstKeys 0 = .ok (.iconst 0, 1) := by decide +kernel
theorem dX2_firstKeys_1 : decode cX2_firstKeys 1 = .ok (.istore_n 2, 1) := by decide +kernel
theorem dX2_firstKeys_2 : decode cX2_firstKeys 2 = .ok (.iconst 0, 1) := by decide +kernel
theorem dX2_firstKeys_3 : decode cX2_firstKeys 3 = .ok (.istore_n 3, 1) := by decide +kernel
theorem dX2_firstKeys_4 : decode cX2_firstKeys 4 = .ok (.iload_n 3, 1) := by decide +kernel
theorem dX2_firstKeys_5 : decode cX2_firstKeys 5 = .ok (.aload_n 0, 1) := by decide +kernel
theorem dX2_firstKeys_6 : decode cX2_firstKeys 6 = .ok (.getfield 18, 3) := by decide +kernel
theorem dX2_firstKeys_9 : decode cX2_firstKeys 9 = .ok (.if_icmp .ge 47, 3) := by decide +kernel
theorem dX2_firstKeys_12 : decode cX2_firstKeys 12 = .ok (.iload_n 3, 1) := by decide +kernel
theorem dX2_firstKeys_13 : decode cX2_firstKeys 13 = .ok (.aload_n 1, 1) := by decide +kernel
theorem dX2_firstKeys_14 : decode cX2_firstKeys 14 = .ok (.arraylength, 1) := by decide +kernel
theorem dX2_firstKeys_15 : decode cX2_firstKeys 15 = .ok (.if_icmp .ge 41, 3) := by decide +kernel
theorem dX2_firstKeys_18 : decode cX2_firstKeys 18 = .ok (.aload_n 0, 1) := by decide +kernel
theorem dX2_firstKeys_19 : decode cX2_firstKeys 19 = .ok (.getfield 34, 3) := by decide +kernel
theorem dX2_firstKeys_22 : decode cX2_firstKeys 22 = .ok (.iload_n 3, 1) := by decide +kernel
theorem dX2_firstKeys_23 : decode cX2_firstKeys 23 = .ok (.aaload, 1) := by decide +kernel
theorem dX2_firstKeys_24 : decode cX2_firstKeys 24 = .ok (.astore 4, 2) := by decide +kernel
theorem dX2_firstKeys_26 : decode cX2_firstKeys 26 = .ok (.aload_n 1, 1) := by decide +kernel
theorem dX2_firstKeys_27 : decode cX2_firstKeys 27 = .ok (.iload_n 3, 1) := by decide +kernel
theorem dX2_firstKeys_28 : decode cX2_firstKeys 28 = .ok (.aload 4, 2) := by decide +kernel
theorem dX2_firstKeys_30 : decode cX2_firstKeys 30 = .ok (.ifnonnull 9, 3) := by decide +kernel
theorem dX2_firstKeys_33 : decode cX2_firstKeys 33 = .ok (.ldc2_w 42, 3) := by decide +kernel
theorem dX2_firstKeys_36 : decode cX2_firstKeys 36 = .ok (.goto 10, 3) := by decide +kernel
theorem dX2_firstKeys_39 : decode cX2_firstKeys 39 = .ok (.aload_n 0, 1) := by decide +kernel
theorem dX2_firstKeys_40 : decode cX2_firstKeys 40 = .ok (.aload 4, 2) := by decide +kernel
theorem dX2_firstKeys_42 : decode cX2_firstKeys 42 = .ok (.iconst 0, 1) := by decide +kernel
theorem dX2_firstKeys_43 : decode cX2_firstKeys 43 = .ok (.invokevirtual 52, 3) := by decide +kernel
theorem dX2_firstKeys_46 : decode cX2_firstKeys 46 = .ok (.lastore, 1) := by decide +kernel
theorem dX2_firstKeys_47 : decode cX2_firstKeys 47 = .ok (.iinc 2 1, 3) := by decide +kernel
theorem dX2_firstKeys_50 : decode cX2_firstKeys 50 = .ok (.iinc 3 1, 3) := by decide +kernel
theorem dX2_firstKeys_53 : decode cX2_firstKeys 53 = .ok (.goto (-49), 3) := by decide +kernel
theorem dX2_firstKeys_56 : decode cX2_firstKeys 56 = .ok (.iload_n 2, 1) := by decide +kernel
theorem dX2_firstKeys_57 : decode cX2_firstKeys 57 = .ok (.ireturn, 1) := by decide +kernel
theorem dX2_gather_0 : decode cX2_gather 0 = .ok (.aload_n 0, 1) := by decide +kernel
theorem dX2_gather_1 : decode cX2_gather 1 = .ok (.iload_n 1, 1) := by decide +kernel
theorem dX2_gather_2 : decode cX2_gather 2 = .ok (.invokevirtual 70, 3) := by decide +kernel
theorem dX2_gather_5 : decode cX2_gather 5 = .ok (.astore 4, 2) := by decide +kernel
theorem dX2_gather_7 : decode cX2_gather 7 = .ok (.aload_n 0, 1) := by decide +kernel
theorem dX2_gather_8 : decode cX2_gather 8 = .ok (.iload_n 2, 1) := by decide +kernel
theorem dX2_gather_9 : decode cX2_gather 9 = .ok (.iconst 1, 1) := by decide +kernel
theorem dX2_gather_10 : decode cX2_gather 10 = .ok (.isub, 1) := by decide +kernel
theorem dX2_gather_11 : decode cX2_gather 11 = .ok (.invokevirtual 70, 3) := by decide +kernel
theorem dX2_gather_14 : decode cX2_gather 14 = .ok (.astore 5, 2) := by decide +kernel
theorem dX2_gather_16 : decode cX2_gather 16 = .ok (.aload 4, 2) := by decide +kernel
theorem dX2_gather_18 : decode cX2_gather 18 = .ok (.ifnull 8, 3) := by decide +kernel
theorem dX2_gather_21 : decode cX2_gather 21 = .ok (.aload 5, 2) := by decide +kernel
theorem dX2_gather_23 : decode cX2_gather 23 = .ok (.ifnonnull 5, 3) := by decide +kernel
theorem dX2_gather_26 : decode cX2_gather 26 = .ok (.iconst 0, 1) := by decide +kernel
theorem dX2_gather_27 : decode cX2_gather 27 = .ok (.ireturn, 1) := by decide +kernel
theorem dX2_gather_28 : decode cX2_gather 28 = .ok (.aload 5, 2) := by decide +kernel
theorem dX2_gather_30 : decode cX2_gather 30 = .ok (.getfield 44, 3) := by decide +kernel
theorem dX2_gather_33 : decode cX2_gather 33 = .ok (.aload 5, 2) := by decide +kernel
theorem dX2_gather_35 : decode cX2_gather 35 = .ok (.getfield 47, 3) := by decide +kernel
theorem dX2_gather_38 : decode cX2_gather 38 = .ok (.iadd, 1) := by decide +kernel
theorem dX2_gather_39 : decode cX2_gather 39 = .ok (.aload_n 0, 1) := by decide +kernel
theorem dX2_gather_40 : decode cX2_gather 40 = .ok (.getfield 15, 3) := by decide +kernel
theorem dX2_gather_43 : decode cX2_gather 43 = .ok (.invokestatic 74, 3) := by decide +kernel
theorem dX2_gather_46 : decode cX2_gather 46 = .ok (.istore 6, 2) := by decide +kernel
theorem dX2_gather_48 : decode cX2_gather 48 = .ok (.aload 5, 2) := by decide +kernel
theorem dX2_gather_50 : decode cX2_gather 50 = .ok (.getfield 38, 3) := by decide +kernel
theorem dX2_gather_53 : decode cX2_gather 53 = .ok (.aload 5, 2) := by decide +kernel
theorem dX2_gather_55 : decode cX2_gather 55 = .ok (.getfield 41, 3) := by decide +kernel
theorem dX2_gather_58 : decode cX2_gather 58 = .ok (.iadd, 1) := by decide +kernel
theorem dX2_gather_59 : decode cX2_gather 59 = .ok (.aload_n 0, 1) := by decide +kernel
theorem dX2_gather_60 : decode cX2_gather 60 = .ok (.getfield 9, 3) := by decide +kernel
theorem dX2_gather_63 : decode cX2_gather 63 = .ok (.invokestatic 74, 3) := by decide +kernel
theorem dX2_gather_66 : decode cX2_gather 66 = .ok (.istore 7, 2) := by decide +kernel
theorem dX2_gather_68 : decode cX2_gather 68 = .ok (.aload 4, 2) := by decide +kernel
theorem dX2_gather_70 : decode cX2_gather 70 = .ok (.getfield 38, 3) := by decide +kernel
theorem dX2_gather_73 : decode cX2_gather 73 = .ok (.istore 8, 2) := by decide +kernel
theorem dX2_gather_75 : decode cX2_gather 75 = .ok (.aload 4, 2) := by decide +kernel
theorem dX2_gather_77 : decode cX2_gather 77 = .ok (.getfield 44, 3) := by decide +kernel
theorem dX2_gather_80 : decode cX2_gather 80 = .ok (.istore 9, 2) := by decide +kernel
theorem dX2_gather_82 : decode cX2_gather 82 = .ok (.iconst 0, 1) := by decide +kernel
theorem dX2_gather_83 : decode cX2_gather 83 = .ok (.istore 10, 2) := by decide +kernel
theorem dX2_gather_85 : decode cX2_gather 85 = .ok (.iload 8, 2) := by decide +kernel
theorem dX2_gather_87 : decode cX2_gather 87 = .ok (.iload 7, 2) := by decide +kernel
theorem dX2_gather_89 : decode cX2_gather 89 = .ok (.if_icmp .lt 10, 3) := by decide +kernel
theorem dX2_gather_92 : decode cX2_gather 92 = .ok (.iload 9, 2) := by decide +kernel
theorem dX2_gather_94 : decode cX2_gather 94 = .ok (.iload 6, 2) := by decide +kernel
theorem dX2_gather_96 : decode cX2_gather 96 = .ok (.if_icmp .ge 99, 3) := by decide +kernel
theorem dX2_gather_99 : decode cX2_gather 99 = .ok (.iload 10, 2) := by decide +kernel
theorem dX2_gather_101 : decode cX2_gather 101 = .ok (.aload_n 3, 1) := by decide +kernel
theorem dX2_gather_102 : decode cX2_gather 102 = .ok (.arraylength, 1) := by decide +kernel
theorem dX2_gather_103 : decode cX2_gather 103 = .ok (.if_icmp .ge 92, 3) := by decide +kernel
theorem dX2_gather_106 : decode cX2_gather 106 = .ok (.iload 8, 2) := by decide +kernel
theorem dX2_gather_108 : decode cX2_gather 108 = .ok (.iload 7, 2) := by decide +kernel
theorem dX2_gather_110 : decode cX2_gather 110 = .ok (.if_icmp .ge 28, 3) := by decide +kernel
theorem dX2_gather_113 : decode cX2_gather 113 = .ok (.iload 9, 2) := by decide +kernel
theorem dX2_gather_115 : decode cX2_gather 115 = .ok (.iload 6, 2) := by decide +kernel
theorem dX2_gather_117 : decode cX2_gather 117 = .ok (.if_icmp .ge 41, 3) := by decide +kernel
theorem dX2_gather_120 : decode cX2_gather 120 = .ok (.aload_n 0, 1) := by decide +kernel
theorem dX2_gather_121 : decode cX2_gather 121 = .ok (.getfield 29, 3) := by decide +kernel
theorem dX2_gather_124 : decode cX2_gather 124 = .ok (.iload 9, 2) := by decide +kernel
theorem dX2_gather_126 : decode cX2_gather 126 = .ok (.laload, 1) := by decide +kernel
theorem dX2_gather_127 : decode cX2_gather 127 = .ok (.aload_n 0, 1) := by decide +kernel
theorem dX2_gather_128 : decode cX2_gather 128 = .ok (.getfield 21, 3) := by decide +kernel
theorem dX2_gather_131 : decode cX2_gather 131 = .ok (.iload 8, 2) := by decide +kernel
theorem dX2_gather_133 : decode cX2_gather 133 = .ok (.laload, 1) := by decide +kernel
theorem dX2_gather_134 : decode cX2_gather 134 = .ok (.lcmp, 1) := by decide +kernel
theorem dX2_gather_135 : decode cX2_gather 135 = .ok (.ifCond .ge 23, 3) := by decide +kernel
theorem dX2_gather_138 : decode cX2_gather 138 = .ok (.aload_n 3, 1) := by decide +kernel
theorem dX2_gather_139 : decode cX2_gather 139 = .ok (.iload 10, 2) := by decide +kernel
theorem dX2_gather_141 : decode cX2_gather 141 = .ok (.aload_n 0, 1) := by decide +kernel
theorem dX2_gather_142 : decode cX2_gather 142 = .ok (.getfield 29, 3) := by decide +kernel
theorem dX2_gather_145 : decode cX2_gather 145 = .ok (.iload 9, 2) := by decide +kernel
theorem dX2_gather_147 : decode cX2_gather 147 = .ok (.laload, 1) := by decide +kernel
theorem dX2_gather_148 : decode cX2_gather 148 = .ok (.lastore, 1) := by decide +kernel
theorem dX2_gather_149 : decode cX2_gather 149 = .ok (.iinc 10 1, 3) := by decide +kernel
theorem dX2_gather_152 : decode cX2_gather 152 = .ok (.iinc 9 1, 3) := by decide +kernel
theorem dX2_gather_155 : decode cX2_gather 155 = .ok (.goto (-70), 3) := by decide +kernel
theorem dX2_gather_158 : decode cX2_gather 158 = .ok (.aload_n 3, 1) := by decide +kernel
theorem dX2_gather_159 : decode cX2_gather 159 = .ok (.iload 10, 2) := by decide +kernel
theorem dX2_gather_161 : decode cX2_gather 161 = .ok (.aload_n 0, 1) := by decide +kernel
theorem dX2_gather_162 : decode cX2_gather 162 = .ok (.getfield 21, 3) := by decide +kernel
theorem dX2_gather_165 : decode cX2_gather 165 = .ok (.iload 8, 2) := by decide +kernel
theorem dX2_gather_167 : decode cX2_gather 167 = .ok (.laload, 1) := by decide +kernel
theorem dX2_gather_168 : decode cX2_gather 168 = .ok (.lastore, 1) := by decide +kernel
theorem dX2_gather_169 : decode cX2_gather 169 = .ok (.iload 10, 2) := by decide +kernel
theorem dX2_gather_171 : decode cX2_gather 171 = .ok (.aload_n 0, 1) := by decide +kernel
theorem dX2_gather_172 : decode cX2_gather 172 = .ok (.getfield 25, 3) := by decide +kernel
theorem dX2_gather_175 : decode cX2_gather 175 = .ok (.iload 8, 2) := by decide +kernel
theorem dX2_gather_177 : decode cX2_gather 177 = .ok (.baload, 1) := by decide +kernel
theorem dX2_gather_178 : decode cX2_gather 178 = .ok (.ifCond .eq 7, 3) := by decide +kernel
theorem dX2_gather_181 : decode cX2_gather 181 = .ok (.iconst 0, 1) := by decide +kernel
theorem dX2_gather_182 : decode cX2_gather 182 = .ok (.goto 4, 3) := by decide +kernel
theorem dX2_gather_185 : decode cX2_gather 185 = .ok (.iconst 1, 1) := by decide +kernel
theorem dX2_gather_186 : decode cX2_gather 186 = .ok (.iadd, 1) := by decide +kernel
theorem dX2_gather_187 : decode cX2_gather 187 = .ok (.istore 10, 2) := by decide +kernel
theorem dX2_gather_189 : decode cX2_gather 189 = .ok (.iinc 8 1, 3) := by decide +kernel
theorem dX2_gather_192 : decode cX2_gather 192 = .ok (.goto (-107), 3) := by decide +kernel
theorem dX2_gather_195 : decode cX2_gather 195 = .ok (.iload 10, 2) := by decide +kernel
theorem dX2_gather_197 : decode cX2_gather 197 = .ok (.ireturn, 1) := by decide +kernel
theorem dX2_makePieces_0 : decode cX2_makePieces 0 = .ok (.iconst 0, 1) := by decide +kernel
theorem dX2_makePieces_1 : decode cX2_makePieces 1 = .ok (.istore 6, 2) := by decide +kernel
theorem dX2_makePieces_3 : decode cX2_makePieces 3 = .ok (.iconst 0, 1) := by decide +kernel
theorem dX2_makePieces_4 : decode cX2_makePieces 4 = .ok (.istore 7, 2) := by decide +kernel
theorem dX2_makePieces_6 : decode cX2_makePieces 6 = .ok (.iload 7, 2) := by decide +kernel
theorem dX2_makePieces_8 : decode cX2_makePieces 8 = .ok (.iload_n 2, 1) := by decide +kernel
theorem dX2_makePieces_9 : decode cX2_makePieces 9 = .ok (.if_icmp .ge 86, 3) := by decide +kernel
theorem dX2_makePieces_12 : decode cX2_makePieces 12 = .ok (.iload 6, 2) := by decide +kernel
theorem dX2_makePieces_14 : decode cX2_makePieces 14 = .ok (.iload_n 2, 1) := by decide +kernel
theorem dX2_makePieces_15 : decode cX2_makePieces 15 = .ok (.if_icmp .ge 80, 3) := by decide +kernel
theorem dX2_makePieces_18 : decode cX2_makePieces 18 = .ok (.aload 5, 2) := by decide +kernel
theorem dX2_makePieces_20 : decode cX2_makePieces 20 = .ok (.aload_n 1, 1) := by decide +kernel
theorem dX2_makePieces_21 : decode cX2_makePieces 21 = .ok (.iload 7, 2) := by decide +kernel
theorem dX2_makePieces_23 : decode cX2_makePieces 23 = .ok (.iload_n 2, 1) := by decide +kernel
theorem dX2_makePieces_24 : decode cX2_makePieces 24 = .ok (.iload_n 3, 1) := by decide +kernel
theorem dX2_makePieces_25 : decode cX2_makePieces 25 = .ok (.invokevirtual 77, 3) := by decide +kernel
theorem dX2_makePieces_28 : decode cX2_makePieces 28 = .ok (.istore 8, 2) := by decide +kernel
theorem dX2_makePieces_30 : decode cX2_makePieces 30 = .ok (.aload_n 0, 1) := by decide +kernel
theorem dX2_makePieces_31 : decode cX2_makePieces 31 = .ok (.aload_n 1, 1) := by decide +kernel
theorem dX2_makePieces_32 : decode cX2_makePieces 32 = .ok (.iload 7, 2) := by decide +kernel
theorem dX2_makePieces_34 : decode cX2_makePieces 34 = .ok (.iload 8, 2) := by decide +kernel
theorem dX2_makePieces_36 : decode cX2_makePieces 36 = .ok (.iload 7, 2) := by decide +kernel
theorem dX2_makePieces_38 : decode cX2_makePieces 38 = .ok (.isub, 1) := by decide +kernel
theorem dX2_makePieces_39 : decode cX2_makePieces 39 = .ok (.invokevirtual 83, 3) := by decide +kernel
theorem dX2_makePieces_42 : decode cX2_makePieces 42 = .ok (.astore 9, 2) := by decide +kernel
theorem dX2_makePieces_44 : decode cX2_makePieces 44 = .ok (.aload 9, 2) := by decide +kernel
theorem dX2_makePieces_46 : decode cX2_makePieces 46 = .ok (.ifnonnull 6, 3) := by decide +kernel
theorem dX2_makePieces_49 : decode cX2_makePieces 49 = .ok (.iload 6, 2) := by decide +kernel
theorem dX2_makePieces_51 : decode cX2_makePieces 51 = .ok (.ireturn, 1) := by decide +kernel
theorem dX2_makePieces_52 : decode cX2_makePieces 52 = .ok (.aload 9, 2) := by decide +kernel
theorem dX2_makePieces_54 : decode cX2_makePieces 54 = .ok (.iload 4, 2) := by decide +kernel
theorem dX2_makePieces_56 : decode cX2_makePieces 56 = .ok (.invokevirtual 87, 3) := by decide +kernel
theorem dX2_makePieces_59 : decode cX2_makePieces 59 = .ok (.iload 8, 2) := by decide +kernel
theorem dX2_makePieces_61 : decode cX2_makePieces 61 = .ok (.iload 7, 2) := by decide +kernel
theorem dX2_makePieces_63 : decode cX2_makePieces 63 = .ok (.isub, 1) := by decide +kernel
theorem dX2_makePieces_64 : decode cX2_makePieces 64 = .ok (.iconst 1, 1) := by decide +kernel
theorem dX2_makePieces_65 : decode cX2_makePieces 65 = .ok (.if_icmp .le 20, 3) := by decide +kernel
theorem dX2_makePieces_68 : decode cX2_makePieces 68 = .ok (.aload 9, 2) := by decide +kernel
theorem dX2_makePieces_70 : decode cX2_makePieces 70 = .ok (.iconst 1, 1) := by decide +kernel
theorem dX2_makePieces_71 : decode cX2_makePieces 71 = .ok (.putfield 91, 3) := by decide +kernel
theorem dX2_makePieces_74 : decode cX2_makePieces 74 = .ok (.aload 5, 2) := by decide +kernel
theorem dX2_makePieces_76 : decode cX2_makePieces 76 = .ok (.aload 9, 2) := by decide +kernel
theorem dX2_makePieces_78 : decode cX2_makePieces 78 = .ok (.aload_n 1, 1) := by decide +kernel
theorem dX2_makePieces_79 : decode cX2_makePieces 79 = .ok (.iload 7, 2) := by decide +kernel
theorem dX2_makePieces_81 : decode cX2_makePieces 81 = .ok (.iload_n 3, 1) := by decide +kernel
theorem dX2_makePieces_82 : decode cX2_makePieces 82 = .ok (.invokevirtual 94, 3) := by decide +kernel
theorem dX2_makePieces_85 : decode cX2_makePieces 85 = .ok (.iinc 6 1, 3) := by decide +kernel
theorem dX2_makePieces_88 : decode cX2_makePieces 88 = .ok (.iload 8, 2) := by decide +kernel
theorem dX2_makePieces_90 : decode cX2_makePieces 90 = .ok (.istore 7, 2) := by decide +kernel
theorem dX2_makePieces_92 : decode cX2_makePieces 92 = .ok (.goto (-86), 3) := by decide +kernel
theorem dX2_makePieces_95 : decode cX2_makePieces 95 = .ok (.iload 6, 2) := by decide +kernel
theorem dX2_makePieces_97 : decode cX2_makePieces 97 = .ok (.ireturn, 1) := by decide +kernel
theorem dX2_roundPieces_0 : decode cX2_roundPieces 0 = .ok (.iload_n 1, 1) := by decide +kernel
theorem dX2_roundPieces_1 : decode cX2_roundPieces 1 = .ok (.istore_n 3, 1) := by decide +kernel
theorem dX2_roundPieces_2 : decode cX2_roundPieces 2 = .ok (.iload_n 3, 1) := by decide +kernel
theorem dX2_roundPieces_3 : decode cX2_roundPieces 3 = .ok (.iload_n 2, 1) := by decide +kernel
theorem dX2_roundPieces_4 : decode cX2_roundPieces 4 = .ok (.if_icmp .ge 37, 3) := by decide +kernel
theorem dX2_roundPieces_7 : decode cX2_roundPieces 7 = .ok (.aload_n 0, 1) := by decide +kernel
theorem dX2_roundPieces_8 : decode cX2_roundPieces 8 = .ok (.iload_n 3, 1) := by decide +kernel
theorem dX2_roundPieces_9 : decode cX2_roundPieces 9 = .ok (.invokevirtual 70, 3) := by decide +kernel
theorem dX2_roundPieces_12 : decode cX2_roundPieces 12 = .ok (.astore 4, 2) := by decide +kernel
theorem dX2_roundPieces_14 : decode cX2_roundPieces 14 = .ok (.aload 4, 2) := by decide +kernel
theorem dX2_roundPieces_16 : decode cX2_roundPieces 16 = .ok (.ifnull 19, 3) := by decide +kernel
theorem dX2_roundPieces_19 : decode cX2_roundPieces 19 = .ok (.aload 4, 2) := by decide +kernel
theorem dX2_roundPieces_21 : decode cX2_roundPieces 21 = .ok (.getfield 91, 3) := by decide +kernel
theorem dX2_roundPieces_24 : decode cX2_roundPieces 24 = .ok (.iconst 1, 1) := by decide +kernel
theorem dX2_roundPieces_25 : decode cX2_roundPieces 25 = .ok (.if_icmp .ne 10, 3) := by decide +kernel
theorem dX2_roundPieces_28 : decode cX2_roundPieces 28 = .ok (.aload_n 0, 1) := by decide +kernel
theorem dX2_roundPieces_29 : decode cX2_roundPieces 29 = .ok (.aload 4, 2) := by decide +kernel
theorem dX2_roundPieces_31 : decode cX2_roundPieces 31 = .ok (.invokevirtual 98, 3) := by decide +kernel
theorem dX2_roundPieces_34 : decode cX2_roundPieces 34 = .ok (.pop, 1) := by decide +kernel
theorem dX2_roundPieces_35 : decode cX2_roundPieces 35 = .ok (.iinc 3 1, 3) := by decide +kernel
theorem dX2_roundPieces_38 : decode cX2_roundPieces 38 = .ok (.goto (-36), 3) := by decide +kernel
theorem dX2_roundPieces_41 : decode cX2_roundPieces 41 = .ok (.return_, 1) := by decide +kernel
theorem dX2_turnRounded_0 : decode cX2_turnRounded 0 = .ok (.aload_n 1, 1) := by decide +kernel
theorem dX2_turnRounded_1 : decode cX2_turnRounded 1 = .ok (.getfield 102, 3) := by decide +kernel
theorem dX2_turnRounded_4 : decode cX2_turnRounded 4 = .ok (.lconst 1, 1) := by decide +kernel
theorem dX2_turnRounded_5 : decode cX2_turnRounded 5 = .ok (.lcmp, 1) := by decide +kernel
theorem dX2_turnRounded_6 : decode cX2_turnRounded 6 = .ok (.ifCond .ge 5, 3) := by decide +kernel
theorem dX2_turnRounded_9 : decode cX2_turnRounded 9 = .ok (.iconst 0, 1) := by decide +kernel
theorem dX2_turnRounded_10 : decode cX2_turnRounded 10 = .ok (.ireturn, 1) := by decide +kernel
theorem dX2_turnRounded_11 : decode cX2_turnRounded 11 = .ok (.aload_n 1, 1) := by decide +kernel
theorem dX2_turnRounded_12 : decode cX2_turnRounded 12 = .ok (.iconst 2, 1) := by decide +kernel
theorem dX2_turnRounded_13 : decode cX2_turnRounded 13 = .ok (.putfield 91, 3) := by decide +kernel
theorem dX2_turnRounded_16 : decode cX2_turnRounded 16 = .ok (.aload_n 1, 1) := by decide +kernel
theorem dX2_turnRounded_17 : decode cX2_turnRounded 17 = .ok (.aload_n 1, 1) := by decide +kernel
theorem dX2_turnRounded_18 : decode cX2_turnRounded 18 = .ok (.getfield 106, 3) := by decide +kernel
theorem dX2_turnRounded_21 : decode cX2_turnRounded 21 = .ok (.l2d, 1) := by decide +kernel
theorem dX2_turnRounded_22 : decode cX2_turnRounded 22 = .ok (.aload_n 1, 1) := by decide +kernel
theorem dX2_turnRounded_23 : decode cX2_turnRounded 23 = .ok (.getfield 102, 3) := by decide +kernel
theorem dX2_turnRounded_26 : decode cX2_turnRounded 26 = .ok (.l2d, 1) := by decide +kernel
theorem dX2_turnRounded_27 : decode cX2_turnRounded 27 = .ok (.ddiv, 1) := by decide +kernel
theorem dX2_turnRounded_28 : decode cX2_turnRounded 28 = .ok (.putfield 109, 3) := by decide +kernel
theorem dX2_turnRounded_31 : decode cX2_turnRounded 31 = .ok (.aload_n 1, 1) := by decide +kernel
theorem dX2_turnRounded_32 : decode cX2_turnRounded 32 = .ok (.aload_n 1, 1) := by decide +kernel
theorem dX2_turnRounded_33 : decode cX2_turnRounded 33 = .ok (.getfield 113, 3) := by decide +kernel
theorem dX2_turnRounded_36 : decode cX2_turnRounded 36 = .ok (.l2d, 1) := by decide +kernel
theorem dX2_turnRounded_37 : decode cX2_turnRounded 37 = .ok (.aload_n 1, 1) := by decide +kernel
theorem dX2_turnRounded_38 : decode cX2_turnRounded 38 = .ok (.getfield 102, 3) := by decide +kernel
theorem dX2_turnRounded_41 : decode cX2_turnRounded 41 = .ok (.l2d, 1) := by decide +kernel
theorem dX2_turnRounded_42 : decode cX2_turnRounded 42 = .ok (.ddiv, 1) := by decide +kernel
theorem dX2_turnRounded_43 : decode cX2_turnRounded 43 = .ok (.putfield 116, 3) := by decide +kernel
theorem dX2_turnRounded_46 : decode cX2_turnRounded 46 = .ok (.aload_n 0, 1) := by decide +kernel
theorem dX2_turnRounded_47 : decode cX2_turnRounded 47 = .ok (.aload_n 1, 1) := by decide +kernel
theorem dX2_turnRounded_48 : decode cX2_turnRounded 48 = .ok (.invokevirtual 119, 3) := by decide +kernel
theorem dX2_turnRounded_51 : decode cX2_turnRounded 51 = .ok (.aload_n 1, 1) := by decide +kernel
theorem dX2_turnRounded_52 : decode cX2_turnRounded 52 = .ok (.getfield 123, 3) := by decide +kernel
theorem dX2_turnRounded_55 : decode cX2_turnRounded 55 = .ok (.if_icmp .le 10, 3) := by decide +kernel
theorem dX2_turnRounded_58 : decode cX2_turnRounded 58 = .ok (.aload_n 1, 1) := by decide +kernel
theorem dX2_turnRounded_59 : decode cX2_turnRounded 59 = .ok (.iconst 1, 1) := by decide +kernel
theorem dX2_turnRounded_60 : decode cX2_turnRounded 60 = .ok (.putfield 91, 3) := by decide +kernel
theorem dX2_turnRounded_63 : decode cX2_turnRounded 63 = .ok (.iconst 0, 1) := by decide +kernel
theorem dX2_turnRounded_64 : decode cX2_turnRounded 64 = .ok (.ireturn, 1) := by decide +kernel
theorem dX2_turnRounded_65 : decode cX2_turnRounded 65 = .ok (.iconst 1, 1) := by decide +kernel
theorem dX2_turnRounded_66 : decode cX2_turnRounded 66 = .ok (.ireturn, 1) := by decide +kernel
theorem dX2_append_0 : decode cX2_append 0 = .ok (.iload_n 2, 1) := by decide +kernel
theorem dX2_append_1 : decode cX2_append 1 = .ok (.ifCond .lt 19, 3) := by decide +kernel
theorem dX2_append_4 : decode cX2_append 4 = .ok (.iload_n 3, 1) := by decide +kernel
theorem dX2_append_5 : decode cX2_append 5 = .ok (.ifCond .le 15, 3) := by decide +kernel
theorem dX2_append_8 : decode cX2_append 8 = .ok (.iload_n 2, 1) := by decide +kernel
theorem dX2_append_9 : decode cX2_append 9 = .ok (.aload_n 1, 1) := by decide +kernel
theorem dX2_append_10 : decode cX2_append 10 = .ok (.arraylength, 1) := by decide +kernel
theorem dX2_append_11 : decode cX2_append 11 = .ok (.iload_n 3, 1) := by decide +kernel
theorem dX2_append_12 : decode cX2_append 12 = .ok (.isub, 1) := by decide +kernel
theorem dX2_append_13 : decode cX2_append 13 = .ok (.if_icmp .gt 7, 3) := by decide +kernel
theorem dX2_append_16 : decode cX2_append 16 = .ok (.iconst 1, 1) := by decide +kernel
theorem dX2_append_17 : decode cX2_append 17 = .ok (.goto 4, 3) := by decide +kernel
theorem dX2_append_20 : decode cX2_append 20 = .ok (.iconst 0, 1) := by decide +kernel
theorem dX2_append_21 : decode cX2_append 21 = .ok (.istore 4, 2) := by decide +kernel
theorem dX2_append_23 : decode cX2_append 23 = .ok (.iload 4, 2) := by decide +kernel
theorem dX2_append_25 : decode cX2_append 25 = .ok (.ifCond .eq 29, 3) := by decide +kernel
theorem dX2_append_28 : decode cX2_append 28 = .ok (.aload_n 0, 1) := by decide +kernel
theorem dX2_append_29 : decode cX2_append 29 = .ok (.getfield 9, 3) := by decide +kernel
theorem dX2_append_32 : decode cX2_append 32 = .ok (.aload_n 0, 1) := by decide +kernel
theorem dX2_append_33 : decode cX2_append 33 = .ok (.getfield 21, 3) := by decide +kernel
theorem dX2_append_36 : decode cX2_append 36 = .ok (.arraylength, 1) := by decide +kernel
theorem dX2_append_37 : decode cX2_append 37 = .ok (.iload_n 3, 1) := by decide +kernel
theorem dX2_append_38 : decode cX2_append 38 = .ok (.isub, 1) := by decide +kernel
theorem dX2_append_39 : decode cX2_append 39 = .ok (.if_icmp .gt 15, 3) := by decide +kernel
theorem dX2_append_42 : decode cX2_append 42 = .ok (.aload_n 0, 1) := by decide +kernel
theorem dX2_append_43 : decode cX2_append 43 = .ok (.getfield 18, 3) := by decide +kernel
theorem dX2_append_46 : decode cX2_append 46 = .ok (.aload_n 0, 1) := by decide +kernel
theorem dX2_append_47 : decode cX2_append 47 = .ok (.getfield 34, 3) := by decide +kernel
theorem dX2_append_50 : decode cX2_append 50 = .ok (.arraylength, 1) := by decide +kernel
theorem dX2_append_51 : decode cX2_append 51 = .ok (.if_icmp .lt 5, 3) := by decide +kernel
theorem dX2_append_54 : decode cX2_append 54 = .ok (.aconst_null, 1) := by decide +kernel
theorem dX2_append_55 : decode cX2_append 55 = .ok (.areturn, 1) := by decide +kernel
theorem dX2_append_56 : decode cX2_append 56 = .ok (.aload_n 0, 1) := by decide +kernel
theorem dX2_append_57 : decode cX2_append 57 = .ok (.getfield 34, 3) := by decide +kernel
theorem dX2_append_60 : decode cX2_append 60 = .ok (.aload_n 0, 1) := by decide +kernel
theorem dX2_append_61 : decode cX2_append 61 = .ok (.getfield 18, 3) := by decide +kernel
theorem dX2_append_64 : decode cX2_append 64 = .ok (.aaload, 1) := by decide +kernel
theorem dX2_append_65 : decode cX2_append 65 = .ok (.ifnonnull 19, 3) := by decide +kernel
theorem dX2_append_68 : decode cX2_append 68 = .ok (.aload_n 0, 1) := by decide +kernel
theorem dX2_append_69 : decode cX2_append 69 = .ok (.getfield 34, 3) := by decide +kernel
theorem dX2_append_72 : decode cX2_append 72 = .ok (.aload_n 0, 1) := by decide +kernel
theorem dX2_append_73 : decode cX2_append 73 = .ok (.getfield 18, 3) := by decide +kernel
theorem dX2_append_76 : decode cX2_append 76 = .ok (.new 32, 3) := by decide +kernel
theorem dX2_append_79 : decode cX2_append 79 = .ok (.dup, 1) := by decide +kernel
theorem dX2_append_80 : decode cX2_append 80 = .ok (.invokespecial 126, 3) := by decide +kernel
theorem dX2_append_83 : decode cX2_append 83 = .ok (.aastore, 1) := by decide +kernel
theorem dX2_append_84 : decode cX2_append 84 = .ok (.aload_n 0, 1) := by decide +kernel
theorem dX2_append_85 : decode cX2_append 85 = .ok (.getfield 34, 3) := by decide +kernel
theorem dX2_append_88 : decode cX2_append 88 = .ok (.aload_n 0, 1) := by decide +kernel
theorem dX2_append_89 : decode cX2_append 89 = .ok (.getfield 18, 3) := by decide +kernel
theorem dX2_append_92 : decode cX2_append 92 = .ok (.aaload, 1) := by decide +kernel
theorem dX2_append_93 : decode cX2_append 93 = .ok (.astore 5, 2) := by decide +kernel
theorem dX2_append_95 : decode cX2_append 95 = .ok (.aload 5, 2) := by decide +kernel
theorem dX2_append_97 : decode cX2_append 97 = .ok (.aload_n 0, 1) := by decide +kernel
theorem dX2_append_98 : decode cX2_append 98 = .ok (.getfield 9, 3) := by decide +kernel
theorem dX2_append_101 : decode cX2_append 101 = .ok (.putfield 38, 3) := by decide +kernel
theorem dX2_append_104 : decode cX2_append 104 = .ok (.aload 5, 2) := by decide +kernel
theorem dX2_append_106 : decode cX2_append 106 = .ok (.iload_n 3, 1) := by decide +kernel
theorem dX2_append_107 : decode cX2_append 107 = .ok (.putfield 41, 3) := by decide +kernel
theorem dX2_append_110 : decode cX2_append 110 = .ok (.aload 5, 2) := by decide +kernel
theorem dX2_append_112 : decode cX2_append 112 = .ok (.aload_n 0, 1) := by decide +kernel
theorem dX2_append_113 : decode cX2_append 113 = .ok (.getfield 15, 3) := by decide +kernel
theorem dX2_append_116 : decode cX2_append 116 = .ok (.putfield 44, 3) := by decide +kernel
theorem dX2_append_119 : decode cX2_append 119 = .ok (.aload 5, 2) := by decide +kernel
theorem dX2_append_121 : decode cX2_append 121 = .ok (.iconst 0, 1) := by decide +kernel
theorem dX2_append_122 : decode cX2_append 122 = .ok (.putfield 47, 3) := by decide +kernel
theorem dX2_append_125 : decode cX2_append 125 = .ok (.iconst 0, 1) := by decide +kernel
theorem dX2_append_126 : decode cX2_append 126 = .ok (.istore 6, 2) := by decide +kernel
theorem dX2_append_128 : decode cX2_append 128 = .ok (.iload 6, 2) := by decide +kernel
theorem dX2_append_130 : decode cX2_append 130 = .ok (.iload_n 3, 1) := by decide +kernel
theorem dX2_append_131 : decode cX2_append 131 = .ok (.if_icmp .ge 40, 3) := by decide +kernel
theorem dX2_append_134 : decode cX2_append 134 = .ok (.aload_n 0, 1) := by decide +kernel
theorem dX2_append_135 : decode cX2_append 135 = .ok (.getfield 21, 3) := by decide +kernel
theorem dX2_append_138 : decode cX2_append 138 = .ok (.aload_n 0, 1) := by decide +kernel
theorem dX2_append_139 : decode cX2_append 139 = .ok (.getfield 9, 3) := by decide +kernel
theorem dX2_append_142 : decode cX2_append 142 = .ok (.iload 6, 2) := by decide +kernel
theorem dX2_append_144 : decode cX2_append 144 = .ok (.iadd, 1) := by decide +kernel
theorem dX2_append_145 : decode cX2_append 145 = .ok (.aload_n 1, 1) := by decide +kernel
theorem dX2_append_146 : decode cX2_append 146 = .ok (.iload_n 2, 1) := by decide +kernel
theorem dX2_append_147 : decode cX2_append 147 = .ok (.iload 6, 2) := by decide +kernel
theorem dX2_append_149 : decode cX2_append 149 = .ok (.iadd, 1) := by decide +kernel
theorem dX2_append_150 : decode cX2_append 150 = .ok (.laload, 1) := by decide +kernel
theorem dX2_append_151 : decode cX2_append 151 = .ok (.lastore, 1) := by decide +kernel
theorem dX2_append_152 : decode cX2_append 152 = .ok (.aload_n 0, 1) := by decide +kernel
theorem dX2_append_153 : decode cX2_append 153 = .ok (.getfield 25, 3) := by decide +kernel
theorem dX2_append_156 : decode cX2_append 156 = .ok (.aload_n 0, 1) := by decide +kernel
theorem dX2_append_157 : decode cX2_append 157 = .ok (.getfield 9, 3) := by decide +kernel
theorem dX2_append_160 : decode cX2_append 160 = .ok (.iload 6, 2) := by decide +kernel
theorem dX2_append_162 : decode cX2_append 162 = .ok (.iadd, 1) := by decide +kernel
theorem dX2_append_163 : decode cX2_append 163 = .ok (.iconst 0, 1) := by decide +kernel
theorem dX2_append_164 : decode cX2_append 164 = .ok (.bastore, 1) := by decide +kernel
theorem dX2_append_165 : decode cX2_append 165 = .ok (.iinc 6 1, 3) := by decide +kernel
theorem dX2_append_168 : decode cX2_append 168 = .ok (.goto (-40), 3) := by decide +kernel
theorem dX2_append_171 : decode cX2_append 171 = .ok (.aload_n 0, 1) := by decide +kernel
theorem dX2_append_172 : decode cX2_append 172 = .ok (.dup, 1) := by decide +kernel
theorem dX2_append_173 : decode cX2_append 173 = .ok (.getfield 9, 3) := by decide +kernel
theorem dX2_append_176 : decode cX2_append 176 = .ok (.iload_n 3, 1) := by decide +kernel
theorem dX2_append_177 : decode cX2_append 177 = .ok (.iadd, 1) := by decide +kernel
theorem dX2_append_178 : decode cX2_append 178 = .ok (.putfield 9, 3) := by decide +kernel
theorem dX2_append_181 : decode cX2_append 181 = .ok (.aload_n 0, 1) := by decide +kernel
theorem dX2_append_182 : decode cX2_append 182 = .ok (.dup, 1) := by decide +kernel
theorem dX2_append_183 : decode cX2_append 183 = .ok (.getfield 18, 3) := by decide +kernel
theorem dX2_append_186 : decode cX2_append 186 = .ok (.iconst 1, 1) := by decide +kernel
theorem dX2_append_187 : decode cX2_append 187 = .ok (.iadd, 1) := by decide +kernel
theorem dX2_append_188 : decode cX2_append 188 = .ok (.putfield 18, 3) := by decide +kernel
theorem dX2_append_191 : decode cX2_append 191 = .ok (.aload 5, 2) := by decide +kernel
theorem dX2_append_193 : decode cX2_append 193 = .ok (.areturn, 1) := by decide +kernel
theorem dX2_takeOver_0 : decode cX2_takeOver 0 = .ok (.iload_n 2, 1) := by decide +kernel
theorem dX2_takeOver_1 : decode cX2_takeOver 1 = .ok (.istore 4, 2) := by decide +kernel
theorem dX2_takeOver_3 : decode cX2_takeOver 3 = .ok (.iload 4, 2) := by decide +kernel
theorem dX2_takeOver_5 : decode cX2_takeOver 5 = .ok (.iload_n 3, 1) := by decide +kernel
theorem dX2_takeOver_6 : decode cX2_takeOver 6 = .ok (.if_icmp .ge 173, 3) := by decide +kernel
theorem dX2_takeOver_9 : decode cX2_takeOver 9 = .ok (.aload_n 1, 1) := by decide +kernel
theorem dX2_takeOver_10 : decode cX2_takeOver 10 = .ok (.iload 4, 2) := by decide +kernel
theorem dX2_takeOver_12 : decode cX2_takeOver 12 = .ok (.invokevirtual 70, 3) := by decide +kernel
theorem dX2_takeOver_15 : decode cX2_takeOver 15 = .ok (.astore 5, 2) := by decide +kernel
theorem dX2_takeOver_17 : decode cX2_takeOver 17 = .ok (.aload 5, 2) := by decide +kernel
theorem dX2_takeOver_19 : decode cX2_takeOver 19 = .ok (.ifnonnull 7, 3) := by decide +kernel
theorem dX2_takeOver_22 : decode cX2_takeOver 22 = .ok (.aconst_null, 1) := by decide +kernel
theorem dX2_takeOver_23 : decode cX2_takeOver 23 = .ok (.goto 21, 3) := by decide +kernel
theorem dX2_takeOver_26 : decode cX2_takeOver 26 = .ok (.aload_n 0, 1) := by decide +kernel
theorem dX2_takeOver_27 : decode cX2_takeOver 27 = .ok (.aload_n 1, 1) := by decide +kernel
theorem dX2_takeOver_28 : decode cX2_takeOver 28 = .ok (.getfield 21, 3) := by decide +kernel
theorem dX2_takeOver_31 : decode cX2_takeOver 31 = .ok (.aload 5, 2) := by decide +kernel
theorem dX2_takeOver_33 : decode cX2_takeOver 33 = .ok (.getfield 38, 3) := by decide +kernel
theorem dX2_takeOver_36 : decode cX2_takeOver 36 = .ok (.aload 5, 2) := by decide +kernel
theorem dX2_takeOver_38 : decode cX2_takeOver 38 = .ok (.getfield 41, 3) := by decide +kernel
theorem dX2_takeOver_41 : decode cX2_takeOver 41 = .ok (.invokevirtual 83, 3) := by decide +kernel
theorem dX2_takeOver_44 : decode cX2_takeOver 44 = .ok (.astore 6, 2) := by decide +kernel
theorem dX2_takeOver_46 : decode cX2_takeOver 46 = .ok (.aload 5, 2) := by decide +kernel
theorem dX2_takeOver_48 : decode cX2_takeOver 48 = .ok (.ifnull 8, 3) := by decide +kernel
theorem dX2_takeOver_51 : decode cX2_takeOver 51 = .ok (.aload 6, 2) := by decide +kernel
theorem dX2_takeOver_53 : decode cX2_takeOver 53 = .ok (.ifnonnull 4, 3) := by decide +kernel
theorem dX2_takeOver_56 : decode cX2_takeOver 56 = .ok (.return_, 1) := by decide +kernel
theorem dX2_takeOver_57 : decode cX2_takeOver 57 = .ok (.aload 6, 2) := by decide +kernel
theorem dX2_takeOver_59 : decode cX2_takeOver 59 = .ok (.aload 5, 2) := by decide +kernel
theorem dX2_takeOver_61 : decode cX2_takeOver 61 = .ok (.invokevirtual 127, 3) := by decide +kernel
theorem dX2_takeOver_64 : decode cX2_takeOver 64 = .ok (.iconst 0, 1) := by decide +kernel
theorem dX2_takeOver_65 : decode cX2_takeOver 65 = .ok (.istore 7, 2) := by decide +kernel
theorem dX2_takeOver_67 : decode cX2_takeOver 67 = .ok (.iload 7, 2) := by decide +kernel
theorem dX2_takeOver_69 : decode cX2_takeOver 69 = .ok (.aload 5, 2) := by decide +kernel
theorem dX2_takeOver_71 : decode cX2_takeOver 71 = .ok (.getfield 41, 3) := by decide +kernel
theorem dX2_takeOver_74 : decode cX2_takeOver 74 = .ok (.if_icmp .ge 30, 3) := by decide +kernel
theorem dX2_takeOver_77 : decode cX2_takeOver 77 = .ok (.aload_n 0, 1) := by decide +kernel
theorem dX2_takeOver_78 : decode cX2_takeOver 78 = .ok (.getfield 25, 3) := by decide +kernel
theorem dX2_takeOver_81 : decode cX2_takeOver 81 = .ok (.aload 6, 2) := by decide +kernel
theorem dX2_takeOver_83 : decode cX2_takeOver 83 = .ok (.getfield 38, 3) := by decide +kernel
theorem dX2_takeOver_86 : decode cX2_takeOver 86 = .ok (.iload 7, 2) := by decide +kernel
theorem dX2_takeOver_88 : decode cX2_takeOver 88 = .ok (.iadd, 1) := by decide +kernel
theorem dX2_takeOver_89 : decode cX2_takeOver 89 = .ok (.aload_n 1, 1) := by decide +kernel
theorem dX2_takeOver_90 : decode cX2_takeOver 90 = .ok (.aload 5, 2) := by decide +kernel
theorem dX2_takeOver_92 : decode cX2_takeOver 92 = .ok (.iload 7, 2) := by decide +kernel
theorem dX2_takeOver_94 : decode cX2_takeOver 94 = .ok (.invokevirtual 48, 3) := by decide +kernel
theorem dX2_takeOver_97 : decode cX2_takeOver 97 = .ok (.bastore, 1) := by decide +kernel
theorem dX2_takeOver_98 : decode cX2_takeOver 98 = .ok (.iinc 7 1, 3) := by decide +kernel
theorem dX2_takeOver_101 : decode cX2_takeOver 101 = .ok (.goto (-34), 3) := by decide +kernel
theorem dX2_takeOver_104 : decode cX2_takeOver 104 = .ok (.iconst 0, 1) := by decide +kernel
theorem dX2_takeOver_105 : decode cX2_takeOver 105 = .ok (.istore 7, 2) := by decide +kernel
theorem dX2_takeOver_107 : decode cX2_takeOver 107 = .ok (.iload 7, 2) := by decide +kernel
theorem dX2_takeOver_109 : decode cX2_takeOver 109 = .ok (.aload 5, 2) := by decide +kernel
theorem dX2_takeOver_111 : decode cX2_takeOver 111 = .ok (.getfield 47, 3) := by decide +kernel
theorem dX2_takeOver_114 : decode cX2_takeOver 114 = .ok (.if_icmp .ge 59, 3) := by decide +kernel
theorem dX2_takeOver_117 : decode cX2_takeOver 117 = .ok (.aload_n 0, 1) := by decide +kernel
theorem dX2_takeOver_118 : decode cX2_takeOver 118 = .ok (.getfield 15, 3) := by decide +kernel
theorem dX2_takeOver_121 : decode cX2_takeOver 121 = .ok (.aload_n 0, 1) := by decide +kernel
theorem dX2_takeOver_122 : decode cX2_takeOver 122 = .ok (.getfield 29, 3) := by decide +kernel
theorem dX2_takeOver_125 : decode cX2_takeOver 125 = .ok (.arraylength, 1) := by decide +kernel
theorem dX2_takeOver_126 : decode cX2_takeOver 126 = .ok (.if_icmp .ge 47, 3) := by decide +kernel
theorem dX2_takeOver_129 : decode cX2_takeOver 129 = .ok (.aload_n 0, 1) := by decide +kernel
theorem dX2_takeOver_130 : decode cX2_takeOver 130 = .ok (.getfield 29, 3) := by decide +kernel
theorem dX2_takeOver_133 : decode cX2_takeOver 133 = .ok (.aload_n 0, 1) := by decide +kernel
theorem dX2_takeOver_134 : decode cX2_takeOver 134 = .ok (.getfield 15, 3) := by decide +kernel
theorem dX2_takeOver_137 : decode cX2_takeOver 137 = .ok (.aload_n 1, 1) := by decide +kernel
theorem dX2_takeOver_138 : decode cX2_takeOver 138 = .ok (.aload 5, 2) := by decide +kernel
theorem dX2_takeOver_140 : decode cX2_takeOver 140 = .ok (.iload 7, 2) := by decide +kernel
theorem dX2_takeOver_142 : decode cX2_takeOver 142 = .ok (.invokevirtual 131, 3) := by decide +kernel
theorem dX2_takeOver_145 : decode cX2_takeOver 145 = .ok (.lastore, 1) := by decide +kernel
theorem dX2_takeOver_146 : decode cX2_takeOver 146 = .ok (.aload_n 0, 1) := by decide +kernel
theorem dX2_takeOver_147 : decode cX2_takeOver 147 = .ok (.dup, 1) := by decide +kernel
theorem dX2_takeOver_148 : decode cX2_takeOver 148 = .ok (.getfield 15, 3) := by decide +kernel
theorem dX2_takeOver_151 : decode cX2_takeOver 151 = .ok (.iconst 1, 1) := by decide +kernel
theorem dX2_takeOver_152 : decode cX2_takeOver 152 = .ok (.iadd, 1) := by decide +kernel
theorem dX2_takeOver_153 : decode cX2_takeOver 153 = .ok (.putfield 15, 3) := by decide +kernel
theorem dX2_takeOver_156 : decode cX2_takeOver 156 = .ok (.aload 6, 2) := by decide +kernel
theorem dX2_takeOver_158 : decode cX2_takeOver 158 = .ok (.dup, 1) := by decide +kernel
theorem dX2_takeOver_159 : decode cX2_takeOver 159 = .ok (.getfield 47, 3) := by decide +kernel
theorem dX2_takeOver_162 : decode cX2_takeOver 162 = .ok (.iconst 1, 1) := by decide +kernel
theorem dX2_takeOver_163 : decode cX2_takeOver 163 = .ok (.iadd, 1) := by decide +kernel
theorem dX2_takeOver_164 : decode cX2_takeOver 164 = .ok (.putfield 47, 3) := by decide +kernel
theorem dX2_takeOver_167 : decode cX2_takeOver 167 = .ok (.iinc 7 1, 3) := by decide +kernel
theorem dX2_takeOver_170 : decode cX2_takeOver 170 = .ok (.goto (-63), 3) := by decide +kernel
theorem dX2_takeOver_173 : decode cX2_takeOver 173 = .ok (.iinc 4 1, 3) := by decide +kernel
theorem dX2_takeOver_176 : decode cX2_takeOver 176 = .ok (.goto (-173), 3) := by decide +kernel
theorem dX2_takeOver_179 : decode cX2_takeOver 179 = .ok (.return_, 1) := by decide +kernel
theorem dX2_holds_0 : decode cX2_holds 0 = .ok (.iload_n 1, 1) := by decide +kernel
theorem dX2_holds_1 : decode cX2_holds 1 = .ok (.ifCond .lt 35, 3) := by decide +kernel
theorem dX2_holds_4 : decode cX2_holds 4 = .ok (.iload_n 1, 1) := by decide +kernel
theorem dX2_holds_5 : decode cX2_holds 5 = .ok (.aload_n 0, 1) := by decide +kernel
theorem dX2_holds_6 : decode cX2_holds 6 = .ok (.getfield 9, 3) := by decide +kernel
theorem dX2_holds_9 : decode cX2_holds 9 = .ok (.if_icmp .ge 27, 3) := by decide +kernel
theorem dX2_holds_12 : decode cX2_holds 12 = .ok (.aload_n 0, 1) := by decide +kernel
theorem dX2_holds_13 : decode cX2_holds 13 = .ok (.getfield 21, 3) := by decide +kernel
theorem dX2_holds_16 : decode cX2_holds 16 = .ok (.iload_n 1, 1) := by decide +kernel
theorem dX2_holds_17 : decode cX2_holds 17 = .ok (.laload, 1) := by decide +kernel
theorem dX2_holds_18 : decode cX2_holds 18 = .ok (.lload_n 2, 1) := by decide +kernel
theorem dX2_holds_19 : decode cX2_holds 19 = .ok (.lcmp, 1) := by decide +kernel
theorem dX2_holds_20 : decode cX2_holds 20 = .ok (.ifCond .ne 16, 3) := by decide +kernel
theorem dX2_holds_23 : decode cX2_holds 23 = .ok (.aload_n 0, 1) := by decide +kernel
theorem dX2_holds_24 : decode cX2_holds 24 = .ok (.getfield 25, 3) := by decide +kernel
theorem dX2_holds_27 : decode cX2_holds 27 = .ok (.iload_n 1, 1) := by decide +kernel
theorem dX2_holds_28 : decode cX2_holds 28 = .ok (.baload, 1) := by decide +kernel
theorem dX2_holds_29 : decode cX2_holds 29 = .ok (.ifCond .ne 7, 3) := by decide +kernel
theorem dX2_holds_32 : decode cX2_holds 32 = .ok (.iconst 1, 1) := by decide +kernel
theorem dX2_holds_33 : decode cX2_holds 33 = .ok (.goto 4, 3) := by decide +kernel
theorem dX2_holds_36 : decode cX2_holds 36 = .ok (.iconst 0, 1) := by decide +kernel
theorem dX2_holds_37 : decode cX2_holds 37 = .ok (.ireturn, 1) := by decide +kernel
theorem dX2_restore_0 : decode cX2_restore 0 = .ok (.iload_n 1, 1) := by decide +kernel
theorem dX2_restore_1 : decode cX2_restore 1 = .ok (.ifCond .lt 31, 3) := by decide +kernel
theorem dX2_restore_4 : decode cX2_restore 4 = .ok (.iload_n 1, 1) := by decide +kernel
theorem dX2_restore_5 : decode cX2_restore 5 = .ok (.aload_n 0, 1) := by decide +kernel
theorem dX2_restore_6 : decode cX2_restore 6 = .ok (.getfield 9, 3) := by decide +kernel
theorem dX2_restore_9 : decode cX2_restore 9 = .ok (.if_icmp .ge 23, 3) := by decide +kernel
theorem dX2_restore_12 : decode cX2_restore 12 = .ok (.aload_n 0, 1) := by decide +kernel
theorem dX2_restore_13 : decode cX2_restore 13 = .ok (.getfield 21, 3) := by decide +kernel
theorem dX2_restore_16 : decode cX2_restore 16 = .ok (.iload_n 1, 1) := by decide +kernel
theorem dX2_restore_17 : decode cX2_restore 17 = .ok (.laload, 1) := by decide +kernel
theorem dX2_restore_18 : decode cX2_restore 18 = .ok (.lload_n 2, 1) := by decide +kernel
theorem dX2_restore_19 : decode cX2_restore 19 = .ok (.lcmp, 1) := by decide +kernel
theorem dX2_restore_20 : decode cX2_restore 20 = .ok (.ifCond .ne 12, 3) := by decide +kernel
theorem dX2_restore_23 : decode cX2_restore 23 = .ok (.aload_n 0, 1) := by decide +kernel
theorem dX2_restore_24 : decode cX2_restore 24 = .ok (.getfield 25, 3) := by decide +kernel
theorem dX2_restore_27 : decode cX2_restore 27 = .ok (.iload_n 1, 1) := by decide +kernel
theorem dX2_restore_28 : decode cX2_restore 28 = .ok (.baload, 1) := by decide +kernel
theorem dX2_restore_29 : decode cX2_restore 29 = .ok (.ifCond .ne 5, 3) := by decide +kernel
theorem dX2_restore_32 : decode cX2_restore 32 = .ok (.iconst 0, 1) := by decide +kernel
theorem dX2_restore_33 : decode cX2_restore 33 = .ok (.ireturn, 1) := by decide +kernel
theorem dX2_restore_34 : decode cX2_restore 34 = .ok (.aload_n 0, 1) := by decide +kernel
theorem dX2_restore_35 : decode cX2_restore 35 = .ok (.getfield 25, 3) := by decide +kernel
theorem dX2_restore_38 : decode cX2_restore 38 = .ok (.iload_n 1, 1) := by decide +kernel
theorem dX2_restore_39 : decode cX2_restore 39 = .ok (.iconst 0, 1) := by decide +kernel
theorem dX2_restore_40 : decode cX2_restore 40 = .ok (.bastore, 1) := by decide +kernel
theorem dX2_restore_41 : decode cX2_restore 41 = .ok (.iconst 1, 1) := by decide +kernel
theorem dX2_restore_42 : decode cX2_restore 42 = .ok (.ireturn, 1) := by decide +kernel
theorem dX2_markDropped_0 : decode cX2_markDropped 0 = .ok (.iload_n 1, 1) := by decide +kernel
theorem dX2_markDropped_1 : decode cX2_markDropped 1 = .ok (.ifCond .lt 18, 3) := by decide +kernel
theorem dX2_markDropped_4 : decode cX2_markDropped 4 = .ok (.iload_n 1, 1) := by decide +kernel
theorem dX2_markDropped_5 : decode cX2_markDropped 5 = .ok (.aload_n 0, 1) := by decide +kernel
theorem dX2_markDropped_6 : decode cX2_markDropped 6 = .ok (.getfield 9, 3) := by decide +kernel
theorem dX2_markDropped_9 : decode cX2_markDropped 9 = .ok (.if_icmp .ge 10, 3) := by decide +kernel
theorem dX2_markDropped_12 : decode cX2_markDropped 12 = .ok (.aload_n 0, 1) := by decide +kernel
theorem dX2_markDropped_13 : decode cX2_markDropped 13 = .ok (.getfield 25, 3) := by decide +kernel
theorem dX2_markDropped_16 : decode cX2_markDropped 16 = .ok (.iload_n 1, 1) := by decide +kernel
theorem dX2_markDropped_17 : decode cX2_markDropped 17 = .ok (.iconst 1, 1) := by decide +kernel
theorem dX2_markDropped_18 : decode cX2_markDropped 18 = .ok (.bastore, 1) := by decide +kernel
theorem dX2_markDropped_19 : decode cX2_markDropped 19 = .ok (.return_, 1) := by decide +kernel
theorem dX2_putLate_0 : decode cX2_putLate 0 = .ok (.aload_n 0, 1) := by decide +kernel
theorem dX2_putLate_1 : decode cX2_putLate 1 = .ok (.iload_n 1, 1) := by decide +kernel
theorem dX2_putLate_2 : decode cX2_putLate 2 = .ok (.invokevirtual 70, 3) := by decide +kernel
theorem dX2_putLate_5 : decode cX2_putLate 5 = .ok (.astore 5, 2) := by decide +kernel
theorem dX2_putLate_7 : decode cX2_putLate 7 = .ok (.aload 5, 2) := by decide +kernel
theorem dX2_putLate_9 : decode cX2_putLate 9 = .ok (.ifnull 27, 3) := by decide +kernel
theorem dX2_putLate_12 : decode cX2_putLate 12 = .ok (.iload_n 2, 1) := by decide +kernel
theorem dX2_putLate_13 : decode cX2_putLate 13 = .ok (.ifCond .lt 23, 3) := by decide +kernel
theorem dX2_putLate_16 : decode cX2_putLate 16 = .ok (.iload_n 2, 1) := by decide +kernel
theorem dX2_putLate_17 : decode cX2_putLate 17 = .ok (.aload_n 0, 1) := by decide +kernel
theorem dX2_putLate_18 : decode cX2_putLate 18 = .ok (.getfield 15, 3) := by decide +kernel
theorem dX2_putLate_21 : decode cX2_putLate 21 = .ok (.if_icmp .gt 15, 3) := by decide +kernel
theorem dX2_putLate_24 : decode cX2_putLate 24 = .ok (.aload_n 0, 1) := by decide +kernel
theorem dX2_putLate_25 : decode cX2_putLate 25 = .ok (.getfield 15, 3) := by decide +kernel
theorem dX2_putLate_28 : decode cX2_putLate 28 = .ok (.aload_n 0, 1) := by decide +kernel
theorem dX2_putLate_29 : decode cX2_putLate 29 = .ok (.getfield 29, 3) := by decide +kernel
theorem dX2_putLate_32 : decode cX2_putLate 32 = .ok (.arraylength, 1) := by decide +kernel
theorem dX2_putLate_33 : decode cX2_putLate 33 = .ok (.if_icmp .lt 5, 3) := by decide +kernel
theorem dX2_putLate_36 : decode cX2_putLate 36 = .ok (.iconst 0, 1) := by decide +kernel
theorem dX2_putLate_37 : decode cX2_putLate 37 = .ok (.ireturn, 1) := by decide +kernel
theorem dX2_putLate_38 : decode cX2_putLate 38 = .ok (.aload_n 0, 1) := by decide +kernel
theorem dX2_putLate_39 : decode cX2_putLate 39 = .ok (.getfield 15, 3) := by decide +kernel
theorem dX2_putLate_42 : decode cX2_putLate 42 = .ok (.istore 6, 2) := by decide +kernel
theorem dX2_putLate_44 : decode cX2_putLate 44 = .ok (.iload 6, 2) := by decide +kernel
theorem dX2_putLate_46 : decode cX2_putLate 46 = .ok (.iload_n 2, 1) := by decide +kernel
theorem dX2_putLate_47 : decode cX2_putLate 47 = .ok (.if_icmp .le 25, 3) := by decide +kernel
theorem dX2_putLate_50 : decode cX2_putLate 50 = .ok (.aload_n 0, 1) := by decide +kernel
theorem dX2_putLate_51 : decode cX2_putLate 51 = .ok (.getfield 29, 3) := by decide +kernel
theorem dX2_putLate_54 : decode cX2_putLate 54 = .ok (.iload 6, 2) := by decide +kernel
theorem dX2_putLate_56 : decode cX2_putLate 56 = .ok (.aload_n 0, 1) := by decide +kernel
theorem dX2_putLate_57 : decode cX2_putLate 57 = .ok (.getfield 29, 3) := by decide +kernel
theorem dX2_putLate_60 : decode cX2_putLate 60 = .ok (.iload 6, 2) := by decide +kernel
theorem dX2_putLate_62 : decode cX2_putLate 62 = .ok (.iconst 1, 1) := by decide +kernel
theorem dX2_putLate_63 : decode cX2_putLate 63 = .ok (.isub, 1) := by decide +kernel
theorem dX2_putLate_64 : decode cX2_putLate 64 = .ok (.laload, 1) := by decide +kernel
theorem dX2_putLate_65 : decode cX2_putLate 65 = .ok (.lastore, 1) := by decide +kernel
theorem dX2_putLate_66 : decode cX2_putLate 66 = .ok (.iinc 6 (-1), 3) := by decide +kernel
theorem dX2_putLate_69 : decode cX2_putLate 69 = .ok (.goto (-25), 3) := by decide +kernel
theorem dX2_putLate_72 : decode cX2_putLate 72 = .ok (.aload_n 0, 1) := by decide +kernel
theorem dX2_putLate_73 : decode cX2_putLate 73 = .ok (.getfield 29, 3) := by decide +kernel
theorem dX2_putLate_76 : decode cX2_putLate 76 = .ok (.iload_n 2, 1) := by decide +kernel
theorem dX2_putLate_77 : decode cX2_putLate 77 = .ok (.lload_n 3, 1) := by decide +kernel
theorem dX2_putLate_78 : decode cX2_putLate 78 = .ok (.lastore, 1) := by decide +kernel
theorem dX2_putLate_79 : decode cX2_putLate 79 = .ok (.aload_n 0, 1) := by decide +kernel
theorem dX2_putLate_80 : decode cX2_putLate 80 = .ok (.dup, 1) := by decide +kernel
theorem dX2_putLate_81 : decode cX2_putLate 81 = .ok (.getfield 15, 3) := by decide +kernel
theorem dX2_putLate_84 : decode cX2_putLate 84 = .ok (.iconst 1, 1) := by decide +kernel
theorem dX2_putLate_85 : decode cX2_putLate 85 = .ok (.iadd, 1) := by decide +kernel
theorem dX2_putLate_86 : decode cX2_putLate 86 = .ok (.putfield 15, 3) := by decide +kernel
theorem dX2_putLate_89 : decode cX2_putLate 89 = .ok (.aload_n 0, 1) := by decide +kernel
theorem dX2_putLate_90 : decode cX2_putLate 90 = .ok (.iload_n 1, 1) := by decide +kernel
theorem dX2_putLate_91 : decode cX2_putLate 91 = .ok (.iconst 1, 1) := by decide +kernel
theorem dX2_putLate_92 : decode cX2_putLate 92 = .ok (.invokevirtual 134, 3) := by decide +kernel
theorem dX2_putLate_95 : decode cX2_putLate 95 = .ok (.aload 5, 2) := by decide +kernel
theorem dX2_putLate_97 : decode cX2_putLate 97 = .ok (.getfield 47, 3) := by decide +kernel
theorem dX2_putLate_100 : decode cX2_putLate 100 = .ok (.ireturn, 1) := by decide +kernel
theorem dX2_takeLate_0 : decode cX2_takeLate 0 = .ok (.iload_n 2, 1) := by decide +kernel
theorem dX2_takeLate_1 : decode cX2_takeLate 1 = .ok (.ifCond .lt 11, 3) := by decide +kernel
theorem dX2_takeLate_4 : decode cX2_takeLate 4 = .ok (.iload_n 2, 1) := by decide +kernel
theorem dX2_takeLate_5 : decode cX2_takeLate 5 = .ok (.aload_n 0, 1) := by decide +kernel
theorem dX2_takeLate_6 : decode cX2_takeLate 6 = .ok (.getfield 15, 3) := by decide +kernel
theorem dX2_takeLate_9 : decode cX2_takeLate 9 = .ok (.if_icmp .lt 4, 3) := by decide +kernel
theorem dX2_takeLate_12 : decode cX2_takeLate 12 = .ok (.return_, 1) := by decide +kernel
theorem dX2_takeLate_13 : decode cX2_takeLate 13 = .ok (.aload_n 0, 1) := by decide +kernel
theorem dX2_takeLate_14 : decode cX2_takeLate 14 = .ok (.dup, 1) := by decide +kernel
theorem dX2_takeLate_15 : decode cX2_takeLate 15 = .ok (.getfield 15, 3) := by decide +kernel
theorem dX2_takeLate_18 : decode cX2_takeLate 18 = .ok (.iconst 1, 1) := by decide +kernel
theorem dX2_takeLate_19 : decode cX2_takeLate 19 = .ok (.isub, 1) := by decide +kernel
theorem dX2_takeLate_20 : decode cX2_takeLate 20 = .ok (.putfield 15, 3) := by decide +kernel
theorem dX2_takeLate_23 : decode cX2_takeLate 23 = .ok (.iload_n 2, 1) := by decide +kernel
theorem dX2_takeLate_24 : decode cX2_takeLate 24 = .ok (.istore_n 3, 1) := by decide +kernel
theorem dX2_takeLate_25 : decode cX2_takeLate 25 = .ok (.iload_n 3, 1) := by decide +kernel
theorem dX2_takeLate_26 : decode cX2_takeLate 26 = .ok (.aload_n 0, 1) := by decide +kernel
theorem dX2_takeLate_27 : decode cX2_takeLate 27 = .ok (.getfield 15, 3) := by decide +kernel
theorem dX2_takeLate_30 : decode cX2_takeLate 30 = .ok (.if_icmp .ge 23, 3) := by decide +kernel
theorem dX2_takeLate_33 : decode cX2_takeLate 33 = .ok (.aload_n 0, 1) := by decide +kernel
theorem dX2_takeLate_34 : decode cX2_takeLate 34 = .ok (.getfield 29, 3) := by decide +kernel
theorem dX2_takeLate_37 : decode cX2_takeLate 37 = .ok (.iload_n 3, 1) := by decide +kernel
theorem dX2_takeLate_38 : decode cX2_takeLate 38 = .ok (.aload_n 0, 1) := by decide +kernel
theorem dX2_takeLate_39 : decode cX2_takeLate 39 = .ok (.getfield 29, 3) := by decide +kernel
theorem dX2_takeLate_42 : decode cX2_takeLate 42 = .ok (.iload_n 3, 1) := by decide +kernel
theorem dX2_takeLate_43 : decode cX2_takeLate 43 = .ok (.iconst 1, 1) := by decide +kernel
theorem dX2_takeLate_44 : decode cX2_takeLate 44 = .ok (.iadd, 1) := by decide +kernel
theorem dX2_takeLate_45 : decode cX2_takeLate 45 = .ok (.laload, 1) := by decide +kernel
theorem dX2_takeLate_46 : decode cX2_takeLate 46 = .ok (.lastore, 1) := by decide +kernel
theorem dX2_takeLate_47 : decode cX2_takeLate 47 = .ok (.iinc 3 1, 3) := by decide +kernel
theorem dX2_takeLate_50 : decode cX2_takeLate 50 = .ok (.goto (-25), 3) := by decide +kernel
theorem dX2_takeLate_53 : decode cX2_takeLate 53 = .ok (.aload_n 0, 1) := by decide +kernel
theorem dX2_takeLate_54 : decode cX2_takeLate 54 = .ok (.iload_n 1, 1) := by decide +kernel
theorem dX2_takeLate_55 : decode cX2_takeLate 55 = .ok (.iconst (-1), 1) := by decide +kernel
theorem dX2_takeLate_56 : decode cX2_takeLate 56 = .ok (.invokevirtual 134, 3) := by decide +kernel
theorem dX2_takeLate_59 : decode cX2_takeLate 59 = .ok (.return_, 1) := by decide +kernel
theorem dX2_changeLate_0 : decode cX2_changeLate 0 = .ok (.iload_n 1, 1) := by decide +kernel
theorem dX2_changeLate_1 : decode cX2_changeLate 1 = .ok (.istore_n 3, 1) := by decide +kernel
theorem dX2_changeLate_2 : decode cX2_changeLate 2 = .ok (.iload_n 3, 1) := by decide +kernel
theorem dX2_changeLate_3 : decode cX2_changeLate 3 = .ok (.aload_n 0, 1) := by decide +kernel
theorem dX2_changeLate_4 : decode cX2_changeLate 4 = .ok (.getfield 18, 3) := by decide +kernel
theorem dX2_changeLate_7 : decode cX2_changeLate 7 = .ok (.if_icmp .ge 61, 3) := by decide +kernel
theorem dX2_changeLate_10 : decode cX2_changeLate 10 = .ok (.aload_n 0, 1) := by decide +kernel
theorem dX2_changeLate_11 : decode cX2_changeLate 11 = .ok (.iload_n 3, 1) := by decide +kernel
theorem dX2_changeLate_12 : decode cX2_changeLate 12 = .ok (.invokevirtual 70, 3) := by decide +kernel
theorem dX2_changeLate_15 : decode cX2_changeLate 15 = .ok (.astore 4, 2) := by decide +kernel
theorem dX2_changeLate_17 : decode cX2_changeLate 17 = .ok (.aload 4, 2) := by decide +kernel
theorem dX2_changeLate_19 : decode cX2_changeLate 19 = .ok (.ifnull 43, 3) := by decide +kernel
theorem dX2_changeLate_22 : decode cX2_changeLate 22 = .ok (.aload 4, 2) := by decide +kernel
theorem dX2_changeLate_24 : decode cX2_changeLate 24 = .ok (.dup, 1) := by decide +kernel
theorem dX2_changeLate_25 : decode cX2_changeLate 25 = .ok (.getfield 47, 3) := by decide +kernel
theorem dX2_changeLate_28 : decode cX2_changeLate 28 = .ok (.iload_n 3, 1) := by decide +kernel
theorem dX2_changeLate_29 : decode cX2_changeLate 29 = .ok (.iload_n 1, 1) := by decide +kernel
theorem dX2_changeLate_30 : decode cX2_changeLate 30 = .ok (.if_icmp .ne 7, 3) := by decide +kernel
theorem dX2_changeLate_33 : decode cX2_changeLate 33 = .ok (.iload_n 2, 1) := by decide +kernel
theorem dX2_changeLate_34 : decode cX2_changeLate 34 = .ok (.goto 4, 3) := by decide +kernel
theorem dX2_changeLate_37 : decode cX2_changeLate 37 = .ok (.iconst 0, 1) := by decide +kernel
theorem dX2_changeLate_38 : decode cX2_changeLate 38 = .ok (.iadd, 1) := by decide +kernel
theorem dX2_changeLate_39 : decode cX2_changeLate 39 = .ok (.putfield 47, 3) := by decide +kernel
theorem dX2_changeLate_42 : decode cX2_changeLate 42 = .ok (.aload 4, 2) := by decide +kernel
theorem dX2_changeLate_44 : decode cX2_changeLate 44 = .ok (.dup, 1) := by decide +kernel
theorem dX2_changeLate_45 : decode cX2_changeLate 45 = .ok (.getfield 44, 3) := by decide +kernel
theorem dX2_changeLate_48 : decode cX2_changeLate 48 = .ok (.iload_n 3, 1) := by decide +kernel
theorem dX2_changeLate_49 : decode cX2_changeLate 49 = .ok (.iload_n 1, 1) := by decide +kernel
theorem dX2_changeLate_50 : decode cX2_changeLate 50 = .ok (.if_icmp .ne 7, 3) := by decide +kernel
theorem dX2_changeLate_53 : decode cX2_changeLate 53 = .ok (.iconst 0, 1) := by decide +kernel
theorem dX2_changeLate_54 : decode cX2_changeLate 54 = .ok (.goto 4, 3) := by decide +kernel
theorem dX2_changeLate_57 : decode cX2_changeLate 57 = .ok (.iload_n 2, 1) := by decide +kernel
theorem dX2_changeLate_58 : decode cX2_changeLate 58 = .ok (.iadd, 1) := by decide +kernel
theorem dX2_changeLate_59 : decode cX2_changeLate 59 = .ok (.putfield 44, 3) := by decide +kernel
theorem dX2_changeLate_62 : decode cX2_changeLate 62 = .ok (.iinc 3 1, 3) := by decide +kernel
theorem dX2_changeLate_65 : decode cX2_changeLate 65 = .ok (.goto (-63), 3) := by decide +kernel
theorem dX2_changeLate_68 : decode cX2_changeLate 68 = .ok (.return_, 1) := by decide +kernel
theorem dX3_init_0 : decode cX3_init 0 = .ok (.aload_n 0, 1) := by decide +kernel
theorem dX3_init_1 : decode cX3_init 1 = .ok (.invokespecial 3, 3) := by decide +kernel
theorem dX3_init_4 : decode cX3_init 4 = .ok (.aload_n 0, 1) := by decide +kernel
theorem dX3_init_5 : decode cX3_init 5 = .ok (.bipush 34, 2) := by decide +kernel
theorem dX3_init_7 : decode cX3_init 7 = .ok (.newarray .int, 2) := by decide +kernel
theorem dX3_init_9 : decode cX3_init 9 = .ok (.putfield 9, 3) := by decide +kernel
theorem dX3_init_12 : decode cX3_init 12 = .ok (.aload_n 0, 1) := by decide +kernel
theorem dX3_init_13 : decode cX3_init 13 = .ok (.iconst 0, 1) := by decide +kernel
theorem dX3_init_14 : decode cX3_init 14 = .ok (.putfield 15, 3) := by decide +kernel
theorem dX3_init_17 : decode cX3_init 17 = .ok (.aload_n 0, 1) := by decide +kernel
theorem dX3_init_18 : decode cX3_init 18 = .ok (.iconst 0, 1) := by decide +kernel
theorem dX3_init_19 : decode cX3_init 19 = .ok (.putfield 19, 3) := by decide +kernel
theorem dX3_init_22 : decode cX3_init 22 = .ok (.aload_n 0, 1) := by decide +kernel
theorem dX3_init_23 : decode cX3_init 23 = .ok (.iconst 0, 1) := by decide +kernel
theorem dX3_init_24 : decode cX3_init 24 = .ok (.putfield 22, 3) := by decide +kernel
theorem dX3_init_27 : decode cX3_init 27 = .ok (.aload_n 0, 1) := by decide +kernel
theorem dX3_init_28 : decode cX3_init 28 = .ok (.iconst 0, 1) := by decide +kernel
theorem dX3_init_29 : decode cX3_init 29 = .ok (.putfield 25, 3) := by decide +kernel
theorem dX3_init_32 : decode cX3_init 32 = .ok (.aload_n 0, 1) := by decide +kernel
theorem dX3_init_33 : decode cX3_init 33 = .ok (.iconst 0, 1) := by decide +kernel
theorem dX3_init_34 : decode cX3_init 34 = .ok (.putfield 28, 3) := by decide +kernel
theorem dX3_init_37 : decode cX3_init 37 = .ok (.aload_n 0, 1) := by decide +kernel
theorem dX3_init_38 : decode cX3_init 38 = .ok (.iconst 0, 1) := by decide +kernel
theorem dX3_init_39 : decode cX3_init 39 = .ok (.putfield 31, 3) := by decide +kernel
theorem dX3_init_42 : decode cX3_init 42 = .ok (.return_, 1) := by decide +kernel
theorem dX3_follow_0 : decode cX3_follow 0 = .ok (.aload_n 0, 1) := by decide +kernel
theorem dX3_follow_1 : decode cX3_follow 1 = .ok (.iconst 0, 1) := by decide +kernel
theorem dX3_follow_2 : decode cX3_follow 2 = .ok (.putfield 15, 3) := by decide +kernel
theorem dX3_follow_5 : decode cX3_follow 5 = .ok (.aload_n 0, 1) := by decide +kernel
theorem dX3_follow_6 : decode cX3_follow 6 = .ok (.iconst 0, 1) := by decide +kernel
theorem dX3_follow_7 : decode cX3_follow 7 = .ok (.putfield 19, 3) := by decide +kernel
theorem dX3_follow_10 : decode cX3_follow 10 = .ok (.aload_n 0, 1) := by decide +kernel
theorem dX3_follow_11 : decode cX3_follow 11 = .ok (.iconst 0, 1) := by decide +kernel
theorem dX3_follow_12 : decode cX3_follow 12 = .ok (.putfield 22, 3) := by decide +kernel
theorem dX3_follow_15 : decode cX3_follow 15 = .ok (.aload_n 0, 1) := by decide +kernel
theorem dX3_follow_16 : decode cX3_follow 16 = .ok (.iconst 0, 1) := by decide +kernel
theorem dX3_follow_17 : decode cX3_follow 17 = .ok (.putfield 25, 3) := by decide +kernel
theorem dX3_follow_20 : decode cX3_follow 20 = .ok (.iload 5, 2) := by decide +kernel
theorem dX3_follow_22 : decode cX3_follow 22 = .ok (.iconst 1, 1) := by decide +kernel
theorem dX3_follow_23 : decode cX3_follow 23 = .ok (.isub, 1) := by decide +kernel
theorem dX3_follow_24 : decode cX3_follow 24 = .ok (.istore 6, 2) := by decide +kernel
theorem dX3_follow_26 : decode cX3_follow 26 = .ok (.iload 6, 2) := by decide +kernel
theorem dX3_follow_28 : decode cX3_follow 28 = .ok (.ifCond .lt 35, 3) := by decide +kernel
theorem dX3_follow_31 : decode cX3_follow 31 = .ok (.iload 6, 2) := by decide +kernel
theorem dX3_follow_33 : decode cX3_follow 33 = .ok (.aload 4, 2) := by decide +kernel
theorem dX3_follow_35 : decode cX3_follow 35 = .ok (.arraylength, 1) := by decide +kernel
theorem dX3_follow_36 : decode cX3_follow 36 = .ok (.if_icmp .ge 27, 3) := by decide +kernel
theorem dX3_follow_39 : decode cX3_follow 39 = .ok (.aload_n 0, 1) := by decide +kernel
theorem dX3_follow_40 : decode cX3_follow 40 = .ok (.aload_n 0, 1) := by decide +kernel
theorem dX3_follow_41 : decode cX3_follow 41 = .ok (.aload 4, 2) := by decide +kernel
theorem dX3_follow_43 : decode cX3_follow 43 = .ok (.iload 6, 2) := by decide +kernel
theorem dX3_follow_45 : decode cX3_follow 45 = .ok (.aaload, 1) := by decide +kernel
theorem dX3_follow_46 : decode cX3_follow 46 = .ok (.aload_n 0, 1) := by decide +kernel
theorem dX3_follow_47 : decode cX3_follow 47 = .ok (.getfield 25, 3) := by decide +kernel
theorem dX3_follow_50 : decode cX3_follow 50 = .ok (.lload_n 1, 1) := by decide +kernel
theorem dX3_follow_51 : decode cX3_follow 51 = .ok (.invokevirtual 34, 3) := by decide +kernel
theorem dX3_follow_54 : decode cX3_follow 54 = .ok (.putfield 25, 3) := by decide +kernel
theorem dX3_follow_57 : decode cX3_follow 57 = .ok (.iinc 6 (-1), 3) := by decide +kernel
theorem dX3_follow_60 : decode cX3_follow 60 = .ok (.goto (-34), 3) := by decide +kernel
theorem dX3_follow_63 : decode cX3_follow 63 = .ok (.aload_n 0, 1) := by decide +kernel
theorem dX3_follow_64 : decode cX3_follow 64 = .ok (.aload_n 0, 1) := by decide +kernel
theorem dX3_follow_65 : decode cX3_follow 65 = .ok (.aload_n 3, 1) := by decide +kernel
theorem dX3_follow_66 : decode cX3_follow 66 = .ok (.aload_n 0, 1) := by decide +kernel
theorem dX3_follow_67 : decode cX3_follow 67 = .ok (.getfield 25, 3) := by decide +kernel
theorem dX3_follow_70 : decode cX3_follow 70 = .ok (.lload_n 1, 1) := by decide +kernel
theorem dX3_follow_71 : decode cX3_follow 71 = .ok (.invokevirtual 34, 3) := by decide +kernel
theorem dX3_follow_74 : decode cX3_follow 74 = .ok (.putfield 28, 3) := by decide +kernel
theorem dX3_follow_77 : decode cX3_follow 77 = .ok (.aload_n 0, 1) := by decide +kernel
theorem dX3_follow_78 : decode cX3_follow 78 = .ok (.dup, 1) := by decide +kernel
theorem dX3_follow_79 : decode cX3_follow 79 = .ok (.getfield 19, 3) := by decide +kernel
theorem dX3_follow_82 : decode cX3_follow 82 = .ok (.iconst 1, 1) := by decide +kernel
theorem dX3_follow_83 : decode cX3_follow 83 = .ok (.iadd, 1) := by decide +kernel
theorem dX3_follow_84 : decode cX3_follow 84 = .ok (.putfield 19, 3) := by decide +kernel
theorem dX3_follow_87 : decode cX3_follow 87 = .ok (.aload_n 3, 1) := by decide +kernel
theorem dX3_follow_88 : decode cX3_follow 88 = .ok (.aload_n 0, 1) := by decide +kernel
theorem dX3_follow_89 : decode cX3_follow 89 = .ok (.getfield 28, 3) := by decide +kernel
theorem dX3_follow_92 : decode cX3_follow 92 = .ok (.lload_n 1, 1) := by decide +kernel
theorem dX3_follow_93 : decode cX3_follow 93 = .ok (.invokevirtual 38, 3) := by decide +kernel
theorem dX3_follow_96 : decode cX3_follow 96 = .ok (.ifCond .eq 11, 3) := by decide +kernel
theorem dX3_follow_99 : decode cX3_follow 99 = .ok (.aload_n 0, 1) := by decide +kernel
theorem dX3_follow_100 : decode cX3_follow 100 = .ok (.iconst 1, 1) := by decide +kernel
theorem dX3_follow_101 : decode cX3_follow 101 = .ok (.putfield 22, 3) := by decide +kernel
theorem dX3_follow_104 : decode cX3_follow 104 = .ok (.goto 9, 3) := by decide +kernel
theorem dX3_follow_107 : decode cX3_follow 107 = .ok (.aload_n 0, 1) := by decide +kernel
theorem dX3_follow_108 : decode cX3_follow 108 = .ok (.aload_n 3, 1) := by decide +kernel
theorem dX3_follow_109 : decode cX3_follow 109 = .ok (.lload_n 1, 1) := by decide +kernel
theorem dX3_follow_110 : decode cX3_follow 110 = .ok (.invokevirtual 44, 3) := by decide +kernel
theorem dX3_follow_113 : decode cX3_follow 113 = .ok (.aload_n 0, 1) := by decide +kernel
theorem dX3_follow_114 : decode cX3_follow 114 = .ok (.aload_n 0, 1) := by decide +kernel
theorem dX3_follow_115 : decode cX3_follow 115 = .ok (.getfield 22, 3) := by decide +kernel
theorem dX3_follow_118 : decode cX3_follow 118 = .ok (.invokevirtual 48, 3) := by decide +kernel
theorem dX3_follow_121 : decode cX3_follow 121 = .ok (.return_, 1) := by decide +kernel
theorem dX3_tellsTheSame_0 : decode cX3_tellsTheSame 0 = .ok (.aload_n 0, 1) := by decide +kernel
theorem dX3_tellsTheSame_1 : decode cX3_tellsTheSame 1 = .ok (.getfield 15, 3) := by decide +kernel
theorem dX3_tellsTheSame_4 : decode cX3_tellsTheSame 4 = .ok (.aload_n 1, 1) := by decide +kernel
theorem dX3_tellsTheSame_5 : decode cX3_tellsTheSame 5 = .ok (.getfield 15, 3) := by decide +kernel
theorem dX3_tellsTheSame_8 : decode cX3_tellsTheSame 8 = .ok (.if_icmp .eq 5, 3) := by decide +kernel
theorem dX3_tellsTheSame_11 : decode cX3_tellsTheSame 11 = .ok (.iconst 0, 1) := by decide +kernel
theorem dX3_tellsTheSame_12 : decode cX3_tellsTheSame 12 = .ok (.ireturn, 1) := by decide +kernel
theorem dX3_tellsTheSame_13 : decode cX3_tellsTheSame 13 = .ok (.iconst 0, 1) := by decide +kernel
theorem dX3_tellsTheSame_14 : decode cX3_tellsTheSame 14 = .ok (.istore_n 2, 1) := by decide +kernel
theorem dX3_tellsTheSame_15 : decode cX3_tellsTheSame 15 = .ok (.iload_n 2, 1) := by decide +kernel
theorem dX3_tellsTheSame_16 : decode cX3_tellsTheSame 16 = .ok (.aload_n 0, 1) := by decide +kernel
theorem dX3_tellsTheSame_17 : decode cX3_tellsTheSame 17 = .ok (.getfield 15, 3) := by decide +kernel
theorem dX3_tellsTheSame_20 : decode cX3_tellsTheSame 20 = .ok (.if_icmp .ge 26, 3) := by decide +kernel
theorem dX3_tellsTheSame_23 : decode cX3_tellsTheSame 23 = .ok (.aload_n 0, 1) := by decide +kernel
theorem dX3_tellsTheSame_24 : decode cX3_tellsTheSame 24 = .ok (.getfield 9, 3) := by decide +kernel
theorem dX3_tellsTheSame_27 : decode cX3_tellsTheSame 27 = .ok (.iload_n 2, 1) := by decide +kernel
theorem dX3_tellsTheSame_28 : decode cX3_tellsTheSame 28 = .ok (.iaload, 1) := by decide +kernel
theorem dX3_tellsTheSame_29 : decode cX3_tellsTheSame 29 = .ok (.aload_n 1, 1) := by decide +kernel
theorem dX3_tellsTheSame_30 : decode cX3_tellsTheSame 30 = .ok (.getfield 9, 3) := by decide +kernel
theorem dX3_tellsTheSame_33 : decode cX3_tellsTheSame 33 = .ok (.iload_n 2, 1) := by decide +kernel
theorem dX3_tellsTheSame_34 : decode cX3_tellsTheSame 34 = .ok (.iaload, 1) := by decide +kernel
theorem dX3_tellsTheSame_35 : decode cX3_tellsTheSame 35 = .ok (.if_icmp .eq 5, 3) := by decide +kernel
theorem dX3_tellsTheSame_38 : decode cX3_tellsTheSame 38 = .ok (.iconst 0, 1) := by decide +kernel
theorem dX3_tellsTheSame_39 : decode cX3_tellsTheSame 39 = .ok (.ireturn, 1) := by decide +kernel
theorem dX3_tellsTheSame_40 : decode cX3_tellsTheSame 40 = .ok (.iinc 2 1, 3) := by decide +kernel
theorem dX3_tellsTheSame_43 : decode cX3_tellsTheSame 43 = .ok (.goto (-28), 3) := by decide +kernel
theorem dX3_tellsTheSame_46 : decode cX3_tellsTheSame 46 = .ok (.iconst 1, 1) := by decide +kernel
theorem dX3_tellsTheSame_47 : decode cX3_tellsTheSame 47 = .ok (.ireturn, 1) := by decide +kernel
theorem dX3_descend_0 : decode cX3_descend 0 = .ok (.aload_n 1, 1) := by decide +kernel
theorem dX3_descend_1 : decode cX3_descend 1 = .ok (.iload_n 2, 1) := by decide +kernel
theorem dX3_descend_2 : decode cX3_descend 2 = .ok (.invokevirtual 52, 3) := by decide +kernel
theorem dX3_descend_5 : decode cX3_descend 5 = .ok (.astore 5, 2) := by decide +kernel
theorem dX3_descend_7 : decode cX3_descend 7 = .ok (.aload 5, 2) := by decide +kernel
theorem dX3_descend_9 : decode cX3_descend 9 = .ok (.ifnonnull 5, 3) := by decide +kernel
theorem dX3_descend_12 : decode cX3_descend 12 = .ok (.iconst 0, 1) := by decide +kernel
theorem dX3_descend_13 : decode cX3_descend 13 = .ok (.ireturn, 1) := by decide +kernel
theorem dX3_descend_14 : decode cX3_descend 14 = .ok (.aload 5, 2) := by decide +kernel
theorem dX3_descend_16 : decode cX3_descend 16 = .ok (.lload_n 3, 1) := by decide +kernel
theorem dX3_descend_17 : decode cX3_descend 17 = .ok (.aload_n 1, 1) := by decide +kernel
theorem dX3_descend_18 : decode cX3_descend 18 = .ok (.aload 5, 2) := by decide +kernel
theorem dX3_descend_20 : decode cX3_descend 20 = .ok (.iconst 0, 1) := by decide +kernel
theorem dX3_descend_21 : decode cX3_descend 21 = .ok (.invokevirtual 56, 3) := by decide +kernel
theorem dX3_descend_24 : decode cX3_descend 24 = .ok (.lsub, 1) := by decide +kernel
theorem dX3_descend_25 : decode cX3_descend 25 = .ok (.invokevirtual 60, 3) := by decide +kernel
theorem dX3_descend_28 : decode cX3_descend 28 = .ok (.istore 6, 2) := by decide +kernel
theorem dX3_descend_30 : decode cX3_descend 30 = .ok (.iload 6, 2) := by decide +kernel
theorem dX3_descend_32 : decode cX3_descend 32 = .ok (.aload 5, 2) := by decide +kernel
theorem dX3_descend_34 : decode cX3_descend 34 = .ok (.getfield 66, 3) := by decide +kernel
theorem dX3_descend_37 : decode cX3_descend 37 = .ok (.iadd, 1) := by decide +kernel
theorem dX3_descend_38 : decode cX3_descend 38 = .ok (.aload 5, 2) := by decide +kernel
theorem dX3_descend_40 : decode cX3_descend 40 = .ok (.getfield 69, 3) := by decide +kernel
theorem dX3_descend_43 : decode cX3_descend 43 = .ok (.iconst 1, 1) := by decide +kernel
theorem dX3_descend_44 : decode cX3_descend 44 = .ok (.isub, 1) := by decide +kernel
theorem dX3_descend_45 : decode cX3_descend 45 = .ok (.invokestatic 70, 3) := by decide +kernel
theorem dX3_descend_48 : decode cX3_descend 48 = .ok (.istore 7, 2) := by decide +kernel
theorem dX3_descend_50 : decode cX3_descend 50 = .ok (.iconst 1, 1) := by decide +kernel
theorem dX3_descend_51 : decode cX3_descend 51 = .ok (.istore 8, 2) := by decide +kernel
theorem dX3_descend_53 : decode cX3_descend 53 = .ok (.iload 7, 2) := by decide +kernel
theorem dX3_descend_55 : decode cX3_descend 55 = .ok (.ifCond .le 56, 3) := by decide +kernel
theorem dX3_descend_58 : decode cX3_descend 58 = .ok (.iload 8, 2) := by decide +kernel
theorem dX3_descend_60 : decode cX3_descend 60 = .ok (.ifCond .eq 51, 3) := by decide +kernel
theorem dX3_descend_63 : decode cX3_descend 63 = .ok (.aload_n 0, 1) := by decide +kernel
theorem dX3_descend_64 : decode cX3_descend 64 = .ok (.dup, 1) := by decide +kernel
theorem dX3_descend_65 : decode cX3_descend 65 = .ok (.getfield 19, 3) := by decide +kernel
theorem dX3_descend_68 : decode cX3_descend 68 = .ok (.iconst 1, 1) := by decide +kernel
theorem dX3_descend_69 : decode cX3_descend 69 = .ok (.iadd, 1) := by decide +kernel
theorem dX3_descend_70 : decode cX3_descend 70 = .ok (.putfield 19, 3) := by decide +kernel
theorem dX3_descend_73 : decode cX3_descend 73 = .ok (.aload_n 1, 1) := by decide +kernel
theorem dX3_descend_74 : decode cX3_descend 74 = .ok (.aload 5, 2) := by decide +kernel
theorem dX3_descend_76 : decode cX3_descend 76 = .ok (.iload 7, 2) := by decide +kernel
theorem dX3_descend_78 : decode cX3_descend 78 = .ok (.invokevirtual 56, 3) := by decide +kernel
theorem dX3_descend_81 : decode cX3_descend 81 = .ok (.lload_n 3, 1) := by decide +kernel
theorem dX3_descend_82 : decode cX3_descend 82 = .ok (.lcmp, 1) := by decide +kernel
theorem dX3_descend_83 : decode cX3_descend 83 = .ok (.ifCond .le 7, 3) := by decide +kernel
theorem dX3_descend_86 : decode cX3_descend 86 = .ok (.iconst 1, 1) := by decide +kernel
theorem dX3_descend_87 : decode cX3_descend 87 = .ok (.goto 4, 3) := by decide +kernel
theorem dX3_descend_90 : decode cX3_descend 90 = .ok (.iconst 0, 1) := by decide +kernel
theorem dX3_descend_91 : decode cX3_descend 91 = .ok (.istore 8, 2) := by decide +kernel
theorem dX3_descend_93 : decode cX3_descend 93 = .ok (.iload 7, 2) := by decide +kernel
theorem dX3_descend_95 : decode cX3_descend 95 = .ok (.iload 8, 2) := by decide +kernel
theorem dX3_descend_97 : decode cX3_descend 97 = .ok (.ifCond .eq 7, 3) := by decide +kernel
theorem dX3_descend_100 : decode cX3_descend 100 = .ok (.iconst 1, 1) := by decide +kernel
theorem dX3_descend_101 : decode cX3_descend 101 = .ok (.goto 4, 3) := by decide +kernel
theorem dX3_descend_104 : decode cX3_descend 104 = .ok (.iconst 0, 1) := by decide +kernel
theorem dX3_descend_105 : decode cX3_descend 105 = .ok (.isub, 1) := by decide +kernel
theorem dX3_descend_106 : decode cX3_descend 106 = .ok (.istore 7, 2) := by decide +kernel
theorem dX3_descend_108 : decode cX3_descend 108 = .ok (.goto (-55), 3) := by decide +kernel
theorem dX3_descend_111 : decode cX3_descend 111 = .ok (.aload_n 0, 1) := by decide +kernel
theorem dX3_descend_112 : decode cX3_descend 112 = .ok (.iload_n 2, 1) := by decide +kernel
theorem dX3_descend_113 : decode cX3_descend 113 = .ok (.invokevirtual 48, 3) := by decide +kernel
theorem dX3_descend_116 : decode cX3_descend 116 = .ok (.aload_n 0, 1) := by decide +kernel
theorem dX3_descend_117 : decode cX3_descend 117 = .ok (.iload 6, 2) := by decide +kernel
theorem dX3_descend_119 : decode cX3_descend 119 = .ok (.invokevirtual 48, 3) := by decide +kernel
theorem dX3_descend_122 : decode cX3_descend 122 = .ok (.aload_n 0, 1) := by decide +kernel
theorem dX3_descend_123 : decode cX3_descend 123 = .ok (.iload 7, 2) := by decide +kernel
theorem dX3_descend_125 : decode cX3_descend 125 = .ok (.invokevirtual 48, 3) := by decide +kernel
theorem dX3_descend_128 : decode cX3_descend 128 = .ok (.aload 5, 2) := by decide +kernel
theorem dX3_descend_130 : decode cX3_descend 130 = .ok (.getfield 76, 3) := by decide +kernel
theorem dX3_descend_133 : decode cX3_descend 133 = .ok (.iload 7, 2) := by decide +kernel
theorem dX3_descend_135 : decode cX3_descend 135 = .ok (.iadd, 1) := by decide +kernel
theorem dX3_descend_136 : decode cX3_descend 136 = .ok (.ireturn, 1) := by decide +kernel
theorem dX3_seekLate_0 : decode cX3_seekLate 0 = .ok (.aload_n 1, 1) := by decide +kernel
theorem dX3_seekLate_1 : decode cX3_seekLate 1 = .ok (.aload_n 0, 1) := by decide +kernel
theorem dX3_seekLate_2 : decode cX3_seekLate 2 = .ok (.getfield 25, 3) := by decide +kernel
theorem dX3_seekLate_5 : decode cX3_seekLate 5 = .ok (.invokevirtual 52, 3) := by decide +kernel
theorem dX3_seekLate_8 : decode cX3_seekLate 8 = .ok (.astore 4, 2) := by decide +kernel
theorem dX3_seekLate_10 : decode cX3_seekLate 10 = .ok (.aload 4, 2) := by decide +kernel
theorem dX3_seekLate_12 : decode cX3_seekLate 12 = .ok (.ifnonnull 4, 3) := by decide +kernel
theorem dX3_seekLate_15 : decode cX3_seekLate 15 = .ok (.return_, 1) := by decide +kernel
theorem dX3_seekLate_16 : decode cX3_seekLate 16 = .ok (.aload 4, 2) := by decide +kernel
theorem dX3_seekLate_18 : decode cX3_seekLate 18 = .ok (.getfield 79, 3) := by decide +kernel
theorem dX3_seekLate_21 : decode cX3_seekLate 21 = .ok (.istore 5, 2) := by decide +kernel
theorem dX3_seekLate_23 : decode cX3_seekLate 23 = .ok (.iconst 1, 1) := by decide +kernel
theorem dX3_seekLate_24 : decode cX3_seekLate 24 = .ok (.istore 6, 2) := by decide +kernel
theorem dX3_seekLate_26 : decode cX3_seekLate 26 = .ok (.iload 5, 2) := by decide +kernel
theorem dX3_seekLate_28 : decode cX3_seekLate 28 = .ok (.ifCond .le 78, 3) := by decide +kernel
theorem dX3_seekLate_31 : decode cX3_seekLate 31 = .ok (.iload 6, 2) := by decide +kernel
theorem dX3_seekLate_33 : decode cX3_seekLate 33 = .ok (.ifCond .eq 73, 3) := by decide +kernel
theorem dX3_seekLate_36 : decode cX3_seekLate 36 = .ok (.aload_n 0, 1) := by decide +kernel
theorem dX3_seekLate_37 : decode cX3_seekLate 37 = .ok (.dup, 1) := by decide +kernel
theorem dX3_seekLate_38 : decode cX3_seekLate 38 = .ok (.getfield 19, 3) := by decide +kernel
theorem dX3_seekLate_41 : decode cX3_seekLate 41 = .ok (.iconst 1, 1) := by decide +kernel
theorem dX3_seekLate_42 : decode cX3_seekLate 42 = .ok (.iadd, 1) := by decide +kernel
theorem dX3_seekLate_43 : decode cX3_seekLate 43 = .ok (.putfield 19, 3) := by decide +kernel
theorem dX3_seekLate_46 : decode cX3_seekLate 46 = .ok (.aload_n 1, 1) := by decide +kernel
theorem dX3_seekLate_47 : decode cX3_seekLate 47 = .ok (.aload 4, 2) := by decide +kernel
theorem dX3_seekLate_49 : decode cX3_seekLate 49 = .ok (.iload 5, 2) := by decide +kernel
theorem dX3_seekLate_51 : decode cX3_seekLate 51 = .ok (.iconst 1, 1) := by decide +kernel
theorem dX3_seekLate_52 : decode cX3_seekLate 52 = .ok (.isub, 1) := by decide +kernel
theorem dX3_seekLate_53 : decode cX3_seekLate 53 = .ok (.invokevirtual 82, 3) := by decide +kernel
theorem dX3_seekLate_56 : decode cX3_seekLate 56 = .ok (.lstore 7, 2) := by decide +kernel
theorem dX3_seekLate_58 : decode cX3_seekLate 58 = .ok (.lload 7, 2) := by decide +kernel
theorem dX3_seekLate_60 : decode cX3_seekLate 60 = .ok (.lload_n 2, 1) := by decide +kernel
theorem dX3_seekLate_61 : decode cX3_seekLate 61 = .ok (.lcmp, 1) := by decide +kernel
theorem dX3_seekLate_62 : decode cX3_seekLate 62 = .ok (.ifCond .le 7, 3) := by decide +kernel
theorem dX3_seekLate_65 : decode cX3_seekLate 65 = .ok (.iconst 1, 1) := by decide +kernel
theorem dX3_seekLate_66 : decode cX3_seekLate 66 = .ok (.goto 4, 3) := by decide +kernel
theorem dX3_seekLate_69 : decode cX3_seekLate 69 = .ok (.iconst 0, 1) := by decide +kernel
theorem dX3_seekLate_70 : decode cX3_seekLate 70 = .ok (.istore 6, 2) := by decide +kernel
theorem dX3_seekLate_72 : decode cX3_seekLate 72 = .ok (.iload 5, 2) := by decide +kernel
theorem dX3_seekLate_74 : decode cX3_seekLate 74 = .ok (.iload 6, 2) := by decide +kernel
theorem dX3_seekLate_76 : decode cX3_seekLate 76 = .ok (.ifCond .eq 7, 3) := by decide +kernel
theorem dX3_seekLate_79 : decode cX3_seekLate 79 = .ok (.iconst 1, 1) := by decide +kernel
theorem dX3_seekLate_80 : decode cX3_seekLate 80 = .ok (.goto 4, 3) := by decide +kernel
theorem dX3_seekLate_83 : decode cX3_seekLate 83 = .ok (.iconst 0, 1) := by decide +kernel
theorem dX3_seekLate_84 : decode cX3_seekLate 84 = .ok (.isub, 1) := by decide +kernel
theorem dX3_seekLate_85 : decode cX3_seekLate 85 = .ok (.istore 5, 2) := by decide +kernel
theorem dX3_seekLate_87 : decode cX3_seekLate 87 = .ok (.aload_n 0, 1) := by decide +kernel
theorem dX3_seekLate_88 : decode cX3_seekLate 88 = .ok (.lload 7, 2) := by decide +kernel
theorem dX3_seekLate_90 : decode cX3_seekLate 90 = .ok (.lload_n 2, 1) := by decide +kernel
theorem dX3_seekLate_91 : decode cX3_seekLate 91 = .ok (.lcmp, 1) := by decide +kernel
theorem dX3_seekLate_92 : decode cX3_seekLate 92 = .ok (.ifCond .ne 7, 3) := by decide +kernel
theorem dX3_seekLate_95 : decode cX3_seekLate 95 = .ok (.iconst 1, 1) := by decide +kernel
theorem dX3_seekLate_96 : decode cX3_seekLate 96 = .ok (.goto 4, 3) := by decide +kernel
theorem dX3_seekLate_99 : decode cX3_seekLate 99 = .ok (.iconst 0, 1) := by decide +kernel
theorem dX3_seekLate_100 : decode cX3_seekLate 100 = .ok (.putfield 22, 3) := by decide +kernel
theorem dX3_seekLate_103 : decode cX3_seekLate 103 = .ok (.goto (-77), 3) := by decide +kernel
theorem dX3_seekLate_106 : decode cX3_seekLate 106 = .ok (.aload_n 0, 1) := by decide +kernel
theorem dX3_seekLate_107 : decode cX3_seekLate 107 = .ok (.aload 4, 2) := by decide +kernel
theorem dX3_seekLate_109 : decode cX3_seekLate 109 = .ok (.getfield 85, 3) := by decide +kernel
theorem dX3_seekLate_112 : decode cX3_seekLate 112 = .ok (.iload 5, 2) := by decide +kernel
theorem dX3_seekLate_114 : decode cX3_seekLate 114 = .ok (.iadd, 1) := by decide +kernel
theorem dX3_seekLate_115 : decode cX3_seekLate 115 = .ok (.putfield 31, 3) := by decide +kernel
theorem dX3_seekLate_118 : decode cX3_seekLate 118 = .ok (.return_, 1) := by decide +kernel
theorem dX3_tell_0 : decode cX3_tell 0 = .ok (.aload_n 0, 1) := by decide +kernel
theorem dX3_tell_1 : decode cX3_tell 1 = .ok (.getfield 15, 3) := by decide +kernel
theorem dX3_tell_4 : decode cX3_tell 4 = .ok (.aload_n 0, 1) := by decide +kernel
theorem dX3_tell_5 : decode cX3_tell 5 = .ok (.getfield 9, 3) := by decide +kernel
theorem dX3_tell_8 : decode cX3_tell 8 = .ok (.arraylength, 1) := by decide +kernel
theorem dX3_tell_9 : decode cX3_tell 9 = .ok (.if_icmp .ge 23, 3) := by decide +kernel
theorem dX3_tell_12 : decode cX3_tell 12 = .ok (.aload_n 0, 1) := by decide +kernel
theorem dX3_tell_13 : decode cX3_tell 13 = .ok (.getfield 9, 3) := by decide +kernel
theorem dX3_tell_16 : decode cX3_tell 16 = .ok (.aload_n 0, 1) := by decide +kernel
theorem dX3_tell_17 : decode cX3_tell 17 = .ok (.getfield 15, 3) := by decide +kernel
theorem dX3_tell_20 : decode cX3_tell 20 = .ok (.iload_n 1, 1) := by decide +kernel
theorem dX3_tell_21 : decode cX3_tell 21 = .ok (.iastore, 1) := by decide +kernel
theorem dX3_tell_22 : decode cX3_tell 22 = .ok (.aload_n 0, 1) := by decide +kernel
theorem dX3_tell_23 : decode cX3_tell 23 = .ok (.dup, 1) := by decide +kernel
theorem dX3_tell_24 : decode cX3_tell 24 = .ok (.getfield 15, 3) := by decide +kernel
theorem dX3_tell_27 : decode cX3_tell 27 = .ok (.iconst 1, 1) := by decide +kernel
theorem dX3_tell_28 : decode cX3_tell 28 = .ok (.iadd, 1) := by decide +kernel
theorem dX3_tell_29 : decode cX3_tell 29 = .ok (.putfield 15, 3) := by decide +kernel
theorem dX3_tell_32 : decode cX3_tell 32 = .ok (.return_, 1) := by decide +kernel
theorem dX4_init_0 : decode cX4_init 0 = .ok (.aload_n 0, 1) := by decide +kernel
theorem dX4_init_1 : decode cX4_init 1 = .ok (.invokespecial 5, 3) := by decide +kernel
theorem dX4_init_4 : decode cX4_init 4 = .ok (.aload_n 0, 1) := by decide +kernel
theorem dX4_init_5 : decode cX4_init 5 = .ok (.sipush 300, 3) := by decide +kernel
theorem dX4_init_8 : decode cX4_init 8 = .ok (.newarray .long, 2) := by decide +kernel
theorem dX4_init_10 : decode cX4_init 10 = .ok (.putfield 11, 3) := by decide +kernel
theorem dX4_init_13 : decode cX4_init 13 = .ok (.aload_n 0, 1) := by decide +kernel
theorem dX4_init_14 : decode cX4_init 14 = .ok (.iconst 0, 1) := by decide +kernel
theorem dX4_init_15 : decode cX4_init 15 = .ok (.putfield 15, 3) := by decide +kernel
theorem dX4_init_18 : decode cX4_init 18 = .ok (.aload_n 0, 1) := by decide +kernel
theorem dX4_init_19 : decode cX4_init 19 = .ok (.bipush 8, 2) := by decide +kernel
theorem dX4_init_21 : decode cX4_init 21 = .ok (.putfield 19, 3) := by decide +kernel
theorem dX4_init_24 : decode cX4_init 24 = .ok (.aload_n 0, 1) := by decide +kernel
theorem dX4_init_25 : decode cX4_init 25 = .ok (.new 22, 3) := by decide +kernel
theorem dX4_init_28 : decode cX4_init 28 = .ok (.dup, 1) := by decide +kernel
theorem dX4_init_29 : decode cX4_init 29 = .ok (.sipush 600, 3) := by decide +kernel
theorem dX4_init_32 : decode cX4_init 32 = .ok (.sipush 300, 3) := by decide +kernel
theorem dX4_init_35 : decode cX4_init 35 = .ok (.invokespecial 24, 3) := by decide +kernel
theorem dX4_init_38 : decode cX4_init 38 = .ok (.putfield 27, 3) := by decide +kernel
theorem dX4_init_41 : decode cX4_init 41 = .ok (.aload_n 0, 1) := by decide +kernel
theorem dX4_init_42 : decode cX4_init 42 = .ok (.new 22, 3) := by decide +kernel
theorem dX4_init_45 : decode cX4_init 45 = .ok (.dup, 1) := by decide +kernel
theorem dX4_init_46 : decode cX4_init 46 = .ok (.sipush 600, 3) := by decide +kernel
theorem dX4_init_49 : decode cX4_init 49 = .ok (.sipush 300, 3) := by decide +kernel
theorem dX4_init_52 : decode cX4_init 52 = .ok (.invokespecial 24, 3) := by decide +kernel
theorem dX4_init_55 : decode cX4_init 55 = .ok (.putfield 31, 3) := by decide +kernel
theorem dX4_init_58 : decode cX4_init 58 = .ok (.aload_n 0, 1) := by decide +kernel
theorem dX4_init_59 : decode cX4_init 59 = .ok (.bipush 10, 2) := by decide +kernel
theorem dX4_init_61 : decode cX4_init 61 = .ok (.anewarray 22, 3) := by decide +kernel
theorem dX4_init_64 : decode cX4_init 64 = .ok (.putfield 34, 3) := by decide +kernel
theorem dX4_init_67 : decode cX4_init 67 = .ok (.aload_n 0, 1) := by decide +kernel
theorem dX4_init_68 : decode cX4_init 68 = .ok (.iconst 0, 1) := by decide +kernel
theorem dX4_init_69 : decode cX4_init 69 = .ok (.putfield 38, 3) := by decide +kernel
theorem dX4_init_72 : decode cX4_init 72 = .ok (.aload_n 0, 1) := by decide +kernel
theorem dX4_init_73 : decode cX4_init 73 = .ok (.iconst 0, 1) := by decide +kernel
theorem dX4_init_74 : decode cX4_init 74 = .ok (.putfield 41, 3) := by decide +kernel
theorem dX4_init_77 : decode cX4_init 77 = .ok (.aload_n 0, 1) := by decide +kernel
theorem dX4_init_78 : decode cX4_init 78 = .ok (.iconst 0, 1) := by decide +kernel
theorem dX4_init_79 : decode cX4_init 79 = .ok (.putfield 44, 3) := by decide +kernel
theorem dX4_init_82 : decode cX4_init 82 = .ok (.aload_n 0, 1) := by decide +kernel
theorem dX4_init_83 : decode cX4_init 83 = .ok (.iconst 0, 1) := by decide +kernel
theorem dX4_init_84 : decode cX4_init 84 = .ok (.putfield 47, 3) := by decide +kernel
theorem dX4_init_87 : decode cX4_init 87 = .ok (.aload_n 0, 1) := by decide +kernel
theorem dX4_init_88 : decode cX4_init 88 = .ok (.new 50, 3) := by decide +kernel
theorem dX4_init_91 : decode cX4_init 91 = .ok (.dup, 1) := by decide +kernel
theorem dX4_init_92 : decode cX4_init 92 = .ok (.invokespecial 52, 3) := by decide +kernel
theorem dX4_init_95 : decode cX4_init 95 = .ok (.putfield 53, 3) := by decide +kernel
theorem dX4_init_98 : decode cX4_init 98 = .ok (.aload_n 0, 1) := by decide +kernel
theorem dX4_init_99 : decode cX4_init 99 = .ok (.new 50, 3) := by decide +kernel
theorem dX4_init_102 : decode cX4_init 102 = .ok (.dup, 1) := by decide +kernel
theorem dX4_init_103 : decode cX4_init 103 = .ok (.invokespecial 52, 3) := by decide +kernel
theorem dX4_init_106 : decode cX4_init 106 = .ok (.putfield 57, 3) := by decide +kernel
theorem dX4_init_109 : decode cX4_init 109 = .ok (.aload_n 0, 1) := by decide +kernel
theorem dX4_init_110 : decode cX4_init 110 = .ok (.new 60, 3) := by decide +kernel
theorem dX4_init_113 : decode cX4_init 113 = .ok (.dup, 1) := by decide +kernel
theorem dX4_init_114 : decode cX4_init 114 = .ok (.invokespecial 62, 3) := by decide +kernel
theorem dX4_init_117 : decode cX4_init 117 = .ok (.putfield 63, 3) := by decide +kernel
theorem dX4_init_120 : decode cX4_init 120 = .ok (.aload_n 0, 1) := by decide +kernel
theorem dX4_init_121 : decode cX4_init 121 = .ok (.sipush 600, 3) := by decide +kernel
theorem dX4_init_124 : decode cX4_init 124 = .ok (.newarray .long, 2) := by decide +kernel
theorem dX4_init_126 : decode cX4_init 126 = .ok (.putfield 67, 3) := by decide +kernel
theorem dX4_init_129 : decode cX4_init 129 = .ok (.sipush 600, 3) := by decide +kernel
theorem dX4_init_132 : decode cX4_init 132 = .ok (.istore_n 1, 1) := by decide +kernel
theorem dX4_init_133 : decode cX4_init 133 = .ok (.iconst 0, 1) := by decide +kernel
theorem dX4_init_134 : decode cX4_init 134 = .ok (.istore_n 2, 1) := by decide +kernel
theorem dX4_init_135 : decode cX4_init 135 = .ok (.iload_n 2, 1) := by decide +kernel
theorem dX4_init_136 : decode cX4_init 136 = .ok (.bipush 10, 2) := by decide +kernel
theorem dX4_init_138 : decode cX4_init 138 = .ok (.if_icmp .ge 30, 3) := by decide +kernel
theorem dX4_init_141 : decode cX4_init 141 = .ok (.aload_n 0, 1) := by decide +kernel
theorem dX4_init_142 : decode cX4_init 142 = .ok (.getfield 34, 3) := by decide +kernel
theorem dX4_init_145 : decode cX4_init 145 = .ok (.iload_n 2, 1) := by decide +kernel
theorem dX4_init_146 : decode cX4_init 146 = .ok (.new 22, 3) := by decide +kernel
theorem dX4_init_149 : decode cX4_init 149 = .ok (.dup, 1) := by decide +kernel
theorem dX4_init_150 : decode cX4_init 150 = .ok (.iload_n 1, 1) := by decide +kernel
theorem dX4_init_151 : decode cX4_init 151 = .ok (.iconst 0, 1) := by decide +kernel
theorem dX4_init_152 : decode cX4_init 152 = .ok (.invokespecial 24, 3) := by decide +kernel
theorem dX4_init_155 : decode cX4_init 155 = .ok (.aastore, 1) := by decide +kernel
theorem dX4_init_156 : decode cX4_init 156 = .ok (.iload_n 1, 1) := by decide +kernel
theorem dX4_init_157 : decode cX4_init 157 = .ok (.iconst 1, 1) := by decide +kernel
theorem dX4_init_158 : decode cX4_init 158 = .ok (.iadd, 1) := by decide +kernel
theorem dX4_init_159 : decode cX4_init 159 = .ok (.iconst 2, 1) := by decide +kernel
theorem dX4_init_160 : decode cX4_init 160 = .ok (.idiv, 1) := by decide +kernel
theorem dX4_init_161 : decode cX4_init 161 = .ok (.istore_n 1, 1) := by decide +kernel
theorem dX4_init_162 : decode cX4_init 162 = .ok (.iinc 2 1, 3) := by decide +kernel
theorem dX4_init_165 : decode cX4_init 165 = .ok (.goto (-30), 3) := by decide +kernel
theorem dX4_init_168 : decode cX4_init 168 = .ok (.return_, 1) := by decide +kernel
theorem dX4_load_0 : decode cX4_load 0 = .ok (.lload_n 1, 1) := by decide +kernel
theorem dX4_load_1 : decode cX4_load 1 = .ok (.invokestatic 70, 3) := by decide +kernel
theorem dX4_load_4 : decode cX4_load 4 = .ok (.ifCond .eq 11, 3) := by decide +kernel
theorem dX4_load_7 : decode cX4_load 7 = .ok (.aload_n 0, 1) := by decide +kernel
theorem dX4_load_8 : decode cX4_load 8 = .ok (.lload_n 1, 1) := by decide +kernel
theorem dX4_load_9 : decode cX4_load 9 = .ok (.invokevirtual 74, 3) := by decide +kernel
theorem dX4_load_12 : decode cX4_load 12 = .ok (.ifCond .ne 6, 3) := by decide +kernel
theorem dX4_load_15 : decode cX4_load 15 = .ok (.bipush (-2), 2) := by decide +kernel
theorem dX4_load_17 : decode cX4_load 17 = .ok (.ireturn, 1) := by decide +kernel
theorem dX4_load_18 : decode cX4_load 18 = .ok (.aload_n 0, 1) := by decide +kernel
theorem dX4_load_19 : decode cX4_load 19 = .ok (.getfield 15, 3) := by decide +kernel
theorem dX4_load_22 : decode cX4_load 22 = .ok (.sipush 300, 3) := by decide +kernel
theorem dX4_load_25 : decode cX4_load 25 = .ok (.if_icmp .lt 6, 3) := by decide +kernel
theorem dX4_load_28 : decode cX4_load 28 = .ok (.bipush (-3), 2) := by decide +kernel
theorem dX4_load_30 : decode cX4_load 30 = .ok (.ireturn, 1) := by decide +kernel
theorem dX4_load_31 : decode cX4_load 31 = .ok (.aload_n 0, 1) := by decide +kernel
theorem dX4_load_32 : decode cX4_load 32 = .ok (.getfield 11, 3) := by decide +kernel
theorem dX4_load_35 : decode cX4_load 35 = .ok (.aload_n 0, 1) := by decide +kernel
theorem dX4_load_36 : decode cX4_load 36 = .ok (.getfield 15, 3) := by decide +kernel
theorem dX4_load_39 : decode cX4_load 39 = .ok (.lload_n 1, 1) := by decide +kernel
theorem dX4_load_40 : decode cX4_load 40 = .ok (.lastore, 1) := by decide +kernel
theorem dX4_load_41 : decode cX4_load 41 = .ok (.aload_n 0, 1) := by decide +kernel
theorem dX4_load_42 : decode cX4_load 42 = .ok (.dup, 1) := by decide +kernel
theorem dX4_load_43 : decode cX4_load 43 = .ok (.getfield 15, 3) := by decide +kernel
theorem dX4_load_46 : decode cX4_load 46 = .ok (.iconst 1, 1) := by decide +kernel
theorem dX4_load_47 : decode cX4_load 47 = .ok (.iadd, 1) := by decide +kernel
theorem dX4_load_48 : decode cX4_load 48 = .ok (.putfield 15, 3) := by decide +kernel
theorem dX4_load_51 : decode cX4_load 51 = .ok (.aload_n 0, 1) := by decide +kernel
theorem dX4_load_52 : decode cX4_load 52 = .ok (.getfield 15, 3) := by decide +kernel
theorem dX4_load_55 : decode cX4_load 55 = .ok (.ireturn, 1) := by decide +kernel
theorem dX4_fill_0 : decode cX4_fill 0 = .ok (.iload 5, 2) := by decide +kernel
theorem dX4_fill_2 : decode cX4_fill 2 = .ok (.iconst 1, 1) := by decide +kernel
theorem dX4_fill_3 : decode cX4_fill 3 = .ok (.if_icmp .lt 24, 3) := by decide +kernel
theorem dX4_fill_6 : decode cX4_fill 6 = .ok (.lload_n 3, 1) := by decide +kernel
theorem dX4_fill_7 : decode cX4_fill 7 = .ok (.lconst 1, 1) := by decide +kernel
theorem dX4_fill_8 : decode cX4_fill 8 = .ok (.lcmp, 1) := by decide +kernel
theorem dX4_fill_9 : decode cX4_fill 9 = .ok (.ifCond .lt 18, 3) := by decide +kernel
theorem dX4_fill_12 : decode cX4_fill 12 = .ok (.lload_n 1, 1) := by decide +kernel
theorem dX4_fill_13 : decode cX4_fill 13 = .ok (.invokestatic 70, 3) := by decide +kernel
theorem dX4_fill_16 : decode cX4_fill 16 = .ok (.ifCond .eq 11, 3) := by decide +kernel
theorem dX4_fill_19 : decode cX4_fill 19 = .ok (.aload_n 0, 1) := by decide +kernel
theorem dX4_fill_20 : decode cX4_fill 20 = .ok (.lload_n 1, 1) := by decide +kernel
theorem dX4_fill_21 : decode cX4_fill 21 = .ok (.invokevirtual 74, 3) := by decide +kernel
theorem dX4_fill_24 : decode cX4_fill 24 = .ok (.ifCond .ne 6, 3) := by decide +kernel
theorem dX4_fill_27 : decode cX4_fill 27 = .ok (.bipush (-2), 2) := by decide +kernel
theorem dX4_fill_29 : decode cX4_fill 29 = .ok (.ireturn, 1) := by decide +kernel
theorem dX4_fill_30 : decode cX4_fill 30 = .ok (.iload 5, 2) := by decide +kernel
theorem dX4_fill_32 : decode cX4_fill 32 = .ok (.iconst 1, 1) := by decide +kernel
theorem dX4_fill_33 : decode cX4_fill 33 = .ok (.isub, 1) := by decide +kernel
theorem dX4_fill_34 : decode cX4_fill 34 = .ok (.i2l, 1) := by decide +kernel
theorem dX4_fill_35 : decode cX4_fill 35 = .ok (.ldc2_w 77, 3) := by decide +kernel
theorem dX4_fill_38 : decode cX4_fill 38 = .ok (.lload_n 1, 1) := by decide +kernel
theorem dX4_fill_39 : decode cX4_fill 39 = .ok (.lsub, 1) := by decide +kernel
theorem dX4_fill_40 : decode cX4_fill 40 = .ok (.lload_n 3, 1) := by decide +kernel
theorem dX4_fill_41 : decode cX4_fill 41 = .ok (.ldiv, 1) := by decide +kernel
theorem dX4_fill_42 : decode cX4_fill 42 = .ok (.lcmp, 1) := by decide +kernel
theorem dX4_fill_43 : decode cX4_fill 43 = .ok (.ifCond .le 6, 3) := by decide +kernel
theorem dX4_fill_46 : decode cX4_fill 46 = .ok (.bipush (-2), 2) := by decide +kernel
theorem dX4_fill_48 : decode cX4_fill 48 = .ok (.ireturn, 1) := by decide +kernel
theorem dX4_fill_49 : decode cX4_fill 49 = .ok (.iload 5, 2) := by decide +kernel
theorem dX4_fill_51 : decode cX4_fill 51 = .ok (.sipush 300, 3) := by decide +kernel
theorem dX4_fill_54 : decode cX4_fill 54 = .ok (.aload_n 0, 1) := by decide +kernel
theorem dX4_fill_55 : decode cX4_fill 55 = .ok (.getfield 15, 3) := by decide +kernel
theorem dX4_fill_58 : decode cX4_fill 58 = .ok (.isub, 1) := by decide +kernel
theorem dX4_fill_59 : decode cX4_fill 59 = .ok (.if_icmp .le 6, 3) := by decide +kernel
theorem dX4_fill_62 : decode cX4_fill 62 = .ok (.bipush (-3), 2) := by decide +kernel
theorem dX4_fill_64 : decode cX4_fill 64 = .ok (.ireturn, 1) := by decide +kernel
theorem dX4_fill_65 : decode cX4_fill 65 = .ok (.iconst 0, 1) := by decide +kernel
theorem dX4_fill_66 : decode cX4_fill 66 = .ok (.istore 6, 2) := by decide +kernel
theorem dX4_fill_68 : decode cX4_fill 68 = .ok (.iload 6, 2) := by decide +kernel
theorem dX4_fill_70 : decode cX4_fill 70 = .ok (.iload 5, 2) := by decide +kernel
theorem dX4_fill_72 : decode cX4_fill 72 = .ok (.if_icmp .ge 28, 3) := by decide +kernel
theorem dX4_fill_75 : decode cX4_fill 75 = .ok (.aload_n 0, 1) := by decide +kernel
theorem dX4_fill_76 : decode cX4_fill 76 = .ok (.getfield 11, 3) := by decide +kernel
theorem dX4_fill_79 : decode cX4_fill 79 = .ok (.aload_n 0, 1) := by decide +kernel
theorem dX4_fill_80 : decode cX4_fill 80 = .ok (.getfield 15, 3) := by decide +kernel
theorem dX4_fill_83 : decode cX4_fill 83 = .ok (.iload 6, 2) := by decide +kernel
theorem dX4_fill_85 : decode cX4_fill 85 = .ok (.iadd, 1) := by decide +kernel
theorem dX4_fill_86 : decode cX4_fill 86 = .ok (.lload_n 1, 1) := by decide +kernel
theorem dX4_fill_87 : decode cX4_fill 87 = .ok (.iload 6, 2) := by decide +kernel
theorem dX4_fill_89 : decode cX4_fill 89 = .ok (.i2l, 1) := by decide +kernel
theorem dX4_fill_90 : decode cX4_fill 90 = .ok (.lload_n 3, 1) := by decide +kernel
theorem dX4_fill_91 : decode cX4_fill 91 = .ok (.lmul, 1) := by decide +kernel
theorem dX4_fill_92 : decode cX4_fill 92 = .ok (.ladd, 1) := by decide +kernel
theorem dX4_fill_93 : decode cX4_fill 93 = .ok (.lastore, 1) := by decide +kernel
theorem dX4_fill_94 : decode cX4_fill 94 = .ok (.iinc 6 1, 3) := by decide +kernel
theorem dX4_fill_97 : decode cX4_fill 97 = .ok (.goto (-29), 3) := by decide +kernel
theorem dX4_fill_100 : decode cX4_fill 100 = .ok (.aload_n 0, 1) := by decide +kernel
theorem dX4_fill_101 : decode cX4_fill 101 = .ok (.dup, 1) := by decide +kernel
theorem dX4_fill_102 : decode cX4_fill 102 = .ok (.getfield 15, 3) := by decide +kernel
theorem dX4_fill_105 : decode cX4_fill 105 = .ok (.iload 5, 2) := by decide +kernel
theorem dX4_fill_107 : decode cX4_fill 107 = .ok (.iadd, 1) := by decide +kernel
theorem dX4_fill_108 : decode cX4_fill 108 = .ok (.putfield 15, 3) := by decide +kernel
