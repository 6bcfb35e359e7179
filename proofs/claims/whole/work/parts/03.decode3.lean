theorem dX7_sagBehindLast_48 : decode cX7_sagBehindLast 48 = .ok (.aload_n 0, 1) := by decide +kernel
theorem dX7_sagBehindLast_49 : decode cX7_sagBehindLast 49 = .ok (.getfield 41, 3) := by decide +kernel
theorem dX7_sagBehindLast_52 : decode cX7_sagBehindLast 52 = .ok (.iload 5, 2) := by decide +kernel
theorem dX7_sagBehindLast_54 : decode cX7_sagBehindLast 54 = .ok (.laload, 1) := by decide +kernel
theorem dX7_sagBehindLast_55 : decode cX7_sagBehindLast 55 = .ok (.lload_n 3, 1) := by decide +kernel
theorem dX7_sagBehindLast_56 : decode cX7_sagBehindLast 56 = .ok (.ladd, 1) := by decide +kernel
theorem dX7_sagBehindLast_57 : decode cX7_sagBehindLast 57 = .ok (.aload_n 0, 1) := by decide +kernel
theorem dX7_sagBehindLast_58 : decode cX7_sagBehindLast 58 = .ok (.iload 5, 2) := by decide +kernel
theorem dX7_sagBehindLast_60 : decode cX7_sagBehindLast 60 = .ok (.invokevirtual 223, 3) := by decide +kernel
theorem dX7_sagBehindLast_63 : decode cX7_sagBehindLast 63 = .ok (.aload_n 0, 1) := by decide +kernel
theorem dX7_sagBehindLast_64 : decode cX7_sagBehindLast 64 = .ok (.getfield 56, 3) := by decide +kernel
theorem dX7_sagBehindLast_67 : decode cX7_sagBehindLast 67 = .ok (.lmul, 1) := by decide +kernel
theorem dX7_sagBehindLast_68 : decode cX7_sagBehindLast 68 = .ok (.lsub, 1) := by decide +kernel
theorem dX7_sagBehindLast_69 : decode cX7_sagBehindLast 69 = .ok (.lastore, 1) := by decide +kernel
theorem dX7_sagBehindLast_70 : decode cX7_sagBehindLast 70 = .ok (.lload_n 3, 1) := by decide +kernel
theorem dX7_sagBehindLast_71 : decode cX7_sagBehindLast 71 = .ok (.aload_n 0, 1) := by decide +kernel
theorem dX7_sagBehindLast_72 : decode cX7_sagBehindLast 72 = .ok (.iload 5, 2) := by decide +kernel
theorem dX7_sagBehindLast_74 : decode cX7_sagBehindLast 74 = .ok (.invokevirtual 226, 3) := by decide +kernel
theorem dX7_sagBehindLast_77 : decode cX7_sagBehindLast 77 = .ok (.aload_n 0, 1) := by decide +kernel
theorem dX7_sagBehindLast_78 : decode cX7_sagBehindLast 78 = .ok (.getfield 56, 3) := by decide +kernel
theorem dX7_sagBehindLast_81 : decode cX7_sagBehindLast 81 = .ok (.lmul, 1) := by decide +kernel
theorem dX7_sagBehindLast_82 : decode cX7_sagBehindLast 82 = .ok (.lsub, 1) := by decide +kernel
theorem dX7_sagBehindLast_83 : decode cX7_sagBehindLast 83 = .ok (.lstore_n 3, 1) := by decide +kernel
theorem dX7_sagBehindLast_84 : decode cX7_sagBehindLast 84 = .ok (.iinc 5 1, 3) := by decide +kernel
theorem dX7_sagBehindLast_87 : decode cX7_sagBehindLast 87 = .ok (.goto (-72), 3) := by decide +kernel
theorem dX7_sagBehindLast_90 : decode cX7_sagBehindLast 90 = .ok (.return_, 1) := by decide +kernel
theorem dX7_rise_0 : decode cX7_rise 0 = .ok (.ldc2_w 229, 3) := by decide +kernel
theorem dX7_rise_3 : decode cX7_rise 3 = .ok (.aload_n 0, 1) := by decide +kernel
theorem dX7_rise_4 : decode cX7_rise 4 = .ok (.getfield 35, 3) := by decide +kernel
theorem dX7_rise_7 : decode cX7_rise 7 = .ok (.iload_n 1, 1) := by decide +kernel
theorem dX7_rise_8 : decode cX7_rise 8 = .ok (.laload, 1) := by decide +kernel
theorem dX7_rise_9 : decode cX7_rise 9 = .ok (.lmul, 1) := by decide +kernel
theorem dX7_rise_10 : decode cX7_rise 10 = .ok (.ldc2_w 148, 3) := by decide +kernel
theorem dX7_rise_13 : decode cX7_rise 13 = .ok (.aload_n 0, 1) := by decide +kernel
theorem dX7_rise_14 : decode cX7_rise 14 = .ok (.getfield 32, 3) := by decide +kernel
theorem dX7_rise_17 : decode cX7_rise 17 = .ok (.iload_n 1, 1) := by decide +kernel
theorem dX7_rise_18 : decode cX7_rise 18 = .ok (.laload, 1) := by decide +kernel
theorem dX7_rise_19 : decode cX7_rise 19 = .ok (.lmul, 1) := by decide +kernel
theorem dX7_rise_20 : decode cX7_rise 20 = .ok (.ladd, 1) := by decide +kernel
theorem dX7_rise_21 : decode cX7_rise 21 = .ok (.aload_n 0, 1) := by decide +kernel
theorem dX7_rise_22 : decode cX7_rise 22 = .ok (.getfield 22, 3) := by decide +kernel
theorem dX7_rise_25 : decode cX7_rise 25 = .ok (.iload_n 1, 1) := by decide +kernel
theorem dX7_rise_26 : decode cX7_rise 26 = .ok (.laload, 1) := by decide +kernel
theorem dX7_rise_27 : decode cX7_rise 27 = .ok (.aload_n 0, 1) := by decide +kernel
theorem dX7_rise_28 : decode cX7_rise 28 = .ok (.getfield 25, 3) := by decide +kernel
theorem dX7_rise_31 : decode cX7_rise 31 = .ok (.lmul, 1) := by decide +kernel
theorem dX7_rise_32 : decode cX7_rise 32 = .ok (.lsub, 1) := by decide +kernel
theorem dX7_rise_33 : decode cX7_rise 33 = .ok (.lreturn, 1) := by decide +kernel
theorem dX7_bending_0 : decode cX7_bending 0 = .ok (.ldc2_w 211, 3) := by decide +kernel
theorem dX7_bending_3 : decode cX7_bending 3 = .ok (.aload_n 0, 1) := by decide +kernel
theorem dX7_bending_4 : decode cX7_bending 4 = .ok (.getfield 35, 3) := by decide +kernel
theorem dX7_bending_7 : decode cX7_bending 7 = .ok (.iload_n 1, 1) := by decide +kernel
theorem dX7_bending_8 : decode cX7_bending 8 = .ok (.laload, 1) := by decide +kernel
theorem dX7_bending_9 : decode cX7_bending 9 = .ok (.lmul, 1) := by decide +kernel
theorem dX7_bending_10 : decode cX7_bending 10 = .ok (.ldc2_w 229, 3) := by decide +kernel
theorem dX7_bending_13 : decode cX7_bending 13 = .ok (.aload_n 0, 1) := by decide +kernel
theorem dX7_bending_14 : decode cX7_bending 14 = .ok (.getfield 32, 3) := by decide +kernel
theorem dX7_bending_17 : decode cX7_bending 17 = .ok (.iload_n 1, 1) := by decide +kernel
theorem dX7_bending_18 : decode cX7_bending 18 = .ok (.laload, 1) := by decide +kernel
theorem dX7_bending_19 : decode cX7_bending 19 = .ok (.lmul, 1) := by decide +kernel
theorem dX7_bending_20 : decode cX7_bending 20 = .ok (.ladd, 1) := by decide +kernel
theorem dX7_bending_21 : decode cX7_bending 21 = .ok (.ldc2_w 148, 3) := by decide +kernel
theorem dX7_bending_24 : decode cX7_bending 24 = .ok (.aload_n 0, 1) := by decide +kernel
theorem dX7_bending_25 : decode cX7_bending 25 = .ok (.getfield 22, 3) := by decide +kernel
theorem dX7_bending_28 : decode cX7_bending 28 = .ok (.iload_n 1, 1) := by decide +kernel
theorem dX7_bending_29 : decode cX7_bending 29 = .ok (.laload, 1) := by decide +kernel
theorem dX7_bending_30 : decode cX7_bending 30 = .ok (.lmul, 1) := by decide +kernel
theorem dX7_bending_31 : decode cX7_bending 31 = .ok (.aload_n 0, 1) := by decide +kernel
theorem dX7_bending_32 : decode cX7_bending 32 = .ok (.getfield 25, 3) := by decide +kernel
theorem dX7_bending_35 : decode cX7_bending 35 = .ok (.lmul, 1) := by decide +kernel
theorem dX7_bending_36 : decode cX7_bending 36 = .ok (.lsub, 1) := by decide +kernel
theorem dX7_bending_37 : decode cX7_bending 37 = .ok (.lreturn, 1) := by decide +kernel
theorem dX7_placeOfMostSag_0 : decode cX7_placeOfMostSag 0 = .ok (.iconst 0, 1) := by decide +kernel
theorem dX7_placeOfMostSag_1 : decode cX7_placeOfMostSag 1 = .ok (.istore_n 1, 1) := by decide +kernel
theorem dX7_placeOfMostSag_2 : decode cX7_placeOfMostSag 2 = .ok (.iconst 1, 1) := by decide +kernel
theorem dX7_placeOfMostSag_3 : decode cX7_placeOfMostSag 3 = .ok (.istore_n 2, 1) := by decide +kernel
theorem dX7_placeOfMostSag_4 : decode cX7_placeOfMostSag 4 = .ok (.iload_n 2, 1) := by decide +kernel
theorem dX7_placeOfMostSag_5 : decode cX7_placeOfMostSag 5 = .ok (.aload_n 0, 1) := by decide +kernel
theorem dX7_placeOfMostSag_6 : decode cX7_placeOfMostSag 6 = .ok (.getfield 78, 3) := by decide +kernel
theorem dX7_placeOfMostSag_9 : decode cX7_placeOfMostSag 9 = .ok (.if_icmp .gt 27, 3) := by decide +kernel
theorem dX7_placeOfMostSag_12 : decode cX7_placeOfMostSag 12 = .ok (.aload_n 0, 1) := by decide +kernel
theorem dX7_placeOfMostSag_13 : decode cX7_placeOfMostSag 13 = .ok (.getfield 41, 3) := by decide +kernel
theorem dX7_placeOfMostSag_16 : decode cX7_placeOfMostSag 16 = .ok (.iload_n 2, 1) := by decide +kernel
theorem dX7_placeOfMostSag_17 : decode cX7_placeOfMostSag 17 = .ok (.laload, 1) := by decide +kernel
theorem dX7_placeOfMostSag_18 : decode cX7_placeOfMostSag 18 = .ok (.aload_n 0, 1) := by decide +kernel
theorem dX7_placeOfMostSag_19 : decode cX7_placeOfMostSag 19 = .ok (.getfield 41, 3) := by decide +kernel
theorem dX7_placeOfMostSag_22 : decode cX7_placeOfMostSag 22 = .ok (.iload_n 1, 1) := by decide +kernel
theorem dX7_placeOfMostSag_23 : decode cX7_placeOfMostSag 23 = .ok (.laload, 1) := by decide +kernel
theorem dX7_placeOfMostSag_24 : decode cX7_placeOfMostSag 24 = .ok (.lcmp, 1) := by decide +kernel
theorem dX7_placeOfMostSag_25 : decode cX7_placeOfMostSag 25 = .ok (.ifCond .le 5, 3) := by decide +kernel
theorem dX7_placeOfMostSag_28 : decode cX7_placeOfMostSag 28 = .ok (.iload_n 2, 1) := by decide +kernel
theorem dX7_placeOfMostSag_29 : decode cX7_placeOfMostSag 29 = .ok (.istore_n 1, 1) := by decide +kernel
theorem dX7_placeOfMostSag_30 : decode cX7_placeOfMostSag 30 = .ok (.iinc 2 1, 3) := by decide +kernel
theorem dX7_placeOfMostSag_33 : decode cX7_placeOfMostSag 33 = .ok (.goto (-29), 3) := by decide +kernel
theorem dX7_placeOfMostSag_36 : decode cX7_placeOfMostSag 36 = .ok (.iload_n 1, 1) := by decide +kernel
theorem dX7_placeOfMostSag_37 : decode cX7_placeOfMostSag 37 = .ok (.ireturn, 1) := by decide +kernel
theorem dX8_init_0 : decode cX8_init 0 = .ok (.aload_n 0, 1) := by decide +kernel
theorem dX8_init_1 : decode cX8_init 1 = .ok (.invokespecial 5, 3) := by decide +kernel
theorem dX8_init_4 : decode cX8_init 4 = .ok (.aload_n 0, 1) := by decide +kernel
theorem dX8_init_5 : decode cX8_init 5 = .ok (.new 11, 3) := by decide +kernel
theorem dX8_init_8 : decode cX8_init 8 = .ok (.dup, 1) := by decide +kernel
theorem dX8_init_9 : decode cX8_init 9 = .ok (.invokespecial 13, 3) := by decide +kernel
theorem dX8_init_12 : decode cX8_init 12 = .ok (.putfield 14, 3) := by decide +kernel
theorem dX8_init_15 : decode cX8_init 15 = .ok (.aload_n 0, 1) := by decide +kernel
theorem dX8_init_16 : decode cX8_init 16 = .ok (.new 18, 3) := by decide +kernel
theorem dX8_init_19 : decode cX8_init 19 = .ok (.dup, 1) := by decide +kernel
theorem dX8_init_20 : decode cX8_init 20 = .ok (.invokespecial 20, 3) := by decide +kernel
theorem dX8_init_23 : decode cX8_init 23 = .ok (.putfield 21, 3) := by decide +kernel
theorem dX8_init_26 : decode cX8_init 26 = .ok (.aload_n 0, 1) := by decide +kernel
theorem dX8_init_27 : decode cX8_init 27 = .ok (.new 11, 3) := by decide +kernel
theorem dX8_init_30 : decode cX8_init 30 = .ok (.dup, 1) := by decide +kernel
theorem dX8_init_31 : decode cX8_init 31 = .ok (.invokespecial 13, 3) := by decide +kernel
theorem dX8_init_34 : decode cX8_init 34 = .ok (.putfield 25, 3) := by decide +kernel
theorem dX8_init_37 : decode cX8_init 37 = .ok (.aload_n 0, 1) := by decide +kernel
theorem dX8_init_38 : decode cX8_init 38 = .ok (.new 28, 3) := by decide +kernel
theorem dX8_init_41 : decode cX8_init 41 = .ok (.dup, 1) := by decide +kernel
theorem dX8_init_42 : decode cX8_init 42 = .ok (.invokespecial 30, 3) := by decide +kernel
theorem dX8_init_45 : decode cX8_init 45 = .ok (.putfield 31, 3) := by decide +kernel
theorem dX8_init_48 : decode cX8_init 48 = .ok (.aload_n 0, 1) := by decide +kernel
theorem dX8_init_49 : decode cX8_init 49 = .ok (.new 35, 3) := by decide +kernel
theorem dX8_init_52 : decode cX8_init 52 = .ok (.dup, 1) := by decide +kernel
theorem dX8_init_53 : decode cX8_init 53 = .ok (.invokespecial 37, 3) := by decide +kernel
theorem dX8_init_56 : decode cX8_init 56 = .ok (.putfield 38, 3) := by decide +kernel
theorem dX8_init_59 : decode cX8_init 59 = .ok (.aload_n 0, 1) := by decide +kernel
theorem dX8_init_60 : decode cX8_init 60 = .ok (.new 35, 3) := by decide +kernel
theorem dX8_init_63 : decode cX8_init 63 = .ok (.dup, 1) := by decide +kernel
theorem dX8_init_64 : decode cX8_init 64 = .ok (.invokespecial 37, 3) := by decide +kernel
theorem dX8_init_67 : decode cX8_init 67 = .ok (.putfield 42, 3) := by decide +kernel
theorem dX8_init_70 : decode cX8_init 70 = .ok (.aload_n 0, 1) := by decide +kernel
theorem dX8_init_71 : decode cX8_init 71 = .ok (.new 45, 3) := by decide +kernel
theorem dX8_init_74 : decode cX8_init 74 = .ok (.dup, 1) := by decide +kernel
theorem dX8_init_75 : decode cX8_init 75 = .ok (.invokespecial 47, 3) := by decide +kernel
theorem dX8_init_78 : decode cX8_init 78 = .ok (.putfield 48, 3) := by decide +kernel
theorem dX8_init_81 : decode cX8_init 81 = .ok (.aload_n 0, 1) := by decide +kernel
theorem dX8_init_82 : decode cX8_init 82 = .ok (.new 52, 3) := by decide +kernel
theorem dX8_init_85 : decode cX8_init 85 = .ok (.dup, 1) := by decide +kernel
theorem dX8_init_86 : decode cX8_init 86 = .ok (.invokespecial 54, 3) := by decide +kernel
theorem dX8_init_89 : decode cX8_init 89 = .ok (.putfield 55, 3) := by decide +kernel
theorem dX8_init_92 : decode cX8_init 92 = .ok (.aload_n 0, 1) := by decide +kernel
theorem dX8_init_93 : decode cX8_init 93 = .ok (.new 59, 3) := by decide +kernel
theorem dX8_init_96 : decode cX8_init 96 = .ok (.dup, 1) := by decide +kernel
theorem dX8_init_97 : decode cX8_init 97 = .ok (.invokespecial 61, 3) := by decide +kernel
theorem dX8_init_100 : decode cX8_init 100 = .ok (.putfield 62, 3) := by decide +kernel
theorem dX8_init_103 : decode cX8_init 103 = .ok (.return_, 1) := by decide +kernel
theorem dX8_beam_0 : decode cX8_beam 0 = .ok (.aload_n 0, 1) := by decide +kernel
theorem dX8_beam_1 : decode cX8_beam 1 = .ok (.getfield 14, 3) := by decide +kernel
theorem dX8_beam_4 : decode cX8_beam 4 = .ok (.iload_n 1, 1) := by decide +kernel
theorem dX8_beam_5 : decode cX8_beam 5 = .ok (.invokevirtual 66, 3) := by decide +kernel
theorem dX8_beam_8 : decode cX8_beam 8 = .ok (.ifCond .eq 5, 3) := by decide +kernel
theorem dX8_beam_11 : decode cX8_beam 11 = .ok (.iconst (-1), 1) := by decide +kernel
theorem dX8_beam_12 : decode cX8_beam 12 = .ok (.ireturn, 1) := by decide +kernel
theorem dX8_beam_13 : decode cX8_beam 13 = .ok (.aload_n 0, 1) := by decide +kernel
theorem dX8_beam_14 : decode cX8_beam 14 = .ok (.getfield 14, 3) := by decide +kernel
theorem dX8_beam_17 : decode cX8_beam 17 = .ok (.getfield 70, 3) := by decide +kernel
theorem dX8_beam_20 : decode cX8_beam 20 = .ok (.istore_n 2, 1) := by decide +kernel
theorem dX8_beam_21 : decode cX8_beam 21 = .ok (.aload_n 0, 1) := by decide +kernel
theorem dX8_beam_22 : decode cX8_beam 22 = .ok (.getfield 14, 3) := by decide +kernel
theorem dX8_beam_25 : decode cX8_beam 25 = .ok (.iload_n 1, 1) := by decide +kernel
theorem dX8_beam_26 : decode cX8_beam 26 = .ok (.invokevirtual 74, 3) := by decide +kernel
theorem dX8_beam_29 : decode cX8_beam 29 = .ok (.aload_n 0, 1) := by decide +kernel
theorem dX8_beam_30 : decode cX8_beam 30 = .ok (.getfield 21, 3) := by decide +kernel
theorem dX8_beam_33 : decode cX8_beam 33 = .ok (.invokevirtual 78, 3) := by decide +kernel
theorem dX8_beam_36 : decode cX8_beam 36 = .ok (.iload_n 2, 1) := by decide +kernel
theorem dX8_beam_37 : decode cX8_beam 37 = .ok (.ireturn, 1) := by decide +kernel
theorem dX8_support_0 : decode cX8_support 0 = .ok (.aload_n 0, 1) := by decide +kernel
theorem dX8_support_1 : decode cX8_support 1 = .ok (.getfield 14, 3) := by decide +kernel
theorem dX8_support_4 : decode cX8_support 4 = .ok (.iload_n 1, 1) := by decide +kernel
theorem dX8_support_5 : decode cX8_support 5 = .ok (.invokevirtual 81, 3) := by decide +kernel
theorem dX8_support_8 : decode cX8_support 8 = .ok (.istore_n 2, 1) := by decide +kernel
theorem dX8_support_9 : decode cX8_support 9 = .ok (.iload_n 2, 1) := by decide +kernel
theorem dX8_support_10 : decode cX8_support 10 = .ok (.ifCond .eq 5, 3) := by decide +kernel
theorem dX8_support_13 : decode cX8_support 13 = .ok (.iload_n 2, 1) := by decide +kernel
theorem dX8_support_14 : decode cX8_support 14 = .ok (.ireturn, 1) := by decide +kernel
theorem dX8_support_15 : decode cX8_support 15 = .ok (.aload_n 0, 1) := by decide +kernel
theorem dX8_support_16 : decode cX8_support 16 = .ok (.getfield 21, 3) := by decide +kernel
theorem dX8_support_19 : decode cX8_support 19 = .ok (.aload_n 0, 1) := by decide +kernel
theorem dX8_support_20 : decode cX8_support 20 = .ok (.getfield 14, 3) := by decide +kernel
theorem dX8_support_23 : decode cX8_support 23 = .ok (.invokevirtual 84, 3) := by decide +kernel
theorem dX8_support_26 : decode cX8_support 26 = .ok (.aload_n 0, 1) := by decide +kernel
theorem dX8_support_27 : decode cX8_support 27 = .ok (.getfield 14, 3) := by decide +kernel
theorem dX8_support_30 : decode cX8_support 30 = .ok (.iload_n 1, 1) := by decide +kernel
theorem dX8_support_31 : decode cX8_support 31 = .ok (.invokevirtual 88, 3) := by decide +kernel
theorem dX8_support_34 : decode cX8_support 34 = .ok (.ireturn, 1) := by decide +kernel
theorem dX8_drop_0 : decode cX8_drop 0 = .ok (.aload_n 0, 1) := by decide +kernel
theorem dX8_drop_1 : decode cX8_drop 1 = .ok (.getfield 14, 3) := by decide +kernel
theorem dX8_drop_4 : decode cX8_drop 4 = .ok (.iload_n 1, 1) := by decide +kernel
theorem dX8_drop_5 : decode cX8_drop 5 = .ok (.invokevirtual 91, 3) := by decide +kernel
theorem dX8_drop_8 : decode cX8_drop 8 = .ok (.istore_n 2, 1) := by decide +kernel
theorem dX8_drop_9 : decode cX8_drop 9 = .ok (.iload_n 2, 1) := by decide +kernel
theorem dX8_drop_10 : decode cX8_drop 10 = .ok (.ifCond .eq 5, 3) := by decide +kernel
theorem dX8_drop_13 : decode cX8_drop 13 = .ok (.iload_n 2, 1) := by decide +kernel
theorem dX8_drop_14 : decode cX8_drop 14 = .ok (.ireturn, 1) := by decide +kernel
theorem dX8_drop_15 : decode cX8_drop 15 = .ok (.aload_n 0, 1) := by decide +kernel
theorem dX8_drop_16 : decode cX8_drop 16 = .ok (.getfield 21, 3) := by decide +kernel
theorem dX8_drop_19 : decode cX8_drop 19 = .ok (.aload_n 0, 1) := by decide +kernel
theorem dX8_drop_20 : decode cX8_drop 20 = .ok (.getfield 14, 3) := by decide +kernel
theorem dX8_drop_23 : decode cX8_drop 23 = .ok (.invokevirtual 84, 3) := by decide +kernel
theorem dX8_drop_26 : decode cX8_drop 26 = .ok (.aload_n 0, 1) := by decide +kernel
theorem dX8_drop_27 : decode cX8_drop 27 = .ok (.getfield 14, 3) := by decide +kernel
theorem dX8_drop_30 : decode cX8_drop 30 = .ok (.aload_n 0, 1) := by decide +kernel
theorem dX8_drop_31 : decode cX8_drop 31 = .ok (.getfield 14, 3) := by decide +kernel
theorem dX8_drop_34 : decode cX8_drop 34 = .ok (.iload_n 1, 1) := by decide +kernel
theorem dX8_drop_35 : decode cX8_drop 35 = .ok (.invokevirtual 94, 3) := by decide +kernel
theorem dX8_drop_38 : decode cX8_drop 38 = .ok (.invokevirtual 97, 3) := by decide +kernel
theorem dX8_drop_41 : decode cX8_drop 41 = .ok (.ireturn, 1) := by decide +kernel
theorem dX8_hinge_0 : decode cX8_hinge 0 = .ok (.iload_n 2, 1) := by decide +kernel
theorem dX8_hinge_1 : decode cX8_hinge 1 = .ok (.ifCond .eq 10, 3) := by decide +kernel
theorem dX8_hinge_4 : decode cX8_hinge 4 = .ok (.iload_n 2, 1) := by decide +kernel
theorem dX8_hinge_5 : decode cX8_hinge 5 = .ok (.iconst 1, 1) := by decide +kernel
theorem dX8_hinge_6 : decode cX8_hinge 6 = .ok (.if_icmp .eq 5, 3) := by decide +kernel
theorem dX8_hinge_9 : decode cX8_hinge 9 = .ok (.iconst (-1), 1) := by decide +kernel
theorem dX8_hinge_10 : decode cX8_hinge 10 = .ok (.ireturn, 1) := by decide +kernel
theorem dX8_hinge_11 : decode cX8_hinge 11 = .ok (.aload_n 0, 1) := by decide +kernel
theorem dX8_hinge_12 : decode cX8_hinge 12 = .ok (.getfield 14, 3) := by decide +kernel
theorem dX8_hinge_15 : decode cX8_hinge 15 = .ok (.iload_n 1, 1) := by decide +kernel
theorem dX8_hinge_16 : decode cX8_hinge 16 = .ok (.invokevirtual 91, 3) := by decide +kernel
theorem dX8_hinge_19 : decode cX8_hinge 19 = .ok (.istore_n 3, 1) := by decide +kernel
theorem dX8_hinge_20 : decode cX8_hinge 20 = .ok (.iload_n 3, 1) := by decide +kernel
theorem dX8_hinge_21 : decode cX8_hinge 21 = .ok (.ifCond .eq 5, 3) := by decide +kernel
theorem dX8_hinge_24 : decode cX8_hinge 24 = .ok (.iload_n 3, 1) := by decide +kernel
theorem dX8_hinge_25 : decode cX8_hinge 25 = .ok (.ireturn, 1) := by decide +kernel
theorem dX8_hinge_26 : decode cX8_hinge 26 = .ok (.aload_n 0, 1) := by decide +kernel
theorem dX8_hinge_27 : decode cX8_hinge 27 = .ok (.getfield 21, 3) := by decide +kernel
theorem dX8_hinge_30 : decode cX8_hinge 30 = .ok (.aload_n 0, 1) := by decide +kernel
theorem dX8_hinge_31 : decode cX8_hinge 31 = .ok (.getfield 14, 3) := by decide +kernel
theorem dX8_hinge_34 : decode cX8_hinge 34 = .ok (.invokevirtual 84, 3) := by decide +kernel
theorem dX8_hinge_37 : decode cX8_hinge 37 = .ok (.aload_n 0, 1) := by decide +kernel
theorem dX8_hinge_38 : decode cX8_hinge 38 = .ok (.getfield 14, 3) := by decide +kernel
theorem dX8_hinge_41 : decode cX8_hinge 41 = .ok (.aload_n 0, 1) := by decide +kernel
theorem dX8_hinge_42 : decode cX8_hinge 42 = .ok (.getfield 14, 3) := by decide +kernel
theorem dX8_hinge_45 : decode cX8_hinge 45 = .ok (.iload_n 1, 1) := by decide +kernel
theorem dX8_hinge_46 : decode cX8_hinge 46 = .ok (.invokevirtual 94, 3) := by decide +kernel
theorem dX8_hinge_49 : decode cX8_hinge 49 = .ok (.iload_n 2, 1) := by decide +kernel
theorem dX8_hinge_50 : decode cX8_hinge 50 = .ok (.invokevirtual 100, 3) := by decide +kernel
theorem dX8_hinge_53 : decode cX8_hinge 53 = .ok (.ireturn, 1) := by decide +kernel
theorem dX8_point_0 : decode cX8_point 0 = .ok (.aload_n 0, 1) := by decide +kernel
theorem dX8_point_1 : decode cX8_point 1 = .ok (.getfield 14, 3) := by decide +kernel
theorem dX8_point_4 : decode cX8_point 4 = .ok (.iload_n 1, 1) := by decide +kernel
theorem dX8_point_5 : decode cX8_point 5 = .ok (.iload_n 2, 1) := by decide +kernel
theorem dX8_point_6 : decode cX8_point 6 = .ok (.invokevirtual 104, 3) := by decide +kernel
theorem dX8_point_9 : decode cX8_point 9 = .ok (.istore_n 3, 1) := by decide +kernel
theorem dX8_point_10 : decode cX8_point 10 = .ok (.iload_n 3, 1) := by decide +kernel
theorem dX8_point_11 : decode cX8_point 11 = .ok (.ifCond .eq 5, 3) := by decide +kernel
theorem dX8_point_14 : decode cX8_point 14 = .ok (.iload_n 3, 1) := by decide +kernel
theorem dX8_point_15 : decode cX8_point 15 = .ok (.ireturn, 1) := by decide +kernel
theorem dX8_point_16 : decode cX8_point 16 = .ok (.aload_n 0, 1) := by decide +kernel
theorem dX8_point_17 : decode cX8_point 17 = .ok (.getfield 21, 3) := by decide +kernel
theorem dX8_point_20 : decode cX8_point 20 = .ok (.aload_n 0, 1) := by decide +kernel
theorem dX8_point_21 : decode cX8_point 21 = .ok (.getfield 14, 3) := by decide +kernel
theorem dX8_point_24 : decode cX8_point 24 = .ok (.invokevirtual 84, 3) := by decide +kernel
theorem dX8_point_27 : decode cX8_point 27 = .ok (.aload_n 0, 1) := by decide +kernel
theorem dX8_point_28 : decode cX8_point 28 = .ok (.getfield 14, 3) := by decide +kernel
theorem dX8_point_31 : decode cX8_point 31 = .ok (.iload_n 1, 1) := by decide +kernel
theorem dX8_point_32 : decode cX8_point 32 = .ok (.iload_n 1, 1) := by decide +kernel
theorem dX8_point_33 : decode cX8_point 33 = .ok (.iload_n 2, 1) := by decide +kernel
theorem dX8_point_34 : decode cX8_point 34 = .ok (.iconst 1, 1) := by decide +kernel
theorem dX8_point_35 : decode cX8_point 35 = .ok (.invokevirtual 107, 3) := by decide +kernel
theorem dX8_point_38 : decode cX8_point 38 = .ok (.ireturn, 1) := by decide +kernel
theorem dX8_spread_0 : decode cX8_spread 0 = .ok (.aload_n 0, 1) := by decide +kernel
theorem dX8_spread_1 : decode cX8_spread 1 = .ok (.getfield 14, 3) := by decide +kernel
theorem dX8_spread_4 : decode cX8_spread 4 = .ok (.iload_n 1, 1) := by decide +kernel
theorem dX8_spread_5 : decode cX8_spread 5 = .ok (.iload_n 2, 1) := by decide +kernel
theorem dX8_spread_6 : decode cX8_spread 6 = .ok (.iload_n 3, 1) := by decide +kernel
theorem dX8_spread_7 : decode cX8_spread 7 = .ok (.invokevirtual 111, 3) := by decide +kernel
theorem dX8_spread_10 : decode cX8_spread 10 = .ok (.istore 4, 2) := by decide +kernel
theorem dX8_spread_12 : decode cX8_spread 12 = .ok (.iload 4, 2) := by decide +kernel
theorem dX8_spread_14 : decode cX8_spread 14 = .ok (.ifCond .eq 6, 3) := by decide +kernel
theorem dX8_spread_17 : decode cX8_spread 17 = .ok (.iload 4, 2) := by decide +kernel
theorem dX8_spread_19 : decode cX8_spread 19 = .ok (.ireturn, 1) := by decide +kernel
theorem dX8_spread_20 : decode cX8_spread 20 = .ok (.aload_n 0, 1) := by decide +kernel
theorem dX8_spread_21 : decode cX8_spread 21 = .ok (.getfield 21, 3) := by decide +kernel
theorem dX8_spread_24 : decode cX8_spread 24 = .ok (.aload_n 0, 1) := by decide +kernel
theorem dX8_spread_25 : decode cX8_spread 25 = .ok (.getfield 14, 3) := by decide +kernel
theorem dX8_spread_28 : decode cX8_spread 28 = .ok (.invokevirtual 84, 3) := by decide +kernel
theorem dX8_spread_31 : decode cX8_spread 31 = .ok (.aload_n 0, 1) := by decide +kernel
theorem dX8_spread_32 : decode cX8_spread 32 = .ok (.getfield 14, 3) := by decide +kernel
theorem dX8_spread_35 : decode cX8_spread 35 = .ok (.iload_n 1, 1) := by decide +kernel
theorem dX8_spread_36 : decode cX8_spread 36 = .ok (.iload_n 2, 1) := by decide +kernel
theorem dX8_spread_37 : decode cX8_spread 37 = .ok (.iload_n 3, 1) := by decide +kernel
theorem dX8_spread_38 : decode cX8_spread 38 = .ok (.iconst 0, 1) := by decide +kernel
theorem dX8_spread_39 : decode cX8_spread 39 = .ok (.invokevirtual 107, 3) := by decide +kernel
theorem dX8_spread_42 : decode cX8_spread 42 = .ok (.ireturn, 1) := by decide +kernel
theorem dX8_heavier_0 : decode cX8_heavier 0 = .ok (.aload_n 0, 1) := by decide +kernel
theorem dX8_heavier_1 : decode cX8_heavier 1 = .ok (.getfield 14, 3) := by decide +kernel
theorem dX8_heavier_4 : decode cX8_heavier 4 = .ok (.iload_n 1, 1) := by decide +kernel
theorem dX8_heavier_5 : decode cX8_heavier 5 = .ok (.invokevirtual 115, 3) := by decide +kernel
theorem dX8_heavier_8 : decode cX8_heavier 8 = .ok (.ifCond .eq 10, 3) := by decide +kernel
theorem dX8_heavier_11 : decode cX8_heavier 11 = .ok (.iload_n 2, 1) := by decide +kernel
theorem dX8_heavier_12 : decode cX8_heavier 12 = .ok (.invokestatic 119, 3) := by decide +kernel
theorem dX8_heavier_15 : decode cX8_heavier 15 = .ok (.ifCond .ne 5, 3) := by decide +kernel
theorem dX8_heavier_18 : decode cX8_heavier 18 = .ok (.iconst (-1), 1) := by decide +kernel
theorem dX8_heavier_19 : decode cX8_heavier 19 = .ok (.ireturn, 1) := by decide +kernel
theorem dX8_heavier_20 : decode cX8_heavier 20 = .ok (.aload_n 0, 1) := by decide +kernel
theorem dX8_heavier_21 : decode cX8_heavier 21 = .ok (.getfield 21, 3) := by decide +kernel
theorem dX8_heavier_24 : decode cX8_heavier 24 = .ok (.aload_n 0, 1) := by decide +kernel
theorem dX8_heavier_25 : decode cX8_heavier 25 = .ok (.getfield 14, 3) := by decide +kernel
theorem dX8_heavier_28 : decode cX8_heavier 28 = .ok (.invokevirtual 84, 3) := by decide +kernel
theorem dX8_heavier_31 : decode cX8_heavier 31 = .ok (.aload_n 0, 1) := by decide +kernel
theorem dX8_heavier_32 : decode cX8_heavier 32 = .ok (.getfield 14, 3) := by decide +kernel
theorem dX8_heavier_35 : decode cX8_heavier 35 = .ok (.getfield 122, 3) := by decide +kernel
theorem dX8_heavier_38 : decode cX8_heavier 38 = .ok (.iload_n 1, 1) := by decide +kernel
theorem dX8_heavier_39 : decode cX8_heavier 39 = .ok (.iaload, 1) := by decide +kernel
theorem dX8_heavier_40 : decode cX8_heavier 40 = .ok (.istore_n 3, 1) := by decide +kernel
theorem dX8_heavier_41 : decode cX8_heavier 41 = .ok (.aload_n 0, 1) := by decide +kernel
theorem dX8_heavier_42 : decode cX8_heavier 42 = .ok (.getfield 14, 3) := by decide +kernel
theorem dX8_heavier_45 : decode cX8_heavier 45 = .ok (.getfield 122, 3) := by decide +kernel
theorem dX8_heavier_48 : decode cX8_heavier 48 = .ok (.iload_n 1, 1) := by decide +kernel
theorem dX8_heavier_49 : decode cX8_heavier 49 = .ok (.iload_n 2, 1) := by decide +kernel
theorem dX8_heavier_50 : decode cX8_heavier 50 = .ok (.iastore, 1) := by decide +kernel
theorem dX8_heavier_51 : decode cX8_heavier 51 = .ok (.iload_n 3, 1) := by decide +kernel
theorem dX8_heavier_52 : decode cX8_heavier 52 = .ok (.ireturn, 1) := by decide +kernel
theorem dX8_lift_0 : decode cX8_lift 0 = .ok (.aload_n 0, 1) := by decide +kernel
theorem dX8_lift_1 : decode cX8_lift 1 = .ok (.getfield 14, 3) := by decide +kernel
theorem dX8_lift_4 : decode cX8_lift 4 = .ok (.iload_n 1, 1) := by decide +kernel
theorem dX8_lift_5 : decode cX8_lift 5 = .ok (.invokevirtual 115, 3) := by decide +kernel
theorem dX8_lift_8 : decode cX8_lift 8 = .ok (.ifCond .ne 5, 3) := by decide +kernel
theorem dX8_lift_11 : decode cX8_lift 11 = .ok (.iconst (-1), 1) := by decide +kernel
theorem dX8_lift_12 : decode cX8_lift 12 = .ok (.ireturn, 1) := by decide +kernel
theorem dX8_lift_13 : decode cX8_lift 13 = .ok (.aload_n 0, 1) := by decide +kernel
theorem dX8_lift_14 : decode cX8_lift 14 = .ok (.getfield 21, 3) := by decide +kernel
theorem dX8_lift_17 : decode cX8_lift 17 = .ok (.aload_n 0, 1) := by decide +kernel
theorem dX8_lift_18 : decode cX8_lift 18 = .ok (.getfield 14, 3) := by decide +kernel
theorem dX8_lift_21 : decode cX8_lift 21 = .ok (.invokevirtual 84, 3) := by decide +kernel
theorem dX8_lift_24 : decode cX8_lift 24 = .ok (.aload_n 0, 1) := by decide +kernel
theorem dX8_lift_25 : decode cX8_lift 25 = .ok (.getfield 14, 3) := by decide +kernel
theorem dX8_lift_28 : decode cX8_lift 28 = .ok (.iload_n 1, 1) := by decide +kernel
theorem dX8_lift_29 : decode cX8_lift 29 = .ok (.invokevirtual 126, 3) := by decide +kernel
theorem dX8_lift_32 : decode cX8_lift 32 = .ok (.ireturn, 1) := by decide +kernel
theorem dX8_axle_0 : decode cX8_axle 0 = .ok (.aload_n 0, 1) := by decide +kernel
theorem dX8_axle_1 : decode cX8_axle 1 = .ok (.getfield 14, 3) := by decide +kernel
theorem dX8_axle_4 : decode cX8_axle 4 = .ok (.iload_n 1, 1) := by decide +kernel
theorem dX8_axle_5 : decode cX8_axle 5 = .ok (.iload_n 2, 1) := by decide +kernel
theorem dX8_axle_6 : decode cX8_axle 6 = .ok (.invokevirtual 129, 3) := by decide +kernel
theorem dX8_axle_9 : decode cX8_axle 9 = .ok (.istore_n 3, 1) := by decide +kernel
theorem dX8_axle_10 : decode cX8_axle 10 = .ok (.iload_n 3, 1) := by decide +kernel
theorem dX8_axle_11 : decode cX8_axle 11 = .ok (.ifCond .eq 5, 3) := by decide +kernel
theorem dX8_axle_14 : decode cX8_axle 14 = .ok (.iload_n 3, 1) := by decide +kernel
theorem dX8_axle_15 : decode cX8_axle 15 = .ok (.ireturn, 1) := by decide +kernel
theorem dX8_axle_16 : decode cX8_axle 16 = .ok (.aload_n 0, 1) := by decide +kernel
theorem dX8_axle_17 : decode cX8_axle 17 = .ok (.getfield 21, 3) := by decide +kernel
theorem dX8_axle_20 : decode cX8_axle 20 = .ok (.aload_n 0, 1) := by decide +kernel
theorem dX8_axle_21 : decode cX8_axle 21 = .ok (.getfield 14, 3) := by decide +kernel
theorem dX8_axle_24 : decode cX8_axle 24 = .ok (.invokevirtual 84, 3) := by decide +kernel
theorem dX8_axle_27 : decode cX8_axle 27 = .ok (.aload_n 0, 1) := by decide +kernel
theorem dX8_axle_28 : decode cX8_axle 28 = .ok (.getfield 14, 3) := by decide +kernel
theorem dX8_axle_31 : decode cX8_axle 31 = .ok (.iload_n 1, 1) := by decide +kernel
theorem dX8_axle_32 : decode cX8_axle 32 = .ok (.iload_n 2, 1) := by decide +kernel
theorem dX8_axle_33 : decode cX8_axle 33 = .ok (.invokevirtual 132, 3) := by decide +kernel
theorem dX8_axle_36 : decode cX8_axle 36 = .ok (.ireturn, 1) := by decide +kernel
theorem dX8_unhitch_0 : decode cX8_unhitch 0 = .ok (.aload_n 0, 1) := by decide +kernel
theorem dX8_unhitch_1 : decode cX8_unhitch 1 = .ok (.getfield 21, 3) := by decide +kernel
theorem dX8_unhitch_4 : decode cX8_unhitch 4 = .ok (.aload_n 0, 1) := by decide +kernel
theorem dX8_unhitch_5 : decode cX8_unhitch 5 = .ok (.getfield 14, 3) := by decide +kernel
theorem dX8_unhitch_8 : decode cX8_unhitch 8 = .ok (.invokevirtual 84, 3) := by decide +kernel
theorem dX8_unhitch_11 : decode cX8_unhitch 11 = .ok (.aload_n 0, 1) := by decide +kernel
theorem dX8_unhitch_12 : decode cX8_unhitch 12 = .ok (.getfield 14, 3) := by decide +kernel
theorem dX8_unhitch_15 : decode cX8_unhitch 15 = .ok (.getfield 135, 3) := by decide +kernel
theorem dX8_unhitch_18 : decode cX8_unhitch 18 = .ok (.istore_n 1, 1) := by decide +kernel
theorem dX8_unhitch_19 : decode cX8_unhitch 19 = .ok (.aload_n 0, 1) := by decide +kernel
theorem dX8_unhitch_20 : decode cX8_unhitch 20 = .ok (.getfield 14, 3) := by decide +kernel
theorem dX8_unhitch_23 : decode cX8_unhitch 23 = .ok (.iconst 0, 1) := by decide +kernel
theorem dX8_unhitch_24 : decode cX8_unhitch 24 = .ok (.putfield 135, 3) := by decide +kernel
theorem dX8_unhitch_27 : decode cX8_unhitch 27 = .ok (.iload_n 1, 1) := by decide +kernel
theorem dX8_unhitch_28 : decode cX8_unhitch 28 = .ok (.ireturn, 1) := by decide +kernel
theorem dX8_loadOf_0 : decode cX8_loadOf 0 = .ok (.aload_n 0, 1) := by decide +kernel
theorem dX8_loadOf_1 : decode cX8_loadOf 1 = .ok (.getfield 14, 3) := by decide +kernel
theorem dX8_loadOf_4 : decode cX8_loadOf 4 = .ok (.iload_n 1, 1) := by decide +kernel
theorem dX8_loadOf_5 : decode cX8_loadOf 5 = .ok (.invokevirtual 115, 3) := by decide +kernel
theorem dX8_loadOf_8 : decode cX8_loadOf 8 = .ok (.ifCond .ne 5, 3) := by decide +kernel
theorem dX8_loadOf_11 : decode cX8_loadOf 11 = .ok (.iconst (-1), 1) := by decide +kernel
theorem dX8_loadOf_12 : decode cX8_loadOf 12 = .ok (.ireturn, 1) := by decide +kernel
theorem dX8_loadOf_13 : decode cX8_loadOf 13 = .ok (.iload_n 2, 1) := by decide +kernel
theorem dX8_loadOf_14 : decode cX8_loadOf 14 = .ok (.tableswitch 70 0 3 #[30, 40, 50, 60], 30) := by decide +kernel
theorem dX8_loadOf_44 : decode cX8_loadOf 44 = .ok (.aload_n 0, 1) := by decide +kernel
theorem dX8_loadOf_45 : decode cX8_loadOf 45 = .ok (.getfield 14, 3) := by decide +kernel
theorem dX8_loadOf_48 : decode cX8_loadOf 48 = .ok (.getfield 138, 3) := by decide +kernel
theorem dX8_loadOf_51 : decode cX8_loadOf 51 = .ok (.iload_n 1, 1) := by decide +kernel
theorem dX8_loadOf_52 : decode cX8_loadOf 52 = .ok (.iaload, 1) := by decide +kernel
theorem dX8_loadOf_53 : decode cX8_loadOf 53 = .ok (.ireturn, 1) := by decide +kernel
theorem dX8_loadOf_54 : decode cX8_loadOf 54 = .ok (.aload_n 0, 1) := by decide +kernel
theorem dX8_loadOf_55 : decode cX8_loadOf 55 = .ok (.getfield 14, 3) := by decide +kernel
theorem dX8_loadOf_58 : decode cX8_loadOf 58 = .ok (.getfield 141, 3) := by decide +kernel
theorem dX8_loadOf_61 : decode cX8_loadOf 61 = .ok (.iload_n 1, 1) := by decide +kernel
theorem dX8_loadOf_62 : decode cX8_loadOf 62 = .ok (.iaload, 1) := by decide +kernel
theorem dX8_loadOf_63 : decode cX8_loadOf 63 = .ok (.ireturn, 1) := by decide +kernel
theorem dX8_loadOf_64 : decode cX8_loadOf 64 = .ok (.aload_n 0, 1) := by decide +kernel
theorem dX8_loadOf_65 : decode cX8_loadOf 65 = .ok (.getfield 14, 3) := by decide +kernel
theorem dX8_loadOf_68 : decode cX8_loadOf 68 = .ok (.getfield 122, 3) := by decide +kernel
theorem dX8_loadOf_71 : decode cX8_loadOf 71 = .ok (.iload_n 1, 1) := by decide +kernel
theorem dX8_loadOf_72 : decode cX8_loadOf 72 = .ok (.iaload, 1) := by decide +kernel
theorem dX8_loadOf_73 : decode cX8_loadOf 73 = .ok (.ireturn, 1) := by decide +kernel
theorem dX8_loadOf_74 : decode cX8_loadOf 74 = .ok (.aload_n 0, 1) := by decide +kernel
theorem dX8_loadOf_75 : decode cX8_loadOf 75 = .ok (.getfield 14, 3) := by decide +kernel
theorem dX8_loadOf_78 : decode cX8_loadOf 78 = .ok (.getfield 144, 3) := by decide +kernel
theorem dX8_loadOf_81 : decode cX8_loadOf 81 = .ok (.iload_n 1, 1) := by decide +kernel
theorem dX8_loadOf_82 : decode cX8_loadOf 82 = .ok (.iaload, 1) := by decide +kernel
theorem dX8_loadOf_83 : decode cX8_loadOf 83 = .ok (.ireturn, 1) := by decide +kernel
theorem dX8_loadOf_84 : decode cX8_loadOf 84 = .ok (.iconst (-1), 1) := by decide +kernel
theorem dX8_loadOf_85 : decode cX8_loadOf 85 = .ok (.ireturn, 1) := by decide +kernel
theorem dX8_supportOf_0 : decode cX8_supportOf 0 = .ok (.aload_n 0, 1) := by decide +kernel
theorem dX8_supportOf_1 : decode cX8_supportOf 1 = .ok (.getfield 14, 3) := by decide +kernel
theorem dX8_supportOf_4 : decode cX8_supportOf 4 = .ok (.iload_n 1, 1) := by decide +kernel
theorem dX8_supportOf_5 : decode cX8_supportOf 5 = .ok (.invokevirtual 147, 3) := by decide +kernel
theorem dX8_supportOf_8 : decode cX8_supportOf 8 = .ok (.ifCond .ne 5, 3) := by decide +kernel
theorem dX8_supportOf_11 : decode cX8_supportOf 11 = .ok (.iconst (-1), 1) := by decide +kernel
theorem dX8_supportOf_12 : decode cX8_supportOf 12 = .ok (.ireturn, 1) := by decide +kernel
theorem dX8_supportOf_13 : decode cX8_supportOf 13 = .ok (.iload_n 2, 1) := by decide +kernel
theorem dX8_supportOf_14 : decode cX8_supportOf 14 = .ok (.lookupswitch 46 #[(0, 26), (1, 36)], 26) := by decide +kernel
theorem dX8_supportOf_40 : decode cX8_supportOf 40 = .ok (.aload_n 0, 1) := by decide +kernel
theorem dX8_supportOf_41 : decode cX8_supportOf 41 = .ok (.getfield 14, 3) := by decide +kernel
theorem dX8_supportOf_44 : decode cX8_supportOf 44 = .ok (.getfield 150, 3) := by decide +kernel
theorem dX8_supportOf_47 : decode cX8_supportOf 47 = .ok (.iload_n 1, 1) := by decide +kernel
theorem dX8_supportOf_48 : decode cX8_supportOf 48 = .ok (.iaload, 1) := by decide +kernel
theorem dX8_supportOf_49 : decode cX8_supportOf 49 = .ok (.ireturn, 1) := by decide +kernel
theorem dX8_supportOf_50 : decode cX8_supportOf 50 = .ok (.aload_n 0, 1) := by decide +kernel
theorem dX8_supportOf_51 : decode cX8_supportOf 51 = .ok (.getfield 14, 3) := by decide +kernel
theorem dX8_supportOf_54 : decode cX8_supportOf 54 = .ok (.getfield 153, 3) := by decide +kernel
theorem dX8_supportOf_57 : decode cX8_supportOf 57 = .ok (.iload_n 1, 1) := by decide +kernel
theorem dX8_supportOf_58 : decode cX8_supportOf 58 = .ok (.iaload, 1) := by decide +kernel
theorem dX8_supportOf_59 : decode cX8_supportOf 59 = .ok (.ireturn, 1) := by decide +kernel
theorem dX8_supportOf_60 : decode cX8_supportOf 60 = .ok (.iconst (-1), 1) := by decide +kernel
theorem dX8_supportOf_61 : decode cX8_supportOf 61 = .ok (.ireturn, 1) := by decide +kernel
theorem dX8_count_0 : decode cX8_count 0 = .ok (.iload_n 1, 1) := by decide +kernel
theorem dX8_count_1 : decode cX8_count 1 = .ok (.tableswitch 111 0 7 #[47, 55, 63, 71, 79, 87, 95, 103], 47) := by decide +kernel
theorem dX8_count_48 : decode cX8_count 48 = .ok (.aload_n 0, 1) := by decide +kernel
theorem dX8_count_49 : decode cX8_count 49 = .ok (.getfield 14, 3) := by decide +kernel
theorem dX8_count_52 : decode cX8_count 52 = .ok (.getfield 70, 3) := by decide +kernel
theorem dX8_count_55 : decode cX8_count 55 = .ok (.ireturn, 1) := by decide +kernel
theorem dX8_count_56 : decode cX8_count 56 = .ok (.aload_n 0, 1) := by decide +kernel
theorem dX8_count_57 : decode cX8_count 57 = .ok (.getfield 14, 3) := by decide +kernel
theorem dX8_count_60 : decode cX8_count 60 = .ok (.getfield 156, 3) := by decide +kernel
theorem dX8_count_63 : decode cX8_count 63 = .ok (.ireturn, 1) := by decide +kernel
theorem dX8_count_64 : decode cX8_count 64 = .ok (.aload_n 0, 1) := by decide +kernel
theorem dX8_count_65 : decode cX8_count 65 = .ok (.getfield 14, 3) := by decide +kernel
theorem dX8_count_68 : decode cX8_count 68 = .ok (.getfield 159, 3) := by decide +kernel
theorem dX8_count_71 : decode cX8_count 71 = .ok (.ireturn, 1) := by decide +kernel
theorem dX8_count_72 : decode cX8_count 72 = .ok (.aload_n 0, 1) := by decide +kernel
theorem dX8_count_73 : decode cX8_count 73 = .ok (.getfield 14, 3) := by decide +kernel
theorem dX8_count_76 : decode cX8_count 76 = .ok (.getfield 135, 3) := by decide +kernel
theorem dX8_count_79 : decode cX8_count 79 = .ok (.ireturn, 1) := by decide +kernel
theorem dX8_count_80 : decode cX8_count 80 = .ok (.aload_n 0, 1) := by decide +kernel
theorem dX8_count_81 : decode cX8_count 81 = .ok (.getfield 21, 3) := by decide +kernel
theorem dX8_count_84 : decode cX8_count 84 = .ok (.getfield 162, 3) := by decide +kernel
theorem dX8_count_87 : decode cX8_count 87 = .ok (.ireturn, 1) := by decide +kernel
theorem dX8_count_88 : decode cX8_count 88 = .ok (.aload_n 0, 1) := by decide +kernel
theorem dX8_count_89 : decode cX8_count 89 = .ok (.getfield 48, 3) := by decide +kernel
theorem dX8_count_92 : decode cX8_count 92 = .ok (.getfield 165, 3) := by decide +kernel
theorem dX8_count_95 : decode cX8_count 95 = .ok (.ireturn, 1) := by decide +kernel
theorem dX8_count_96 : decode cX8_count 96 = .ok (.aload_n 0, 1) := by decide +kernel
theorem dX8_count_97 : decode cX8_count 97 = .ok (.getfield 55, 3) := by decide +kernel
theorem dX8_count_100 : decode cX8_count 100 = .ok (.getfield 166, 3) := by decide +kernel
theorem dX8_count_103 : decode cX8_count 103 = .ok (.ireturn, 1) := by decide +kernel
theorem dX8_count_104 : decode cX8_count 104 = .ok (.aload_n 0, 1) := by decide +kernel
theorem dX8_count_105 : decode cX8_count 105 = .ok (.getfield 14, 3) := by decide +kernel
theorem dX8_count_108 : decode cX8_count 108 = .ok (.invokevirtual 167, 3) := by decide +kernel
theorem dX8_count_111 : decode cX8_count 111 = .ok (.ireturn, 1) := by decide +kernel
theorem dX8_count_112 : decode cX8_count 112 = .ok (.iconst (-1), 1) := by decide +kernel
theorem dX8_count_113 : decode cX8_count 113 = .ok (.ireturn, 1) := by decide +kernel
theorem dX8_reaction_0 : decode cX8_reaction 0 = .ok (.aload_n 0, 1) := by decide +kernel
theorem dX8_reaction_1 : decode cX8_reaction 1 = .ok (.getfield 14, 3) := by decide +kernel
theorem dX8_reaction_4 : decode cX8_reaction 4 = .ok (.invokevirtual 171, 3) := by decide +kernel
theorem dX8_reaction_7 : decode cX8_reaction 7 = .ok (.ifCond .eq 21, 3) := by decide +kernel
theorem dX8_reaction_10 : decode cX8_reaction 10 = .ok (.aload_n 0, 1) := by decide +kernel
theorem dX8_reaction_11 : decode cX8_reaction 11 = .ok (.getfield 14, 3) := by decide +kernel
theorem dX8_reaction_14 : decode cX8_reaction 14 = .ok (.iload_n 1, 1) := by decide +kernel
theorem dX8_reaction_15 : decode cX8_reaction 15 = .ok (.invokevirtual 147, 3) := by decide +kernel
theorem dX8_reaction_18 : decode cX8_reaction 18 = .ok (.ifCond .eq 10, 3) := by decide +kernel
theorem dX8_reaction_21 : decode cX8_reaction 21 = .ok (.iload_n 2, 1) := by decide +kernel
theorem dX8_reaction_22 : decode cX8_reaction 22 = .ok (.invokestatic 175, 3) := by decide +kernel
theorem dX8_reaction_25 : decode cX8_reaction 25 = .ok (.ifCond .ne 7, 3) := by decide +kernel
theorem dX8_reaction_28 : decode cX8_reaction 28 = .ok (.ldc2_w 178, 3) := by decide +kernel
theorem dX8_reaction_31 : decode cX8_reaction 31 = .ok (.lreturn, 1) := by decide +kernel
theorem dX8_reaction_32 : decode cX8_reaction 32 = .ok (.aload_n 0, 1) := by decide +kernel
theorem dX8_reaction_33 : decode cX8_reaction 33 = .ok (.invokevirtual 180, 3) := by decide +kernel
theorem dX8_reaction_36 : decode cX8_reaction 36 = .ok (.aload_n 0, 1) := by decide +kernel
theorem dX8_reaction_37 : decode cX8_reaction 37 = .ok (.aload_n 0, 1) := by decide +kernel
theorem dX8_reaction_38 : decode cX8_reaction 38 = .ok (.getfield 31, 3) := by decide +kernel
theorem dX8_reaction_41 : decode cX8_reaction 41 = .ok (.getfield 183, 3) := by decide +kernel
theorem dX8_reaction_44 : decode cX8_reaction 44 = .ok (.iload_n 1, 1) := by decide +kernel
theorem dX8_reaction_45 : decode cX8_reaction 45 = .ok (.laload, 1) := by decide +kernel
theorem dX8_reaction_46 : decode cX8_reaction 46 = .ok (.aload_n 0, 1) := by decide +kernel
theorem dX8_reaction_47 : decode cX8_reaction 47 = .ok (.getfield 31, 3) := by decide +kernel
theorem dX8_reaction_50 : decode cX8_reaction 50 = .ok (.getfield 187, 3) := by decide +kernel
theorem dX8_reaction_53 : decode cX8_reaction 53 = .ok (.iload_n 2, 1) := by decide +kernel
theorem dX8_reaction_54 : decode cX8_reaction 54 = .ok (.invokevirtual 191, 3) := by decide +kernel
theorem dX8_reaction_57 : decode cX8_reaction 57 = .ok (.lreturn, 1) := by decide +kernel
theorem dX8_shear_0 : decode cX8_shear 0 = .ok (.aload_n 0, 1) := by decide +kernel
theorem dX8_shear_1 : decode cX8_shear 1 = .ok (.getfield 14, 3) := by decide +kernel
theorem dX8_shear_4 : decode cX8_shear 4 = .ok (.invokevirtual 171, 3) := by decide +kernel
theorem dX8_shear_7 : decode cX8_shear 7 = .ok (.ifCond .eq 21, 3) := by decide +kernel
theorem dX8_shear_10 : decode cX8_shear 10 = .ok (.aload_n 0, 1) := by decide +kernel
theorem dX8_shear_11 : decode cX8_shear 11 = .ok (.getfield 14, 3) := by decide +kernel
theorem dX8_shear_14 : decode cX8_shear 14 = .ok (.iload_n 1, 1) := by decide +kernel
theorem dX8_shear_15 : decode cX8_shear 15 = .ok (.invokevirtual 195, 3) := by decide +kernel
theorem dX8_shear_18 : decode cX8_shear 18 = .ok (.ifCond .eq 10, 3) := by decide +kernel
theorem dX8_shear_21 : decode cX8_shear 21 = .ok (.iload_n 2, 1) := by decide +kernel
theorem dX8_shear_22 : decode cX8_shear 22 = .ok (.invokestatic 175, 3) := by decide +kernel
theorem dX8_shear_25 : decode cX8_shear 25 = .ok (.ifCond .ne 7, 3) := by decide +kernel
theorem dX8_shear_28 : decode cX8_shear 28 = .ok (.ldc2_w 178, 3) := by decide +kernel
theorem dX8_shear_31 : decode cX8_shear 31 = .ok (.lreturn, 1) := by decide +kernel
theorem dX8_shear_32 : decode cX8_shear 32 = .ok (.aload_n 0, 1) := by decide +kernel
theorem dX8_shear_33 : decode cX8_shear 33 = .ok (.invokevirtual 180, 3) := by decide +kernel
theorem dX8_shear_36 : decode cX8_shear 36 = .ok (.aload_n 0, 1) := by decide +kernel
theorem dX8_shear_37 : decode cX8_shear 37 = .ok (.aload_n 0, 1) := by decide +kernel
theorem dX8_shear_38 : decode cX8_shear 38 = .ok (.getfield 31, 3) := by decide +kernel
theorem dX8_shear_41 : decode cX8_shear 41 = .ok (.getfield 198, 3) := by decide +kernel
theorem dX8_shear_44 : decode cX8_shear 44 = .ok (.iload_n 1, 1) := by decide +kernel
theorem dX8_shear_45 : decode cX8_shear 45 = .ok (.laload, 1) := by decide +kernel
theorem dX8_shear_46 : decode cX8_shear 46 = .ok (.aload_n 0, 1) := by decide +kernel
theorem dX8_shear_47 : decode cX8_shear 47 = .ok (.getfield 31, 3) := by decide +kernel
theorem dX8_shear_50 : decode cX8_shear 50 = .ok (.getfield 187, 3) := by decide +kernel
theorem dX8_shear_53 : decode cX8_shear 53 = .ok (.iload_n 2, 1) := by decide +kernel
theorem dX8_shear_54 : decode cX8_shear 54 = .ok (.invokevirtual 191, 3) := by decide +kernel
theorem dX8_shear_57 : decode cX8_shear 57 = .ok (.lreturn, 1) := by decide +kernel
theorem dX8_moment_0 : decode cX8_moment 0 = .ok (.aload_n 0, 1) := by decide +kernel
theorem dX8_moment_1 : decode cX8_moment 1 = .ok (.getfield 14, 3) := by decide +kernel
theorem dX8_moment_4 : decode cX8_moment 4 = .ok (.invokevirtual 171, 3) := by decide +kernel
theorem dX8_moment_7 : decode cX8_moment 7 = .ok (.ifCond .eq 21, 3) := by decide +kernel
theorem dX8_moment_10 : decode cX8_moment 10 = .ok (.iload_n 3, 1) := by decide +kernel
theorem dX8_moment_11 : decode cX8_moment 11 = .ok (.invokestatic 175, 3) := by decide +kernel
theorem dX8_moment_14 : decode cX8_moment 14 = .ok (.ifCond .eq 14, 3) := by decide +kernel
theorem dX8_moment_17 : decode cX8_moment 17 = .ok (.iload_n 2, 1) := by decide +kernel
theorem dX8_moment_18 : decode cX8_moment 18 = .ok (.iconst 1, 1) := by decide +kernel
theorem dX8_moment_19 : decode cX8_moment 19 = .ok (.if_icmp .lt 9, 3) := by decide +kernel
theorem dX8_moment_22 : decode cX8_moment 22 = .ok (.iload_n 2, 1) := by decide +kernel
theorem dX8_moment_23 : decode cX8_moment 23 = .ok (.bipush 100, 2) := by decide +kernel
theorem dX8_moment_25 : decode cX8_moment 25 = .ok (.if_icmp .le 7, 3) := by decide +kernel
theorem dX8_moment_28 : decode cX8_moment 28 = .ok (.ldc2_w 178, 3) := by decide +kernel
theorem dX8_moment_31 : decode cX8_moment 31 = .ok (.lreturn, 1) := by decide +kernel
theorem dX8_moment_32 : decode cX8_moment 32 = .ok (.iload_n 1, 1) := by decide +kernel
theorem dX8_moment_33 : decode cX8_moment 33 = .ok (.ifCond .lt 16, 3) := by decide +kernel
theorem dX8_moment_36 : decode cX8_moment 36 = .ok (.iload_n 1, 1) := by decide +kernel
theorem dX8_moment_37 : decode cX8_moment 37 = .ok (.iload_n 2, 1) := by decide +kernel
theorem dX8_moment_38 : decode cX8_moment 38 = .ok (.aload_n 0, 1) := by decide +kernel
theorem dX8_moment_39 : decode cX8_moment 39 = .ok (.getfield 14, 3) := by decide +kernel
theorem dX8_moment_42 : decode cX8_moment 42 = .ok (.getfield 70, 3) := by decide +kernel
theorem dX8_moment_45 : decode cX8_moment 45 = .ok (.imul, 1) := by decide +kernel
theorem dX8_moment_46 : decode cX8_moment 46 = .ok (.if_icmp .le 7, 3) := by decide +kernel
theorem dX8_moment_49 : decode cX8_moment 49 = .ok (.ldc2_w 178, 3) := by decide +kernel
theorem dX8_moment_52 : decode cX8_moment 52 = .ok (.lreturn, 1) := by decide +kernel
theorem dX8_moment_53 : decode cX8_moment 53 = .ok (.aload_n 0, 1) := by decide +kernel
theorem dX8_moment_54 : decode cX8_moment 54 = .ok (.invokevirtual 180, 3) := by decide +kernel
theorem dX8_moment_57 : decode cX8_moment 57 = .ok (.aload_n 0, 1) := by decide +kernel
theorem dX8_moment_58 : decode cX8_moment 58 = .ok (.getfield 31, 3) := by decide +kernel
theorem dX8_moment_61 : decode cX8_moment 61 = .ok (.iload_n 1, 1) := by decide +kernel
theorem dX8_moment_62 : decode cX8_moment 62 = .ok (.i2l, 1) := by decide +kernel
theorem dX8_moment_63 : decode cX8_moment 63 = .ok (.iload_n 2, 1) := by decide +kernel
theorem dX8_moment_64 : decode cX8_moment 64 = .ok (.i2l, 1) := by decide +kernel
theorem dX8_moment_65 : decode cX8_moment 65 = .ok (.aload_n 0, 1) := by decide +kernel
theorem dX8_moment_66 : decode cX8_moment 66 = .ok (.getfield 38, 3) := by decide +kernel
theorem dX8_moment_69 : decode cX8_moment 69 = .ok (.invokevirtual 201, 3) := by decide +kernel
theorem dX8_moment_72 : decode cX8_moment 72 = .ok (.aload_n 0, 1) := by decide +kernel
theorem dX8_moment_73 : decode cX8_moment 73 = .ok (.getfield 38, 3) := by decide +kernel
theorem dX8_moment_76 : decode cX8_moment 76 = .ok (.iload_n 3, 1) := by decide +kernel
theorem dX8_moment_77 : decode cX8_moment 77 = .ok (.invokevirtual 205, 3) := by decide +kernel
theorem dX8_moment_80 : decode cX8_moment 80 = .ok (.lreturn, 1) := by decide +kernel
theorem dX8_sag_0 : decode cX8_sag 0 = .ok (.aload_n 0, 1) := by decide +kernel
theorem dX8_sag_1 : decode cX8_sag 1 = .ok (.getfield 14, 3) := by decide +kernel
theorem dX8_sag_4 : decode cX8_sag 4 = .ok (.invokevirtual 171, 3) := by decide +kernel
theorem dX8_sag_7 : decode cX8_sag 7 = .ok (.ifCond .eq 21, 3) := by decide +kernel
theorem dX8_sag_10 : decode cX8_sag 10 = .ok (.aload_n 0, 1) := by decide +kernel
theorem dX8_sag_11 : decode cX8_sag 11 = .ok (.getfield 14, 3) := by decide +kernel
theorem dX8_sag_14 : decode cX8_sag 14 = .ok (.iload_n 1, 1) := by decide +kernel
theorem dX8_sag_15 : decode cX8_sag 15 = .ok (.invokevirtual 195, 3) := by decide +kernel
theorem dX8_sag_18 : decode cX8_sag 18 = .ok (.ifCond .eq 10, 3) := by decide +kernel
theorem dX8_sag_21 : decode cX8_sag 21 = .ok (.iload_n 2, 1) := by decide +kernel
theorem dX8_sag_22 : decode cX8_sag 22 = .ok (.invokestatic 175, 3) := by decide +kernel
theorem dX8_sag_25 : decode cX8_sag 25 = .ok (.ifCond .ne 7, 3) := by decide +kernel
theorem dX8_sag_28 : decode cX8_sag 28 = .ok (.ldc2_w 178, 3) := by decide +kernel
theorem dX8_sag_31 : decode cX8_sag 31 = .ok (.lreturn, 1) := by decide +kernel
theorem dX8_sag_32 : decode cX8_sag 32 = .ok (.aload_n 0, 1) := by decide +kernel
theorem dX8_sag_33 : decode cX8_sag 33 = .ok (.invokevirtual 180, 3) := by decide +kernel
theorem dX8_sag_36 : decode cX8_sag 36 = .ok (.aload_n 0, 1) := by decide +kernel
theorem dX8_sag_37 : decode cX8_sag 37 = .ok (.getfield 31, 3) := by decide +kernel
theorem dX8_sag_40 : decode cX8_sag 40 = .ok (.invokevirtual 209, 3) := by decide +kernel
theorem dX8_sag_43 : decode cX8_sag 43 = .ok (.aload_n 0, 1) := by decide +kernel
theorem dX8_sag_44 : decode cX8_sag 44 = .ok (.aload_n 0, 1) := by decide +kernel
theorem dX8_sag_45 : decode cX8_sag 45 = .ok (.getfield 31, 3) := by decide +kernel
theorem dX8_sag_48 : decode cX8_sag 48 = .ok (.getfield 212, 3) := by decide +kernel
theorem dX8_sag_51 : decode cX8_sag 51 = .ok (.iload_n 1, 1) := by decide +kernel
theorem dX8_sag_52 : decode cX8_sag 52 = .ok (.laload, 1) := by decide +kernel
theorem dX8_sag_53 : decode cX8_sag 53 = .ok (.aload_n 0, 1) := by decide +kernel
theorem dX8_sag_54 : decode cX8_sag 54 = .ok (.getfield 31, 3) := by decide +kernel
theorem dX8_sag_57 : decode cX8_sag 57 = .ok (.getfield 215, 3) := by decide +kernel
theorem dX8_sag_60 : decode cX8_sag 60 = .ok (.iload_n 2, 1) := by decide +kernel
theorem dX8_sag_61 : decode cX8_sag 61 = .ok (.invokevirtual 191, 3) := by decide +kernel
theorem dX8_sag_64 : decode cX8_sag 64 = .ok (.lreturn, 1) := by decide +kernel
theorem dX8_greatest_0 : decode cX8_greatest 0 = .ok (.aload_n 0, 1) := by decide +kernel
theorem dX8_greatest_1 : decode cX8_greatest 1 = .ok (.getfield 14, 3) := by decide +kernel
theorem dX8_greatest_4 : decode cX8_greatest 4 = .ok (.invokevirtual 171, 3) := by decide +kernel
theorem dX8_greatest_7 : decode cX8_greatest 7 = .ok (.ifCond .eq 21, 3) := by decide +kernel
theorem dX8_greatest_10 : decode cX8_greatest 10 = .ok (.iload_n 1, 1) := by decide +kernel
theorem dX8_greatest_11 : decode cX8_greatest 11 = .ok (.ifCond .eq 8, 3) := by decide +kernel
theorem dX8_greatest_14 : decode cX8_greatest 14 = .ok (.iload_n 1, 1) := by decide +kernel
theorem dX8_greatest_15 : decode cX8_greatest 15 = .ok (.iconst 1, 1) := by decide +kernel
theorem dX8_greatest_16 : decode cX8_greatest 16 = .ok (.if_icmp .ne 12, 3) := by decide +kernel
theorem dX8_greatest_19 : decode cX8_greatest 19 = .ok (.iload_n 2, 1) := by decide +kernel
theorem dX8_greatest_20 : decode cX8_greatest 20 = .ok (.ifCond .lt 8, 3) := by decide +kernel
theorem dX8_greatest_23 : decode cX8_greatest 23 = .ok (.iload_n 2, 1) := by decide +kernel
theorem dX8_greatest_24 : decode cX8_greatest 24 = .ok (.iconst 3, 1) := by decide +kernel
theorem dX8_greatest_25 : decode cX8_greatest 25 = .ok (.if_icmp .le 7, 3) := by decide +kernel
theorem dX8_greatest_28 : decode cX8_greatest 28 = .ok (.ldc2_w 178, 3) := by decide +kernel
theorem dX8_greatest_31 : decode cX8_greatest 31 = .ok (.lreturn, 1) := by decide +kernel
theorem dX8_greatest_32 : decode cX8_greatest 32 = .ok (.aload_n 0, 1) := by decide +kernel
theorem dX8_greatest_33 : decode cX8_greatest 33 = .ok (.invokevirtual 180, 3) := by decide +kernel
theorem dX8_greatest_36 : decode cX8_greatest 36 = .ok (.aload_n 0, 1) := by decide +kernel
theorem dX8_greatest_37 : decode cX8_greatest 37 = .ok (.getfield 31, 3) := by decide +kernel
theorem dX8_greatest_40 : decode cX8_greatest 40 = .ok (.invokevirtual 218, 3) := by decide +kernel
theorem dX8_greatest_43 : decode cX8_greatest 43 = .ok (.iload_n 1, 1) := by decide +kernel
theorem dX8_greatest_44 : decode cX8_greatest 44 = .ok (.ifCond .ne 13, 3) := by decide +kernel
theorem dX8_greatest_47 : decode cX8_greatest 47 = .ok (.aload_n 0, 1) := by decide +kernel
theorem dX8_greatest_48 : decode cX8_greatest 48 = .ok (.getfield 31, 3) := by decide +kernel
theorem dX8_greatest_51 : decode cX8_greatest 51 = .ok (.getfield 221, 3) := by decide +kernel
theorem dX8_greatest_54 : decode cX8_greatest 54 = .ok (.goto 10, 3) := by decide +kernel
theorem dX8_greatest_57 : decode cX8_greatest 57 = .ok (.aload_n 0, 1) := by decide +kernel
theorem dX8_greatest_58 : decode cX8_greatest 58 = .ok (.getfield 31, 3) := by decide +kernel
theorem dX8_greatest_61 : decode cX8_greatest 61 = .ok (.getfield 225, 3) := by decide +kernel
theorem dX8_greatest_64 : decode cX8_greatest 64 = .ok (.astore_n 3, 1) := by decide +kernel
theorem dX8_greatest_65 : decode cX8_greatest 65 = .ok (.iload_n 2, 1) := by decide +kernel
theorem dX8_greatest_66 : decode cX8_greatest 66 = .ok (.iconst 2, 1) := by decide +kernel
theorem dX8_greatest_67 : decode cX8_greatest 67 = .ok (.if_icmp .ge 14, 3) := by decide +kernel
theorem dX8_greatest_70 : decode cX8_greatest 70 = .ok (.aload_n 3, 1) := by decide +kernel
theorem dX8_greatest_71 : decode cX8_greatest 71 = .ok (.getfield 228, 3) := by decide +kernel
theorem dX8_greatest_74 : decode cX8_greatest 74 = .ok (.iload_n 2, 1) := by decide +kernel
theorem dX8_greatest_75 : decode cX8_greatest 75 = .ok (.invokevirtual 205, 3) := by decide +kernel
theorem dX8_greatest_78 : decode cX8_greatest 78 = .ok (.goto 13, 3) := by decide +kernel
theorem dX8_greatest_81 : decode cX8_greatest 81 = .ok (.aload_n 3, 1) := by decide +kernel
theorem dX8_greatest_82 : decode cX8_greatest 82 = .ok (.getfield 233, 3) := by decide +kernel
theorem dX8_greatest_85 : decode cX8_greatest 85 = .ok (.iload_n 2, 1) := by decide +kernel
theorem dX8_greatest_86 : decode cX8_greatest 86 = .ok (.iconst 2, 1) := by decide +kernel
theorem dX8_greatest_87 : decode cX8_greatest 87 = .ok (.isub, 1) := by decide +kernel
theorem dX8_greatest_88 : decode cX8_greatest 88 = .ok (.invokevirtual 205, 3) := by decide +kernel
theorem dX8_greatest_91 : decode cX8_greatest 91 = .ok (.lreturn, 1) := by decide +kernel
theorem dX8_lowest_0 : decode cX8_lowest 0 = .ok (.aload_n 0, 1) := by decide +kernel
theorem dX8_lowest_1 : decode cX8_lowest 1 = .ok (.getfield 14, 3) := by decide +kernel
theorem dX8_lowest_4 : decode cX8_lowest 4 = .ok (.invokevirtual 171, 3) := by decide +kernel
theorem dX8_lowest_7 : decode cX8_lowest 7 = .ok (.ifCond .ne 6, 3) := by decide +kernel
theorem dX8_lowest_10 : decode cX8_lowest 10 = .ok (.bipush (-6), 2) := by decide +kernel
theorem dX8_lowest_12 : decode cX8_lowest 12 = .ok (.ireturn, 1) := by decide +kernel
theorem dX8_lowest_13 : decode cX8_lowest 13 = .ok (.aload_n 0, 1) := by decide +kernel
theorem dX8_lowest_14 : decode cX8_lowest 14 = .ok (.invokevirtual 180, 3) := by decide +kernel
theorem dX8_lowest_17 : decode cX8_lowest 17 = .ok (.aload_n 0, 1) := by decide +kernel
theorem dX8_lowest_18 : decode cX8_lowest 18 = .ok (.getfield 31, 3) := by decide +kernel
theorem dX8_lowest_21 : decode cX8_lowest 21 = .ok (.invokevirtual 209, 3) := by decide +kernel
theorem dX8_lowest_24 : decode cX8_lowest 24 = .ok (.aload_n 0, 1) := by decide +kernel
theorem dX8_lowest_25 : decode cX8_lowest 25 = .ok (.getfield 31, 3) := by decide +kernel
theorem dX8_lowest_28 : decode cX8_lowest 28 = .ok (.invokevirtual 236, 3) := by decide +kernel
theorem dX8_lowest_31 : decode cX8_lowest 31 = .ok (.ireturn, 1) := by decide +kernel
theorem dX8_times_0 : decode cX8_times 0 = .ok (.iload_n 1, 1) := by decide +kernel
theorem dX8_times_1 : decode cX8_times 1 = .ok (.ifCond .lt 10, 3) := by decide +kernel
theorem dX8_times_4 : decode cX8_times 4 = .ok (.iload_n 1, 1) := by decide +kernel
theorem dX8_times_5 : decode cX8_times 5 = .ok (.sipush 9999, 3) := by decide +kernel
theorem dX8_times_8 : decode cX8_times 8 = .ok (.if_icmp .le 5, 3) := by decide +kernel
theorem dX8_times_11 : decode cX8_times 11 = .ok (.iconst (-1), 1) := by decide +kernel
theorem dX8_times_12 : decode cX8_times 12 = .ok (.ireturn, 1) := by decide +kernel
theorem dX8_times_13 : decode cX8_times 13 = .ok (.aload_n 0, 1) := by decide +kernel
theorem dX8_times_14 : decode cX8_times 14 = .ok (.getfield 14, 3) := by decide +kernel
theorem dX8_times_17 : decode cX8_times 17 = .ok (.invokevirtual 171, 3) := by decide +kernel
theorem dX8_times_20 : decode cX8_times 20 = .ok (.ifCond .ne 6, 3) := by decide +kernel
theorem dX8_times_23 : decode cX8_times 23 = .ok (.bipush (-6), 2) := by decide +kernel
theorem dX8_times_25 : decode cX8_times 25 = .ok (.ireturn, 1) := by decide +kernel
theorem dX8_times_26 : decode cX8_times 26 = .ok (.aload_n 0, 1) := by decide +kernel
theorem dX8_times_27 : decode cX8_times 27 = .ok (.invokevirtual 180, 3) := by decide +kernel
theorem dX8_times_30 : decode cX8_times 30 = .ok (.aload_n 0, 1) := by decide +kernel
theorem dX8_times_31 : decode cX8_times 31 = .ok (.getfield 31, 3) := by decide +kernel
theorem dX8_times_34 : decode cX8_times 34 = .ok (.aload_n 0, 1) := by decide +kernel
theorem dX8_times_35 : decode cX8_times 35 = .ok (.getfield 38, 3) := by decide +kernel
theorem dX8_times_38 : decode cX8_times 38 = .ok (.invokevirtual 239, 3) := by decide +kernel
theorem dX8_times_41 : decode cX8_times 41 = .ok (.aload_n 0, 1) := by decide +kernel
theorem dX8_times_42 : decode cX8_times 42 = .ok (.getfield 38, 3) := by decide +kernel
theorem dX8_times_45 : decode cX8_times 45 = .ok (.getfield 243, 3) := by decide +kernel
theorem dX8_times_48 : decode cX8_times 48 = .ok (.lconst 0, 1) := by decide +kernel
theorem dX8_times_49 : decode cX8_times 49 = .ok (.lcmp, 1) := by decide +kernel
theorem dX8_times_50 : decode cX8_times 50 = .ok (.ifCond .ne 8, 3) := by decide +kernel
theorem dX8_times_53 : decode cX8_times 53 = .ok (.bipush (-2), 2) := by decide +kernel
theorem dX8_times_55 : decode cX8_times 55 = .ok (.goto 8, 3) := by decide +kernel
theorem dX8_times_58 : decode cX8_times 58 = .ok (.aload_n 0, 1) := by decide +kernel
theorem dX8_times_59 : decode cX8_times 59 = .ok (.iload_n 1, 1) := by decide +kernel
theorem dX8_times_60 : decode cX8_times 60 = .ok (.invokevirtual 246, 3) := by decide +kernel
theorem dX8_times_63 : decode cX8_times 63 = .ok (.ireturn, 1) := by decide +kernel
theorem dX8_rolls_0 : decode cX8_rolls 0 = .ok (.aload_n 0, 1) := by decide +kernel
theorem dX8_rolls_1 : decode cX8_rolls 1 = .ok (.iload_n 2, 1) := by decide +kernel
theorem dX8_rolls_2 : decode cX8_rolls 2 = .ok (.invokevirtual 249, 3) := by decide +kernel
theorem dX8_rolls_5 : decode cX8_rolls 5 = .ok (.ifCond .eq 14, 3) := by decide +kernel
theorem dX8_rolls_8 : decode cX8_rolls 8 = .ok (.aload_n 0, 1) := by decide +kernel
theorem dX8_rolls_9 : decode cX8_rolls 9 = .ok (.getfield 14, 3) := by decide +kernel
theorem dX8_rolls_12 : decode cX8_rolls 12 = .ok (.iload_n 1, 1) := by decide +kernel
theorem dX8_rolls_13 : decode cX8_rolls 13 = .ok (.invokevirtual 195, 3) := by decide +kernel
theorem dX8_rolls_16 : decode cX8_rolls 16 = .ok (.ifCond .ne 7, 3) := by decide +kernel
theorem dX8_rolls_19 : decode cX8_rolls 19 = .ok (.ldc2_w 178, 3) := by decide +kernel
theorem dX8_rolls_22 : decode cX8_rolls 22 = .ok (.lreturn, 1) := by decide +kernel
theorem dX8_rolls_23 : decode cX8_rolls 23 = .ok (.aload_n 0, 1) := by decide +kernel
theorem dX8_rolls_24 : decode cX8_rolls 24 = .ok (.aload_n 0, 1) := by decide +kernel
theorem dX8_rolls_25 : decode cX8_rolls 25 = .ok (.getfield 31, 3) := by decide +kernel
theorem dX8_rolls_28 : decode cX8_rolls 28 = .ok (.getfield 252, 3) := by decide +kernel
theorem dX8_rolls_31 : decode cX8_rolls 31 = .ok (.iload_n 1, 1) := by decide +kernel
theorem dX8_rolls_32 : decode cX8_rolls 32 = .ok (.iload_n 2, 1) := by decide +kernel
theorem dX8_rolls_33 : decode cX8_rolls 33 = .ok (.invokevirtual 255, 3) := by decide +kernel
theorem dX8_rolls_36 : decode cX8_rolls 36 = .ok (.lreturn, 1) := by decide +kernel
theorem dX8_presses_0 : decode cX8_presses 0 = .ok (.aload_n 0, 1) := by decide +kernel
theorem dX8_presses_1 : decode cX8_presses 1 = .ok (.iload_n 2, 1) := by decide +kernel
theorem dX8_presses_2 : decode cX8_presses 2 = .ok (.invokevirtual 249, 3) := by decide +kernel
theorem dX8_presses_5 : decode cX8_presses 5 = .ok (.ifCond .eq 14, 3) := by decide +kernel
theorem dX8_presses_8 : decode cX8_presses 8 = .ok (.aload_n 0, 1) := by decide +kernel
theorem dX8_presses_9 : decode cX8_presses 9 = .ok (.getfield 14, 3) := by decide +kernel
theorem dX8_presses_12 : decode cX8_presses 12 = .ok (.iload_n 1, 1) := by decide +kernel
theorem dX8_presses_13 : decode cX8_presses 13 = .ok (.invokevirtual 147, 3) := by decide +kernel
theorem dX8_presses_16 : decode cX8_presses 16 = .ok (.ifCond .ne 7, 3) := by decide +kernel
theorem dX8_presses_19 : decode cX8_presses 19 = .ok (.ldc2_w 178, 3) := by decide +kernel
theorem dX8_presses_22 : decode cX8_presses 22 = .ok (.lreturn, 1) := by decide +kernel
theorem dX8_presses_23 : decode cX8_presses 23 = .ok (.aload_n 0, 1) := by decide +kernel
theorem dX8_presses_24 : decode cX8_presses 24 = .ok (.aload_n 0, 1) := by decide +kernel
theorem dX8_presses_25 : decode cX8_presses 25 = .ok (.getfield 31, 3) := by decide +kernel
theorem dX8_presses_28 : decode cX8_presses 28 = .ok (.getfield 183, 3) := by decide +kernel
theorem dX8_presses_31 : decode cX8_presses 31 = .ok (.iload_n 1, 1) := by decide +kernel
theorem dX8_presses_32 : decode cX8_presses 32 = .ok (.iload_n 2, 1) := by decide +kernel
theorem dX8_presses_33 : decode cX8_presses 33 = .ok (.invokevirtual 255, 3) := by decide +kernel
theorem dX8_presses_36 : decode cX8_presses 36 = .ok (.lreturn, 1) := by decide +kernel
theorem dX8_unit_0 : decode cX8_unit 0 = .ok (.aload_n 0, 1) := by decide +kernel
theorem dX8_unit_1 : decode cX8_unit 1 = .ok (.getfield 14, 3) := by decide +kernel
theorem dX8_unit_4 : decode cX8_unit 4 = .ok (.invokevirtual 171, 3) := by decide +kernel
theorem dX8_unit_7 : decode cX8_unit 7 = .ok (.ifCond .eq 32, 3) := by decide +kernel
theorem dX8_unit_10 : decode cX8_unit 10 = .ok (.aload_n 0, 1) := by decide +kernel
theorem dX8_unit_11 : decode cX8_unit 11 = .ok (.getfield 14, 3) := by decide +kernel
theorem dX8_unit_14 : decode cX8_unit 14 = .ok (.iload_n 1, 1) := by decide +kernel
theorem dX8_unit_15 : decode cX8_unit 15 = .ok (.invokevirtual 195, 3) := by decide +kernel
theorem dX8_unit_18 : decode cX8_unit 18 = .ok (.ifCond .eq 21, 3) := by decide +kernel
theorem dX8_unit_21 : decode cX8_unit 21 = .ok (.aload_n 0, 1) := by decide +kernel
theorem dX8_unit_22 : decode cX8_unit 22 = .ok (.getfield 14, 3) := by decide +kernel
theorem dX8_unit_25 : decode cX8_unit 25 = .ok (.iload_n 2, 1) := by decide +kernel
theorem dX8_unit_26 : decode cX8_unit 26 = .ok (.invokevirtual 195, 3) := by decide +kernel
theorem dX8_unit_29 : decode cX8_unit 29 = .ok (.ifCond .eq 10, 3) := by decide +kernel
theorem dX8_unit_32 : decode cX8_unit 32 = .ok (.iload_n 3, 1) := by decide +kernel
theorem dX8_unit_33 : decode cX8_unit 33 = .ok (.invokestatic 175, 3) := by decide +kernel
theorem dX8_unit_36 : decode cX8_unit 36 = .ok (.ifCond .ne 7, 3) := by decide +kernel
theorem dX8_unit_39 : decode cX8_unit 39 = .ok (.ldc2_w 178, 3) := by decide +kernel
theorem dX8_unit_42 : decode cX8_unit 42 = .ok (.lreturn, 1) := by decide +kernel
theorem dX8_unit_43 : decode cX8_unit 43 = .ok (.aload_n 0, 1) := by decide +kernel
theorem dX8_unit_44 : decode cX8_unit 44 = .ok (.iload_n 1, 1) := by decide +kernel
theorem dX8_unit_45 : decode cX8_unit 45 = .ok (.invokevirtual 259, 3) := by decide +kernel
theorem dX8_unit_48 : decode cX8_unit 48 = .ok (.aload_n 0, 1) := by decide +kernel
theorem dX8_unit_49 : decode cX8_unit 49 = .ok (.aload_n 0, 1) := by decide +kernel
theorem dX8_unit_50 : decode cX8_unit 50 = .ok (.getfield 31, 3) := by decide +kernel
theorem dX8_unit_53 : decode cX8_unit 53 = .ok (.getfield 252, 3) := by decide +kernel
theorem dX8_unit_56 : decode cX8_unit 56 = .ok (.iload_n 2, 1) := by decide +kernel
theorem dX8_unit_57 : decode cX8_unit 57 = .ok (.laload, 1) := by decide +kernel
theorem dX8_unit_58 : decode cX8_unit 58 = .ok (.aload_n 0, 1) := by decide +kernel
theorem dX8_unit_59 : decode cX8_unit 59 = .ok (.getfield 31, 3) := by decide +kernel
theorem dX8_unit_62 : decode cX8_unit 62 = .ok (.getfield 187, 3) := by decide +kernel
theorem dX8_unit_65 : decode cX8_unit 65 = .ok (.iload_n 3, 1) := by decide +kernel
theorem dX8_unit_66 : decode cX8_unit 66 = .ok (.invokevirtual 191, 3) := by decide +kernel
theorem dX8_unit_69 : decode cX8_unit 69 = .ok (.lreturn, 1) := by decide +kernel
theorem dX8_bears_0 : decode cX8_bears 0 = .ok (.aload_n 0, 1) := by decide +kernel
theorem dX8_bears_1 : decode cX8_bears 1 = .ok (.getfield 14, 3) := by decide +kernel
theorem dX8_bears_4 : decode cX8_bears 4 = .ok (.invokevirtual 171, 3) := by decide +kernel
theorem dX8_bears_7 : decode cX8_bears 7 = .ok (.ifCond .eq 32, 3) := by decide +kernel
theorem dX8_bears_10 : decode cX8_bears 10 = .ok (.aload_n 0, 1) := by decide +kernel
theorem dX8_bears_11 : decode cX8_bears 11 = .ok (.getfield 14, 3) := by decide +kernel
theorem dX8_bears_14 : decode cX8_bears 14 = .ok (.iload_n 1, 1) := by decide +kernel
theorem dX8_bears_15 : decode cX8_bears 15 = .ok (.invokevirtual 195, 3) := by decide +kernel
theorem dX8_bears_18 : decode cX8_bears 18 = .ok (.ifCond .eq 21, 3) := by decide +kernel
theorem dX8_bears_21 : decode cX8_bears 21 = .ok (.aload_n 0, 1) := by decide +kernel
theorem dX8_bears_22 : decode cX8_bears 22 = .ok (.getfield 14, 3) := by decide +kernel
theorem dX8_bears_25 : decode cX8_bears 25 = .ok (.iload_n 2, 1) := by decide +kernel
theorem dX8_bears_26 : decode cX8_bears 26 = .ok (.invokevirtual 147, 3) := by decide +kernel
theorem dX8_bears_29 : decode cX8_bears 29 = .ok (.ifCond .eq 10, 3) := by decide +kernel
theorem dX8_bears_32 : decode cX8_bears 32 = .ok (.iload_n 3, 1) := by decide +kernel
theorem dX8_bears_33 : decode cX8_bears 33 = .ok (.invokestatic 175, 3) := by decide +kernel
theorem dX8_bears_36 : decode cX8_bears 36 = .ok (.ifCond .ne 7, 3) := by decide +kernel
theorem dX8_bears_39 : decode cX8_bears 39 = .ok (.ldc2_w 178, 3) := by decide +kernel
theorem dX8_bears_42 : decode cX8_bears 42 = .ok (.lreturn, 1) := by decide +kernel
theorem dX8_bears_43 : decode cX8_bears 43 = .ok (.aload_n 0, 1) := by decide +kernel
theorem dX8_bears_44 : decode cX8_bears 44 = .ok (.iload_n 1, 1) := by decide +kernel
theorem dX8_bears_45 : decode cX8_bears 45 = .ok (.invokevirtual 259, 3) := by decide +kernel
theorem dX8_bears_48 : decode cX8_bears 48 = .ok (.aload_n 0, 1) := by decide +kernel
theorem dX8_bears_49 : decode cX8_bears 49 = .ok (.aload_n 0, 1) := by decide +kernel
theorem dX8_bears_50 : decode cX8_bears 50 = .ok (.getfield 31, 3) := by decide +kernel
theorem dX8_bears_53 : decode cX8_bears 53 = .ok (.getfield 183, 3) := by decide +kernel
theorem dX8_bears_56 : decode cX8_bears 56 = .ok (.iload_n 2, 1) := by decide +kernel
theorem dX8_bears_57 : decode cX8_bears 57 = .ok (.laload, 1) := by decide +kernel
theorem dX8_bears_58 : decode cX8_bears 58 = .ok (.aload_n 0, 1) := by decide +kernel
theorem dX8_bears_59 : decode cX8_bears 59 = .ok (.getfield 31, 3) := by decide +kernel
theorem dX8_bears_62 : decode cX8_bears 62 = .ok (.getfield 187, 3) := by decide +kernel
theorem dX8_bears_65 : decode cX8_bears 65 = .ok (.iload_n 3, 1) := by decide +kernel
theorem dX8_bears_66 : decode cX8_bears 66 = .ok (.invokevirtual 191, 3) := by decide +kernel
theorem dX8_bears_69 : decode cX8_bears 69 = .ok (.lreturn, 1) := by decide +kernel
theorem dX8_best_0 : decode cX8_best 0 = .ok (.aload_n 0, 1) := by decide +kernel
theorem dX8_best_1 : decode cX8_best 1 = .ok (.getfield 14, 3) := by decide +kernel
theorem dX8_best_4 : decode cX8_best 4 = .ok (.iload_n 1, 1) := by decide +kernel
theorem dX8_best_5 : decode cX8_best 5 = .ok (.invokevirtual 147, 3) := by decide +kernel
theorem dX8_best_8 : decode cX8_best 8 = .ok (.ifCond .ne 5, 3) := by decide +kernel
theorem dX8_best_11 : decode cX8_best 11 = .ok (.iconst (-1), 1) := by decide +kernel
theorem dX8_best_12 : decode cX8_best 12 = .ok (.ireturn, 1) := by decide +kernel
theorem dX8_best_13 : decode cX8_best 13 = .ok (.aload_n 0, 1) := by decide +kernel
theorem dX8_best_14 : decode cX8_best 14 = .ok (.getfield 14, 3) := by decide +kernel
theorem dX8_best_17 : decode cX8_best 17 = .ok (.invokevirtual 171, 3) := by decide +kernel
theorem dX8_best_20 : decode cX8_best 20 = .ok (.ifCond .ne 6, 3) := by decide +kernel
theorem dX8_best_23 : decode cX8_best 23 = .ok (.bipush (-6), 2) := by decide +kernel
theorem dX8_best_25 : decode cX8_best 25 = .ok (.ireturn, 1) := by decide +kernel
theorem dX8_best_26 : decode cX8_best 26 = .ok (.iload_n 1, 1) := by decide +kernel
theorem dX8_best_27 : decode cX8_best 27 = .ok (.ifCond .ne 7, 3) := by decide +kernel
theorem dX8_best_30 : decode cX8_best 30 = .ok (.iconst 0, 1) := by decide +kernel
theorem dX8_best_31 : decode cX8_best 31 = .ok (.goto 16, 3) := by decide +kernel
theorem dX8_best_34 : decode cX8_best 34 = .ok (.aload_n 0, 1) := by decide +kernel
theorem dX8_best_35 : decode cX8_best 35 = .ok (.getfield 14, 3) := by decide +kernel
theorem dX8_best_38 : decode cX8_best 38 = .ok (.getfield 150, 3) := by decide +kernel
theorem dX8_best_41 : decode cX8_best 41 = .ok (.iload_n 1, 1) := by decide +kernel
theorem dX8_best_42 : decode cX8_best 42 = .ok (.iconst 1, 1) := by decide +kernel
theorem dX8_best_43 : decode cX8_best 43 = .ok (.isub, 1) := by decide +kernel
theorem dX8_best_44 : decode cX8_best 44 = .ok (.iaload, 1) := by decide +kernel
theorem dX8_best_45 : decode cX8_best 45 = .ok (.iconst 1, 1) := by decide +kernel
theorem dX8_best_46 : decode cX8_best 46 = .ok (.iadd, 1) := by decide +kernel
theorem dX8_best_47 : decode cX8_best 47 = .ok (.istore_n 2, 1) := by decide +kernel
theorem dX8_best_48 : decode cX8_best 48 = .ok (.iload_n 1, 1) := by decide +kernel
theorem dX8_best_49 : decode cX8_best 49 = .ok (.aload_n 0, 1) := by decide +kernel
theorem dX8_best_50 : decode cX8_best 50 = .ok (.getfield 14, 3) := by decide +kernel
theorem dX8_best_53 : decode cX8_best 53 = .ok (.getfield 156, 3) := by decide +kernel
theorem dX8_best_56 : decode cX8_best 56 = .ok (.iconst 1, 1) := by decide +kernel
theorem dX8_best_57 : decode cX8_best 57 = .ok (.isub, 1) := by decide +kernel
theorem dX8_best_58 : decode cX8_best 58 = .ok (.if_icmp .ne 13, 3) := by decide +kernel
theorem dX8_best_61 : decode cX8_best 61 = .ok (.aload_n 0, 1) := by decide +kernel
theorem dX8_best_62 : decode cX8_best 62 = .ok (.getfield 14, 3) := by decide +kernel
theorem dX8_best_65 : decode cX8_best 65 = .ok (.getfield 70, 3) := by decide +kernel
theorem dX8_best_68 : decode cX8_best 68 = .ok (.goto 16, 3) := by decide +kernel
theorem dX8_best_71 : decode cX8_best 71 = .ok (.aload_n 0, 1) := by decide +kernel
theorem dX8_best_72 : decode cX8_best 72 = .ok (.getfield 14, 3) := by decide +kernel
theorem dX8_best_75 : decode cX8_best 75 = .ok (.getfield 150, 3) := by decide +kernel
theorem dX8_best_78 : decode cX8_best 78 = .ok (.iload_n 1, 1) := by decide +kernel
theorem dX8_best_79 : decode cX8_best 79 = .ok (.iconst 1, 1) := by decide +kernel
theorem dX8_best_80 : decode cX8_best 80 = .ok (.iadd, 1) := by decide +kernel
theorem dX8_best_81 : decode cX8_best 81 = .ok (.iaload, 1) := by decide +kernel
theorem dX8_best_82 : decode cX8_best 82 = .ok (.iconst 1, 1) := by decide +kernel
theorem dX8_best_83 : decode cX8_best 83 = .ok (.isub, 1) := by decide +kernel
theorem dX8_best_84 : decode cX8_best 84 = .ok (.istore_n 3, 1) := by decide +kernel
theorem dX8_best_85 : decode cX8_best 85 = .ok (.iload_n 2, 1) := by decide +kernel
theorem dX8_best_86 : decode cX8_best 86 = .ok (.istore 4, 2) := by decide +kernel
theorem dX8_best_88 : decode cX8_best 88 = .ok (.iload_n 2, 1) := by decide +kernel
theorem dX8_best_89 : decode cX8_best 89 = .ok (.istore 5, 2) := by decide +kernel
theorem dX8_best_91 : decode cX8_best 91 = .ok (.iload 5, 2) := by decide +kernel
theorem dX8_best_93 : decode cX8_best 93 = .ok (.iload_n 3, 1) := by decide +kernel
theorem dX8_best_94 : decode cX8_best 94 = .ok (.if_icmp .gt 95, 3) := by decide +kernel
theorem dX8_best_97 : decode cX8_best 97 = .ok (.aload_n 0, 1) := by decide +kernel
theorem dX8_best_98 : decode cX8_best 98 = .ok (.getfield 31, 3) := by decide +kernel
theorem dX8_best_101 : decode cX8_best 101 = .ok (.aload_n 0, 1) := by decide +kernel
theorem dX8_best_102 : decode cX8_best 102 = .ok (.getfield 14, 3) := by decide +kernel
theorem dX8_best_105 : decode cX8_best 105 = .ok (.invokevirtual 262, 3) := by decide +kernel
theorem dX8_best_108 : decode cX8_best 108 = .ok (.aload_n 0, 1) := by decide +kernel
theorem dX8_best_109 : decode cX8_best 109 = .ok (.getfield 31, 3) := by decide +kernel
theorem dX8_best_112 : decode cX8_best 112 = .ok (.getfield 265, 3) := by decide +kernel
theorem dX8_best_115 : decode cX8_best 115 = .ok (.iload_n 1, 1) := by decide +kernel
theorem dX8_best_116 : decode cX8_best 116 = .ok (.iload 5, 2) := by decide +kernel
theorem dX8_best_118 : decode cX8_best 118 = .ok (.iastore, 1) := by decide +kernel
theorem dX8_best_119 : decode cX8_best 119 = .ok (.aload_n 0, 1) := by decide +kernel
theorem dX8_best_120 : decode cX8_best 120 = .ok (.getfield 31, 3) := by decide +kernel
theorem dX8_best_123 : decode cX8_best 123 = .ok (.aload_n 0, 1) := by decide +kernel
theorem dX8_best_124 : decode cX8_best 124 = .ok (.getfield 14, 3) := by decide +kernel
theorem dX8_best_127 : decode cX8_best 127 = .ok (.invokevirtual 266, 3) := by decide +kernel
theorem dX8_best_130 : decode cX8_best 130 = .ok (.aload_n 0, 1) := by decide +kernel
theorem dX8_best_131 : decode cX8_best 131 = .ok (.getfield 31, 3) := by decide +kernel
theorem dX8_best_134 : decode cX8_best 134 = .ok (.invokevirtual 269, 3) := by decide +kernel
theorem dX8_best_137 : decode cX8_best 137 = .ok (.aload_n 0, 1) := by decide +kernel
theorem dX8_best_138 : decode cX8_best 138 = .ok (.getfield 31, 3) := by decide +kernel
theorem dX8_best_141 : decode cX8_best 141 = .ok (.aload_n 0, 1) := by decide +kernel
theorem dX8_best_142 : decode cX8_best 142 = .ok (.getfield 38, 3) := by decide +kernel
theorem dX8_best_145 : decode cX8_best 145 = .ok (.invokevirtual 239, 3) := by decide +kernel
theorem dX8_best_148 : decode cX8_best 148 = .ok (.iload 5, 2) := by decide +kernel
theorem dX8_best_150 : decode cX8_best 150 = .ok (.iload_n 2, 1) := by decide +kernel
theorem dX8_best_151 : decode cX8_best 151 = .ok (.if_icmp .eq 17, 3) := by decide +kernel
theorem dX8_best_154 : decode cX8_best 154 = .ok (.aload_n 0, 1) := by decide +kernel
theorem dX8_best_155 : decode cX8_best 155 = .ok (.getfield 38, 3) := by decide +kernel
theorem dX8_best_158 : decode cX8_best 158 = .ok (.aload_n 0, 1) := by decide +kernel
theorem dX8_best_159 : decode cX8_best 159 = .ok (.getfield 42, 3) := by decide +kernel
theorem dX8_best_162 : decode cX8_best 162 = .ok (.invokevirtual 272, 3) := by decide +kernel
theorem dX8_best_165 : decode cX8_best 165 = .ok (.ifCond .ge 18, 3) := by decide +kernel
theorem dX8_best_168 : decode cX8_best 168 = .ok (.aload_n 0, 1) := by decide +kernel
theorem dX8_best_169 : decode cX8_best 169 = .ok (.getfield 42, 3) := by decide +kernel
theorem dX8_best_172 : decode cX8_best 172 = .ok (.aload_n 0, 1) := by decide +kernel
theorem dX8_best_173 : decode cX8_best 173 = .ok (.getfield 38, 3) := by decide +kernel
theorem dX8_best_176 : decode cX8_best 176 = .ok (.invokevirtual 276, 3) := by decide +kernel
theorem dX8_best_179 : decode cX8_best 179 = .ok (.iload 5, 2) := by decide +kernel
theorem dX8_best_181 : decode cX8_best 181 = .ok (.istore 4, 2) := by decide +kernel
theorem dX8_best_183 : decode cX8_best 183 = .ok (.iinc 5 1, 3) := by decide +kernel
theorem dX8_best_186 : decode cX8_best 186 = .ok (.goto (-95), 3) := by decide +kernel
theorem dX8_best_189 : decode cX8_best 189 = .ok (.iload 4, 2) := by decide +kernel
theorem dX8_best_191 : decode cX8_best 191 = .ok (.ireturn, 1) := by decide +kernel
theorem dX8_hinged_0 : decode cX8_hinged 0 = .ok (.aload_n 0, 1) := by decide +kernel
theorem dX8_hinged_1 : decode cX8_hinged 1 = .ok (.getfield 14, 3) := by decide +kernel
theorem dX8_hinged_4 : decode cX8_hinged 4 = .ok (.invokevirtual 171, 3) := by decide +kernel
theorem dX8_hinged_7 : decode cX8_hinged 7 = .ok (.ifCond .eq 39, 3) := by decide +kernel
theorem dX8_hinged_10 : decode cX8_hinged 10 = .ok (.iload_n 2, 1) := by decide +kernel
theorem dX8_hinged_11 : decode cX8_hinged 11 = .ok (.invokestatic 175, 3) := by decide +kernel
theorem dX8_hinged_14 : decode cX8_hinged 14 = .ok (.ifCond .eq 32, 3) := by decide +kernel
theorem dX8_hinged_17 : decode cX8_hinged 17 = .ok (.iload_n 1, 1) := by decide +kernel
theorem dX8_hinged_18 : decode cX8_hinged 18 = .ok (.ifCond .le 28, 3) := by decide +kernel
theorem dX8_hinged_21 : decode cX8_hinged 21 = .ok (.iload_n 1, 1) := by decide +kernel
theorem dX8_hinged_22 : decode cX8_hinged 22 = .ok (.aload_n 0, 1) := by decide +kernel
theorem dX8_hinged_23 : decode cX8_hinged 23 = .ok (.getfield 14, 3) := by decide +kernel
theorem dX8_hinged_26 : decode cX8_hinged 26 = .ok (.getfield 156, 3) := by decide +kernel
theorem dX8_hinged_29 : decode cX8_hinged 29 = .ok (.iconst 1, 1) := by decide +kernel
theorem dX8_hinged_30 : decode cX8_hinged 30 = .ok (.isub, 1) := by decide +kernel
theorem dX8_hinged_31 : decode cX8_hinged 31 = .ok (.if_icmp .ge 15, 3) := by decide +kernel
theorem dX8_hinged_34 : decode cX8_hinged 34 = .ok (.aload_n 0, 1) := by decide +kernel
theorem dX8_hinged_35 : decode cX8_hinged 35 = .ok (.getfield 14, 3) := by decide +kernel
theorem dX8_hinged_38 : decode cX8_hinged 38 = .ok (.getfield 153, 3) := by decide +kernel
theorem dX8_hinged_41 : decode cX8_hinged 41 = .ok (.iload_n 1, 1) := by decide +kernel
theorem dX8_hinged_42 : decode cX8_hinged 42 = .ok (.iaload, 1) := by decide +kernel
theorem dX8_hinged_43 : decode cX8_hinged 43 = .ok (.ifCond .eq 7, 3) := by decide +kernel
theorem dX8_hinged_46 : decode cX8_hinged 46 = .ok (.ldc2_w 178, 3) := by decide +kernel
theorem dX8_hinged_49 : decode cX8_hinged 49 = .ok (.lreturn, 1) := by decide +kernel
theorem dX8_hinged_50 : decode cX8_hinged 50 = .ok (.aload_n 0, 1) := by decide +kernel
theorem dX8_hinged_51 : decode cX8_hinged 51 = .ok (.getfield 31, 3) := by decide +kernel
theorem dX8_hinged_54 : decode cX8_hinged 54 = .ok (.aload_n 0, 1) := by decide +kernel
theorem dX8_hinged_55 : decode cX8_hinged 55 = .ok (.getfield 14, 3) := by decide +kernel
theorem dX8_hinged_58 : decode cX8_hinged 58 = .ok (.invokevirtual 262, 3) := by decide +kernel
theorem dX8_hinged_61 : decode cX8_hinged 61 = .ok (.aload_n 0, 1) := by decide +kernel
theorem dX8_hinged_62 : decode cX8_hinged 62 = .ok (.getfield 31, 3) := by decide +kernel
theorem dX8_hinged_65 : decode cX8_hinged 65 = .ok (.getfield 279, 3) := by decide +kernel
theorem dX8_hinged_68 : decode cX8_hinged 68 = .ok (.iload_n 1, 1) := by decide +kernel
theorem dX8_hinged_69 : decode cX8_hinged 69 = .ok (.iconst 1, 1) := by decide +kernel
theorem dX8_hinged_70 : decode cX8_hinged 70 = .ok (.iastore, 1) := by decide +kernel
theorem dX8_hinged_71 : decode cX8_hinged 71 = .ok (.aload_n 0, 1) := by decide +kernel
theorem dX8_hinged_72 : decode cX8_hinged 72 = .ok (.getfield 31, 3) := by decide +kernel
theorem dX8_hinged_75 : decode cX8_hinged 75 = .ok (.aload_n 0, 1) := by decide +kernel
theorem dX8_hinged_76 : decode cX8_hinged 76 = .ok (.getfield 14, 3) := by decide +kernel
theorem dX8_hinged_79 : decode cX8_hinged 79 = .ok (.invokevirtual 266, 3) := by decide +kernel
theorem dX8_hinged_82 : decode cX8_hinged 82 = .ok (.aload_n 0, 1) := by decide +kernel
theorem dX8_hinged_83 : decode cX8_hinged 83 = .ok (.getfield 31, 3) := by decide +kernel
theorem dX8_hinged_86 : decode cX8_hinged 86 = .ok (.invokevirtual 269, 3) := by decide +kernel
theorem dX8_hinged_89 : decode cX8_hinged 89 = .ok (.aload_n 0, 1) := by decide +kernel
theorem dX8_hinged_90 : decode cX8_hinged 90 = .ok (.getfield 31, 3) := by decide +kernel
theorem dX8_hinged_93 : decode cX8_hinged 93 = .ok (.aload_n 0, 1) := by decide +kernel
theorem dX8_hinged_94 : decode cX8_hinged 94 = .ok (.getfield 38, 3) := by decide +kernel
theorem dX8_hinged_97 : decode cX8_hinged 97 = .ok (.invokevirtual 239, 3) := by decide +kernel
theorem dX8_hinged_100 : decode cX8_hinged 100 = .ok (.aload_n 0, 1) := by decide +kernel
theorem dX8_hinged_101 : decode cX8_hinged 101 = .ok (.getfield 38, 3) := by decide +kernel
theorem dX8_hinged_104 : decode cX8_hinged 104 = .ok (.iload_n 2, 1) := by decide +kernel
theorem dX8_hinged_105 : decode cX8_hinged 105 = .ok (.invokevirtual 205, 3) := by decide +kernel
theorem dX8_hinged_108 : decode cX8_hinged 108 = .ok (.lreturn, 1) := by decide +kernel
theorem dX8_feed_0 : decode cX8_feed 0 = .ok (.iload_n 1, 1) := by decide +kernel
theorem dX8_feed_1 : decode cX8_feed 1 = .ok (.iconst 1, 1) := by decide +kernel
theorem dX8_feed_2 : decode cX8_feed 2 = .ok (.if_icmp .lt 9, 3) := by decide +kernel
theorem dX8_feed_5 : decode cX8_feed 5 = .ok (.iload_n 1, 1) := by decide +kernel
theorem dX8_feed_6 : decode cX8_feed 6 = .ok (.bipush 127, 2) := by decide +kernel
theorem dX8_feed_8 : decode cX8_feed 8 = .ok (.if_icmp .le 5, 3) := by decide +kernel
theorem dX8_feed_11 : decode cX8_feed 11 = .ok (.iconst (-1), 1) := by decide +kernel
theorem dX8_feed_12 : decode cX8_feed 12 = .ok (.ireturn, 1) := by decide +kernel
theorem dX8_feed_13 : decode cX8_feed 13 = .ok (.aload_n 0, 1) := by decide +kernel
theorem dX8_feed_14 : decode cX8_feed 14 = .ok (.getfield 48, 3) := by decide +kernel
theorem dX8_feed_17 : decode cX8_feed 17 = .ok (.iload_n 1, 1) := by decide +kernel
theorem dX8_feed_18 : decode cX8_feed 18 = .ok (.invokevirtual 280, 3) := by decide +kernel
theorem dX8_feed_21 : decode cX8_feed 21 = .ok (.ireturn, 1) := by decide +kernel
theorem dX8_reads_0 : decode cX8_reads 0 = .ok (.aload_n 0, 1) := by decide +kernel
theorem dX8_reads_1 : decode cX8_reads 1 = .ok (.getfield 48, 3) := by decide +kernel
theorem dX8_reads_4 : decode cX8_reads 4 = .ok (.aload_n 0, 1) := by decide +kernel
theorem dX8_reads_5 : decode cX8_reads 5 = .ok (.getfield 14, 3) := by decide +kernel
theorem dX8_reads_8 : decode cX8_reads 8 = .ok (.invokevirtual 283, 3) := by decide +kernel
theorem dX8_reads_11 : decode cX8_reads 11 = .ok (.istore_n 1, 1) := by decide +kernel
theorem dX8_reads_12 : decode cX8_reads 12 = .ok (.iload_n 1, 1) := by decide +kernel
theorem dX8_reads_13 : decode cX8_reads 13 = .ok (.ifCond .lt 24, 3) := by decide +kernel
theorem dX8_reads_16 : decode cX8_reads 16 = .ok (.aload_n 0, 1) := by decide +kernel
theorem dX8_reads_17 : decode cX8_reads 17 = .ok (.getfield 14, 3) := by decide +kernel
theorem dX8_reads_20 : decode cX8_reads 20 = .ok (.aload_n 0, 1) := by decide +kernel
theorem dX8_reads_21 : decode cX8_reads 21 = .ok (.getfield 48, 3) := by decide +kernel
theorem dX8_reads_24 : decode cX8_reads 24 = .ok (.getfield 287, 3) := by decide +kernel
theorem dX8_reads_27 : decode cX8_reads 27 = .ok (.invokevirtual 290, 3) := by decide +kernel
theorem dX8_reads_30 : decode cX8_reads 30 = .ok (.aload_n 0, 1) := by decide +kernel
theorem dX8_reads_31 : decode cX8_reads 31 = .ok (.getfield 21, 3) := by decide +kernel
theorem dX8_reads_34 : decode cX8_reads 34 = .ok (.invokevirtual 78, 3) := by decide +kernel
theorem dX8_reads_37 : decode cX8_reads 37 = .ok (.aload_n 0, 1) := by decide +kernel
theorem dX8_reads_38 : decode cX8_reads 38 = .ok (.getfield 48, 3) := by decide +kernel
theorem dX8_reads_41 : decode cX8_reads 41 = .ok (.iconst 0, 1) := by decide +kernel
theorem dX8_reads_42 : decode cX8_reads 42 = .ok (.putfield 165, 3) := by decide +kernel
theorem dX8_reads_45 : decode cX8_reads 45 = .ok (.iload_n 1, 1) := by decide +kernel
theorem dX8_reads_46 : decode cX8_reads 46 = .ok (.ireturn, 1) := by decide +kernel
theorem dX8_prints_0 : decode cX8_prints 0 = .ok (.aload_n 0, 1) := by decide +kernel
theorem dX8_prints_1 : decode cX8_prints 1 = .ok (.getfield 14, 3) := by decide +kernel
theorem dX8_prints_4 : decode cX8_prints 4 = .ok (.invokevirtual 171, 3) := by decide +kernel
theorem dX8_prints_7 : decode cX8_prints 7 = .ok (.ifCond .ne 6, 3) := by decide +kernel
theorem dX8_prints_10 : decode cX8_prints 10 = .ok (.bipush (-6), 2) := by decide +kernel
theorem dX8_prints_12 : decode cX8_prints 12 = .ok (.ireturn, 1) := by decide +kernel
theorem dX8_prints_13 : decode cX8_prints 13 = .ok (.aload_n 0, 1) := by decide +kernel
theorem dX8_prints_14 : decode cX8_prints 14 = .ok (.invokevirtual 180, 3) := by decide +kernel
theorem dX8_prints_17 : decode cX8_prints 17 = .ok (.aload_n 0, 1) := by decide +kernel
theorem dX8_prints_18 : decode cX8_prints 18 = .ok (.getfield 55, 3) := by decide +kernel
theorem dX8_prints_21 : decode cX8_prints 21 = .ok (.iconst 0, 1) := by decide +kernel
theorem dX8_prints_22 : decode cX8_prints 22 = .ok (.putfield 166, 3) := by decide +kernel
theorem dX8_prints_25 : decode cX8_prints 25 = .ok (.iconst 0, 1) := by decide +kernel
theorem dX8_prints_26 : decode cX8_prints 26 = .ok (.istore_n 1, 1) := by decide +kernel
theorem dX8_prints_27 : decode cX8_prints 27 = .ok (.iload_n 1, 1) := by decide +kernel
theorem dX8_prints_28 : decode cX8_prints 28 = .ok (.aload_n 0, 1) := by decide +kernel
theorem dX8_prints_29 : decode cX8_prints 29 = .ok (.getfield 14, 3) := by decide +kernel
theorem dX8_prints_32 : decode cX8_prints 32 = .ok (.getfield 70, 3) := by decide +kernel
theorem dX8_prints_35 : decode cX8_prints 35 = .ok (.if_icmp .ge 14, 3) := by decide +kernel
theorem dX8_prints_38 : decode cX8_prints 38 = .ok (.aload_n 0, 1) := by decide +kernel
theorem dX8_prints_39 : decode cX8_prints 39 = .ok (.iload_n 1, 1) := by decide +kernel
theorem dX8_prints_40 : decode cX8_prints 40 = .ok (.invokevirtual 293, 3) := by decide +kernel
theorem dX8_prints_43 : decode cX8_prints 43 = .ok (.iinc 1 1, 3) := by decide +kernel
theorem dX8_prints_46 : decode cX8_prints 46 = .ok (.goto (-19), 3) := by decide +kernel
theorem dX8_prints_49 : decode cX8_prints 49 = .ok (.aload_n 0, 1) := by decide +kernel
theorem dX8_prints_50 : decode cX8_prints 50 = .ok (.getfield 55, 3) := by decide +kernel
theorem dX8_prints_53 : decode cX8_prints 53 = .ok (.getfield 166, 3) := by decide +kernel
theorem dX8_prints_56 : decode cX8_prints 56 = .ok (.ireturn, 1) := by decide +kernel
theorem dX8_paper_0 : decode cX8_paper 0 = .ok (.iload_n 1, 1) := by decide +kernel
theorem dX8_paper_1 : decode cX8_paper 1 = .ok (.ifCond .ge 5, 3) := by decide +kernel
theorem dX8_paper_4 : decode cX8_paper 4 = .ok (.iconst (-1), 1) := by decide +kernel
theorem dX8_paper_5 : decode cX8_paper 5 = .ok (.ireturn, 1) := by decide +kernel
theorem dX8_paper_6 : decode cX8_paper 6 = .ok (.iload_n 1, 1) := by decide +kernel
theorem dX8_paper_7 : decode cX8_paper 7 = .ok (.aload_n 0, 1) := by decide +kernel
theorem dX8_paper_8 : decode cX8_paper 8 = .ok (.getfield 55, 3) := by decide +kernel
theorem dX8_paper_11 : decode cX8_paper 11 = .ok (.getfield 166, 3) := by decide +kernel
theorem dX8_paper_14 : decode cX8_paper 14 = .ok (.if_icmp .ge 15, 3) := by decide +kernel
theorem dX8_paper_17 : decode cX8_paper 17 = .ok (.aload_n 0, 1) := by decide +kernel
theorem dX8_paper_18 : decode cX8_paper 18 = .ok (.getfield 55, 3) := by decide +kernel
theorem dX8_paper_21 : decode cX8_paper 21 = .ok (.getfield 296, 3) := by decide +kernel
theorem dX8_paper_24 : decode cX8_paper 24 = .ok (.iload_n 1, 1) := by decide +kernel
theorem dX8_paper_25 : decode cX8_paper 25 = .ok (.baload, 1) := by decide +kernel
theorem dX8_paper_26 : decode cX8_paper 26 = .ok (.goto 5, 3) := by decide +kernel
theorem dX8_paper_29 : decode cX8_paper 29 = .ok (.bipush (-2), 2) := by decide +kernel
theorem dX8_paper_31 : decode cX8_paper 31 = .ok (.ireturn, 1) := by decide +kernel
theorem dX8_list_0 : decode cX8_list 0 = .ok (.iload_n 1, 1) := by decide +kernel
theorem dX8_list_1 : decode cX8_list 1 = .ok (.invokestatic 300, 3) := by decide +kernel
theorem dX8_list_4 : decode cX8_list 4 = .ok (.ifCond .eq 9, 3) := by decide +kernel
theorem dX8_list_7 : decode cX8_list 7 = .ok (.iload_n 2, 1) := by decide +kernel
theorem dX8_list_8 : decode cX8_list 8 = .ok (.bipush 24, 2) := by decide +kernel
theorem dX8_list_10 : decode cX8_list 10 = .ok (.if_icmp .le 5, 3) := by decide +kernel
theorem dX8_list_13 : decode cX8_list 13 = .ok (.iconst (-1), 1) := by decide +kernel
theorem dX8_list_14 : decode cX8_list 14 = .ok (.ireturn, 1) := by decide +kernel
theorem dX8_list_15 : decode cX8_list 15 = .ok (.iload_n 2, 1) := by decide +kernel
theorem dX8_list_16 : decode cX8_list 16 = .ok (.ifCond .ge 6, 3) := by decide +kernel
theorem dX8_list_19 : decode cX8_list 19 = .ok (.bipush (-14), 2) := by decide +kernel
theorem dX8_list_21 : decode cX8_list 21 = .ok (.ireturn, 1) := by decide +kernel
theorem dX8_list_22 : decode cX8_list 22 = .ok (.aload_n 0, 1) := by decide +kernel
theorem dX8_list_23 : decode cX8_list 23 = .ok (.getfield 62, 3) := by decide +kernel
theorem dX8_list_26 : decode cX8_list 26 = .ok (.iload_n 1, 1) := by decide +kernel
theorem dX8_list_27 : decode cX8_list 27 = .ok (.iload_n 2, 1) := by decide +kernel
theorem dX8_list_28 : decode cX8_list 28 = .ok (.invokevirtual 303, 3) := by decide +kernel
theorem dX8_list_31 : decode cX8_list 31 = .ok (.iconst 1, 1) := by decide +kernel
theorem dX8_list_32 : decode cX8_list 32 = .ok (.ireturn, 1) := by decide +kernel
theorem dX8_set_0 : decode cX8_set 0 = .ok (.iload_n 1, 1) := by decide +kernel
theorem dX8_set_1 : decode cX8_set 1 = .ok (.invokestatic 300, 3) := by decide +kernel
theorem dX8_set_4 : decode cX8_set 4 = .ok (.ifCond .ne 5, 3) := by decide +kernel
theorem dX8_set_7 : decode cX8_set 7 = .ok (.iconst (-1), 1) := by decide +kernel
theorem dX8_set_8 : decode cX8_set 8 = .ok (.ireturn, 1) := by decide +kernel
theorem dX8_set_9 : decode cX8_set 9 = .ok (.aload_n 0, 1) := by decide +kernel
theorem dX8_set_10 : decode cX8_set 10 = .ok (.getfield 62, 3) := by decide +kernel
theorem dX8_set_13 : decode cX8_set 13 = .ok (.iload_n 1, 1) := by decide +kernel
theorem dX8_set_14 : decode cX8_set 14 = .ok (.invokevirtual 307, 3) := by decide +kernel
theorem dX8_set_17 : decode cX8_set 17 = .ok (.ifCond .ne 6, 3) := by decide +kernel
theorem dX8_set_20 : decode cX8_set 20 = .ok (.bipush (-11), 2) := by decide +kernel
theorem dX8_set_22 : decode cX8_set 22 = .ok (.ireturn, 1) := by decide +kernel
theorem dX8_set_23 : decode cX8_set 23 = .ok (.aload_n 0, 1) := by decide +kernel
theorem dX8_set_24 : decode cX8_set 24 = .ok (.getfield 62, 3) := by decide +kernel
theorem dX8_set_27 : decode cX8_set 27 = .ok (.iload_n 1, 1) := by decide +kernel
theorem dX8_set_28 : decode cX8_set 28 = .ok (.iload_n 2, 1) := by decide +kernel
theorem dX8_set_29 : decode cX8_set 29 = .ok (.invokevirtual 310, 3) := by decide +kernel
theorem dX8_set_32 : decode cX8_set 32 = .ok (.ifCond .ne 6, 3) := by decide +kernel
theorem dX8_set_35 : decode cX8_set 35 = .ok (.bipush (-13), 2) := by decide +kernel
theorem dX8_set_37 : decode cX8_set 37 = .ok (.ireturn, 1) := by decide +kernel
theorem dX8_set_38 : decode cX8_set 38 = .ok (.aload_n 0, 1) := by decide +kernel
theorem dX8_set_39 : decode cX8_set 39 = .ok (.getfield 62, 3) := by decide +kernel
theorem dX8_set_42 : decode cX8_set 42 = .ok (.iload_n 1, 1) := by decide +kernel
theorem dX8_set_43 : decode cX8_set 43 = .ok (.iload_n 2, 1) := by decide +kernel
theorem dX8_set_44 : decode cX8_set 44 = .ok (.lload_n 3, 1) := by decide +kernel
theorem dX8_set_45 : decode cX8_set 45 = .ok (.invokevirtual 314, 3) := by decide +kernel
theorem dX8_set_48 : decode cX8_set 48 = .ok (.iconst 1, 1) := by decide +kernel
theorem dX8_set_49 : decode cX8_set 49 = .ok (.ireturn, 1) := by decide +kernel
theorem dX8_get_0 : decode cX8_get 0 = .ok (.aload_n 0, 1) := by decide +kernel
theorem dX8_get_1 : decode cX8_get 1 = .ok (.getfield 62, 3) := by decide +kernel
theorem dX8_get_4 : decode cX8_get 4 = .ok (.iload_n 1, 1) := by decide +kernel
theorem dX8_get_5 : decode cX8_get 5 = .ok (.iload_n 2, 1) := by decide +kernel
theorem dX8_get_6 : decode cX8_get 6 = .ok (.invokevirtual 318, 3) := by decide +kernel
theorem dX8_get_9 : decode cX8_get 9 = .ok (.lreturn, 1) := by decide +kernel
theorem dX8_into_0 : decode cX8_into 0 = .ok (.iload_n 1, 1) := by decide +kernel
theorem dX8_into_1 : decode cX8_into 1 = .ok (.invokestatic 300, 3) := by decide +kernel
theorem dX8_into_4 : decode cX8_into 4 = .ok (.ifCond .ne 5, 3) := by decide +kernel
theorem dX8_into_7 : decode cX8_into 7 = .ok (.iconst (-1), 1) := by decide +kernel
theorem dX8_into_8 : decode cX8_into 8 = .ok (.ireturn, 1) := by decide +kernel
theorem dX8_into_9 : decode cX8_into 9 = .ok (.aload_n 0, 1) := by decide +kernel
theorem dX8_into_10 : decode cX8_into 10 = .ok (.getfield 14, 3) := by decide +kernel
theorem dX8_into_13 : decode cX8_into 13 = .ok (.invokevirtual 171, 3) := by decide +kernel
theorem dX8_into_16 : decode cX8_into 16 = .ok (.ifCond .ne 6, 3) := by decide +kernel
theorem dX8_into_19 : decode cX8_into 19 = .ok (.bipush (-6), 2) := by decide +kernel
theorem dX8_into_21 : decode cX8_into 21 = .ok (.ireturn, 1) := by decide +kernel
theorem dX8_into_22 : decode cX8_into 22 = .ok (.aload_n 0, 1) := by decide +kernel
theorem dX8_into_23 : decode cX8_into 23 = .ok (.getfield 62, 3) := by decide +kernel
theorem dX8_into_26 : decode cX8_into 26 = .ok (.iload_n 1, 1) := by decide +kernel
theorem dX8_into_27 : decode cX8_into 27 = .ok (.invokevirtual 307, 3) := by decide +kernel
theorem dX8_into_30 : decode cX8_into 30 = .ok (.ifCond .ne 6, 3) := by decide +kernel
theorem dX8_into_33 : decode cX8_into 33 = .ok (.bipush (-11), 2) := by decide +kernel
theorem dX8_into_35 : decode cX8_into 35 = .ok (.ireturn, 1) := by decide +kernel
theorem dX8_into_36 : decode cX8_into 36 = .ok (.iload_n 2, 1) := by decide +kernel
theorem dX8_into_37 : decode cX8_into 37 = .ok (.ifCond .ge 6, 3) := by decide +kernel
theorem dX8_into_40 : decode cX8_into 40 = .ok (.bipush (-13), 2) := by decide +kernel
theorem dX8_into_42 : decode cX8_into 42 = .ok (.ireturn, 1) := by decide +kernel
theorem dX8_into_43 : decode cX8_into 43 = .ok (.aload_n 0, 1) := by decide +kernel
theorem dX8_into_44 : decode cX8_into 44 = .ok (.invokevirtual 180, 3) := by decide +kernel
theorem dX8_into_47 : decode cX8_into 47 = .ok (.iconst 0, 1) := by decide +kernel
theorem dX8_into_48 : decode cX8_into 48 = .ok (.istore_n 3, 1) := by decide +kernel
theorem dX8_into_49 : decode cX8_into 49 = .ok (.iload_n 2, 1) := by decide +kernel
theorem dX8_into_50 : decode cX8_into 50 = .ok (.istore 4, 2) := by decide +kernel
theorem dX8_into_52 : decode cX8_into 52 = .ok (.aload_n 0, 1) := by decide +kernel
theorem dX8_into_53 : decode cX8_into 53 = .ok (.getfield 62, 3) := by decide +kernel
theorem dX8_into_56 : decode cX8_into 56 = .ok (.iload_n 1, 1) := by decide +kernel
theorem dX8_into_57 : decode cX8_into 57 = .ok (.iload 4, 2) := by decide +kernel
theorem dX8_into_59 : decode cX8_into 59 = .ok (.invokevirtual 310, 3) := by decide +kernel
theorem dX8_into_62 : decode cX8_into 62 = .ok (.ifCond .eq 35, 3) := by decide +kernel
theorem dX8_into_65 : decode cX8_into 65 = .ok (.iload_n 3, 1) := by decide +kernel
theorem dX8_into_66 : decode cX8_into 66 = .ok (.aload_n 0, 1) := by decide +kernel
theorem dX8_into_67 : decode cX8_into 67 = .ok (.invokevirtual 322, 3) := by decide +kernel
theorem dX8_into_70 : decode cX8_into 70 = .ok (.if_icmp .ge 27, 3) := by decide +kernel
theorem dX8_into_73 : decode cX8_into 73 = .ok (.aload_n 0, 1) := by decide +kernel
theorem dX8_into_74 : decode cX8_into 74 = .ok (.getfield 62, 3) := by decide +kernel
theorem dX8_into_77 : decode cX8_into 77 = .ok (.iload_n 1, 1) := by decide +kernel
theorem dX8_into_78 : decode cX8_into 78 = .ok (.iload 4, 2) := by decide +kernel
theorem dX8_into_80 : decode cX8_into 80 = .ok (.aload_n 0, 1) := by decide +kernel
theorem dX8_into_81 : decode cX8_into 81 = .ok (.iload_n 3, 1) := by decide +kernel
theorem dX8_into_82 : decode cX8_into 82 = .ok (.invokevirtual 325, 3) := by decide +kernel
theorem dX8_into_85 : decode cX8_into 85 = .ok (.invokevirtual 314, 3) := by decide +kernel
theorem dX8_into_88 : decode cX8_into 88 = .ok (.iinc 3 1, 3) := by decide +kernel
theorem dX8_into_91 : decode cX8_into 91 = .ok (.iinc 4 1, 3) := by decide +kernel
theorem dX8_into_94 : decode cX8_into 94 = .ok (.goto (-42), 3) := by decide +kernel
theorem dX8_into_97 : decode cX8_into 97 = .ok (.iload_n 3, 1) := by decide +kernel
theorem dX8_into_98 : decode cX8_into 98 = .ok (.ireturn, 1) := by decide +kernel
theorem dX8_judge_0 : decode cX8_judge 0 = .ok (.iload_n 1, 1) := by decide +kernel
theorem dX8_judge_1 : decode cX8_judge 1 = .ok (.invokestatic 300, 3) := by decide +kernel
theorem dX8_judge_4 : decode cX8_judge 4 = .ok (.ifCond .eq 7, 3) := by decide +kernel
theorem dX8_judge_7 : decode cX8_judge 7 = .ok (.iload_n 2, 1) := by decide +kernel
theorem dX8_judge_8 : decode cX8_judge 8 = .ok (.ifCond .ge 5, 3) := by decide +kernel
theorem dX8_judge_11 : decode cX8_judge 11 = .ok (.iconst (-1), 1) := by decide +kernel
theorem dX8_judge_12 : decode cX8_judge 12 = .ok (.ireturn, 1) := by decide +kernel
theorem dX8_judge_13 : decode cX8_judge 13 = .ok (.aload_n 0, 1) := by decide +kernel
theorem dX8_judge_14 : decode cX8_judge 14 = .ok (.getfield 14, 3) := by decide +kernel
theorem dX8_judge_17 : decode cX8_judge 17 = .ok (.invokevirtual 171, 3) := by decide +kernel
theorem dX8_judge_20 : decode cX8_judge 20 = .ok (.ifCond .ne 6, 3) := by decide +kernel
theorem dX8_judge_23 : decode cX8_judge 23 = .ok (.bipush (-6), 2) := by decide +kernel
theorem dX8_judge_25 : decode cX8_judge 25 = .ok (.ireturn, 1) := by decide +kernel
theorem dX8_judge_26 : decode cX8_judge 26 = .ok (.aload_n 0, 1) := by decide +kernel
theorem dX8_judge_27 : decode cX8_judge 27 = .ok (.getfield 62, 3) := by decide +kernel
theorem dX8_judge_30 : decode cX8_judge 30 = .ok (.iload_n 1, 1) := by decide +kernel
theorem dX8_judge_31 : decode cX8_judge 31 = .ok (.invokevirtual 307, 3) := by decide +kernel
theorem dX8_judge_34 : decode cX8_judge 34 = .ok (.ifCond .ne 6, 3) := by decide +kernel
theorem dX8_judge_37 : decode cX8_judge 37 = .ok (.bipush (-11), 2) := by decide +kernel
theorem dX8_judge_39 : decode cX8_judge 39 = .ok (.ireturn, 1) := by decide +kernel
theorem dX8_judge_40 : decode cX8_judge 40 = .ok (.aload_n 0, 1) := by decide +kernel
theorem dX8_judge_41 : decode cX8_judge 41 = .ok (.invokevirtual 180, 3) := by decide +kernel
theorem dX8_judge_44 : decode cX8_judge 44 = .ok (.iconst 0, 1) := by decide +kernel
theorem dX8_judge_45 : decode cX8_judge 45 = .ok (.istore_n 3, 1) := by decide +kernel
theorem dX8_judge_46 : decode cX8_judge 46 = .ok (.iload_n 2, 1) := by decide +kernel
theorem dX8_judge_47 : decode cX8_judge 47 = .ok (.istore 4, 2) := by decide +kernel
theorem dX8_judge_49 : decode cX8_judge 49 = .ok (.aload_n 0, 1) := by decide +kernel
theorem dX8_judge_50 : decode cX8_judge 50 = .ok (.getfield 62, 3) := by decide +kernel
theorem dX8_judge_53 : decode cX8_judge 53 = .ok (.iload_n 1, 1) := by decide +kernel
theorem dX8_judge_54 : decode cX8_judge 54 = .ok (.iload 4, 2) := by decide +kernel
theorem dX8_judge_56 : decode cX8_judge 56 = .ok (.invokevirtual 310, 3) := by decide +kernel
theorem dX8_judge_59 : decode cX8_judge 59 = .ok (.ifCond .eq 43, 3) := by decide +kernel
theorem dX8_judge_62 : decode cX8_judge 62 = .ok (.iload_n 3, 1) := by decide +kernel
theorem dX8_judge_63 : decode cX8_judge 63 = .ok (.aload_n 0, 1) := by decide +kernel
theorem dX8_judge_64 : decode cX8_judge 64 = .ok (.invokevirtual 322, 3) := by decide +kernel
theorem dX8_judge_67 : decode cX8_judge 67 = .ok (.if_icmp .ge 35, 3) := by decide +kernel
theorem dX8_judge_70 : decode cX8_judge 70 = .ok (.aload_n 0, 1) := by decide +kernel
theorem dX8_judge_71 : decode cX8_judge 71 = .ok (.getfield 62, 3) := by decide +kernel
theorem dX8_judge_74 : decode cX8_judge 74 = .ok (.iload_n 1, 1) := by decide +kernel
theorem dX8_judge_75 : decode cX8_judge 75 = .ok (.iload 4, 2) := by decide +kernel
theorem dX8_judge_77 : decode cX8_judge 77 = .ok (.invokevirtual 318, 3) := by decide +kernel
theorem dX8_judge_80 : decode cX8_judge 80 = .ok (.aload_n 0, 1) := by decide +kernel
theorem dX8_judge_81 : decode cX8_judge 81 = .ok (.iload_n 3, 1) := by decide +kernel
theorem dX8_judge_82 : decode cX8_judge 82 = .ok (.invokevirtual 325, 3) := by decide +kernel
theorem dX8_judge_85 : decode cX8_judge 85 = .ok (.lcmp, 1) := by decide +kernel
theorem dX8_judge_86 : decode cX8_judge 86 = .ok (.ifCond .eq 7, 3) := by decide +kernel
theorem dX8_judge_89 : decode cX8_judge 89 = .ok (.iload_n 3, 1) := by decide +kernel
theorem dX8_judge_90 : decode cX8_judge 90 = .ok (.iconst 2, 1) := by decide +kernel
theorem dX8_judge_91 : decode cX8_judge 91 = .ok (.idiv, 1) := by decide +kernel
theorem dX8_judge_92 : decode cX8_judge 92 = .ok (.ireturn, 1) := by decide +kernel
theorem dX8_judge_93 : decode cX8_judge 93 = .ok (.iinc 3 1, 3) := by decide +kernel
theorem dX8_judge_96 : decode cX8_judge 96 = .ok (.iinc 4 1, 3) := by decide +kernel
theorem dX8_judge_99 : decode cX8_judge 99 = .ok (.goto (-50), 3) := by decide +kernel
theorem dX8_judge_102 : decode cX8_judge 102 = .ok (.iload_n 3, 1) := by decide +kernel
theorem dX8_judge_103 : decode cX8_judge 103 = .ok (.aload_n 0, 1) := by decide +kernel
theorem dX8_judge_104 : decode cX8_judge 104 = .ok (.invokevirtual 322, 3) := by decide +kernel
theorem dX8_judge_107 : decode cX8_judge 107 = .ok (.if_icmp .ne 8, 3) := by decide +kernel
theorem dX8_judge_110 : decode cX8_judge 110 = .ok (.bipush (-2), 2) := by decide +kernel
theorem dX8_judge_112 : decode cX8_judge 112 = .ok (.goto 9, 3) := by decide +kernel
theorem dX8_judge_115 : decode cX8_judge 115 = .ok (.bipush 100, 2) := by decide +kernel
theorem dX8_judge_117 : decode cX8_judge 117 = .ok (.iload_n 3, 1) := by decide +kernel
theorem dX8_judge_118 : decode cX8_judge 118 = .ok (.iconst 2, 1) := by decide +kernel
theorem dX8_judge_119 : decode cX8_judge 119 = .ok (.idiv, 1) := by decide +kernel
theorem dX8_judge_120 : decode cX8_judge 120 = .ok (.iadd, 1) := by decide +kernel
theorem dX8_judge_121 : decode cX8_judge 121 = .ok (.ireturn, 1) := by decide +kernel
theorem dX8_undo_0 : decode cX8_undo 0 = .ok (.aload_n 0, 1) := by decide +kernel
theorem dX8_undo_1 : decode cX8_undo 1 = .ok (.getfield 21, 3) := by decide +kernel
theorem dX8_undo_4 : decode cX8_undo 4 = .ok (.getfield 162, 3) := by decide +kernel
theorem dX8_undo_7 : decode cX8_undo 7 = .ok (.ifCond .ne 6, 3) := by decide +kernel
theorem dX8_undo_10 : decode cX8_undo 10 = .ok (.bipush (-2), 2) := by decide +kernel
theorem dX8_undo_12 : decode cX8_undo 12 = .ok (.ireturn, 1) := by decide +kernel
theorem dX8_undo_13 : decode cX8_undo 13 = .ok (.aload_n 0, 1) := by decide +kernel
theorem dX8_undo_14 : decode cX8_undo 14 = .ok (.getfield 21, 3) := by decide +kernel
theorem dX8_undo_17 : decode cX8_undo 17 = .ok (.aload_n 0, 1) := by decide +kernel
theorem dX8_undo_18 : decode cX8_undo 18 = .ok (.getfield 14, 3) := by decide +kernel
theorem dX8_undo_21 : decode cX8_undo 21 = .ok (.invokevirtual 328, 3) := by decide +kernel
theorem dX8_undo_24 : decode cX8_undo 24 = .ok (.aload_n 0, 1) := by decide +kernel
theorem dX8_undo_25 : decode cX8_undo 25 = .ok (.getfield 21, 3) := by decide +kernel
theorem dX8_undo_28 : decode cX8_undo 28 = .ok (.getfield 162, 3) := by decide +kernel
theorem dX8_undo_31 : decode cX8_undo 31 = .ok (.ireturn, 1) := by decide +kernel
theorem dX8_image_0 : decode cX8_image 0 = .ok (.aload_n 0, 1) := by decide +kernel
theorem dX8_image_1 : decode cX8_image 1 = .ok (.getfield 25, 3) := by decide +kernel
theorem dX8_image_4 : decode cX8_image 4 = .ok (.aload_n 0, 1) := by decide +kernel
theorem dX8_image_5 : decode cX8_image 5 = .ok (.getfield 14, 3) := by decide +kernel
theorem dX8_image_8 : decode cX8_image 8 = .ok (.invokevirtual 290, 3) := by decide +kernel
theorem dX8_image_11 : decode cX8_image 11 = .ok (.aload_n 0, 1) := by decide +kernel
theorem dX8_image_12 : decode cX8_image 12 = .ok (.iconst 1, 1) := by decide +kernel
theorem dX8_image_13 : decode cX8_image 13 = .ok (.putfield 331, 3) := by decide +kernel
theorem dX8_image_16 : decode cX8_image 16 = .ok (.aload_n 0, 1) := by decide +kernel
theorem dX8_image_17 : decode cX8_image 17 = .ok (.getfield 14, 3) := by decide +kernel
theorem dX8_image_20 : decode cX8_image 20 = .ok (.getfield 70, 3) := by decide +kernel
theorem dX8_image_23 : decode cX8_image 23 = .ok (.ireturn, 1) := by decide +kernel
theorem dX8_back_0 : decode cX8_back 0 = .ok (.aload_n 0, 1) := by decide +kernel
theorem dX8_back_1 : decode cX8_back 1 = .ok (.getfield 331, 3) := by decide +kernel
theorem dX8_back_4 : decode cX8_back 4 = .ok (.ifCond .ne 6, 3) := by decide +kernel
theorem dX8_back_7 : decode cX8_back 7 = .ok (.bipush (-2), 2) := by decide +kernel
theorem dX8_back_9 : decode cX8_back 9 = .ok (.ireturn, 1) := by decide +kernel
theorem dX8_back_10 : decode cX8_back 10 = .ok (.aload_n 0, 1) := by decide +kernel
theorem dX8_back_11 : decode cX8_back 11 = .ok (.getfield 14, 3) := by decide +kernel
theorem dX8_back_14 : decode cX8_back 14 = .ok (.aload_n 0, 1) := by decide +kernel
theorem dX8_back_15 : decode cX8_back 15 = .ok (.getfield 25, 3) := by decide +kernel
theorem dX8_back_18 : decode cX8_back 18 = .ok (.invokevirtual 290, 3) := by decide +kernel
theorem dX8_back_21 : decode cX8_back 21 = .ok (.aload_n 0, 1) := by decide +kernel
theorem dX8_back_22 : decode cX8_back 22 = .ok (.getfield 21, 3) := by decide +kernel
theorem dX8_back_25 : decode cX8_back 25 = .ok (.invokevirtual 78, 3) := by decide +kernel
theorem dX8_back_28 : decode cX8_back 28 = .ok (.aload_n 0, 1) := by decide +kernel
theorem dX8_back_29 : decode cX8_back 29 = .ok (.getfield 14, 3) := by decide +kernel
theorem dX8_back_32 : decode cX8_back 32 = .ok (.getfield 70, 3) := by decide +kernel
theorem dX8_back_35 : decode cX8_back 35 = .ok (.ireturn, 1) := by decide +kernel
theorem dX8_isPart_0 : decode cX8_isPart 0 = .ok (.iload_n 0, 1) := by decide +kernel
theorem dX8_isPart_1 : decode cX8_isPart 1 = .ok (.ifCond .eq 8, 3) := by decide +kernel
theorem dX8_isPart_4 : decode cX8_isPart 4 = .ok (.iload_n 0, 1) := by decide +kernel
theorem dX8_isPart_5 : decode cX8_isPart 5 = .ok (.iconst 1, 1) := by decide +kernel
theorem dX8_isPart_6 : decode cX8_isPart 6 = .ok (.if_icmp .ne 7, 3) := by decide +kernel
theorem dX8_isPart_9 : decode cX8_isPart 9 = .ok (.iconst 1, 1) := by decide +kernel
theorem dX8_isPart_10 : decode cX8_isPart 10 = .ok (.goto 4, 3) := by decide +kernel
theorem dX8_isPart_13 : decode cX8_isPart 13 = .ok (.iconst 0, 1) := by decide +kernel
theorem dX8_isPart_14 : decode cX8_isPart 14 = .ok (.ireturn, 1) := by decide +kernel
theorem dX8_isV_0 : decode cX8_isV 0 = .ok (.iload_n 0, 1) := by decide +kernel
theorem dX8_isV_1 : decode cX8_isV 1 = .ok (.bipush (-9), 2) := by decide +kernel
theorem dX8_isV_3 : decode cX8_isV 3 = .ok (.if_icmp .lt 13, 3) := by decide +kernel
theorem dX8_isV_6 : decode cX8_isV 6 = .ok (.iload_n 0, 1) := by decide +kernel
theorem dX8_isV_7 : decode cX8_isV 7 = .ok (.bipush 9, 2) := by decide +kernel
theorem dX8_isV_9 : decode cX8_isV 9 = .ok (.if_icmp .gt 7, 3) := by decide +kernel
theorem dX8_isV_12 : decode cX8_isV 12 = .ok (.iconst 1, 1) := by decide +kernel
theorem dX8_isV_13 : decode cX8_isV 13 = .ok (.goto 4, 3) := by decide +kernel
theorem dX8_isV_16 : decode cX8_isV 16 = .ok (.iconst 0, 1) := by decide +kernel
theorem dX8_isV_17 : decode cX8_isV 17 = .ok (.ireturn, 1) := by decide +kernel
theorem dX8_isList_0 : decode cX8_isList 0 = .ok (.iload_n 0, 1) := by decide +kernel
theorem dX8_isList_1 : decode cX8_isList 1 = .ok (.ifCond .lt 12, 3) := by decide +kernel
theorem dX8_isList_4 : decode cX8_isList 4 = .ok (.iload_n 0, 1) := by decide +kernel
theorem dX8_isList_5 : decode cX8_isList 5 = .ok (.iconst 3, 1) := by decide +kernel
theorem dX8_isList_6 : decode cX8_isList 6 = .ok (.if_icmp .ge 7, 3) := by decide +kernel
theorem dX8_isList_9 : decode cX8_isList 9 = .ok (.iconst 1, 1) := by decide +kernel
theorem dX8_isList_10 : decode cX8_isList 10 = .ok (.goto 4, 3) := by decide +kernel
theorem dX8_isList_13 : decode cX8_isList 13 = .ok (.iconst 0, 1) := by decide +kernel
theorem dX8_isList_14 : decode cX8_isList 14 = .ok (.ireturn, 1) := by decide +kernel
theorem dX8_divide_0 : decode cX8_divide 0 = .ok (.lload_n 2, 1) := by decide +kernel
theorem dX8_divide_1 : decode cX8_divide 1 = .ok (.lconst 0, 1) := by decide +kernel
theorem dX8_divide_2 : decode cX8_divide 2 = .ok (.lcmp, 1) := by decide +kernel
theorem dX8_divide_3 : decode cX8_divide 3 = .ok (.ifCond .ne 7, 3) := by decide +kernel
theorem dX8_divide_6 : decode cX8_divide 6 = .ok (.lconst 0, 1) := by decide +kernel
theorem dX8_divide_7 : decode cX8_divide 7 = .ok (.goto 6, 3) := by decide +kernel
theorem dX8_divide_10 : decode cX8_divide 10 = .ok (.lload_n 0, 1) := by decide +kernel
theorem dX8_divide_11 : decode cX8_divide 11 = .ok (.lload_n 2, 1) := by decide +kernel
theorem dX8_divide_12 : decode cX8_divide 12 = .ok (.ldiv, 1) := by decide +kernel
theorem dX8_divide_13 : decode cX8_divide 13 = .ok (.lreturn, 1) := by decide +kernel
theorem dX8_commonDivisor_0 : decode cX8_commonDivisor 0 = .ok (.lload_n 0, 1) := by decide +kernel
theorem dX8_commonDivisor_1 : decode cX8_commonDivisor 1 = .ok (.invokestatic 335, 3) := by decide +kernel
theorem dX8_commonDivisor_4 : decode cX8_commonDivisor 4 = .ok (.lstore 4, 2) := by decide +kernel
theorem dX8_commonDivisor_6 : decode cX8_commonDivisor 6 = .ok (.lload_n 2, 1) := by decide +kernel
theorem dX8_commonDivisor_7 : decode cX8_commonDivisor 7 = .ok (.invokestatic 335, 3) := by decide +kernel
theorem dX8_commonDivisor_10 : decode cX8_commonDivisor 10 = .ok (.lstore 6, 2) := by decide +kernel
theorem dX8_commonDivisor_12 : decode cX8_commonDivisor 12 = .ok (.iconst 0, 1) := by decide +kernel
theorem dX8_commonDivisor_13 : decode cX8_commonDivisor 13 = .ok (.istore 8, 2) := by decide +kernel
theorem dX8_commonDivisor_15 : decode cX8_commonDivisor 15 = .ok (.iload 8, 2) := by decide +kernel
theorem dX8_commonDivisor_17 : decode cX8_commonDivisor 17 = .ok (.sipush 200, 3) := by decide +kernel
theorem dX8_commonDivisor_20 : decode cX8_commonDivisor 20 = .ok (.if_icmp .ge 31, 3) := by decide +kernel
theorem dX8_commonDivisor_23 : decode cX8_commonDivisor 23 = .ok (.lload 6, 2) := by decide +kernel
theorem dX8_commonDivisor_25 : decode cX8_commonDivisor 25 = .ok (.lconst 0, 1) := by decide +kernel
theorem dX8_commonDivisor_26 : decode cX8_commonDivisor 26 = .ok (.lcmp, 1) := by decide +kernel
theorem dX8_commonDivisor_27 : decode cX8_commonDivisor 27 = .ok (.ifCond .eq 24, 3) := by decide +kernel
theorem dX8_commonDivisor_30 : decode cX8_commonDivisor 30 = .ok (.lload 4, 2) := by decide +kernel
theorem dX8_commonDivisor_32 : decode cX8_commonDivisor 32 = .ok (.lload 6, 2) := by decide +kernel
theorem dX8_commonDivisor_34 : decode cX8_commonDivisor 34 = .ok (.lrem, 1) := by decide +kernel
theorem dX8_commonDivisor_35 : decode cX8_commonDivisor 35 = .ok (.lstore 9, 2) := by decide +kernel
theorem dX8_commonDivisor_37 : decode cX8_commonDivisor 37 = .ok (.lload 6, 2) := by decide +kernel
theorem dX8_commonDivisor_39 : decode cX8_commonDivisor 39 = .ok (.lstore 4, 2) := by decide +kernel
theorem dX8_commonDivisor_41 : decode cX8_commonDivisor 41 = .ok (.lload 9, 2) := by decide +kernel
theorem dX8_commonDivisor_43 : decode cX8_commonDivisor 43 = .ok (.lstore 6, 2) := by decide +kernel
theorem dX8_commonDivisor_45 : decode cX8_commonDivisor 45 = .ok (.iinc 8 1, 3) := by decide +kernel
theorem dX8_commonDivisor_48 : decode cX8_commonDivisor 48 = .ok (.goto (-33), 3) := by decide +kernel
theorem dX8_commonDivisor_51 : decode cX8_commonDivisor 51 = .ok (.lload 4, 2) := by decide +kernel
theorem dX8_commonDivisor_53 : decode cX8_commonDivisor 53 = .ok (.lreturn, 1) := by decide +kernel
theorem dX8_inLowest_0 : decode cX8_inLowest 0 = .ok (.aload_n 0, 1) := by decide +kernel
theorem dX8_inLowest_1 : decode cX8_inLowest 1 = .ok (.getfield 38, 3) := by decide +kernel
theorem dX8_inLowest_4 : decode cX8_inLowest 4 = .ok (.lload_n 1, 1) := by decide +kernel
theorem dX8_inLowest_5 : decode cX8_inLowest 5 = .ok (.lload_n 3, 1) := by decide +kernel
theorem dX8_inLowest_6 : decode cX8_inLowest 6 = .ok (.invokevirtual 341, 3) := by decide +kernel
theorem dX8_inLowest_9 : decode cX8_inLowest 9 = .ok (.aload_n 0, 1) := by decide +kernel
theorem dX8_inLowest_10 : decode cX8_inLowest 10 = .ok (.getfield 38, 3) := by decide +kernel
theorem dX8_inLowest_13 : decode cX8_inLowest 13 = .ok (.iload 5, 2) := by decide +kernel
theorem dX8_inLowest_15 : decode cX8_inLowest 15 = .ok (.invokevirtual 205, 3) := by decide +kernel
theorem dX8_inLowest_18 : decode cX8_inLowest 18 = .ok (.lreturn, 1) := by decide +kernel
theorem dX8_numbersInAll_0 : decode cX8_numbersInAll 0 = .ok (.iconst 2, 1) := by decide +kernel
theorem dX8_numbersInAll_1 : decode cX8_numbersInAll 1 = .ok (.aload_n 0, 1) := by decide +kernel
theorem dX8_numbersInAll_2 : decode cX8_numbersInAll 2 = .ok (.getfield 14, 3) := by decide +kernel
theorem dX8_numbersInAll_5 : decode cX8_numbersInAll 5 = .ok (.getfield 70, 3) := by decide +kernel
theorem dX8_numbersInAll_8 : decode cX8_numbersInAll 8 = .ok (.iconst 1, 1) := by decide +kernel
theorem dX8_numbersInAll_9 : decode cX8_numbersInAll 9 = .ok (.iadd, 1) := by decide +kernel
theorem dX8_numbersInAll_10 : decode cX8_numbersInAll 10 = .ok (.imul, 1) := by decide +kernel
theorem dX8_numbersInAll_11 : decode cX8_numbersInAll 11 = .ok (.ireturn, 1) := by decide +kernel
theorem dX8_numberOfMoments_0 : decode cX8_numberOfMoments 0 = .ok (.aload_n 0, 1) := by decide +kernel
theorem dX8_numberOfMoments_1 : decode cX8_numberOfMoments 1 = .ok (.aload_n 0, 1) := by decide +kernel
theorem dX8_numberOfMoments_2 : decode cX8_numberOfMoments 2 = .ok (.getfield 31, 3) := by decide +kernel
theorem dX8_numberOfMoments_5 : decode cX8_numberOfMoments 5 = .ok (.getfield 252, 3) := by decide +kernel
theorem dX8_numberOfMoments_8 : decode cX8_numberOfMoments 8 = .ok (.iload_n 1, 1) := by decide +kernel
theorem dX8_numberOfMoments_9 : decode cX8_numberOfMoments 9 = .ok (.iconst 2, 1) := by decide +kernel
theorem dX8_numberOfMoments_10 : decode cX8_numberOfMoments 10 = .ok (.idiv, 1) := by decide +kernel
theorem dX8_numberOfMoments_11 : decode cX8_numberOfMoments 11 = .ok (.laload, 1) := by decide +kernel
theorem dX8_numberOfMoments_12 : decode cX8_numberOfMoments 12 = .ok (.aload_n 0, 1) := by decide +kernel
theorem dX8_numberOfMoments_13 : decode cX8_numberOfMoments 13 = .ok (.getfield 31, 3) := by decide +kernel
theorem dX8_numberOfMoments_16 : decode cX8_numberOfMoments 16 = .ok (.getfield 187, 3) := by decide +kernel
theorem dX8_numberOfMoments_19 : decode cX8_numberOfMoments 19 = .ok (.iload_n 1, 1) := by decide +kernel
theorem dX8_numberOfMoments_20 : decode cX8_numberOfMoments 20 = .ok (.iconst 2, 1) := by decide +kernel
theorem dX8_numberOfMoments_21 : decode cX8_numberOfMoments 21 = .ok (.irem, 1) := by decide +kernel
theorem dX8_numberOfMoments_22 : decode cX8_numberOfMoments 22 = .ok (.invokevirtual 191, 3) := by decide +kernel
theorem dX8_numberOfMoments_25 : decode cX8_numberOfMoments 25 = .ok (.lreturn, 1) := by decide +kernel
theorem dX8_solveAsItIs_0 : decode cX8_solveAsItIs 0 = .ok (.aload_n 0, 1) := by decide +kernel
theorem dX8_solveAsItIs_1 : decode cX8_solveAsItIs 1 = .ok (.getfield 31, 3) := by decide +kernel
theorem dX8_solveAsItIs_4 : decode cX8_solveAsItIs 4 = .ok (.aload_n 0, 1) := by decide +kernel
theorem dX8_solveAsItIs_5 : decode cX8_solveAsItIs 5 = .ok (.getfield 14, 3) := by decide +kernel
theorem dX8_solveAsItIs_8 : decode cX8_solveAsItIs 8 = .ok (.invokevirtual 262, 3) := by decide +kernel
theorem dX8_solveAsItIs_11 : decode cX8_solveAsItIs 11 = .ok (.aload_n 0, 1) := by decide +kernel
theorem dX8_solveAsItIs_12 : decode cX8_solveAsItIs 12 = .ok (.getfield 31, 3) := by decide +kernel
theorem dX8_solveAsItIs_15 : decode cX8_solveAsItIs 15 = .ok (.aload_n 0, 1) := by decide +kernel
theorem dX8_solveAsItIs_16 : decode cX8_solveAsItIs 16 = .ok (.getfield 14, 3) := by decide +kernel
theorem dX8_solveAsItIs_19 : decode cX8_solveAsItIs 19 = .ok (.invokevirtual 266, 3) := by decide +kernel
theorem dX8_solveAsItIs_22 : decode cX8_solveAsItIs 22 = .ok (.aload_n 0, 1) := by decide +kernel
theorem dX8_solveAsItIs_23 : decode cX8_solveAsItIs 23 = .ok (.getfield 31, 3) := by decide +kernel
theorem dX8_solveAsItIs_26 : decode cX8_solveAsItIs 26 = .ok (.invokevirtual 269, 3) := by decide +kernel
theorem dX8_solveAsItIs_29 : decode cX8_solveAsItIs 29 = .ok (.return_, 1) := by decide +kernel
theorem dX8_solveUnit_0 : decode cX8_solveUnit 0 = .ok (.aload_n 0, 1) := by decide +kernel
theorem dX8_solveUnit_1 : decode cX8_solveUnit 1 = .ok (.getfield 31, 3) := by decide +kernel
theorem dX8_solveUnit_4 : decode cX8_solveUnit 4 = .ok (.aload_n 0, 1) := by decide +kernel
theorem dX8_solveUnit_5 : decode cX8_solveUnit 5 = .ok (.getfield 14, 3) := by decide +kernel
theorem dX8_solveUnit_8 : decode cX8_solveUnit 8 = .ok (.invokevirtual 262, 3) := by decide +kernel
theorem dX8_solveUnit_11 : decode cX8_solveUnit 11 = .ok (.aload_n 0, 1) := by decide +kernel
theorem dX8_solveUnit_12 : decode cX8_solveUnit 12 = .ok (.getfield 31, 3) := by decide +kernel
theorem dX8_solveUnit_15 : decode cX8_solveUnit 15 = .ok (.iload_n 1, 1) := by decide +kernel
theorem dX8_solveUnit_16 : decode cX8_solveUnit 16 = .ok (.iconst 1, 1) := by decide +kernel
theorem dX8_solveUnit_17 : decode cX8_solveUnit 17 = .ok (.invokevirtual 344, 3) := by decide +kernel
theorem dX8_solveUnit_20 : decode cX8_solveUnit 20 = .ok (.aload_n 0, 1) := by decide +kernel
theorem dX8_solveUnit_21 : decode cX8_solveUnit 21 = .ok (.getfield 31, 3) := by decide +kernel
theorem dX8_solveUnit_24 : decode cX8_solveUnit 24 = .ok (.invokevirtual 269, 3) := by decide +kernel
theorem dX8_solveUnit_27 : decode cX8_solveUnit 27 = .ok (.return_, 1) := by decide +kernel
theorem dX8_solveRolling_0 : decode cX8_solveRolling 0 = .ok (.aload_n 0, 1) := by decide +kernel
theorem dX8_solveRolling_1 : decode cX8_solveRolling 1 = .ok (.getfield 31, 3) := by decide +kernel
theorem dX8_solveRolling_4 : decode cX8_solveRolling 4 = .ok (.aload_n 0, 1) := by decide +kernel
theorem dX8_solveRolling_5 : decode cX8_solveRolling 5 = .ok (.getfield 14, 3) := by decide +kernel
theorem dX8_solveRolling_8 : decode cX8_solveRolling 8 = .ok (.invokevirtual 262, 3) := by decide +kernel
theorem dX8_solveRolling_11 : decode cX8_solveRolling 11 = .ok (.iconst 0, 1) := by decide +kernel
theorem dX8_solveRolling_12 : decode cX8_solveRolling 12 = .ok (.istore_n 2, 1) := by decide +kernel
theorem dX8_solveRolling_13 : decode cX8_solveRolling 13 = .ok (.iload_n 2, 1) := by decide +kernel
theorem dX8_solveRolling_14 : decode cX8_solveRolling 14 = .ok (.aload_n 0, 1) := by decide +kernel
theorem dX8_solveRolling_15 : decode cX8_solveRolling 15 = .ok (.getfield 14, 3) := by decide +kernel
theorem dX8_solveRolling_18 : decode cX8_solveRolling 18 = .ok (.getfield 135, 3) := by decide +kernel
theorem dX8_solveRolling_21 : decode cX8_solveRolling 21 = .ok (.if_icmp .ge 36, 3) := by decide +kernel
theorem dX8_solveRolling_24 : decode cX8_solveRolling 24 = .ok (.aload_n 0, 1) := by decide +kernel
theorem dX8_solveRolling_25 : decode cX8_solveRolling 25 = .ok (.getfield 31, 3) := by decide +kernel
theorem dX8_solveRolling_28 : decode cX8_solveRolling 28 = .ok (.iload_n 1, 1) := by decide +kernel
theorem dX8_solveRolling_29 : decode cX8_solveRolling 29 = .ok (.aload_n 0, 1) := by decide +kernel
theorem dX8_solveRolling_30 : decode cX8_solveRolling 30 = .ok (.getfield 14, 3) := by decide +kernel
theorem dX8_solveRolling_33 : decode cX8_solveRolling 33 = .ok (.getfield 347, 3) := by decide +kernel
theorem dX8_solveRolling_36 : decode cX8_solveRolling 36 = .ok (.iload_n 2, 1) := by decide +kernel
theorem dX8_solveRolling_37 : decode cX8_solveRolling 37 = .ok (.iaload, 1) := by decide +kernel
theorem dX8_solveRolling_38 : decode cX8_solveRolling 38 = .ok (.isub, 1) := by decide +kernel
theorem dX8_solveRolling_39 : decode cX8_solveRolling 39 = .ok (.aload_n 0, 1) := by decide +kernel
theorem dX8_solveRolling_40 : decode cX8_solveRolling 40 = .ok (.getfield 14, 3) := by decide +kernel
theorem dX8_solveRolling_43 : decode cX8_solveRolling 43 = .ok (.getfield 350, 3) := by decide +kernel
theorem dX8_solveRolling_46 : decode cX8_solveRolling 46 = .ok (.iload_n 2, 1) := by decide +kernel
theorem dX8_solveRolling_47 : decode cX8_solveRolling 47 = .ok (.iaload, 1) := by decide +kernel
theorem dX8_solveRolling_48 : decode cX8_solveRolling 48 = .ok (.invokevirtual 344, 3) := by decide +kernel
theorem dX8_solveRolling_51 : decode cX8_solveRolling 51 = .ok (.iinc 2 1, 3) := by decide +kernel
theorem dX8_solveRolling_54 : decode cX8_solveRolling 54 = .ok (.goto (-41), 3) := by decide +kernel
theorem dX8_solveRolling_57 : decode cX8_solveRolling 57 = .ok (.aload_n 0, 1) := by decide +kernel
theorem dX8_solveRolling_58 : decode cX8_solveRolling 58 = .ok (.getfield 31, 3) := by decide +kernel
theorem dX8_solveRolling_61 : decode cX8_solveRolling 61 = .ok (.invokevirtual 269, 3) := by decide +kernel
theorem dX8_solveRolling_64 : decode cX8_solveRolling 64 = .ok (.return_, 1) := by decide +kernel
theorem dX8_canRoll_0 : decode cX8_canRoll 0 = .ok (.aload_n 0, 1) := by decide +kernel
theorem dX8_canRoll_1 : decode cX8_canRoll 1 = .ok (.getfield 14, 3) := by decide +kernel
theorem dX8_canRoll_4 : decode cX8_canRoll 4 = .ok (.invokevirtual 171, 3) := by decide +kernel
theorem dX8_canRoll_7 : decode cX8_canRoll 7 = .ok (.ifCond .eq 26, 3) := by decide +kernel
theorem dX8_canRoll_10 : decode cX8_canRoll 10 = .ok (.aload_n 0, 1) := by decide +kernel
theorem dX8_canRoll_11 : decode cX8_canRoll 11 = .ok (.getfield 14, 3) := by decide +kernel
theorem dX8_canRoll_14 : decode cX8_canRoll 14 = .ok (.getfield 135, 3) := by decide +kernel
theorem dX8_canRoll_17 : decode cX8_canRoll 17 = .ok (.ifCond .le 16, 3) := by decide +kernel
theorem dX8_canRoll_20 : decode cX8_canRoll 20 = .ok (.iload_n 1, 1) := by decide +kernel
theorem dX8_canRoll_21 : decode cX8_canRoll 21 = .ok (.ifCond .lt 12, 3) := by decide +kernel
theorem dX8_canRoll_24 : decode cX8_canRoll 24 = .ok (.iload_n 1, 1) := by decide +kernel
theorem dX8_canRoll_25 : decode cX8_canRoll 25 = .ok (.iconst 2, 1) := by decide +kernel
theorem dX8_canRoll_26 : decode cX8_canRoll 26 = .ok (.if_icmp .gt 7, 3) := by decide +kernel
theorem dX8_canRoll_29 : decode cX8_canRoll 29 = .ok (.iconst 1, 1) := by decide +kernel
theorem dX8_canRoll_30 : decode cX8_canRoll 30 = .ok (.goto 4, 3) := by decide +kernel
theorem dX8_canRoll_33 : decode cX8_canRoll 33 = .ok (.iconst 0, 1) := by decide +kernel
theorem dX8_canRoll_34 : decode cX8_canRoll 34 = .ok (.ireturn, 1) := by decide +kernel
theorem dX8_mostByRolling_0 : decode cX8_mostByRolling 0 = .ok (.iconst 0, 1) := by decide +kernel
theorem dX8_mostByRolling_1 : decode cX8_mostByRolling 1 = .ok (.istore 4, 2) := by decide +kernel
theorem dX8_mostByRolling_3 : decode cX8_mostByRolling 3 = .ok (.iconst 0, 1) := by decide +kernel
theorem dX8_mostByRolling_4 : decode cX8_mostByRolling 4 = .ok (.istore 5, 2) := by decide +kernel
theorem dX8_mostByRolling_6 : decode cX8_mostByRolling 6 = .ok (.iload 5, 2) := by decide +kernel
theorem dX8_mostByRolling_8 : decode cX8_mostByRolling 8 = .ok (.bipush 19, 2) := by decide +kernel
theorem dX8_mostByRolling_10 : decode cX8_mostByRolling 10 = .ok (.if_icmp .gt 66, 3) := by decide +kernel
theorem dX8_mostByRolling_13 : decode cX8_mostByRolling 13 = .ok (.aload_n 0, 1) := by decide +kernel
theorem dX8_mostByRolling_14 : decode cX8_mostByRolling 14 = .ok (.iload 5, 2) := by decide +kernel
theorem dX8_mostByRolling_16 : decode cX8_mostByRolling 16 = .ok (.invokevirtual 353, 3) := by decide +kernel
theorem dX8_mostByRolling_19 : decode cX8_mostByRolling 19 = .ok (.aload_n 0, 1) := by decide +kernel
theorem dX8_mostByRolling_20 : decode cX8_mostByRolling 20 = .ok (.getfield 42, 3) := by decide +kernel
theorem dX8_mostByRolling_23 : decode cX8_mostByRolling 23 = .ok (.aload_n 1, 1) := by decide +kernel
theorem dX8_mostByRolling_24 : decode cX8_mostByRolling 24 = .ok (.iload_n 2, 1) := by decide +kernel
theorem dX8_mostByRolling_25 : decode cX8_mostByRolling 25 = .ok (.laload, 1) := by decide +kernel
theorem dX8_mostByRolling_26 : decode cX8_mostByRolling 26 = .ok (.aload_n 0, 1) := by decide +kernel
theorem dX8_mostByRolling_27 : decode cX8_mostByRolling 27 = .ok (.getfield 31, 3) := by decide +kernel
theorem dX8_mostByRolling_30 : decode cX8_mostByRolling 30 = .ok (.getfield 187, 3) := by decide +kernel
theorem dX8_mostByRolling_33 : decode cX8_mostByRolling 33 = .ok (.invokevirtual 341, 3) := by decide +kernel
theorem dX8_mostByRolling_36 : decode cX8_mostByRolling 36 = .ok (.iload 5, 2) := by decide +kernel
theorem dX8_mostByRolling_38 : decode cX8_mostByRolling 38 = .ok (.ifCond .eq 17, 3) := by decide +kernel
theorem dX8_mostByRolling_41 : decode cX8_mostByRolling 41 = .ok (.aload_n 0, 1) := by decide +kernel
theorem dX8_mostByRolling_42 : decode cX8_mostByRolling 42 = .ok (.getfield 42, 3) := by decide +kernel
theorem dX8_mostByRolling_45 : decode cX8_mostByRolling 45 = .ok (.aload_n 0, 1) := by decide +kernel
theorem dX8_mostByRolling_46 : decode cX8_mostByRolling 46 = .ok (.getfield 38, 3) := by decide +kernel
theorem dX8_mostByRolling_49 : decode cX8_mostByRolling 49 = .ok (.invokevirtual 272, 3) := by decide +kernel
theorem dX8_mostByRolling_52 : decode cX8_mostByRolling 52 = .ok (.ifCond .le 18, 3) := by decide +kernel
theorem dX8_mostByRolling_55 : decode cX8_mostByRolling 55 = .ok (.aload_n 0, 1) := by decide +kernel
theorem dX8_mostByRolling_56 : decode cX8_mostByRolling 56 = .ok (.getfield 38, 3) := by decide +kernel
theorem dX8_mostByRolling_59 : decode cX8_mostByRolling 59 = .ok (.aload_n 0, 1) := by decide +kernel
theorem dX8_mostByRolling_60 : decode cX8_mostByRolling 60 = .ok (.getfield 42, 3) := by decide +kernel
theorem dX8_mostByRolling_63 : decode cX8_mostByRolling 63 = .ok (.invokevirtual 276, 3) := by decide +kernel
theorem dX8_mostByRolling_66 : decode cX8_mostByRolling 66 = .ok (.iload 5, 2) := by decide +kernel
theorem dX8_mostByRolling_68 : decode cX8_mostByRolling 68 = .ok (.istore 4, 2) := by decide +kernel
theorem dX8_mostByRolling_70 : decode cX8_mostByRolling 70 = .ok (.iinc 5 1, 3) := by decide +kernel
theorem dX8_mostByRolling_73 : decode cX8_mostByRolling 73 = .ok (.goto (-67), 3) := by decide +kernel
theorem dX8_mostByRolling_76 : decode cX8_mostByRolling 76 = .ok (.iload_n 3, 1) := by decide +kernel
theorem dX8_mostByRolling_77 : decode cX8_mostByRolling 77 = .ok (.iconst 2, 1) := by decide +kernel
theorem dX8_mostByRolling_78 : decode cX8_mostByRolling 78 = .ok (.if_icmp .ne 9, 3) := by decide +kernel
theorem dX8_mostByRolling_81 : decode cX8_mostByRolling 81 = .ok (.iload 4, 2) := by decide +kernel
theorem dX8_mostByRolling_83 : decode cX8_mostByRolling 83 = .ok (.i2l, 1) := by decide +kernel
theorem dX8_mostByRolling_84 : decode cX8_mostByRolling 84 = .ok (.goto 11, 3) := by decide +kernel
theorem dX8_mostByRolling_87 : decode cX8_mostByRolling 87 = .ok (.aload_n 0, 1) := by decide +kernel
theorem dX8_mostByRolling_88 : decode cX8_mostByRolling 88 = .ok (.getfield 38, 3) := by decide +kernel
theorem dX8_mostByRolling_91 : decode cX8_mostByRolling 91 = .ok (.iload_n 3, 1) := by decide +kernel
theorem dX8_mostByRolling_92 : decode cX8_mostByRolling 92 = .ok (.invokevirtual 205, 3) := by decide +kernel
theorem dX8_mostByRolling_95 : decode cX8_mostByRolling 95 = .ok (.lreturn, 1) := by decide +kernel
theorem dX8_timesWithin_0 : decode cX8_timesWithin 0 = .ok (.bipush 99, 2) := by decide +kernel
theorem dX8_timesWithin_2 : decode cX8_timesWithin 2 = .ok (.istore_n 2, 1) := by decide +kernel
theorem dX8_timesWithin_3 : decode cX8_timesWithin 3 = .ok (.iload_n 2, 1) := by decide +kernel
theorem dX8_timesWithin_4 : decode cX8_timesWithin 4 = .ok (.ifCond .le 36, 3) := by decide +kernel
theorem dX8_timesWithin_7 : decode cX8_timesWithin 7 = .ok (.aload_n 0, 1) := by decide +kernel
theorem dX8_timesWithin_8 : decode cX8_timesWithin 8 = .ok (.getfield 42, 3) := by decide +kernel
theorem dX8_timesWithin_11 : decode cX8_timesWithin 11 = .ok (.iload_n 1, 1) := by decide +kernel
theorem dX8_timesWithin_12 : decode cX8_timesWithin 12 = .ok (.i2l, 1) := by decide +kernel
theorem dX8_timesWithin_13 : decode cX8_timesWithin 13 = .ok (.iload_n 2, 1) := by decide +kernel
theorem dX8_timesWithin_14 : decode cX8_timesWithin 14 = .ok (.i2l, 1) := by decide +kernel
theorem dX8_timesWithin_15 : decode cX8_timesWithin 15 = .ok (.invokevirtual 341, 3) := by decide +kernel
theorem dX8_timesWithin_18 : decode cX8_timesWithin 18 = .ok (.aload_n 0, 1) := by decide +kernel
theorem dX8_timesWithin_19 : decode cX8_timesWithin 19 = .ok (.getfield 38, 3) := by decide +kernel
theorem dX8_timesWithin_22 : decode cX8_timesWithin 22 = .ok (.aload_n 0, 1) := by decide +kernel
theorem dX8_timesWithin_23 : decode cX8_timesWithin 23 = .ok (.getfield 42, 3) := by decide +kernel
theorem dX8_timesWithin_26 : decode cX8_timesWithin 26 = .ok (.invokevirtual 272, 3) := by decide +kernel
theorem dX8_timesWithin_29 : decode cX8_timesWithin 29 = .ok (.ifCond .gt 5, 3) := by decide +kernel
theorem dX8_timesWithin_32 : decode cX8_timesWithin 32 = .ok (.iload_n 2, 1) := by decide +kernel
theorem dX8_timesWithin_33 : decode cX8_timesWithin 33 = .ok (.ireturn, 1) := by decide +kernel
theorem dX8_timesWithin_34 : decode cX8_timesWithin 34 = .ok (.iinc 2 (-1), 3) := by decide +kernel
theorem dX8_timesWithin_37 : decode cX8_timesWithin 37 = .ok (.goto (-34), 3) := by decide +kernel
theorem dX8_timesWithin_40 : decode cX8_timesWithin 40 = .ok (.iconst 0, 1) := by decide +kernel
theorem dX8_timesWithin_41 : decode cX8_timesWithin 41 = .ok (.ireturn, 1) := by decide +kernel
theorem dX8_printPiece_0 : decode cX8_printPiece 0 = .ok (.aload_n 0, 1) := by decide +kernel
theorem dX8_printPiece_1 : decode cX8_printPiece 1 = .ok (.getfield 55, 3) := by decide +kernel
theorem dX8_printPiece_4 : decode cX8_printPiece 4 = .ok (.iload_n 1, 1) := by decide +kernel
theorem dX8_printPiece_5 : decode cX8_printPiece 5 = .ok (.i2l, 1) := by decide +kernel
theorem dX8_printPiece_6 : decode cX8_printPiece 6 = .ok (.invokevirtual 356, 3) := by decide +kernel
theorem dX8_printPiece_9 : decode cX8_printPiece 9 = .ok (.aload_n 0, 1) := by decide +kernel
theorem dX8_printPiece_10 : decode cX8_printPiece 10 = .ok (.getfield 55, 3) := by decide +kernel
theorem dX8_printPiece_13 : decode cX8_printPiece 13 = .ok (.bipush 58, 2) := by decide +kernel
theorem dX8_printPiece_15 : decode cX8_printPiece 15 = .ok (.invokevirtual 360, 3) := by decide +kernel
theorem dX8_printPiece_18 : decode cX8_printPiece 18 = .ok (.aload_n 0, 1) := by decide +kernel
theorem dX8_printPiece_19 : decode cX8_printPiece 19 = .ok (.getfield 55, 3) := by decide +kernel
theorem dX8_printPiece_22 : decode cX8_printPiece 22 = .ok (.bipush 32, 2) := by decide +kernel
theorem dX8_printPiece_24 : decode cX8_printPiece 24 = .ok (.invokevirtual 360, 3) := by decide +kernel
theorem dX8_printPiece_27 : decode cX8_printPiece 27 = .ok (.aload_n 0, 1) := by decide +kernel
theorem dX8_printPiece_28 : decode cX8_printPiece 28 = .ok (.getfield 38, 3) := by decide +kernel
theorem dX8_printPiece_31 : decode cX8_printPiece 31 = .ok (.aload_n 0, 1) := by decide +kernel
theorem dX8_printPiece_32 : decode cX8_printPiece 32 = .ok (.getfield 31, 3) := by decide +kernel
theorem dX8_printPiece_35 : decode cX8_printPiece 35 = .ok (.getfield 252, 3) := by decide +kernel
theorem dX8_printPiece_38 : decode cX8_printPiece 38 = .ok (.iload_n 1, 1) := by decide +kernel
theorem dX8_printPiece_39 : decode cX8_printPiece 39 = .ok (.laload, 1) := by decide +kernel
theorem dX8_printPiece_40 : decode cX8_printPiece 40 = .ok (.aload_n 0, 1) := by decide +kernel
