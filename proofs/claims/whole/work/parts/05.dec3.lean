theorem dX11_leaves_5 : decode cX11_leaves 5 = .ok (.goto 16, 3) := by decide +kernel
theorem dX11_leaves_8 : decode cX11_leaves 8 = .ok (.aload_n 0, 1) := by decide +kernel
theorem dX11_leaves_9 : decode cX11_leaves 9 = .ok (.getfield 154, 3) := by decide +kernel
theorem dX11_leaves_12 : decode cX11_leaves 12 = .ok (.bipush 24, 2) := by decide +kernel
theorem dX11_leaves_14 : decode cX11_leaves 14 = .ok (.iload_n 1, 1) := by decide +kernel
theorem dX11_leaves_15 : decode cX11_leaves 15 = .ok (.imul, 1) := by decide +kernel
theorem dX11_leaves_16 : decode cX11_leaves 16 = .ok (.iload_n 2, 1) := by decide +kernel
theorem dX11_leaves_17 : decode cX11_leaves 17 = .ok (.iadd, 1) := by decide +kernel
theorem dX11_leaves_18 : decode cX11_leaves 18 = .ok (.iconst 1, 1) := by decide +kernel
theorem dX11_leaves_19 : decode cX11_leaves 19 = .ok (.isub, 1) := by decide +kernel
theorem dX11_leaves_20 : decode cX11_leaves 20 = .ok (.iaload, 1) := by decide +kernel
theorem dX11_leaves_21 : decode cX11_leaves 21 = .ok (.ireturn, 1) := by decide +kernel
theorem dX11_lesser_0 : decode cX11_lesser 0 = .ok (.iload_n 0, 1) := by decide +kernel
theorem dX11_lesser_1 : decode cX11_lesser 1 = .ok (.iload_n 1, 1) := by decide +kernel
theorem dX11_lesser_2 : decode cX11_lesser 2 = .ok (.if_icmp .ge 7, 3) := by decide +kernel
theorem dX11_lesser_5 : decode cX11_lesser 5 = .ok (.iload_n 0, 1) := by decide +kernel
theorem dX11_lesser_6 : decode cX11_lesser 6 = .ok (.goto 4, 3) := by decide +kernel
theorem dX11_lesser_9 : decode cX11_lesser 9 = .ok (.iload_n 1, 1) := by decide +kernel
theorem dX11_lesser_10 : decode cX11_lesser 10 = .ok (.ireturn, 1) := by decide +kernel
theorem dX11_letter_0 : decode cX11_letter 0 = .ok (.iload_n 1, 1) := by decide +kernel
theorem dX11_letter_1 : decode cX11_letter 1 = .ok (.i2l, 1) := by decide +kernel
theorem dX11_letter_2 : decode cX11_letter 2 = .ok (.lconst 0, 1) := by decide +kernel
theorem dX11_letter_3 : decode cX11_letter 3 = .ok (.lconst 1, 1) := by decide +kernel
theorem dX11_letter_4 : decode cX11_letter 4 = .ok (.invokestatic 264, 3) := by decide +kernel
theorem dX11_letter_7 : decode cX11_letter 7 = .ok (.ifCond .eq 35, 3) := by decide +kernel
theorem dX11_letter_10 : decode cX11_letter 10 = .ok (.iload_n 2, 1) := by decide +kernel
theorem dX11_letter_11 : decode cX11_letter 11 = .ok (.i2l, 1) := by decide +kernel
theorem dX11_letter_12 : decode cX11_letter 12 = .ok (.lconst 0, 1) := by decide +kernel
theorem dX11_letter_13 : decode cX11_letter 13 = .ok (.aload_n 0, 1) := by decide +kernel
theorem dX11_letter_14 : decode cX11_letter 14 = .ok (.getfield 99, 3) := by decide +kernel
theorem dX11_letter_17 : decode cX11_letter 17 = .ok (.iconst 5, 1) := by decide +kernel
theorem dX11_letter_18 : decode cX11_letter 18 = .ok (.iload_n 1, 1) := by decide +kernel
theorem dX11_letter_19 : decode cX11_letter 19 = .ok (.iadd, 1) := by decide +kernel
theorem dX11_letter_20 : decode cX11_letter 20 = .ok (.iaload, 1) := by decide +kernel
theorem dX11_letter_21 : decode cX11_letter 21 = .ok (.iconst 1, 1) := by decide +kernel
theorem dX11_letter_22 : decode cX11_letter 22 = .ok (.isub, 1) := by decide +kernel
theorem dX11_letter_23 : decode cX11_letter 23 = .ok (.i2l, 1) := by decide +kernel
theorem dX11_letter_24 : decode cX11_letter 24 = .ok (.invokestatic 264, 3) := by decide +kernel
theorem dX11_letter_27 : decode cX11_letter 27 = .ok (.ifCond .eq 15, 3) := by decide +kernel
theorem dX11_letter_30 : decode cX11_letter 30 = .ok (.iload_n 3, 1) := by decide +kernel
theorem dX11_letter_31 : decode cX11_letter 31 = .ok (.i2l, 1) := by decide +kernel
theorem dX11_letter_32 : decode cX11_letter 32 = .ok (.lconst 0, 1) := by decide +kernel
theorem dX11_letter_33 : decode cX11_letter 33 = .ok (.ldc2_w 471, 3) := by decide +kernel
theorem dX11_letter_36 : decode cX11_letter 36 = .ok (.invokestatic 264, 3) := by decide +kernel
theorem dX11_letter_39 : decode cX11_letter 39 = .ok (.ifCond .ne 5, 3) := by decide +kernel
theorem dX11_letter_42 : decode cX11_letter 42 = .ok (.iconst (-1), 1) := by decide +kernel
theorem dX11_letter_43 : decode cX11_letter 43 = .ok (.ireturn, 1) := by decide +kernel
theorem dX11_letter_44 : decode cX11_letter 44 = .ok (.aload_n 0, 1) := by decide +kernel
theorem dX11_letter_45 : decode cX11_letter 45 = .ok (.getfield 102, 3) := by decide +kernel
theorem dX11_letter_48 : decode cX11_letter 48 = .ok (.bipush 20, 2) := by decide +kernel
theorem dX11_letter_50 : decode cX11_letter 50 = .ok (.bipush 10, 2) := by decide +kernel
theorem dX11_letter_52 : decode cX11_letter 52 = .ok (.iload_n 1, 1) := by decide +kernel
theorem dX11_letter_53 : decode cX11_letter 53 = .ok (.imul, 1) := by decide +kernel
theorem dX11_letter_54 : decode cX11_letter 54 = .ok (.iadd, 1) := by decide +kernel
theorem dX11_letter_55 : decode cX11_letter 55 = .ok (.iload_n 2, 1) := by decide +kernel
theorem dX11_letter_56 : decode cX11_letter 56 = .ok (.iadd, 1) := by decide +kernel
theorem dX11_letter_57 : decode cX11_letter 57 = .ok (.laload, 1) := by decide +kernel
theorem dX11_letter_58 : decode cX11_letter 58 = .ok (.lstore 4, 2) := by decide +kernel
theorem dX11_letter_60 : decode cX11_letter 60 = .ok (.iconst 0, 1) := by decide +kernel
theorem dX11_letter_61 : decode cX11_letter 61 = .ok (.istore 6, 2) := by decide +kernel
theorem dX11_letter_63 : decode cX11_letter 63 = .ok (.lload 4, 2) := by decide +kernel
theorem dX11_letter_65 : decode cX11_letter 65 = .ok (.lstore 7, 2) := by decide +kernel
theorem dX11_letter_67 : decode cX11_letter 67 = .ok (.lload 7, 2) := by decide +kernel
theorem dX11_letter_69 : decode cX11_letter 69 = .ok (.lconst 0, 1) := by decide +kernel
theorem dX11_letter_70 : decode cX11_letter 70 = .ok (.lcmp, 1) := by decide +kernel
theorem dX11_letter_71 : decode cX11_letter 71 = .ok (.ifCond .le 17, 3) := by decide +kernel
theorem dX11_letter_74 : decode cX11_letter 74 = .ok (.iinc 6 1, 3) := by decide +kernel
theorem dX11_letter_77 : decode cX11_letter 77 = .ok (.lload 7, 2) := by decide +kernel
theorem dX11_letter_79 : decode cX11_letter 79 = .ok (.ldc2_w 275, 3) := by decide +kernel
theorem dX11_letter_82 : decode cX11_letter 82 = .ok (.ldiv, 1) := by decide +kernel
theorem dX11_letter_83 : decode cX11_letter 83 = .ok (.lstore 7, 2) := by decide +kernel
theorem dX11_letter_85 : decode cX11_letter 85 = .ok (.goto (-18), 3) := by decide +kernel
theorem dX11_letter_88 : decode cX11_letter 88 = .ok (.iload_n 3, 1) := by decide +kernel
theorem dX11_letter_89 : decode cX11_letter 89 = .ok (.iload 6, 2) := by decide +kernel
theorem dX11_letter_91 : decode cX11_letter 91 = .ok (.if_icmp .lt 5, 3) := by decide +kernel
theorem dX11_letter_94 : decode cX11_letter 94 = .ok (.iconst 0, 1) := by decide +kernel
theorem dX11_letter_95 : decode cX11_letter 95 = .ok (.ireturn, 1) := by decide +kernel
theorem dX11_letter_96 : decode cX11_letter 96 = .ok (.iload 6, 2) := by decide +kernel
theorem dX11_letter_98 : decode cX11_letter 98 = .ok (.iconst 1, 1) := by decide +kernel
theorem dX11_letter_99 : decode cX11_letter 99 = .ok (.isub, 1) := by decide +kernel
theorem dX11_letter_100 : decode cX11_letter 100 = .ok (.istore 7, 2) := by decide +kernel
theorem dX11_letter_102 : decode cX11_letter 102 = .ok (.iload 7, 2) := by decide +kernel
theorem dX11_letter_104 : decode cX11_letter 104 = .ok (.iload_n 3, 1) := by decide +kernel
theorem dX11_letter_105 : decode cX11_letter 105 = .ok (.if_icmp .le 17, 3) := by decide +kernel
theorem dX11_letter_108 : decode cX11_letter 108 = .ok (.lload 4, 2) := by decide +kernel
theorem dX11_letter_110 : decode cX11_letter 110 = .ok (.ldc2_w 275, 3) := by decide +kernel
theorem dX11_letter_113 : decode cX11_letter 113 = .ok (.ldiv, 1) := by decide +kernel
theorem dX11_letter_114 : decode cX11_letter 114 = .ok (.lstore 4, 2) := by decide +kernel
theorem dX11_letter_116 : decode cX11_letter 116 = .ok (.iinc 7 (-1), 3) := by decide +kernel
theorem dX11_letter_119 : decode cX11_letter 119 = .ok (.goto (-17), 3) := by decide +kernel
theorem dX11_letter_122 : decode cX11_letter 122 = .ok (.lload 4, 2) := by decide +kernel
theorem dX11_letter_124 : decode cX11_letter 124 = .ok (.ldc2_w 275, 3) := by decide +kernel
theorem dX11_letter_127 : decode cX11_letter 127 = .ok (.lrem, 1) := by decide +kernel
theorem dX11_letter_128 : decode cX11_letter 128 = .ok (.l2i, 1) := by decide +kernel
theorem dX11_letter_129 : decode cX11_letter 129 = .ok (.ireturn, 1) := by decide +kernel
theorem dX11_longOf_0 : decode cX11_longOf 0 = .ok (.aload_n 0, 1) := by decide +kernel
theorem dX11_longOf_1 : decode cX11_longOf 1 = .ok (.getfield 109, 3) := by decide +kernel
theorem dX11_longOf_4 : decode cX11_longOf 4 = .ok (.bipush 64, 2) := by decide +kernel
theorem dX11_longOf_6 : decode cX11_longOf 6 = .ok (.iconst 4, 1) := by decide +kernel
theorem dX11_longOf_7 : decode cX11_longOf 7 = .ok (.iload_n 1, 1) := by decide +kernel
theorem dX11_longOf_8 : decode cX11_longOf 8 = .ok (.imul, 1) := by decide +kernel
theorem dX11_longOf_9 : decode cX11_longOf 9 = .ok (.iadd, 1) := by decide +kernel
theorem dX11_longOf_10 : decode cX11_longOf 10 = .ok (.iconst 2, 1) := by decide +kernel
theorem dX11_longOf_11 : decode cX11_longOf 11 = .ok (.iadd, 1) := by decide +kernel
theorem dX11_longOf_12 : decode cX11_longOf 12 = .ok (.iaload, 1) := by decide +kernel
theorem dX11_longOf_13 : decode cX11_longOf 13 = .ok (.aload_n 0, 1) := by decide +kernel
theorem dX11_longOf_14 : decode cX11_longOf 14 = .ok (.iload_n 2, 1) := by decide +kernel
theorem dX11_longOf_15 : decode cX11_longOf 15 = .ok (.invokevirtual 462, 3) := by decide +kernel
theorem dX11_longOf_18 : decode cX11_longOf 18 = .ok (.imul, 1) := by decide +kernel
theorem dX11_longOf_19 : decode cX11_longOf 19 = .ok (.ireturn, 1) := by decide +kernel
theorem dX11_look_0 : decode cX11_look 0 = .ok (.aload_n 0, 1) := by decide +kernel
theorem dX11_look_1 : decode cX11_look 1 = .ok (.getfield 230, 3) := by decide +kernel
theorem dX11_look_4 : decode cX11_look 4 = .ok (.aload_n 0, 1) := by decide +kernel
theorem dX11_look_5 : decode cX11_look 5 = .ok (.getfield 233, 3) := by decide +kernel
theorem dX11_look_8 : decode cX11_look 8 = .ok (.if_icmp .ge 44, 3) := by decide +kernel
theorem dX11_look_11 : decode cX11_look 11 = .ok (.aload_n 0, 1) := by decide +kernel
theorem dX11_look_12 : decode cX11_look 12 = .ok (.getfield 7, 3) := by decide +kernel
theorem dX11_look_15 : decode cX11_look 15 = .ok (.aload_n 0, 1) := by decide +kernel
theorem dX11_look_16 : decode cX11_look 16 = .ok (.getfield 230, 3) := by decide +kernel
theorem dX11_look_19 : decode cX11_look 19 = .ok (.iaload, 1) := by decide +kernel
theorem dX11_look_20 : decode cX11_look 20 = .ok (.bipush 10, 2) := by decide +kernel
theorem dX11_look_22 : decode cX11_look 22 = .ok (.if_icmp .eq 17, 3) := by decide +kernel
theorem dX11_look_25 : decode cX11_look 25 = .ok (.aload_n 0, 1) := by decide +kernel
theorem dX11_look_26 : decode cX11_look 26 = .ok (.getfield 7, 3) := by decide +kernel
theorem dX11_look_29 : decode cX11_look 29 = .ok (.aload_n 0, 1) := by decide +kernel
theorem dX11_look_30 : decode cX11_look 30 = .ok (.getfield 230, 3) := by decide +kernel
theorem dX11_look_33 : decode cX11_look 33 = .ok (.iaload, 1) := by decide +kernel
theorem dX11_look_34 : decode cX11_look 34 = .ok (.bipush 32, 2) := by decide +kernel
theorem dX11_look_36 : decode cX11_look 36 = .ok (.if_icmp .ne 16, 3) := by decide +kernel
theorem dX11_look_39 : decode cX11_look 39 = .ok (.aload_n 0, 1) := by decide +kernel
theorem dX11_look_40 : decode cX11_look 40 = .ok (.dup, 1) := by decide +kernel
theorem dX11_look_41 : decode cX11_look 41 = .ok (.getfield 230, 3) := by decide +kernel
theorem dX11_look_44 : decode cX11_look 44 = .ok (.iconst 1, 1) := by decide +kernel
theorem dX11_look_45 : decode cX11_look 45 = .ok (.iadd, 1) := by decide +kernel
theorem dX11_look_46 : decode cX11_look 46 = .ok (.putfield 230, 3) := by decide +kernel
theorem dX11_look_49 : decode cX11_look 49 = .ok (.goto (-49), 3) := by decide +kernel
theorem dX11_look_52 : decode cX11_look 52 = .ok (.aload_n 0, 1) := by decide +kernel
theorem dX11_look_53 : decode cX11_look 53 = .ok (.getfield 230, 3) := by decide +kernel
theorem dX11_look_56 : decode cX11_look 56 = .ok (.aload_n 0, 1) := by decide +kernel
theorem dX11_look_57 : decode cX11_look 57 = .ok (.getfield 233, 3) := by decide +kernel
theorem dX11_look_60 : decode cX11_look 60 = .ok (.if_icmp .ge 15, 3) := by decide +kernel
theorem dX11_look_63 : decode cX11_look 63 = .ok (.aload_n 0, 1) := by decide +kernel
theorem dX11_look_64 : decode cX11_look 64 = .ok (.getfield 7, 3) := by decide +kernel
theorem dX11_look_67 : decode cX11_look 67 = .ok (.aload_n 0, 1) := by decide +kernel
theorem dX11_look_68 : decode cX11_look 68 = .ok (.getfield 230, 3) := by decide +kernel
theorem dX11_look_71 : decode cX11_look 71 = .ok (.iaload, 1) := by decide +kernel
theorem dX11_look_72 : decode cX11_look 72 = .ok (.goto 4, 3) := by decide +kernel
theorem dX11_look_75 : decode cX11_look 75 = .ok (.iconst (-1), 1) := by decide +kernel
theorem dX11_look_76 : decode cX11_look 76 = .ok (.ireturn, 1) := by decide +kernel
theorem dX11_lots_0 : decode cX11_lots 0 = .ok (.aload_n 0, 1) := by decide +kernel
theorem dX11_lots_1 : decode cX11_lots 1 = .ok (.iload_n 1, 1) := by decide +kernel
theorem dX11_lots_2 : decode cX11_lots 2 = .ok (.invokevirtual 481, 3) := by decide +kernel
theorem dX11_lots_5 : decode cX11_lots 5 = .ok (.ifCond .ne 5, 3) := by decide +kernel
theorem dX11_lots_8 : decode cX11_lots 8 = .ok (.iconst (-1), 1) := by decide +kernel
theorem dX11_lots_9 : decode cX11_lots 9 = .ok (.ireturn, 1) := by decide +kernel
theorem dX11_lots_10 : decode cX11_lots 10 = .ok (.aload_n 0, 1) := by decide +kernel
theorem dX11_lots_11 : decode cX11_lots 11 = .ok (.invokevirtual 644, 3) := by decide +kernel
theorem dX11_lots_14 : decode cX11_lots 14 = .ok (.iconst 1, 1) := by decide +kernel
theorem dX11_lots_15 : decode cX11_lots 15 = .ok (.istore_n 2, 1) := by decide +kernel
theorem dX11_lots_16 : decode cX11_lots 16 = .ok (.iconst 0, 1) := by decide +kernel
theorem dX11_lots_17 : decode cX11_lots 17 = .ok (.istore_n 3, 1) := by decide +kernel
theorem dX11_lots_18 : decode cX11_lots 18 = .ok (.iload_n 3, 1) := by decide +kernel
theorem dX11_lots_19 : decode cX11_lots 19 = .ok (.aload_n 0, 1) := by decide +kernel
theorem dX11_lots_20 : decode cX11_lots 20 = .ok (.invokevirtual 447, 3) := by decide +kernel
theorem dX11_lots_23 : decode cX11_lots 23 = .ok (.if_icmp .ge 16, 3) := by decide +kernel
theorem dX11_lots_26 : decode cX11_lots 26 = .ok (.iload_n 2, 1) := by decide +kernel
theorem dX11_lots_27 : decode cX11_lots 27 = .ok (.aload_n 0, 1) := by decide +kernel
theorem dX11_lots_28 : decode cX11_lots 28 = .ok (.invokevirtual 447, 3) := by decide +kernel
theorem dX11_lots_31 : decode cX11_lots 31 = .ok (.imul, 1) := by decide +kernel
theorem dX11_lots_32 : decode cX11_lots 32 = .ok (.istore_n 2, 1) := by decide +kernel
theorem dX11_lots_33 : decode cX11_lots 33 = .ok (.iinc 3 1, 3) := by decide +kernel
theorem dX11_lots_36 : decode cX11_lots 36 = .ok (.goto (-18), 3) := by decide +kernel
theorem dX11_lots_39 : decode cX11_lots 39 = .ok (.aload_n 0, 1) := by decide +kernel
theorem dX11_lots_40 : decode cX11_lots 40 = .ok (.iload_n 1, 1) := by decide +kernel
theorem dX11_lots_41 : decode cX11_lots 41 = .ok (.invokevirtual 660, 3) := by decide +kernel
theorem dX11_lots_44 : decode cX11_lots 44 = .ok (.istore_n 3, 1) := by decide +kernel
theorem dX11_lots_45 : decode cX11_lots 45 = .ok (.iconst 0, 1) := by decide +kernel
theorem dX11_lots_46 : decode cX11_lots 46 = .ok (.istore 4, 2) := by decide +kernel
theorem dX11_lots_48 : decode cX11_lots 48 = .ok (.iconst 0, 1) := by decide +kernel
theorem dX11_lots_49 : decode cX11_lots 49 = .ok (.istore 5, 2) := by decide +kernel
theorem dX11_lots_51 : decode cX11_lots 51 = .ok (.iload 5, 2) := by decide +kernel
theorem dX11_lots_53 : decode cX11_lots 53 = .ok (.iload_n 2, 1) := by decide +kernel
theorem dX11_lots_54 : decode cX11_lots 54 = .ok (.if_icmp .ge 92, 3) := by decide +kernel
theorem dX11_lots_57 : decode cX11_lots 57 = .ok (.aload_n 0, 1) := by decide +kernel
theorem dX11_lots_58 : decode cX11_lots 58 = .ok (.iload 5, 2) := by decide +kernel
theorem dX11_lots_60 : decode cX11_lots 60 = .ok (.invokevirtual 663, 3) := by decide +kernel
theorem dX11_lots_63 : decode cX11_lots 63 = .ok (.ifCond .ne 6, 3) := by decide +kernel
theorem dX11_lots_66 : decode cX11_lots 66 = .ok (.goto 74, 3) := by decide +kernel
theorem dX11_lots_69 : decode cX11_lots 69 = .ok (.iconst 0, 1) := by decide +kernel
theorem dX11_lots_70 : decode cX11_lots 70 = .ok (.istore 6, 2) := by decide +kernel
theorem dX11_lots_72 : decode cX11_lots 72 = .ok (.iload 6, 2) := by decide +kernel
theorem dX11_lots_74 : decode cX11_lots 74 = .ok (.aload_n 0, 1) := by decide +kernel
theorem dX11_lots_75 : decode cX11_lots 75 = .ok (.invokevirtual 447, 3) := by decide +kernel
theorem dX11_lots_78 : decode cX11_lots 78 = .ok (.if_icmp .ge 62, 3) := by decide +kernel
theorem dX11_lots_81 : decode cX11_lots 81 = .ok (.aload_n 0, 1) := by decide +kernel
theorem dX11_lots_82 : decode cX11_lots 82 = .ok (.getfield 209, 3) := by decide +kernel
theorem dX11_lots_85 : decode cX11_lots 85 = .ok (.iload 6, 2) := by decide +kernel
theorem dX11_lots_87 : decode cX11_lots 87 = .ok (.aload_n 0, 1) := by decide +kernel
theorem dX11_lots_88 : decode cX11_lots 88 = .ok (.iload 6, 2) := by decide +kernel
theorem dX11_lots_90 : decode cX11_lots 90 = .ok (.invokevirtual 666, 3) := by decide +kernel
theorem dX11_lots_93 : decode cX11_lots 93 = .ok (.iastore, 1) := by decide +kernel
theorem dX11_lots_94 : decode cX11_lots 94 = .ok (.aload_n 0, 1) := by decide +kernel
theorem dX11_lots_95 : decode cX11_lots 95 = .ok (.getfield 206, 3) := by decide +kernel
theorem dX11_lots_98 : decode cX11_lots 98 = .ok (.iload 6, 2) := by decide +kernel
theorem dX11_lots_100 : decode cX11_lots 100 = .ok (.iaload, 1) := by decide +kernel
theorem dX11_lots_101 : decode cX11_lots 101 = .ok (.iload_n 1, 1) := by decide +kernel
theorem dX11_lots_102 : decode cX11_lots 102 = .ok (.if_icmp .ne 32, 3) := by decide +kernel
theorem dX11_lots_105 : decode cX11_lots 105 = .ok (.aload_n 0, 1) := by decide +kernel
theorem dX11_lots_106 : decode cX11_lots 106 = .ok (.getfield 209, 3) := by decide +kernel
theorem dX11_lots_109 : decode cX11_lots 109 = .ok (.iload 6, 2) := by decide +kernel
theorem dX11_lots_111 : decode cX11_lots 111 = .ok (.iaload, 1) := by decide +kernel
theorem dX11_lots_112 : decode cX11_lots 112 = .ok (.iconst (-1), 1) := by decide +kernel
theorem dX11_lots_113 : decode cX11_lots 113 = .ok (.if_icmp .eq 21, 3) := by decide +kernel
theorem dX11_lots_116 : decode cX11_lots 116 = .ok (.aload_n 0, 1) := by decide +kernel
theorem dX11_lots_117 : decode cX11_lots 117 = .ok (.aload_n 0, 1) := by decide +kernel
theorem dX11_lots_118 : decode cX11_lots 118 = .ok (.getfield 209, 3) := by decide +kernel
theorem dX11_lots_121 : decode cX11_lots 121 = .ok (.iload 6, 2) := by decide +kernel
theorem dX11_lots_123 : decode cX11_lots 123 = .ok (.iaload, 1) := by decide +kernel
theorem dX11_lots_124 : decode cX11_lots 124 = .ok (.invokevirtual 459, 3) := by decide +kernel
theorem dX11_lots_127 : decode cX11_lots 127 = .ok (.iload_n 3, 1) := by decide +kernel
theorem dX11_lots_128 : decode cX11_lots 128 = .ok (.if_icmp .ne 6, 3) := by decide +kernel
theorem dX11_lots_131 : decode cX11_lots 131 = .ok (.iinc 4 1, 3) := by decide +kernel
theorem dX11_lots_134 : decode cX11_lots 134 = .ok (.iinc 6 1, 3) := by decide +kernel
theorem dX11_lots_137 : decode cX11_lots 137 = .ok (.goto (-65), 3) := by decide +kernel
theorem dX11_lots_140 : decode cX11_lots 140 = .ok (.iinc 5 1, 3) := by decide +kernel
theorem dX11_lots_143 : decode cX11_lots 143 = .ok (.goto (-92), 3) := by decide +kernel
theorem dX11_lots_146 : decode cX11_lots 146 = .ok (.iload 4, 2) := by decide +kernel
theorem dX11_lots_148 : decode cX11_lots 148 = .ok (.ireturn, 1) := by decide +kernel
theorem dX11_louder_0 : decode cX11_louder 0 = .ok (.aload_n 0, 1) := by decide +kernel
theorem dX11_louder_1 : decode cX11_louder 1 = .ok (.getfield 112, 3) := by decide +kernel
theorem dX11_louder_4 : decode cX11_louder 4 = .ok (.bipush 16, 2) := by decide +kernel
theorem dX11_louder_6 : decode cX11_louder 6 = .ok (.iconst 4, 1) := by decide +kernel
theorem dX11_louder_7 : decode cX11_louder 7 = .ok (.iload_n 1, 1) := by decide +kernel
theorem dX11_louder_8 : decode cX11_louder 8 = .ok (.imul, 1) := by decide +kernel
theorem dX11_louder_9 : decode cX11_louder 9 = .ok (.iadd, 1) := by decide +kernel
theorem dX11_louder_10 : decode cX11_louder 10 = .ok (.iconst 2, 1) := by decide +kernel
theorem dX11_louder_11 : decode cX11_louder 11 = .ok (.iadd, 1) := by decide +kernel
theorem dX11_louder_12 : decode cX11_louder 12 = .ok (.iaload, 1) := by decide +kernel
theorem dX11_louder_13 : decode cX11_louder 13 = .ok (.istore_n 3, 1) := by decide +kernel
theorem dX11_louder_14 : decode cX11_louder 14 = .ok (.aload_n 0, 1) := by decide +kernel
theorem dX11_louder_15 : decode cX11_louder 15 = .ok (.getfield 112, 3) := by decide +kernel
theorem dX11_louder_18 : decode cX11_louder 18 = .ok (.bipush 16, 2) := by decide +kernel
theorem dX11_louder_20 : decode cX11_louder 20 = .ok (.iconst 4, 1) := by decide +kernel
theorem dX11_louder_21 : decode cX11_louder 21 = .ok (.iload_n 2, 1) := by decide +kernel
theorem dX11_louder_22 : decode cX11_louder 22 = .ok (.imul, 1) := by decide +kernel
theorem dX11_louder_23 : decode cX11_louder 23 = .ok (.iadd, 1) := by decide +kernel
theorem dX11_louder_24 : decode cX11_louder 24 = .ok (.iconst 2, 1) := by decide +kernel
theorem dX11_louder_25 : decode cX11_louder 25 = .ok (.iadd, 1) := by decide +kernel
theorem dX11_louder_26 : decode cX11_louder 26 = .ok (.iaload, 1) := by decide +kernel
theorem dX11_louder_27 : decode cX11_louder 27 = .ok (.istore 4, 2) := by decide +kernel
theorem dX11_louder_29 : decode cX11_louder 29 = .ok (.iload_n 3, 1) := by decide +kernel
theorem dX11_louder_30 : decode cX11_louder 30 = .ok (.iload 4, 2) := by decide +kernel
theorem dX11_louder_32 : decode cX11_louder 32 = .ok (.if_icmp .le 7, 3) := by decide +kernel
theorem dX11_louder_35 : decode cX11_louder 35 = .ok (.iload_n 3, 1) := by decide +kernel
theorem dX11_louder_36 : decode cX11_louder 36 = .ok (.goto 5, 3) := by decide +kernel
theorem dX11_louder_39 : decode cX11_louder 39 = .ok (.iload 4, 2) := by decide +kernel
theorem dX11_louder_41 : decode cX11_louder 41 = .ok (.ireturn, 1) := by decide +kernel
theorem dX11_mark_0 : decode cX11_mark 0 = .ok (.aload_n 0, 1) := by decide +kernel
theorem dX11_mark_1 : decode cX11_mark 1 = .ok (.getfield 309, 3) := by decide +kernel
theorem dX11_mark_4 : decode cX11_mark 4 = .ok (.iconst 1, 1) := by decide +kernel
theorem dX11_mark_5 : decode cX11_mark 5 = .ok (.isub, 1) := by decide +kernel
theorem dX11_mark_6 : decode cX11_mark 6 = .ok (.istore_n 1, 1) := by decide +kernel
theorem dX11_mark_7 : decode cX11_mark 7 = .ok (.iload_n 1, 1) := by decide +kernel
theorem dX11_mark_8 : decode cX11_mark 8 = .ok (.aload_n 0, 1) := by decide +kernel
theorem dX11_mark_9 : decode cX11_mark 9 = .ok (.getfield 315, 3) := by decide +kernel
theorem dX11_mark_12 : decode cX11_mark 12 = .ok (.if_icmp .lt 22, 3) := by decide +kernel
theorem dX11_mark_15 : decode cX11_mark 15 = .ok (.aload_n 0, 1) := by decide +kernel
theorem dX11_mark_16 : decode cX11_mark 16 = .ok (.aload_n 0, 1) := by decide +kernel
theorem dX11_mark_17 : decode cX11_mark 17 = .ok (.getfield 124, 3) := by decide +kernel
theorem dX11_mark_20 : decode cX11_mark 20 = .ok (.iload_n 1, 1) := by decide +kernel
theorem dX11_mark_21 : decode cX11_mark 21 = .ok (.iaload, 1) := by decide +kernel
theorem dX11_mark_22 : decode cX11_mark 22 = .ok (.invokevirtual 373, 3) := by decide +kernel
theorem dX11_mark_25 : decode cX11_mark 25 = .ok (.ifCond .ne 9, 3) := by decide +kernel
theorem dX11_mark_28 : decode cX11_mark 28 = .ok (.iinc 1 (-1), 3) := by decide +kernel
theorem dX11_mark_31 : decode cX11_mark 31 = .ok (.goto (-24), 3) := by decide +kernel
theorem dX11_mark_34 : decode cX11_mark 34 = .ok (.iload_n 1, 1) := by decide +kernel
theorem dX11_mark_35 : decode cX11_mark 35 = .ok (.aload_n 0, 1) := by decide +kernel
theorem dX11_mark_36 : decode cX11_mark 36 = .ok (.getfield 315, 3) := by decide +kernel
theorem dX11_mark_39 : decode cX11_mark 39 = .ok (.if_icmp .lt 12, 3) := by decide +kernel
theorem dX11_mark_42 : decode cX11_mark 42 = .ok (.aload_n 0, 1) := by decide +kernel
theorem dX11_mark_43 : decode cX11_mark 43 = .ok (.getfield 124, 3) := by decide +kernel
theorem dX11_mark_46 : decode cX11_mark 46 = .ok (.iload_n 1, 1) := by decide +kernel
theorem dX11_mark_47 : decode cX11_mark 47 = .ok (.iaload, 1) := by decide +kernel
theorem dX11_mark_48 : decode cX11_mark 48 = .ok (.goto 4, 3) := by decide +kernel
theorem dX11_mark_51 : decode cX11_mark 51 = .ok (.iconst (-1), 1) := by decide +kernel
theorem dX11_mark_52 : decode cX11_mark 52 = .ok (.ireturn, 1) := by decide +kernel
theorem dX11_meet_0 : decode cX11_meet 0 = .ok (.aload_n 0, 1) := by decide +kernel
theorem dX11_meet_1 : decode cX11_meet 1 = .ok (.iload_n 1, 1) := by decide +kernel
theorem dX11_meet_2 : decode cX11_meet 2 = .ok (.invokevirtual 481, 3) := by decide +kernel
theorem dX11_meet_5 : decode cX11_meet 5 = .ok (.ifCond .eq 16, 3) := by decide +kernel
theorem dX11_meet_8 : decode cX11_meet 8 = .ok (.aload_n 0, 1) := by decide +kernel
theorem dX11_meet_9 : decode cX11_meet 9 = .ok (.iload_n 2, 1) := by decide +kernel
theorem dX11_meet_10 : decode cX11_meet 10 = .ok (.invokevirtual 481, 3) := by decide +kernel
theorem dX11_meet_13 : decode cX11_meet 13 = .ok (.ifCond .eq 8, 3) := by decide +kernel
theorem dX11_meet_16 : decode cX11_meet 16 = .ok (.iload_n 1, 1) := by decide +kernel
theorem dX11_meet_17 : decode cX11_meet 17 = .ok (.iload_n 2, 1) := by decide +kernel
theorem dX11_meet_18 : decode cX11_meet 18 = .ok (.if_icmp .ne 5, 3) := by decide +kernel
theorem dX11_meet_21 : decode cX11_meet 21 = .ok (.iconst (-1), 1) := by decide +kernel
theorem dX11_meet_22 : decode cX11_meet 22 = .ok (.ireturn, 1) := by decide +kernel
theorem dX11_meet_23 : decode cX11_meet 23 = .ok (.iconst 0, 1) := by decide +kernel
theorem dX11_meet_24 : decode cX11_meet 24 = .ok (.istore_n 3, 1) := by decide +kernel
theorem dX11_meet_25 : decode cX11_meet 25 = .ok (.iload_n 3, 1) := by decide +kernel
theorem dX11_meet_26 : decode cX11_meet 26 = .ok (.sipush 999, 3) := by decide +kernel
theorem dX11_meet_29 : decode cX11_meet 29 = .ok (.if_icmp .gt 32, 3) := by decide +kernel
theorem dX11_meet_32 : decode cX11_meet 32 = .ok (.aload_n 0, 1) := by decide +kernel
theorem dX11_meet_33 : decode cX11_meet 33 = .ok (.iload_n 1, 1) := by decide +kernel
theorem dX11_meet_34 : decode cX11_meet 34 = .ok (.iload_n 2, 1) := by decide +kernel
theorem dX11_meet_35 : decode cX11_meet 35 = .ok (.iload_n 3, 1) := by decide +kernel
theorem dX11_meet_36 : decode cX11_meet 36 = .ok (.invokevirtual 548, 3) := by decide +kernel
theorem dX11_meet_39 : decode cX11_meet 39 = .ok (.iconst (-1), 1) := by decide +kernel
theorem dX11_meet_40 : decode cX11_meet 40 = .ok (.if_icmp .ne 13, 3) := by decide +kernel
theorem dX11_meet_43 : decode cX11_meet 43 = .ok (.aload_n 0, 1) := by decide +kernel
theorem dX11_meet_44 : decode cX11_meet 44 = .ok (.iload_n 1, 1) := by decide +kernel
theorem dX11_meet_45 : decode cX11_meet 45 = .ok (.iload_n 2, 1) := by decide +kernel
theorem dX11_meet_46 : decode cX11_meet 46 = .ok (.iload_n 3, 1) := by decide +kernel
theorem dX11_meet_47 : decode cX11_meet 47 = .ok (.invokevirtual 552, 3) := by decide +kernel
theorem dX11_meet_50 : decode cX11_meet 50 = .ok (.ifCond .eq 5, 3) := by decide +kernel
theorem dX11_meet_53 : decode cX11_meet 53 = .ok (.iload_n 3, 1) := by decide +kernel
theorem dX11_meet_54 : decode cX11_meet 54 = .ok (.ireturn, 1) := by decide +kernel
theorem dX11_meet_55 : decode cX11_meet 55 = .ok (.iinc 3 1, 3) := by decide +kernel
theorem dX11_meet_58 : decode cX11_meet 58 = .ok (.goto (-33), 3) := by decide +kernel
theorem dX11_meet_61 : decode cX11_meet 61 = .ok (.iconst (-1), 1) := by decide +kernel
theorem dX11_meet_62 : decode cX11_meet 62 = .ok (.ireturn, 1) := by decide +kernel
theorem dX11_mend_0 : decode cX11_mend 0 = .ok (.aload_n 0, 1) := by decide +kernel
theorem dX11_mend_1 : decode cX11_mend 1 = .ok (.invokevirtual 644, 3) := by decide +kernel
theorem dX11_mend_4 : decode cX11_mend 4 = .ok (.aload_n 0, 1) := by decide +kernel
theorem dX11_mend_5 : decode cX11_mend 5 = .ok (.aload_n 0, 1) := by decide +kernel
theorem dX11_mend_6 : decode cX11_mend 6 = .ok (.invokevirtual 647, 3) := by decide +kernel
theorem dX11_mend_9 : decode cX11_mend 9 = .ok (.iconst 1, 1) := by decide +kernel
theorem dX11_mend_10 : decode cX11_mend 10 = .ok (.iconst 0, 1) := by decide +kernel
theorem dX11_mend_11 : decode cX11_mend 11 = .ok (.invokevirtual 650, 3) := by decide +kernel
theorem dX11_mend_14 : decode cX11_mend 14 = .ok (.ifCond .ne 5, 3) := by decide +kernel
theorem dX11_mend_17 : decode cX11_mend 17 = .ok (.iconst (-1), 1) := by decide +kernel
theorem dX11_mend_18 : decode cX11_mend 18 = .ok (.ireturn, 1) := by decide +kernel
theorem dX11_mend_19 : decode cX11_mend 19 = .ok (.aload_n 0, 1) := by decide +kernel
theorem dX11_mend_20 : decode cX11_mend 20 = .ok (.getfield 625, 3) := by decide +kernel
theorem dX11_mend_23 : decode cX11_mend 23 = .ok (.ifCond .ne 5, 3) := by decide +kernel
theorem dX11_mend_26 : decode cX11_mend 26 = .ok (.iconst 0, 1) := by decide +kernel
theorem dX11_mend_27 : decode cX11_mend 27 = .ok (.ireturn, 1) := by decide +kernel
theorem dX11_mend_28 : decode cX11_mend 28 = .ok (.aload_n 0, 1) := by decide +kernel
theorem dX11_mend_29 : decode cX11_mend 29 = .ok (.invokevirtual 509, 3) := by decide +kernel
theorem dX11_mend_32 : decode cX11_mend 32 = .ok (.iconst 0, 1) := by decide +kernel
theorem dX11_mend_33 : decode cX11_mend 33 = .ok (.istore_n 1, 1) := by decide +kernel
theorem dX11_mend_34 : decode cX11_mend 34 = .ok (.iload_n 1, 1) := by decide +kernel
theorem dX11_mend_35 : decode cX11_mend 35 = .ok (.aload_n 0, 1) := by decide +kernel
theorem dX11_mend_36 : decode cX11_mend 36 = .ok (.invokevirtual 447, 3) := by decide +kernel
theorem dX11_mend_39 : decode cX11_mend 39 = .ok (.if_icmp .ge 35, 3) := by decide +kernel
theorem dX11_mend_42 : decode cX11_mend 42 = .ok (.aload_n 0, 1) := by decide +kernel
theorem dX11_mend_43 : decode cX11_mend 43 = .ok (.getfield 203, 3) := by decide +kernel
theorem dX11_mend_46 : decode cX11_mend 46 = .ok (.iload_n 1, 1) := by decide +kernel
theorem dX11_mend_47 : decode cX11_mend 47 = .ok (.iaload, 1) := by decide +kernel
theorem dX11_mend_48 : decode cX11_mend 48 = .ok (.ifCond .le 20, 3) := by decide +kernel
theorem dX11_mend_51 : decode cX11_mend 51 = .ok (.aload_n 0, 1) := by decide +kernel
theorem dX11_mend_52 : decode cX11_mend 52 = .ok (.iload_n 1, 1) := by decide +kernel
theorem dX11_mend_53 : decode cX11_mend 53 = .ok (.iload_n 1, 1) := by decide +kernel
theorem dX11_mend_54 : decode cX11_mend 54 = .ok (.aload_n 0, 1) := by decide +kernel
theorem dX11_mend_55 : decode cX11_mend 55 = .ok (.getfield 203, 3) := by decide +kernel
theorem dX11_mend_58 : decode cX11_mend 58 = .ok (.iload_n 1, 1) := by decide +kernel
theorem dX11_mend_59 : decode cX11_mend 59 = .ok (.iaload, 1) := by decide +kernel
theorem dX11_mend_60 : decode cX11_mend 60 = .ok (.iconst 1, 1) := by decide +kernel
theorem dX11_mend_61 : decode cX11_mend 61 = .ok (.isub, 1) := by decide +kernel
theorem dX11_mend_62 : decode cX11_mend 62 = .ok (.invokestatic 604, 3) := by decide +kernel
theorem dX11_mend_65 : decode cX11_mend 65 = .ok (.invokevirtual 654, 3) := by decide +kernel
theorem dX11_mend_68 : decode cX11_mend 68 = .ok (.iinc 1 1, 3) := by decide +kernel
theorem dX11_mend_71 : decode cX11_mend 71 = .ok (.goto (-37), 3) := by decide +kernel
theorem dX11_mend_74 : decode cX11_mend 74 = .ok (.aload_n 0, 1) := by decide +kernel
theorem dX11_mend_75 : decode cX11_mend 75 = .ok (.getfield 625, 3) := by decide +kernel
theorem dX11_mend_78 : decode cX11_mend 78 = .ok (.ireturn, 1) := by decide +kernel
theorem dX11_name_0 : decode cX11_name 0 = .ok (.aload_n 0, 1) := by decide +kernel
theorem dX11_name_1 : decode cX11_name 1 = .ok (.getfield 224, 3) := by decide +kernel
theorem dX11_name_4 : decode cX11_name 4 = .ok (.ifCond .eq 5, 3) := by decide +kernel
theorem dX11_name_7 : decode cX11_name 7 = .ok (.lconst 0, 1) := by decide +kernel
theorem dX11_name_8 : decode cX11_name 8 = .ok (.lreturn, 1) := by decide +kernel
theorem dX11_name_9 : decode cX11_name 9 = .ok (.aload_n 0, 1) := by decide +kernel
theorem dX11_name_10 : decode cX11_name 10 = .ok (.invokevirtual 236, 3) := by decide +kernel
theorem dX11_name_13 : decode cX11_name 13 = .ok (.invokestatic 240, 3) := by decide +kernel
theorem dX11_name_16 : decode cX11_name 16 = .ok (.ifCond .eq 21, 3) := by decide +kernel
theorem dX11_name_19 : decode cX11_name 19 = .ok (.aload_n 0, 1) := by decide +kernel
theorem dX11_name_20 : decode cX11_name 20 = .ok (.getfield 230, 3) := by decide +kernel
theorem dX11_name_23 : decode cX11_name 23 = .ok (.aload_n 0, 1) := by decide +kernel
theorem dX11_name_24 : decode cX11_name 24 = .ok (.getfield 244, 3) := by decide +kernel
theorem dX11_name_27 : decode cX11_name 27 = .ok (.if_icmp .eq 10, 3) := by decide +kernel
theorem dX11_name_30 : decode cX11_name 30 = .ok (.aload_n 0, 1) := by decide +kernel
theorem dX11_name_31 : decode cX11_name 31 = .ok (.invokevirtual 268, 3) := by decide +kernel
theorem dX11_name_34 : decode cX11_name 34 = .ok (.ifCond .eq 14, 3) := by decide +kernel
theorem dX11_name_37 : decode cX11_name 37 = .ok (.aload_n 0, 1) := by decide +kernel
theorem dX11_name_38 : decode cX11_name 38 = .ok (.iconst 1, 1) := by decide +kernel
theorem dX11_name_39 : decode cX11_name 39 = .ok (.aload_n 0, 1) := by decide +kernel
theorem dX11_name_40 : decode cX11_name 40 = .ok (.getfield 230, 3) := by decide +kernel
theorem dX11_name_43 : decode cX11_name 43 = .ok (.invokevirtual 254, 3) := by decide +kernel
theorem dX11_name_46 : decode cX11_name 46 = .ok (.lconst 0, 1) := by decide +kernel
theorem dX11_name_47 : decode cX11_name 47 = .ok (.lreturn, 1) := by decide +kernel
theorem dX11_name_48 : decode cX11_name 48 = .ok (.aload_n 0, 1) := by decide +kernel
theorem dX11_name_49 : decode cX11_name 49 = .ok (.aload_n 0, 1) := by decide +kernel
theorem dX11_name_50 : decode cX11_name 50 = .ok (.getfield 230, 3) := by decide +kernel
theorem dX11_name_53 : decode cX11_name 53 = .ok (.putfield 272, 3) := by decide +kernel
theorem dX11_name_56 : decode cX11_name 56 = .ok (.lconst 0, 1) := by decide +kernel
theorem dX11_name_57 : decode cX11_name 57 = .ok (.lstore_n 1, 1) := by decide +kernel
theorem dX11_name_58 : decode cX11_name 58 = .ok (.aload_n 0, 1) := by decide +kernel
theorem dX11_name_59 : decode cX11_name 59 = .ok (.getfield 230, 3) := by decide +kernel
theorem dX11_name_62 : decode cX11_name 62 = .ok (.aload_n 0, 1) := by decide +kernel
theorem dX11_name_63 : decode cX11_name 63 = .ok (.getfield 233, 3) := by decide +kernel
theorem dX11_name_66 : decode cX11_name 66 = .ok (.if_icmp .ge 79, 3) := by decide +kernel
theorem dX11_name_69 : decode cX11_name 69 = .ok (.aload_n 0, 1) := by decide +kernel
theorem dX11_name_70 : decode cX11_name 70 = .ok (.getfield 7, 3) := by decide +kernel
theorem dX11_name_73 : decode cX11_name 73 = .ok (.aload_n 0, 1) := by decide +kernel
theorem dX11_name_74 : decode cX11_name 74 = .ok (.getfield 230, 3) := by decide +kernel
theorem dX11_name_77 : decode cX11_name 77 = .ok (.iaload, 1) := by decide +kernel
theorem dX11_name_78 : decode cX11_name 78 = .ok (.invokestatic 240, 3) := by decide +kernel
theorem dX11_name_81 : decode cX11_name 81 = .ok (.ifCond .eq 64, 3) := by decide +kernel
theorem dX11_name_84 : decode cX11_name 84 = .ok (.aload_n 0, 1) := by decide +kernel
theorem dX11_name_85 : decode cX11_name 85 = .ok (.getfield 230, 3) := by decide +kernel
theorem dX11_name_88 : decode cX11_name 88 = .ok (.aload_n 0, 1) := by decide +kernel
theorem dX11_name_89 : decode cX11_name 89 = .ok (.getfield 272, 3) := by decide +kernel
theorem dX11_name_92 : decode cX11_name 92 = .ok (.isub, 1) := by decide +kernel
theorem dX11_name_93 : decode cX11_name 93 = .ok (.bipush 6, 2) := by decide +kernel
theorem dX11_name_95 : decode cX11_name 95 = .ok (.if_icmp .ne 14, 3) := by decide +kernel
theorem dX11_name_98 : decode cX11_name 98 = .ok (.aload_n 0, 1) := by decide +kernel
theorem dX11_name_99 : decode cX11_name 99 = .ok (.iconst 1, 1) := by decide +kernel
theorem dX11_name_100 : decode cX11_name 100 = .ok (.aload_n 0, 1) := by decide +kernel
theorem dX11_name_101 : decode cX11_name 101 = .ok (.getfield 230, 3) := by decide +kernel
theorem dX11_name_104 : decode cX11_name 104 = .ok (.invokevirtual 254, 3) := by decide +kernel
theorem dX11_name_107 : decode cX11_name 107 = .ok (.lconst 0, 1) := by decide +kernel
theorem dX11_name_108 : decode cX11_name 108 = .ok (.lreturn, 1) := by decide +kernel
theorem dX11_name_109 : decode cX11_name 109 = .ok (.ldc2_w 275, 3) := by decide +kernel
theorem dX11_name_112 : decode cX11_name 112 = .ok (.lload_n 1, 1) := by decide +kernel
theorem dX11_name_113 : decode cX11_name 113 = .ok (.lmul, 1) := by decide +kernel
theorem dX11_name_114 : decode cX11_name 114 = .ok (.aload_n 0, 1) := by decide +kernel
theorem dX11_name_115 : decode cX11_name 115 = .ok (.getfield 7, 3) := by decide +kernel
theorem dX11_name_118 : decode cX11_name 118 = .ok (.aload_n 0, 1) := by decide +kernel
theorem dX11_name_119 : decode cX11_name 119 = .ok (.getfield 230, 3) := by decide +kernel
theorem dX11_name_122 : decode cX11_name 122 = .ok (.iaload, 1) := by decide +kernel
theorem dX11_name_123 : decode cX11_name 123 = .ok (.i2l, 1) := by decide +kernel
theorem dX11_name_124 : decode cX11_name 124 = .ok (.ladd, 1) := by decide +kernel
theorem dX11_name_125 : decode cX11_name 125 = .ok (.ldc2_w 277, 3) := by decide +kernel
theorem dX11_name_128 : decode cX11_name 128 = .ok (.lsub, 1) := by decide +kernel
theorem dX11_name_129 : decode cX11_name 129 = .ok (.lconst 1, 1) := by decide +kernel
theorem dX11_name_130 : decode cX11_name 130 = .ok (.ladd, 1) := by decide +kernel
theorem dX11_name_131 : decode cX11_name 131 = .ok (.lstore_n 1, 1) := by decide +kernel
theorem dX11_name_132 : decode cX11_name 132 = .ok (.aload_n 0, 1) := by decide +kernel
theorem dX11_name_133 : decode cX11_name 133 = .ok (.dup, 1) := by decide +kernel
theorem dX11_name_134 : decode cX11_name 134 = .ok (.getfield 230, 3) := by decide +kernel
theorem dX11_name_137 : decode cX11_name 137 = .ok (.iconst 1, 1) := by decide +kernel
theorem dX11_name_138 : decode cX11_name 138 = .ok (.iadd, 1) := by decide +kernel
theorem dX11_name_139 : decode cX11_name 139 = .ok (.putfield 230, 3) := by decide +kernel
theorem dX11_name_142 : decode cX11_name 142 = .ok (.goto (-84), 3) := by decide +kernel
theorem dX11_name_145 : decode cX11_name 145 = .ok (.aload_n 0, 1) := by decide +kernel
theorem dX11_name_146 : decode cX11_name 146 = .ok (.aload_n 0, 1) := by decide +kernel
theorem dX11_name_147 : decode cX11_name 147 = .ok (.getfield 230, 3) := by decide +kernel
theorem dX11_name_150 : decode cX11_name 150 = .ok (.putfield 244, 3) := by decide +kernel
theorem dX11_name_153 : decode cX11_name 153 = .ok (.lload_n 1, 1) := by decide +kernel
theorem dX11_name_154 : decode cX11_name 154 = .ok (.lreturn, 1) := by decide +kernel
theorem dX11_nameOf_0 : decode cX11_nameOf 0 = .ok (.iconst 0, 1) := by decide +kernel
theorem dX11_nameOf_1 : decode cX11_nameOf 1 = .ok (.istore 4, 2) := by decide +kernel
theorem dX11_nameOf_3 : decode cX11_nameOf 3 = .ok (.iload 4, 2) := by decide +kernel
theorem dX11_nameOf_5 : decode cX11_nameOf 5 = .ok (.aload_n 0, 1) := by decide +kernel
theorem dX11_nameOf_6 : decode cX11_nameOf 6 = .ok (.getfield 99, 3) := by decide +kernel
theorem dX11_nameOf_9 : decode cX11_nameOf 9 = .ok (.iload_n 1, 1) := by decide +kernel
theorem dX11_nameOf_10 : decode cX11_nameOf 10 = .ok (.iaload, 1) := by decide +kernel
theorem dX11_nameOf_11 : decode cX11_nameOf 11 = .ok (.if_icmp .ge 29, 3) := by decide +kernel
theorem dX11_nameOf_14 : decode cX11_nameOf 14 = .ok (.aload_n 0, 1) := by decide +kernel
theorem dX11_nameOf_15 : decode cX11_nameOf 15 = .ok (.getfield 102, 3) := by decide +kernel
theorem dX11_nameOf_18 : decode cX11_nameOf 18 = .ok (.bipush 10, 2) := by decide +kernel
theorem dX11_nameOf_20 : decode cX11_nameOf 20 = .ok (.iload_n 1, 1) := by decide +kernel
theorem dX11_nameOf_21 : decode cX11_nameOf 21 = .ok (.imul, 1) := by decide +kernel
theorem dX11_nameOf_22 : decode cX11_nameOf 22 = .ok (.iload 4, 2) := by decide +kernel
theorem dX11_nameOf_24 : decode cX11_nameOf 24 = .ok (.iadd, 1) := by decide +kernel
theorem dX11_nameOf_25 : decode cX11_nameOf 25 = .ok (.laload, 1) := by decide +kernel
theorem dX11_nameOf_26 : decode cX11_nameOf 26 = .ok (.lload_n 2, 1) := by decide +kernel
theorem dX11_nameOf_27 : decode cX11_nameOf 27 = .ok (.lcmp, 1) := by decide +kernel
theorem dX11_nameOf_28 : decode cX11_nameOf 28 = .ok (.ifCond .ne 6, 3) := by decide +kernel
theorem dX11_nameOf_31 : decode cX11_nameOf 31 = .ok (.iload 4, 2) := by decide +kernel
theorem dX11_nameOf_33 : decode cX11_nameOf 33 = .ok (.ireturn, 1) := by decide +kernel
theorem dX11_nameOf_34 : decode cX11_nameOf 34 = .ok (.iinc 4 1, 3) := by decide +kernel
theorem dX11_nameOf_37 : decode cX11_nameOf 37 = .ok (.goto (-34), 3) := by decide +kernel
theorem dX11_nameOf_40 : decode cX11_nameOf 40 = .ok (.iconst (-1), 1) := by decide +kernel
theorem dX11_nameOf_41 : decode cX11_nameOf 41 = .ok (.ireturn, 1) := by decide +kernel
theorem dX11_newBalcony_0 : decode cX11_newBalcony 0 = .ok (.aload_n 0, 1) := by decide +kernel
theorem dX11_newBalcony_1 : decode cX11_newBalcony 1 = .ok (.iconst 3, 1) := by decide +kernel
theorem dX11_newBalcony_2 : decode cX11_newBalcony 2 = .ok (.bipush 10, 2) := by decide +kernel
theorem dX11_newBalcony_4 : decode cX11_newBalcony 4 = .ok (.iload_n 1, 1) := by decide +kernel
theorem dX11_newBalcony_5 : decode cX11_newBalcony 5 = .ok (.invokevirtual 287, 3) := by decide +kernel
theorem dX11_newBalcony_8 : decode cX11_newBalcony 8 = .ok (.ifCond .eq 4, 3) := by decide +kernel
theorem dX11_newBalcony_11 : decode cX11_newBalcony 11 = .ok (.return_, 1) := by decide +kernel
theorem dX11_newBalcony_12 : decode cX11_newBalcony 12 = .ok (.iconst 4, 1) := by decide +kernel
theorem dX11_newBalcony_13 : decode cX11_newBalcony 13 = .ok (.aload_n 0, 1) := by decide +kernel
theorem dX11_newBalcony_14 : decode cX11_newBalcony 14 = .ok (.getfield 99, 3) := by decide +kernel
theorem dX11_newBalcony_17 : decode cX11_newBalcony 17 = .ok (.iconst 3, 1) := by decide +kernel
theorem dX11_newBalcony_18 : decode cX11_newBalcony 18 = .ok (.iaload, 1) := by decide +kernel
theorem dX11_newBalcony_19 : decode cX11_newBalcony 19 = .ok (.imul, 1) := by decide +kernel
theorem dX11_newBalcony_20 : decode cX11_newBalcony 20 = .ok (.istore_n 2, 1) := by decide +kernel
theorem dX11_newBalcony_21 : decode cX11_newBalcony 21 = .ok (.aload_n 0, 1) := by decide +kernel
theorem dX11_newBalcony_22 : decode cX11_newBalcony 22 = .ok (.aload_n 0, 1) := by decide +kernel
theorem dX11_newBalcony_23 : decode cX11_newBalcony 23 = .ok (.getfield 36, 3) := by decide +kernel
theorem dX11_newBalcony_26 : decode cX11_newBalcony 26 = .ok (.invokevirtual 295, 3) := by decide +kernel
theorem dX11_newBalcony_29 : decode cX11_newBalcony 29 = .ok (.aload_n 0, 1) := by decide +kernel
theorem dX11_newBalcony_30 : decode cX11_newBalcony 30 = .ok (.getfield 115, 3) := by decide +kernel
theorem dX11_newBalcony_33 : decode cX11_newBalcony 33 = .ok (.iload_n 2, 1) := by decide +kernel
theorem dX11_newBalcony_34 : decode cX11_newBalcony 34 = .ok (.aload_n 0, 1) := by decide +kernel
theorem dX11_newBalcony_35 : decode cX11_newBalcony 35 = .ok (.invokevirtual 303, 3) := by decide +kernel
theorem dX11_newBalcony_38 : decode cX11_newBalcony 38 = .ok (.iastore, 1) := by decide +kernel
theorem dX11_newBalcony_39 : decode cX11_newBalcony 39 = .ok (.aload_n 0, 1) := by decide +kernel
theorem dX11_newBalcony_40 : decode cX11_newBalcony 40 = .ok (.aload_n 0, 1) := by decide +kernel
theorem dX11_newBalcony_41 : decode cX11_newBalcony 41 = .ok (.getfield 51, 3) := by decide +kernel
theorem dX11_newBalcony_44 : decode cX11_newBalcony 44 = .ok (.invokevirtual 295, 3) := by decide +kernel
theorem dX11_newBalcony_47 : decode cX11_newBalcony 47 = .ok (.aload_n 0, 1) := by decide +kernel
theorem dX11_newBalcony_48 : decode cX11_newBalcony 48 = .ok (.getfield 115, 3) := by decide +kernel
theorem dX11_newBalcony_51 : decode cX11_newBalcony 51 = .ok (.iload_n 2, 1) := by decide +kernel
theorem dX11_newBalcony_52 : decode cX11_newBalcony 52 = .ok (.iconst 1, 1) := by decide +kernel
theorem dX11_newBalcony_53 : decode cX11_newBalcony 53 = .ok (.iadd, 1) := by decide +kernel
theorem dX11_newBalcony_54 : decode cX11_newBalcony 54 = .ok (.aload_n 0, 1) := by decide +kernel
theorem dX11_newBalcony_55 : decode cX11_newBalcony 55 = .ok (.iconst 0, 1) := by decide +kernel
theorem dX11_newBalcony_56 : decode cX11_newBalcony 56 = .ok (.sipush 999, 3) := by decide +kernel
theorem dX11_newBalcony_59 : decode cX11_newBalcony 59 = .ok (.invokevirtual 299, 3) := by decide +kernel
theorem dX11_newBalcony_62 : decode cX11_newBalcony 62 = .ok (.iastore, 1) := by decide +kernel
theorem dX11_newBalcony_63 : decode cX11_newBalcony 63 = .ok (.aload_n 0, 1) := by decide +kernel
theorem dX11_newBalcony_64 : decode cX11_newBalcony 64 = .ok (.aload_n 0, 1) := by decide +kernel
theorem dX11_newBalcony_65 : decode cX11_newBalcony 65 = .ok (.getfield 54, 3) := by decide +kernel
theorem dX11_newBalcony_68 : decode cX11_newBalcony 68 = .ok (.invokevirtual 295, 3) := by decide +kernel
theorem dX11_newBalcony_71 : decode cX11_newBalcony 71 = .ok (.aload_n 0, 1) := by decide +kernel
theorem dX11_newBalcony_72 : decode cX11_newBalcony 72 = .ok (.getfield 115, 3) := by decide +kernel
theorem dX11_newBalcony_75 : decode cX11_newBalcony 75 = .ok (.iload_n 2, 1) := by decide +kernel
theorem dX11_newBalcony_76 : decode cX11_newBalcony 76 = .ok (.iconst 2, 1) := by decide +kernel
theorem dX11_newBalcony_77 : decode cX11_newBalcony 77 = .ok (.iadd, 1) := by decide +kernel
theorem dX11_newBalcony_78 : decode cX11_newBalcony 78 = .ok (.aload_n 0, 1) := by decide +kernel
theorem dX11_newBalcony_79 : decode cX11_newBalcony 79 = .ok (.aload_n 0, 1) := by decide +kernel
theorem dX11_newBalcony_80 : decode cX11_newBalcony 80 = .ok (.getfield 115, 3) := by decide +kernel
theorem dX11_newBalcony_83 : decode cX11_newBalcony 83 = .ok (.iload_n 2, 1) := by decide +kernel
theorem dX11_newBalcony_84 : decode cX11_newBalcony 84 = .ok (.iconst 1, 1) := by decide +kernel
theorem dX11_newBalcony_85 : decode cX11_newBalcony 85 = .ok (.iadd, 1) := by decide +kernel
theorem dX11_newBalcony_86 : decode cX11_newBalcony 86 = .ok (.iaload, 1) := by decide +kernel
theorem dX11_newBalcony_87 : decode cX11_newBalcony 87 = .ok (.sipush 999, 3) := by decide +kernel
theorem dX11_newBalcony_90 : decode cX11_newBalcony 90 = .ok (.invokevirtual 299, 3) := by decide +kernel
theorem dX11_newBalcony_93 : decode cX11_newBalcony 93 = .ok (.iastore, 1) := by decide +kernel
theorem dX11_newBalcony_94 : decode cX11_newBalcony 94 = .ok (.aload_n 0, 1) := by decide +kernel
theorem dX11_newBalcony_95 : decode cX11_newBalcony 95 = .ok (.aload_n 0, 1) := by decide +kernel
theorem dX11_newBalcony_96 : decode cX11_newBalcony 96 = .ok (.getfield 57, 3) := by decide +kernel
theorem dX11_newBalcony_99 : decode cX11_newBalcony 99 = .ok (.invokevirtual 295, 3) := by decide +kernel
theorem dX11_newBalcony_102 : decode cX11_newBalcony 102 = .ok (.aload_n 0, 1) := by decide +kernel
theorem dX11_newBalcony_103 : decode cX11_newBalcony 103 = .ok (.getfield 115, 3) := by decide +kernel
theorem dX11_newBalcony_106 : decode cX11_newBalcony 106 = .ok (.iload_n 2, 1) := by decide +kernel
theorem dX11_newBalcony_107 : decode cX11_newBalcony 107 = .ok (.iconst 3, 1) := by decide +kernel
theorem dX11_newBalcony_108 : decode cX11_newBalcony 108 = .ok (.iadd, 1) := by decide +kernel
theorem dX11_newBalcony_109 : decode cX11_newBalcony 109 = .ok (.aload_n 0, 1) := by decide +kernel
theorem dX11_newBalcony_110 : decode cX11_newBalcony 110 = .ok (.iconst 1, 1) := by decide +kernel
theorem dX11_newBalcony_111 : decode cX11_newBalcony 111 = .ok (.bipush 99, 2) := by decide +kernel
theorem dX11_newBalcony_113 : decode cX11_newBalcony 113 = .ok (.invokevirtual 299, 3) := by decide +kernel
theorem dX11_newBalcony_116 : decode cX11_newBalcony 116 = .ok (.iastore, 1) := by decide +kernel
theorem dX11_newBalcony_117 : decode cX11_newBalcony 117 = .ok (.aload_n 0, 1) := by decide +kernel
theorem dX11_newBalcony_118 : decode cX11_newBalcony 118 = .ok (.getfield 224, 3) := by decide +kernel
theorem dX11_newBalcony_121 : decode cX11_newBalcony 121 = .ok (.ifCond .ne 13, 3) := by decide +kernel
theorem dX11_newBalcony_124 : decode cX11_newBalcony 124 = .ok (.aload_n 0, 1) := by decide +kernel
theorem dX11_newBalcony_125 : decode cX11_newBalcony 125 = .ok (.getfield 99, 3) := by decide +kernel
theorem dX11_newBalcony_128 : decode cX11_newBalcony 128 = .ok (.iconst 3, 1) := by decide +kernel
theorem dX11_newBalcony_129 : decode cX11_newBalcony 129 = .ok (.dup2, 1) := by decide +kernel
theorem dX11_newBalcony_130 : decode cX11_newBalcony 130 = .ok (.iaload, 1) := by decide +kernel
theorem dX11_newBalcony_131 : decode cX11_newBalcony 131 = .ok (.iconst 1, 1) := by decide +kernel
theorem dX11_newBalcony_132 : decode cX11_newBalcony 132 = .ok (.iadd, 1) := by decide +kernel
theorem dX11_newBalcony_133 : decode cX11_newBalcony 133 = .ok (.iastore, 1) := by decide +kernel
theorem dX11_newBalcony_134 : decode cX11_newBalcony 134 = .ok (.return_, 1) := by decide +kernel
theorem dX11_newCorner_0 : decode cX11_newCorner 0 = .ok (.aload_n 0, 1) := by decide +kernel
theorem dX11_newCorner_1 : decode cX11_newCorner 1 = .ok (.iconst 0, 1) := by decide +kernel
theorem dX11_newCorner_2 : decode cX11_newCorner 2 = .ok (.bipush 10, 2) := by decide +kernel
theorem dX11_newCorner_4 : decode cX11_newCorner 4 = .ok (.iload_n 1, 1) := by decide +kernel
theorem dX11_newCorner_5 : decode cX11_newCorner 5 = .ok (.invokevirtual 287, 3) := by decide +kernel
theorem dX11_newCorner_8 : decode cX11_newCorner 8 = .ok (.ifCond .eq 4, 3) := by decide +kernel
theorem dX11_newCorner_11 : decode cX11_newCorner 11 = .ok (.return_, 1) := by decide +kernel
theorem dX11_newCorner_12 : decode cX11_newCorner 12 = .ok (.aload_n 0, 1) := by decide +kernel
theorem dX11_newCorner_13 : decode cX11_newCorner 13 = .ok (.iconst 0, 1) := by decide +kernel
theorem dX11_newCorner_14 : decode cX11_newCorner 14 = .ok (.invokevirtual 291, 3) := by decide +kernel
theorem dX11_newCorner_17 : decode cX11_newCorner 17 = .ok (.istore_n 2, 1) := by decide +kernel
theorem dX11_newCorner_18 : decode cX11_newCorner 18 = .ok (.aload_n 0, 1) := by decide +kernel
theorem dX11_newCorner_19 : decode cX11_newCorner 19 = .ok (.aload_n 0, 1) := by decide +kernel
theorem dX11_newCorner_20 : decode cX11_newCorner 20 = .ok (.getfield 21, 3) := by decide +kernel
theorem dX11_newCorner_23 : decode cX11_newCorner 23 = .ok (.invokevirtual 295, 3) := by decide +kernel
theorem dX11_newCorner_26 : decode cX11_newCorner 26 = .ok (.aload_n 0, 1) := by decide +kernel
theorem dX11_newCorner_27 : decode cX11_newCorner 27 = .ok (.iconst 1, 1) := by decide +kernel
theorem dX11_newCorner_28 : decode cX11_newCorner 28 = .ok (.bipush 9, 2) := by decide +kernel
theorem dX11_newCorner_30 : decode cX11_newCorner 30 = .ok (.invokevirtual 299, 3) := by decide +kernel
theorem dX11_newCorner_33 : decode cX11_newCorner 33 = .ok (.istore_n 3, 1) := by decide +kernel
theorem dX11_newCorner_34 : decode cX11_newCorner 34 = .ok (.aload_n 0, 1) := by decide +kernel
theorem dX11_newCorner_35 : decode cX11_newCorner 35 = .ok (.getfield 224, 3) := by decide +kernel
theorem dX11_newCorner_38 : decode cX11_newCorner 38 = .ok (.ifCond .eq 4, 3) := by decide +kernel
theorem dX11_newCorner_41 : decode cX11_newCorner 41 = .ok (.return_, 1) := by decide +kernel
theorem dX11_newCorner_42 : decode cX11_newCorner 42 = .ok (.aload_n 0, 1) := by decide +kernel
theorem dX11_newCorner_43 : decode cX11_newCorner 43 = .ok (.getfield 106, 3) := by decide +kernel
theorem dX11_newCorner_46 : decode cX11_newCorner 46 = .ok (.iload_n 2, 1) := by decide +kernel
theorem dX11_newCorner_47 : decode cX11_newCorner 47 = .ok (.iload_n 3, 1) := by decide +kernel
theorem dX11_newCorner_48 : decode cX11_newCorner 48 = .ok (.iastore, 1) := by decide +kernel
theorem dX11_newCorner_49 : decode cX11_newCorner 49 = .ok (.aload_n 0, 1) := by decide +kernel
theorem dX11_newCorner_50 : decode cX11_newCorner 50 = .ok (.getfield 99, 3) := by decide +kernel
theorem dX11_newCorner_53 : decode cX11_newCorner 53 = .ok (.iconst 0, 1) := by decide +kernel
theorem dX11_newCorner_54 : decode cX11_newCorner 54 = .ok (.dup2, 1) := by decide +kernel
theorem dX11_newCorner_55 : decode cX11_newCorner 55 = .ok (.iaload, 1) := by decide +kernel
theorem dX11_newCorner_56 : decode cX11_newCorner 56 = .ok (.iconst 1, 1) := by decide +kernel
theorem dX11_newCorner_57 : decode cX11_newCorner 57 = .ok (.iadd, 1) := by decide +kernel
theorem dX11_newCorner_58 : decode cX11_newCorner 58 = .ok (.iastore, 1) := by decide +kernel
theorem dX11_newCorner_59 : decode cX11_newCorner 59 = .ok (.return_, 1) := by decide +kernel
theorem dX11_newException_0 : decode cX11_newException 0 = .ok (.aload_n 0, 1) := by decide +kernel
theorem dX11_newException_1 : decode cX11_newException 1 = .ok (.iconst 4, 1) := by decide +kernel
theorem dX11_newException_2 : decode cX11_newException 2 = .ok (.bipush 6, 2) := by decide +kernel
theorem dX11_newException_4 : decode cX11_newException 4 = .ok (.iload_n 1, 1) := by decide +kernel
theorem dX11_newException_5 : decode cX11_newException 5 = .ok (.invokevirtual 287, 3) := by decide +kernel
theorem dX11_newException_8 : decode cX11_newException 8 = .ok (.ifCond .eq 4, 3) := by decide +kernel
theorem dX11_newException_11 : decode cX11_newException 11 = .ok (.return_, 1) := by decide +kernel
theorem dX11_newException_12 : decode cX11_newException 12 = .ok (.aload_n 0, 1) := by decide +kernel
theorem dX11_newException_13 : decode cX11_newException 13 = .ok (.getfield 99, 3) := by decide +kernel
theorem dX11_newException_16 : decode cX11_newException 16 = .ok (.iconst 4, 1) := by decide +kernel
theorem dX11_newException_17 : decode cX11_newException 17 = .ok (.iaload, 1) := by decide +kernel
theorem dX11_newException_18 : decode cX11_newException 18 = .ok (.istore_n 2, 1) := by decide +kernel
theorem dX11_newException_19 : decode cX11_newException 19 = .ok (.aload_n 0, 1) := by decide +kernel
theorem dX11_newException_20 : decode cX11_newException 20 = .ok (.getfield 230, 3) := by decide +kernel
theorem dX11_newException_23 : decode cX11_newException 23 = .ok (.istore_n 3, 1) := by decide +kernel
theorem dX11_newException_24 : decode cX11_newException 24 = .ok (.aload_n 0, 1) := by decide +kernel
theorem dX11_newException_25 : decode cX11_newException 25 = .ok (.getfield 127, 3) := by decide +kernel
theorem dX11_newException_28 : decode cX11_newException 28 = .ok (.iload_n 2, 1) := by decide +kernel
theorem dX11_newException_29 : decode cX11_newException 29 = .ok (.aload_n 0, 1) := by decide +kernel
theorem dX11_newException_30 : decode cX11_newException 30 = .ok (.getfield 306, 3) := by decide +kernel
theorem dX11_newException_33 : decode cX11_newException 33 = .ok (.iastore, 1) := by decide +kernel
theorem dX11_newException_34 : decode cX11_newException 34 = .ok (.aload_n 0, 1) := by decide +kernel
theorem dX11_newException_35 : decode cX11_newException 35 = .ok (.iconst 0, 1) := by decide +kernel
theorem dX11_newException_36 : decode cX11_newException 36 = .ok (.putfield 309, 3) := by decide +kernel
theorem dX11_newException_39 : decode cX11_newException 39 = .ok (.aload_n 0, 1) := by decide +kernel
theorem dX11_newException_40 : decode cX11_newException 40 = .ok (.iconst 0, 1) := by decide +kernel
theorem dX11_newException_41 : decode cX11_newException 41 = .ok (.putfield 312, 3) := by decide +kernel
theorem dX11_newException_44 : decode cX11_newException 44 = .ok (.aload_n 0, 1) := by decide +kernel
theorem dX11_newException_45 : decode cX11_newException 45 = .ok (.iconst 0, 1) := by decide +kernel
theorem dX11_newException_46 : decode cX11_newException 46 = .ok (.putfield 315, 3) := by decide +kernel
theorem dX11_newException_49 : decode cX11_newException 49 = .ok (.aload_n 0, 1) := by decide +kernel
theorem dX11_newException_50 : decode cX11_newException 50 = .ok (.invokevirtual 318, 3) := by decide +kernel
theorem dX11_newException_53 : decode cX11_newException 53 = .ok (.aload_n 0, 1) := by decide +kernel
theorem dX11_newException_54 : decode cX11_newException 54 = .ok (.getfield 130, 3) := by decide +kernel
theorem dX11_newException_57 : decode cX11_newException 57 = .ok (.iload_n 2, 1) := by decide +kernel
theorem dX11_newException_58 : decode cX11_newException 58 = .ok (.aload_n 0, 1) := by decide +kernel
theorem dX11_newException_59 : decode cX11_newException 59 = .ok (.getfield 306, 3) := by decide +kernel
theorem dX11_newException_62 : decode cX11_newException 62 = .ok (.iastore, 1) := by decide +kernel
theorem dX11_newException_63 : decode cX11_newException 63 = .ok (.aload_n 0, 1) := by decide +kernel
theorem dX11_newException_64 : decode cX11_newException 64 = .ok (.getfield 133, 3) := by decide +kernel
theorem dX11_newException_67 : decode cX11_newException 67 = .ok (.iload_n 2, 1) := by decide +kernel
theorem dX11_newException_68 : decode cX11_newException 68 = .ok (.aload_n 0, 1) := by decide +kernel
theorem dX11_newException_69 : decode cX11_newException 69 = .ok (.iload_n 3, 1) := by decide +kernel
theorem dX11_newException_70 : decode cX11_newException 70 = .ok (.aload_n 0, 1) := by decide +kernel
theorem dX11_newException_71 : decode cX11_newException 71 = .ok (.getfield 230, 3) := by decide +kernel
theorem dX11_newException_74 : decode cX11_newException 74 = .ok (.invokevirtual 321, 3) := by decide +kernel
theorem dX11_newException_77 : decode cX11_newException 77 = .ok (.iastore, 1) := by decide +kernel
theorem dX11_newException_78 : decode cX11_newException 78 = .ok (.aload_n 0, 1) := by decide +kernel
theorem dX11_newException_79 : decode cX11_newException 79 = .ok (.getfield 99, 3) := by decide +kernel
theorem dX11_newException_82 : decode cX11_newException 82 = .ok (.iconst 4, 1) := by decide +kernel
theorem dX11_newException_83 : decode cX11_newException 83 = .ok (.dup2, 1) := by decide +kernel
theorem dX11_newException_84 : decode cX11_newException 84 = .ok (.iaload, 1) := by decide +kernel
theorem dX11_newException_85 : decode cX11_newException 85 = .ok (.iconst 1, 1) := by decide +kernel
theorem dX11_newException_86 : decode cX11_newException 86 = .ok (.iadd, 1) := by decide +kernel
theorem dX11_newException_87 : decode cX11_newException 87 = .ok (.iastore, 1) := by decide +kernel
theorem dX11_newException_88 : decode cX11_newException 88 = .ok (.return_, 1) := by decide +kernel
theorem dX11_newLane_0 : decode cX11_newLane 0 = .ok (.aload_n 0, 1) := by decide +kernel
theorem dX11_newLane_1 : decode cX11_newLane 1 = .ok (.iconst 2, 1) := by decide +kernel
theorem dX11_newLane_2 : decode cX11_newLane 2 = .ok (.bipush 16, 2) := by decide +kernel
theorem dX11_newLane_4 : decode cX11_newLane 4 = .ok (.iload_n 1, 1) := by decide +kernel
theorem dX11_newLane_5 : decode cX11_newLane 5 = .ok (.invokevirtual 287, 3) := by decide +kernel
theorem dX11_newLane_8 : decode cX11_newLane 8 = .ok (.ifCond .eq 4, 3) := by decide +kernel
theorem dX11_newLane_11 : decode cX11_newLane 11 = .ok (.return_, 1) := by decide +kernel
theorem dX11_newLane_12 : decode cX11_newLane 12 = .ok (.iconst 4, 1) := by decide +kernel
theorem dX11_newLane_13 : decode cX11_newLane 13 = .ok (.aload_n 0, 1) := by decide +kernel
theorem dX11_newLane_14 : decode cX11_newLane 14 = .ok (.getfield 99, 3) := by decide +kernel
theorem dX11_newLane_17 : decode cX11_newLane 17 = .ok (.iconst 2, 1) := by decide +kernel
theorem dX11_newLane_18 : decode cX11_newLane 18 = .ok (.iaload, 1) := by decide +kernel
theorem dX11_newLane_19 : decode cX11_newLane 19 = .ok (.imul, 1) := by decide +kernel
theorem dX11_newLane_20 : decode cX11_newLane 20 = .ok (.istore_n 2, 1) := by decide +kernel
theorem dX11_newLane_21 : decode cX11_newLane 21 = .ok (.aload_n 0, 1) := by decide +kernel
theorem dX11_newLane_22 : decode cX11_newLane 22 = .ok (.invokevirtual 303, 3) := by decide +kernel
theorem dX11_newLane_25 : decode cX11_newLane 25 = .ok (.istore_n 3, 1) := by decide +kernel
theorem dX11_newLane_26 : decode cX11_newLane 26 = .ok (.aload_n 0, 1) := by decide +kernel
theorem dX11_newLane_27 : decode cX11_newLane 27 = .ok (.invokevirtual 303, 3) := by decide +kernel
theorem dX11_newLane_30 : decode cX11_newLane 30 = .ok (.istore 4, 2) := by decide +kernel
theorem dX11_newLane_32 : decode cX11_newLane 32 = .ok (.aload_n 0, 1) := by decide +kernel
theorem dX11_newLane_33 : decode cX11_newLane 33 = .ok (.getfield 224, 3) := by decide +kernel
theorem dX11_newLane_36 : decode cX11_newLane 36 = .ok (.ifCond .eq 4, 3) := by decide +kernel
theorem dX11_newLane_39 : decode cX11_newLane 39 = .ok (.return_, 1) := by decide +kernel
theorem dX11_newLane_40 : decode cX11_newLane 40 = .ok (.iload_n 3, 1) := by decide +kernel
theorem dX11_newLane_41 : decode cX11_newLane 41 = .ok (.iload 4, 2) := by decide +kernel
theorem dX11_newLane_43 : decode cX11_newLane 43 = .ok (.if_icmp .ne 7, 3) := by decide +kernel
theorem dX11_newLane_46 : decode cX11_newLane 46 = .ok (.iconst 1, 1) := by decide +kernel
theorem dX11_newLane_47 : decode cX11_newLane 47 = .ok (.goto 4, 3) := by decide +kernel
theorem dX11_newLane_50 : decode cX11_newLane 50 = .ok (.iconst 0, 1) := by decide +kernel
theorem dX11_newLane_51 : decode cX11_newLane 51 = .ok (.istore 5, 2) := by decide +kernel
theorem dX11_newLane_53 : decode cX11_newLane 53 = .ok (.iconst 0, 1) := by decide +kernel
theorem dX11_newLane_54 : decode cX11_newLane 54 = .ok (.istore 6, 2) := by decide +kernel
theorem dX11_newLane_56 : decode cX11_newLane 56 = .ok (.iload 6, 2) := by decide +kernel
theorem dX11_newLane_58 : decode cX11_newLane 58 = .ok (.iload_n 2, 1) := by decide +kernel
theorem dX11_newLane_59 : decode cX11_newLane 59 = .ok (.if_icmp .ge 71, 3) := by decide +kernel
theorem dX11_newLane_62 : decode cX11_newLane 62 = .ok (.iload 5, 2) := by decide +kernel
theorem dX11_newLane_64 : decode cX11_newLane 64 = .ok (.ifCond .ne 53, 3) := by decide +kernel
theorem dX11_newLane_67 : decode cX11_newLane 67 = .ok (.aload_n 0, 1) := by decide +kernel
theorem dX11_newLane_68 : decode cX11_newLane 68 = .ok (.getfield 109, 3) := by decide +kernel
theorem dX11_newLane_71 : decode cX11_newLane 71 = .ok (.iload 6, 2) := by decide +kernel
theorem dX11_newLane_73 : decode cX11_newLane 73 = .ok (.iaload, 1) := by decide +kernel
theorem dX11_newLane_74 : decode cX11_newLane 74 = .ok (.iload_n 3, 1) := by decide +kernel
theorem dX11_newLane_75 : decode cX11_newLane 75 = .ok (.if_icmp .ne 17, 3) := by decide +kernel
theorem dX11_newLane_78 : decode cX11_newLane 78 = .ok (.aload_n 0, 1) := by decide +kernel
theorem dX11_newLane_79 : decode cX11_newLane 79 = .ok (.getfield 109, 3) := by decide +kernel
theorem dX11_newLane_82 : decode cX11_newLane 82 = .ok (.iload 6, 2) := by decide +kernel
theorem dX11_newLane_84 : decode cX11_newLane 84 = .ok (.iconst 1, 1) := by decide +kernel
theorem dX11_newLane_85 : decode cX11_newLane 85 = .ok (.iadd, 1) := by decide +kernel
theorem dX11_newLane_86 : decode cX11_newLane 86 = .ok (.iaload, 1) := by decide +kernel
theorem dX11_newLane_87 : decode cX11_newLane 87 = .ok (.iload 4, 2) := by decide +kernel
theorem dX11_newLane_89 : decode cX11_newLane 89 = .ok (.if_icmp .eq 28, 3) := by decide +kernel
theorem dX11_newLane_92 : decode cX11_newLane 92 = .ok (.aload_n 0, 1) := by decide +kernel
theorem dX11_newLane_93 : decode cX11_newLane 93 = .ok (.getfield 109, 3) := by decide +kernel
theorem dX11_newLane_96 : decode cX11_newLane 96 = .ok (.iload 6, 2) := by decide +kernel
theorem dX11_newLane_98 : decode cX11_newLane 98 = .ok (.iaload, 1) := by decide +kernel
theorem dX11_newLane_99 : decode cX11_newLane 99 = .ok (.iload 4, 2) := by decide +kernel
theorem dX11_newLane_101 : decode cX11_newLane 101 = .ok (.if_icmp .ne 20, 3) := by decide +kernel
theorem dX11_newLane_104 : decode cX11_newLane 104 = .ok (.aload_n 0, 1) := by decide +kernel
theorem dX11_newLane_105 : decode cX11_newLane 105 = .ok (.getfield 109, 3) := by decide +kernel
theorem dX11_newLane_108 : decode cX11_newLane 108 = .ok (.iload 6, 2) := by decide +kernel
theorem dX11_newLane_110 : decode cX11_newLane 110 = .ok (.iconst 1, 1) := by decide +kernel
theorem dX11_newLane_111 : decode cX11_newLane 111 = .ok (.iadd, 1) := by decide +kernel
theorem dX11_newLane_112 : decode cX11_newLane 112 = .ok (.iaload, 1) := by decide +kernel
theorem dX11_newLane_113 : decode cX11_newLane 113 = .ok (.iload_n 3, 1) := by decide +kernel
theorem dX11_newLane_114 : decode cX11_newLane 114 = .ok (.if_icmp .ne 7, 3) := by decide +kernel
theorem dX11_newLane_117 : decode cX11_newLane 117 = .ok (.iconst 1, 1) := by decide +kernel
theorem dX11_newLane_118 : decode cX11_newLane 118 = .ok (.goto 4, 3) := by decide +kernel
theorem dX11_newLane_121 : decode cX11_newLane 121 = .ok (.iconst 0, 1) := by decide +kernel
theorem dX11_newLane_122 : decode cX11_newLane 122 = .ok (.istore 5, 2) := by decide +kernel
theorem dX11_newLane_124 : decode cX11_newLane 124 = .ok (.iinc 6 4, 3) := by decide +kernel
theorem dX11_newLane_127 : decode cX11_newLane 127 = .ok (.goto (-71), 3) := by decide +kernel
theorem dX11_newLane_130 : decode cX11_newLane 130 = .ok (.iload 5, 2) := by decide +kernel
theorem dX11_newLane_132 : decode cX11_newLane 132 = .ok (.ifCond .eq 12, 3) := by decide +kernel
theorem dX11_newLane_135 : decode cX11_newLane 135 = .ok (.aload_n 0, 1) := by decide +kernel
theorem dX11_newLane_136 : decode cX11_newLane 136 = .ok (.iconst 3, 1) := by decide +kernel
theorem dX11_newLane_137 : decode cX11_newLane 137 = .ok (.aload_n 0, 1) := by decide +kernel
theorem dX11_newLane_138 : decode cX11_newLane 138 = .ok (.getfield 272, 3) := by decide +kernel
theorem dX11_newLane_141 : decode cX11_newLane 141 = .ok (.invokevirtual 254, 3) := by decide +kernel
theorem dX11_newLane_144 : decode cX11_newLane 144 = .ok (.aload_n 0, 1) := by decide +kernel
theorem dX11_newLane_145 : decode cX11_newLane 145 = .ok (.aload_n 0, 1) := by decide +kernel
theorem dX11_newLane_146 : decode cX11_newLane 146 = .ok (.getfield 27, 3) := by decide +kernel
theorem dX11_newLane_149 : decode cX11_newLane 149 = .ok (.invokevirtual 295, 3) := by decide +kernel
theorem dX11_newLane_152 : decode cX11_newLane 152 = .ok (.aload_n 0, 1) := by decide +kernel
theorem dX11_newLane_153 : decode cX11_newLane 153 = .ok (.iconst 1, 1) := by decide +kernel
theorem dX11_newLane_154 : decode cX11_newLane 154 = .ok (.bipush 9, 2) := by decide +kernel
theorem dX11_newLane_156 : decode cX11_newLane 156 = .ok (.invokevirtual 299, 3) := by decide +kernel
theorem dX11_newLane_159 : decode cX11_newLane 159 = .ok (.istore 6, 2) := by decide +kernel
theorem dX11_newLane_161 : decode cX11_newLane 161 = .ok (.aload_n 0, 1) := by decide +kernel
theorem dX11_newLane_162 : decode cX11_newLane 162 = .ok (.aload_n 0, 1) := by decide +kernel
theorem dX11_newLane_163 : decode cX11_newLane 163 = .ok (.getfield 30, 3) := by decide +kernel
theorem dX11_newLane_166 : decode cX11_newLane 166 = .ok (.invokevirtual 295, 3) := by decide +kernel
theorem dX11_newLane_169 : decode cX11_newLane 169 = .ok (.aload_n 0, 1) := by decide +kernel
theorem dX11_newLane_170 : decode cX11_newLane 170 = .ok (.iconst 0, 1) := by decide +kernel
theorem dX11_newLane_171 : decode cX11_newLane 171 = .ok (.bipush 9, 2) := by decide +kernel
theorem dX11_newLane_173 : decode cX11_newLane 173 = .ok (.invokevirtual 299, 3) := by decide +kernel
theorem dX11_newLane_176 : decode cX11_newLane 176 = .ok (.istore 7, 2) := by decide +kernel
theorem dX11_newLane_178 : decode cX11_newLane 178 = .ok (.aload_n 0, 1) := by decide +kernel
theorem dX11_newLane_179 : decode cX11_newLane 179 = .ok (.getfield 224, 3) := by decide +kernel
theorem dX11_newLane_182 : decode cX11_newLane 182 = .ok (.ifCond .eq 4, 3) := by decide +kernel
theorem dX11_newLane_185 : decode cX11_newLane 185 = .ok (.return_, 1) := by decide +kernel
theorem dX11_newLane_186 : decode cX11_newLane 186 = .ok (.aload_n 0, 1) := by decide +kernel
theorem dX11_newLane_187 : decode cX11_newLane 187 = .ok (.getfield 109, 3) := by decide +kernel
theorem dX11_newLane_190 : decode cX11_newLane 190 = .ok (.iload_n 2, 1) := by decide +kernel
theorem dX11_newLane_191 : decode cX11_newLane 191 = .ok (.iload_n 3, 1) := by decide +kernel
theorem dX11_newLane_192 : decode cX11_newLane 192 = .ok (.iastore, 1) := by decide +kernel
theorem dX11_newLane_193 : decode cX11_newLane 193 = .ok (.aload_n 0, 1) := by decide +kernel
theorem dX11_newLane_194 : decode cX11_newLane 194 = .ok (.getfield 109, 3) := by decide +kernel
theorem dX11_newLane_197 : decode cX11_newLane 197 = .ok (.iload_n 2, 1) := by decide +kernel
theorem dX11_newLane_198 : decode cX11_newLane 198 = .ok (.iconst 1, 1) := by decide +kernel
theorem dX11_newLane_199 : decode cX11_newLane 199 = .ok (.iadd, 1) := by decide +kernel
theorem dX11_newLane_200 : decode cX11_newLane 200 = .ok (.iload 4, 2) := by decide +kernel
theorem dX11_newLane_202 : decode cX11_newLane 202 = .ok (.iastore, 1) := by decide +kernel
theorem dX11_newLane_203 : decode cX11_newLane 203 = .ok (.aload_n 0, 1) := by decide +kernel
theorem dX11_newLane_204 : decode cX11_newLane 204 = .ok (.getfield 109, 3) := by decide +kernel
theorem dX11_newLane_207 : decode cX11_newLane 207 = .ok (.iload_n 2, 1) := by decide +kernel
theorem dX11_newLane_208 : decode cX11_newLane 208 = .ok (.iconst 2, 1) := by decide +kernel
theorem dX11_newLane_209 : decode cX11_newLane 209 = .ok (.iadd, 1) := by decide +kernel
theorem dX11_newLane_210 : decode cX11_newLane 210 = .ok (.iload 6, 2) := by decide +kernel
theorem dX11_newLane_212 : decode cX11_newLane 212 = .ok (.iastore, 1) := by decide +kernel
theorem dX11_newLane_213 : decode cX11_newLane 213 = .ok (.aload_n 0, 1) := by decide +kernel
theorem dX11_newLane_214 : decode cX11_newLane 214 = .ok (.getfield 109, 3) := by decide +kernel
theorem dX11_newLane_217 : decode cX11_newLane 217 = .ok (.iload_n 2, 1) := by decide +kernel
theorem dX11_newLane_218 : decode cX11_newLane 218 = .ok (.iconst 3, 1) := by decide +kernel
theorem dX11_newLane_219 : decode cX11_newLane 219 = .ok (.iadd, 1) := by decide +kernel
theorem dX11_newLane_220 : decode cX11_newLane 220 = .ok (.iload 7, 2) := by decide +kernel
theorem dX11_newLane_222 : decode cX11_newLane 222 = .ok (.iastore, 1) := by decide +kernel
theorem dX11_newLane_223 : decode cX11_newLane 223 = .ok (.aload_n 0, 1) := by decide +kernel
theorem dX11_newLane_224 : decode cX11_newLane 224 = .ok (.getfield 99, 3) := by decide +kernel
theorem dX11_newLane_227 : decode cX11_newLane 227 = .ok (.iconst 2, 1) := by decide +kernel
theorem dX11_newLane_228 : decode cX11_newLane 228 = .ok (.dup2, 1) := by decide +kernel
theorem dX11_newLane_229 : decode cX11_newLane 229 = .ok (.iaload, 1) := by decide +kernel
theorem dX11_newLane_230 : decode cX11_newLane 230 = .ok (.iconst 1, 1) := by decide +kernel
theorem dX11_newLane_231 : decode cX11_newLane 231 = .ok (.iadd, 1) := by decide +kernel
theorem dX11_newLane_232 : decode cX11_newLane 232 = .ok (.iastore, 1) := by decide +kernel
theorem dX11_newLane_233 : decode cX11_newLane 233 = .ok (.return_, 1) := by decide +kernel
theorem dX11_newName_0 : decode cX11_newName 0 = .ok (.aload_n 0, 1) := by decide +kernel
theorem dX11_newName_1 : decode cX11_newName 1 = .ok (.invokevirtual 279, 3) := by decide +kernel
theorem dX11_newName_4 : decode cX11_newName 4 = .ok (.lstore_n 2, 1) := by decide +kernel
theorem dX11_newName_5 : decode cX11_newName 5 = .ok (.aload_n 0, 1) := by decide +kernel
theorem dX11_newName_6 : decode cX11_newName 6 = .ok (.getfield 224, 3) := by decide +kernel
theorem dX11_newName_9 : decode cX11_newName 9 = .ok (.ifCond .ne 32, 3) := by decide +kernel
theorem dX11_newName_12 : decode cX11_newName 12 = .ok (.aload_n 0, 1) := by decide +kernel
theorem dX11_newName_13 : decode cX11_newName 13 = .ok (.iconst 0, 1) := by decide +kernel
theorem dX11_newName_14 : decode cX11_newName 14 = .ok (.lload_n 2, 1) := by decide +kernel
theorem dX11_newName_15 : decode cX11_newName 15 = .ok (.invokevirtual 283, 3) := by decide +kernel
theorem dX11_newName_18 : decode cX11_newName 18 = .ok (.iconst (-1), 1) := by decide +kernel
theorem dX11_newName_19 : decode cX11_newName 19 = .ok (.if_icmp .ne 13, 3) := by decide +kernel
theorem dX11_newName_22 : decode cX11_newName 22 = .ok (.aload_n 0, 1) := by decide +kernel
theorem dX11_newName_23 : decode cX11_newName 23 = .ok (.iconst 1, 1) := by decide +kernel
theorem dX11_newName_24 : decode cX11_newName 24 = .ok (.lload_n 2, 1) := by decide +kernel
theorem dX11_newName_25 : decode cX11_newName 25 = .ok (.invokevirtual 283, 3) := by decide +kernel
theorem dX11_newName_28 : decode cX11_newName 28 = .ok (.iconst (-1), 1) := by decide +kernel
theorem dX11_newName_29 : decode cX11_newName 29 = .ok (.if_icmp .eq 12, 3) := by decide +kernel
theorem dX11_newName_32 : decode cX11_newName 32 = .ok (.aload_n 0, 1) := by decide +kernel
theorem dX11_newName_33 : decode cX11_newName 33 = .ok (.iconst 3, 1) := by decide +kernel
theorem dX11_newName_34 : decode cX11_newName 34 = .ok (.aload_n 0, 1) := by decide +kernel
theorem dX11_newName_35 : decode cX11_newName 35 = .ok (.getfield 272, 3) := by decide +kernel
theorem dX11_newName_38 : decode cX11_newName 38 = .ok (.invokevirtual 254, 3) := by decide +kernel
theorem dX11_newName_41 : decode cX11_newName 41 = .ok (.aload_n 0, 1) := by decide +kernel
theorem dX11_newName_42 : decode cX11_newName 42 = .ok (.getfield 99, 3) := by decide +kernel
theorem dX11_newName_45 : decode cX11_newName 45 = .ok (.iload_n 1, 1) := by decide +kernel
theorem dX11_newName_46 : decode cX11_newName 46 = .ok (.iaload, 1) := by decide +kernel
theorem dX11_newName_47 : decode cX11_newName 47 = .ok (.istore 4, 2) := by decide +kernel
theorem dX11_newName_49 : decode cX11_newName 49 = .ok (.aload_n 0, 1) := by decide +kernel
theorem dX11_newName_50 : decode cX11_newName 50 = .ok (.getfield 224, 3) := by decide +kernel
theorem dX11_newName_53 : decode cX11_newName 53 = .ok (.ifCond .ne 16, 3) := by decide +kernel
theorem dX11_newName_56 : decode cX11_newName 56 = .ok (.aload_n 0, 1) := by decide +kernel
theorem dX11_newName_57 : decode cX11_newName 57 = .ok (.getfield 102, 3) := by decide +kernel
theorem dX11_newName_60 : decode cX11_newName 60 = .ok (.bipush 10, 2) := by decide +kernel
theorem dX11_newName_62 : decode cX11_newName 62 = .ok (.iload_n 1, 1) := by decide +kernel
theorem dX11_newName_63 : decode cX11_newName 63 = .ok (.imul, 1) := by decide +kernel
theorem dX11_newName_64 : decode cX11_newName 64 = .ok (.iload 4, 2) := by decide +kernel
theorem dX11_newName_66 : decode cX11_newName 66 = .ok (.iadd, 1) := by decide +kernel
theorem dX11_newName_67 : decode cX11_newName 67 = .ok (.lload_n 2, 1) := by decide +kernel
theorem dX11_newName_68 : decode cX11_newName 68 = .ok (.lastore, 1) := by decide +kernel
theorem dX11_newName_69 : decode cX11_newName 69 = .ok (.iload 4, 2) := by decide +kernel
theorem dX11_newName_71 : decode cX11_newName 71 = .ok (.ireturn, 1) := by decide +kernel
theorem dX11_newSaint_0 : decode cX11_newSaint 0 = .ok (.aload_n 0, 1) := by decide +kernel
theorem dX11_newSaint_1 : decode cX11_newSaint 1 = .ok (.iconst 1, 1) := by decide +kernel
theorem dX11_newSaint_2 : decode cX11_newSaint 2 = .ok (.iconst 4, 1) := by decide +kernel
theorem dX11_newSaint_3 : decode cX11_newSaint 3 = .ok (.iload_n 1, 1) := by decide +kernel
theorem dX11_newSaint_4 : decode cX11_newSaint 4 = .ok (.invokevirtual 287, 3) := by decide +kernel
theorem dX11_newSaint_7 : decode cX11_newSaint 7 = .ok (.ifCond .eq 4, 3) := by decide +kernel
theorem dX11_newSaint_10 : decode cX11_newSaint 10 = .ok (.return_, 1) := by decide +kernel
theorem dX11_newSaint_11 : decode cX11_newSaint 11 = .ok (.aload_n 0, 1) := by decide +kernel
theorem dX11_newSaint_12 : decode cX11_newSaint 12 = .ok (.iconst 1, 1) := by decide +kernel
theorem dX11_newSaint_13 : decode cX11_newSaint 13 = .ok (.invokevirtual 291, 3) := by decide +kernel
theorem dX11_newSaint_16 : decode cX11_newSaint 16 = .ok (.istore_n 2, 1) := by decide +kernel
theorem dX11_newSaint_17 : decode cX11_newSaint 17 = .ok (.aload_n 0, 1) := by decide +kernel
theorem dX11_newSaint_18 : decode cX11_newSaint 18 = .ok (.aload_n 0, 1) := by decide +kernel
theorem dX11_newSaint_19 : decode cX11_newSaint 19 = .ok (.getfield 36, 3) := by decide +kernel
theorem dX11_newSaint_22 : decode cX11_newSaint 22 = .ok (.invokevirtual 295, 3) := by decide +kernel
theorem dX11_newSaint_25 : decode cX11_newSaint 25 = .ok (.aload_n 0, 1) := by decide +kernel
theorem dX11_newSaint_26 : decode cX11_newSaint 26 = .ok (.invokevirtual 303, 3) := by decide +kernel
theorem dX11_newSaint_29 : decode cX11_newSaint 29 = .ok (.istore_n 3, 1) := by decide +kernel
theorem dX11_newSaint_30 : decode cX11_newSaint 30 = .ok (.aload_n 0, 1) := by decide +kernel
theorem dX11_newSaint_31 : decode cX11_newSaint 31 = .ok (.aload_n 0, 1) := by decide +kernel
theorem dX11_newSaint_32 : decode cX11_newSaint 32 = .ok (.getfield 39, 3) := by decide +kernel
theorem dX11_newSaint_35 : decode cX11_newSaint 35 = .ok (.invokevirtual 295, 3) := by decide +kernel
theorem dX11_newSaint_38 : decode cX11_newSaint 38 = .ok (.aload_n 0, 1) := by decide +kernel
theorem dX11_newSaint_39 : decode cX11_newSaint 39 = .ok (.iconst 1, 1) := by decide +kernel
theorem dX11_newSaint_40 : decode cX11_newSaint 40 = .ok (.iconst 5, 1) := by decide +kernel
theorem dX11_newSaint_41 : decode cX11_newSaint 41 = .ok (.invokevirtual 299, 3) := by decide +kernel
theorem dX11_newSaint_44 : decode cX11_newSaint 44 = .ok (.istore 4, 2) := by decide +kernel
theorem dX11_newSaint_46 : decode cX11_newSaint 46 = .ok (.aload_n 0, 1) := by decide +kernel
theorem dX11_newSaint_47 : decode cX11_newSaint 47 = .ok (.aload_n 0, 1) := by decide +kernel
theorem dX11_newSaint_48 : decode cX11_newSaint 48 = .ok (.getfield 42, 3) := by decide +kernel
theorem dX11_newSaint_51 : decode cX11_newSaint 51 = .ok (.invokevirtual 295, 3) := by decide +kernel
theorem dX11_newSaint_54 : decode cX11_newSaint 54 = .ok (.aload_n 0, 1) := by decide +kernel
theorem dX11_newSaint_55 : decode cX11_newSaint 55 = .ok (.iconst 0, 1) := by decide +kernel
theorem dX11_newSaint_56 : decode cX11_newSaint 56 = .ok (.bipush 20, 2) := by decide +kernel
theorem dX11_newSaint_58 : decode cX11_newSaint 58 = .ok (.invokevirtual 299, 3) := by decide +kernel
theorem dX11_newSaint_61 : decode cX11_newSaint 61 = .ok (.istore 5, 2) := by decide +kernel
theorem dX11_newSaint_63 : decode cX11_newSaint 63 = .ok (.aload_n 0, 1) := by decide +kernel
theorem dX11_newSaint_64 : decode cX11_newSaint 64 = .ok (.aload_n 0, 1) := by decide +kernel
theorem dX11_newSaint_65 : decode cX11_newSaint 65 = .ok (.getfield 45, 3) := by decide +kernel
theorem dX11_newSaint_68 : decode cX11_newSaint 68 = .ok (.invokevirtual 295, 3) := by decide +kernel
theorem dX11_newSaint_71 : decode cX11_newSaint 71 = .ok (.aload_n 0, 1) := by decide +kernel
theorem dX11_newSaint_72 : decode cX11_newSaint 72 = .ok (.iconst 0, 1) := by decide +kernel
theorem dX11_newSaint_73 : decode cX11_newSaint 73 = .ok (.bipush 99, 2) := by decide +kernel
theorem dX11_newSaint_75 : decode cX11_newSaint 75 = .ok (.invokevirtual 299, 3) := by decide +kernel
theorem dX11_newSaint_78 : decode cX11_newSaint 78 = .ok (.istore 6, 2) := by decide +kernel
theorem dX11_newSaint_80 : decode cX11_newSaint 80 = .ok (.aload_n 0, 1) := by decide +kernel
theorem dX11_newSaint_81 : decode cX11_newSaint 81 = .ok (.getfield 224, 3) := by decide +kernel
theorem dX11_newSaint_84 : decode cX11_newSaint 84 = .ok (.ifCond .eq 4, 3) := by decide +kernel
theorem dX11_newSaint_87 : decode cX11_newSaint 87 = .ok (.return_, 1) := by decide +kernel
theorem dX11_newSaint_88 : decode cX11_newSaint 88 = .ok (.aload_n 0, 1) := by decide +kernel
theorem dX11_newSaint_89 : decode cX11_newSaint 89 = .ok (.getfield 112, 3) := by decide +kernel
theorem dX11_newSaint_92 : decode cX11_newSaint 92 = .ok (.iconst 4, 1) := by decide +kernel
theorem dX11_newSaint_93 : decode cX11_newSaint 93 = .ok (.iload_n 2, 1) := by decide +kernel
theorem dX11_newSaint_94 : decode cX11_newSaint 94 = .ok (.imul, 1) := by decide +kernel
theorem dX11_newSaint_95 : decode cX11_newSaint 95 = .ok (.iload_n 3, 1) := by decide +kernel
theorem dX11_newSaint_96 : decode cX11_newSaint 96 = .ok (.iastore, 1) := by decide +kernel
theorem dX11_newSaint_97 : decode cX11_newSaint 97 = .ok (.aload_n 0, 1) := by decide +kernel
theorem dX11_newSaint_98 : decode cX11_newSaint 98 = .ok (.getfield 112, 3) := by decide +kernel
theorem dX11_newSaint_101 : decode cX11_newSaint 101 = .ok (.iconst 4, 1) := by decide +kernel
theorem dX11_newSaint_102 : decode cX11_newSaint 102 = .ok (.iload_n 2, 1) := by decide +kernel
theorem dX11_newSaint_103 : decode cX11_newSaint 103 = .ok (.imul, 1) := by decide +kernel
theorem dX11_newSaint_104 : decode cX11_newSaint 104 = .ok (.iconst 1, 1) := by decide +kernel
theorem dX11_newSaint_105 : decode cX11_newSaint 105 = .ok (.iadd, 1) := by decide +kernel
theorem dX11_newSaint_106 : decode cX11_newSaint 106 = .ok (.iload 4, 2) := by decide +kernel
theorem dX11_newSaint_108 : decode cX11_newSaint 108 = .ok (.iastore, 1) := by decide +kernel
theorem dX11_newSaint_109 : decode cX11_newSaint 109 = .ok (.aload_n 0, 1) := by decide +kernel
theorem dX11_newSaint_110 : decode cX11_newSaint 110 = .ok (.getfield 112, 3) := by decide +kernel
theorem dX11_newSaint_113 : decode cX11_newSaint 113 = .ok (.iconst 4, 1) := by decide +kernel
theorem dX11_newSaint_114 : decode cX11_newSaint 114 = .ok (.iload_n 2, 1) := by decide +kernel
theorem dX11_newSaint_115 : decode cX11_newSaint 115 = .ok (.imul, 1) := by decide +kernel
theorem dX11_newSaint_116 : decode cX11_newSaint 116 = .ok (.iconst 2, 1) := by decide +kernel
theorem dX11_newSaint_117 : decode cX11_newSaint 117 = .ok (.iadd, 1) := by decide +kernel
theorem dX11_newSaint_118 : decode cX11_newSaint 118 = .ok (.iload 5, 2) := by decide +kernel
theorem dX11_newSaint_120 : decode cX11_newSaint 120 = .ok (.iastore, 1) := by decide +kernel
theorem dX11_newSaint_121 : decode cX11_newSaint 121 = .ok (.aload_n 0, 1) := by decide +kernel
theorem dX11_newSaint_122 : decode cX11_newSaint 122 = .ok (.getfield 112, 3) := by decide +kernel
theorem dX11_newSaint_125 : decode cX11_newSaint 125 = .ok (.iconst 4, 1) := by decide +kernel
theorem dX11_newSaint_126 : decode cX11_newSaint 126 = .ok (.iload_n 2, 1) := by decide +kernel
theorem dX11_newSaint_127 : decode cX11_newSaint 127 = .ok (.imul, 1) := by decide +kernel
theorem dX11_newSaint_128 : decode cX11_newSaint 128 = .ok (.iconst 3, 1) := by decide +kernel
theorem dX11_newSaint_129 : decode cX11_newSaint 129 = .ok (.iadd, 1) := by decide +kernel
theorem dX11_newSaint_130 : decode cX11_newSaint 130 = .ok (.iload 6, 2) := by decide +kernel
theorem dX11_newSaint_132 : decode cX11_newSaint 132 = .ok (.iastore, 1) := by decide +kernel
theorem dX11_newSaint_133 : decode cX11_newSaint 133 = .ok (.aload_n 0, 1) := by decide +kernel
theorem dX11_newSaint_134 : decode cX11_newSaint 134 = .ok (.getfield 99, 3) := by decide +kernel
theorem dX11_newSaint_137 : decode cX11_newSaint 137 = .ok (.iconst 1, 1) := by decide +kernel
theorem dX11_newSaint_138 : decode cX11_newSaint 138 = .ok (.dup2, 1) := by decide +kernel
theorem dX11_newSaint_139 : decode cX11_newSaint 139 = .ok (.iaload, 1) := by decide +kernel
theorem dX11_newSaint_140 : decode cX11_newSaint 140 = .ok (.iconst 1, 1) := by decide +kernel
theorem dX11_newSaint_141 : decode cX11_newSaint 141 = .ok (.iadd, 1) := by decide +kernel
theorem dX11_newSaint_142 : decode cX11_newSaint 142 = .ok (.iastore, 1) := by decide +kernel
theorem dX11_newSaint_143 : decode cX11_newSaint 143 = .ok (.return_, 1) := by decide +kernel
theorem dX11_number_0 : decode cX11_number 0 = .ok (.aload_n 0, 1) := by decide +kernel
theorem dX11_number_1 : decode cX11_number 1 = .ok (.getfield 224, 3) := by decide +kernel
theorem dX11_number_4 : decode cX11_number 4 = .ok (.ifCond .eq 5, 3) := by decide +kernel
theorem dX11_number_7 : decode cX11_number 7 = .ok (.iconst 0, 1) := by decide +kernel
theorem dX11_number_8 : decode cX11_number 8 = .ok (.ireturn, 1) := by decide +kernel
theorem dX11_number_9 : decode cX11_number 9 = .ok (.aload_n 0, 1) := by decide +kernel
theorem dX11_number_10 : decode cX11_number 10 = .ok (.invokevirtual 236, 3) := by decide +kernel
theorem dX11_number_13 : decode cX11_number 13 = .ok (.invokestatic 261, 3) := by decide +kernel
theorem dX11_number_16 : decode cX11_number 16 = .ok (.ifCond .eq 14, 3) := by decide +kernel
theorem dX11_number_19 : decode cX11_number 19 = .ok (.aload_n 0, 1) := by decide +kernel
theorem dX11_number_20 : decode cX11_number 20 = .ok (.getfield 230, 3) := by decide +kernel
theorem dX11_number_23 : decode cX11_number 23 = .ok (.aload_n 0, 1) := by decide +kernel
theorem dX11_number_24 : decode cX11_number 24 = .ok (.getfield 244, 3) := by decide +kernel
theorem dX11_number_27 : decode cX11_number 27 = .ok (.if_icmp .ne 14, 3) := by decide +kernel
theorem dX11_number_30 : decode cX11_number 30 = .ok (.aload_n 0, 1) := by decide +kernel
theorem dX11_number_31 : decode cX11_number 31 = .ok (.iconst 1, 1) := by decide +kernel
theorem dX11_number_32 : decode cX11_number 32 = .ok (.aload_n 0, 1) := by decide +kernel
theorem dX11_number_33 : decode cX11_number 33 = .ok (.getfield 230, 3) := by decide +kernel
theorem dX11_number_36 : decode cX11_number 36 = .ok (.invokevirtual 254, 3) := by decide +kernel
theorem dX11_number_39 : decode cX11_number 39 = .ok (.iconst 0, 1) := by decide +kernel
theorem dX11_number_40 : decode cX11_number 40 = .ok (.ireturn, 1) := by decide +kernel
theorem dX11_number_41 : decode cX11_number 41 = .ok (.aload_n 0, 1) := by decide +kernel
theorem dX11_number_42 : decode cX11_number 42 = .ok (.getfield 230, 3) := by decide +kernel
theorem dX11_number_45 : decode cX11_number 45 = .ok (.istore_n 3, 1) := by decide +kernel
theorem dX11_number_46 : decode cX11_number 46 = .ok (.iconst 0, 1) := by decide +kernel
theorem dX11_number_47 : decode cX11_number 47 = .ok (.istore 4, 2) := by decide +kernel
theorem dX11_number_49 : decode cX11_number 49 = .ok (.aload_n 0, 1) := by decide +kernel
theorem dX11_number_50 : decode cX11_number 50 = .ok (.getfield 230, 3) := by decide +kernel
theorem dX11_number_53 : decode cX11_number 53 = .ok (.aload_n 0, 1) := by decide +kernel
theorem dX11_number_54 : decode cX11_number 54 = .ok (.getfield 233, 3) := by decide +kernel
theorem dX11_number_57 : decode cX11_number 57 = .ok (.if_icmp .ge 72, 3) := by decide +kernel
theorem dX11_number_60 : decode cX11_number 60 = .ok (.aload_n 0, 1) := by decide +kernel
theorem dX11_number_61 : decode cX11_number 61 = .ok (.getfield 7, 3) := by decide +kernel
theorem dX11_number_64 : decode cX11_number 64 = .ok (.aload_n 0, 1) := by decide +kernel
theorem dX11_number_65 : decode cX11_number 65 = .ok (.getfield 230, 3) := by decide +kernel
theorem dX11_number_68 : decode cX11_number 68 = .ok (.iaload, 1) := by decide +kernel
theorem dX11_number_69 : decode cX11_number 69 = .ok (.invokestatic 261, 3) := by decide +kernel
theorem dX11_number_72 : decode cX11_number 72 = .ok (.ifCond .eq 57, 3) := by decide +kernel
theorem dX11_number_75 : decode cX11_number 75 = .ok (.aload_n 0, 1) := by decide +kernel
theorem dX11_number_76 : decode cX11_number 76 = .ok (.getfield 230, 3) := by decide +kernel
theorem dX11_number_79 : decode cX11_number 79 = .ok (.iload_n 3, 1) := by decide +kernel
theorem dX11_number_80 : decode cX11_number 80 = .ok (.isub, 1) := by decide +kernel
theorem dX11_number_81 : decode cX11_number 81 = .ok (.iconst 4, 1) := by decide +kernel
theorem dX11_number_82 : decode cX11_number 82 = .ok (.if_icmp .ne 14, 3) := by decide +kernel
theorem dX11_number_85 : decode cX11_number 85 = .ok (.aload_n 0, 1) := by decide +kernel
theorem dX11_number_86 : decode cX11_number 86 = .ok (.iconst 1, 1) := by decide +kernel
theorem dX11_number_87 : decode cX11_number 87 = .ok (.aload_n 0, 1) := by decide +kernel
theorem dX11_number_88 : decode cX11_number 88 = .ok (.getfield 230, 3) := by decide +kernel
theorem dX11_number_91 : decode cX11_number 91 = .ok (.invokevirtual 254, 3) := by decide +kernel
theorem dX11_number_94 : decode cX11_number 94 = .ok (.iconst 0, 1) := by decide +kernel
theorem dX11_number_95 : decode cX11_number 95 = .ok (.ireturn, 1) := by decide +kernel
theorem dX11_number_96 : decode cX11_number 96 = .ok (.bipush 10, 2) := by decide +kernel
theorem dX11_number_98 : decode cX11_number 98 = .ok (.iload 4, 2) := by decide +kernel
theorem dX11_number_100 : decode cX11_number 100 = .ok (.imul, 1) := by decide +kernel
theorem dX11_number_101 : decode cX11_number 101 = .ok (.aload_n 0, 1) := by decide +kernel
theorem dX11_number_102 : decode cX11_number 102 = .ok (.getfield 7, 3) := by decide +kernel
theorem dX11_number_105 : decode cX11_number 105 = .ok (.aload_n 0, 1) := by decide +kernel
theorem dX11_number_106 : decode cX11_number 106 = .ok (.getfield 230, 3) := by decide +kernel
theorem dX11_number_109 : decode cX11_number 109 = .ok (.iaload, 1) := by decide +kernel
theorem dX11_number_110 : decode cX11_number 110 = .ok (.iadd, 1) := by decide +kernel
theorem dX11_number_111 : decode cX11_number 111 = .ok (.bipush 48, 2) := by decide +kernel
theorem dX11_number_113 : decode cX11_number 113 = .ok (.isub, 1) := by decide +kernel
theorem dX11_number_114 : decode cX11_number 114 = .ok (.istore 4, 2) := by decide +kernel
theorem dX11_number_116 : decode cX11_number 116 = .ok (.aload_n 0, 1) := by decide +kernel
theorem dX11_number_117 : decode cX11_number 117 = .ok (.dup, 1) := by decide +kernel
theorem dX11_number_118 : decode cX11_number 118 = .ok (.getfield 230, 3) := by decide +kernel
theorem dX11_number_121 : decode cX11_number 121 = .ok (.iconst 1, 1) := by decide +kernel
theorem dX11_number_122 : decode cX11_number 122 = .ok (.iadd, 1) := by decide +kernel
theorem dX11_number_123 : decode cX11_number 123 = .ok (.putfield 230, 3) := by decide +kernel
theorem dX11_number_126 : decode cX11_number 126 = .ok (.goto (-77), 3) := by decide +kernel
theorem dX11_number_129 : decode cX11_number 129 = .ok (.aload_n 0, 1) := by decide +kernel
theorem dX11_number_130 : decode cX11_number 130 = .ok (.aload_n 0, 1) := by decide +kernel
theorem dX11_number_131 : decode cX11_number 131 = .ok (.getfield 230, 3) := by decide +kernel
theorem dX11_number_134 : decode cX11_number 134 = .ok (.putfield 244, 3) := by decide +kernel
theorem dX11_number_137 : decode cX11_number 137 = .ok (.iload 4, 2) := by decide +kernel
theorem dX11_number_139 : decode cX11_number 139 = .ok (.i2l, 1) := by decide +kernel
theorem dX11_number_140 : decode cX11_number 140 = .ok (.iload_n 1, 1) := by decide +kernel
theorem dX11_number_141 : decode cX11_number 141 = .ok (.i2l, 1) := by decide +kernel
theorem dX11_number_142 : decode cX11_number 142 = .ok (.iload_n 2, 1) := by decide +kernel
theorem dX11_number_143 : decode cX11_number 143 = .ok (.i2l, 1) := by decide +kernel
theorem dX11_number_144 : decode cX11_number 144 = .ok (.invokestatic 264, 3) := by decide +kernel
theorem dX11_number_147 : decode cX11_number 147 = .ok (.ifCond .ne 9, 3) := by decide +kernel
theorem dX11_number_150 : decode cX11_number 150 = .ok (.aload_n 0, 1) := by decide +kernel
theorem dX11_number_151 : decode cX11_number 151 = .ok (.iconst 2, 1) := by decide +kernel
theorem dX11_number_152 : decode cX11_number 152 = .ok (.iload_n 3, 1) := by decide +kernel
theorem dX11_number_153 : decode cX11_number 153 = .ok (.invokevirtual 254, 3) := by decide +kernel
theorem dX11_number_156 : decode cX11_number 156 = .ok (.iload 4, 2) := by decide +kernel
theorem dX11_number_158 : decode cX11_number 158 = .ok (.ireturn, 1) := by decide +kernel
theorem dX11_octet_0 : decode cX11_octet 0 = .ok (.iload_n 1, 1) := by decide +kernel
theorem dX11_octet_1 : decode cX11_octet 1 = .ok (.ifCond .lt 20, 3) := by decide +kernel
theorem dX11_octet_4 : decode cX11_octet 4 = .ok (.iload_n 1, 1) := by decide +kernel
theorem dX11_octet_5 : decode cX11_octet 5 = .ok (.aload_n 0, 1) := by decide +kernel
theorem dX11_octet_6 : decode cX11_octet 6 = .ok (.getfield 677, 3) := by decide +kernel
theorem dX11_octet_9 : decode cX11_octet 9 = .ok (.if_icmp .ge 12, 3) := by decide +kernel
theorem dX11_octet_12 : decode cX11_octet 12 = .ok (.aload_n 0, 1) := by decide +kernel
theorem dX11_octet_13 : decode cX11_octet 13 = .ok (.getfield 218, 3) := by decide +kernel
theorem dX11_octet_16 : decode cX11_octet 16 = .ok (.iload_n 1, 1) := by decide +kernel
theorem dX11_octet_17 : decode cX11_octet 17 = .ok (.iaload, 1) := by decide +kernel
theorem dX11_octet_18 : decode cX11_octet 18 = .ok (.goto 4, 3) := by decide +kernel
theorem dX11_octet_21 : decode cX11_octet 21 = .ok (.iconst (-1), 1) := by decide +kernel
theorem dX11_octet_22 : decode cX11_octet 22 = .ok (.ireturn, 1) := by decide +kernel
theorem dX11_on_0 : decode cX11_on 0 = .ok (.aload_n 0, 1) := by decide +kernel
theorem dX11_on_1 : decode cX11_on 1 = .ok (.iload_n 1, 1) := by decide +kernel
theorem dX11_on_2 : decode cX11_on 2 = .ok (.invokevirtual 481, 3) := by decide +kernel
theorem dX11_on_5 : decode cX11_on 5 = .ok (.ifCond .eq 24, 3) := by decide +kernel
theorem dX11_on_8 : decode cX11_on 8 = .ok (.iload_n 2, 1) := by decide +kernel
theorem dX11_on_9 : decode cX11_on 9 = .ok (.i2l, 1) := by decide +kernel
theorem dX11_on_10 : decode cX11_on 10 = .ok (.lconst 0, 1) := by decide +kernel
theorem dX11_on_11 : decode cX11_on 11 = .ok (.ldc2_w 521, 3) := by decide +kernel
theorem dX11_on_14 : decode cX11_on 14 = .ok (.invokestatic 264, 3) := by decide +kernel
theorem dX11_on_17 : decode cX11_on 17 = .ok (.ifCond .eq 12, 3) := by decide +kernel
theorem dX11_on_20 : decode cX11_on 20 = .ok (.aload_n 0, 1) := by decide +kernel
theorem dX11_on_21 : decode cX11_on 21 = .ok (.iload_n 1, 1) := by decide +kernel
theorem dX11_on_22 : decode cX11_on 22 = .ok (.iload_n 2, 1) := by decide +kernel
theorem dX11_on_23 : decode cX11_on 23 = .ok (.invokevirtual 526, 3) := by decide +kernel
theorem dX11_on_26 : decode cX11_on 26 = .ok (.goto 4, 3) := by decide +kernel
theorem dX11_on_29 : decode cX11_on 29 = .ok (.iconst (-1), 1) := by decide +kernel
theorem dX11_on_30 : decode cX11_on 30 = .ok (.ireturn, 1) := by decide +kernel
theorem dX11_onOf_0 : decode cX11_onOf 0 = .ok (.iconst 0, 1) := by decide +kernel
theorem dX11_onOf_1 : decode cX11_onOf 1 = .ok (.istore_n 3, 1) := by decide +kernel
theorem dX11_onOf_2 : decode cX11_onOf 2 = .ok (.iload_n 3, 1) := by decide +kernel
theorem dX11_onOf_3 : decode cX11_onOf 3 = .ok (.aload_n 0, 1) := by decide +kernel
theorem dX11_onOf_4 : decode cX11_onOf 4 = .ok (.getfield 145, 3) := by decide +kernel
theorem dX11_onOf_7 : decode cX11_onOf 7 = .ok (.iload_n 1, 1) := by decide +kernel
theorem dX11_onOf_8 : decode cX11_onOf 8 = .ok (.iaload, 1) := by decide +kernel
theorem dX11_onOf_9 : decode cX11_onOf 9 = .ok (.if_icmp .ge 46, 3) := by decide +kernel
theorem dX11_onOf_12 : decode cX11_onOf 12 = .ok (.iload_n 2, 1) := by decide +kernel
theorem dX11_onOf_13 : decode cX11_onOf 13 = .ok (.aload_n 0, 1) := by decide +kernel
theorem dX11_onOf_14 : decode cX11_onOf 14 = .ok (.iload_n 1, 1) := by decide +kernel
theorem dX11_onOf_15 : decode cX11_onOf 15 = .ok (.iload_n 3, 1) := by decide +kernel
theorem dX11_onOf_16 : decode cX11_onOf 16 = .ok (.invokevirtual 518, 3) := by decide +kernel
theorem dX11_onOf_19 : decode cX11_onOf 19 = .ok (.if_icmp .le 30, 3) := by decide +kernel
theorem dX11_onOf_22 : decode cX11_onOf 22 = .ok (.iload_n 2, 1) := by decide +kernel
theorem dX11_onOf_23 : decode cX11_onOf 23 = .ok (.aload_n 0, 1) := by decide +kernel
theorem dX11_onOf_24 : decode cX11_onOf 24 = .ok (.getfield 154, 3) := by decide +kernel
theorem dX11_onOf_27 : decode cX11_onOf 27 = .ok (.bipush 24, 2) := by decide +kernel
theorem dX11_onOf_29 : decode cX11_onOf 29 = .ok (.iload_n 1, 1) := by decide +kernel
theorem dX11_onOf_30 : decode cX11_onOf 30 = .ok (.imul, 1) := by decide +kernel
theorem dX11_onOf_31 : decode cX11_onOf 31 = .ok (.iload_n 3, 1) := by decide +kernel
theorem dX11_onOf_32 : decode cX11_onOf 32 = .ok (.iadd, 1) := by decide +kernel
theorem dX11_onOf_33 : decode cX11_onOf 33 = .ok (.iaload, 1) := by decide +kernel
theorem dX11_onOf_34 : decode cX11_onOf 34 = .ok (.if_icmp .gt 15, 3) := by decide +kernel
theorem dX11_onOf_37 : decode cX11_onOf 37 = .ok (.aload_n 0, 1) := by decide +kernel
theorem dX11_onOf_38 : decode cX11_onOf 38 = .ok (.getfield 151, 3) := by decide +kernel
theorem dX11_onOf_41 : decode cX11_onOf 41 = .ok (.bipush 24, 2) := by decide +kernel
theorem dX11_onOf_43 : decode cX11_onOf 43 = .ok (.iload_n 1, 1) := by decide +kernel
theorem dX11_onOf_44 : decode cX11_onOf 44 = .ok (.imul, 1) := by decide +kernel
theorem dX11_onOf_45 : decode cX11_onOf 45 = .ok (.iload_n 3, 1) := by decide +kernel
theorem dX11_onOf_46 : decode cX11_onOf 46 = .ok (.iadd, 1) := by decide +kernel
theorem dX11_onOf_47 : decode cX11_onOf 47 = .ok (.iaload, 1) := by decide +kernel
theorem dX11_onOf_48 : decode cX11_onOf 48 = .ok (.ireturn, 1) := by decide +kernel
theorem dX11_onOf_49 : decode cX11_onOf 49 = .ok (.iinc 3 1, 3) := by decide +kernel
theorem dX11_onOf_52 : decode cX11_onOf 52 = .ok (.goto (-50), 3) := by decide +kernel
theorem dX11_onOf_55 : decode cX11_onOf 55 = .ok (.iconst (-1), 1) := by decide +kernel
theorem dX11_onOf_56 : decode cX11_onOf 56 = .ok (.ireturn, 1) := by decide +kernel
theorem dX11_onePart_0 : decode cX11_onePart 0 = .ok (.iconst 1, 1) := by decide +kernel
theorem dX11_onePart_1 : decode cX11_onePart 1 = .ok (.istore_n 1, 1) := by decide +kernel
theorem dX11_onePart_2 : decode cX11_onePart 2 = .ok (.iload_n 1, 1) := by decide +kernel
theorem dX11_onePart_3 : decode cX11_onePart 3 = .ok (.ifCond .eq 143, 3) := by decide +kernel
theorem dX11_onePart_6 : decode cX11_onePart 6 = .ok (.aload_n 0, 1) := by decide +kernel
theorem dX11_onePart_7 : decode cX11_onePart 7 = .ok (.getfield 224, 3) := by decide +kernel
theorem dX11_onePart_10 : decode cX11_onePart 10 = .ok (.ifCond .ne 136, 3) := by decide +kernel
theorem dX11_onePart_13 : decode cX11_onePart 13 = .ok (.aload_n 0, 1) := by decide +kernel
theorem dX11_onePart_14 : decode cX11_onePart 14 = .ok (.invokevirtual 236, 3) := by decide +kernel
theorem dX11_onePart_17 : decode cX11_onePart 17 = .ok (.istore_n 2, 1) := by decide +kernel
theorem dX11_onePart_18 : decode cX11_onePart 18 = .ok (.iload_n 2, 1) := by decide +kernel
theorem dX11_onePart_19 : decode cX11_onePart 19 = .ok (.bipush 40, 2) := by decide +kernel
theorem dX11_onePart_21 : decode cX11_onePart 21 = .ok (.if_icmp .ne 26, 3) := by decide +kernel
theorem dX11_onePart_24 : decode cX11_onePart 24 = .ok (.aload_n 0, 1) := by decide +kernel
theorem dX11_onePart_25 : decode cX11_onePart 25 = .ok (.bipush 20, 2) := by decide +kernel
theorem dX11_onePart_27 : decode cX11_onePart 27 = .ok (.aload_n 0, 1) := by decide +kernel
theorem dX11_onePart_28 : decode cX11_onePart 28 = .ok (.getfield 230, 3) := by decide +kernel
theorem dX11_onePart_31 : decode cX11_onePart 31 = .ok (.invokevirtual 379, 3) := by decide +kernel
theorem dX11_onePart_34 : decode cX11_onePart 34 = .ok (.aload_n 0, 1) := by decide +kernel
theorem dX11_onePart_35 : decode cX11_onePart 35 = .ok (.dup, 1) := by decide +kernel
theorem dX11_onePart_36 : decode cX11_onePart 36 = .ok (.getfield 230, 3) := by decide +kernel
theorem dX11_onePart_39 : decode cX11_onePart 39 = .ok (.iconst 1, 1) := by decide +kernel
theorem dX11_onePart_40 : decode cX11_onePart 40 = .ok (.iadd, 1) := by decide +kernel
theorem dX11_onePart_41 : decode cX11_onePart 41 = .ok (.putfield 230, 3) := by decide +kernel
theorem dX11_onePart_44 : decode cX11_onePart 44 = .ok (.goto 99, 3) := by decide +kernel
theorem dX11_onePart_47 : decode cX11_onePart 47 = .ok (.aload_n 0, 1) := by decide +kernel
theorem dX11_onePart_48 : decode cX11_onePart 48 = .ok (.aload_n 0, 1) := by decide +kernel
theorem dX11_onePart_49 : decode cX11_onePart 49 = .ok (.getfield 93, 3) := by decide +kernel
theorem dX11_onePart_52 : decode cX11_onePart 52 = .ok (.invokevirtual 247, 3) := by decide +kernel
theorem dX11_onePart_55 : decode cX11_onePart 55 = .ok (.ifCond .ne 14, 3) := by decide +kernel
theorem dX11_onePart_58 : decode cX11_onePart 58 = .ok (.aload_n 0, 1) := by decide +kernel
theorem dX11_onePart_59 : decode cX11_onePart 59 = .ok (.aload_n 0, 1) := by decide +kernel
theorem dX11_onePart_60 : decode cX11_onePart 60 = .ok (.getfield 96, 3) := by decide +kernel
theorem dX11_onePart_63 : decode cX11_onePart 63 = .ok (.invokevirtual 247, 3) := by decide +kernel
theorem dX11_onePart_66 : decode cX11_onePart 66 = .ok (.ifCond .eq 75, 3) := by decide +kernel
theorem dX11_onePart_69 : decode cX11_onePart 69 = .ok (.aload_n 0, 1) := by decide +kernel
theorem dX11_onePart_70 : decode cX11_onePart 70 = .ok (.aload_n 0, 1) := by decide +kernel
theorem dX11_onePart_71 : decode cX11_onePart 71 = .ok (.getfield 93, 3) := by decide +kernel
theorem dX11_onePart_74 : decode cX11_onePart 74 = .ok (.invokevirtual 251, 3) := by decide +kernel
theorem dX11_onePart_77 : decode cX11_onePart 77 = .ok (.istore_n 3, 1) := by decide +kernel
theorem dX11_onePart_78 : decode cX11_onePart 78 = .ok (.iload_n 3, 1) := by decide +kernel
theorem dX11_onePart_79 : decode cX11_onePart 79 = .ok (.ifCond .ne 11, 3) := by decide +kernel
theorem dX11_onePart_82 : decode cX11_onePart 82 = .ok (.aload_n 0, 1) := by decide +kernel
theorem dX11_onePart_83 : decode cX11_onePart 83 = .ok (.aload_n 0, 1) := by decide +kernel
theorem dX11_onePart_84 : decode cX11_onePart 84 = .ok (.getfield 96, 3) := by decide +kernel
theorem dX11_onePart_87 : decode cX11_onePart 87 = .ok (.invokevirtual 295, 3) := by decide +kernel
theorem dX11_onePart_90 : decode cX11_onePart 90 = .ok (.aload_n 0, 1) := by decide +kernel
theorem dX11_onePart_91 : decode cX11_onePart 91 = .ok (.invokevirtual 236, 3) := by decide +kernel
theorem dX11_onePart_94 : decode cX11_onePart 94 = .ok (.bipush 40, 2) := by decide +kernel
theorem dX11_onePart_96 : decode cX11_onePart 96 = .ok (.if_icmp .ne 10, 3) := by decide +kernel
theorem dX11_onePart_99 : decode cX11_onePart 99 = .ok (.aload_n 0, 1) := by decide +kernel
theorem dX11_onePart_100 : decode cX11_onePart 100 = .ok (.getfield 230, 3) := by decide +kernel
theorem dX11_onePart_103 : decode cX11_onePart 103 = .ok (.goto 4, 3) := by decide +kernel
theorem dX11_onePart_106 : decode cX11_onePart 106 = .ok (.iconst (-1), 1) := by decide +kernel
theorem dX11_onePart_107 : decode cX11_onePart 107 = .ok (.istore 4, 2) := by decide +kernel
theorem dX11_onePart_109 : decode cX11_onePart 109 = .ok (.iload 4, 2) := by decide +kernel
theorem dX11_onePart_111 : decode cX11_onePart 111 = .ok (.iconst (-1), 1) := by decide +kernel
theorem dX11_onePart_112 : decode cX11_onePart 112 = .ok (.if_icmp .eq 20, 3) := by decide +kernel
theorem dX11_onePart_115 : decode cX11_onePart 115 = .ok (.aload_n 0, 1) := by decide +kernel
theorem dX11_onePart_116 : decode cX11_onePart 116 = .ok (.iload_n 3, 1) := by decide +kernel
theorem dX11_onePart_117 : decode cX11_onePart 117 = .ok (.ifCond .eq 8, 3) := by decide +kernel
theorem dX11_onePart_120 : decode cX11_onePart 120 = .ok (.bipush 21, 2) := by decide +kernel
theorem dX11_onePart_122 : decode cX11_onePart 122 = .ok (.goto 5, 3) := by decide +kernel
theorem dX11_onePart_125 : decode cX11_onePart 125 = .ok (.bipush 22, 2) := by decide +kernel
theorem dX11_onePart_127 : decode cX11_onePart 127 = .ok (.iload 4, 2) := by decide +kernel
theorem dX11_onePart_129 : decode cX11_onePart 129 = .ok (.invokevirtual 379, 3) := by decide +kernel
theorem dX11_onePart_132 : decode cX11_onePart 132 = .ok (.aload_n 0, 1) := by decide +kernel
theorem dX11_onePart_133 : decode cX11_onePart 133 = .ok (.bipush 40, 2) := by decide +kernel
theorem dX11_onePart_135 : decode cX11_onePart 135 = .ok (.invokevirtual 346, 3) := by decide +kernel
theorem dX11_onePart_138 : decode cX11_onePart 138 = .ok (.goto 5, 3) := by decide +kernel
theorem dX11_onePart_141 : decode cX11_onePart 141 = .ok (.iconst 0, 1) := by decide +kernel
theorem dX11_onePart_142 : decode cX11_onePart 142 = .ok (.istore_n 1, 1) := by decide +kernel
theorem dX11_onePart_143 : decode cX11_onePart 143 = .ok (.goto (-141), 3) := by decide +kernel
theorem dX11_onePart_146 : decode cX11_onePart 146 = .ok (.aload_n 0, 1) := by decide +kernel
theorem dX11_onePart_147 : decode cX11_onePart 147 = .ok (.getfield 224, 3) := by decide +kernel
theorem dX11_onePart_150 : decode cX11_onePart 150 = .ok (.ifCond .eq 4, 3) := by decide +kernel
theorem dX11_onePart_153 : decode cX11_onePart 153 = .ok (.return_, 1) := by decide +kernel
theorem dX11_onePart_154 : decode cX11_onePart 154 = .ok (.aload_n 0, 1) := by decide +kernel
theorem dX11_onePart_155 : decode cX11_onePart 155 = .ok (.aload_n 0, 1) := by decide +kernel
theorem dX11_onePart_156 : decode cX11_onePart 156 = .ok (.getfield 78, 3) := by decide +kernel
theorem dX11_onePart_159 : decode cX11_onePart 159 = .ok (.invokevirtual 251, 3) := by decide +kernel
theorem dX11_onePart_162 : decode cX11_onePart 162 = .ok (.ifCond .eq 8, 3) := by decide +kernel
theorem dX11_onePart_165 : decode cX11_onePart 165 = .ok (.bipush 7, 2) := by decide +kernel
theorem dX11_onePart_167 : decode cX11_onePart 167 = .ok (.goto 36, 3) := by decide +kernel
theorem dX11_onePart_170 : decode cX11_onePart 170 = .ok (.aload_n 0, 1) := by decide +kernel
theorem dX11_onePart_171 : decode cX11_onePart 171 = .ok (.aload_n 0, 1) := by decide +kernel
theorem dX11_onePart_172 : decode cX11_onePart 172 = .ok (.getfield 81, 3) := by decide +kernel
theorem dX11_onePart_175 : decode cX11_onePart 175 = .ok (.invokevirtual 251, 3) := by decide +kernel
theorem dX11_onePart_178 : decode cX11_onePart 178 = .ok (.ifCond .eq 8, 3) := by decide +kernel
theorem dX11_onePart_181 : decode cX11_onePart 181 = .ok (.bipush 8, 2) := by decide +kernel
theorem dX11_onePart_183 : decode cX11_onePart 183 = .ok (.goto 20, 3) := by decide +kernel
theorem dX11_onePart_186 : decode cX11_onePart 186 = .ok (.aload_n 0, 1) := by decide +kernel
theorem dX11_onePart_187 : decode cX11_onePart 187 = .ok (.aload_n 0, 1) := by decide +kernel
theorem dX11_onePart_188 : decode cX11_onePart 188 = .ok (.getfield 84, 3) := by decide +kernel
theorem dX11_onePart_191 : decode cX11_onePart 191 = .ok (.invokevirtual 251, 3) := by decide +kernel
theorem dX11_onePart_194 : decode cX11_onePart 194 = .ok (.ifCond .eq 8, 3) := by decide +kernel
theorem dX11_onePart_197 : decode cX11_onePart 197 = .ok (.bipush 9, 2) := by decide +kernel
theorem dX11_onePart_199 : decode cX11_onePart 199 = .ok (.goto 4, 3) := by decide +kernel
theorem dX11_onePart_202 : decode cX11_onePart 202 = .ok (.iconst (-1), 1) := by decide +kernel
theorem dX11_onePart_203 : decode cX11_onePart 203 = .ok (.istore_n 2, 1) := by decide +kernel
theorem dX11_onePart_204 : decode cX11_onePart 204 = .ok (.iload_n 2, 1) := by decide +kernel
theorem dX11_onePart_205 : decode cX11_onePart 205 = .ok (.iconst (-1), 1) := by decide +kernel
theorem dX11_onePart_206 : decode cX11_onePart 206 = .ok (.if_icmp .ne 37, 3) := by decide +kernel
theorem dX11_onePart_209 : decode cX11_onePart 209 = .ok (.aload_n 0, 1) := by decide +kernel
theorem dX11_onePart_210 : decode cX11_onePart 210 = .ok (.aload_n 0, 1) := by decide +kernel
theorem dX11_onePart_211 : decode cX11_onePart 211 = .ok (.getfield 87, 3) := by decide +kernel
theorem dX11_onePart_214 : decode cX11_onePart 214 = .ok (.invokevirtual 251, 3) := by decide +kernel
theorem dX11_onePart_217 : decode cX11_onePart 217 = .ok (.ifCond .eq 8, 3) := by decide +kernel
theorem dX11_onePart_220 : decode cX11_onePart 220 = .ok (.bipush 10, 2) := by decide +kernel
theorem dX11_onePart_222 : decode cX11_onePart 222 = .ok (.goto 20, 3) := by decide +kernel
theorem dX11_onePart_225 : decode cX11_onePart 225 = .ok (.aload_n 0, 1) := by decide +kernel
theorem dX11_onePart_226 : decode cX11_onePart 226 = .ok (.aload_n 0, 1) := by decide +kernel
theorem dX11_onePart_227 : decode cX11_onePart 227 = .ok (.getfield 90, 3) := by decide +kernel
theorem dX11_onePart_230 : decode cX11_onePart 230 = .ok (.invokevirtual 251, 3) := by decide +kernel
theorem dX11_onePart_233 : decode cX11_onePart 233 = .ok (.ifCond .eq 8, 3) := by decide +kernel
theorem dX11_onePart_236 : decode cX11_onePart 236 = .ok (.bipush 18, 2) := by decide +kernel
theorem dX11_onePart_238 : decode cX11_onePart 238 = .ok (.goto 4, 3) := by decide +kernel
theorem dX11_onePart_241 : decode cX11_onePart 241 = .ok (.iconst (-1), 1) := by decide +kernel
theorem dX11_onePart_242 : decode cX11_onePart 242 = .ok (.istore_n 2, 1) := by decide +kernel
theorem dX11_onePart_243 : decode cX11_onePart 243 = .ok (.aload_n 0, 1) := by decide +kernel
theorem dX11_onePart_244 : decode cX11_onePart 244 = .ok (.iload_n 2, 1) := by decide +kernel
theorem dX11_onePart_245 : decode cX11_onePart 245 = .ok (.iconst (-1), 1) := by decide +kernel
theorem dX11_onePart_246 : decode cX11_onePart 246 = .ok (.if_icmp .eq 7, 3) := by decide +kernel
theorem dX11_onePart_249 : decode cX11_onePart 249 = .ok (.iload_n 2, 1) := by decide +kernel
theorem dX11_onePart_250 : decode cX11_onePart 250 = .ok (.goto 15, 3) := by decide +kernel
theorem dX11_onePart_253 : decode cX11_onePart 253 = .ok (.sipush 1000, 3) := by decide +kernel
theorem dX11_onePart_256 : decode cX11_onePart 256 = .ok (.aload_n 0, 1) := by decide +kernel
theorem dX11_onePart_257 : decode cX11_onePart 257 = .ok (.iconst 0, 1) := by decide +kernel
theorem dX11_onePart_258 : decode cX11_onePart 258 = .ok (.sipush 9999, 3) := by decide +kernel
theorem dX11_onePart_261 : decode cX11_onePart 261 = .ok (.invokevirtual 299, 3) := by decide +kernel
theorem dX11_onePart_264 : decode cX11_onePart 264 = .ok (.iadd, 1) := by decide +kernel
theorem dX11_onePart_265 : decode cX11_onePart 265 = .ok (.invokevirtual 370, 3) := by decide +kernel
theorem dX11_onePart_268 : decode cX11_onePart 268 = .ok (.return_, 1) := by decide +kernel
theorem dX11_opens_0 : decode cX11_opens 0 = .ok (.aload_n 0, 1) := by decide +kernel
theorem dX11_opens_1 : decode cX11_opens 1 = .ok (.getfield 312, 3) := by decide +kernel
theorem dX11_opens_4 : decode cX11_opens 4 = .ok (.bipush 6, 2) := by decide +kernel
theorem dX11_opens_6 : decode cX11_opens 6 = .ok (.if_icmp .ne 10, 3) := by decide +kernel
theorem dX11_opens_9 : decode cX11_opens 9 = .ok (.aload_n 0, 1) := by decide +kernel
theorem dX11_opens_10 : decode cX11_opens 10 = .ok (.iconst 4, 1) := by decide +kernel
theorem dX11_opens_11 : decode cX11_opens 11 = .ok (.iload_n 2, 1) := by decide +kernel
theorem dX11_opens_12 : decode cX11_opens 12 = .ok (.invokevirtual 254, 3) := by decide +kernel
theorem dX11_opens_15 : decode cX11_opens 15 = .ok (.return_, 1) := by decide +kernel
theorem dX11_opens_16 : decode cX11_opens 16 = .ok (.aload_n 0, 1) := by decide +kernel
theorem dX11_opens_17 : decode cX11_opens 17 = .ok (.dup, 1) := by decide +kernel
theorem dX11_opens_18 : decode cX11_opens 18 = .ok (.getfield 312, 3) := by decide +kernel
theorem dX11_opens_21 : decode cX11_opens 21 = .ok (.iconst 1, 1) := by decide +kernel
theorem dX11_opens_22 : decode cX11_opens 22 = .ok (.iadd, 1) := by decide +kernel
theorem dX11_opens_23 : decode cX11_opens 23 = .ok (.putfield 312, 3) := by decide +kernel
theorem dX11_opens_26 : decode cX11_opens 26 = .ok (.aload_n 0, 1) := by decide +kernel
theorem dX11_opens_27 : decode cX11_opens 27 = .ok (.getfield 124, 3) := by decide +kernel
theorem dX11_opens_30 : decode cX11_opens 30 = .ok (.aload_n 0, 1) := by decide +kernel
theorem dX11_opens_31 : decode cX11_opens 31 = .ok (.getfield 309, 3) := by decide +kernel
theorem dX11_opens_34 : decode cX11_opens 34 = .ok (.iload_n 1, 1) := by decide +kernel
theorem dX11_opens_35 : decode cX11_opens 35 = .ok (.iastore, 1) := by decide +kernel
theorem dX11_opens_36 : decode cX11_opens 36 = .ok (.aload_n 0, 1) := by decide +kernel
theorem dX11_opens_37 : decode cX11_opens 37 = .ok (.dup, 1) := by decide +kernel
theorem dX11_opens_38 : decode cX11_opens 38 = .ok (.getfield 309, 3) := by decide +kernel
theorem dX11_opens_41 : decode cX11_opens 41 = .ok (.iconst 1, 1) := by decide +kernel
theorem dX11_opens_42 : decode cX11_opens 42 = .ok (.iadd, 1) := by decide +kernel
theorem dX11_opens_43 : decode cX11_opens 43 = .ok (.putfield 309, 3) := by decide +kernel
theorem dX11_opens_46 : decode cX11_opens 46 = .ok (.return_, 1) := by decide +kernel
theorem dX11_optionMany_0 : decode cX11_optionMany 0 = .ok (.iconst 3, 1) := by decide +kernel
theorem dX11_optionMany_1 : decode cX11_optionMany 1 = .ok (.aload_n 0, 1) := by decide +kernel
theorem dX11_optionMany_2 : decode cX11_optionMany 2 = .ok (.getfield 187, 3) := by decide +kernel
theorem dX11_optionMany_5 : decode cX11_optionMany 5 = .ok (.iload_n 1, 1) := by decide +kernel
theorem dX11_optionMany_6 : decode cX11_optionMany 6 = .ok (.iaload, 1) := by decide +kernel
theorem dX11_optionMany_7 : decode cX11_optionMany 7 = .ok (.imul, 1) := by decide +kernel
theorem dX11_optionMany_8 : decode cX11_optionMany 8 = .ok (.ireturn, 1) := by decide +kernel
theorem dX11_options_0 : decode cX11_options 0 = .ok (.iconst 0, 1) := by decide +kernel
theorem dX11_options_1 : decode cX11_options 1 = .ok (.istore_n 1, 1) := by decide +kernel
theorem dX11_options_2 : decode cX11_options 2 = .ok (.iload_n 1, 1) := by decide +kernel
theorem dX11_options_3 : decode cX11_options 3 = .ok (.aload_n 0, 1) := by decide +kernel
theorem dX11_options_4 : decode cX11_options 4 = .ok (.invokevirtual 447, 3) := by decide +kernel
theorem dX11_options_7 : decode cX11_options 7 = .ok (.if_icmp .ge 14, 3) := by decide +kernel
theorem dX11_options_10 : decode cX11_options 10 = .ok (.aload_n 0, 1) := by decide +kernel
theorem dX11_options_11 : decode cX11_options 11 = .ok (.iload_n 1, 1) := by decide +kernel
theorem dX11_options_12 : decode cX11_options 12 = .ok (.invokevirtual 607, 3) := by decide +kernel
theorem dX11_options_15 : decode cX11_options 15 = .ok (.iinc 1 1, 3) := by decide +kernel
theorem dX11_options_18 : decode cX11_options 18 = .ok (.goto (-16), 3) := by decide +kernel
theorem dX11_options_21 : decode cX11_options 21 = .ok (.iconst 0, 1) := by decide +kernel
theorem dX11_options_22 : decode cX11_options 22 = .ok (.istore_n 1, 1) := by decide +kernel
theorem dX11_options_23 : decode cX11_options 23 = .ok (.iload_n 1, 1) := by decide +kernel
theorem dX11_options_24 : decode cX11_options 24 = .ok (.ldc 196, 2) := by decide +kernel
theorem dX11_options_26 : decode cX11_options 26 = .ok (.if_icmp .ge 16, 3) := by decide +kernel
theorem dX11_options_29 : decode cX11_options 29 = .ok (.aload_n 0, 1) := by decide +kernel
theorem dX11_options_30 : decode cX11_options 30 = .ok (.getfield 197, 3) := by decide +kernel
theorem dX11_options_33 : decode cX11_options 33 = .ok (.iload_n 1, 1) := by decide +kernel
theorem dX11_options_34 : decode cX11_options 34 = .ok (.iconst 0, 1) := by decide +kernel
theorem dX11_options_35 : decode cX11_options 35 = .ok (.iastore, 1) := by decide +kernel
theorem dX11_options_36 : decode cX11_options 36 = .ok (.iinc 1 1, 3) := by decide +kernel
theorem dX11_options_39 : decode cX11_options 39 = .ok (.goto (-16), 3) := by decide +kernel
theorem dX11_options_42 : decode cX11_options 42 = .ok (.return_, 1) := by decide +kernel
theorem dX11_optionsOf_0 : decode cX11_optionsOf 0 = .ok (.aload_n 0, 1) := by decide +kernel
theorem dX11_optionsOf_1 : decode cX11_optionsOf 1 = .ok (.iload_n 1, 1) := by decide +kernel
theorem dX11_optionsOf_2 : decode cX11_optionsOf 2 = .ok (.invokevirtual 601, 3) := by decide +kernel
theorem dX11_optionsOf_5 : decode cX11_optionsOf 5 = .ok (.aload_n 0, 1) := by decide +kernel
theorem dX11_optionsOf_6 : decode cX11_optionsOf 6 = .ok (.invokevirtual 465, 3) := by decide +kernel
theorem dX11_optionsOf_9 : decode cX11_optionsOf 9 = .ok (.invokestatic 468, 3) := by decide +kernel
theorem dX11_optionsOf_12 : decode cX11_optionsOf 12 = .ok (.istore_n 2, 1) := by decide +kernel
theorem dX11_optionsOf_13 : decode cX11_optionsOf 13 = .ok (.iconst 0, 1) := by decide +kernel
theorem dX11_optionsOf_14 : decode cX11_optionsOf 14 = .ok (.istore_n 3, 1) := by decide +kernel
theorem dX11_optionsOf_15 : decode cX11_optionsOf 15 = .ok (.iload_n 3, 1) := by decide +kernel
theorem dX11_optionsOf_16 : decode cX11_optionsOf 16 = .ok (.aload_n 0, 1) := by decide +kernel
theorem dX11_optionsOf_17 : decode cX11_optionsOf 17 = .ok (.getfield 187, 3) := by decide +kernel
theorem dX11_optionsOf_20 : decode cX11_optionsOf 20 = .ok (.iload_n 1, 1) := by decide +kernel
theorem dX11_optionsOf_21 : decode cX11_optionsOf 21 = .ok (.iaload, 1) := by decide +kernel
theorem dX11_optionsOf_22 : decode cX11_optionsOf 22 = .ok (.if_icmp .ge 131, 3) := by decide +kernel
theorem dX11_optionsOf_25 : decode cX11_optionsOf 25 = .ok (.iconst 0, 1) := by decide +kernel
theorem dX11_optionsOf_26 : decode cX11_optionsOf 26 = .ok (.istore 4, 2) := by decide +kernel
theorem dX11_optionsOf_28 : decode cX11_optionsOf 28 = .ok (.iload 4, 2) := by decide +kernel
theorem dX11_optionsOf_30 : decode cX11_optionsOf 30 = .ok (.iconst 3, 1) := by decide +kernel
theorem dX11_optionsOf_31 : decode cX11_optionsOf 31 = .ok (.if_icmp .ge 116, 3) := by decide +kernel
theorem dX11_optionsOf_34 : decode cX11_optionsOf 34 = .ok (.iload_n 1, 1) := by decide +kernel
theorem dX11_optionsOf_35 : decode cX11_optionsOf 35 = .ok (.iconst 3, 1) := by decide +kernel
theorem dX11_optionsOf_36 : decode cX11_optionsOf 36 = .ok (.iload_n 3, 1) := by decide +kernel
theorem dX11_optionsOf_37 : decode cX11_optionsOf 37 = .ok (.imul, 1) := by decide +kernel
theorem dX11_optionsOf_38 : decode cX11_optionsOf 38 = .ok (.iload 4, 2) := by decide +kernel
theorem dX11_optionsOf_40 : decode cX11_optionsOf 40 = .ok (.iadd, 1) := by decide +kernel
theorem dX11_optionsOf_41 : decode cX11_optionsOf 41 = .ok (.invokestatic 604, 3) := by decide +kernel
theorem dX11_optionsOf_44 : decode cX11_optionsOf 44 = .ok (.istore 5, 2) := by decide +kernel
theorem dX11_optionsOf_46 : decode cX11_optionsOf 46 = .ok (.aload_n 0, 1) := by decide +kernel
theorem dX11_optionsOf_47 : decode cX11_optionsOf 47 = .ok (.getfield 145, 3) := by decide +kernel
theorem dX11_optionsOf_50 : decode cX11_optionsOf 50 = .ok (.iload 5, 2) := by decide +kernel
theorem dX11_optionsOf_52 : decode cX11_optionsOf 52 = .ok (.iconst 0, 1) := by decide +kernel
theorem dX11_optionsOf_53 : decode cX11_optionsOf 53 = .ok (.iastore, 1) := by decide +kernel
theorem dX11_optionsOf_54 : decode cX11_optionsOf 54 = .ok (.iload 4, 2) := by decide +kernel
theorem dX11_optionsOf_56 : decode cX11_optionsOf 56 = .ok (.ifCond .le 19, 3) := by decide +kernel
theorem dX11_optionsOf_59 : decode cX11_optionsOf 59 = .ok (.aload_n 0, 1) := by decide +kernel
theorem dX11_optionsOf_60 : decode cX11_optionsOf 60 = .ok (.iload 5, 2) := by decide +kernel
theorem dX11_optionsOf_62 : decode cX11_optionsOf 62 = .ok (.aload_n 0, 1) := by decide +kernel
theorem dX11_optionsOf_63 : decode cX11_optionsOf 63 = .ok (.iload_n 1, 1) := by decide +kernel
theorem dX11_optionsOf_64 : decode cX11_optionsOf 64 = .ok (.invokevirtual 456, 3) := by decide +kernel
theorem dX11_optionsOf_67 : decode cX11_optionsOf 67 = .ok (.iconst (-1), 1) := by decide +kernel
theorem dX11_optionsOf_68 : decode cX11_optionsOf 68 = .ok (.iconst 5, 1) := by decide +kernel
theorem dX11_optionsOf_69 : decode cX11_optionsOf 69 = .ok (.iload 4, 2) := by decide +kernel
theorem dX11_optionsOf_71 : decode cX11_optionsOf 71 = .ok (.imul, 1) := by decide +kernel
theorem dX11_optionsOf_72 : decode cX11_optionsOf 72 = .ok (.invokevirtual 512, 3) := by decide +kernel
theorem dX11_optionsOf_75 : decode cX11_optionsOf 75 = .ok (.iconst 1, 1) := by decide +kernel
theorem dX11_optionsOf_76 : decode cX11_optionsOf 76 = .ok (.istore 6, 2) := by decide +kernel
theorem dX11_optionsOf_78 : decode cX11_optionsOf 78 = .ok (.iload 6, 2) := by decide +kernel
theorem dX11_optionsOf_80 : decode cX11_optionsOf 80 = .ok (.iload_n 2, 1) := by decide +kernel
theorem dX11_optionsOf_81 : decode cX11_optionsOf 81 = .ok (.if_icmp .ge 60, 3) := by decide +kernel
theorem dX11_optionsOf_84 : decode cX11_optionsOf 84 = .ok (.aload_n 0, 1) := by decide +kernel
theorem dX11_optionsOf_85 : decode cX11_optionsOf 85 = .ok (.getfield 190, 3) := by decide +kernel
theorem dX11_optionsOf_88 : decode cX11_optionsOf 88 = .ok (.sipush 200, 3) := by decide +kernel
theorem dX11_optionsOf_91 : decode cX11_optionsOf 91 = .ok (.iload_n 1, 1) := by decide +kernel
theorem dX11_optionsOf_92 : decode cX11_optionsOf 92 = .ok (.imul, 1) := by decide +kernel
theorem dX11_optionsOf_93 : decode cX11_optionsOf 93 = .ok (.bipush 10, 2) := by decide +kernel
theorem dX11_optionsOf_95 : decode cX11_optionsOf 95 = .ok (.iload_n 3, 1) := by decide +kernel
theorem dX11_optionsOf_96 : decode cX11_optionsOf 96 = .ok (.imul, 1) := by decide +kernel
theorem dX11_optionsOf_97 : decode cX11_optionsOf 97 = .ok (.iadd, 1) := by decide +kernel
theorem dX11_optionsOf_98 : decode cX11_optionsOf 98 = .ok (.iload 6, 2) := by decide +kernel
theorem dX11_optionsOf_100 : decode cX11_optionsOf 100 = .ok (.iadd, 1) := by decide +kernel
theorem dX11_optionsOf_101 : decode cX11_optionsOf 101 = .ok (.iaload, 1) := by decide +kernel
theorem dX11_optionsOf_102 : decode cX11_optionsOf 102 = .ok (.istore 7, 2) := by decide +kernel
theorem dX11_optionsOf_104 : decode cX11_optionsOf 104 = .ok (.aload_n 0, 1) := by decide +kernel
theorem dX11_optionsOf_105 : decode cX11_optionsOf 105 = .ok (.aload_n 0, 1) := by decide +kernel
theorem dX11_optionsOf_106 : decode cX11_optionsOf 106 = .ok (.iload 5, 2) := by decide +kernel
theorem dX11_optionsOf_108 : decode cX11_optionsOf 108 = .ok (.invokevirtual 484, 3) := by decide +kernel
theorem dX11_optionsOf_111 : decode cX11_optionsOf 111 = .ok (.iload 7, 2) := by decide +kernel
theorem dX11_optionsOf_113 : decode cX11_optionsOf 113 = .ok (.invokevirtual 496, 3) := by decide +kernel
theorem dX11_optionsOf_116 : decode cX11_optionsOf 116 = .ok (.istore 8, 2) := by decide +kernel
theorem dX11_optionsOf_118 : decode cX11_optionsOf 118 = .ok (.aload_n 0, 1) := by decide +kernel
theorem dX11_optionsOf_119 : decode cX11_optionsOf 119 = .ok (.iload 5, 2) := by decide +kernel
theorem dX11_optionsOf_121 : decode cX11_optionsOf 121 = .ok (.iload 7, 2) := by decide +kernel
theorem dX11_optionsOf_123 : decode cX11_optionsOf 123 = .ok (.iload 8, 2) := by decide +kernel
theorem dX11_optionsOf_125 : decode cX11_optionsOf 125 = .ok (.aload_n 0, 1) := by decide +kernel
theorem dX11_optionsOf_126 : decode cX11_optionsOf 126 = .ok (.iload 8, 2) := by decide +kernel
theorem dX11_optionsOf_128 : decode cX11_optionsOf 128 = .ok (.iload_n 1, 1) := by decide +kernel
theorem dX11_optionsOf_129 : decode cX11_optionsOf 129 = .ok (.invokevirtual 502, 3) := by decide +kernel
theorem dX11_optionsOf_132 : decode cX11_optionsOf 132 = .ok (.invokevirtual 512, 3) := by decide +kernel
theorem dX11_optionsOf_135 : decode cX11_optionsOf 135 = .ok (.iinc 6 1, 3) := by decide +kernel
theorem dX11_optionsOf_138 : decode cX11_optionsOf 138 = .ok (.goto (-60), 3) := by decide +kernel
theorem dX11_optionsOf_141 : decode cX11_optionsOf 141 = .ok (.iinc 4 1, 3) := by decide +kernel
theorem dX11_optionsOf_144 : decode cX11_optionsOf 144 = .ok (.goto (-116), 3) := by decide +kernel
theorem dX11_optionsOf_147 : decode cX11_optionsOf 147 = .ok (.iinc 3 1, 3) := by decide +kernel
theorem dX11_optionsOf_150 : decode cX11_optionsOf 150 = .ok (.goto (-135), 3) := by decide +kernel
theorem dX11_optionsOf_153 : decode cX11_optionsOf 153 = .ok (.return_, 1) := by decide +kernel
theorem dX11_paceOf_0 : decode cX11_paceOf 0 = .ok (.aload_n 0, 1) := by decide +kernel
theorem dX11_paceOf_1 : decode cX11_paceOf 1 = .ok (.getfield 112, 3) := by decide +kernel
theorem dX11_paceOf_4 : decode cX11_paceOf 4 = .ok (.bipush 16, 2) := by decide +kernel
theorem dX11_paceOf_6 : decode cX11_paceOf 6 = .ok (.iconst 4, 1) := by decide +kernel
theorem dX11_paceOf_7 : decode cX11_paceOf 7 = .ok (.iload_n 1, 1) := by decide +kernel
theorem dX11_paceOf_8 : decode cX11_paceOf 8 = .ok (.imul, 1) := by decide +kernel
theorem dX11_paceOf_9 : decode cX11_paceOf 9 = .ok (.iadd, 1) := by decide +kernel
theorem dX11_paceOf_10 : decode cX11_paceOf 10 = .ok (.iconst 1, 1) := by decide +kernel
theorem dX11_paceOf_11 : decode cX11_paceOf 11 = .ok (.iadd, 1) := by decide +kernel
theorem dX11_paceOf_12 : decode cX11_paceOf 12 = .ok (.iaload, 1) := by decide +kernel
theorem dX11_paceOf_13 : decode cX11_paceOf 13 = .ok (.ireturn, 1) := by decide +kernel
theorem dX11_parishes_0 : decode cX11_parishes 0 = .ok (.iconst 0, 1) := by decide +kernel
theorem dX11_parishes_1 : decode cX11_parishes 1 = .ok (.istore_n 1, 1) := by decide +kernel
theorem dX11_parishes_2 : decode cX11_parishes 2 = .ok (.iconst 0, 1) := by decide +kernel
theorem dX11_parishes_3 : decode cX11_parishes 3 = .ok (.istore_n 2, 1) := by decide +kernel
theorem dX11_parishes_4 : decode cX11_parishes 4 = .ok (.iload_n 2, 1) := by decide +kernel
theorem dX11_parishes_5 : decode cX11_parishes 5 = .ok (.aload_n 0, 1) := by decide +kernel
theorem dX11_parishes_6 : decode cX11_parishes 6 = .ok (.invokevirtual 444, 3) := by decide +kernel
theorem dX11_parishes_9 : decode cX11_parishes 9 = .ok (.if_icmp .ge 23, 3) := by decide +kernel
theorem dX11_parishes_12 : decode cX11_parishes 12 = .ok (.iload_n 1, 1) := by decide +kernel
theorem dX11_parishes_13 : decode cX11_parishes 13 = .ok (.iconst 1, 1) := by decide +kernel
theorem dX11_parishes_14 : decode cX11_parishes 14 = .ok (.aload_n 0, 1) := by decide +kernel
theorem dX11_parishes_15 : decode cX11_parishes 15 = .ok (.getfield 106, 3) := by decide +kernel
theorem dX11_parishes_18 : decode cX11_parishes 18 = .ok (.bipush 10, 2) := by decide +kernel
theorem dX11_parishes_20 : decode cX11_parishes 20 = .ok (.iload_n 2, 1) := by decide +kernel
theorem dX11_parishes_21 : decode cX11_parishes 21 = .ok (.iadd, 1) := by decide +kernel
theorem dX11_parishes_22 : decode cX11_parishes 22 = .ok (.iaload, 1) := by decide +kernel
theorem dX11_parishes_23 : decode cX11_parishes 23 = .ok (.ishl, 1) := by decide +kernel
theorem dX11_parishes_24 : decode cX11_parishes 24 = .ok (.ior, 1) := by decide +kernel
theorem dX11_parishes_25 : decode cX11_parishes 25 = .ok (.istore_n 1, 1) := by decide +kernel
theorem dX11_parishes_26 : decode cX11_parishes 26 = .ok (.iinc 2 1, 3) := by decide +kernel
theorem dX11_parishes_29 : decode cX11_parishes 29 = .ok (.goto (-25), 3) := by decide +kernel
theorem dX11_parishes_32 : decode cX11_parishes 32 = .ok (.iload_n 1, 1) := by decide +kernel
theorem dX11_parishes_33 : decode cX11_parishes 33 = .ok (.ireturn, 1) := by decide +kernel
theorem dX11_passes_0 : decode cX11_passes 0 = .ok (.aload_n 0, 1) := by decide +kernel
theorem dX11_passes_1 : decode cX11_passes 1 = .ok (.iload_n 1, 1) := by decide +kernel
theorem dX11_passes_2 : decode cX11_passes 2 = .ok (.invokevirtual 481, 3) := by decide +kernel
theorem dX11_passes_5 : decode cX11_passes 5 = .ok (.ifCond .eq 24, 3) := by decide +kernel
theorem dX11_passes_8 : decode cX11_passes 8 = .ok (.iload_n 2, 1) := by decide +kernel
theorem dX11_passes_9 : decode cX11_passes 9 = .ok (.i2l, 1) := by decide +kernel
theorem dX11_passes_10 : decode cX11_passes 10 = .ok (.lconst 1, 1) := by decide +kernel
theorem dX11_passes_11 : decode cX11_passes 11 = .ok (.ldc2_w 538, 3) := by decide +kernel
theorem dX11_passes_14 : decode cX11_passes 14 = .ok (.invokestatic 264, 3) := by decide +kernel
theorem dX11_passes_17 : decode cX11_passes 17 = .ok (.ifCond .eq 12, 3) := by decide +kernel
theorem dX11_passes_20 : decode cX11_passes 20 = .ok (.aload_n 0, 1) := by decide +kernel
theorem dX11_passes_21 : decode cX11_passes 21 = .ok (.getfield 145, 3) := by decide +kernel
theorem dX11_passes_24 : decode cX11_passes 24 = .ok (.iload_n 1, 1) := by decide +kernel
theorem dX11_passes_25 : decode cX11_passes 25 = .ok (.iaload, 1) := by decide +kernel
theorem dX11_passes_26 : decode cX11_passes 26 = .ok (.ifCond .ne 5, 3) := by decide +kernel
theorem dX11_passes_29 : decode cX11_passes 29 = .ok (.iconst (-1), 1) := by decide +kernel
theorem dX11_passes_30 : decode cX11_passes 30 = .ok (.ireturn, 1) := by decide +kernel
theorem dX11_passes_31 : decode cX11_passes 31 = .ok (.aload_n 0, 1) := by decide +kernel
theorem dX11_passes_32 : decode cX11_passes 32 = .ok (.getfield 106, 3) := by decide +kernel
theorem dX11_passes_35 : decode cX11_passes 35 = .ok (.bipush 10, 2) := by decide +kernel
theorem dX11_passes_37 : decode cX11_passes 37 = .ok (.aload_n 0, 1) := by decide +kernel
theorem dX11_passes_38 : decode cX11_passes 38 = .ok (.iload_n 1, 1) := by decide +kernel
theorem dX11_passes_39 : decode cX11_passes 39 = .ok (.invokevirtual 456, 3) := by decide +kernel
theorem dX11_passes_42 : decode cX11_passes 42 = .ok (.iadd, 1) := by decide +kernel
theorem dX11_passes_43 : decode cX11_passes 43 = .ok (.iaload, 1) := by decide +kernel
theorem dX11_passes_44 : decode cX11_passes 44 = .ok (.iload_n 2, 1) := by decide +kernel
theorem dX11_passes_45 : decode cX11_passes 45 = .ok (.if_icmp .ne 5, 3) := by decide +kernel
theorem dX11_passes_48 : decode cX11_passes 48 = .ok (.iconst 0, 1) := by decide +kernel
theorem dX11_passes_49 : decode cX11_passes 49 = .ok (.ireturn, 1) := by decide +kernel
theorem dX11_passes_50 : decode cX11_passes 50 = .ok (.bipush 24, 2) := by decide +kernel
theorem dX11_passes_52 : decode cX11_passes 52 = .ok (.iload_n 1, 1) := by decide +kernel
theorem dX11_passes_53 : decode cX11_passes 53 = .ok (.imul, 1) := by decide +kernel
theorem dX11_passes_54 : decode cX11_passes 54 = .ok (.istore_n 3, 1) := by decide +kernel
theorem dX11_passes_55 : decode cX11_passes 55 = .ok (.iload_n 3, 1) := by decide +kernel
theorem dX11_passes_56 : decode cX11_passes 56 = .ok (.bipush 24, 2) := by decide +kernel
theorem dX11_passes_58 : decode cX11_passes 58 = .ok (.iload_n 1, 1) := by decide +kernel
theorem dX11_passes_59 : decode cX11_passes 59 = .ok (.imul, 1) := by decide +kernel
theorem dX11_passes_60 : decode cX11_passes 60 = .ok (.aload_n 0, 1) := by decide +kernel
theorem dX11_passes_61 : decode cX11_passes 61 = .ok (.getfield 145, 3) := by decide +kernel
theorem dX11_passes_64 : decode cX11_passes 64 = .ok (.iload_n 1, 1) := by decide +kernel
theorem dX11_passes_65 : decode cX11_passes 65 = .ok (.iaload, 1) := by decide +kernel
theorem dX11_passes_66 : decode cX11_passes 66 = .ok (.iadd, 1) := by decide +kernel
theorem dX11_passes_67 : decode cX11_passes 67 = .ok (.if_icmp .ge 34, 3) := by decide +kernel
theorem dX11_passes_70 : decode cX11_passes 70 = .ok (.aload_n 0, 1) := by decide +kernel
theorem dX11_passes_71 : decode cX11_passes 71 = .ok (.getfield 106, 3) := by decide +kernel
theorem dX11_passes_74 : decode cX11_passes 74 = .ok (.bipush 10, 2) := by decide +kernel
theorem dX11_passes_76 : decode cX11_passes 76 = .ok (.aload_n 0, 1) := by decide +kernel
theorem dX11_passes_77 : decode cX11_passes 77 = .ok (.getfield 148, 3) := by decide +kernel
theorem dX11_passes_80 : decode cX11_passes 80 = .ok (.iload_n 3, 1) := by decide +kernel
theorem dX11_passes_81 : decode cX11_passes 81 = .ok (.iaload, 1) := by decide +kernel
theorem dX11_passes_82 : decode cX11_passes 82 = .ok (.iadd, 1) := by decide +kernel
theorem dX11_passes_83 : decode cX11_passes 83 = .ok (.iaload, 1) := by decide +kernel
theorem dX11_passes_84 : decode cX11_passes 84 = .ok (.iload_n 2, 1) := by decide +kernel
theorem dX11_passes_85 : decode cX11_passes 85 = .ok (.if_icmp .ne 10, 3) := by decide +kernel
theorem dX11_passes_88 : decode cX11_passes 88 = .ok (.aload_n 0, 1) := by decide +kernel
theorem dX11_passes_89 : decode cX11_passes 89 = .ok (.getfield 154, 3) := by decide +kernel
theorem dX11_passes_92 : decode cX11_passes 92 = .ok (.iload_n 3, 1) := by decide +kernel
theorem dX11_passes_93 : decode cX11_passes 93 = .ok (.iaload, 1) := by decide +kernel
theorem dX11_passes_94 : decode cX11_passes 94 = .ok (.ireturn, 1) := by decide +kernel
theorem dX11_passes_95 : decode cX11_passes 95 = .ok (.iinc 3 1, 3) := by decide +kernel
theorem dX11_passes_98 : decode cX11_passes 98 = .ok (.goto (-43), 3) := by decide +kernel
theorem dX11_passes_101 : decode cX11_passes 101 = .ok (.iconst (-1), 1) := by decide +kernel
theorem dX11_passes_102 : decode cX11_passes 102 = .ok (.ireturn, 1) := by decide +kernel
theorem dX11_petals_0 : decode cX11_petals 0 = .ok (.aload_n 0, 1) := by decide +kernel
theorem dX11_petals_1 : decode cX11_petals 1 = .ok (.iload_n 1, 1) := by decide +kernel
theorem dX11_petals_2 : decode cX11_petals 2 = .ok (.invokevirtual 473, 3) := by decide +kernel
theorem dX11_petals_5 : decode cX11_petals 5 = .ok (.ifCond .eq 15, 3) := by decide +kernel
theorem dX11_petals_8 : decode cX11_petals 8 = .ok (.iload_n 2, 1) := by decide +kernel
theorem dX11_petals_9 : decode cX11_petals 9 = .ok (.i2l, 1) := by decide +kernel
theorem dX11_petals_10 : decode cX11_petals 10 = .ok (.lconst 0, 1) := by decide +kernel
theorem dX11_petals_11 : decode cX11_petals 11 = .ok (.ldc2_w 521, 3) := by decide +kernel
theorem dX11_petals_14 : decode cX11_petals 14 = .ok (.invokestatic 264, 3) := by decide +kernel
theorem dX11_petals_17 : decode cX11_petals 17 = .ok (.ifCond .ne 5, 3) := by decide +kernel
theorem dX11_petals_20 : decode cX11_petals 20 = .ok (.iconst (-1), 1) := by decide +kernel
theorem dX11_petals_21 : decode cX11_petals 21 = .ok (.ireturn, 1) := by decide +kernel
theorem dX11_petals_22 : decode cX11_petals 22 = .ok (.iconst 0, 1) := by decide +kernel
theorem dX11_petals_23 : decode cX11_petals 23 = .ok (.istore_n 3, 1) := by decide +kernel
theorem dX11_petals_24 : decode cX11_petals 24 = .ok (.iconst 0, 1) := by decide +kernel
theorem dX11_petals_25 : decode cX11_petals 25 = .ok (.istore 4, 2) := by decide +kernel
theorem dX11_petals_27 : decode cX11_petals 27 = .ok (.iload 4, 2) := by decide +kernel
theorem dX11_petals_29 : decode cX11_petals 29 = .ok (.aload_n 0, 1) := by decide +kernel
theorem dX11_petals_30 : decode cX11_petals 30 = .ok (.invokevirtual 447, 3) := by decide +kernel
theorem dX11_petals_33 : decode cX11_petals 33 = .ok (.if_icmp .ge 27, 3) := by decide +kernel
theorem dX11_petals_36 : decode cX11_petals 36 = .ok (.aload_n 0, 1) := by decide +kernel
theorem dX11_petals_37 : decode cX11_petals 37 = .ok (.iload 4, 2) := by decide +kernel
theorem dX11_petals_39 : decode cX11_petals 39 = .ok (.iload_n 1, 1) := by decide +kernel
theorem dX11_petals_40 : decode cX11_petals 40 = .ok (.iload_n 2, 1) := by decide +kernel
theorem dX11_petals_41 : decode cX11_petals 41 = .ok (.invokevirtual 535, 3) := by decide +kernel
theorem dX11_petals_44 : decode cX11_petals 44 = .ok (.ifCond .eq 10, 3) := by decide +kernel
theorem dX11_petals_47 : decode cX11_petals 47 = .ok (.iload_n 3, 1) := by decide +kernel
theorem dX11_petals_48 : decode cX11_petals 48 = .ok (.iconst 1, 1) := by decide +kernel
theorem dX11_petals_49 : decode cX11_petals 49 = .ok (.iload 4, 2) := by decide +kernel
theorem dX11_petals_51 : decode cX11_petals 51 = .ok (.ishl, 1) := by decide +kernel
theorem dX11_petals_52 : decode cX11_petals 52 = .ok (.ior, 1) := by decide +kernel
theorem dX11_petals_53 : decode cX11_petals 53 = .ok (.istore_n 3, 1) := by decide +kernel
theorem dX11_petals_54 : decode cX11_petals 54 = .ok (.iinc 4 1, 3) := by decide +kernel
theorem dX11_petals_57 : decode cX11_petals 57 = .ok (.goto (-30), 3) := by decide +kernel
theorem dX11_petals_60 : decode cX11_petals 60 = .ok (.iload_n 3, 1) := by decide +kernel
theorem dX11_petals_61 : decode cX11_petals 61 = .ok (.ireturn, 1) := by decide +kernel
theorem dX11_petalsOf_0 : decode cX11_petalsOf 0 = .ok (.aload_n 0, 1) := by decide +kernel
theorem dX11_petalsOf_1 : decode cX11_petalsOf 1 = .ok (.getfield 112, 3) := by decide +kernel
theorem dX11_petalsOf_4 : decode cX11_petalsOf 4 = .ok (.bipush 16, 2) := by decide +kernel
theorem dX11_petalsOf_6 : decode cX11_petalsOf 6 = .ok (.iconst 4, 1) := by decide +kernel
theorem dX11_petalsOf_7 : decode cX11_petalsOf 7 = .ok (.iload_n 1, 1) := by decide +kernel
theorem dX11_petalsOf_8 : decode cX11_petalsOf 8 = .ok (.imul, 1) := by decide +kernel
theorem dX11_petalsOf_9 : decode cX11_petalsOf 9 = .ok (.iadd, 1) := by decide +kernel
theorem dX11_petalsOf_10 : decode cX11_petalsOf 10 = .ok (.iconst 3, 1) := by decide +kernel
theorem dX11_petalsOf_11 : decode cX11_petalsOf 11 = .ok (.iadd, 1) := by decide +kernel
theorem dX11_petalsOf_12 : decode cX11_petalsOf 12 = .ok (.iaload, 1) := by decide +kernel
theorem dX11_petalsOf_13 : decode cX11_petalsOf 13 = .ok (.ireturn, 1) := by decide +kernel
theorem dX11_pleased_0 : decode cX11_pleased 0 = .ok (.iconst 0, 1) := by decide +kernel
theorem dX11_pleased_1 : decode cX11_pleased 1 = .ok (.istore_n 1, 1) := by decide +kernel
theorem dX11_pleased_2 : decode cX11_pleased 2 = .ok (.iconst 0, 1) := by decide +kernel
theorem dX11_pleased_3 : decode cX11_pleased 3 = .ok (.istore_n 2, 1) := by decide +kernel
theorem dX11_pleased_4 : decode cX11_pleased 4 = .ok (.iload_n 2, 1) := by decide +kernel
theorem dX11_pleased_5 : decode cX11_pleased 5 = .ok (.aload_n 0, 1) := by decide +kernel
theorem dX11_pleased_6 : decode cX11_pleased 6 = .ok (.getfield 99, 3) := by decide +kernel
theorem dX11_pleased_9 : decode cX11_pleased 9 = .ok (.bipush 8, 2) := by decide +kernel
theorem dX11_pleased_11 : decode cX11_pleased 11 = .ok (.iaload, 1) := by decide +kernel
theorem dX11_pleased_12 : decode cX11_pleased 12 = .ok (.if_icmp .ge 33, 3) := by decide +kernel
theorem dX11_pleased_15 : decode cX11_pleased 15 = .ok (.aload_n 0, 1) := by decide +kernel
theorem dX11_pleased_16 : decode cX11_pleased 16 = .ok (.iload_n 2, 1) := by decide +kernel
theorem dX11_pleased_17 : decode cX11_pleased 17 = .ok (.invokevirtual 559, 3) := by decide +kernel
theorem dX11_pleased_20 : decode cX11_pleased 20 = .ok (.ifCond .eq 19, 3) := by decide +kernel
theorem dX11_pleased_23 : decode cX11_pleased 23 = .ok (.iload_n 1, 1) := by decide +kernel
theorem dX11_pleased_24 : decode cX11_pleased 24 = .ok (.aload_n 0, 1) := by decide +kernel
theorem dX11_pleased_25 : decode cX11_pleased 25 = .ok (.getfield 115, 3) := by decide +kernel
theorem dX11_pleased_28 : decode cX11_pleased 28 = .ok (.bipush 40, 2) := by decide +kernel
theorem dX11_pleased_30 : decode cX11_pleased 30 = .ok (.iconst 4, 1) := by decide +kernel
theorem dX11_pleased_31 : decode cX11_pleased 31 = .ok (.iload_n 2, 1) := by decide +kernel
theorem dX11_pleased_32 : decode cX11_pleased 32 = .ok (.imul, 1) := by decide +kernel
theorem dX11_pleased_33 : decode cX11_pleased 33 = .ok (.iadd, 1) := by decide +kernel
theorem dX11_pleased_34 : decode cX11_pleased 34 = .ok (.iconst 3, 1) := by decide +kernel
theorem dX11_pleased_35 : decode cX11_pleased 35 = .ok (.iadd, 1) := by decide +kernel
theorem dX11_pleased_36 : decode cX11_pleased 36 = .ok (.iaload, 1) := by decide +kernel
theorem dX11_pleased_37 : decode cX11_pleased 37 = .ok (.iadd, 1) := by decide +kernel
theorem dX11_pleased_38 : decode cX11_pleased 38 = .ok (.istore_n 1, 1) := by decide +kernel
theorem dX11_pleased_39 : decode cX11_pleased 39 = .ok (.iinc 2 1, 3) := by decide +kernel
theorem dX11_pleased_42 : decode cX11_pleased 42 = .ok (.goto (-38), 3) := by decide +kernel
theorem dX11_pleased_45 : decode cX11_pleased 45 = .ok (.iload_n 1, 1) := by decide +kernel
theorem dX11_pleased_46 : decode cX11_pleased 46 = .ok (.ireturn, 1) := by decide +kernel
theorem dX11_puts_0 : decode cX11_puts 0 = .ok (.aload_n 0, 1) := by decide +kernel
theorem dX11_puts_1 : decode cX11_puts 1 = .ok (.getfield 136, 3) := by decide +kernel
theorem dX11_puts_4 : decode cX11_puts 4 = .ok (.aload_n 0, 1) := by decide +kernel
theorem dX11_puts_5 : decode cX11_puts 5 = .ok (.getfield 416, 3) := by decide +kernel
theorem dX11_puts_8 : decode cX11_puts 8 = .ok (.lload_n 1, 1) := by decide +kernel
theorem dX11_puts_9 : decode cX11_puts 9 = .ok (.lastore, 1) := by decide +kernel
theorem dX11_puts_10 : decode cX11_puts 10 = .ok (.aload_n 0, 1) := by decide +kernel
theorem dX11_puts_11 : decode cX11_puts 11 = .ok (.dup, 1) := by decide +kernel
theorem dX11_puts_12 : decode cX11_puts 12 = .ok (.getfield 416, 3) := by decide +kernel
theorem dX11_puts_15 : decode cX11_puts 15 = .ok (.iconst 1, 1) := by decide +kernel
theorem dX11_puts_16 : decode cX11_puts 16 = .ok (.iadd, 1) := by decide +kernel
theorem dX11_puts_17 : decode cX11_puts 17 = .ok (.putfield 416, 3) := by decide +kernel
theorem dX11_puts_20 : decode cX11_puts 20 = .ok (.return_, 1) := by decide +kernel
theorem dX11_remembers_0 : decode cX11_remembers 0 = .ok (.iconst 0, 1) := by decide +kernel
theorem dX11_remembers_1 : decode cX11_remembers 1 = .ok (.istore_n 1, 1) := by decide +kernel
theorem dX11_remembers_2 : decode cX11_remembers 2 = .ok (.iload_n 1, 1) := by decide +kernel
theorem dX11_remembers_3 : decode cX11_remembers 3 = .ok (.iconst 4, 1) := by decide +kernel
theorem dX11_remembers_4 : decode cX11_remembers 4 = .ok (.if_icmp .ge 21, 3) := by decide +kernel
theorem dX11_remembers_7 : decode cX11_remembers 7 = .ok (.aload_n 0, 1) := by decide +kernel
theorem dX11_remembers_8 : decode cX11_remembers 8 = .ok (.getfield 175, 3) := by decide +kernel
theorem dX11_remembers_11 : decode cX11_remembers 11 = .ok (.iload_n 1, 1) := by decide +kernel
theorem dX11_remembers_12 : decode cX11_remembers 12 = .ok (.aload_n 0, 1) := by decide +kernel
theorem dX11_remembers_13 : decode cX11_remembers 13 = .ok (.getfield 145, 3) := by decide +kernel
theorem dX11_remembers_16 : decode cX11_remembers 16 = .ok (.iload_n 1, 1) := by decide +kernel
theorem dX11_remembers_17 : decode cX11_remembers 17 = .ok (.iaload, 1) := by decide +kernel
theorem dX11_remembers_18 : decode cX11_remembers 18 = .ok (.iastore, 1) := by decide +kernel
theorem dX11_remembers_19 : decode cX11_remembers 19 = .ok (.iinc 1 1, 3) := by decide +kernel
theorem dX11_remembers_22 : decode cX11_remembers 22 = .ok (.goto (-20), 3) := by decide +kernel
theorem dX11_remembers_25 : decode cX11_remembers 25 = .ok (.iconst 0, 1) := by decide +kernel
theorem dX11_remembers_26 : decode cX11_remembers 26 = .ok (.istore_n 1, 1) := by decide +kernel
theorem dX11_remembers_27 : decode cX11_remembers 27 = .ok (.iload_n 1, 1) := by decide +kernel
theorem dX11_remembers_28 : decode cX11_remembers 28 = .ok (.bipush 96, 2) := by decide +kernel
theorem dX11_remembers_30 : decode cX11_remembers 30 = .ok (.if_icmp .ge 45, 3) := by decide +kernel
theorem dX11_remembers_33 : decode cX11_remembers 33 = .ok (.aload_n 0, 1) := by decide +kernel
theorem dX11_remembers_34 : decode cX11_remembers 34 = .ok (.getfield 178, 3) := by decide +kernel
theorem dX11_remembers_37 : decode cX11_remembers 37 = .ok (.iload_n 1, 1) := by decide +kernel
theorem dX11_remembers_38 : decode cX11_remembers 38 = .ok (.aload_n 0, 1) := by decide +kernel
theorem dX11_remembers_39 : decode cX11_remembers 39 = .ok (.getfield 148, 3) := by decide +kernel
theorem dX11_remembers_42 : decode cX11_remembers 42 = .ok (.iload_n 1, 1) := by decide +kernel
theorem dX11_remembers_43 : decode cX11_remembers 43 = .ok (.iaload, 1) := by decide +kernel
theorem dX11_remembers_44 : decode cX11_remembers 44 = .ok (.iastore, 1) := by decide +kernel
theorem dX11_remembers_45 : decode cX11_remembers 45 = .ok (.aload_n 0, 1) := by decide +kernel
theorem dX11_remembers_46 : decode cX11_remembers 46 = .ok (.getfield 181, 3) := by decide +kernel
theorem dX11_remembers_49 : decode cX11_remembers 49 = .ok (.iload_n 1, 1) := by decide +kernel
theorem dX11_remembers_50 : decode cX11_remembers 50 = .ok (.aload_n 0, 1) := by decide +kernel
theorem dX11_remembers_51 : decode cX11_remembers 51 = .ok (.getfield 151, 3) := by decide +kernel
theorem dX11_remembers_54 : decode cX11_remembers 54 = .ok (.iload_n 1, 1) := by decide +kernel
theorem dX11_remembers_55 : decode cX11_remembers 55 = .ok (.iaload, 1) := by decide +kernel
theorem dX11_remembers_56 : decode cX11_remembers 56 = .ok (.iastore, 1) := by decide +kernel
theorem dX11_remembers_57 : decode cX11_remembers 57 = .ok (.aload_n 0, 1) := by decide +kernel
theorem dX11_remembers_58 : decode cX11_remembers 58 = .ok (.getfield 184, 3) := by decide +kernel
theorem dX11_remembers_61 : decode cX11_remembers 61 = .ok (.iload_n 1, 1) := by decide +kernel
theorem dX11_remembers_62 : decode cX11_remembers 62 = .ok (.aload_n 0, 1) := by decide +kernel
theorem dX11_remembers_63 : decode cX11_remembers 63 = .ok (.getfield 154, 3) := by decide +kernel
theorem dX11_remembers_66 : decode cX11_remembers 66 = .ok (.iload_n 1, 1) := by decide +kernel
theorem dX11_remembers_67 : decode cX11_remembers 67 = .ok (.iaload, 1) := by decide +kernel
theorem dX11_remembers_68 : decode cX11_remembers 68 = .ok (.iastore, 1) := by decide +kernel
theorem dX11_remembers_69 : decode cX11_remembers 69 = .ok (.iinc 1 1, 3) := by decide +kernel
theorem dX11_remembers_72 : decode cX11_remembers 72 = .ok (.goto (-45), 3) := by decide +kernel
theorem dX11_remembers_75 : decode cX11_remembers 75 = .ok (.return_, 1) := by decide +kernel
theorem dX11_rest_0 : decode cX11_rest 0 = .ok (.aload_n 0, 1) := by decide +kernel
theorem dX11_rest_1 : decode cX11_rest 1 = .ok (.iload_n 1, 1) := by decide +kernel
theorem dX11_rest_2 : decode cX11_rest 2 = .ok (.invokevirtual 481, 3) := by decide +kernel
theorem dX11_rest_5 : decode cX11_rest 5 = .ok (.ifCond .eq 24, 3) := by decide +kernel
theorem dX11_rest_8 : decode cX11_rest 8 = .ok (.iload_n 2, 1) := by decide +kernel
theorem dX11_rest_9 : decode cX11_rest 9 = .ok (.i2l, 1) := by decide +kernel
theorem dX11_rest_10 : decode cX11_rest 10 = .ok (.lconst 1, 1) := by decide +kernel
theorem dX11_rest_11 : decode cX11_rest 11 = .ok (.ldc2_w 516, 3) := by decide +kernel
theorem dX11_rest_14 : decode cX11_rest 14 = .ok (.invokestatic 264, 3) := by decide +kernel
theorem dX11_rest_17 : decode cX11_rest 17 = .ok (.ifCond .eq 12, 3) := by decide +kernel
theorem dX11_rest_20 : decode cX11_rest 20 = .ok (.aload_n 0, 1) := by decide +kernel
theorem dX11_rest_21 : decode cX11_rest 21 = .ok (.iload_n 1, 1) := by decide +kernel
theorem dX11_rest_22 : decode cX11_rest 22 = .ok (.iload_n 2, 1) := by decide +kernel
theorem dX11_rest_23 : decode cX11_rest 23 = .ok (.invokevirtual 505, 3) := by decide +kernel
theorem dX11_rest_26 : decode cX11_rest 26 = .ok (.ifCond .ne 5, 3) := by decide +kernel
theorem dX11_rest_29 : decode cX11_rest 29 = .ok (.iconst (-1), 1) := by decide +kernel
theorem dX11_rest_30 : decode cX11_rest 30 = .ok (.ireturn, 1) := by decide +kernel
theorem dX11_rest_31 : decode cX11_rest 31 = .ok (.aload_n 0, 1) := by decide +kernel
theorem dX11_rest_32 : decode cX11_rest 32 = .ok (.invokevirtual 509, 3) := by decide +kernel
theorem dX11_rest_35 : decode cX11_rest 35 = .ok (.aload_n 0, 1) := by decide +kernel
theorem dX11_rest_36 : decode cX11_rest 36 = .ok (.iload_n 1, 1) := by decide +kernel
theorem dX11_rest_37 : decode cX11_rest 37 = .ok (.aload_n 0, 1) := by decide +kernel
theorem dX11_rest_38 : decode cX11_rest 38 = .ok (.iload_n 1, 1) := by decide +kernel
theorem dX11_rest_39 : decode cX11_rest 39 = .ok (.invokevirtual 484, 3) := by decide +kernel
theorem dX11_rest_42 : decode cX11_rest 42 = .ok (.iconst (-1), 1) := by decide +kernel
theorem dX11_rest_43 : decode cX11_rest 43 = .ok (.iload_n 2, 1) := by decide +kernel
theorem dX11_rest_44 : decode cX11_rest 44 = .ok (.invokevirtual 512, 3) := by decide +kernel
theorem dX11_rest_47 : decode cX11_rest 47 = .ok (.aload_n 0, 1) := by decide +kernel
theorem dX11_rest_48 : decode cX11_rest 48 = .ok (.iload_n 1, 1) := by decide +kernel
theorem dX11_rest_49 : decode cX11_rest 49 = .ok (.invokevirtual 459, 3) := by decide +kernel
theorem dX11_rest_52 : decode cX11_rest 52 = .ok (.ireturn, 1) := by decide +kernel
theorem dX11_route_0 : decode cX11_route 0 = .ok (.aload_n 0, 1) := by decide +kernel
theorem dX11_route_1 : decode cX11_route 1 = .ok (.iload_n 1, 1) := by decide +kernel
theorem dX11_route_2 : decode cX11_route 2 = .ok (.invokevirtual 481, 3) := by decide +kernel
theorem dX11_route_5 : decode cX11_route 5 = .ok (.ifCond .ne 5, 3) := by decide +kernel
theorem dX11_route_8 : decode cX11_route 8 = .ok (.iconst (-1), 1) := by decide +kernel
theorem dX11_route_9 : decode cX11_route 9 = .ok (.ireturn, 1) := by decide +kernel
theorem dX11_route_10 : decode cX11_route 10 = .ok (.aload_n 0, 1) := by decide +kernel
theorem dX11_route_11 : decode cX11_route 11 = .ok (.iload_n 1, 1) := by decide +kernel
theorem dX11_route_12 : decode cX11_route 12 = .ok (.invokevirtual 601, 3) := by decide +kernel
theorem dX11_route_15 : decode cX11_route 15 = .ok (.iload_n 2, 1) := by decide +kernel
theorem dX11_route_16 : decode cX11_route 16 = .ok (.i2l, 1) := by decide +kernel
theorem dX11_route_17 : decode cX11_route 17 = .ok (.lconst 0, 1) := by decide +kernel
theorem dX11_route_18 : decode cX11_route 18 = .ok (.aload_n 0, 1) := by decide +kernel
theorem dX11_route_19 : decode cX11_route 19 = .ok (.getfield 187, 3) := by decide +kernel
theorem dX11_route_22 : decode cX11_route 22 = .ok (.iload_n 1, 1) := by decide +kernel
theorem dX11_route_23 : decode cX11_route 23 = .ok (.iaload, 1) := by decide +kernel
theorem dX11_route_24 : decode cX11_route 24 = .ok (.iconst 1, 1) := by decide +kernel
theorem dX11_route_25 : decode cX11_route 25 = .ok (.isub, 1) := by decide +kernel
theorem dX11_route_26 : decode cX11_route 26 = .ok (.i2l, 1) := by decide +kernel
theorem dX11_route_27 : decode cX11_route 27 = .ok (.invokestatic 264, 3) := by decide +kernel
theorem dX11_route_30 : decode cX11_route 30 = .ok (.ifCond .eq 42, 3) := by decide +kernel
theorem dX11_route_33 : decode cX11_route 33 = .ok (.iload_n 3, 1) := by decide +kernel
theorem dX11_route_34 : decode cX11_route 34 = .ok (.i2l, 1) := by decide +kernel
theorem dX11_route_35 : decode cX11_route 35 = .ok (.lconst 0, 1) := by decide +kernel
theorem dX11_route_36 : decode cX11_route 36 = .ok (.aload_n 0, 1) := by decide +kernel
theorem dX11_route_37 : decode cX11_route 37 = .ok (.invokevirtual 465, 3) := by decide +kernel
theorem dX11_route_40 : decode cX11_route 40 = .ok (.invokestatic 468, 3) := by decide +kernel
theorem dX11_route_43 : decode cX11_route 43 = .ok (.iconst 1, 1) := by decide +kernel
theorem dX11_route_44 : decode cX11_route 44 = .ok (.isub, 1) := by decide +kernel
theorem dX11_route_45 : decode cX11_route 45 = .ok (.i2l, 1) := by decide +kernel
theorem dX11_route_46 : decode cX11_route 46 = .ok (.invokestatic 264, 3) := by decide +kernel
theorem dX11_route_49 : decode cX11_route 49 = .ok (.ifCond .eq 23, 3) := by decide +kernel
theorem dX11_route_52 : decode cX11_route 52 = .ok (.aload_n 0, 1) := by decide +kernel
theorem dX11_route_53 : decode cX11_route 53 = .ok (.getfield 190, 3) := by decide +kernel
theorem dX11_route_56 : decode cX11_route 56 = .ok (.sipush 200, 3) := by decide +kernel
theorem dX11_route_59 : decode cX11_route 59 = .ok (.iload_n 1, 1) := by decide +kernel
theorem dX11_route_60 : decode cX11_route 60 = .ok (.imul, 1) := by decide +kernel
theorem dX11_route_61 : decode cX11_route 61 = .ok (.bipush 10, 2) := by decide +kernel
theorem dX11_route_63 : decode cX11_route 63 = .ok (.iload_n 2, 1) := by decide +kernel
theorem dX11_route_64 : decode cX11_route 64 = .ok (.imul, 1) := by decide +kernel
theorem dX11_route_65 : decode cX11_route 65 = .ok (.iadd, 1) := by decide +kernel
theorem dX11_route_66 : decode cX11_route 66 = .ok (.iload_n 3, 1) := by decide +kernel
theorem dX11_route_67 : decode cX11_route 67 = .ok (.iadd, 1) := by decide +kernel
theorem dX11_route_68 : decode cX11_route 68 = .ok (.iaload, 1) := by decide +kernel
theorem dX11_route_69 : decode cX11_route 69 = .ok (.goto 4, 3) := by decide +kernel
theorem dX11_route_72 : decode cX11_route 72 = .ok (.iconst (-1), 1) := by decide +kernel
theorem dX11_route_73 : decode cX11_route 73 = .ok (.ireturn, 1) := by decide +kernel
theorem dX11_routes_0 : decode cX11_routes 0 = .ok (.aload_n 0, 1) := by decide +kernel
theorem dX11_routes_1 : decode cX11_routes 1 = .ok (.iload_n 1, 1) := by decide +kernel
theorem dX11_routes_2 : decode cX11_routes 2 = .ok (.invokevirtual 481, 3) := by decide +kernel
theorem dX11_routes_5 : decode cX11_routes 5 = .ok (.ifCond .ne 5, 3) := by decide +kernel
theorem dX11_routes_8 : decode cX11_routes 8 = .ok (.iconst (-1), 1) := by decide +kernel
theorem dX11_routes_9 : decode cX11_routes 9 = .ok (.ireturn, 1) := by decide +kernel
theorem dX11_routes_10 : decode cX11_routes 10 = .ok (.aload_n 0, 1) := by decide +kernel
theorem dX11_routes_11 : decode cX11_routes 11 = .ok (.iload_n 1, 1) := by decide +kernel
theorem dX11_routes_12 : decode cX11_routes 12 = .ok (.invokevirtual 601, 3) := by decide +kernel
theorem dX11_routes_15 : decode cX11_routes 15 = .ok (.aload_n 0, 1) := by decide +kernel
theorem dX11_routes_16 : decode cX11_routes 16 = .ok (.getfield 187, 3) := by decide +kernel
theorem dX11_routes_19 : decode cX11_routes 19 = .ok (.iload_n 1, 1) := by decide +kernel
theorem dX11_routes_20 : decode cX11_routes 20 = .ok (.iaload, 1) := by decide +kernel
theorem dX11_routes_21 : decode cX11_routes 21 = .ok (.ireturn, 1) := by decide +kernel
theorem dX11_routesOf_0 : decode cX11_routesOf 0 = .ok (.aload_n 0, 1) := by decide +kernel
theorem dX11_routesOf_1 : decode cX11_routesOf 1 = .ok (.invokevirtual 465, 3) := by decide +kernel
theorem dX11_routesOf_4 : decode cX11_routesOf 4 = .ok (.invokestatic 468, 3) := by decide +kernel
theorem dX11_routesOf_7 : decode cX11_routesOf 7 = .ok (.istore_n 2, 1) := by decide +kernel
theorem dX11_routesOf_8 : decode cX11_routesOf 8 = .ok (.aload_n 0, 1) := by decide +kernel
theorem dX11_routesOf_9 : decode cX11_routesOf 9 = .ok (.getfield 187, 3) := by decide +kernel
theorem dX11_routesOf_12 : decode cX11_routesOf 12 = .ok (.iload_n 1, 1) := by decide +kernel
theorem dX11_routesOf_13 : decode cX11_routesOf 13 = .ok (.iconst 0, 1) := by decide +kernel
theorem dX11_routesOf_14 : decode cX11_routesOf 14 = .ok (.iastore, 1) := by decide +kernel
theorem dX11_routesOf_15 : decode cX11_routesOf 15 = .ok (.aload_n 0, 1) := by decide +kernel
theorem dX11_routesOf_16 : decode cX11_routesOf 16 = .ok (.getfield 193, 3) := by decide +kernel
theorem dX11_routesOf_19 : decode cX11_routesOf 19 = .ok (.iconst 0, 1) := by decide +kernel
theorem dX11_routesOf_20 : decode cX11_routesOf 20 = .ok (.aload_n 0, 1) := by decide +kernel
theorem dX11_routesOf_21 : decode cX11_routesOf 21 = .ok (.iload_n 1, 1) := by decide +kernel
theorem dX11_routesOf_22 : decode cX11_routesOf 22 = .ok (.invokevirtual 456, 3) := by decide +kernel
theorem dX11_routesOf_25 : decode cX11_routesOf 25 = .ok (.iastore, 1) := by decide +kernel
theorem dX11_routesOf_26 : decode cX11_routesOf 26 = .ok (.iconst 1, 1) := by decide +kernel
theorem dX11_routesOf_27 : decode cX11_routesOf 27 = .ok (.istore_n 3, 1) := by decide +kernel
theorem dX11_routesOf_28 : decode cX11_routesOf 28 = .ok (.iconst 0, 1) := by decide +kernel
theorem dX11_routesOf_29 : decode cX11_routesOf 29 = .ok (.istore 4, 2) := by decide +kernel
theorem dX11_routesOf_31 : decode cX11_routesOf 31 = .ok (.iload_n 3, 1) := by decide +kernel
theorem dX11_routesOf_32 : decode cX11_routesOf 32 = .ok (.ifCond .le 154, 3) := by decide +kernel
theorem dX11_routesOf_35 : decode cX11_routesOf 35 = .ok (.aload_n 0, 1) := by decide +kernel
theorem dX11_routesOf_36 : decode cX11_routesOf 36 = .ok (.getfield 187, 3) := by decide +kernel
theorem dX11_routesOf_39 : decode cX11_routesOf 39 = .ok (.iload_n 1, 1) := by decide +kernel
theorem dX11_routesOf_40 : decode cX11_routesOf 40 = .ok (.iaload, 1) := by decide +kernel
theorem dX11_routesOf_41 : decode cX11_routesOf 41 = .ok (.bipush 20, 2) := by decide +kernel
theorem dX11_routesOf_43 : decode cX11_routesOf 43 = .ok (.if_icmp .ge 143, 3) := by decide +kernel
theorem dX11_routesOf_46 : decode cX11_routesOf 46 = .ok (.iload_n 3, 1) := by decide +kernel
theorem dX11_routesOf_47 : decode cX11_routesOf 47 = .ok (.iload_n 2, 1) := by decide +kernel
theorem dX11_routesOf_48 : decode cX11_routesOf 48 = .ok (.if_icmp .ne 62, 3) := by decide +kernel
theorem dX11_routesOf_51 : decode cX11_routesOf 51 = .ok (.iconst 0, 1) := by decide +kernel
theorem dX11_routesOf_52 : decode cX11_routesOf 52 = .ok (.istore 5, 2) := by decide +kernel
theorem dX11_routesOf_54 : decode cX11_routesOf 54 = .ok (.iload 5, 2) := by decide +kernel
theorem dX11_routesOf_56 : decode cX11_routesOf 56 = .ok (.iload_n 2, 1) := by decide +kernel
theorem dX11_routesOf_57 : decode cX11_routesOf 57 = .ok (.if_icmp .ge 39, 3) := by decide +kernel
theorem dX11_routesOf_60 : decode cX11_routesOf 60 = .ok (.aload_n 0, 1) := by decide +kernel
theorem dX11_routesOf_61 : decode cX11_routesOf 61 = .ok (.getfield 190, 3) := by decide +kernel
theorem dX11_routesOf_64 : decode cX11_routesOf 64 = .ok (.sipush 200, 3) := by decide +kernel
theorem dX11_routesOf_67 : decode cX11_routesOf 67 = .ok (.iload_n 1, 1) := by decide +kernel
theorem dX11_routesOf_68 : decode cX11_routesOf 68 = .ok (.imul, 1) := by decide +kernel
theorem dX11_routesOf_69 : decode cX11_routesOf 69 = .ok (.bipush 10, 2) := by decide +kernel
theorem dX11_routesOf_71 : decode cX11_routesOf 71 = .ok (.aload_n 0, 1) := by decide +kernel
theorem dX11_routesOf_72 : decode cX11_routesOf 72 = .ok (.getfield 187, 3) := by decide +kernel
theorem dX11_routesOf_75 : decode cX11_routesOf 75 = .ok (.iload_n 1, 1) := by decide +kernel
theorem dX11_routesOf_76 : decode cX11_routesOf 76 = .ok (.iaload, 1) := by decide +kernel
theorem dX11_routesOf_77 : decode cX11_routesOf 77 = .ok (.imul, 1) := by decide +kernel
theorem dX11_routesOf_78 : decode cX11_routesOf 78 = .ok (.iadd, 1) := by decide +kernel
theorem dX11_routesOf_79 : decode cX11_routesOf 79 = .ok (.iload 5, 2) := by decide +kernel
theorem dX11_routesOf_81 : decode cX11_routesOf 81 = .ok (.iadd, 1) := by decide +kernel
theorem dX11_routesOf_82 : decode cX11_routesOf 82 = .ok (.aload_n 0, 1) := by decide +kernel
theorem dX11_routesOf_83 : decode cX11_routesOf 83 = .ok (.getfield 193, 3) := by decide +kernel
theorem dX11_routesOf_86 : decode cX11_routesOf 86 = .ok (.iload 5, 2) := by decide +kernel
theorem dX11_routesOf_88 : decode cX11_routesOf 88 = .ok (.iaload, 1) := by decide +kernel
theorem dX11_routesOf_89 : decode cX11_routesOf 89 = .ok (.iastore, 1) := by decide +kernel
theorem dX11_routesOf_90 : decode cX11_routesOf 90 = .ok (.iinc 5 1, 3) := by decide +kernel
theorem dX11_routesOf_93 : decode cX11_routesOf 93 = .ok (.goto (-39), 3) := by decide +kernel
theorem dX11_routesOf_96 : decode cX11_routesOf 96 = .ok (.aload_n 0, 1) := by decide +kernel
theorem dX11_routesOf_97 : decode cX11_routesOf 97 = .ok (.getfield 187, 3) := by decide +kernel
theorem dX11_routesOf_100 : decode cX11_routesOf 100 = .ok (.iload_n 1, 1) := by decide +kernel
theorem dX11_routesOf_101 : decode cX11_routesOf 101 = .ok (.dup2, 1) := by decide +kernel
theorem dX11_routesOf_102 : decode cX11_routesOf 102 = .ok (.iaload, 1) := by decide +kernel
theorem dX11_routesOf_103 : decode cX11_routesOf 103 = .ok (.iconst 1, 1) := by decide +kernel
theorem dX11_routesOf_104 : decode cX11_routesOf 104 = .ok (.iadd, 1) := by decide +kernel
theorem dX11_routesOf_105 : decode cX11_routesOf 105 = .ok (.iastore, 1) := by decide +kernel
theorem dX11_routesOf_106 : decode cX11_routesOf 106 = .ok (.bipush 10, 2) := by decide +kernel
theorem dX11_routesOf_108 : decode cX11_routesOf 108 = .ok (.istore 4, 2) := by decide +kernel
theorem dX11_routesOf_110 : decode cX11_routesOf 110 = .ok (.aload_n 0, 1) := by decide +kernel
theorem dX11_routesOf_111 : decode cX11_routesOf 111 = .ok (.iload_n 3, 1) := by decide +kernel
theorem dX11_routesOf_112 : decode cX11_routesOf 112 = .ok (.invokevirtual 595, 3) := by decide +kernel
theorem dX11_routesOf_115 : decode cX11_routesOf 115 = .ok (.istore 5, 2) := by decide +kernel
theorem dX11_routesOf_117 : decode cX11_routesOf 117 = .ok (.iload 4, 2) := by decide +kernel
theorem dX11_routesOf_119 : decode cX11_routesOf 119 = .ok (.aload_n 0, 1) := by decide +kernel
theorem dX11_routesOf_120 : decode cX11_routesOf 120 = .ok (.invokevirtual 444, 3) := by decide +kernel
theorem dX11_routesOf_123 : decode cX11_routesOf 123 = .ok (.if_icmp .ge 21, 3) := by decide +kernel
theorem dX11_routesOf_126 : decode cX11_routesOf 126 = .ok (.aload_n 0, 1) := by decide +kernel
theorem dX11_routesOf_127 : decode cX11_routesOf 127 = .ok (.iload_n 3, 1) := by decide +kernel
theorem dX11_routesOf_128 : decode cX11_routesOf 128 = .ok (.iload 4, 2) := by decide +kernel
theorem dX11_routesOf_130 : decode cX11_routesOf 130 = .ok (.iload 5, 2) := by decide +kernel
theorem dX11_routesOf_132 : decode cX11_routesOf 132 = .ok (.invokevirtual 598, 3) := by decide +kernel
theorem dX11_routesOf_135 : decode cX11_routesOf 135 = .ok (.ifCond .ne 9, 3) := by decide +kernel
theorem dX11_routesOf_138 : decode cX11_routesOf 138 = .ok (.iinc 4 1, 3) := by decide +kernel
theorem dX11_routesOf_141 : decode cX11_routesOf 141 = .ok (.goto (-24), 3) := by decide +kernel
theorem dX11_routesOf_144 : decode cX11_routesOf 144 = .ok (.iload 4, 2) := by decide +kernel
theorem dX11_routesOf_146 : decode cX11_routesOf 146 = .ok (.aload_n 0, 1) := by decide +kernel
theorem dX11_routesOf_147 : decode cX11_routesOf 147 = .ok (.invokevirtual 444, 3) := by decide +kernel
theorem dX11_routesOf_150 : decode cX11_routesOf 150 = .ok (.if_icmp .ge 20, 3) := by decide +kernel
theorem dX11_routesOf_153 : decode cX11_routesOf 153 = .ok (.aload_n 0, 1) := by decide +kernel
theorem dX11_routesOf_154 : decode cX11_routesOf 154 = .ok (.getfield 193, 3) := by decide +kernel
theorem dX11_routesOf_157 : decode cX11_routesOf 157 = .ok (.iload_n 3, 1) := by decide +kernel
theorem dX11_routesOf_158 : decode cX11_routesOf 158 = .ok (.iload 4, 2) := by decide +kernel
theorem dX11_routesOf_160 : decode cX11_routesOf 160 = .ok (.iastore, 1) := by decide +kernel
theorem dX11_routesOf_161 : decode cX11_routesOf 161 = .ok (.iinc 3 1, 3) := by decide +kernel
theorem dX11_routesOf_164 : decode cX11_routesOf 164 = .ok (.iconst 0, 1) := by decide +kernel
theorem dX11_routesOf_165 : decode cX11_routesOf 165 = .ok (.istore 4, 2) := by decide +kernel
theorem dX11_routesOf_167 : decode cX11_routesOf 167 = .ok (.goto 16, 3) := by decide +kernel
theorem dX11_routesOf_170 : decode cX11_routesOf 170 = .ok (.iinc 3 (-1), 3) := by decide +kernel
theorem dX11_routesOf_173 : decode cX11_routesOf 173 = .ok (.aload_n 0, 1) := by decide +kernel
theorem dX11_routesOf_174 : decode cX11_routesOf 174 = .ok (.getfield 193, 3) := by decide +kernel
theorem dX11_routesOf_177 : decode cX11_routesOf 177 = .ok (.iload_n 3, 1) := by decide +kernel
theorem dX11_routesOf_178 : decode cX11_routesOf 178 = .ok (.iaload, 1) := by decide +kernel
theorem dX11_routesOf_179 : decode cX11_routesOf 179 = .ok (.iconst 1, 1) := by decide +kernel
theorem dX11_routesOf_180 : decode cX11_routesOf 180 = .ok (.iadd, 1) := by decide +kernel
theorem dX11_routesOf_181 : decode cX11_routesOf 181 = .ok (.istore 4, 2) := by decide +kernel
theorem dX11_routesOf_183 : decode cX11_routesOf 183 = .ok (.goto (-152), 3) := by decide +kernel
theorem dX11_routesOf_186 : decode cX11_routesOf 186 = .ok (.return_, 1) := by decide +kernel
theorem dX11_saint_0 : decode cX11_saint 0 = .ok (.aload_n 0, 1) := by decide +kernel
theorem dX11_saint_1 : decode cX11_saint 1 = .ok (.iload_n 1, 1) := by decide +kernel
theorem dX11_saint_2 : decode cX11_saint 2 = .ok (.invokevirtual 481, 3) := by decide +kernel
theorem dX11_saint_5 : decode cX11_saint 5 = .ok (.ifCond .ne 5, 3) := by decide +kernel
theorem dX11_saint_8 : decode cX11_saint 8 = .ok (.iconst (-1), 1) := by decide +kernel
theorem dX11_saint_9 : decode cX11_saint 9 = .ok (.ireturn, 1) := by decide +kernel
theorem dX11_saint_10 : decode cX11_saint 10 = .ok (.iload_n 2, 1) := by decide +kernel
theorem dX11_saint_11 : decode cX11_saint 11 = .ok (.tableswitch 74 0 6 #[41, 41, 41, 41, 55, 62, 68], 41) := by decide +kernel
theorem dX11_saint_52 : decode cX11_saint 52 = .ok (.aload_n 0, 1) := by decide +kernel
theorem dX11_saint_53 : decode cX11_saint 53 = .ok (.getfield 112, 3) := by decide +kernel
theorem dX11_saint_56 : decode cX11_saint 56 = .ok (.bipush 16, 2) := by decide +kernel
theorem dX11_saint_58 : decode cX11_saint 58 = .ok (.iconst 4, 1) := by decide +kernel
theorem dX11_saint_59 : decode cX11_saint 59 = .ok (.iload_n 1, 1) := by decide +kernel
theorem dX11_saint_60 : decode cX11_saint 60 = .ok (.imul, 1) := by decide +kernel
theorem dX11_saint_61 : decode cX11_saint 61 = .ok (.iadd, 1) := by decide +kernel
theorem dX11_saint_62 : decode cX11_saint 62 = .ok (.iload_n 2, 1) := by decide +kernel
theorem dX11_saint_63 : decode cX11_saint 63 = .ok (.iadd, 1) := by decide +kernel
theorem dX11_saint_64 : decode cX11_saint 64 = .ok (.iaload, 1) := by decide +kernel
theorem dX11_saint_65 : decode cX11_saint 65 = .ok (.ireturn, 1) := by decide +kernel
theorem dX11_saint_66 : decode cX11_saint 66 = .ok (.aload_n 0, 1) := by decide +kernel
theorem dX11_saint_67 : decode cX11_saint 67 = .ok (.getfield 145, 3) := by decide +kernel
theorem dX11_saint_70 : decode cX11_saint 70 = .ok (.iload_n 1, 1) := by decide +kernel
theorem dX11_saint_71 : decode cX11_saint 71 = .ok (.iaload, 1) := by decide +kernel
theorem dX11_saint_72 : decode cX11_saint 72 = .ok (.ireturn, 1) := by decide +kernel
theorem dX11_saint_73 : decode cX11_saint 73 = .ok (.aload_n 0, 1) := by decide +kernel
theorem dX11_saint_74 : decode cX11_saint 74 = .ok (.iload_n 1, 1) := by decide +kernel
theorem dX11_saint_75 : decode cX11_saint 75 = .ok (.invokevirtual 459, 3) := by decide +kernel
theorem dX11_saint_78 : decode cX11_saint 78 = .ok (.ireturn, 1) := by decide +kernel
theorem dX11_saint_79 : decode cX11_saint 79 = .ok (.aload_n 0, 1) := by decide +kernel
theorem dX11_saint_80 : decode cX11_saint 80 = .ok (.iload_n 1, 1) := by decide +kernel
theorem dX11_saint_81 : decode cX11_saint 81 = .ok (.invokevirtual 484, 3) := by decide +kernel
theorem dX11_saint_84 : decode cX11_saint 84 = .ok (.ireturn, 1) := by decide +kernel
theorem dX11_saint_85 : decode cX11_saint 85 = .ok (.iconst (-1), 1) := by decide +kernel
theorem dX11_saint_86 : decode cX11_saint 86 = .ok (.ireturn, 1) := by decide +kernel
theorem dX11_saintMany_0 : decode cX11_saintMany 0 = .ok (.aload_n 0, 1) := by decide +kernel
theorem dX11_saintMany_1 : decode cX11_saintMany 1 = .ok (.getfield 99, 3) := by decide +kernel
theorem dX11_saintMany_4 : decode cX11_saintMany 4 = .ok (.bipush 6, 2) := by decide +kernel
theorem dX11_saintMany_6 : decode cX11_saintMany 6 = .ok (.iaload, 1) := by decide +kernel
theorem dX11_saintMany_7 : decode cX11_saintMany 7 = .ok (.ireturn, 1) := by decide +kernel
theorem dX11_saintOf_0 : decode cX11_saintOf 0 = .ok (.iload_n 0, 1) := by decide +kernel
theorem dX11_saintOf_1 : decode cX11_saintOf 1 = .ok (.iconst 4, 1) := by decide +kernel
theorem dX11_saintOf_2 : decode cX11_saintOf 2 = .ok (.if_icmp .ge 7, 3) := by decide +kernel
theorem dX11_saintOf_5 : decode cX11_saintOf 5 = .ok (.iload_n 0, 1) := by decide +kernel
theorem dX11_saintOf_6 : decode cX11_saintOf 6 = .ok (.goto 9, 3) := by decide +kernel
theorem dX11_saintOf_9 : decode cX11_saintOf 9 = .ok (.iload_n 0, 1) := by decide +kernel
theorem dX11_saintOf_10 : decode cX11_saintOf 10 = .ok (.iconst 4, 1) := by decide +kernel
theorem dX11_saintOf_11 : decode cX11_saintOf 11 = .ok (.isub, 1) := by decide +kernel
theorem dX11_saintOf_12 : decode cX11_saintOf 12 = .ok (.bipush 60, 2) := by decide +kernel
theorem dX11_saintOf_14 : decode cX11_saintOf 14 = .ok (.idiv, 1) := by decide +kernel
theorem dX11_saintOf_15 : decode cX11_saintOf 15 = .ok (.ireturn, 1) := by decide +kernel
theorem dX11_shut_0 : decode cX11_shut 0 = .ok (.aload_n 0, 1) := by decide +kernel
theorem dX11_shut_1 : decode cX11_shut 1 = .ok (.iload_n 1, 1) := by decide +kernel
theorem dX11_shut_2 : decode cX11_shut 2 = .ok (.invokevirtual 473, 3) := by decide +kernel
theorem dX11_shut_5 : decode cX11_shut 5 = .ok (.ifCond .eq 12, 3) := by decide +kernel
theorem dX11_shut_8 : decode cX11_shut 8 = .ok (.aload_n 0, 1) := by decide +kernel
theorem dX11_shut_9 : decode cX11_shut 9 = .ok (.iload_n 1, 1) := by decide +kernel
theorem dX11_shut_10 : decode cX11_shut 10 = .ok (.invokevirtual 499, 3) := by decide +kernel
theorem dX11_shut_13 : decode cX11_shut 13 = .ok (.iload_n 2, 1) := by decide +kernel
theorem dX11_shut_14 : decode cX11_shut 14 = .ok (.if_icmp .ne 5, 3) := by decide +kernel
theorem dX11_shut_17 : decode cX11_shut 17 = .ok (.iconst 0, 1) := by decide +kernel
theorem dX11_shut_18 : decode cX11_shut 18 = .ok (.ireturn, 1) := by decide +kernel
theorem dX11_shut_19 : decode cX11_shut 19 = .ok (.aload_n 0, 1) := by decide +kernel
theorem dX11_shut_20 : decode cX11_shut 20 = .ok (.invokevirtual 509, 3) := by decide +kernel
theorem dX11_shut_23 : decode cX11_shut 23 = .ok (.aload_n 0, 1) := by decide +kernel
theorem dX11_shut_24 : decode cX11_shut 24 = .ok (.iload_n 2, 1) := by decide +kernel
theorem dX11_shut_25 : decode cX11_shut 25 = .ok (.ifCond .eq 14, 3) := by decide +kernel
theorem dX11_shut_28 : decode cX11_shut 28 = .ok (.aload_n 0, 1) := by decide +kernel
theorem dX11_shut_29 : decode cX11_shut 29 = .ok (.getfield 358, 3) := by decide +kernel
theorem dX11_shut_32 : decode cX11_shut 32 = .ok (.iconst 1, 1) := by decide +kernel
theorem dX11_shut_33 : decode cX11_shut 33 = .ok (.iload_n 1, 1) := by decide +kernel
theorem dX11_shut_34 : decode cX11_shut 34 = .ok (.ishl, 1) := by decide +kernel
theorem dX11_shut_35 : decode cX11_shut 35 = .ok (.ior, 1) := by decide +kernel
theorem dX11_shut_36 : decode cX11_shut 36 = .ok (.goto 13, 3) := by decide +kernel
theorem dX11_shut_39 : decode cX11_shut 39 = .ok (.aload_n 0, 1) := by decide +kernel
theorem dX11_shut_40 : decode cX11_shut 40 = .ok (.getfield 358, 3) := by decide +kernel
theorem dX11_shut_43 : decode cX11_shut 43 = .ok (.iconst 1, 1) := by decide +kernel
theorem dX11_shut_44 : decode cX11_shut 44 = .ok (.iload_n 1, 1) := by decide +kernel
theorem dX11_shut_45 : decode cX11_shut 45 = .ok (.ishl, 1) := by decide +kernel
theorem dX11_shut_46 : decode cX11_shut 46 = .ok (.iconst (-1), 1) := by decide +kernel
theorem dX11_shut_47 : decode cX11_shut 47 = .ok (.ixor, 1) := by decide +kernel
theorem dX11_shut_48 : decode cX11_shut 48 = .ok (.iand, 1) := by decide +kernel
theorem dX11_shut_49 : decode cX11_shut 49 = .ok (.putfield 358, 3) := by decide +kernel
theorem dX11_shut_52 : decode cX11_shut 52 = .ok (.iconst 1, 1) := by decide +kernel
theorem dX11_shut_53 : decode cX11_shut 53 = .ok (.ireturn, 1) := by decide +kernel
theorem dX11_softer_0 : decode cX11_softer 0 = .ok (.iload_n 1, 1) := by decide +kernel
theorem dX11_softer_1 : decode cX11_softer 1 = .ok (.i2l, 1) := by decide +kernel
theorem dX11_softer_2 : decode cX11_softer 2 = .ok (.lconst 0, 1) := by decide +kernel
theorem dX11_softer_3 : decode cX11_softer 3 = .ok (.lconst 1, 1) := by decide +kernel
theorem dX11_softer_4 : decode cX11_softer 4 = .ok (.invokestatic 264, 3) := by decide +kernel
theorem dX11_softer_7 : decode cX11_softer 7 = .ok (.ifCond .ne 5, 3) := by decide +kernel
theorem dX11_softer_10 : decode cX11_softer 10 = .ok (.iconst (-1), 1) := by decide +kernel
theorem dX11_softer_11 : decode cX11_softer 11 = .ok (.ireturn, 1) := by decide +kernel
theorem dX11_softer_12 : decode cX11_softer 12 = .ok (.aload_n 0, 1) := by decide +kernel
theorem dX11_softer_13 : decode cX11_softer 13 = .ok (.getfield 361, 3) := by decide +kernel
theorem dX11_softer_16 : decode cX11_softer 16 = .ok (.istore_n 2, 1) := by decide +kernel
theorem dX11_softer_17 : decode cX11_softer 17 = .ok (.iconst (-1), 1) := by decide +kernel
theorem dX11_softer_18 : decode cX11_softer 18 = .ok (.istore_n 3, 1) := by decide +kernel
theorem dX11_softer_19 : decode cX11_softer 19 = .ok (.iconst 0, 1) := by decide +kernel
theorem dX11_softer_20 : decode cX11_softer 20 = .ok (.istore 4, 2) := by decide +kernel
theorem dX11_softer_22 : decode cX11_softer 22 = .ok (.iload 4, 2) := by decide +kernel
theorem dX11_softer_24 : decode cX11_softer 24 = .ok (.iconst 1, 1) := by decide +kernel
theorem dX11_softer_25 : decode cX11_softer 25 = .ok (.aload_n 0, 1) := by decide +kernel
theorem dX11_softer_26 : decode cX11_softer 26 = .ok (.invokevirtual 438, 3) := by decide +kernel
theorem dX11_softer_29 : decode cX11_softer 29 = .ok (.ishl, 1) := by decide +kernel
theorem dX11_softer_30 : decode cX11_softer 30 = .ok (.if_icmp .ge 44, 3) := by decide +kernel
theorem dX11_softer_33 : decode cX11_softer 33 = .ok (.aload_n 0, 1) := by decide +kernel
theorem dX11_softer_34 : decode cX11_softer 34 = .ok (.iload 4, 2) := by decide +kernel
theorem dX11_softer_36 : decode cX11_softer 36 = .ok (.putfield 361, 3) := by decide +kernel
theorem dX11_softer_39 : decode cX11_softer 39 = .ok (.iload_n 3, 1) := by decide +kernel
theorem dX11_softer_40 : decode cX11_softer 40 = .ok (.iconst (-1), 1) := by decide +kernel
theorem dX11_softer_41 : decode cX11_softer 41 = .ok (.if_icmp .eq 17, 3) := by decide +kernel
theorem dX11_softer_44 : decode cX11_softer 44 = .ok (.aload_n 0, 1) := by decide +kernel
theorem dX11_softer_45 : decode cX11_softer 45 = .ok (.iload 4, 2) := by decide +kernel
theorem dX11_softer_47 : decode cX11_softer 47 = .ok (.invokevirtual 583, 3) := by decide +kernel
theorem dX11_softer_50 : decode cX11_softer 50 = .ok (.aload_n 0, 1) := by decide +kernel
theorem dX11_softer_51 : decode cX11_softer 51 = .ok (.iload_n 3, 1) := by decide +kernel
theorem dX11_softer_52 : decode cX11_softer 52 = .ok (.invokevirtual 583, 3) := by decide +kernel
theorem dX11_softer_55 : decode cX11_softer 55 = .ok (.if_icmp .ge 13, 3) := by decide +kernel
theorem dX11_softer_58 : decode cX11_softer 58 = .ok (.aload_n 0, 1) := by decide +kernel
theorem dX11_softer_59 : decode cX11_softer 59 = .ok (.invokevirtual 586, 3) := by decide +kernel
theorem dX11_softer_62 : decode cX11_softer 62 = .ok (.ifCond .eq 6, 3) := by decide +kernel
theorem dX11_softer_65 : decode cX11_softer 65 = .ok (.iload 4, 2) := by decide +kernel
theorem dX11_softer_67 : decode cX11_softer 67 = .ok (.istore_n 3, 1) := by decide +kernel
theorem dX11_softer_68 : decode cX11_softer 68 = .ok (.iinc 4 1, 3) := by decide +kernel
theorem dX11_softer_71 : decode cX11_softer 71 = .ok (.goto (-49), 3) := by decide +kernel
theorem dX11_softer_74 : decode cX11_softer 74 = .ok (.aload_n 0, 1) := by decide +kernel
theorem dX11_softer_75 : decode cX11_softer 75 = .ok (.iload_n 2, 1) := by decide +kernel
theorem dX11_softer_76 : decode cX11_softer 76 = .ok (.putfield 361, 3) := by decide +kernel
theorem dX11_softer_79 : decode cX11_softer 79 = .ok (.iload_n 3, 1) := by decide +kernel
theorem dX11_softer_80 : decode cX11_softer 80 = .ok (.iconst (-1), 1) := by decide +kernel
theorem dX11_softer_81 : decode cX11_softer 81 = .ok (.if_icmp .ne 7, 3) := by decide +kernel
theorem dX11_softer_84 : decode cX11_softer 84 = .ok (.iconst (-1), 1) := by decide +kernel
theorem dX11_softer_85 : decode cX11_softer 85 = .ok (.goto 16, 3) := by decide +kernel
theorem dX11_softer_88 : decode cX11_softer 88 = .ok (.iload_n 1, 1) := by decide +kernel
theorem dX11_softer_89 : decode cX11_softer 89 = .ok (.ifCond .ne 7, 3) := by decide +kernel
theorem dX11_softer_92 : decode cX11_softer 92 = .ok (.iload_n 3, 1) := by decide +kernel
theorem dX11_softer_93 : decode cX11_softer 93 = .ok (.goto 8, 3) := by decide +kernel
theorem dX11_softer_96 : decode cX11_softer 96 = .ok (.aload_n 0, 1) := by decide +kernel
theorem dX11_softer_97 : decode cX11_softer 97 = .ok (.iload_n 3, 1) := by decide +kernel
theorem dX11_softer_98 : decode cX11_softer 98 = .ok (.invokevirtual 583, 3) := by decide +kernel
theorem dX11_softer_101 : decode cX11_softer 101 = .ok (.ireturn, 1) := by decide +kernel
theorem dX11_sound_0 : decode cX11_sound 0 = .ok (.aload_n 0, 1) := by decide +kernel
theorem dX11_sound_1 : decode cX11_sound 1 = .ok (.iload_n 1, 1) := by decide +kernel
theorem dX11_sound_2 : decode cX11_sound 2 = .ok (.invokevirtual 478, 3) := by decide +kernel
theorem dX11_sound_5 : decode cX11_sound 5 = .ok (.ifCond .eq 48, 3) := by decide +kernel
theorem dX11_sound_8 : decode cX11_sound 8 = .ok (.aload_n 0, 1) := by decide +kernel
theorem dX11_sound_9 : decode cX11_sound 9 = .ok (.iload_n 2, 1) := by decide +kernel
theorem dX11_sound_10 : decode cX11_sound 10 = .ok (.invokevirtual 478, 3) := by decide +kernel
theorem dX11_sound_13 : decode cX11_sound 13 = .ok (.ifCond .eq 40, 3) := by decide +kernel
theorem dX11_sound_16 : decode cX11_sound 16 = .ok (.aload_n 0, 1) := by decide +kernel
theorem dX11_sound_17 : decode cX11_sound 17 = .ok (.getfield 142, 3) := by decide +kernel
theorem dX11_sound_20 : decode cX11_sound 20 = .ok (.bipush 10, 2) := by decide +kernel
theorem dX11_sound_22 : decode cX11_sound 22 = .ok (.iload_n 1, 1) := by decide +kernel
theorem dX11_sound_23 : decode cX11_sound 23 = .ok (.imul, 1) := by decide +kernel
theorem dX11_sound_24 : decode cX11_sound 24 = .ok (.iload_n 2, 1) := by decide +kernel
theorem dX11_sound_25 : decode cX11_sound 25 = .ok (.iadd, 1) := by decide +kernel
theorem dX11_sound_26 : decode cX11_sound 26 = .ok (.iaload, 1) := by decide +kernel
theorem dX11_sound_27 : decode cX11_sound 27 = .ok (.sipush 999, 3) := by decide +kernel
theorem dX11_sound_30 : decode cX11_sound 30 = .ok (.if_icmp .ge 17, 3) := by decide +kernel
theorem dX11_sound_33 : decode cX11_sound 33 = .ok (.aload_n 0, 1) := by decide +kernel
theorem dX11_sound_34 : decode cX11_sound 34 = .ok (.getfield 142, 3) := by decide +kernel
theorem dX11_sound_37 : decode cX11_sound 37 = .ok (.bipush 10, 2) := by decide +kernel
theorem dX11_sound_39 : decode cX11_sound 39 = .ok (.iload_n 1, 1) := by decide +kernel
theorem dX11_sound_40 : decode cX11_sound 40 = .ok (.imul, 1) := by decide +kernel
theorem dX11_sound_41 : decode cX11_sound 41 = .ok (.iload_n 2, 1) := by decide +kernel
theorem dX11_sound_42 : decode cX11_sound 42 = .ok (.iadd, 1) := by decide +kernel
theorem dX11_sound_43 : decode cX11_sound 43 = .ok (.iaload, 1) := by decide +kernel
theorem dX11_sound_44 : decode cX11_sound 44 = .ok (.goto 10, 3) := by decide +kernel
theorem dX11_sound_47 : decode cX11_sound 47 = .ok (.sipush 999, 3) := by decide +kernel
theorem dX11_sound_50 : decode cX11_sound 50 = .ok (.goto 4, 3) := by decide +kernel
theorem dX11_sound_53 : decode cX11_sound 53 = .ok (.iconst (-1), 1) := by decide +kernel
theorem dX11_sound_54 : decode cX11_sound 54 = .ok (.ireturn, 1) := by decide +kernel
theorem dX11_sounds_0 : decode cX11_sounds 0 = .ok (.iconst 0, 1) := by decide +kernel
theorem dX11_sounds_1 : decode cX11_sounds 1 = .ok (.istore_n 1, 1) := by decide +kernel
theorem dX11_sounds_2 : decode cX11_sounds 2 = .ok (.iload_n 1, 1) := by decide +kernel
theorem dX11_sounds_3 : decode cX11_sounds 3 = .ok (.bipush 10, 2) := by decide +kernel
theorem dX11_sounds_5 : decode cX11_sounds 5 = .ok (.if_icmp .ge 46, 3) := by decide +kernel
theorem dX11_sounds_8 : decode cX11_sounds 8 = .ok (.iconst 0, 1) := by decide +kernel
theorem dX11_sounds_9 : decode cX11_sounds 9 = .ok (.istore_n 2, 1) := by decide +kernel
theorem dX11_sounds_10 : decode cX11_sounds 10 = .ok (.iload_n 2, 1) := by decide +kernel
theorem dX11_sounds_11 : decode cX11_sounds 11 = .ok (.bipush 10, 2) := by decide +kernel
theorem dX11_sounds_13 : decode cX11_sounds 13 = .ok (.if_icmp .ge 32, 3) := by decide +kernel
theorem dX11_sounds_16 : decode cX11_sounds 16 = .ok (.aload_n 0, 1) := by decide +kernel
theorem dX11_sounds_17 : decode cX11_sounds 17 = .ok (.getfield 142, 3) := by decide +kernel
theorem dX11_sounds_20 : decode cX11_sounds 20 = .ok (.bipush 10, 2) := by decide +kernel
theorem dX11_sounds_22 : decode cX11_sounds 22 = .ok (.iload_n 1, 1) := by decide +kernel
theorem dX11_sounds_23 : decode cX11_sounds 23 = .ok (.imul, 1) := by decide +kernel
theorem dX11_sounds_24 : decode cX11_sounds 24 = .ok (.iload_n 2, 1) := by decide +kernel
theorem dX11_sounds_25 : decode cX11_sounds 25 = .ok (.iadd, 1) := by decide +kernel
theorem dX11_sounds_26 : decode cX11_sounds 26 = .ok (.iload_n 1, 1) := by decide +kernel
theorem dX11_sounds_27 : decode cX11_sounds 27 = .ok (.iload_n 2, 1) := by decide +kernel
theorem dX11_sounds_28 : decode cX11_sounds 28 = .ok (.if_icmp .ne 7, 3) := by decide +kernel
theorem dX11_sounds_31 : decode cX11_sounds 31 = .ok (.iconst 0, 1) := by decide +kernel
theorem dX11_sounds_32 : decode cX11_sounds 32 = .ok (.goto 6, 3) := by decide +kernel
theorem dX11_sounds_35 : decode cX11_sounds 35 = .ok (.sipush 999, 3) := by decide +kernel
theorem dX11_sounds_38 : decode cX11_sounds 38 = .ok (.iastore, 1) := by decide +kernel
theorem dX11_sounds_39 : decode cX11_sounds 39 = .ok (.iinc 2 1, 3) := by decide +kernel
theorem dX11_sounds_42 : decode cX11_sounds 42 = .ok (.goto (-32), 3) := by decide +kernel
theorem dX11_sounds_45 : decode cX11_sounds 45 = .ok (.iinc 1 1, 3) := by decide +kernel
theorem dX11_sounds_48 : decode cX11_sounds 48 = .ok (.goto (-46), 3) := by decide +kernel
theorem dX11_sounds_51 : decode cX11_sounds 51 = .ok (.iconst 0, 1) := by decide +kernel
theorem dX11_sounds_52 : decode cX11_sounds 52 = .ok (.istore_n 1, 1) := by decide +kernel
theorem dX11_sounds_53 : decode cX11_sounds 53 = .ok (.iload_n 1, 1) := by decide +kernel
theorem dX11_sounds_54 : decode cX11_sounds 54 = .ok (.aload_n 0, 1) := by decide +kernel
theorem dX11_sounds_55 : decode cX11_sounds 55 = .ok (.invokevirtual 450, 3) := by decide +kernel
theorem dX11_sounds_58 : decode cX11_sounds 58 = .ok (.if_icmp .ge 78, 3) := by decide +kernel
theorem dX11_sounds_61 : decode cX11_sounds 61 = .ok (.bipush 64, 2) := by decide +kernel
theorem dX11_sounds_63 : decode cX11_sounds 63 = .ok (.iconst 4, 1) := by decide +kernel
theorem dX11_sounds_64 : decode cX11_sounds 64 = .ok (.iload_n 1, 1) := by decide +kernel
theorem dX11_sounds_65 : decode cX11_sounds 65 = .ok (.imul, 1) := by decide +kernel
theorem dX11_sounds_66 : decode cX11_sounds 66 = .ok (.iadd, 1) := by decide +kernel
theorem dX11_sounds_67 : decode cX11_sounds 67 = .ok (.istore_n 2, 1) := by decide +kernel
theorem dX11_sounds_68 : decode cX11_sounds 68 = .ok (.aload_n 0, 1) := by decide +kernel
theorem dX11_sounds_69 : decode cX11_sounds 69 = .ok (.getfield 142, 3) := by decide +kernel
theorem dX11_sounds_72 : decode cX11_sounds 72 = .ok (.bipush 10, 2) := by decide +kernel
theorem dX11_sounds_74 : decode cX11_sounds 74 = .ok (.aload_n 0, 1) := by decide +kernel
theorem dX11_sounds_75 : decode cX11_sounds 75 = .ok (.getfield 109, 3) := by decide +kernel
theorem dX11_sounds_78 : decode cX11_sounds 78 = .ok (.iload_n 2, 1) := by decide +kernel
theorem dX11_sounds_79 : decode cX11_sounds 79 = .ok (.iaload, 1) := by decide +kernel
theorem dX11_sounds_80 : decode cX11_sounds 80 = .ok (.imul, 1) := by decide +kernel
theorem dX11_sounds_81 : decode cX11_sounds 81 = .ok (.aload_n 0, 1) := by decide +kernel
theorem dX11_sounds_82 : decode cX11_sounds 82 = .ok (.getfield 109, 3) := by decide +kernel
theorem dX11_sounds_85 : decode cX11_sounds 85 = .ok (.iload_n 2, 1) := by decide +kernel
theorem dX11_sounds_86 : decode cX11_sounds 86 = .ok (.iconst 1, 1) := by decide +kernel
theorem dX11_sounds_87 : decode cX11_sounds 87 = .ok (.iadd, 1) := by decide +kernel
theorem dX11_sounds_88 : decode cX11_sounds 88 = .ok (.iaload, 1) := by decide +kernel
theorem dX11_sounds_89 : decode cX11_sounds 89 = .ok (.iadd, 1) := by decide +kernel
theorem dX11_sounds_90 : decode cX11_sounds 90 = .ok (.aload_n 0, 1) := by decide +kernel
theorem dX11_sounds_91 : decode cX11_sounds 91 = .ok (.getfield 109, 3) := by decide +kernel
theorem dX11_sounds_94 : decode cX11_sounds 94 = .ok (.iload_n 2, 1) := by decide +kernel
theorem dX11_sounds_95 : decode cX11_sounds 95 = .ok (.iconst 3, 1) := by decide +kernel
theorem dX11_sounds_96 : decode cX11_sounds 96 = .ok (.iadd, 1) := by decide +kernel
theorem dX11_sounds_97 : decode cX11_sounds 97 = .ok (.iaload, 1) := by decide +kernel
theorem dX11_sounds_98 : decode cX11_sounds 98 = .ok (.iastore, 1) := by decide +kernel
theorem dX11_sounds_99 : decode cX11_sounds 99 = .ok (.aload_n 0, 1) := by decide +kernel
theorem dX11_sounds_100 : decode cX11_sounds 100 = .ok (.getfield 142, 3) := by decide +kernel
theorem dX11_sounds_103 : decode cX11_sounds 103 = .ok (.bipush 10, 2) := by decide +kernel
theorem dX11_sounds_105 : decode cX11_sounds 105 = .ok (.aload_n 0, 1) := by decide +kernel
theorem dX11_sounds_106 : decode cX11_sounds 106 = .ok (.getfield 109, 3) := by decide +kernel
theorem dX11_sounds_109 : decode cX11_sounds 109 = .ok (.iload_n 2, 1) := by decide +kernel
theorem dX11_sounds_110 : decode cX11_sounds 110 = .ok (.iconst 1, 1) := by decide +kernel
theorem dX11_sounds_111 : decode cX11_sounds 111 = .ok (.iadd, 1) := by decide +kernel
theorem dX11_sounds_112 : decode cX11_sounds 112 = .ok (.iaload, 1) := by decide +kernel
theorem dX11_sounds_113 : decode cX11_sounds 113 = .ok (.imul, 1) := by decide +kernel
theorem dX11_sounds_114 : decode cX11_sounds 114 = .ok (.aload_n 0, 1) := by decide +kernel
theorem dX11_sounds_115 : decode cX11_sounds 115 = .ok (.getfield 109, 3) := by decide +kernel
theorem dX11_sounds_118 : decode cX11_sounds 118 = .ok (.iload_n 2, 1) := by decide +kernel
theorem dX11_sounds_119 : decode cX11_sounds 119 = .ok (.iaload, 1) := by decide +kernel
theorem dX11_sounds_120 : decode cX11_sounds 120 = .ok (.iadd, 1) := by decide +kernel
theorem dX11_sounds_121 : decode cX11_sounds 121 = .ok (.aload_n 0, 1) := by decide +kernel
theorem dX11_sounds_122 : decode cX11_sounds 122 = .ok (.getfield 109, 3) := by decide +kernel
theorem dX11_sounds_125 : decode cX11_sounds 125 = .ok (.iload_n 2, 1) := by decide +kernel
theorem dX11_sounds_126 : decode cX11_sounds 126 = .ok (.iconst 3, 1) := by decide +kernel
theorem dX11_sounds_127 : decode cX11_sounds 127 = .ok (.iadd, 1) := by decide +kernel
theorem dX11_sounds_128 : decode cX11_sounds 128 = .ok (.iaload, 1) := by decide +kernel
theorem dX11_sounds_129 : decode cX11_sounds 129 = .ok (.iastore, 1) := by decide +kernel
theorem dX11_sounds_130 : decode cX11_sounds 130 = .ok (.iinc 1 1, 3) := by decide +kernel
theorem dX11_sounds_133 : decode cX11_sounds 133 = .ok (.goto (-80), 3) := by decide +kernel
theorem dX11_sounds_136 : decode cX11_sounds 136 = .ok (.iconst 0, 1) := by decide +kernel
theorem dX11_sounds_137 : decode cX11_sounds 137 = .ok (.istore_n 1, 1) := by decide +kernel
theorem dX11_sounds_138 : decode cX11_sounds 138 = .ok (.iload_n 1, 1) := by decide +kernel
theorem dX11_sounds_139 : decode cX11_sounds 139 = .ok (.bipush 10, 2) := by decide +kernel
theorem dX11_sounds_141 : decode cX11_sounds 141 = .ok (.if_icmp .ge 91, 3) := by decide +kernel
theorem dX11_sounds_144 : decode cX11_sounds 144 = .ok (.iconst 0, 1) := by decide +kernel
theorem dX11_sounds_145 : decode cX11_sounds 145 = .ok (.istore_n 2, 1) := by decide +kernel
theorem dX11_sounds_146 : decode cX11_sounds 146 = .ok (.iload_n 2, 1) := by decide +kernel
theorem dX11_sounds_147 : decode cX11_sounds 147 = .ok (.bipush 10, 2) := by decide +kernel
theorem dX11_sounds_149 : decode cX11_sounds 149 = .ok (.if_icmp .ge 77, 3) := by decide +kernel
theorem dX11_sounds_152 : decode cX11_sounds 152 = .ok (.iconst 0, 1) := by decide +kernel
theorem dX11_sounds_153 : decode cX11_sounds 153 = .ok (.istore_n 3, 1) := by decide +kernel
theorem dX11_sounds_154 : decode cX11_sounds 154 = .ok (.iload_n 3, 1) := by decide +kernel
theorem dX11_sounds_155 : decode cX11_sounds 155 = .ok (.bipush 10, 2) := by decide +kernel
theorem dX11_sounds_157 : decode cX11_sounds 157 = .ok (.if_icmp .ge 63, 3) := by decide +kernel
theorem dX11_sounds_160 : decode cX11_sounds 160 = .ok (.aload_n 0, 1) := by decide +kernel
theorem dX11_sounds_161 : decode cX11_sounds 161 = .ok (.getfield 142, 3) := by decide +kernel
theorem dX11_sounds_164 : decode cX11_sounds 164 = .ok (.bipush 10, 2) := by decide +kernel
theorem dX11_sounds_166 : decode cX11_sounds 166 = .ok (.iload_n 2, 1) := by decide +kernel
theorem dX11_sounds_167 : decode cX11_sounds 167 = .ok (.imul, 1) := by decide +kernel
theorem dX11_sounds_168 : decode cX11_sounds 168 = .ok (.iload_n 1, 1) := by decide +kernel
theorem dX11_sounds_169 : decode cX11_sounds 169 = .ok (.iadd, 1) := by decide +kernel
theorem dX11_sounds_170 : decode cX11_sounds 170 = .ok (.iaload, 1) := by decide +kernel
theorem dX11_sounds_171 : decode cX11_sounds 171 = .ok (.aload_n 0, 1) := by decide +kernel
theorem dX11_sounds_172 : decode cX11_sounds 172 = .ok (.getfield 142, 3) := by decide +kernel
theorem dX11_sounds_175 : decode cX11_sounds 175 = .ok (.bipush 10, 2) := by decide +kernel
theorem dX11_sounds_177 : decode cX11_sounds 177 = .ok (.iload_n 1, 1) := by decide +kernel
theorem dX11_sounds_178 : decode cX11_sounds 178 = .ok (.imul, 1) := by decide +kernel
theorem dX11_sounds_179 : decode cX11_sounds 179 = .ok (.iload_n 3, 1) := by decide +kernel
theorem dX11_sounds_180 : decode cX11_sounds 180 = .ok (.iadd, 1) := by decide +kernel
theorem dX11_sounds_181 : decode cX11_sounds 181 = .ok (.iaload, 1) := by decide +kernel
theorem dX11_sounds_182 : decode cX11_sounds 182 = .ok (.iadd, 1) := by decide +kernel
theorem dX11_sounds_183 : decode cX11_sounds 183 = .ok (.istore 4, 2) := by decide +kernel
theorem dX11_sounds_185 : decode cX11_sounds 185 = .ok (.iload 4, 2) := by decide +kernel
theorem dX11_sounds_187 : decode cX11_sounds 187 = .ok (.aload_n 0, 1) := by decide +kernel
theorem dX11_sounds_188 : decode cX11_sounds 188 = .ok (.getfield 142, 3) := by decide +kernel
theorem dX11_sounds_191 : decode cX11_sounds 191 = .ok (.bipush 10, 2) := by decide +kernel
theorem dX11_sounds_193 : decode cX11_sounds 193 = .ok (.iload_n 2, 1) := by decide +kernel
theorem dX11_sounds_194 : decode cX11_sounds 194 = .ok (.imul, 1) := by decide +kernel
theorem dX11_sounds_195 : decode cX11_sounds 195 = .ok (.iload_n 3, 1) := by decide +kernel
theorem dX11_sounds_196 : decode cX11_sounds 196 = .ok (.iadd, 1) := by decide +kernel
theorem dX11_sounds_197 : decode cX11_sounds 197 = .ok (.iaload, 1) := by decide +kernel
theorem dX11_sounds_198 : decode cX11_sounds 198 = .ok (.if_icmp .ge 16, 3) := by decide +kernel
theorem dX11_sounds_201 : decode cX11_sounds 201 = .ok (.aload_n 0, 1) := by decide +kernel
theorem dX11_sounds_202 : decode cX11_sounds 202 = .ok (.getfield 142, 3) := by decide +kernel
theorem dX11_sounds_205 : decode cX11_sounds 205 = .ok (.bipush 10, 2) := by decide +kernel
theorem dX11_sounds_207 : decode cX11_sounds 207 = .ok (.iload_n 2, 1) := by decide +kernel
theorem dX11_sounds_208 : decode cX11_sounds 208 = .ok (.imul, 1) := by decide +kernel
theorem dX11_sounds_209 : decode cX11_sounds 209 = .ok (.iload_n 3, 1) := by decide +kernel
theorem dX11_sounds_210 : decode cX11_sounds 210 = .ok (.iadd, 1) := by decide +kernel
theorem dX11_sounds_211 : decode cX11_sounds 211 = .ok (.iload 4, 2) := by decide +kernel
theorem dX11_sounds_213 : decode cX11_sounds 213 = .ok (.iastore, 1) := by decide +kernel
theorem dX11_sounds_214 : decode cX11_sounds 214 = .ok (.iinc 3 1, 3) := by decide +kernel
theorem dX11_sounds_217 : decode cX11_sounds 217 = .ok (.goto (-63), 3) := by decide +kernel
theorem dX11_sounds_220 : decode cX11_sounds 220 = .ok (.iinc 2 1, 3) := by decide +kernel
theorem dX11_sounds_223 : decode cX11_sounds 223 = .ok (.goto (-77), 3) := by decide +kernel
theorem dX11_sounds_226 : decode cX11_sounds 226 = .ok (.iinc 1 1, 3) := by decide +kernel
theorem dX11_sounds_229 : decode cX11_sounds 229 = .ok (.goto (-91), 3) := by decide +kernel
theorem dX11_sounds_232 : decode cX11_sounds 232 = .ok (.return_, 1) := by decide +kernel
theorem dX11_stands_0 : decode cX11_stands 0 = .ok (.iconst 0, 1) := by decide +kernel
theorem dX11_stands_1 : decode cX11_stands 1 = .ok (.istore_n 1, 1) := by decide +kernel
theorem dX11_stands_2 : decode cX11_stands 2 = .ok (.iload_n 1, 1) := by decide +kernel
theorem dX11_stands_3 : decode cX11_stands 3 = .ok (.iconst 5, 1) := by decide +kernel
theorem dX11_stands_4 : decode cX11_stands 4 = .ok (.if_icmp .ge 23, 3) := by decide +kernel
theorem dX11_stands_7 : decode cX11_stands 7 = .ok (.aload_n 0, 1) := by decide +kernel
theorem dX11_stands_8 : decode cX11_stands 8 = .ok (.getfield 99, 3) := by decide +kernel
theorem dX11_stands_11 : decode cX11_stands 11 = .ok (.iconst 5, 1) := by decide +kernel
theorem dX11_stands_12 : decode cX11_stands 12 = .ok (.iload_n 1, 1) := by decide +kernel
theorem dX11_stands_13 : decode cX11_stands 13 = .ok (.iadd, 1) := by decide +kernel
theorem dX11_stands_14 : decode cX11_stands 14 = .ok (.aload_n 0, 1) := by decide +kernel
theorem dX11_stands_15 : decode cX11_stands 15 = .ok (.getfield 99, 3) := by decide +kernel
theorem dX11_stands_18 : decode cX11_stands 18 = .ok (.iload_n 1, 1) := by decide +kernel
theorem dX11_stands_19 : decode cX11_stands 19 = .ok (.iaload, 1) := by decide +kernel
theorem dX11_stands_20 : decode cX11_stands 20 = .ok (.iastore, 1) := by decide +kernel
theorem dX11_stands_21 : decode cX11_stands 21 = .ok (.iinc 1 1, 3) := by decide +kernel
theorem dX11_stands_24 : decode cX11_stands 24 = .ok (.goto (-22), 3) := by decide +kernel
theorem dX11_stands_27 : decode cX11_stands 27 = .ok (.iconst 0, 1) := by decide +kernel
theorem dX11_stands_28 : decode cX11_stands 28 = .ok (.istore_n 1, 1) := by decide +kernel
theorem dX11_stands_29 : decode cX11_stands 29 = .ok (.iload_n 1, 1) := by decide +kernel
theorem dX11_stands_30 : decode cX11_stands 30 = .ok (.bipush 20, 2) := by decide +kernel
theorem dX11_stands_32 : decode cX11_stands 32 = .ok (.if_icmp .ge 24, 3) := by decide +kernel
theorem dX11_stands_35 : decode cX11_stands 35 = .ok (.aload_n 0, 1) := by decide +kernel
theorem dX11_stands_36 : decode cX11_stands 36 = .ok (.getfield 102, 3) := by decide +kernel
theorem dX11_stands_39 : decode cX11_stands 39 = .ok (.bipush 20, 2) := by decide +kernel
theorem dX11_stands_41 : decode cX11_stands 41 = .ok (.iload_n 1, 1) := by decide +kernel
theorem dX11_stands_42 : decode cX11_stands 42 = .ok (.iadd, 1) := by decide +kernel
theorem dX11_stands_43 : decode cX11_stands 43 = .ok (.aload_n 0, 1) := by decide +kernel
theorem dX11_stands_44 : decode cX11_stands 44 = .ok (.getfield 102, 3) := by decide +kernel
theorem dX11_stands_47 : decode cX11_stands 47 = .ok (.iload_n 1, 1) := by decide +kernel
theorem dX11_stands_48 : decode cX11_stands 48 = .ok (.laload, 1) := by decide +kernel
theorem dX11_stands_49 : decode cX11_stands 49 = .ok (.lastore, 1) := by decide +kernel
theorem dX11_stands_50 : decode cX11_stands 50 = .ok (.iinc 1 1, 3) := by decide +kernel
theorem dX11_stands_53 : decode cX11_stands 53 = .ok (.goto (-24), 3) := by decide +kernel
theorem dX11_stands_56 : decode cX11_stands 56 = .ok (.iconst 0, 1) := by decide +kernel
theorem dX11_stands_57 : decode cX11_stands 57 = .ok (.istore_n 1, 1) := by decide +kernel
theorem dX11_stands_58 : decode cX11_stands 58 = .ok (.iload_n 1, 1) := by decide +kernel
theorem dX11_stands_59 : decode cX11_stands 59 = .ok (.bipush 10, 2) := by decide +kernel
theorem dX11_stands_61 : decode cX11_stands 61 = .ok (.if_icmp .ge 24, 3) := by decide +kernel
theorem dX11_stands_64 : decode cX11_stands 64 = .ok (.aload_n 0, 1) := by decide +kernel
theorem dX11_stands_65 : decode cX11_stands 65 = .ok (.getfield 106, 3) := by decide +kernel
theorem dX11_stands_68 : decode cX11_stands 68 = .ok (.bipush 10, 2) := by decide +kernel
theorem dX11_stands_70 : decode cX11_stands 70 = .ok (.iload_n 1, 1) := by decide +kernel
theorem dX11_stands_71 : decode cX11_stands 71 = .ok (.iadd, 1) := by decide +kernel
theorem dX11_stands_72 : decode cX11_stands 72 = .ok (.aload_n 0, 1) := by decide +kernel
theorem dX11_stands_73 : decode cX11_stands 73 = .ok (.getfield 106, 3) := by decide +kernel
theorem dX11_stands_76 : decode cX11_stands 76 = .ok (.iload_n 1, 1) := by decide +kernel
theorem dX11_stands_77 : decode cX11_stands 77 = .ok (.iaload, 1) := by decide +kernel
theorem dX11_stands_78 : decode cX11_stands 78 = .ok (.iastore, 1) := by decide +kernel
theorem dX11_stands_79 : decode cX11_stands 79 = .ok (.iinc 1 1, 3) := by decide +kernel
theorem dX11_stands_82 : decode cX11_stands 82 = .ok (.goto (-24), 3) := by decide +kernel
theorem dX11_stands_85 : decode cX11_stands 85 = .ok (.iconst 0, 1) := by decide +kernel
theorem dX11_stands_86 : decode cX11_stands 86 = .ok (.istore_n 1, 1) := by decide +kernel
theorem dX11_stands_87 : decode cX11_stands 87 = .ok (.iload_n 1, 1) := by decide +kernel
theorem dX11_stands_88 : decode cX11_stands 88 = .ok (.bipush 64, 2) := by decide +kernel
theorem dX11_stands_90 : decode cX11_stands 90 = .ok (.if_icmp .ge 24, 3) := by decide +kernel
theorem dX11_stands_93 : decode cX11_stands 93 = .ok (.aload_n 0, 1) := by decide +kernel
theorem dX11_stands_94 : decode cX11_stands 94 = .ok (.getfield 109, 3) := by decide +kernel
theorem dX11_stands_97 : decode cX11_stands 97 = .ok (.bipush 64, 2) := by decide +kernel
theorem dX11_stands_99 : decode cX11_stands 99 = .ok (.iload_n 1, 1) := by decide +kernel
theorem dX11_stands_100 : decode cX11_stands 100 = .ok (.iadd, 1) := by decide +kernel
theorem dX11_stands_101 : decode cX11_stands 101 = .ok (.aload_n 0, 1) := by decide +kernel
theorem dX11_stands_102 : decode cX11_stands 102 = .ok (.getfield 109, 3) := by decide +kernel
theorem dX11_stands_105 : decode cX11_stands 105 = .ok (.iload_n 1, 1) := by decide +kernel
theorem dX11_stands_106 : decode cX11_stands 106 = .ok (.iaload, 1) := by decide +kernel
theorem dX11_stands_107 : decode cX11_stands 107 = .ok (.iastore, 1) := by decide +kernel
theorem dX11_stands_108 : decode cX11_stands 108 = .ok (.iinc 1 1, 3) := by decide +kernel
theorem dX11_stands_111 : decode cX11_stands 111 = .ok (.goto (-24), 3) := by decide +kernel
theorem dX11_stands_114 : decode cX11_stands 114 = .ok (.iconst 0, 1) := by decide +kernel
theorem dX11_stands_115 : decode cX11_stands 115 = .ok (.istore_n 1, 1) := by decide +kernel
theorem dX11_stands_116 : decode cX11_stands 116 = .ok (.iload_n 1, 1) := by decide +kernel
theorem dX11_stands_117 : decode cX11_stands 117 = .ok (.bipush 16, 2) := by decide +kernel
theorem dX11_stands_119 : decode cX11_stands 119 = .ok (.if_icmp .ge 24, 3) := by decide +kernel
theorem dX11_stands_122 : decode cX11_stands 122 = .ok (.aload_n 0, 1) := by decide +kernel
theorem dX11_stands_123 : decode cX11_stands 123 = .ok (.getfield 112, 3) := by decide +kernel
theorem dX11_stands_126 : decode cX11_stands 126 = .ok (.bipush 16, 2) := by decide +kernel
theorem dX11_stands_128 : decode cX11_stands 128 = .ok (.iload_n 1, 1) := by decide +kernel
theorem dX11_stands_129 : decode cX11_stands 129 = .ok (.iadd, 1) := by decide +kernel
theorem dX11_stands_130 : decode cX11_stands 130 = .ok (.aload_n 0, 1) := by decide +kernel
theorem dX11_stands_131 : decode cX11_stands 131 = .ok (.getfield 112, 3) := by decide +kernel
theorem dX11_stands_134 : decode cX11_stands 134 = .ok (.iload_n 1, 1) := by decide +kernel
theorem dX11_stands_135 : decode cX11_stands 135 = .ok (.iaload, 1) := by decide +kernel
theorem dX11_stands_136 : decode cX11_stands 136 = .ok (.iastore, 1) := by decide +kernel
theorem dX11_stands_137 : decode cX11_stands 137 = .ok (.iinc 1 1, 3) := by decide +kernel
theorem dX11_stands_140 : decode cX11_stands 140 = .ok (.goto (-24), 3) := by decide +kernel
theorem dX11_stands_143 : decode cX11_stands 143 = .ok (.iconst 0, 1) := by decide +kernel
theorem dX11_stands_144 : decode cX11_stands 144 = .ok (.istore_n 1, 1) := by decide +kernel
theorem dX11_stands_145 : decode cX11_stands 145 = .ok (.iload_n 1, 1) := by decide +kernel
theorem dX11_stands_146 : decode cX11_stands 146 = .ok (.bipush 40, 2) := by decide +kernel
theorem dX11_stands_148 : decode cX11_stands 148 = .ok (.if_icmp .ge 24, 3) := by decide +kernel
theorem dX11_stands_151 : decode cX11_stands 151 = .ok (.aload_n 0, 1) := by decide +kernel
theorem dX11_stands_152 : decode cX11_stands 152 = .ok (.getfield 115, 3) := by decide +kernel
theorem dX11_stands_155 : decode cX11_stands 155 = .ok (.bipush 40, 2) := by decide +kernel
theorem dX11_stands_157 : decode cX11_stands 157 = .ok (.iload_n 1, 1) := by decide +kernel
theorem dX11_stands_158 : decode cX11_stands 158 = .ok (.iadd, 1) := by decide +kernel
theorem dX11_stands_159 : decode cX11_stands 159 = .ok (.aload_n 0, 1) := by decide +kernel
theorem dX11_stands_160 : decode cX11_stands 160 = .ok (.getfield 115, 3) := by decide +kernel
theorem dX11_stands_163 : decode cX11_stands 163 = .ok (.iload_n 1, 1) := by decide +kernel
theorem dX11_stands_164 : decode cX11_stands 164 = .ok (.iaload, 1) := by decide +kernel
theorem dX11_stands_165 : decode cX11_stands 165 = .ok (.iastore, 1) := by decide +kernel
theorem dX11_stands_166 : decode cX11_stands 166 = .ok (.iinc 1 1, 3) := by decide +kernel
theorem dX11_stands_169 : decode cX11_stands 169 = .ok (.goto (-24), 3) := by decide +kernel
theorem dX11_stands_172 : decode cX11_stands 172 = .ok (.iconst 0, 1) := by decide +kernel
theorem dX11_stands_173 : decode cX11_stands 173 = .ok (.istore_n 1, 1) := by decide +kernel
theorem dX11_stands_174 : decode cX11_stands 174 = .ok (.iload_n 1, 1) := by decide +kernel
theorem dX11_stands_175 : decode cX11_stands 175 = .ok (.bipush 6, 2) := by decide +kernel
theorem dX11_stands_177 : decode cX11_stands 177 = .ok (.if_icmp .ge 54, 3) := by decide +kernel
theorem dX11_stands_180 : decode cX11_stands 180 = .ok (.aload_n 0, 1) := by decide +kernel
theorem dX11_stands_181 : decode cX11_stands 181 = .ok (.getfield 127, 3) := by decide +kernel
theorem dX11_stands_184 : decode cX11_stands 184 = .ok (.bipush 6, 2) := by decide +kernel
theorem dX11_stands_186 : decode cX11_stands 186 = .ok (.iload_n 1, 1) := by decide +kernel
theorem dX11_stands_187 : decode cX11_stands 187 = .ok (.iadd, 1) := by decide +kernel
theorem dX11_stands_188 : decode cX11_stands 188 = .ok (.aload_n 0, 1) := by decide +kernel
theorem dX11_stands_189 : decode cX11_stands 189 = .ok (.getfield 127, 3) := by decide +kernel
theorem dX11_stands_192 : decode cX11_stands 192 = .ok (.iload_n 1, 1) := by decide +kernel
theorem dX11_stands_193 : decode cX11_stands 193 = .ok (.iaload, 1) := by decide +kernel
theorem dX11_stands_194 : decode cX11_stands 194 = .ok (.iastore, 1) := by decide +kernel
theorem dX11_stands_195 : decode cX11_stands 195 = .ok (.aload_n 0, 1) := by decide +kernel
theorem dX11_stands_196 : decode cX11_stands 196 = .ok (.getfield 130, 3) := by decide +kernel
theorem dX11_stands_199 : decode cX11_stands 199 = .ok (.bipush 6, 2) := by decide +kernel
theorem dX11_stands_201 : decode cX11_stands 201 = .ok (.iload_n 1, 1) := by decide +kernel
theorem dX11_stands_202 : decode cX11_stands 202 = .ok (.iadd, 1) := by decide +kernel
theorem dX11_stands_203 : decode cX11_stands 203 = .ok (.aload_n 0, 1) := by decide +kernel
theorem dX11_stands_204 : decode cX11_stands 204 = .ok (.getfield 130, 3) := by decide +kernel
theorem dX11_stands_207 : decode cX11_stands 207 = .ok (.iload_n 1, 1) := by decide +kernel
theorem dX11_stands_208 : decode cX11_stands 208 = .ok (.iaload, 1) := by decide +kernel
theorem dX11_stands_209 : decode cX11_stands 209 = .ok (.iastore, 1) := by decide +kernel
theorem dX11_stands_210 : decode cX11_stands 210 = .ok (.aload_n 0, 1) := by decide +kernel
theorem dX11_stands_211 : decode cX11_stands 211 = .ok (.getfield 133, 3) := by decide +kernel
theorem dX11_stands_214 : decode cX11_stands 214 = .ok (.bipush 6, 2) := by decide +kernel
theorem dX11_stands_216 : decode cX11_stands 216 = .ok (.iload_n 1, 1) := by decide +kernel
theorem dX11_stands_217 : decode cX11_stands 217 = .ok (.iadd, 1) := by decide +kernel
theorem dX11_stands_218 : decode cX11_stands 218 = .ok (.aload_n 0, 1) := by decide +kernel
theorem dX11_stands_219 : decode cX11_stands 219 = .ok (.getfield 133, 3) := by decide +kernel
theorem dX11_stands_222 : decode cX11_stands 222 = .ok (.iload_n 1, 1) := by decide +kernel
theorem dX11_stands_223 : decode cX11_stands 223 = .ok (.iaload, 1) := by decide +kernel
theorem dX11_stands_224 : decode cX11_stands 224 = .ok (.iastore, 1) := by decide +kernel
theorem dX11_stands_225 : decode cX11_stands 225 = .ok (.iinc 1 1, 3) := by decide +kernel
theorem dX11_stands_228 : decode cX11_stands 228 = .ok (.goto (-54), 3) := by decide +kernel
theorem dX11_stands_231 : decode cX11_stands 231 = .ok (.iconst 0, 1) := by decide +kernel
theorem dX11_stands_232 : decode cX11_stands 232 = .ok (.istore_n 1, 1) := by decide +kernel
theorem dX11_stands_233 : decode cX11_stands 233 = .ok (.iload_n 1, 1) := by decide +kernel
theorem dX11_stands_234 : decode cX11_stands 234 = .ok (.aload_n 0, 1) := by decide +kernel
theorem dX11_stands_235 : decode cX11_stands 235 = .ok (.getfield 306, 3) := by decide +kernel
theorem dX11_stands_238 : decode cX11_stands 238 = .ok (.if_icmp .ge 25, 3) := by decide +kernel
theorem dX11_stands_241 : decode cX11_stands 241 = .ok (.aload_n 0, 1) := by decide +kernel
theorem dX11_stands_242 : decode cX11_stands 242 = .ok (.getfield 121, 3) := by decide +kernel
theorem dX11_stands_245 : decode cX11_stands 245 = .ok (.sipush 1600, 3) := by decide +kernel
theorem dX11_stands_248 : decode cX11_stands 248 = .ok (.iload_n 1, 1) := by decide +kernel
theorem dX11_stands_249 : decode cX11_stands 249 = .ok (.iadd, 1) := by decide +kernel
theorem dX11_stands_250 : decode cX11_stands 250 = .ok (.aload_n 0, 1) := by decide +kernel
theorem dX11_stands_251 : decode cX11_stands 251 = .ok (.getfield 121, 3) := by decide +kernel
theorem dX11_stands_254 : decode cX11_stands 254 = .ok (.iload_n 1, 1) := by decide +kernel
theorem dX11_stands_255 : decode cX11_stands 255 = .ok (.iaload, 1) := by decide +kernel
theorem dX11_stands_256 : decode cX11_stands 256 = .ok (.iastore, 1) := by decide +kernel
theorem dX11_stands_257 : decode cX11_stands 257 = .ok (.iinc 1 1, 3) := by decide +kernel
theorem dX11_stands_260 : decode cX11_stands 260 = .ok (.goto (-27), 3) := by decide +kernel
theorem dX11_stands_263 : decode cX11_stands 263 = .ok (.aload_n 0, 1) := by decide +kernel
theorem dX11_stands_264 : decode cX11_stands 264 = .ok (.aload_n 0, 1) := by decide +kernel
theorem dX11_stands_265 : decode cX11_stands 265 = .ok (.getfield 343, 3) := by decide +kernel
theorem dX11_stands_268 : decode cX11_stands 268 = .ok (.putfield 118, 3) := by decide +kernel
theorem dX11_stands_271 : decode cX11_stands 271 = .ok (.aload_n 0, 1) := by decide +kernel
theorem dX11_stands_272 : decode cX11_stands 272 = .ok (.iconst 0, 1) := by decide +kernel
theorem dX11_stands_273 : decode cX11_stands 273 = .ok (.putfield 358, 3) := by decide +kernel
theorem dX11_stands_276 : decode cX11_stands 276 = .ok (.aload_n 0, 1) := by decide +kernel
theorem dX11_stands_277 : decode cX11_stands 277 = .ok (.iconst 0, 1) := by decide +kernel
theorem dX11_stands_278 : decode cX11_stands 278 = .ok (.putfield 361, 3) := by decide +kernel
theorem dX11_stands_281 : decode cX11_stands 281 = .ok (.aload_n 0, 1) := by decide +kernel
theorem dX11_stands_282 : decode cX11_stands 282 = .ok (.iconst 0, 1) := by decide +kernel
theorem dX11_stands_283 : decode cX11_stands 283 = .ok (.putfield 364, 3) := by decide +kernel
theorem dX11_stands_286 : decode cX11_stands 286 = .ok (.iconst 0, 1) := by decide +kernel
theorem dX11_stands_287 : decode cX11_stands 287 = .ok (.istore_n 1, 1) := by decide +kernel
theorem dX11_stands_288 : decode cX11_stands 288 = .ok (.iload_n 1, 1) := by decide +kernel
theorem dX11_stands_289 : decode cX11_stands 289 = .ok (.iconst 4, 1) := by decide +kernel
theorem dX11_stands_290 : decode cX11_stands 290 = .ok (.if_icmp .ge 16, 3) := by decide +kernel
theorem dX11_stands_293 : decode cX11_stands 293 = .ok (.aload_n 0, 1) := by decide +kernel
theorem dX11_stands_294 : decode cX11_stands 294 = .ok (.getfield 145, 3) := by decide +kernel
theorem dX11_stands_297 : decode cX11_stands 297 = .ok (.iload_n 1, 1) := by decide +kernel
theorem dX11_stands_298 : decode cX11_stands 298 = .ok (.iconst 0, 1) := by decide +kernel
theorem dX11_stands_299 : decode cX11_stands 299 = .ok (.iastore, 1) := by decide +kernel
theorem dX11_stands_300 : decode cX11_stands 300 = .ok (.iinc 1 1, 3) := by decide +kernel
theorem dX11_stands_303 : decode cX11_stands 303 = .ok (.goto (-15), 3) := by decide +kernel
theorem dX11_stands_306 : decode cX11_stands 306 = .ok (.aload_n 0, 1) := by decide +kernel
theorem dX11_stands_307 : decode cX11_stands 307 = .ok (.invokevirtual 367, 3) := by decide +kernel
theorem dX11_stands_310 : decode cX11_stands 310 = .ok (.return_, 1) := by decide +kernel
theorem dX11_statementTold_0 : decode cX11_statementTold 0 = .ok (.aload_n 0, 1) := by decide +kernel
theorem dX11_statementTold_1 : decode cX11_statementTold 1 = .ok (.getfield 230, 3) := by decide +kernel
theorem dX11_statementTold_4 : decode cX11_statementTold 4 = .ok (.istore_n 1, 1) := by decide +kernel
theorem dX11_statementTold_5 : decode cX11_statementTold 5 = .ok (.aload_n 0, 1) := by decide +kernel
theorem dX11_statementTold_6 : decode cX11_statementTold 6 = .ok (.getfield 324, 3) := by decide +kernel
theorem dX11_statementTold_9 : decode cX11_statementTold 9 = .ok (.bipush 70, 2) := by decide +kernel
theorem dX11_statementTold_11 : decode cX11_statementTold 11 = .ok (.if_icmp .ne 10, 3) := by decide +kernel
theorem dX11_statementTold_14 : decode cX11_statementTold 14 = .ok (.aload_n 0, 1) := by decide +kernel
theorem dX11_statementTold_15 : decode cX11_statementTold 15 = .ok (.iconst 5, 1) := by decide +kernel
theorem dX11_statementTold_16 : decode cX11_statementTold 16 = .ok (.iload_n 1, 1) := by decide +kernel
theorem dX11_statementTold_17 : decode cX11_statementTold 17 = .ok (.invokevirtual 254, 3) := by decide +kernel
theorem dX11_statementTold_20 : decode cX11_statementTold 20 = .ok (.return_, 1) := by decide +kernel
theorem dX11_statementTold_21 : decode cX11_statementTold 21 = .ok (.aload_n 0, 1) := by decide +kernel
theorem dX11_statementTold_22 : decode cX11_statementTold 22 = .ok (.aload_n 0, 1) := by decide +kernel
theorem dX11_statementTold_23 : decode cX11_statementTold 23 = .ok (.getfield 17, 3) := by decide +kernel
theorem dX11_statementTold_26 : decode cX11_statementTold 26 = .ok (.invokevirtual 251, 3) := by decide +kernel
theorem dX11_statementTold_29 : decode cX11_statementTold 29 = .ok (.ifCond .eq 11, 3) := by decide +kernel
theorem dX11_statementTold_32 : decode cX11_statementTold 32 = .ok (.aload_n 0, 1) := by decide +kernel
theorem dX11_statementTold_33 : decode cX11_statementTold 33 = .ok (.iload_n 1, 1) := by decide +kernel
theorem dX11_statementTold_34 : decode cX11_statementTold 34 = .ok (.invokevirtual 327, 3) := by decide +kernel
theorem dX11_statementTold_37 : decode cX11_statementTold 37 = .ok (.goto 99, 3) := by decide +kernel
theorem dX11_statementTold_40 : decode cX11_statementTold 40 = .ok (.aload_n 0, 1) := by decide +kernel
theorem dX11_statementTold_41 : decode cX11_statementTold 41 = .ok (.aload_n 0, 1) := by decide +kernel
theorem dX11_statementTold_42 : decode cX11_statementTold 42 = .ok (.getfield 24, 3) := by decide +kernel
theorem dX11_statementTold_45 : decode cX11_statementTold 45 = .ok (.invokevirtual 251, 3) := by decide +kernel
theorem dX11_statementTold_48 : decode cX11_statementTold 48 = .ok (.ifCond .eq 11, 3) := by decide +kernel
theorem dX11_statementTold_51 : decode cX11_statementTold 51 = .ok (.aload_n 0, 1) := by decide +kernel
theorem dX11_statementTold_52 : decode cX11_statementTold 52 = .ok (.iload_n 1, 1) := by decide +kernel
theorem dX11_statementTold_53 : decode cX11_statementTold 53 = .ok (.invokevirtual 331, 3) := by decide +kernel
theorem dX11_statementTold_56 : decode cX11_statementTold 56 = .ok (.goto 80, 3) := by decide +kernel
theorem dX11_statementTold_59 : decode cX11_statementTold 59 = .ok (.aload_n 0, 1) := by decide +kernel
theorem dX11_statementTold_60 : decode cX11_statementTold 60 = .ok (.aload_n 0, 1) := by decide +kernel
theorem dX11_statementTold_61 : decode cX11_statementTold 61 = .ok (.getfield 33, 3) := by decide +kernel
theorem dX11_statementTold_64 : decode cX11_statementTold 64 = .ok (.invokevirtual 251, 3) := by decide +kernel
theorem dX11_statementTold_67 : decode cX11_statementTold 67 = .ok (.ifCond .eq 11, 3) := by decide +kernel
theorem dX11_statementTold_70 : decode cX11_statementTold 70 = .ok (.aload_n 0, 1) := by decide +kernel
theorem dX11_statementTold_71 : decode cX11_statementTold 71 = .ok (.iload_n 1, 1) := by decide +kernel
theorem dX11_statementTold_72 : decode cX11_statementTold 72 = .ok (.invokevirtual 334, 3) := by decide +kernel
theorem dX11_statementTold_75 : decode cX11_statementTold 75 = .ok (.goto 61, 3) := by decide +kernel
theorem dX11_statementTold_78 : decode cX11_statementTold 78 = .ok (.aload_n 0, 1) := by decide +kernel
theorem dX11_statementTold_79 : decode cX11_statementTold 79 = .ok (.aload_n 0, 1) := by decide +kernel
theorem dX11_statementTold_80 : decode cX11_statementTold 80 = .ok (.getfield 48, 3) := by decide +kernel
theorem dX11_statementTold_83 : decode cX11_statementTold 83 = .ok (.invokevirtual 251, 3) := by decide +kernel
theorem dX11_statementTold_86 : decode cX11_statementTold 86 = .ok (.ifCond .eq 11, 3) := by decide +kernel
theorem dX11_statementTold_89 : decode cX11_statementTold 89 = .ok (.aload_n 0, 1) := by decide +kernel
theorem dX11_statementTold_90 : decode cX11_statementTold 90 = .ok (.iload_n 1, 1) := by decide +kernel
theorem dX11_statementTold_91 : decode cX11_statementTold 91 = .ok (.invokevirtual 337, 3) := by decide +kernel
theorem dX11_statementTold_94 : decode cX11_statementTold 94 = .ok (.goto 42, 3) := by decide +kernel
theorem dX11_statementTold_97 : decode cX11_statementTold 97 = .ok (.aload_n 0, 1) := by decide +kernel
theorem dX11_statementTold_98 : decode cX11_statementTold 98 = .ok (.aload_n 0, 1) := by decide +kernel
theorem dX11_statementTold_99 : decode cX11_statementTold 99 = .ok (.getfield 60, 3) := by decide +kernel
theorem dX11_statementTold_102 : decode cX11_statementTold 102 = .ok (.invokevirtual 251, 3) := by decide +kernel
theorem dX11_statementTold_105 : decode cX11_statementTold 105 = .ok (.ifCond .eq 11, 3) := by decide +kernel
theorem dX11_statementTold_108 : decode cX11_statementTold 108 = .ok (.aload_n 0, 1) := by decide +kernel
theorem dX11_statementTold_109 : decode cX11_statementTold 109 = .ok (.iload_n 1, 1) := by decide +kernel
theorem dX11_statementTold_110 : decode cX11_statementTold 110 = .ok (.invokevirtual 340, 3) := by decide +kernel
theorem dX11_statementTold_113 : decode cX11_statementTold 113 = .ok (.goto 23, 3) := by decide +kernel
theorem dX11_statementTold_116 : decode cX11_statementTold 116 = .ok (.aload_n 0, 1) := by decide +kernel
theorem dX11_statementTold_117 : decode cX11_statementTold 117 = .ok (.aload_n 0, 1) := by decide +kernel
theorem dX11_statementTold_118 : decode cX11_statementTold 118 = .ok (.getfield 63, 3) := by decide +kernel
theorem dX11_statementTold_121 : decode cX11_statementTold 121 = .ok (.invokevirtual 295, 3) := by decide +kernel
theorem dX11_statementTold_124 : decode cX11_statementTold 124 = .ok (.aload_n 0, 1) := by decide +kernel
theorem dX11_statementTold_125 : decode cX11_statementTold 125 = .ok (.aload_n 0, 1) := by decide +kernel
theorem dX11_statementTold_126 : decode cX11_statementTold 126 = .ok (.iconst 0, 1) := by decide +kernel
theorem dX11_statementTold_127 : decode cX11_statementTold 127 = .ok (.sipush 999, 3) := by decide +kernel
theorem dX11_statementTold_130 : decode cX11_statementTold 130 = .ok (.invokevirtual 299, 3) := by decide +kernel
theorem dX11_statementTold_133 : decode cX11_statementTold 133 = .ok (.putfield 343, 3) := by decide +kernel
theorem dX11_statementTold_136 : decode cX11_statementTold 136 = .ok (.aload_n 0, 1) := by decide +kernel
theorem dX11_statementTold_137 : decode cX11_statementTold 137 = .ok (.bipush 59, 2) := by decide +kernel
theorem dX11_statementTold_139 : decode cX11_statementTold 139 = .ok (.invokevirtual 346, 3) := by decide +kernel
theorem dX11_statementTold_142 : decode cX11_statementTold 142 = .ok (.aload_n 0, 1) := by decide +kernel
theorem dX11_statementTold_143 : decode cX11_statementTold 143 = .ok (.dup, 1) := by decide +kernel
theorem dX11_statementTold_144 : decode cX11_statementTold 144 = .ok (.getfield 324, 3) := by decide +kernel
theorem dX11_statementTold_147 : decode cX11_statementTold 147 = .ok (.iconst 1, 1) := by decide +kernel
theorem dX11_statementTold_148 : decode cX11_statementTold 148 = .ok (.iadd, 1) := by decide +kernel
theorem dX11_statementTold_149 : decode cX11_statementTold 149 = .ok (.putfield 324, 3) := by decide +kernel
theorem dX11_statementTold_152 : decode cX11_statementTold 152 = .ok (.return_, 1) := by decide +kernel
theorem dX11_staysTo_0 : decode cX11_staysTo 0 = .ok (.iload_n 2, 1) := by decide +kernel
theorem dX11_staysTo_1 : decode cX11_staysTo 1 = .ok (.aload_n 0, 1) := by decide +kernel
theorem dX11_staysTo_2 : decode cX11_staysTo 2 = .ok (.getfield 145, 3) := by decide +kernel
theorem dX11_staysTo_5 : decode cX11_staysTo 5 = .ok (.iload_n 1, 1) := by decide +kernel
theorem dX11_staysTo_6 : decode cX11_staysTo 6 = .ok (.iaload, 1) := by decide +kernel
theorem dX11_staysTo_7 : decode cX11_staysTo 7 = .ok (.if_icmp .ne 11, 3) := by decide +kernel
theorem dX11_staysTo_10 : decode cX11_staysTo 10 = .ok (.aload_n 0, 1) := by decide +kernel
theorem dX11_staysTo_11 : decode cX11_staysTo 11 = .ok (.iload_n 1, 1) := by decide +kernel
theorem dX11_staysTo_12 : decode cX11_staysTo 12 = .ok (.invokevirtual 459, 3) := by decide +kernel
theorem dX11_staysTo_15 : decode cX11_staysTo 15 = .ok (.goto 16, 3) := by decide +kernel
theorem dX11_staysTo_18 : decode cX11_staysTo 18 = .ok (.aload_n 0, 1) := by decide +kernel
theorem dX11_staysTo_19 : decode cX11_staysTo 19 = .ok (.getfield 154, 3) := by decide +kernel
theorem dX11_staysTo_22 : decode cX11_staysTo 22 = .ok (.bipush 24, 2) := by decide +kernel
theorem dX11_staysTo_24 : decode cX11_staysTo 24 = .ok (.iload_n 1, 1) := by decide +kernel
theorem dX11_staysTo_25 : decode cX11_staysTo 25 = .ok (.imul, 1) := by decide +kernel
theorem dX11_staysTo_26 : decode cX11_staysTo 26 = .ok (.iload_n 2, 1) := by decide +kernel
theorem dX11_staysTo_27 : decode cX11_staysTo 27 = .ok (.iadd, 1) := by decide +kernel
theorem dX11_staysTo_28 : decode cX11_staysTo 28 = .ok (.iaload, 1) := by decide +kernel
theorem dX11_staysTo_29 : decode cX11_staysTo 29 = .ok (.iconst 1, 1) := by decide +kernel
theorem dX11_staysTo_30 : decode cX11_staysTo 30 = .ok (.isub, 1) := by decide +kernel
theorem dX11_staysTo_31 : decode cX11_staysTo 31 = .ok (.ireturn, 1) := by decide +kernel
theorem dX11_sumsTold_0 : decode cX11_sumsTold 0 = .ok (.aload_n 0, 1) := by decide +kernel
theorem dX11_sumsTold_1 : decode cX11_sumsTold 1 = .ok (.getfield 315, 3) := by decide +kernel
theorem dX11_sumsTold_4 : decode cX11_sumsTold 4 = .ok (.istore_n 1, 1) := by decide +kernel
theorem dX11_sumsTold_5 : decode cX11_sumsTold 5 = .ok (.aload_n 0, 1) := by decide +kernel
theorem dX11_sumsTold_6 : decode cX11_sumsTold 6 = .ok (.aload_n 0, 1) := by decide +kernel
theorem dX11_sumsTold_7 : decode cX11_sumsTold 7 = .ok (.getfield 309, 3) := by decide +kernel
theorem dX11_sumsTold_10 : decode cX11_sumsTold 10 = .ok (.putfield 315, 3) := by decide +kernel
theorem dX11_sumsTold_13 : decode cX11_sumsTold 13 = .ok (.iconst 1, 1) := by decide +kernel
theorem dX11_sumsTold_14 : decode cX11_sumsTold 14 = .ok (.istore_n 2, 1) := by decide +kernel
theorem dX11_sumsTold_15 : decode cX11_sumsTold 15 = .ok (.iload_n 2, 1) := by decide +kernel
theorem dX11_sumsTold_16 : decode cX11_sumsTold 16 = .ok (.ifCond .eq 37, 3) := by decide +kernel
theorem dX11_sumsTold_19 : decode cX11_sumsTold 19 = .ok (.aload_n 0, 1) := by decide +kernel
theorem dX11_sumsTold_20 : decode cX11_sumsTold 20 = .ok (.getfield 224, 3) := by decide +kernel
theorem dX11_sumsTold_23 : decode cX11_sumsTold 23 = .ok (.ifCond .ne 30, 3) := by decide +kernel
theorem dX11_sumsTold_26 : decode cX11_sumsTold 26 = .ok (.aload_n 0, 1) := by decide +kernel
theorem dX11_sumsTold_27 : decode cX11_sumsTold 27 = .ok (.invokevirtual 391, 3) := by decide +kernel
theorem dX11_sumsTold_30 : decode cX11_sumsTold 30 = .ok (.aload_n 0, 1) := by decide +kernel
theorem dX11_sumsTold_31 : decode cX11_sumsTold 31 = .ok (.getfield 224, 3) := by decide +kernel
theorem dX11_sumsTold_34 : decode cX11_sumsTold 34 = .ok (.ifCond .ne 14, 3) := by decide +kernel
theorem dX11_sumsTold_37 : decode cX11_sumsTold 37 = .ok (.aload_n 0, 1) := by decide +kernel
theorem dX11_sumsTold_38 : decode cX11_sumsTold 38 = .ok (.invokevirtual 394, 3) := by decide +kernel
theorem dX11_sumsTold_41 : decode cX11_sumsTold 41 = .ok (.ifCond .eq 7, 3) := by decide +kernel
theorem dX11_sumsTold_44 : decode cX11_sumsTold 44 = .ok (.iconst 1, 1) := by decide +kernel
theorem dX11_sumsTold_45 : decode cX11_sumsTold 45 = .ok (.goto 4, 3) := by decide +kernel
theorem dX11_sumsTold_48 : decode cX11_sumsTold 48 = .ok (.iconst 0, 1) := by decide +kernel
theorem dX11_sumsTold_49 : decode cX11_sumsTold 49 = .ok (.istore_n 2, 1) := by decide +kernel
theorem dX11_sumsTold_50 : decode cX11_sumsTold 50 = .ok (.goto (-35), 3) := by decide +kernel
theorem dX11_sumsTold_53 : decode cX11_sumsTold 53 = .ok (.aload_n 0, 1) := by decide +kernel
theorem dX11_sumsTold_54 : decode cX11_sumsTold 54 = .ok (.getfield 224, 3) := by decide +kernel
theorem dX11_sumsTold_57 : decode cX11_sumsTold 57 = .ok (.ifCond .ne 21, 3) := by decide +kernel
theorem dX11_sumsTold_60 : decode cX11_sumsTold 60 = .ok (.aload_n 0, 1) := by decide +kernel
theorem dX11_sumsTold_61 : decode cX11_sumsTold 61 = .ok (.getfield 309, 3) := by decide +kernel
theorem dX11_sumsTold_64 : decode cX11_sumsTold 64 = .ok (.aload_n 0, 1) := by decide +kernel
theorem dX11_sumsTold_65 : decode cX11_sumsTold 65 = .ok (.getfield 315, 3) := by decide +kernel
theorem dX11_sumsTold_68 : decode cX11_sumsTold 68 = .ok (.if_icmp .le 10, 3) := by decide +kernel
theorem dX11_sumsTold_71 : decode cX11_sumsTold 71 = .ok (.aload_n 0, 1) := by decide +kernel
theorem dX11_sumsTold_72 : decode cX11_sumsTold 72 = .ok (.invokevirtual 376, 3) := by decide +kernel
theorem dX11_sumsTold_75 : decode cX11_sumsTold 75 = .ok (.goto (-22), 3) := by decide +kernel
theorem dX11_sumsTold_78 : decode cX11_sumsTold 78 = .ok (.aload_n 0, 1) := by decide +kernel
theorem dX11_sumsTold_79 : decode cX11_sumsTold 79 = .ok (.iload_n 1, 1) := by decide +kernel
theorem dX11_sumsTold_80 : decode cX11_sumsTold 80 = .ok (.putfield 315, 3) := by decide +kernel
theorem dX11_sumsTold_83 : decode cX11_sumsTold 83 = .ok (.return_, 1) := by decide +kernel
theorem dX11_sweep_0 : decode cX11_sweep 0 = .ok (.aload_n 0, 1) := by decide +kernel
theorem dX11_sweep_1 : decode cX11_sweep 1 = .ok (.invokevirtual 589, 3) := by decide +kernel
theorem dX11_sweep_4 : decode cX11_sweep 4 = .ok (.istore_n 2, 1) := by decide +kernel
theorem dX11_sweep_5 : decode cX11_sweep 5 = .ok (.iload_n 1, 1) := by decide +kernel
theorem dX11_sweep_6 : decode cX11_sweep 6 = .ok (.iconst (-1), 1) := by decide +kernel
theorem dX11_sweep_7 : decode cX11_sweep 7 = .ok (.if_icmp .ne 10, 3) := by decide +kernel
theorem dX11_sweep_10 : decode cX11_sweep 10 = .ok (.iload_n 2, 1) := by decide +kernel
theorem dX11_sweep_11 : decode cX11_sweep 11 = .ok (.invokestatic 468, 3) := by decide +kernel
theorem dX11_sweep_14 : decode cX11_sweep 14 = .ok (.goto 8, 3) := by decide +kernel
theorem dX11_sweep_17 : decode cX11_sweep 17 = .ok (.iload_n 2, 1) := by decide +kernel
theorem dX11_sweep_18 : decode cX11_sweep 18 = .ok (.iload_n 1, 1) := by decide +kernel
theorem dX11_sweep_19 : decode cX11_sweep 19 = .ok (.invokestatic 592, 3) := by decide +kernel
theorem dX11_sweep_22 : decode cX11_sweep 22 = .ok (.ireturn, 1) := by decide +kernel
theorem dX11_take_0 : decode cX11_take 0 = .ok (.aload_n 0, 1) := by decide +kernel
theorem dX11_take_1 : decode cX11_take 1 = .ok (.invokevirtual 447, 3) := by decide +kernel
theorem dX11_take_4 : decode cX11_take 4 = .ok (.ifCond .ne 5, 3) := by decide +kernel
theorem dX11_take_7 : decode cX11_take 7 = .ok (.iconst (-1), 1) := by decide +kernel
theorem dX11_take_8 : decode cX11_take 8 = .ok (.ireturn, 1) := by decide +kernel
theorem dX11_take_9 : decode cX11_take 9 = .ok (.aload_n 0, 1) := by decide +kernel
theorem dX11_take_10 : decode cX11_take 10 = .ok (.invokevirtual 644, 3) := by decide +kernel
theorem dX11_take_13 : decode cX11_take 13 = .ok (.aload_n 0, 1) := by decide +kernel
theorem dX11_take_14 : decode cX11_take 14 = .ok (.aload_n 0, 1) := by decide +kernel
theorem dX11_take_15 : decode cX11_take 15 = .ok (.invokevirtual 647, 3) := by decide +kernel
theorem dX11_take_18 : decode cX11_take 18 = .ok (.iconst 0, 1) := by decide +kernel
theorem dX11_take_19 : decode cX11_take 19 = .ok (.iconst 0, 1) := by decide +kernel
theorem dX11_take_20 : decode cX11_take 20 = .ok (.invokevirtual 650, 3) := by decide +kernel
theorem dX11_take_23 : decode cX11_take 23 = .ok (.ifCond .ne 5, 3) := by decide +kernel
theorem dX11_take_26 : decode cX11_take 26 = .ok (.iconst (-1), 1) := by decide +kernel
theorem dX11_take_27 : decode cX11_take 27 = .ok (.ireturn, 1) := by decide +kernel
theorem dX11_take_28 : decode cX11_take 28 = .ok (.aload_n 0, 1) := by decide +kernel
theorem dX11_take_29 : decode cX11_take 29 = .ok (.invokevirtual 509, 3) := by decide +kernel
theorem dX11_take_32 : decode cX11_take 32 = .ok (.iconst 0, 1) := by decide +kernel
theorem dX11_take_33 : decode cX11_take 33 = .ok (.istore_n 1, 1) := by decide +kernel
theorem dX11_take_34 : decode cX11_take 34 = .ok (.iload_n 1, 1) := by decide +kernel
theorem dX11_take_35 : decode cX11_take 35 = .ok (.aload_n 0, 1) := by decide +kernel
theorem dX11_take_36 : decode cX11_take 36 = .ok (.invokevirtual 447, 3) := by decide +kernel
theorem dX11_take_39 : decode cX11_take 39 = .ok (.if_icmp .ge 26, 3) := by decide +kernel
theorem dX11_take_42 : decode cX11_take 42 = .ok (.aload_n 0, 1) := by decide +kernel
theorem dX11_take_43 : decode cX11_take 43 = .ok (.iload_n 1, 1) := by decide +kernel
theorem dX11_take_44 : decode cX11_take 44 = .ok (.iload_n 1, 1) := by decide +kernel
theorem dX11_take_45 : decode cX11_take 45 = .ok (.aload_n 0, 1) := by decide +kernel
theorem dX11_take_46 : decode cX11_take 46 = .ok (.getfield 203, 3) := by decide +kernel
theorem dX11_take_49 : decode cX11_take 49 = .ok (.iload_n 1, 1) := by decide +kernel
theorem dX11_take_50 : decode cX11_take 50 = .ok (.iaload, 1) := by decide +kernel
theorem dX11_take_51 : decode cX11_take 51 = .ok (.iconst 1, 1) := by decide +kernel
theorem dX11_take_52 : decode cX11_take 52 = .ok (.isub, 1) := by decide +kernel
theorem dX11_take_53 : decode cX11_take 53 = .ok (.invokestatic 604, 3) := by decide +kernel
theorem dX11_take_56 : decode cX11_take 56 = .ok (.invokevirtual 654, 3) := by decide +kernel
theorem dX11_take_59 : decode cX11_take 59 = .ok (.iinc 1 1, 3) := by decide +kernel
theorem dX11_take_62 : decode cX11_take 62 = .ok (.goto (-28), 3) := by decide +kernel
theorem dX11_take_65 : decode cX11_take 65 = .ok (.aload_n 0, 1) := by decide +kernel
theorem dX11_take_66 : decode cX11_take 66 = .ok (.getfield 619, 3) := by decide +kernel
theorem dX11_take_69 : decode cX11_take 69 = .ok (.ireturn, 1) := by decide +kernel
theorem dX11_takes_0 : decode cX11_takes 0 = .ok (.aload_n 0, 1) := by decide +kernel
theorem dX11_takes_1 : decode cX11_takes 1 = .ok (.aload_n 1, 1) := by decide +kernel
theorem dX11_takes_2 : decode cX11_takes 2 = .ok (.invokevirtual 247, 3) := by decide +kernel
theorem dX11_takes_5 : decode cX11_takes 5 = .ok (.ifCond .ne 5, 3) := by decide +kernel
theorem dX11_takes_8 : decode cX11_takes 8 = .ok (.iconst 0, 1) := by decide +kernel
theorem dX11_takes_9 : decode cX11_takes 9 = .ok (.ireturn, 1) := by decide +kernel
theorem dX11_takes_10 : decode cX11_takes 10 = .ok (.aload_n 0, 1) := by decide +kernel
theorem dX11_takes_11 : decode cX11_takes 11 = .ok (.dup, 1) := by decide +kernel
theorem dX11_takes_12 : decode cX11_takes 12 = .ok (.getfield 230, 3) := by decide +kernel
theorem dX11_takes_15 : decode cX11_takes 15 = .ok (.aload_n 1, 1) := by decide +kernel
theorem dX11_takes_16 : decode cX11_takes 16 = .ok (.arraylength, 1) := by decide +kernel
theorem dX11_takes_17 : decode cX11_takes 17 = .ok (.iadd, 1) := by decide +kernel
theorem dX11_takes_18 : decode cX11_takes 18 = .ok (.putfield 230, 3) := by decide +kernel
theorem dX11_takes_21 : decode cX11_takes 21 = .ok (.aload_n 0, 1) := by decide +kernel
theorem dX11_takes_22 : decode cX11_takes 22 = .ok (.aload_n 0, 1) := by decide +kernel
theorem dX11_takes_23 : decode cX11_takes 23 = .ok (.getfield 230, 3) := by decide +kernel
theorem dX11_takes_26 : decode cX11_takes 26 = .ok (.putfield 244, 3) := by decide +kernel
theorem dX11_takes_29 : decode cX11_takes 29 = .ok (.iconst 1, 1) := by decide +kernel
theorem dX11_takes_30 : decode cX11_takes 30 = .ok (.ireturn, 1) := by decide +kernel
theorem dX11_takesSign_0 : decode cX11_takesSign 0 = .ok (.aload_n 0, 1) := by decide +kernel
theorem dX11_takesSign_1 : decode cX11_takesSign 1 = .ok (.getfield 224, 3) := by decide +kernel
theorem dX11_takesSign_4 : decode cX11_takesSign 4 = .ok (.ifCond .ne 11, 3) := by decide +kernel
theorem dX11_takesSign_7 : decode cX11_takesSign 7 = .ok (.aload_n 0, 1) := by decide +kernel
theorem dX11_takesSign_8 : decode cX11_takesSign 8 = .ok (.invokevirtual 236, 3) := by decide +kernel
theorem dX11_takesSign_11 : decode cX11_takesSign 11 = .ok (.iload_n 1, 1) := by decide +kernel
theorem dX11_takesSign_12 : decode cX11_takesSign 12 = .ok (.if_icmp .eq 5, 3) := by decide +kernel
theorem dX11_takesSign_15 : decode cX11_takesSign 15 = .ok (.iconst 0, 1) := by decide +kernel
theorem dX11_takesSign_16 : decode cX11_takesSign 16 = .ok (.ireturn, 1) := by decide +kernel
theorem dX11_takesSign_17 : decode cX11_takesSign 17 = .ok (.aload_n 0, 1) := by decide +kernel
theorem dX11_takesSign_18 : decode cX11_takesSign 18 = .ok (.dup, 1) := by decide +kernel
theorem dX11_takesSign_19 : decode cX11_takesSign 19 = .ok (.getfield 230, 3) := by decide +kernel
theorem dX11_takesSign_22 : decode cX11_takesSign 22 = .ok (.iconst 1, 1) := by decide +kernel
theorem dX11_takesSign_23 : decode cX11_takesSign 23 = .ok (.iadd, 1) := by decide +kernel
theorem dX11_takesSign_24 : decode cX11_takesSign 24 = .ok (.putfield 230, 3) := by decide +kernel
theorem dX11_takesSign_27 : decode cX11_takesSign 27 = .ok (.iconst 1, 1) := by decide +kernel
theorem dX11_takesSign_28 : decode cX11_takesSign 28 = .ok (.ireturn, 1) := by decide +kernel
theorem dX11_test_0 : decode cX11_test 0 = .ok (.iconst 1, 1) := by decide +kernel
theorem dX11_test_1 : decode cX11_test 1 = .ok (.istore_n 1, 1) := by decide +kernel
theorem dX11_test_2 : decode cX11_test 2 = .ok (.iload_n 1, 1) := by decide +kernel
theorem dX11_test_3 : decode cX11_test 3 = .ok (.ifCond .eq 107, 3) := by decide +kernel
theorem dX11_test_6 : decode cX11_test 6 = .ok (.aload_n 0, 1) := by decide +kernel
theorem dX11_test_7 : decode cX11_test 7 = .ok (.getfield 224, 3) := by decide +kernel
theorem dX11_test_10 : decode cX11_test 10 = .ok (.ifCond .ne 100, 3) := by decide +kernel
theorem dX11_test_13 : decode cX11_test 13 = .ok (.aload_n 0, 1) := by decide +kernel
theorem dX11_test_14 : decode cX11_test 14 = .ok (.invokevirtual 236, 3) := by decide +kernel
theorem dX11_test_17 : decode cX11_test 17 = .ok (.istore_n 2, 1) := by decide +kernel
theorem dX11_test_18 : decode cX11_test 18 = .ok (.iload_n 2, 1) := by decide +kernel
theorem dX11_test_19 : decode cX11_test 19 = .ok (.bipush 91, 2) := by decide +kernel
theorem dX11_test_21 : decode cX11_test 21 = .ok (.if_icmp .ne 26, 3) := by decide +kernel
theorem dX11_test_24 : decode cX11_test 24 = .ok (.aload_n 0, 1) := by decide +kernel
theorem dX11_test_25 : decode cX11_test 25 = .ok (.bipush 25, 2) := by decide +kernel
theorem dX11_test_27 : decode cX11_test 27 = .ok (.aload_n 0, 1) := by decide +kernel
theorem dX11_test_28 : decode cX11_test 28 = .ok (.getfield 230, 3) := by decide +kernel
theorem dX11_test_31 : decode cX11_test 31 = .ok (.invokevirtual 379, 3) := by decide +kernel
theorem dX11_test_34 : decode cX11_test 34 = .ok (.aload_n 0, 1) := by decide +kernel
theorem dX11_test_35 : decode cX11_test 35 = .ok (.dup, 1) := by decide +kernel
theorem dX11_test_36 : decode cX11_test 36 = .ok (.getfield 230, 3) := by decide +kernel
theorem dX11_test_39 : decode cX11_test 39 = .ok (.iconst 1, 1) := by decide +kernel
theorem dX11_test_40 : decode cX11_test 40 = .ok (.iadd, 1) := by decide +kernel
theorem dX11_test_41 : decode cX11_test 41 = .ok (.putfield 230, 3) := by decide +kernel
theorem dX11_test_44 : decode cX11_test 44 = .ok (.goto (-42), 3) := by decide +kernel
theorem dX11_test_47 : decode cX11_test 47 = .ok (.aload_n 0, 1) := by decide +kernel
theorem dX11_test_48 : decode cX11_test 48 = .ok (.aload_n 0, 1) := by decide +kernel
theorem dX11_test_49 : decode cX11_test 49 = .ok (.getfield 72, 3) := by decide +kernel
theorem dX11_test_52 : decode cX11_test 52 = .ok (.invokevirtual 247, 3) := by decide +kernel
theorem dX11_test_55 : decode cX11_test 55 = .ok (.ifCond .eq 24, 3) := by decide +kernel
theorem dX11_test_58 : decode cX11_test 58 = .ok (.aload_n 0, 1) := by decide +kernel
theorem dX11_test_59 : decode cX11_test 59 = .ok (.bipush 16, 2) := by decide +kernel
theorem dX11_test_61 : decode cX11_test 61 = .ok (.aload_n 0, 1) := by decide +kernel
theorem dX11_test_62 : decode cX11_test 62 = .ok (.getfield 230, 3) := by decide +kernel
theorem dX11_test_65 : decode cX11_test 65 = .ok (.invokevirtual 379, 3) := by decide +kernel
theorem dX11_test_68 : decode cX11_test 68 = .ok (.aload_n 0, 1) := by decide +kernel
theorem dX11_test_69 : decode cX11_test 69 = .ok (.aload_n 0, 1) := by decide +kernel
theorem dX11_test_70 : decode cX11_test 70 = .ok (.getfield 72, 3) := by decide +kernel
theorem dX11_test_73 : decode cX11_test 73 = .ok (.invokevirtual 295, 3) := by decide +kernel
theorem dX11_test_76 : decode cX11_test 76 = .ok (.goto (-74), 3) := by decide +kernel
theorem dX11_test_79 : decode cX11_test 79 = .ok (.aload_n 0, 1) := by decide +kernel
theorem dX11_test_80 : decode cX11_test 80 = .ok (.invokevirtual 400, 3) := by decide +kernel
theorem dX11_test_83 : decode cX11_test 83 = .ok (.aload_n 0, 1) := by decide +kernel
theorem dX11_test_84 : decode cX11_test 84 = .ok (.invokevirtual 403, 3) := by decide +kernel
theorem dX11_test_87 : decode cX11_test 87 = .ok (.aload_n 0, 1) := by decide +kernel
theorem dX11_test_88 : decode cX11_test 88 = .ok (.getfield 224, 3) := by decide +kernel
theorem dX11_test_91 : decode cX11_test 91 = .ok (.ifCond .ne 14, 3) := by decide +kernel
theorem dX11_test_94 : decode cX11_test 94 = .ok (.aload_n 0, 1) := by decide +kernel
theorem dX11_test_95 : decode cX11_test 95 = .ok (.invokevirtual 406, 3) := by decide +kernel
theorem dX11_test_98 : decode cX11_test 98 = .ok (.ifCond .eq 7, 3) := by decide +kernel
theorem dX11_test_101 : decode cX11_test 101 = .ok (.iconst 1, 1) := by decide +kernel
theorem dX11_test_102 : decode cX11_test 102 = .ok (.goto 4, 3) := by decide +kernel
theorem dX11_test_105 : decode cX11_test 105 = .ok (.iconst 0, 1) := by decide +kernel
theorem dX11_test_106 : decode cX11_test 106 = .ok (.istore_n 1, 1) := by decide +kernel
theorem dX11_test_107 : decode cX11_test 107 = .ok (.goto (-105), 3) := by decide +kernel
theorem dX11_test_110 : decode cX11_test 110 = .ok (.aload_n 0, 1) := by decide +kernel
theorem dX11_test_111 : decode cX11_test 111 = .ok (.getfield 224, 3) := by decide +kernel
theorem dX11_test_114 : decode cX11_test 114 = .ok (.ifCond .ne 17, 3) := by decide +kernel
theorem dX11_test_117 : decode cX11_test 117 = .ok (.aload_n 0, 1) := by decide +kernel
theorem dX11_test_118 : decode cX11_test 118 = .ok (.getfield 309, 3) := by decide +kernel
theorem dX11_test_121 : decode cX11_test 121 = .ok (.ifCond .le 10, 3) := by decide +kernel
theorem dX11_test_124 : decode cX11_test 124 = .ok (.aload_n 0, 1) := by decide +kernel
theorem dX11_test_125 : decode cX11_test 125 = .ok (.invokevirtual 376, 3) := by decide +kernel
theorem dX11_test_128 : decode cX11_test 128 = .ok (.goto (-18), 3) := by decide +kernel
theorem dX11_test_131 : decode cX11_test 131 = .ok (.return_, 1) := by decide +kernel
theorem dX11_together_0 : decode cX11_together 0 = .ok (.iload_n 1, 1) := by decide +kernel
theorem dX11_together_1 : decode cX11_together 1 = .ok (.iconst (-1), 1) := by decide +kernel
theorem dX11_together_2 : decode cX11_together 2 = .ok (.if_icmp .eq 13, 3) := by decide +kernel
theorem dX11_together_5 : decode cX11_together 5 = .ok (.aload_n 0, 1) := by decide +kernel
theorem dX11_together_6 : decode cX11_together 6 = .ok (.iload_n 1, 1) := by decide +kernel
theorem dX11_together_7 : decode cX11_together 7 = .ok (.invokevirtual 481, 3) := by decide +kernel
theorem dX11_together_10 : decode cX11_together 10 = .ok (.ifCond .ne 5, 3) := by decide +kernel
theorem dX11_together_13 : decode cX11_together 13 = .ok (.iconst (-1), 1) := by decide +kernel
theorem dX11_together_14 : decode cX11_together 14 = .ok (.ireturn, 1) := by decide +kernel
theorem dX11_together_15 : decode cX11_together 15 = .ok (.aload_n 0, 1) := by decide +kernel
theorem dX11_together_16 : decode cX11_together 16 = .ok (.invokevirtual 644, 3) := by decide +kernel
theorem dX11_together_19 : decode cX11_together 19 = .ok (.aload_n 0, 1) := by decide +kernel
theorem dX11_together_20 : decode cX11_together 20 = .ok (.aload_n 0, 1) := by decide +kernel
theorem dX11_together_21 : decode cX11_together 21 = .ok (.invokevirtual 647, 3) := by decide +kernel
theorem dX11_together_24 : decode cX11_together 24 = .ok (.iconst 0, 1) := by decide +kernel
theorem dX11_together_25 : decode cX11_together 25 = .ok (.iconst 0, 1) := by decide +kernel
theorem dX11_together_26 : decode cX11_together 26 = .ok (.invokevirtual 650, 3) := by decide +kernel
theorem dX11_together_29 : decode cX11_together 29 = .ok (.ifCond .ne 5, 3) := by decide +kernel
theorem dX11_together_32 : decode cX11_together 32 = .ok (.iconst (-1), 1) := by decide +kernel
theorem dX11_together_33 : decode cX11_together 33 = .ok (.ireturn, 1) := by decide +kernel
theorem dX11_together_34 : decode cX11_together 34 = .ok (.iload_n 1, 1) := by decide +kernel
theorem dX11_together_35 : decode cX11_together 35 = .ok (.iconst (-1), 1) := by decide +kernel
theorem dX11_together_36 : decode cX11_together 36 = .ok (.if_icmp .ne 10, 3) := by decide +kernel
theorem dX11_together_39 : decode cX11_together 39 = .ok (.aload_n 0, 1) := by decide +kernel
theorem dX11_together_40 : decode cX11_together 40 = .ok (.getfield 619, 3) := by decide +kernel
theorem dX11_together_43 : decode cX11_together 43 = .ok (.goto 11, 3) := by decide +kernel
theorem dX11_together_46 : decode cX11_together 46 = .ok (.aload_n 0, 1) := by decide +kernel
theorem dX11_together_47 : decode cX11_together 47 = .ok (.getfield 203, 3) := by decide +kernel
theorem dX11_together_50 : decode cX11_together 50 = .ok (.iload_n 1, 1) := by decide +kernel
theorem dX11_together_51 : decode cX11_together 51 = .ok (.iaload, 1) := by decide +kernel
theorem dX11_together_52 : decode cX11_together 52 = .ok (.iconst 1, 1) := by decide +kernel
theorem dX11_together_53 : decode cX11_together 53 = .ok (.isub, 1) := by decide +kernel
theorem dX11_together_54 : decode cX11_together 54 = .ok (.ireturn, 1) := by decide +kernel
theorem dX11_treads_0 : decode cX11_treads 0 = .ok (.bipush 24, 2) := by decide +kernel
theorem dX11_treads_2 : decode cX11_treads 2 = .ok (.iload_n 1, 1) := by decide +kernel
theorem dX11_treads_3 : decode cX11_treads 3 = .ok (.imul, 1) := by decide +kernel
theorem dX11_treads_4 : decode cX11_treads 4 = .ok (.aload_n 0, 1) := by decide +kernel
theorem dX11_treads_5 : decode cX11_treads 5 = .ok (.getfield 145, 3) := by decide +kernel
theorem dX11_treads_8 : decode cX11_treads 8 = .ok (.iload_n 1, 1) := by decide +kernel
theorem dX11_treads_9 : decode cX11_treads 9 = .ok (.iaload, 1) := by decide +kernel
theorem dX11_treads_10 : decode cX11_treads 10 = .ok (.iadd, 1) := by decide +kernel
theorem dX11_treads_11 : decode cX11_treads 11 = .ok (.istore 5, 2) := by decide +kernel
theorem dX11_treads_13 : decode cX11_treads 13 = .ok (.aload_n 0, 1) := by decide +kernel
theorem dX11_treads_14 : decode cX11_treads 14 = .ok (.iload_n 1, 1) := by decide +kernel
theorem dX11_treads_15 : decode cX11_treads 15 = .ok (.invokevirtual 459, 3) := by decide +kernel
theorem dX11_treads_18 : decode cX11_treads 18 = .ok (.istore 6, 2) := by decide +kernel
theorem dX11_treads_20 : decode cX11_treads 20 = .ok (.aload_n 0, 1) := by decide +kernel
theorem dX11_treads_21 : decode cX11_treads 21 = .ok (.getfield 148, 3) := by decide +kernel
theorem dX11_treads_24 : decode cX11_treads 24 = .ok (.iload 5, 2) := by decide +kernel
theorem dX11_treads_26 : decode cX11_treads 26 = .ok (.iload_n 2, 1) := by decide +kernel
theorem dX11_treads_27 : decode cX11_treads 27 = .ok (.iastore, 1) := by decide +kernel
theorem dX11_treads_28 : decode cX11_treads 28 = .ok (.aload_n 0, 1) := by decide +kernel
theorem dX11_treads_29 : decode cX11_treads 29 = .ok (.getfield 151, 3) := by decide +kernel
theorem dX11_treads_32 : decode cX11_treads 32 = .ok (.iload 5, 2) := by decide +kernel
theorem dX11_treads_34 : decode cX11_treads 34 = .ok (.iload_n 3, 1) := by decide +kernel
theorem dX11_treads_35 : decode cX11_treads 35 = .ok (.iastore, 1) := by decide +kernel
theorem dX11_treads_36 : decode cX11_treads 36 = .ok (.aload_n 0, 1) := by decide +kernel
theorem dX11_treads_37 : decode cX11_treads 37 = .ok (.getfield 154, 3) := by decide +kernel
theorem dX11_treads_40 : decode cX11_treads 40 = .ok (.iload 5, 2) := by decide +kernel
theorem dX11_treads_42 : decode cX11_treads 42 = .ok (.iload 6, 2) := by decide +kernel
theorem dX11_treads_44 : decode cX11_treads 44 = .ok (.iload 4, 2) := by decide +kernel
theorem dX11_treads_46 : decode cX11_treads 46 = .ok (.iadd, 1) := by decide +kernel
theorem dX11_treads_47 : decode cX11_treads 47 = .ok (.iastore, 1) := by decide +kernel
theorem dX11_treads_48 : decode cX11_treads 48 = .ok (.aload_n 0, 1) := by decide +kernel
theorem dX11_treads_49 : decode cX11_treads 49 = .ok (.getfield 145, 3) := by decide +kernel
theorem dX11_treads_52 : decode cX11_treads 52 = .ok (.iload_n 1, 1) := by decide +kernel
theorem dX11_treads_53 : decode cX11_treads 53 = .ok (.dup2, 1) := by decide +kernel
theorem dX11_treads_54 : decode cX11_treads 54 = .ok (.iaload, 1) := by decide +kernel
theorem dX11_treads_55 : decode cX11_treads 55 = .ok (.iconst 1, 1) := by decide +kernel
theorem dX11_treads_56 : decode cX11_treads 56 = .ok (.iadd, 1) := by decide +kernel
theorem dX11_treads_57 : decode cX11_treads 57 = .ok (.iastore, 1) := by decide +kernel
theorem dX11_treads_58 : decode cX11_treads 58 = .ok (.return_, 1) := by decide +kernel
theorem dX11_trodden_0 : decode cX11_trodden 0 = .ok (.iconst 0, 1) := by decide +kernel
theorem dX11_trodden_1 : decode cX11_trodden 1 = .ok (.istore_n 1, 1) := by decide +kernel
theorem dX11_trodden_2 : decode cX11_trodden 2 = .ok (.iconst 0, 1) := by decide +kernel
theorem dX11_trodden_3 : decode cX11_trodden 3 = .ok (.istore_n 2, 1) := by decide +kernel
theorem dX11_trodden_4 : decode cX11_trodden 4 = .ok (.iload_n 2, 1) := by decide +kernel
theorem dX11_trodden_5 : decode cX11_trodden 5 = .ok (.aload_n 0, 1) := by decide +kernel
theorem dX11_trodden_6 : decode cX11_trodden 6 = .ok (.invokevirtual 447, 3) := by decide +kernel
theorem dX11_trodden_9 : decode cX11_trodden 9 = .ok (.if_icmp .ge 97, 3) := by decide +kernel
theorem dX11_trodden_12 : decode cX11_trodden 12 = .ok (.iconst 0, 1) := by decide +kernel
theorem dX11_trodden_13 : decode cX11_trodden 13 = .ok (.istore_n 3, 1) := by decide +kernel
theorem dX11_trodden_14 : decode cX11_trodden 14 = .ok (.iload_n 3, 1) := by decide +kernel
theorem dX11_trodden_15 : decode cX11_trodden 15 = .ok (.aload_n 0, 1) := by decide +kernel
theorem dX11_trodden_16 : decode cX11_trodden 16 = .ok (.invokevirtual 447, 3) := by decide +kernel
theorem dX11_trodden_19 : decode cX11_trodden 19 = .ok (.if_icmp .ge 81, 3) := by decide +kernel
theorem dX11_trodden_22 : decode cX11_trodden 22 = .ok (.iload_n 2, 1) := by decide +kernel
theorem dX11_trodden_23 : decode cX11_trodden 23 = .ok (.iload_n 3, 1) := by decide +kernel
theorem dX11_trodden_24 : decode cX11_trodden 24 = .ok (.if_icmp .eq 70, 3) := by decide +kernel
theorem dX11_trodden_27 : decode cX11_trodden 27 = .ok (.aload_n 0, 1) := by decide +kernel
theorem dX11_trodden_28 : decode cX11_trodden 28 = .ok (.getfield 145, 3) := by decide +kernel
theorem dX11_trodden_31 : decode cX11_trodden 31 = .ok (.iload_n 2, 1) := by decide +kernel
theorem dX11_trodden_32 : decode cX11_trodden 32 = .ok (.iaload, 1) := by decide +kernel
theorem dX11_trodden_33 : decode cX11_trodden 33 = .ok (.ifCond .ne 6, 3) := by decide +kernel
theorem dX11_trodden_36 : decode cX11_trodden 36 = .ok (.goto 58, 3) := by decide +kernel
theorem dX11_trodden_39 : decode cX11_trodden 39 = .ok (.iconst 1, 1) := by decide +kernel
theorem dX11_trodden_40 : decode cX11_trodden 40 = .ok (.istore 4, 2) := by decide +kernel
theorem dX11_trodden_42 : decode cX11_trodden 42 = .ok (.iload 4, 2) := by decide +kernel
theorem dX11_trodden_44 : decode cX11_trodden 44 = .ok (.aload_n 0, 1) := by decide +kernel
theorem dX11_trodden_45 : decode cX11_trodden 45 = .ok (.iload_n 2, 1) := by decide +kernel
theorem dX11_trodden_46 : decode cX11_trodden 46 = .ok (.invokevirtual 459, 3) := by decide +kernel
theorem dX11_trodden_49 : decode cX11_trodden 49 = .ok (.if_icmp .gt 45, 3) := by decide +kernel
theorem dX11_trodden_52 : decode cX11_trodden 52 = .ok (.aload_n 0, 1) := by decide +kernel
theorem dX11_trodden_53 : decode cX11_trodden 53 = .ok (.iload_n 2, 1) := by decide +kernel
theorem dX11_trodden_54 : decode cX11_trodden 54 = .ok (.iload_n 3, 1) := by decide +kernel
theorem dX11_trodden_55 : decode cX11_trodden 55 = .ok (.iload 4, 2) := by decide +kernel
theorem dX11_trodden_57 : decode cX11_trodden 57 = .ok (.invokevirtual 543, 3) := by decide +kernel
theorem dX11_trodden_60 : decode cX11_trodden 60 = .ok (.ifCond .eq 28, 3) := by decide +kernel
theorem dX11_trodden_63 : decode cX11_trodden 63 = .ok (.aload_n 0, 1) := by decide +kernel
theorem dX11_trodden_64 : decode cX11_trodden 64 = .ok (.iload 4, 2) := by decide +kernel
theorem dX11_trodden_66 : decode cX11_trodden 66 = .ok (.iconst 1, 1) := by decide +kernel
theorem dX11_trodden_67 : decode cX11_trodden 67 = .ok (.iconst 0, 1) := by decide +kernel
theorem dX11_trodden_68 : decode cX11_trodden 68 = .ok (.iload_n 2, 1) := by decide +kernel
theorem dX11_trodden_69 : decode cX11_trodden 69 = .ok (.iload_n 3, 1) := by decide +kernel
theorem dX11_trodden_70 : decode cX11_trodden 70 = .ok (.invokevirtual 555, 3) := by decide +kernel
theorem dX11_trodden_73 : decode cX11_trodden 73 = .ok (.ifCond .ne 15, 3) := by decide +kernel
theorem dX11_trodden_76 : decode cX11_trodden 76 = .ok (.iload_n 1, 1) := by decide +kernel
theorem dX11_trodden_77 : decode cX11_trodden 77 = .ok (.iconst 1, 1) := by decide +kernel
theorem dX11_trodden_78 : decode cX11_trodden 78 = .ok (.aload_n 0, 1) := by decide +kernel
theorem dX11_trodden_79 : decode cX11_trodden 79 = .ok (.iload_n 2, 1) := by decide +kernel
theorem dX11_trodden_80 : decode cX11_trodden 80 = .ok (.iload 4, 2) := by decide +kernel
theorem dX11_trodden_82 : decode cX11_trodden 82 = .ok (.invokevirtual 526, 3) := by decide +kernel
theorem dX11_trodden_85 : decode cX11_trodden 85 = .ok (.ishl, 1) := by decide +kernel
theorem dX11_trodden_86 : decode cX11_trodden 86 = .ok (.ior, 1) := by decide +kernel
theorem dX11_trodden_87 : decode cX11_trodden 87 = .ok (.istore_n 1, 1) := by decide +kernel
theorem dX11_trodden_88 : decode cX11_trodden 88 = .ok (.iinc 4 1, 3) := by decide +kernel
theorem dX11_trodden_91 : decode cX11_trodden 91 = .ok (.goto (-49), 3) := by decide +kernel
theorem dX11_trodden_94 : decode cX11_trodden 94 = .ok (.iinc 3 1, 3) := by decide +kernel
theorem dX11_trodden_97 : decode cX11_trodden 97 = .ok (.goto (-83), 3) := by decide +kernel
theorem dX11_trodden_100 : decode cX11_trodden 100 = .ok (.iinc 2 1, 3) := by decide +kernel
theorem dX11_trodden_103 : decode cX11_trodden 103 = .ok (.goto (-99), 3) := by decide +kernel
theorem dX11_trodden_106 : decode cX11_trodden 106 = .ok (.iload_n 1, 1) := by decide +kernel
theorem dX11_trodden_107 : decode cX11_trodden 107 = .ok (.ireturn, 1) := by decide +kernel
theorem dX11_turn_0 : decode cX11_turn 0 = .ok (.aload_n 0, 1) := by decide +kernel
theorem dX11_turn_1 : decode cX11_turn 1 = .ok (.invokevirtual 644, 3) := by decide +kernel
theorem dX11_turn_4 : decode cX11_turn 4 = .ok (.aload_n 0, 1) := by decide +kernel
theorem dX11_turn_5 : decode cX11_turn 5 = .ok (.invokevirtual 490, 3) := by decide +kernel
theorem dX11_turn_8 : decode cX11_turn 8 = .ok (.iconst 0, 1) := by decide +kernel
theorem dX11_turn_9 : decode cX11_turn 9 = .ok (.istore_n 1, 1) := by decide +kernel
theorem dX11_turn_10 : decode cX11_turn 10 = .ok (.iconst 0, 1) := by decide +kernel
theorem dX11_turn_11 : decode cX11_turn 11 = .ok (.istore_n 2, 1) := by decide +kernel
theorem dX11_turn_12 : decode cX11_turn 12 = .ok (.iload_n 2, 1) := by decide +kernel
theorem dX11_turn_13 : decode cX11_turn 13 = .ok (.aload_n 0, 1) := by decide +kernel
theorem dX11_turn_14 : decode cX11_turn 14 = .ok (.invokevirtual 447, 3) := by decide +kernel
theorem dX11_turn_17 : decode cX11_turn 17 = .ok (.if_icmp .ge 126, 3) := by decide +kernel
theorem dX11_turn_20 : decode cX11_turn 20 = .ok (.iconst (-1), 1) := by decide +kernel
theorem dX11_turn_21 : decode cX11_turn 21 = .ok (.istore_n 3, 1) := by decide +kernel
theorem dX11_turn_22 : decode cX11_turn 22 = .ok (.iconst 0, 1) := by decide +kernel
theorem dX11_turn_23 : decode cX11_turn 23 = .ok (.istore 4, 2) := by decide +kernel
theorem dX11_turn_25 : decode cX11_turn 25 = .ok (.iload 4, 2) := by decide +kernel
theorem dX11_turn_27 : decode cX11_turn 27 = .ok (.aload_n 0, 1) := by decide +kernel
theorem dX11_turn_28 : decode cX11_turn 28 = .ok (.iload_n 2, 1) := by decide +kernel
theorem dX11_turn_29 : decode cX11_turn 29 = .ok (.invokevirtual 641, 3) := by decide +kernel
theorem dX11_turn_32 : decode cX11_turn 32 = .ok (.if_icmp .ge 49, 3) := by decide +kernel
theorem dX11_turn_35 : decode cX11_turn 35 = .ok (.iload_n 2, 1) := by decide +kernel
theorem dX11_turn_36 : decode cX11_turn 36 = .ok (.iload 4, 2) := by decide +kernel
theorem dX11_turn_38 : decode cX11_turn 38 = .ok (.invokestatic 604, 3) := by decide +kernel
theorem dX11_turn_41 : decode cX11_turn 41 = .ok (.istore 5, 2) := by decide +kernel
theorem dX11_turn_43 : decode cX11_turn 43 = .ok (.iload_n 3, 1) := by decide +kernel
theorem dX11_turn_44 : decode cX11_turn 44 = .ok (.iconst (-1), 1) := by decide +kernel
theorem dX11_turn_45 : decode cX11_turn 45 = .ok (.if_icmp .eq 17, 3) := by decide +kernel
theorem dX11_turn_48 : decode cX11_turn 48 = .ok (.aload_n 0, 1) := by decide +kernel
theorem dX11_turn_49 : decode cX11_turn 49 = .ok (.iload 5, 2) := by decide +kernel
theorem dX11_turn_51 : decode cX11_turn 51 = .ok (.invokevirtual 459, 3) := by decide +kernel
theorem dX11_turn_54 : decode cX11_turn 54 = .ok (.aload_n 0, 1) := by decide +kernel
theorem dX11_turn_55 : decode cX11_turn 55 = .ok (.iload_n 3, 1) := by decide +kernel
theorem dX11_turn_56 : decode cX11_turn 56 = .ok (.invokevirtual 459, 3) := by decide +kernel
theorem dX11_turn_59 : decode cX11_turn 59 = .ok (.if_icmp .ge 16, 3) := by decide +kernel
theorem dX11_turn_62 : decode cX11_turn 62 = .ok (.aload_n 0, 1) := by decide +kernel
theorem dX11_turn_63 : decode cX11_turn 63 = .ok (.iload 5, 2) := by decide +kernel
theorem dX11_turn_65 : decode cX11_turn 65 = .ok (.iload_n 2, 1) := by decide +kernel
theorem dX11_turn_66 : decode cX11_turn 66 = .ok (.invokevirtual 657, 3) := by decide +kernel
theorem dX11_turn_69 : decode cX11_turn 69 = .ok (.ifCond .eq 6, 3) := by decide +kernel
theorem dX11_turn_72 : decode cX11_turn 72 = .ok (.iload 5, 2) := by decide +kernel
theorem dX11_turn_74 : decode cX11_turn 74 = .ok (.istore_n 3, 1) := by decide +kernel
theorem dX11_turn_75 : decode cX11_turn 75 = .ok (.iinc 4 1, 3) := by decide +kernel
theorem dX11_turn_78 : decode cX11_turn 78 = .ok (.goto (-53), 3) := by decide +kernel
theorem dX11_turn_81 : decode cX11_turn 81 = .ok (.iload_n 3, 1) := by decide +kernel
theorem dX11_turn_82 : decode cX11_turn 82 = .ok (.iconst (-1), 1) := by decide +kernel
theorem dX11_turn_83 : decode cX11_turn 83 = .ok (.if_icmp .eq 54, 3) := by decide +kernel
theorem dX11_turn_86 : decode cX11_turn 86 = .ok (.aload_n 0, 1) := by decide +kernel
theorem dX11_turn_87 : decode cX11_turn 87 = .ok (.iload_n 3, 1) := by decide +kernel
theorem dX11_turn_88 : decode cX11_turn 88 = .ok (.invokevirtual 459, 3) := by decide +kernel
theorem dX11_turn_91 : decode cX11_turn 91 = .ok (.aload_n 0, 1) := by decide +kernel
theorem dX11_turn_92 : decode cX11_turn 92 = .ok (.iload_n 2, 1) := by decide +kernel
theorem dX11_turn_93 : decode cX11_turn 93 = .ok (.invokevirtual 459, 3) := by decide +kernel
theorem dX11_turn_96 : decode cX11_turn 96 = .ok (.if_icmp .lt 32, 3) := by decide +kernel
theorem dX11_turn_99 : decode cX11_turn 99 = .ok (.aload_n 0, 1) := by decide +kernel
theorem dX11_turn_100 : decode cX11_turn 100 = .ok (.getfield 145, 3) := by decide +kernel
theorem dX11_turn_103 : decode cX11_turn 103 = .ok (.iload_n 2, 1) := by decide +kernel
theorem dX11_turn_104 : decode cX11_turn 104 = .ok (.iaload, 1) := by decide +kernel
theorem dX11_turn_105 : decode cX11_turn 105 = .ok (.ifCond .le 23, 3) := by decide +kernel
theorem dX11_turn_108 : decode cX11_turn 108 = .ok (.aload_n 0, 1) := by decide +kernel
theorem dX11_turn_109 : decode cX11_turn 109 = .ok (.iload_n 2, 1) := by decide +kernel
theorem dX11_turn_110 : decode cX11_turn 110 = .ok (.iload_n 2, 1) := by decide +kernel
theorem dX11_turn_111 : decode cX11_turn 111 = .ok (.invokevirtual 657, 3) := by decide +kernel
theorem dX11_turn_114 : decode cX11_turn 114 = .ok (.ifCond .eq 14, 3) := by decide +kernel
theorem dX11_turn_117 : decode cX11_turn 117 = .ok (.aload_n 0, 1) := by decide +kernel
theorem dX11_turn_118 : decode cX11_turn 118 = .ok (.iload_n 2, 1) := by decide +kernel
theorem dX11_turn_119 : decode cX11_turn 119 = .ok (.invokevirtual 610, 3) := by decide +kernel
theorem dX11_turn_122 : decode cX11_turn 122 = .ok (.ifCond .eq 6, 3) := by decide +kernel
theorem dX11_turn_125 : decode cX11_turn 125 = .ok (.goto 12, 3) := by decide +kernel
theorem dX11_turn_128 : decode cX11_turn 128 = .ok (.aload_n 0, 1) := by decide +kernel
theorem dX11_turn_129 : decode cX11_turn 129 = .ok (.iload_n 2, 1) := by decide +kernel
theorem dX11_turn_130 : decode cX11_turn 130 = .ok (.iload_n 3, 1) := by decide +kernel
theorem dX11_turn_131 : decode cX11_turn 131 = .ok (.invokevirtual 654, 3) := by decide +kernel
theorem dX11_turn_134 : decode cX11_turn 134 = .ok (.iinc 1 1, 3) := by decide +kernel
theorem dX11_turn_137 : decode cX11_turn 137 = .ok (.iinc 2 1, 3) := by decide +kernel
theorem dX11_turn_140 : decode cX11_turn 140 = .ok (.goto (-128), 3) := by decide +kernel
theorem dX11_turn_143 : decode cX11_turn 143 = .ok (.iload_n 1, 1) := by decide +kernel
theorem dX11_turn_144 : decode cX11_turn 144 = .ok (.ifCond .le 7, 3) := by decide +kernel
theorem dX11_turn_147 : decode cX11_turn 147 = .ok (.aload_n 0, 1) := by decide +kernel
theorem dX11_turn_148 : decode cX11_turn 148 = .ok (.invokevirtual 493, 3) := by decide +kernel
theorem dX11_turn_151 : decode cX11_turn 151 = .ok (.iload_n 1, 1) := by decide +kernel
theorem dX11_turn_152 : decode cX11_turn 152 = .ok (.ireturn, 1) := by decide +kernel
theorem dX11_undo_0 : decode cX11_undo 0 = .ok (.aload_n 0, 1) := by decide +kernel
theorem dX11_undo_1 : decode cX11_undo 1 = .ok (.getfield 364, 3) := by decide +kernel
theorem dX11_undo_4 : decode cX11_undo 4 = .ok (.ifCond .ne 5, 3) := by decide +kernel
theorem dX11_undo_7 : decode cX11_undo 7 = .ok (.iconst 0, 1) := by decide +kernel
theorem dX11_undo_8 : decode cX11_undo 8 = .ok (.ireturn, 1) := by decide +kernel
theorem dX11_undo_9 : decode cX11_undo 9 = .ok (.iconst 0, 1) := by decide +kernel
theorem dX11_undo_10 : decode cX11_undo 10 = .ok (.istore_n 1, 1) := by decide +kernel
theorem dX11_undo_11 : decode cX11_undo 11 = .ok (.iload_n 1, 1) := by decide +kernel
theorem dX11_undo_12 : decode cX11_undo 12 = .ok (.iconst 4, 1) := by decide +kernel
theorem dX11_undo_13 : decode cX11_undo 13 = .ok (.if_icmp .ge 28, 3) := by decide +kernel
theorem dX11_undo_16 : decode cX11_undo 16 = .ok (.aload_n 0, 1) := by decide +kernel
theorem dX11_undo_17 : decode cX11_undo 17 = .ok (.getfield 145, 3) := by decide +kernel
theorem dX11_undo_20 : decode cX11_undo 20 = .ok (.iload_n 1, 1) := by decide +kernel
theorem dX11_undo_21 : decode cX11_undo 21 = .ok (.aload_n 0, 1) := by decide +kernel
theorem dX11_undo_22 : decode cX11_undo 22 = .ok (.getfield 157, 3) := by decide +kernel
theorem dX11_undo_25 : decode cX11_undo 25 = .ok (.iconst 4, 1) := by decide +kernel
theorem dX11_undo_26 : decode cX11_undo 26 = .ok (.aload_n 0, 1) := by decide +kernel
theorem dX11_undo_27 : decode cX11_undo 27 = .ok (.getfield 487, 3) := by decide +kernel
theorem dX11_undo_30 : decode cX11_undo 30 = .ok (.imul, 1) := by decide +kernel
theorem dX11_undo_31 : decode cX11_undo 31 = .ok (.iload_n 1, 1) := by decide +kernel
theorem dX11_undo_32 : decode cX11_undo 32 = .ok (.iadd, 1) := by decide +kernel
theorem dX11_undo_33 : decode cX11_undo 33 = .ok (.iaload, 1) := by decide +kernel
theorem dX11_undo_34 : decode cX11_undo 34 = .ok (.iastore, 1) := by decide +kernel
theorem dX11_undo_35 : decode cX11_undo 35 = .ok (.iinc 1 1, 3) := by decide +kernel
theorem dX11_undo_38 : decode cX11_undo 38 = .ok (.goto (-27), 3) := by decide +kernel
theorem dX11_undo_41 : decode cX11_undo 41 = .ok (.iconst 0, 1) := by decide +kernel
theorem dX11_undo_42 : decode cX11_undo 42 = .ok (.istore_n 1, 1) := by decide +kernel
theorem dX11_undo_43 : decode cX11_undo 43 = .ok (.iload_n 1, 1) := by decide +kernel
theorem dX11_undo_44 : decode cX11_undo 44 = .ok (.bipush 96, 2) := by decide +kernel
theorem dX11_undo_46 : decode cX11_undo 46 = .ok (.if_icmp .ge 69, 3) := by decide +kernel
theorem dX11_undo_49 : decode cX11_undo 49 = .ok (.aload_n 0, 1) := by decide +kernel
theorem dX11_undo_50 : decode cX11_undo 50 = .ok (.getfield 148, 3) := by decide +kernel
theorem dX11_undo_53 : decode cX11_undo 53 = .ok (.iload_n 1, 1) := by decide +kernel
theorem dX11_undo_54 : decode cX11_undo 54 = .ok (.aload_n 0, 1) := by decide +kernel
theorem dX11_undo_55 : decode cX11_undo 55 = .ok (.getfield 160, 3) := by decide +kernel
theorem dX11_undo_58 : decode cX11_undo 58 = .ok (.bipush 96, 2) := by decide +kernel
theorem dX11_undo_60 : decode cX11_undo 60 = .ok (.aload_n 0, 1) := by decide +kernel
theorem dX11_undo_61 : decode cX11_undo 61 = .ok (.getfield 487, 3) := by decide +kernel
theorem dX11_undo_64 : decode cX11_undo 64 = .ok (.imul, 1) := by decide +kernel
theorem dX11_undo_65 : decode cX11_undo 65 = .ok (.iload_n 1, 1) := by decide +kernel
theorem dX11_undo_66 : decode cX11_undo 66 = .ok (.iadd, 1) := by decide +kernel
theorem dX11_undo_67 : decode cX11_undo 67 = .ok (.iaload, 1) := by decide +kernel
theorem dX11_undo_68 : decode cX11_undo 68 = .ok (.iastore, 1) := by decide +kernel
theorem dX11_undo_69 : decode cX11_undo 69 = .ok (.aload_n 0, 1) := by decide +kernel
theorem dX11_undo_70 : decode cX11_undo 70 = .ok (.getfield 151, 3) := by decide +kernel
theorem dX11_undo_73 : decode cX11_undo 73 = .ok (.iload_n 1, 1) := by decide +kernel
theorem dX11_undo_74 : decode cX11_undo 74 = .ok (.aload_n 0, 1) := by decide +kernel
theorem dX11_undo_75 : decode cX11_undo 75 = .ok (.getfield 163, 3) := by decide +kernel
theorem dX11_undo_78 : decode cX11_undo 78 = .ok (.bipush 96, 2) := by decide +kernel
theorem dX11_undo_80 : decode cX11_undo 80 = .ok (.aload_n 0, 1) := by decide +kernel
theorem dX11_undo_81 : decode cX11_undo 81 = .ok (.getfield 487, 3) := by decide +kernel
theorem dX11_undo_84 : decode cX11_undo 84 = .ok (.imul, 1) := by decide +kernel
theorem dX11_undo_85 : decode cX11_undo 85 = .ok (.iload_n 1, 1) := by decide +kernel
theorem dX11_undo_86 : decode cX11_undo 86 = .ok (.iadd, 1) := by decide +kernel
theorem dX11_undo_87 : decode cX11_undo 87 = .ok (.iaload, 1) := by decide +kernel
theorem dX11_undo_88 : decode cX11_undo 88 = .ok (.iastore, 1) := by decide +kernel
theorem dX11_undo_89 : decode cX11_undo 89 = .ok (.aload_n 0, 1) := by decide +kernel
theorem dX11_undo_90 : decode cX11_undo 90 = .ok (.getfield 154, 3) := by decide +kernel
theorem dX11_undo_93 : decode cX11_undo 93 = .ok (.iload_n 1, 1) := by decide +kernel
theorem dX11_undo_94 : decode cX11_undo 94 = .ok (.aload_n 0, 1) := by decide +kernel
theorem dX11_undo_95 : decode cX11_undo 95 = .ok (.getfield 166, 3) := by decide +kernel
theorem dX11_undo_98 : decode cX11_undo 98 = .ok (.bipush 96, 2) := by decide +kernel
theorem dX11_undo_100 : decode cX11_undo 100 = .ok (.aload_n 0, 1) := by decide +kernel
theorem dX11_undo_101 : decode cX11_undo 101 = .ok (.getfield 487, 3) := by decide +kernel
theorem dX11_undo_104 : decode cX11_undo 104 = .ok (.imul, 1) := by decide +kernel
theorem dX11_undo_105 : decode cX11_undo 105 = .ok (.iload_n 1, 1) := by decide +kernel
theorem dX11_undo_106 : decode cX11_undo 106 = .ok (.iadd, 1) := by decide +kernel
theorem dX11_undo_107 : decode cX11_undo 107 = .ok (.iaload, 1) := by decide +kernel
theorem dX11_undo_108 : decode cX11_undo 108 = .ok (.iastore, 1) := by decide +kernel
theorem dX11_undo_109 : decode cX11_undo 109 = .ok (.iinc 1 1, 3) := by decide +kernel
theorem dX11_undo_112 : decode cX11_undo 112 = .ok (.goto (-69), 3) := by decide +kernel
theorem dX11_undo_115 : decode cX11_undo 115 = .ok (.aload_n 0, 1) := by decide +kernel
theorem dX11_undo_116 : decode cX11_undo 116 = .ok (.aload_n 0, 1) := by decide +kernel
theorem dX11_undo_117 : decode cX11_undo 117 = .ok (.getfield 169, 3) := by decide +kernel
theorem dX11_undo_120 : decode cX11_undo 120 = .ok (.aload_n 0, 1) := by decide +kernel
theorem dX11_undo_121 : decode cX11_undo 121 = .ok (.getfield 487, 3) := by decide +kernel
theorem dX11_undo_124 : decode cX11_undo 124 = .ok (.iaload, 1) := by decide +kernel
theorem dX11_undo_125 : decode cX11_undo 125 = .ok (.putfield 358, 3) := by decide +kernel
theorem dX11_undo_128 : decode cX11_undo 128 = .ok (.aload_n 0, 1) := by decide +kernel
theorem dX11_undo_129 : decode cX11_undo 129 = .ok (.aload_n 0, 1) := by decide +kernel
theorem dX11_undo_130 : decode cX11_undo 130 = .ok (.getfield 172, 3) := by decide +kernel
theorem dX11_undo_133 : decode cX11_undo 133 = .ok (.aload_n 0, 1) := by decide +kernel
theorem dX11_undo_134 : decode cX11_undo 134 = .ok (.getfield 487, 3) := by decide +kernel
theorem dX11_undo_137 : decode cX11_undo 137 = .ok (.iaload, 1) := by decide +kernel
theorem dX11_undo_138 : decode cX11_undo 138 = .ok (.putfield 361, 3) := by decide +kernel
theorem dX11_undo_141 : decode cX11_undo 141 = .ok (.aload_n 0, 1) := by decide +kernel
theorem dX11_undo_142 : decode cX11_undo 142 = .ok (.aload_n 0, 1) := by decide +kernel
theorem dX11_undo_143 : decode cX11_undo 143 = .ok (.getfield 487, 3) := by decide +kernel
theorem dX11_undo_146 : decode cX11_undo 146 = .ok (.bipush 20, 2) := by decide +kernel
theorem dX11_undo_148 : decode cX11_undo 148 = .ok (.iadd, 1) := by decide +kernel
theorem dX11_undo_149 : decode cX11_undo 149 = .ok (.iconst 1, 1) := by decide +kernel
theorem dX11_undo_150 : decode cX11_undo 150 = .ok (.isub, 1) := by decide +kernel
theorem dX11_undo_151 : decode cX11_undo 151 = .ok (.bipush 20, 2) := by decide +kernel
theorem dX11_undo_153 : decode cX11_undo 153 = .ok (.irem, 1) := by decide +kernel
theorem dX11_undo_154 : decode cX11_undo 154 = .ok (.putfield 487, 3) := by decide +kernel
theorem dX11_undo_157 : decode cX11_undo 157 = .ok (.aload_n 0, 1) := by decide +kernel
theorem dX11_undo_158 : decode cX11_undo 158 = .ok (.dup, 1) := by decide +kernel
theorem dX11_undo_159 : decode cX11_undo 159 = .ok (.getfield 364, 3) := by decide +kernel
theorem dX11_undo_162 : decode cX11_undo 162 = .ok (.iconst 1, 1) := by decide +kernel
theorem dX11_undo_163 : decode cX11_undo 163 = .ok (.isub, 1) := by decide +kernel
theorem dX11_undo_164 : decode cX11_undo 164 = .ok (.putfield 364, 3) := by decide +kernel
theorem dX11_undo_167 : decode cX11_undo 167 = .ok (.iconst 1, 1) := by decide +kernel
theorem dX11_undo_168 : decode cX11_undo 168 = .ok (.ireturn, 1) := by decide +kernel
theorem dX11_usedBy_0 : decode cX11_usedBy 0 = .ok (.iconst 0, 1) := by decide +kernel
theorem dX11_usedBy_1 : decode cX11_usedBy 1 = .ok (.istore_n 2, 1) := by decide +kernel
theorem dX11_usedBy_2 : decode cX11_usedBy 2 = .ok (.iconst 0, 1) := by decide +kernel
theorem dX11_usedBy_3 : decode cX11_usedBy 3 = .ok (.istore_n 3, 1) := by decide +kernel
theorem dX11_usedBy_4 : decode cX11_usedBy 4 = .ok (.iload_n 3, 1) := by decide +kernel
theorem dX11_usedBy_5 : decode cX11_usedBy 5 = .ok (.iload_n 1, 1) := by decide +kernel
theorem dX11_usedBy_6 : decode cX11_usedBy 6 = .ok (.if_icmp .ge 28, 3) := by decide +kernel
theorem dX11_usedBy_9 : decode cX11_usedBy 9 = .ok (.iload_n 2, 1) := by decide +kernel
theorem dX11_usedBy_10 : decode cX11_usedBy 10 = .ok (.iconst 1, 1) := by decide +kernel
theorem dX11_usedBy_11 : decode cX11_usedBy 11 = .ok (.aload_n 0, 1) := by decide +kernel
theorem dX11_usedBy_12 : decode cX11_usedBy 12 = .ok (.getfield 106, 3) := by decide +kernel
theorem dX11_usedBy_15 : decode cX11_usedBy 15 = .ok (.bipush 10, 2) := by decide +kernel
theorem dX11_usedBy_17 : decode cX11_usedBy 17 = .ok (.aload_n 0, 1) := by decide +kernel
theorem dX11_usedBy_18 : decode cX11_usedBy 18 = .ok (.getfield 193, 3) := by decide +kernel
theorem dX11_usedBy_21 : decode cX11_usedBy 21 = .ok (.iload_n 3, 1) := by decide +kernel
theorem dX11_usedBy_22 : decode cX11_usedBy 22 = .ok (.iaload, 1) := by decide +kernel
theorem dX11_usedBy_23 : decode cX11_usedBy 23 = .ok (.iadd, 1) := by decide +kernel
theorem dX11_usedBy_24 : decode cX11_usedBy 24 = .ok (.iaload, 1) := by decide +kernel
theorem dX11_usedBy_25 : decode cX11_usedBy 25 = .ok (.ishl, 1) := by decide +kernel
theorem dX11_usedBy_26 : decode cX11_usedBy 26 = .ok (.ior, 1) := by decide +kernel
theorem dX11_usedBy_27 : decode cX11_usedBy 27 = .ok (.istore_n 2, 1) := by decide +kernel
theorem dX11_usedBy_28 : decode cX11_usedBy 28 = .ok (.iinc 3 1, 3) := by decide +kernel
theorem dX11_usedBy_31 : decode cX11_usedBy 31 = .ok (.goto (-27), 3) := by decide +kernel
theorem dX11_usedBy_34 : decode cX11_usedBy 34 = .ok (.iload_n 2, 1) := by decide +kernel
theorem dX11_usedBy_35 : decode cX11_usedBy 35 = .ok (.ireturn, 1) := by decide +kernel
theorem dX11_wayBy_0 : decode cX11_wayBy 0 = .ok (.aload_n 0, 1) := by decide +kernel
theorem dX11_wayBy_1 : decode cX11_wayBy 1 = .ok (.getfield 200, 3) := by decide +kernel
theorem dX11_wayBy_4 : decode cX11_wayBy 4 = .ok (.iload_n 1, 1) := by decide +kernel
theorem dX11_wayBy_5 : decode cX11_wayBy 5 = .ok (.iaload, 1) := by decide +kernel
theorem dX11_wayBy_6 : decode cX11_wayBy 6 = .ok (.ifCond .ne 7, 3) := by decide +kernel
theorem dX11_wayBy_9 : decode cX11_wayBy 9 = .ok (.iload_n 1, 1) := by decide +kernel
theorem dX11_wayBy_10 : decode cX11_wayBy 10 = .ok (.goto 15, 3) := by decide +kernel
theorem dX11_wayBy_13 : decode cX11_wayBy 13 = .ok (.iload_n 1, 1) := by decide +kernel
theorem dX11_wayBy_14 : decode cX11_wayBy 14 = .ok (.aload_n 0, 1) := by decide +kernel
theorem dX11_wayBy_15 : decode cX11_wayBy 15 = .ok (.getfield 200, 3) := by decide +kernel
theorem dX11_wayBy_18 : decode cX11_wayBy 18 = .ok (.iload_n 1, 1) := by decide +kernel
theorem dX11_wayBy_19 : decode cX11_wayBy 19 = .ok (.iaload, 1) := by decide +kernel
theorem dX11_wayBy_20 : decode cX11_wayBy 20 = .ok (.iconst 1, 1) := by decide +kernel
theorem dX11_wayBy_21 : decode cX11_wayBy 21 = .ok (.isub, 1) := by decide +kernel
theorem dX11_wayBy_22 : decode cX11_wayBy 22 = .ok (.invokestatic 604, 3) := by decide +kernel
theorem dX11_wayBy_25 : decode cX11_wayBy 25 = .ok (.ireturn, 1) := by decide +kernel
theorem dX11_wayOf_0 : decode cX11_wayOf 0 = .ok (.iconst 4, 1) := by decide +kernel
theorem dX11_wayOf_1 : decode cX11_wayOf 1 = .ok (.bipush 60, 2) := by decide +kernel
theorem dX11_wayOf_3 : decode cX11_wayOf 3 = .ok (.iload_n 0, 1) := by decide +kernel
theorem dX11_wayOf_4 : decode cX11_wayOf 4 = .ok (.imul, 1) := by decide +kernel
theorem dX11_wayOf_5 : decode cX11_wayOf 5 = .ok (.iadd, 1) := by decide +kernel
theorem dX11_wayOf_6 : decode cX11_wayOf 6 = .ok (.iload_n 1, 1) := by decide +kernel
theorem dX11_wayOf_7 : decode cX11_wayOf 7 = .ok (.iadd, 1) := by decide +kernel
theorem dX11_wayOf_8 : decode cX11_wayOf 8 = .ok (.ireturn, 1) := by decide +kernel
theorem dX11_where_0 : decode cX11_where 0 = .ok (.aload_n 0, 1) := by decide +kernel
theorem dX11_where_1 : decode cX11_where 1 = .ok (.iload_n 1, 1) := by decide +kernel
theorem dX11_where_2 : decode cX11_where 2 = .ok (.invokevirtual 481, 3) := by decide +kernel
theorem dX11_where_5 : decode cX11_where 5 = .ok (.ifCond .eq 24, 3) := by decide +kernel
theorem dX11_where_8 : decode cX11_where 8 = .ok (.iload_n 2, 1) := by decide +kernel
theorem dX11_where_9 : decode cX11_where 9 = .ok (.i2l, 1) := by decide +kernel
theorem dX11_where_10 : decode cX11_where 10 = .ok (.lconst 0, 1) := by decide +kernel
theorem dX11_where_11 : decode cX11_where 11 = .ok (.ldc2_w 521, 3) := by decide +kernel
theorem dX11_where_14 : decode cX11_where 14 = .ok (.invokestatic 264, 3) := by decide +kernel
theorem dX11_where_17 : decode cX11_where 17 = .ok (.ifCond .eq 12, 3) := by decide +kernel
theorem dX11_where_20 : decode cX11_where 20 = .ok (.aload_n 0, 1) := by decide +kernel
theorem dX11_where_21 : decode cX11_where 21 = .ok (.iload_n 1, 1) := by decide +kernel
theorem dX11_where_22 : decode cX11_where 22 = .ok (.iload_n 2, 1) := by decide +kernel
theorem dX11_where_23 : decode cX11_where 23 = .ok (.invokevirtual 523, 3) := by decide +kernel
theorem dX11_where_26 : decode cX11_where 26 = .ok (.goto 4, 3) := by decide +kernel
theorem dX11_where_29 : decode cX11_where 29 = .ok (.iconst (-1), 1) := by decide +kernel
theorem dX11_where_30 : decode cX11_where 30 = .ok (.ireturn, 1) := by decide +kernel
theorem dX11_whereOf_0 : decode cX11_whereOf 0 = .ok (.aload_n 0, 1) := by decide +kernel
theorem dX11_whereOf_1 : decode cX11_whereOf 1 = .ok (.iload_n 1, 1) := by decide +kernel
theorem dX11_whereOf_2 : decode cX11_whereOf 2 = .ok (.invokestatic 453, 3) := by decide +kernel
theorem dX11_whereOf_5 : decode cX11_whereOf 5 = .ok (.invokevirtual 456, 3) := by decide +kernel
theorem dX11_whereOf_8 : decode cX11_whereOf 8 = .ok (.istore_n 3, 1) := by decide +kernel
theorem dX11_whereOf_9 : decode cX11_whereOf 9 = .ok (.bipush 24, 2) := by decide +kernel
theorem dX11_whereOf_11 : decode cX11_whereOf 11 = .ok (.iload_n 1, 1) := by decide +kernel
theorem dX11_whereOf_12 : decode cX11_whereOf 12 = .ok (.imul, 1) := by decide +kernel
theorem dX11_whereOf_13 : decode cX11_whereOf 13 = .ok (.istore 4, 2) := by decide +kernel
theorem dX11_whereOf_15 : decode cX11_whereOf 15 = .ok (.iload 4, 2) := by decide +kernel
theorem dX11_whereOf_17 : decode cX11_whereOf 17 = .ok (.bipush 24, 2) := by decide +kernel
theorem dX11_whereOf_19 : decode cX11_whereOf 19 = .ok (.iload_n 1, 1) := by decide +kernel
theorem dX11_whereOf_20 : decode cX11_whereOf 20 = .ok (.imul, 1) := by decide +kernel
theorem dX11_whereOf_21 : decode cX11_whereOf 21 = .ok (.aload_n 0, 1) := by decide +kernel
theorem dX11_whereOf_22 : decode cX11_whereOf 22 = .ok (.getfield 145, 3) := by decide +kernel
theorem dX11_whereOf_25 : decode cX11_whereOf 25 = .ok (.iload_n 1, 1) := by decide +kernel
theorem dX11_whereOf_26 : decode cX11_whereOf 26 = .ok (.iaload, 1) := by decide +kernel
theorem dX11_whereOf_27 : decode cX11_whereOf 27 = .ok (.iadd, 1) := by decide +kernel
theorem dX11_whereOf_28 : decode cX11_whereOf 28 = .ok (.if_icmp .ge 28, 3) := by decide +kernel
theorem dX11_whereOf_31 : decode cX11_whereOf 31 = .ok (.aload_n 0, 1) := by decide +kernel
theorem dX11_whereOf_32 : decode cX11_whereOf 32 = .ok (.getfield 154, 3) := by decide +kernel
theorem dX11_whereOf_35 : decode cX11_whereOf 35 = .ok (.iload 4, 2) := by decide +kernel
theorem dX11_whereOf_37 : decode cX11_whereOf 37 = .ok (.iaload, 1) := by decide +kernel
theorem dX11_whereOf_38 : decode cX11_whereOf 38 = .ok (.iload_n 2, 1) := by decide +kernel
theorem dX11_whereOf_39 : decode cX11_whereOf 39 = .ok (.if_icmp .gt 17, 3) := by decide +kernel
theorem dX11_whereOf_42 : decode cX11_whereOf 42 = .ok (.aload_n 0, 1) := by decide +kernel
theorem dX11_whereOf_43 : decode cX11_whereOf 43 = .ok (.getfield 148, 3) := by decide +kernel
theorem dX11_whereOf_46 : decode cX11_whereOf 46 = .ok (.iload 4, 2) := by decide +kernel
theorem dX11_whereOf_48 : decode cX11_whereOf 48 = .ok (.iaload, 1) := by decide +kernel
theorem dX11_whereOf_49 : decode cX11_whereOf 49 = .ok (.istore_n 3, 1) := by decide +kernel
theorem dX11_whereOf_50 : decode cX11_whereOf 50 = .ok (.iinc 4 1, 3) := by decide +kernel
theorem dX11_whereOf_53 : decode cX11_whereOf 53 = .ok (.goto (-38), 3) := by decide +kernel
theorem dX11_whereOf_56 : decode cX11_whereOf 56 = .ok (.iload_n 3, 1) := by decide +kernel
theorem dX11_whereOf_57 : decode cX11_whereOf 57 = .ok (.ireturn, 1) := by decide +kernel
theorem dX11_words_0 : decode cX11_words 0 = .ok (.iload_n 1, 1) := by decide +kernel
theorem dX11_words_1 : decode cX11_words 1 = .ok (.i2l, 1) := by decide +kernel
theorem dX11_words_2 : decode cX11_words 2 = .ok (.lconst 0, 1) := by decide +kernel
theorem dX11_words_3 : decode cX11_words 3 = .ok (.aload_n 0, 1) := by decide +kernel
theorem dX11_words_4 : decode cX11_words 4 = .ok (.invokevirtual 438, 3) := by decide +kernel
theorem dX11_words_7 : decode cX11_words 7 = .ok (.iconst 1, 1) := by decide +kernel
theorem dX11_words_8 : decode cX11_words 8 = .ok (.isub, 1) := by decide +kernel
theorem dX11_words_9 : decode cX11_words 9 = .ok (.i2l, 1) := by decide +kernel
theorem dX11_words_10 : decode cX11_words 10 = .ok (.invokestatic 264, 3) := by decide +kernel
theorem dX11_words_13 : decode cX11_words 13 = .ok (.ifCond .eq 15, 3) := by decide +kernel
theorem dX11_words_16 : decode cX11_words 16 = .ok (.aload_n 0, 1) := by decide +kernel
theorem dX11_words_17 : decode cX11_words 17 = .ok (.getfield 133, 3) := by decide +kernel
theorem dX11_words_20 : decode cX11_words 20 = .ok (.bipush 6, 2) := by decide +kernel
theorem dX11_words_22 : decode cX11_words 22 = .ok (.iload_n 1, 1) := by decide +kernel
theorem dX11_words_23 : decode cX11_words 23 = .ok (.iadd, 1) := by decide +kernel
theorem dX11_words_24 : decode cX11_words 24 = .ok (.iaload, 1) := by decide +kernel
theorem dX11_words_25 : decode cX11_words 25 = .ok (.goto 4, 3) := by decide +kernel
theorem dX11_words_28 : decode cX11_words 28 = .ok (.iconst (-1), 1) := by decide +kernel
theorem dX11_words_29 : decode cX11_words 29 = .ok (.ireturn, 1) := by decide +kernel
theorem dX11_wordsIn_0 : decode cX11_wordsIn 0 = .ok (.iconst 0, 1) := by decide +kernel
theorem dX11_wordsIn_1 : decode cX11_wordsIn 1 = .ok (.istore_n 3, 1) := by decide +kernel
theorem dX11_wordsIn_2 : decode cX11_wordsIn 2 = .ok (.iload_n 1, 1) := by decide +kernel
theorem dX11_wordsIn_3 : decode cX11_wordsIn 3 = .ok (.istore 4, 2) := by decide +kernel
theorem dX11_wordsIn_5 : decode cX11_wordsIn 5 = .ok (.iload 4, 2) := by decide +kernel
theorem dX11_wordsIn_7 : decode cX11_wordsIn 7 = .ok (.iload_n 2, 1) := by decide +kernel
theorem dX11_wordsIn_8 : decode cX11_wordsIn 8 = .ok (.if_icmp .ge 86, 3) := by decide +kernel
theorem dX11_wordsIn_11 : decode cX11_wordsIn 11 = .ok (.aload_n 0, 1) := by decide +kernel
theorem dX11_wordsIn_12 : decode cX11_wordsIn 12 = .ok (.getfield 7, 3) := by decide +kernel
theorem dX11_wordsIn_15 : decode cX11_wordsIn 15 = .ok (.iload 4, 2) := by decide +kernel
theorem dX11_wordsIn_17 : decode cX11_wordsIn 17 = .ok (.iaload, 1) := by decide +kernel
theorem dX11_wordsIn_18 : decode cX11_wordsIn 18 = .ok (.invokestatic 240, 3) := by decide +kernel
theorem dX11_wordsIn_21 : decode cX11_wordsIn 21 = .ok (.ifCond .ne 16, 3) := by decide +kernel
theorem dX11_wordsIn_24 : decode cX11_wordsIn 24 = .ok (.aload_n 0, 1) := by decide +kernel
theorem dX11_wordsIn_25 : decode cX11_wordsIn 25 = .ok (.getfield 7, 3) := by decide +kernel
theorem dX11_wordsIn_28 : decode cX11_wordsIn 28 = .ok (.iload 4, 2) := by decide +kernel
theorem dX11_wordsIn_30 : decode cX11_wordsIn 30 = .ok (.iaload, 1) := by decide +kernel
theorem dX11_wordsIn_31 : decode cX11_wordsIn 31 = .ok (.invokestatic 261, 3) := by decide +kernel
theorem dX11_wordsIn_34 : decode cX11_wordsIn 34 = .ok (.ifCond .eq 7, 3) := by decide +kernel
theorem dX11_wordsIn_37 : decode cX11_wordsIn 37 = .ok (.iconst 1, 1) := by decide +kernel
theorem dX11_wordsIn_38 : decode cX11_wordsIn 38 = .ok (.goto 4, 3) := by decide +kernel
theorem dX11_wordsIn_41 : decode cX11_wordsIn 41 = .ok (.iconst 0, 1) := by decide +kernel
theorem dX11_wordsIn_42 : decode cX11_wordsIn 42 = .ok (.istore 5, 2) := by decide +kernel
theorem dX11_wordsIn_44 : decode cX11_wordsIn 44 = .ok (.iload 5, 2) := by decide +kernel
theorem dX11_wordsIn_46 : decode cX11_wordsIn 46 = .ok (.ifCond .eq 42, 3) := by decide +kernel
theorem dX11_wordsIn_49 : decode cX11_wordsIn 49 = .ok (.iload 4, 2) := by decide +kernel
theorem dX11_wordsIn_51 : decode cX11_wordsIn 51 = .ok (.iload_n 1, 1) := by decide +kernel
theorem dX11_wordsIn_52 : decode cX11_wordsIn 52 = .ok (.if_icmp .eq 33, 3) := by decide +kernel
theorem dX11_wordsIn_55 : decode cX11_wordsIn 55 = .ok (.aload_n 0, 1) := by decide +kernel
theorem dX11_wordsIn_56 : decode cX11_wordsIn 56 = .ok (.getfield 7, 3) := by decide +kernel
theorem dX11_wordsIn_59 : decode cX11_wordsIn 59 = .ok (.iload 4, 2) := by decide +kernel
theorem dX11_wordsIn_61 : decode cX11_wordsIn 61 = .ok (.iconst 1, 1) := by decide +kernel
theorem dX11_wordsIn_62 : decode cX11_wordsIn 62 = .ok (.isub, 1) := by decide +kernel
theorem dX11_wordsIn_63 : decode cX11_wordsIn 63 = .ok (.iaload, 1) := by decide +kernel
theorem dX11_wordsIn_64 : decode cX11_wordsIn 64 = .ok (.invokestatic 240, 3) := by decide +kernel
theorem dX11_wordsIn_67 : decode cX11_wordsIn 67 = .ok (.ifCond .ne 21, 3) := by decide +kernel
theorem dX11_wordsIn_70 : decode cX11_wordsIn 70 = .ok (.aload_n 0, 1) := by decide +kernel
theorem dX11_wordsIn_71 : decode cX11_wordsIn 71 = .ok (.getfield 7, 3) := by decide +kernel
theorem dX11_wordsIn_74 : decode cX11_wordsIn 74 = .ok (.iload 4, 2) := by decide +kernel
theorem dX11_wordsIn_76 : decode cX11_wordsIn 76 = .ok (.iconst 1, 1) := by decide +kernel
theorem dX11_wordsIn_77 : decode cX11_wordsIn 77 = .ok (.isub, 1) := by decide +kernel
theorem dX11_wordsIn_78 : decode cX11_wordsIn 78 = .ok (.iaload, 1) := by decide +kernel
theorem dX11_wordsIn_79 : decode cX11_wordsIn 79 = .ok (.invokestatic 261, 3) := by decide +kernel
theorem dX11_wordsIn_82 : decode cX11_wordsIn 82 = .ok (.ifCond .ne 6, 3) := by decide +kernel
theorem dX11_wordsIn_85 : decode cX11_wordsIn 85 = .ok (.iinc 3 1, 3) := by decide +kernel
theorem dX11_wordsIn_88 : decode cX11_wordsIn 88 = .ok (.iinc 4 1, 3) := by decide +kernel
theorem dX11_wordsIn_91 : decode cX11_wordsIn 91 = .ok (.goto (-86), 3) := by decide +kernel
theorem dX11_wordsIn_94 : decode cX11_wordsIn 94 = .ok (.iload_n 3, 1) := by decide +kernel
theorem dX11_wordsIn_95 : decode cX11_wordsIn 95 = .ok (.ireturn, 1) := by decide +kernel
theorem dX11_wordsOf_0 : decode cX11_wordsOf 0 = .ok (.iconst 0, 1) := by decide +kernel
theorem dX11_wordsOf_1 : decode cX11_wordsOf 1 = .ok (.istore_n 2, 1) := by decide +kernel
theorem dX11_wordsOf_2 : decode cX11_wordsOf 2 = .ok (.iconst 0, 1) := by decide +kernel
theorem dX11_wordsOf_3 : decode cX11_wordsOf 3 = .ok (.istore_n 3, 1) := by decide +kernel
theorem dX11_wordsOf_4 : decode cX11_wordsOf 4 = .ok (.iload_n 3, 1) := by decide +kernel
theorem dX11_wordsOf_5 : decode cX11_wordsOf 5 = .ok (.aload_n 0, 1) := by decide +kernel
theorem dX11_wordsOf_6 : decode cX11_wordsOf 6 = .ok (.invokevirtual 438, 3) := by decide +kernel
theorem dX11_wordsOf_9 : decode cX11_wordsOf 9 = .ok (.if_icmp .ge 30, 3) := by decide +kernel
theorem dX11_wordsOf_12 : decode cX11_wordsOf 12 = .ok (.iload_n 1, 1) := by decide +kernel
theorem dX11_wordsOf_13 : decode cX11_wordsOf 13 = .ok (.iload_n 3, 1) := by decide +kernel
theorem dX11_wordsOf_14 : decode cX11_wordsOf 14 = .ok (.ishr, 1) := by decide +kernel
theorem dX11_wordsOf_15 : decode cX11_wordsOf 15 = .ok (.iconst 1, 1) := by decide +kernel
theorem dX11_wordsOf_16 : decode cX11_wordsOf 16 = .ok (.iand, 1) := by decide +kernel
theorem dX11_wordsOf_17 : decode cX11_wordsOf 17 = .ok (.iconst 1, 1) := by decide +kernel
theorem dX11_wordsOf_18 : decode cX11_wordsOf 18 = .ok (.if_icmp .ne 15, 3) := by decide +kernel
theorem dX11_wordsOf_21 : decode cX11_wordsOf 21 = .ok (.iload_n 2, 1) := by decide +kernel
theorem dX11_wordsOf_22 : decode cX11_wordsOf 22 = .ok (.aload_n 0, 1) := by decide +kernel
theorem dX11_wordsOf_23 : decode cX11_wordsOf 23 = .ok (.getfield 133, 3) := by decide +kernel
theorem dX11_wordsOf_26 : decode cX11_wordsOf 26 = .ok (.bipush 6, 2) := by decide +kernel
theorem dX11_wordsOf_28 : decode cX11_wordsOf 28 = .ok (.iload_n 3, 1) := by decide +kernel
theorem dX11_wordsOf_29 : decode cX11_wordsOf 29 = .ok (.iadd, 1) := by decide +kernel
theorem dX11_wordsOf_30 : decode cX11_wordsOf 30 = .ok (.iaload, 1) := by decide +kernel
theorem dX11_wordsOf_31 : decode cX11_wordsOf 31 = .ok (.iadd, 1) := by decide +kernel
theorem dX11_wordsOf_32 : decode cX11_wordsOf 32 = .ok (.istore_n 2, 1) := by decide +kernel
theorem dX11_wordsOf_33 : decode cX11_wordsOf 33 = .ok (.iinc 3 1, 3) := by decide +kernel
theorem dX11_wordsOf_36 : decode cX11_wordsOf 36 = .ok (.goto (-32), 3) := by decide +kernel
theorem dX11_wordsOf_39 : decode cX11_wordsOf 39 = .ok (.iload_n 2, 1) := by decide +kernel
theorem dX11_wordsOf_40 : decode cX11_wordsOf 40 = .ok (.ireturn, 1) := by decide +kernel
theorem dX11_writes_0 : decode cX11_writes 0 = .ok (.aload_n 0, 1) := by decide +kernel
theorem dX11_writes_1 : decode cX11_writes 1 = .ok (.getfield 218, 3) := by decide +kernel
theorem dX11_writes_4 : decode cX11_writes 4 = .ok (.aload_n 0, 1) := by decide +kernel
theorem dX11_writes_5 : decode cX11_writes 5 = .ok (.getfield 677, 3) := by decide +kernel
theorem dX11_writes_8 : decode cX11_writes 8 = .ok (.iload_n 1, 1) := by decide +kernel
theorem dX11_writes_9 : decode cX11_writes 9 = .ok (.iastore, 1) := by decide +kernel
theorem dX11_writes_10 : decode cX11_writes 10 = .ok (.aload_n 0, 1) := by decide +kernel
theorem dX11_writes_11 : decode cX11_writes 11 = .ok (.dup, 1) := by decide +kernel
theorem dX11_writes_12 : decode cX11_writes 12 = .ok (.getfield 677, 3) := by decide +kernel
theorem dX11_writes_15 : decode cX11_writes 15 = .ok (.iconst 1, 1) := by decide +kernel
theorem dX11_writes_16 : decode cX11_writes 16 = .ok (.iadd, 1) := by decide +kernel
theorem dX11_writes_17 : decode cX11_writes 17 = .ok (.putfield 677, 3) := by decide +kernel
theorem dX11_writes_20 : decode cX11_writes 20 = .ok (.return_, 1) := by decide +kernel
theorem dJ6_bitCount_0f7a4_0 : decode cJ6_bitCount_0f7a4 0 = .ok (.iload_n 0, 1) := by decide +kernel
theorem dJ6_bitCount_0f7a4_1 : decode cJ6_bitCount_0f7a4 1 = .ok (.iload_n 0, 1) := by decide +kernel
theorem dJ6_bitCount_0f7a4_2 : decode cJ6_bitCount_0f7a4 2 = .ok (.iconst 1, 1) := by decide +kernel
theorem dJ6_bitCount_0f7a4_3 : decode cJ6_bitCount_0f7a4 3 = .ok (.iushr, 1) := by decide +kernel
theorem dJ6_bitCount_0f7a4_4 : decode cJ6_bitCount_0f7a4 4 = .ok (.ldc_w 265, 3) := by decide +kernel
theorem dJ6_bitCount_0f7a4_7 : decode cJ6_bitCount_0f7a4 7 = .ok (.iand, 1) := by decide +kernel
theorem dJ6_bitCount_0f7a4_8 : decode cJ6_bitCount_0f7a4 8 = .ok (.isub, 1) := by decide +kernel
theorem dJ6_bitCount_0f7a4_9 : decode cJ6_bitCount_0f7a4 9 = .ok (.istore_n 0, 1) := by decide +kernel
theorem dJ6_bitCount_0f7a4_10 : decode cJ6_bitCount_0f7a4 10 = .ok (.iload_n 0, 1) := by decide +kernel
theorem dJ6_bitCount_0f7a4_11 : decode cJ6_bitCount_0f7a4 11 = .ok (.ldc_w 266, 3) := by decide +kernel
theorem dJ6_bitCount_0f7a4_14 : decode cJ6_bitCount_0f7a4 14 = .ok (.iand, 1) := by decide +kernel
theorem dJ6_bitCount_0f7a4_15 : decode cJ6_bitCount_0f7a4 15 = .ok (.iload_n 0, 1) := by decide +kernel
theorem dJ6_bitCount_0f7a4_16 : decode cJ6_bitCount_0f7a4 16 = .ok (.iconst 2, 1) := by decide +kernel
theorem dJ6_bitCount_0f7a4_17 : decode cJ6_bitCount_0f7a4 17 = .ok (.iushr, 1) := by decide +kernel
theorem dJ6_bitCount_0f7a4_18 : decode cJ6_bitCount_0f7a4 18 = .ok (.ldc_w 266, 3) := by decide +kernel
theorem dJ6_bitCount_0f7a4_21 : decode cJ6_bitCount_0f7a4 21 = .ok (.iand, 1) := by decide +kernel
theorem dJ6_bitCount_0f7a4_22 : decode cJ6_bitCount_0f7a4 22 = .ok (.iadd, 1) := by decide +kernel
theorem dJ6_bitCount_0f7a4_23 : decode cJ6_bitCount_0f7a4 23 = .ok (.istore_n 0, 1) := by decide +kernel
theorem dJ6_bitCount_0f7a4_24 : decode cJ6_bitCount_0f7a4 24 = .ok (.iload_n 0, 1) := by decide +kernel
theorem dJ6_bitCount_0f7a4_25 : decode cJ6_bitCount_0f7a4 25 = .ok (.iload_n 0, 1) := by decide +kernel
theorem dJ6_bitCount_0f7a4_26 : decode cJ6_bitCount_0f7a4 26 = .ok (.iconst 4, 1) := by decide +kernel
theorem dJ6_bitCount_0f7a4_27 : decode cJ6_bitCount_0f7a4 27 = .ok (.iushr, 1) := by decide +kernel
theorem dJ6_bitCount_0f7a4_28 : decode cJ6_bitCount_0f7a4 28 = .ok (.iadd, 1) := by decide +kernel
theorem dJ6_bitCount_0f7a4_29 : decode cJ6_bitCount_0f7a4 29 = .ok (.ldc_w 267, 3) := by decide +kernel
theorem dJ6_bitCount_0f7a4_32 : decode cJ6_bitCount_0f7a4 32 = .ok (.iand, 1) := by decide +kernel
theorem dJ6_bitCount_0f7a4_33 : decode cJ6_bitCount_0f7a4 33 = .ok (.istore_n 0, 1) := by decide +kernel
theorem dJ6_bitCount_0f7a4_34 : decode cJ6_bitCount_0f7a4 34 = .ok (.iload_n 0, 1) := by decide +kernel
theorem dJ6_bitCount_0f7a4_35 : decode cJ6_bitCount_0f7a4 35 = .ok (.iload_n 0, 1) := by decide +kernel
theorem dJ6_bitCount_0f7a4_36 : decode cJ6_bitCount_0f7a4 36 = .ok (.bipush 8, 2) := by decide +kernel
theorem dJ6_bitCount_0f7a4_38 : decode cJ6_bitCount_0f7a4 38 = .ok (.iushr, 1) := by decide +kernel
theorem dJ6_bitCount_0f7a4_39 : decode cJ6_bitCount_0f7a4 39 = .ok (.iadd, 1) := by decide +kernel
theorem dJ6_bitCount_0f7a4_40 : decode cJ6_bitCount_0f7a4 40 = .ok (.istore_n 0, 1) := by decide +kernel
theorem dJ6_bitCount_0f7a4_41 : decode cJ6_bitCount_0f7a4 41 = .ok (.iload_n 0, 1) := by decide +kernel
theorem dJ6_bitCount_0f7a4_42 : decode cJ6_bitCount_0f7a4 42 = .ok (.iload_n 0, 1) := by decide +kernel
theorem dJ6_bitCount_0f7a4_43 : decode cJ6_bitCount_0f7a4 43 = .ok (.bipush 16, 2) := by decide +kernel
theorem dJ6_bitCount_0f7a4_45 : decode cJ6_bitCount_0f7a4 45 = .ok (.iushr, 1) := by decide +kernel
theorem dJ6_bitCount_0f7a4_46 : decode cJ6_bitCount_0f7a4 46 = .ok (.iadd, 1) := by decide +kernel
theorem dJ6_bitCount_0f7a4_47 : decode cJ6_bitCount_0f7a4 47 = .ok (.istore_n 0, 1) := by decide +kernel
theorem dJ6_bitCount_0f7a4_48 : decode cJ6_bitCount_0f7a4 48 = .ok (.iload_n 0, 1) := by decide +kernel
theorem dJ6_bitCount_0f7a4_49 : decode cJ6_bitCount_0f7a4 49 = .ok (.bipush 63, 2) := by decide +kernel
theorem dJ6_bitCount_0f7a4_51 : decode cJ6_bitCount_0f7a4 51 = .ok (.iand, 1) := by decide +kernel
theorem dJ6_bitCount_0f7a4_52 : decode cJ6_bitCount_0f7a4 52 = .ok (.ireturn, 1) := by decide +kernel
theorem dJ6_numberOfTrailingZeros_0f7a4_0 : decode cJ6_numberOfTrailingZeros_0f7a4 0 = .ok (.iload_n 0, 1) := by decide +kernel
theorem dJ6_numberOfTrailingZeros_0f7a4_1 : decode cJ6_numberOfTrailingZeros_0f7a4 1 = .ok (.iconst (-1), 1) := by decide +kernel
theorem dJ6_numberOfTrailingZeros_0f7a4_2 : decode cJ6_numberOfTrailingZeros_0f7a4 2 = .ok (.ixor, 1) := by decide +kernel
theorem dJ6_numberOfTrailingZeros_0f7a4_3 : decode cJ6_numberOfTrailingZeros_0f7a4 3 = .ok (.iload_n 0, 1) := by decide +kernel
theorem dJ6_numberOfTrailingZeros_0f7a4_4 : decode cJ6_numberOfTrailingZeros_0f7a4 4 = .ok (.iconst 1, 1) := by decide +kernel
theorem dJ6_numberOfTrailingZeros_0f7a4_5 : decode cJ6_numberOfTrailingZeros_0f7a4 5 = .ok (.isub, 1) := by decide +kernel
theorem dJ6_numberOfTrailingZeros_0f7a4_6 : decode cJ6_numberOfTrailingZeros_0f7a4 6 = .ok (.iand, 1) := by decide +kernel
theorem dJ6_numberOfTrailingZeros_0f7a4_7 : decode cJ6_numberOfTrailingZeros_0f7a4 7 = .ok (.istore_n 0, 1) := by decide +kernel
theorem dJ6_numberOfTrailingZeros_0f7a4_8 : decode cJ6_numberOfTrailingZeros_0f7a4 8 = .ok (.iload_n 0, 1) := by decide +kernel
theorem dJ6_numberOfTrailingZeros_0f7a4_9 : decode cJ6_numberOfTrailingZeros_0f7a4 9 = .ok (.ifCond .gt 8, 3) := by decide +kernel
theorem dJ6_numberOfTrailingZeros_0f7a4_12 : decode cJ6_numberOfTrailingZeros_0f7a4 12 = .ok (.iload_n 0, 1) := by decide +kernel
theorem dJ6_numberOfTrailingZeros_0f7a4_13 : decode cJ6_numberOfTrailingZeros_0f7a4 13 = .ok (.bipush 32, 2) := by decide +kernel
theorem dJ6_numberOfTrailingZeros_0f7a4_15 : decode cJ6_numberOfTrailingZeros_0f7a4 15 = .ok (.iand, 1) := by decide +kernel
theorem dJ6_numberOfTrailingZeros_0f7a4_16 : decode cJ6_numberOfTrailingZeros_0f7a4 16 = .ok (.ireturn, 1) := by decide +kernel
theorem dJ6_numberOfTrailingZeros_0f7a4_17 : decode cJ6_numberOfTrailingZeros_0f7a4 17 = .ok (.iconst 1, 1) := by decide +kernel
theorem dJ6_numberOfTrailingZeros_0f7a4_18 : decode cJ6_numberOfTrailingZeros_0f7a4 18 = .ok (.istore_n 1, 1) := by decide +kernel
theorem dJ6_numberOfTrailingZeros_0f7a4_19 : decode cJ6_numberOfTrailingZeros_0f7a4 19 = .ok (.iload_n 0, 1) := by decide +kernel
theorem dJ6_numberOfTrailingZeros_0f7a4_20 : decode cJ6_numberOfTrailingZeros_0f7a4 20 = .ok (.ldc_w 264, 3) := by decide +kernel
theorem dJ6_numberOfTrailingZeros_0f7a4_23 : decode cJ6_numberOfTrailingZeros_0f7a4 23 = .ok (.if_icmp .le 11, 3) := by decide +kernel
theorem dJ6_numberOfTrailingZeros_0f7a4_26 : decode cJ6_numberOfTrailingZeros_0f7a4 26 = .ok (.iinc 1 16, 3) := by decide +kernel
theorem dJ6_numberOfTrailingZeros_0f7a4_29 : decode cJ6_numberOfTrailingZeros_0f7a4 29 = .ok (.iload_n 0, 1) := by decide +kernel
theorem dJ6_numberOfTrailingZeros_0f7a4_30 : decode cJ6_numberOfTrailingZeros_0f7a4 30 = .ok (.bipush 16, 2) := by decide +kernel
theorem dJ6_numberOfTrailingZeros_0f7a4_32 : decode cJ6_numberOfTrailingZeros_0f7a4 32 = .ok (.iushr, 1) := by decide +kernel
theorem dJ6_numberOfTrailingZeros_0f7a4_33 : decode cJ6_numberOfTrailingZeros_0f7a4 33 = .ok (.istore_n 0, 1) := by decide +kernel
theorem dJ6_numberOfTrailingZeros_0f7a4_34 : decode cJ6_numberOfTrailingZeros_0f7a4 34 = .ok (.iload_n 0, 1) := by decide +kernel
theorem dJ6_numberOfTrailingZeros_0f7a4_35 : decode cJ6_numberOfTrailingZeros_0f7a4 35 = .ok (.sipush 256, 3) := by decide +kernel
theorem dJ6_numberOfTrailingZeros_0f7a4_38 : decode cJ6_numberOfTrailingZeros_0f7a4 38 = .ok (.if_icmp .le 11, 3) := by decide +kernel
theorem dJ6_numberOfTrailingZeros_0f7a4_41 : decode cJ6_numberOfTrailingZeros_0f7a4 41 = .ok (.iinc 1 8, 3) := by decide +kernel
theorem dJ6_numberOfTrailingZeros_0f7a4_44 : decode cJ6_numberOfTrailingZeros_0f7a4 44 = .ok (.iload_n 0, 1) := by decide +kernel
theorem dJ6_numberOfTrailingZeros_0f7a4_45 : decode cJ6_numberOfTrailingZeros_0f7a4 45 = .ok (.bipush 8, 2) := by decide +kernel
theorem dJ6_numberOfTrailingZeros_0f7a4_47 : decode cJ6_numberOfTrailingZeros_0f7a4 47 = .ok (.iushr, 1) := by decide +kernel
theorem dJ6_numberOfTrailingZeros_0f7a4_48 : decode cJ6_numberOfTrailingZeros_0f7a4 48 = .ok (.istore_n 0, 1) := by decide +kernel
theorem dJ6_numberOfTrailingZeros_0f7a4_49 : decode cJ6_numberOfTrailingZeros_0f7a4 49 = .ok (.iload_n 0, 1) := by decide +kernel
theorem dJ6_numberOfTrailingZeros_0f7a4_50 : decode cJ6_numberOfTrailingZeros_0f7a4 50 = .ok (.bipush 16, 2) := by decide +kernel
theorem dJ6_numberOfTrailingZeros_0f7a4_52 : decode cJ6_numberOfTrailingZeros_0f7a4 52 = .ok (.if_icmp .le 10, 3) := by decide +kernel
theorem dJ6_numberOfTrailingZeros_0f7a4_55 : decode cJ6_numberOfTrailingZeros_0f7a4 55 = .ok (.iinc 1 4, 3) := by decide +kernel
theorem dJ6_numberOfTrailingZeros_0f7a4_58 : decode cJ6_numberOfTrailingZeros_0f7a4 58 = .ok (.iload_n 0, 1) := by decide +kernel
theorem dJ6_numberOfTrailingZeros_0f7a4_59 : decode cJ6_numberOfTrailingZeros_0f7a4 59 = .ok (.iconst 4, 1) := by decide +kernel
theorem dJ6_numberOfTrailingZeros_0f7a4_60 : decode cJ6_numberOfTrailingZeros_0f7a4 60 = .ok (.iushr, 1) := by decide +kernel
theorem dJ6_numberOfTrailingZeros_0f7a4_61 : decode cJ6_numberOfTrailingZeros_0f7a4 61 = .ok (.istore_n 0, 1) := by decide +kernel
theorem dJ6_numberOfTrailingZeros_0f7a4_62 : decode cJ6_numberOfTrailingZeros_0f7a4 62 = .ok (.iload_n 0, 1) := by decide +kernel
theorem dJ6_numberOfTrailingZeros_0f7a4_63 : decode cJ6_numberOfTrailingZeros_0f7a4 63 = .ok (.iconst 4, 1) := by decide +kernel
theorem dJ6_numberOfTrailingZeros_0f7a4_64 : decode cJ6_numberOfTrailingZeros_0f7a4 64 = .ok (.if_icmp .le 10, 3) := by decide +kernel
theorem dJ6_numberOfTrailingZeros_0f7a4_67 : decode cJ6_numberOfTrailingZeros_0f7a4 67 = .ok (.iinc 1 2, 3) := by decide +kernel
theorem dJ6_numberOfTrailingZeros_0f7a4_70 : decode cJ6_numberOfTrailingZeros_0f7a4 70 = .ok (.iload_n 0, 1) := by decide +kernel
theorem dJ6_numberOfTrailingZeros_0f7a4_71 : decode cJ6_numberOfTrailingZeros_0f7a4 71 = .ok (.iconst 2, 1) := by decide +kernel
theorem dJ6_numberOfTrailingZeros_0f7a4_72 : decode cJ6_numberOfTrailingZeros_0f7a4 72 = .ok (.iushr, 1) := by decide +kernel
theorem dJ6_numberOfTrailingZeros_0f7a4_73 : decode cJ6_numberOfTrailingZeros_0f7a4 73 = .ok (.istore_n 0, 1) := by decide +kernel
theorem dJ6_numberOfTrailingZeros_0f7a4_74 : decode cJ6_numberOfTrailingZeros_0f7a4 74 = .ok (.iload_n 1, 1) := by decide +kernel
theorem dJ6_numberOfTrailingZeros_0f7a4_75 : decode cJ6_numberOfTrailingZeros_0f7a4 75 = .ok (.iload_n 0, 1) := by decide +kernel
theorem dJ6_numberOfTrailingZeros_0f7a4_76 : decode cJ6_numberOfTrailingZeros_0f7a4 76 = .ok (.iconst 1, 1) := by decide +kernel
theorem dJ6_numberOfTrailingZeros_0f7a4_77 : decode cJ6_numberOfTrailingZeros_0f7a4 77 = .ok (.iushr, 1) := by decide +kernel
theorem dJ6_numberOfTrailingZeros_0f7a4_78 : decode cJ6_numberOfTrailingZeros_0f7a4 78 = .ok (.iadd, 1) := by decide +kernel
theorem dJ6_numberOfTrailingZeros_0f7a4_79 : decode cJ6_numberOfTrailingZeros_0f7a4 79 = .ok (.ireturn, 1) := by decide +kernel
theorem dJ7_fill_53178_0 : decode cJ7_fill_53178 0 = .ok (.iconst 0, 1) := by decide +kernel
theorem dJ7_fill_53178_1 : decode cJ7_fill_53178 1 = .ok (.istore_n 2, 1) := by decide +kernel
theorem dJ7_fill_53178_2 : decode cJ7_fill_53178 2 = .ok (.aload_n 0, 1) := by decide +kernel
theorem dJ7_fill_53178_3 : decode cJ7_fill_53178 3 = .ok (.arraylength, 1) := by decide +kernel
theorem dJ7_fill_53178_4 : decode cJ7_fill_53178 4 = .ok (.istore_n 3, 1) := by decide +kernel
theorem dJ7_fill_53178_5 : decode cJ7_fill_53178 5 = .ok (.iload_n 2, 1) := by decide +kernel
theorem dJ7_fill_53178_6 : decode cJ7_fill_53178 6 = .ok (.iload_n 3, 1) := by decide +kernel
theorem dJ7_fill_53178_7 : decode cJ7_fill_53178 7 = .ok (.if_icmp .ge 13, 3) := by decide +kernel
theorem dJ7_fill_53178_10 : decode cJ7_fill_53178 10 = .ok (.aload_n 0, 1) := by decide +kernel
theorem dJ7_fill_53178_11 : decode cJ7_fill_53178 11 = .ok (.iload_n 2, 1) := by decide +kernel
theorem dJ7_fill_53178_12 : decode cJ7_fill_53178 12 = .ok (.iload_n 1, 1) := by decide +kernel
theorem dJ7_fill_53178_13 : decode cJ7_fill_53178 13 = .ok (.iastore, 1) := by decide +kernel
theorem dJ7_fill_53178_14 : decode cJ7_fill_53178 14 = .ok (.iinc 2 1, 3) := by decide +kernel
theorem dJ7_fill_53178_17 : decode cJ7_fill_53178 17 = .ok (.goto (-12), 3) := by decide +kernel
theorem dJ7_fill_53178_20 : decode cJ7_fill_53178 20 = .ok (.return_, 1) := by decide +kernel
theorem dJ7_fill_d0a16_0 : decode cJ7_fill_d0a16 0 = .ok (.iconst 0, 1) := by decide +kernel
theorem dJ7_fill_d0a16_1 : decode cJ7_fill_d0a16 1 = .ok (.istore_n 3, 1) := by decide +kernel
theorem dJ7_fill_d0a16_2 : decode cJ7_fill_d0a16 2 = .ok (.aload_n 0, 1) := by decide +kernel
theorem dJ7_fill_d0a16_3 : decode cJ7_fill_d0a16 3 = .ok (.arraylength, 1) := by decide +kernel
theorem dJ7_fill_d0a16_4 : decode cJ7_fill_d0a16 4 = .ok (.istore 4, 2) := by decide +kernel
theorem dJ7_fill_d0a16_6 : decode cJ7_fill_d0a16 6 = .ok (.iload_n 3, 1) := by decide +kernel
theorem dJ7_fill_d0a16_7 : decode cJ7_fill_d0a16 7 = .ok (.iload 4, 2) := by decide +kernel
theorem dJ7_fill_d0a16_9 : decode cJ7_fill_d0a16 9 = .ok (.if_icmp .ge 13, 3) := by decide +kernel
theorem dJ7_fill_d0a16_12 : decode cJ7_fill_d0a16 12 = .ok (.aload_n 0, 1) := by decide +kernel
theorem dJ7_fill_d0a16_13 : decode cJ7_fill_d0a16 13 = .ok (.iload_n 3, 1) := by decide +kernel
theorem dJ7_fill_d0a16_14 : decode cJ7_fill_d0a16 14 = .ok (.lload_n 1, 1) := by decide +kernel
theorem dJ7_fill_d0a16_15 : decode cJ7_fill_d0a16 15 = .ok (.lastore, 1) := by decide +kernel
theorem dJ7_fill_d0a16_16 : decode cJ7_fill_d0a16 16 = .ok (.iinc 3 1, 3) := by decide +kernel
theorem dJ7_fill_d0a16_19 : decode cJ7_fill_d0a16 19 = .ok (.goto (-13), 3) := by decide +kernel
theorem dJ7_fill_d0a16_22 : decode cJ7_fill_d0a16 22 = .ok (.return_, 1) := by decide +kernel
theorem dJ13_numberOfTrailingZeros_95d88_0 : decode cJ13_numberOfTrailingZeros_95d88 0 = .ok (.lload_n 0, 1) := by decide +kernel
theorem dJ13_numberOfTrailingZeros_95d88_1 : decode cJ13_numberOfTrailingZeros_95d88 1 = .ok (.l2i, 1) := by decide +kernel
theorem dJ13_numberOfTrailingZeros_95d88_2 : decode cJ13_numberOfTrailingZeros_95d88 2 = .ok (.istore_n 2, 1) := by decide +kernel
theorem dJ13_numberOfTrailingZeros_95d88_3 : decode cJ13_numberOfTrailingZeros_95d88 3 = .ok (.iload_n 2, 1) := by decide +kernel
theorem dJ13_numberOfTrailingZeros_95d88_4 : decode cJ13_numberOfTrailingZeros_95d88 4 = .ok (.ifCond .ne 17, 3) := by decide +kernel
theorem dJ13_numberOfTrailingZeros_95d88_7 : decode cJ13_numberOfTrailingZeros_95d88 7 = .ok (.bipush 32, 2) := by decide +kernel
theorem dJ13_numberOfTrailingZeros_95d88_9 : decode cJ13_numberOfTrailingZeros_95d88 9 = .ok (.lload_n 0, 1) := by decide +kernel
theorem dJ13_numberOfTrailingZeros_95d88_10 : decode cJ13_numberOfTrailingZeros_95d88 10 = .ok (.bipush 32, 2) := by decide +kernel
theorem dJ13_numberOfTrailingZeros_95d88_12 : decode cJ13_numberOfTrailingZeros_95d88 12 = .ok (.lushr, 1) := by decide +kernel
theorem dJ13_numberOfTrailingZeros_95d88_13 : decode cJ13_numberOfTrailingZeros_95d88 13 = .ok (.l2i, 1) := by decide +kernel
theorem dJ13_numberOfTrailingZeros_95d88_14 : decode cJ13_numberOfTrailingZeros_95d88 14 = .ok (.invokestatic 311, 3) := by decide +kernel
theorem dJ13_numberOfTrailingZeros_95d88_17 : decode cJ13_numberOfTrailingZeros_95d88 17 = .ok (.iadd, 1) := by decide +kernel
theorem dJ13_numberOfTrailingZeros_95d88_18 : decode cJ13_numberOfTrailingZeros_95d88 18 = .ok (.goto 7, 3) := by decide +kernel
theorem dJ13_numberOfTrailingZeros_95d88_21 : decode cJ13_numberOfTrailingZeros_95d88 21 = .ok (.iload_n 2, 1) := by decide +kernel
theorem dJ13_numberOfTrailingZeros_95d88_22 : decode cJ13_numberOfTrailingZeros_95d88 22 = .ok (.invokestatic 311, 3) := by decide +kernel
theorem dJ13_numberOfTrailingZeros_95d88_25 : decode cJ13_numberOfTrailingZeros_95d88 25 = .ok (.ireturn, 1) := by decide +kernel
theorem dL_law_0 : decode cL_law 0 = .ok (.new 7, 3) := by decide +kernel
theorem dL_law_3 : decode cL_law 3 = .ok (.dup, 1) := by decide +kernel
theorem dL_law_4 : decode cL_law 4 = .ok (.invokespecial 9, 3) := by decide +kernel
theorem dL_law_7 : decode cL_law 7 = .ok (.astore_n 1, 1) := by decide +kernel
theorem dL_law_8 : decode cL_law 8 = .ok (.new 10, 3) := by decide +kernel
theorem dL_law_11 : decode cL_law 11 = .ok (.dup, 1) := by decide +kernel
theorem dL_law_12 : decode cL_law 12 = .ok (.invokespecial 12, 3) := by decide +kernel
theorem dL_law_15 : decode cL_law 15 = .ok (.astore_n 2, 1) := by decide +kernel
theorem dL_law_16 : decode cL_law 16 = .ok (.iconst 0, 1) := by decide +kernel
theorem dL_law_17 : decode cL_law 17 = .ok (.istore_n 3, 1) := by decide +kernel
theorem dL_law_18 : decode cL_law 18 = .ok (.iload_n 3, 1) := by decide +kernel
theorem dL_law_19 : decode cL_law 19 = .ok (.aload_n 0, 1) := by decide +kernel
theorem dL_law_20 : decode cL_law 20 = .ok (.arraylength, 1) := by decide +kernel
theorem dL_law_21 : decode cL_law 21 = .ok (.bipush 6, 2) := by decide +kernel
theorem dL_law_23 : decode cL_law 23 = .ok (.isub, 1) := by decide +kernel
theorem dL_law_24 : decode cL_law 24 = .ok (.if_icmp .gt 1192, 3) := by decide +kernel
theorem dL_law_27 : decode cL_law 27 = .ok (.aload_n 0, 1) := by decide +kernel
theorem dL_law_28 : decode cL_law 28 = .ok (.iload_n 3, 1) := by decide +kernel
theorem dL_law_29 : decode cL_law 29 = .ok (.iaload, 1) := by decide +kernel
theorem dL_law_30 : decode cL_law 30 = .ok (.bipush 63, 2) := by decide +kernel
theorem dL_law_32 : decode cL_law 32 = .ok (.iand, 1) := by decide +kernel
theorem dL_law_33 : decode cL_law 33 = .ok (.tableswitch 1177 0 37 #[167, 230, 253, 266, 289, 312, 355, 388, 421, 454, 487, 520, 543, 556, 589, 622, 655, 688, 711, 734, 767, 780, 803, 826, 849, 898, 921, 944, 987, 1010, 1023, 1036, 1049, 1062, 1085, 1128, 1141, 1164], 167) := by decide +kernel
theorem dL_law_200 : decode cL_law 200 = .ok (.aload_n 1, 1) := by decide +kernel
theorem dL_law_201 : decode cL_law 201 = .ok (.aload_n 0, 1) := by decide +kernel
theorem dL_law_202 : decode cL_law 202 = .ok (.iload_n 3, 1) := by decide +kernel
theorem dL_law_203 : decode cL_law 203 = .ok (.iconst 1, 1) := by decide +kernel
theorem dL_law_204 : decode cL_law 204 = .ok (.iadd, 1) := by decide +kernel
theorem dL_law_205 : decode cL_law 205 = .ok (.iaload, 1) := by decide +kernel
theorem dL_law_206 : decode cL_law 206 = .ok (.aload_n 0, 1) := by decide +kernel
theorem dL_law_207 : decode cL_law 207 = .ok (.iload_n 3, 1) := by decide +kernel
theorem dL_law_208 : decode cL_law 208 = .ok (.iconst 2, 1) := by decide +kernel
theorem dL_law_209 : decode cL_law 209 = .ok (.iadd, 1) := by decide +kernel
theorem dL_law_210 : decode cL_law 210 = .ok (.iaload, 1) := by decide +kernel
theorem dL_law_211 : decode cL_law 211 = .ok (.aload_n 0, 1) := by decide +kernel
theorem dL_law_212 : decode cL_law 212 = .ok (.iload_n 3, 1) := by decide +kernel
theorem dL_law_213 : decode cL_law 213 = .ok (.iconst 3, 1) := by decide +kernel
theorem dL_law_214 : decode cL_law 214 = .ok (.iadd, 1) := by decide +kernel
theorem dL_law_215 : decode cL_law 215 = .ok (.iaload, 1) := by decide +kernel
theorem dL_law_216 : decode cL_law 216 = .ok (.aload_n 0, 1) := by decide +kernel
theorem dL_law_217 : decode cL_law 217 = .ok (.iload_n 3, 1) := by decide +kernel
theorem dL_law_218 : decode cL_law 218 = .ok (.iconst 4, 1) := by decide +kernel
theorem dL_law_219 : decode cL_law 219 = .ok (.iadd, 1) := by decide +kernel
theorem dL_law_220 : decode cL_law 220 = .ok (.iaload, 1) := by decide +kernel
theorem dL_law_221 : decode cL_law 221 = .ok (.aload_n 0, 1) := by decide +kernel
theorem dL_law_222 : decode cL_law 222 = .ok (.iload_n 3, 1) := by decide +kernel
theorem dL_law_223 : decode cL_law 223 = .ok (.iconst 5, 1) := by decide +kernel
theorem dL_law_224 : decode cL_law 224 = .ok (.iadd, 1) := by decide +kernel
theorem dL_law_225 : decode cL_law 225 = .ok (.iaload, 1) := by decide +kernel
theorem dL_law_226 : decode cL_law 226 = .ok (.invokevirtual 13, 3) := by decide +kernel
theorem dL_law_229 : decode cL_law 229 = .ok (.aload_n 2, 1) := by decide +kernel
theorem dL_law_230 : decode cL_law 230 = .ok (.aload_n 0, 1) := by decide +kernel
theorem dL_law_231 : decode cL_law 231 = .ok (.iload_n 3, 1) := by decide +kernel
theorem dL_law_232 : decode cL_law 232 = .ok (.iconst 1, 1) := by decide +kernel
theorem dL_law_233 : decode cL_law 233 = .ok (.iadd, 1) := by decide +kernel
theorem dL_law_234 : decode cL_law 234 = .ok (.iaload, 1) := by decide +kernel
theorem dL_law_235 : decode cL_law 235 = .ok (.aload_n 0, 1) := by decide +kernel
theorem dL_law_236 : decode cL_law 236 = .ok (.iload_n 3, 1) := by decide +kernel
theorem dL_law_237 : decode cL_law 237 = .ok (.iconst 2, 1) := by decide +kernel
theorem dL_law_238 : decode cL_law 238 = .ok (.iadd, 1) := by decide +kernel
theorem dL_law_239 : decode cL_law 239 = .ok (.iaload, 1) := by decide +kernel
theorem dL_law_240 : decode cL_law 240 = .ok (.aload_n 0, 1) := by decide +kernel
theorem dL_law_241 : decode cL_law 241 = .ok (.iload_n 3, 1) := by decide +kernel
theorem dL_law_242 : decode cL_law 242 = .ok (.iconst 3, 1) := by decide +kernel
theorem dL_law_243 : decode cL_law 243 = .ok (.iadd, 1) := by decide +kernel
theorem dL_law_244 : decode cL_law 244 = .ok (.iaload, 1) := by decide +kernel
theorem dL_law_245 : decode cL_law 245 = .ok (.aload_n 0, 1) := by decide +kernel
theorem dL_law_246 : decode cL_law 246 = .ok (.iload_n 3, 1) := by decide +kernel
theorem dL_law_247 : decode cL_law 247 = .ok (.iconst 4, 1) := by decide +kernel
theorem dL_law_248 : decode cL_law 248 = .ok (.iadd, 1) := by decide +kernel
theorem dL_law_249 : decode cL_law 249 = .ok (.iaload, 1) := by decide +kernel
theorem dL_law_250 : decode cL_law 250 = .ok (.aload_n 0, 1) := by decide +kernel
theorem dL_law_251 : decode cL_law 251 = .ok (.iload_n 3, 1) := by decide +kernel
theorem dL_law_252 : decode cL_law 252 = .ok (.iconst 5, 1) := by decide +kernel
theorem dL_law_253 : decode cL_law 253 = .ok (.iadd, 1) := by decide +kernel
theorem dL_law_254 : decode cL_law 254 = .ok (.iaload, 1) := by decide +kernel
theorem dL_law_255 : decode cL_law 255 = .ok (.invokevirtual 17, 3) := by decide +kernel
theorem dL_law_258 : decode cL_law 258 = .ok (.if_icmp .eq 952, 3) := by decide +kernel
theorem dL_law_261 : decode cL_law 261 = .ok (.iconst 0, 1) := by decide +kernel
theorem dL_law_262 : decode cL_law 262 = .ok (.ireturn, 1) := by decide +kernel
theorem dL_law_263 : decode cL_law 263 = .ok (.aload_n 1, 1) := by decide +kernel
theorem dL_law_264 : decode cL_law 264 = .ok (.aload_n 0, 1) := by decide +kernel
theorem dL_law_265 : decode cL_law 265 = .ok (.iload_n 3, 1) := by decide +kernel
theorem dL_law_266 : decode cL_law 266 = .ok (.iconst 1, 1) := by decide +kernel
theorem dL_law_267 : decode cL_law 267 = .ok (.iadd, 1) := by decide +kernel
theorem dL_law_268 : decode cL_law 268 = .ok (.iaload, 1) := by decide +kernel
theorem dL_law_269 : decode cL_law 269 = .ok (.invokevirtual 18, 3) := by decide +kernel
theorem dL_law_272 : decode cL_law 272 = .ok (.aload_n 2, 1) := by decide +kernel
theorem dL_law_273 : decode cL_law 273 = .ok (.aload_n 0, 1) := by decide +kernel
theorem dL_law_274 : decode cL_law 274 = .ok (.iload_n 3, 1) := by decide +kernel
theorem dL_law_275 : decode cL_law 275 = .ok (.iconst 1, 1) := by decide +kernel
theorem dL_law_276 : decode cL_law 276 = .ok (.iadd, 1) := by decide +kernel
theorem dL_law_277 : decode cL_law 277 = .ok (.iaload, 1) := by decide +kernel
theorem dL_law_278 : decode cL_law 278 = .ok (.invokevirtual 22, 3) := by decide +kernel
theorem dL_law_281 : decode cL_law 281 = .ok (.if_icmp .eq 929, 3) := by decide +kernel
theorem dL_law_284 : decode cL_law 284 = .ok (.iconst 0, 1) := by decide +kernel
theorem dL_law_285 : decode cL_law 285 = .ok (.ireturn, 1) := by decide +kernel
theorem dL_law_286 : decode cL_law 286 = .ok (.aload_n 1, 1) := by decide +kernel
theorem dL_law_287 : decode cL_law 287 = .ok (.invokevirtual 23, 3) := by decide +kernel
theorem dL_law_290 : decode cL_law 290 = .ok (.aload_n 2, 1) := by decide +kernel
theorem dL_law_291 : decode cL_law 291 = .ok (.invokevirtual 27, 3) := by decide +kernel
theorem dL_law_294 : decode cL_law 294 = .ok (.if_icmp .eq 916, 3) := by decide +kernel
theorem dL_law_297 : decode cL_law 297 = .ok (.iconst 0, 1) := by decide +kernel
theorem dL_law_298 : decode cL_law 298 = .ok (.ireturn, 1) := by decide +kernel
theorem dL_law_299 : decode cL_law 299 = .ok (.aload_n 1, 1) := by decide +kernel
theorem dL_law_300 : decode cL_law 300 = .ok (.aload_n 0, 1) := by decide +kernel
theorem dL_law_301 : decode cL_law 301 = .ok (.iload_n 3, 1) := by decide +kernel
theorem dL_law_302 : decode cL_law 302 = .ok (.iconst 1, 1) := by decide +kernel
theorem dL_law_303 : decode cL_law 303 = .ok (.iadd, 1) := by decide +kernel
theorem dL_law_304 : decode cL_law 304 = .ok (.iaload, 1) := by decide +kernel
theorem dL_law_305 : decode cL_law 305 = .ok (.invokevirtual 28, 3) := by decide +kernel
theorem dL_law_308 : decode cL_law 308 = .ok (.aload_n 2, 1) := by decide +kernel
theorem dL_law_309 : decode cL_law 309 = .ok (.aload_n 0, 1) := by decide +kernel
theorem dL_law_310 : decode cL_law 310 = .ok (.iload_n 3, 1) := by decide +kernel
theorem dL_law_311 : decode cL_law 311 = .ok (.iconst 1, 1) := by decide +kernel
theorem dL_law_312 : decode cL_law 312 = .ok (.iadd, 1) := by decide +kernel
theorem dL_law_313 : decode cL_law 313 = .ok (.iaload, 1) := by decide +kernel
theorem dL_law_314 : decode cL_law 314 = .ok (.invokevirtual 32, 3) := by decide +kernel
theorem dL_law_317 : decode cL_law 317 = .ok (.if_icmp .eq 893, 3) := by decide +kernel
theorem dL_law_320 : decode cL_law 320 = .ok (.iconst 0, 1) := by decide +kernel
theorem dL_law_321 : decode cL_law 321 = .ok (.ireturn, 1) := by decide +kernel
theorem dL_law_322 : decode cL_law 322 = .ok (.aload_n 1, 1) := by decide +kernel
theorem dL_law_323 : decode cL_law 323 = .ok (.aload_n 0, 1) := by decide +kernel
theorem dL_law_324 : decode cL_law 324 = .ok (.iload_n 3, 1) := by decide +kernel
theorem dL_law_325 : decode cL_law 325 = .ok (.iconst 1, 1) := by decide +kernel
theorem dL_law_326 : decode cL_law 326 = .ok (.iadd, 1) := by decide +kernel
theorem dL_law_327 : decode cL_law 327 = .ok (.iaload, 1) := by decide +kernel
theorem dL_law_328 : decode cL_law 328 = .ok (.invokevirtual 33, 3) := by decide +kernel
theorem dL_law_331 : decode cL_law 331 = .ok (.aload_n 2, 1) := by decide +kernel
theorem dL_law_332 : decode cL_law 332 = .ok (.aload_n 0, 1) := by decide +kernel
theorem dL_law_333 : decode cL_law 333 = .ok (.iload_n 3, 1) := by decide +kernel
theorem dL_law_334 : decode cL_law 334 = .ok (.iconst 1, 1) := by decide +kernel
theorem dL_law_335 : decode cL_law 335 = .ok (.iadd, 1) := by decide +kernel
theorem dL_law_336 : decode cL_law 336 = .ok (.iaload, 1) := by decide +kernel
theorem dL_law_337 : decode cL_law 337 = .ok (.invokevirtual 36, 3) := by decide +kernel
theorem dL_law_340 : decode cL_law 340 = .ok (.if_icmp .eq 870, 3) := by decide +kernel
theorem dL_law_343 : decode cL_law 343 = .ok (.iconst 0, 1) := by decide +kernel
theorem dL_law_344 : decode cL_law 344 = .ok (.ireturn, 1) := by decide +kernel
theorem dL_law_345 : decode cL_law 345 = .ok (.aload_n 1, 1) := by decide +kernel
theorem dL_law_346 : decode cL_law 346 = .ok (.aload_n 0, 1) := by decide +kernel
theorem dL_law_347 : decode cL_law 347 = .ok (.iload_n 3, 1) := by decide +kernel
theorem dL_law_348 : decode cL_law 348 = .ok (.iconst 1, 1) := by decide +kernel
theorem dL_law_349 : decode cL_law 349 = .ok (.iadd, 1) := by decide +kernel
theorem dL_law_350 : decode cL_law 350 = .ok (.iaload, 1) := by decide +kernel
theorem dL_law_351 : decode cL_law 351 = .ok (.aload_n 0, 1) := by decide +kernel
theorem dL_law_352 : decode cL_law 352 = .ok (.iload_n 3, 1) := by decide +kernel
theorem dL_law_353 : decode cL_law 353 = .ok (.iconst 2, 1) := by decide +kernel
theorem dL_law_354 : decode cL_law 354 = .ok (.iadd, 1) := by decide +kernel
theorem dL_law_355 : decode cL_law 355 = .ok (.iaload, 1) := by decide +kernel
theorem dL_law_356 : decode cL_law 356 = .ok (.aload_n 0, 1) := by decide +kernel
theorem dL_law_357 : decode cL_law 357 = .ok (.iload_n 3, 1) := by decide +kernel
theorem dL_law_358 : decode cL_law 358 = .ok (.iconst 3, 1) := by decide +kernel
theorem dL_law_359 : decode cL_law 359 = .ok (.iadd, 1) := by decide +kernel
theorem dL_law_360 : decode cL_law 360 = .ok (.iaload, 1) := by decide +kernel
theorem dL_law_361 : decode cL_law 361 = .ok (.invokevirtual 37, 3) := by decide +kernel
theorem dL_law_364 : decode cL_law 364 = .ok (.aload_n 2, 1) := by decide +kernel
theorem dL_law_365 : decode cL_law 365 = .ok (.aload_n 0, 1) := by decide +kernel
theorem dL_law_366 : decode cL_law 366 = .ok (.iload_n 3, 1) := by decide +kernel
theorem dL_law_367 : decode cL_law 367 = .ok (.iconst 1, 1) := by decide +kernel
theorem dL_law_368 : decode cL_law 368 = .ok (.iadd, 1) := by decide +kernel
theorem dL_law_369 : decode cL_law 369 = .ok (.iaload, 1) := by decide +kernel
theorem dL_law_370 : decode cL_law 370 = .ok (.aload_n 0, 1) := by decide +kernel
theorem dL_law_371 : decode cL_law 371 = .ok (.iload_n 3, 1) := by decide +kernel
theorem dL_law_372 : decode cL_law 372 = .ok (.iconst 2, 1) := by decide +kernel
theorem dL_law_373 : decode cL_law 373 = .ok (.iadd, 1) := by decide +kernel
theorem dL_law_374 : decode cL_law 374 = .ok (.iaload, 1) := by decide +kernel
theorem dL_law_375 : decode cL_law 375 = .ok (.aload_n 0, 1) := by decide +kernel
theorem dL_law_376 : decode cL_law 376 = .ok (.iload_n 3, 1) := by decide +kernel
theorem dL_law_377 : decode cL_law 377 = .ok (.iconst 3, 1) := by decide +kernel
theorem dL_law_378 : decode cL_law 378 = .ok (.iadd, 1) := by decide +kernel
theorem dL_law_379 : decode cL_law 379 = .ok (.iaload, 1) := by decide +kernel
theorem dL_law_380 : decode cL_law 380 = .ok (.invokevirtual 41, 3) := by decide +kernel
theorem dL_law_383 : decode cL_law 383 = .ok (.if_icmp .eq 827, 3) := by decide +kernel
theorem dL_law_386 : decode cL_law 386 = .ok (.iconst 0, 1) := by decide +kernel
theorem dL_law_387 : decode cL_law 387 = .ok (.ireturn, 1) := by decide +kernel
theorem dL_law_388 : decode cL_law 388 = .ok (.aload_n 1, 1) := by decide +kernel
theorem dL_law_389 : decode cL_law 389 = .ok (.aload_n 0, 1) := by decide +kernel
theorem dL_law_390 : decode cL_law 390 = .ok (.iload_n 3, 1) := by decide +kernel
theorem dL_law_391 : decode cL_law 391 = .ok (.iconst 1, 1) := by decide +kernel
theorem dL_law_392 : decode cL_law 392 = .ok (.iadd, 1) := by decide +kernel
theorem dL_law_393 : decode cL_law 393 = .ok (.iaload, 1) := by decide +kernel
theorem dL_law_394 : decode cL_law 394 = .ok (.aload_n 0, 1) := by decide +kernel
theorem dL_law_395 : decode cL_law 395 = .ok (.iload_n 3, 1) := by decide +kernel
theorem dL_law_396 : decode cL_law 396 = .ok (.iconst 2, 1) := by decide +kernel
theorem dL_law_397 : decode cL_law 397 = .ok (.iadd, 1) := by decide +kernel
theorem dL_law_398 : decode cL_law 398 = .ok (.iaload, 1) := by decide +kernel
theorem dL_law_399 : decode cL_law 399 = .ok (.invokevirtual 42, 3) := by decide +kernel
theorem dL_law_402 : decode cL_law 402 = .ok (.aload_n 2, 1) := by decide +kernel
theorem dL_law_403 : decode cL_law 403 = .ok (.aload_n 0, 1) := by decide +kernel
theorem dL_law_404 : decode cL_law 404 = .ok (.iload_n 3, 1) := by decide +kernel
theorem dL_law_405 : decode cL_law 405 = .ok (.iconst 1, 1) := by decide +kernel
theorem dL_law_406 : decode cL_law 406 = .ok (.iadd, 1) := by decide +kernel
theorem dL_law_407 : decode cL_law 407 = .ok (.iaload, 1) := by decide +kernel
theorem dL_law_408 : decode cL_law 408 = .ok (.aload_n 0, 1) := by decide +kernel
theorem dL_law_409 : decode cL_law 409 = .ok (.iload_n 3, 1) := by decide +kernel
theorem dL_law_410 : decode cL_law 410 = .ok (.iconst 2, 1) := by decide +kernel
theorem dL_law_411 : decode cL_law 411 = .ok (.iadd, 1) := by decide +kernel
theorem dL_law_412 : decode cL_law 412 = .ok (.iaload, 1) := by decide +kernel
theorem dL_law_413 : decode cL_law 413 = .ok (.invokevirtual 46, 3) := by decide +kernel
theorem dL_law_416 : decode cL_law 416 = .ok (.if_icmp .eq 794, 3) := by decide +kernel
theorem dL_law_419 : decode cL_law 419 = .ok (.iconst 0, 1) := by decide +kernel
theorem dL_law_420 : decode cL_law 420 = .ok (.ireturn, 1) := by decide +kernel
theorem dL_law_421 : decode cL_law 421 = .ok (.aload_n 1, 1) := by decide +kernel
theorem dL_law_422 : decode cL_law 422 = .ok (.aload_n 0, 1) := by decide +kernel
theorem dL_law_423 : decode cL_law 423 = .ok (.iload_n 3, 1) := by decide +kernel
theorem dL_law_424 : decode cL_law 424 = .ok (.iconst 1, 1) := by decide +kernel
theorem dL_law_425 : decode cL_law 425 = .ok (.iadd, 1) := by decide +kernel
theorem dL_law_426 : decode cL_law 426 = .ok (.iaload, 1) := by decide +kernel
theorem dL_law_427 : decode cL_law 427 = .ok (.aload_n 0, 1) := by decide +kernel
theorem dL_law_428 : decode cL_law 428 = .ok (.iload_n 3, 1) := by decide +kernel
theorem dL_law_429 : decode cL_law 429 = .ok (.iconst 2, 1) := by decide +kernel
theorem dL_law_430 : decode cL_law 430 = .ok (.iadd, 1) := by decide +kernel
theorem dL_law_431 : decode cL_law 431 = .ok (.iaload, 1) := by decide +kernel
theorem dL_law_432 : decode cL_law 432 = .ok (.invokevirtual 47, 3) := by decide +kernel
theorem dL_law_435 : decode cL_law 435 = .ok (.aload_n 2, 1) := by decide +kernel
theorem dL_law_436 : decode cL_law 436 = .ok (.aload_n 0, 1) := by decide +kernel
theorem dL_law_437 : decode cL_law 437 = .ok (.iload_n 3, 1) := by decide +kernel
theorem dL_law_438 : decode cL_law 438 = .ok (.iconst 1, 1) := by decide +kernel
theorem dL_law_439 : decode cL_law 439 = .ok (.iadd, 1) := by decide +kernel
theorem dL_law_440 : decode cL_law 440 = .ok (.iaload, 1) := by decide +kernel
theorem dL_law_441 : decode cL_law 441 = .ok (.aload_n 0, 1) := by decide +kernel
theorem dL_law_442 : decode cL_law 442 = .ok (.iload_n 3, 1) := by decide +kernel
theorem dL_law_443 : decode cL_law 443 = .ok (.iconst 2, 1) := by decide +kernel
theorem dL_law_444 : decode cL_law 444 = .ok (.iadd, 1) := by decide +kernel
theorem dL_law_445 : decode cL_law 445 = .ok (.iaload, 1) := by decide +kernel
theorem dL_law_446 : decode cL_law 446 = .ok (.invokevirtual 50, 3) := by decide +kernel
theorem dL_law_449 : decode cL_law 449 = .ok (.if_icmp .eq 761, 3) := by decide +kernel
theorem dL_law_452 : decode cL_law 452 = .ok (.iconst 0, 1) := by decide +kernel
theorem dL_law_453 : decode cL_law 453 = .ok (.ireturn, 1) := by decide +kernel
theorem dL_law_454 : decode cL_law 454 = .ok (.aload_n 1, 1) := by decide +kernel
theorem dL_law_455 : decode cL_law 455 = .ok (.aload_n 0, 1) := by decide +kernel
theorem dL_law_456 : decode cL_law 456 = .ok (.iload_n 3, 1) := by decide +kernel
theorem dL_law_457 : decode cL_law 457 = .ok (.iconst 1, 1) := by decide +kernel
theorem dL_law_458 : decode cL_law 458 = .ok (.iadd, 1) := by decide +kernel
theorem dL_law_459 : decode cL_law 459 = .ok (.iaload, 1) := by decide +kernel
theorem dL_law_460 : decode cL_law 460 = .ok (.aload_n 0, 1) := by decide +kernel
theorem dL_law_461 : decode cL_law 461 = .ok (.iload_n 3, 1) := by decide +kernel
theorem dL_law_462 : decode cL_law 462 = .ok (.iconst 2, 1) := by decide +kernel
theorem dL_law_463 : decode cL_law 463 = .ok (.iadd, 1) := by decide +kernel
theorem dL_law_464 : decode cL_law 464 = .ok (.iaload, 1) := by decide +kernel
theorem dL_law_465 : decode cL_law 465 = .ok (.invokevirtual 51, 3) := by decide +kernel
theorem dL_law_468 : decode cL_law 468 = .ok (.aload_n 2, 1) := by decide +kernel
theorem dL_law_469 : decode cL_law 469 = .ok (.aload_n 0, 1) := by decide +kernel
theorem dL_law_470 : decode cL_law 470 = .ok (.iload_n 3, 1) := by decide +kernel
theorem dL_law_471 : decode cL_law 471 = .ok (.iconst 1, 1) := by decide +kernel
theorem dL_law_472 : decode cL_law 472 = .ok (.iadd, 1) := by decide +kernel
theorem dL_law_473 : decode cL_law 473 = .ok (.iaload, 1) := by decide +kernel
theorem dL_law_474 : decode cL_law 474 = .ok (.aload_n 0, 1) := by decide +kernel
theorem dL_law_475 : decode cL_law 475 = .ok (.iload_n 3, 1) := by decide +kernel
theorem dL_law_476 : decode cL_law 476 = .ok (.iconst 2, 1) := by decide +kernel
theorem dL_law_477 : decode cL_law 477 = .ok (.iadd, 1) := by decide +kernel
theorem dL_law_478 : decode cL_law 478 = .ok (.iaload, 1) := by decide +kernel
theorem dL_law_479 : decode cL_law 479 = .ok (.invokevirtual 54, 3) := by decide +kernel
theorem dL_law_482 : decode cL_law 482 = .ok (.if_icmp .eq 728, 3) := by decide +kernel
theorem dL_law_485 : decode cL_law 485 = .ok (.iconst 0, 1) := by decide +kernel
theorem dL_law_486 : decode cL_law 486 = .ok (.ireturn, 1) := by decide +kernel
theorem dL_law_487 : decode cL_law 487 = .ok (.aload_n 1, 1) := by decide +kernel
theorem dL_law_488 : decode cL_law 488 = .ok (.aload_n 0, 1) := by decide +kernel
theorem dL_law_489 : decode cL_law 489 = .ok (.iload_n 3, 1) := by decide +kernel
theorem dL_law_490 : decode cL_law 490 = .ok (.iconst 1, 1) := by decide +kernel
theorem dL_law_491 : decode cL_law 491 = .ok (.iadd, 1) := by decide +kernel
theorem dL_law_492 : decode cL_law 492 = .ok (.iaload, 1) := by decide +kernel
theorem dL_law_493 : decode cL_law 493 = .ok (.aload_n 0, 1) := by decide +kernel
theorem dL_law_494 : decode cL_law 494 = .ok (.iload_n 3, 1) := by decide +kernel
theorem dL_law_495 : decode cL_law 495 = .ok (.iconst 2, 1) := by decide +kernel
theorem dL_law_496 : decode cL_law 496 = .ok (.iadd, 1) := by decide +kernel
theorem dL_law_497 : decode cL_law 497 = .ok (.iaload, 1) := by decide +kernel
theorem dL_law_498 : decode cL_law 498 = .ok (.invokevirtual 55, 3) := by decide +kernel
theorem dL_law_501 : decode cL_law 501 = .ok (.aload_n 2, 1) := by decide +kernel
theorem dL_law_502 : decode cL_law 502 = .ok (.aload_n 0, 1) := by decide +kernel
theorem dL_law_503 : decode cL_law 503 = .ok (.iload_n 3, 1) := by decide +kernel
theorem dL_law_504 : decode cL_law 504 = .ok (.iconst 1, 1) := by decide +kernel
theorem dL_law_505 : decode cL_law 505 = .ok (.iadd, 1) := by decide +kernel
theorem dL_law_506 : decode cL_law 506 = .ok (.iaload, 1) := by decide +kernel
theorem dL_law_507 : decode cL_law 507 = .ok (.aload_n 0, 1) := by decide +kernel
theorem dL_law_508 : decode cL_law 508 = .ok (.iload_n 3, 1) := by decide +kernel
theorem dL_law_509 : decode cL_law 509 = .ok (.iconst 2, 1) := by decide +kernel
theorem dL_law_510 : decode cL_law 510 = .ok (.iadd, 1) := by decide +kernel
theorem dL_law_511 : decode cL_law 511 = .ok (.iaload, 1) := by decide +kernel
theorem dL_law_512 : decode cL_law 512 = .ok (.invokevirtual 58, 3) := by decide +kernel
theorem dL_law_515 : decode cL_law 515 = .ok (.if_icmp .eq 695, 3) := by decide +kernel
theorem dL_law_518 : decode cL_law 518 = .ok (.iconst 0, 1) := by decide +kernel
theorem dL_law_519 : decode cL_law 519 = .ok (.ireturn, 1) := by decide +kernel
theorem dL_law_520 : decode cL_law 520 = .ok (.aload_n 1, 1) := by decide +kernel
theorem dL_law_521 : decode cL_law 521 = .ok (.aload_n 0, 1) := by decide +kernel
theorem dL_law_522 : decode cL_law 522 = .ok (.iload_n 3, 1) := by decide +kernel
theorem dL_law_523 : decode cL_law 523 = .ok (.iconst 1, 1) := by decide +kernel
theorem dL_law_524 : decode cL_law 524 = .ok (.iadd, 1) := by decide +kernel
theorem dL_law_525 : decode cL_law 525 = .ok (.iaload, 1) := by decide +kernel
theorem dL_law_526 : decode cL_law 526 = .ok (.aload_n 0, 1) := by decide +kernel
theorem dL_law_527 : decode cL_law 527 = .ok (.iload_n 3, 1) := by decide +kernel
theorem dL_law_528 : decode cL_law 528 = .ok (.iconst 2, 1) := by decide +kernel
theorem dL_law_529 : decode cL_law 529 = .ok (.iadd, 1) := by decide +kernel
theorem dL_law_530 : decode cL_law 530 = .ok (.iaload, 1) := by decide +kernel
theorem dL_law_531 : decode cL_law 531 = .ok (.invokevirtual 59, 3) := by decide +kernel
theorem dL_law_534 : decode cL_law 534 = .ok (.aload_n 2, 1) := by decide +kernel
theorem dL_law_535 : decode cL_law 535 = .ok (.aload_n 0, 1) := by decide +kernel
theorem dL_law_536 : decode cL_law 536 = .ok (.iload_n 3, 1) := by decide +kernel
theorem dL_law_537 : decode cL_law 537 = .ok (.iconst 1, 1) := by decide +kernel
theorem dL_law_538 : decode cL_law 538 = .ok (.iadd, 1) := by decide +kernel
theorem dL_law_539 : decode cL_law 539 = .ok (.iaload, 1) := by decide +kernel
theorem dL_law_540 : decode cL_law 540 = .ok (.aload_n 0, 1) := by decide +kernel
theorem dL_law_541 : decode cL_law 541 = .ok (.iload_n 3, 1) := by decide +kernel
theorem dL_law_542 : decode cL_law 542 = .ok (.iconst 2, 1) := by decide +kernel
theorem dL_law_543 : decode cL_law 543 = .ok (.iadd, 1) := by decide +kernel
theorem dL_law_544 : decode cL_law 544 = .ok (.iaload, 1) := by decide +kernel
theorem dL_law_545 : decode cL_law 545 = .ok (.invokevirtual 62, 3) := by decide +kernel
theorem dL_law_548 : decode cL_law 548 = .ok (.if_icmp .eq 662, 3) := by decide +kernel
theorem dL_law_551 : decode cL_law 551 = .ok (.iconst 0, 1) := by decide +kernel
theorem dL_law_552 : decode cL_law 552 = .ok (.ireturn, 1) := by decide +kernel
theorem dL_law_553 : decode cL_law 553 = .ok (.aload_n 1, 1) := by decide +kernel
theorem dL_law_554 : decode cL_law 554 = .ok (.aload_n 0, 1) := by decide +kernel
theorem dL_law_555 : decode cL_law 555 = .ok (.iload_n 3, 1) := by decide +kernel
theorem dL_law_556 : decode cL_law 556 = .ok (.iconst 1, 1) := by decide +kernel
theorem dL_law_557 : decode cL_law 557 = .ok (.iadd, 1) := by decide +kernel
theorem dL_law_558 : decode cL_law 558 = .ok (.iaload, 1) := by decide +kernel
theorem dL_law_559 : decode cL_law 559 = .ok (.invokevirtual 63, 3) := by decide +kernel
theorem dL_law_562 : decode cL_law 562 = .ok (.aload_n 2, 1) := by decide +kernel
theorem dL_law_563 : decode cL_law 563 = .ok (.aload_n 0, 1) := by decide +kernel
theorem dL_law_564 : decode cL_law 564 = .ok (.iload_n 3, 1) := by decide +kernel
theorem dL_law_565 : decode cL_law 565 = .ok (.iconst 1, 1) := by decide +kernel
theorem dL_law_566 : decode cL_law 566 = .ok (.iadd, 1) := by decide +kernel
theorem dL_law_567 : decode cL_law 567 = .ok (.iaload, 1) := by decide +kernel
theorem dL_law_568 : decode cL_law 568 = .ok (.invokevirtual 66, 3) := by decide +kernel
theorem dL_law_571 : decode cL_law 571 = .ok (.if_icmp .eq 639, 3) := by decide +kernel
theorem dL_law_574 : decode cL_law 574 = .ok (.iconst 0, 1) := by decide +kernel
theorem dL_law_575 : decode cL_law 575 = .ok (.ireturn, 1) := by decide +kernel
theorem dL_law_576 : decode cL_law 576 = .ok (.aload_n 1, 1) := by decide +kernel
theorem dL_law_577 : decode cL_law 577 = .ok (.invokevirtual 67, 3) := by decide +kernel
theorem dL_law_580 : decode cL_law 580 = .ok (.aload_n 2, 1) := by decide +kernel
theorem dL_law_581 : decode cL_law 581 = .ok (.invokevirtual 71, 3) := by decide +kernel
theorem dL_law_584 : decode cL_law 584 = .ok (.if_icmp .eq 626, 3) := by decide +kernel
theorem dL_law_587 : decode cL_law 587 = .ok (.iconst 0, 1) := by decide +kernel
theorem dL_law_588 : decode cL_law 588 = .ok (.ireturn, 1) := by decide +kernel
theorem dL_law_589 : decode cL_law 589 = .ok (.aload_n 1, 1) := by decide +kernel
theorem dL_law_590 : decode cL_law 590 = .ok (.aload_n 0, 1) := by decide +kernel
theorem dL_law_591 : decode cL_law 591 = .ok (.iload_n 3, 1) := by decide +kernel
theorem dL_law_592 : decode cL_law 592 = .ok (.iconst 1, 1) := by decide +kernel
theorem dL_law_593 : decode cL_law 593 = .ok (.iadd, 1) := by decide +kernel
theorem dL_law_594 : decode cL_law 594 = .ok (.iaload, 1) := by decide +kernel
theorem dL_law_595 : decode cL_law 595 = .ok (.aload_n 0, 1) := by decide +kernel
theorem dL_law_596 : decode cL_law 596 = .ok (.iload_n 3, 1) := by decide +kernel
theorem dL_law_597 : decode cL_law 597 = .ok (.iconst 2, 1) := by decide +kernel
theorem dL_law_598 : decode cL_law 598 = .ok (.iadd, 1) := by decide +kernel
theorem dL_law_599 : decode cL_law 599 = .ok (.iaload, 1) := by decide +kernel
theorem dL_law_600 : decode cL_law 600 = .ok (.invokevirtual 72, 3) := by decide +kernel
theorem dL_law_603 : decode cL_law 603 = .ok (.aload_n 2, 1) := by decide +kernel
theorem dL_law_604 : decode cL_law 604 = .ok (.aload_n 0, 1) := by decide +kernel
theorem dL_law_605 : decode cL_law 605 = .ok (.iload_n 3, 1) := by decide +kernel
theorem dL_law_606 : decode cL_law 606 = .ok (.iconst 1, 1) := by decide +kernel
theorem dL_law_607 : decode cL_law 607 = .ok (.iadd, 1) := by decide +kernel
theorem dL_law_608 : decode cL_law 608 = .ok (.iaload, 1) := by decide +kernel
theorem dL_law_609 : decode cL_law 609 = .ok (.aload_n 0, 1) := by decide +kernel
theorem dL_law_610 : decode cL_law 610 = .ok (.iload_n 3, 1) := by decide +kernel
theorem dL_law_611 : decode cL_law 611 = .ok (.iconst 2, 1) := by decide +kernel
theorem dL_law_612 : decode cL_law 612 = .ok (.iadd, 1) := by decide +kernel
theorem dL_law_613 : decode cL_law 613 = .ok (.iaload, 1) := by decide +kernel
theorem dL_law_614 : decode cL_law 614 = .ok (.invokevirtual 75, 3) := by decide +kernel
theorem dL_law_617 : decode cL_law 617 = .ok (.if_icmp .eq 593, 3) := by decide +kernel
theorem dL_law_620 : decode cL_law 620 = .ok (.iconst 0, 1) := by decide +kernel
theorem dL_law_621 : decode cL_law 621 = .ok (.ireturn, 1) := by decide +kernel
theorem dL_law_622 : decode cL_law 622 = .ok (.aload_n 1, 1) := by decide +kernel
theorem dL_law_623 : decode cL_law 623 = .ok (.aload_n 0, 1) := by decide +kernel
theorem dL_law_624 : decode cL_law 624 = .ok (.iload_n 3, 1) := by decide +kernel
theorem dL_law_625 : decode cL_law 625 = .ok (.iconst 1, 1) := by decide +kernel
theorem dL_law_626 : decode cL_law 626 = .ok (.iadd, 1) := by decide +kernel
theorem dL_law_627 : decode cL_law 627 = .ok (.iaload, 1) := by decide +kernel
theorem dL_law_628 : decode cL_law 628 = .ok (.aload_n 0, 1) := by decide +kernel
theorem dL_law_629 : decode cL_law 629 = .ok (.iload_n 3, 1) := by decide +kernel
theorem dL_law_630 : decode cL_law 630 = .ok (.iconst 2, 1) := by decide +kernel
theorem dL_law_631 : decode cL_law 631 = .ok (.iadd, 1) := by decide +kernel
theorem dL_law_632 : decode cL_law 632 = .ok (.iaload, 1) := by decide +kernel
theorem dL_law_633 : decode cL_law 633 = .ok (.invokevirtual 76, 3) := by decide +kernel
theorem dL_law_636 : decode cL_law 636 = .ok (.aload_n 2, 1) := by decide +kernel
theorem dL_law_637 : decode cL_law 637 = .ok (.aload_n 0, 1) := by decide +kernel
theorem dL_law_638 : decode cL_law 638 = .ok (.iload_n 3, 1) := by decide +kernel
theorem dL_law_639 : decode cL_law 639 = .ok (.iconst 1, 1) := by decide +kernel
theorem dL_law_640 : decode cL_law 640 = .ok (.iadd, 1) := by decide +kernel
theorem dL_law_641 : decode cL_law 641 = .ok (.iaload, 1) := by decide +kernel
theorem dL_law_642 : decode cL_law 642 = .ok (.aload_n 0, 1) := by decide +kernel
theorem dL_law_643 : decode cL_law 643 = .ok (.iload_n 3, 1) := by decide +kernel
theorem dL_law_644 : decode cL_law 644 = .ok (.iconst 2, 1) := by decide +kernel
theorem dL_law_645 : decode cL_law 645 = .ok (.iadd, 1) := by decide +kernel
theorem dL_law_646 : decode cL_law 646 = .ok (.iaload, 1) := by decide +kernel
theorem dL_law_647 : decode cL_law 647 = .ok (.invokevirtual 79, 3) := by decide +kernel
theorem dL_law_650 : decode cL_law 650 = .ok (.if_icmp .eq 560, 3) := by decide +kernel
theorem dL_law_653 : decode cL_law 653 = .ok (.iconst 0, 1) := by decide +kernel
theorem dL_law_654 : decode cL_law 654 = .ok (.ireturn, 1) := by decide +kernel
theorem dL_law_655 : decode cL_law 655 = .ok (.aload_n 1, 1) := by decide +kernel
theorem dL_law_656 : decode cL_law 656 = .ok (.aload_n 0, 1) := by decide +kernel
theorem dL_law_657 : decode cL_law 657 = .ok (.iload_n 3, 1) := by decide +kernel
theorem dL_law_658 : decode cL_law 658 = .ok (.iconst 1, 1) := by decide +kernel
theorem dL_law_659 : decode cL_law 659 = .ok (.iadd, 1) := by decide +kernel
theorem dL_law_660 : decode cL_law 660 = .ok (.iaload, 1) := by decide +kernel
theorem dL_law_661 : decode cL_law 661 = .ok (.aload_n 0, 1) := by decide +kernel
theorem dL_law_662 : decode cL_law 662 = .ok (.iload_n 3, 1) := by decide +kernel
theorem dL_law_663 : decode cL_law 663 = .ok (.iconst 2, 1) := by decide +kernel
theorem dL_law_664 : decode cL_law 664 = .ok (.iadd, 1) := by decide +kernel
theorem dL_law_665 : decode cL_law 665 = .ok (.iaload, 1) := by decide +kernel
theorem dL_law_666 : decode cL_law 666 = .ok (.invokevirtual 80, 3) := by decide +kernel
theorem dL_law_669 : decode cL_law 669 = .ok (.aload_n 2, 1) := by decide +kernel
theorem dL_law_670 : decode cL_law 670 = .ok (.aload_n 0, 1) := by decide +kernel
theorem dL_law_671 : decode cL_law 671 = .ok (.iload_n 3, 1) := by decide +kernel
theorem dL_law_672 : decode cL_law 672 = .ok (.iconst 1, 1) := by decide +kernel
theorem dL_law_673 : decode cL_law 673 = .ok (.iadd, 1) := by decide +kernel
theorem dL_law_674 : decode cL_law 674 = .ok (.iaload, 1) := by decide +kernel
theorem dL_law_675 : decode cL_law 675 = .ok (.aload_n 0, 1) := by decide +kernel
theorem dL_law_676 : decode cL_law 676 = .ok (.iload_n 3, 1) := by decide +kernel
theorem dL_law_677 : decode cL_law 677 = .ok (.iconst 2, 1) := by decide +kernel
theorem dL_law_678 : decode cL_law 678 = .ok (.iadd, 1) := by decide +kernel
theorem dL_law_679 : decode cL_law 679 = .ok (.iaload, 1) := by decide +kernel
theorem dL_law_680 : decode cL_law 680 = .ok (.invokevirtual 83, 3) := by decide +kernel
theorem dL_law_683 : decode cL_law 683 = .ok (.if_icmp .eq 527, 3) := by decide +kernel
theorem dL_law_686 : decode cL_law 686 = .ok (.iconst 0, 1) := by decide +kernel
theorem dL_law_687 : decode cL_law 687 = .ok (.ireturn, 1) := by decide +kernel
theorem dL_law_688 : decode cL_law 688 = .ok (.aload_n 1, 1) := by decide +kernel
theorem dL_law_689 : decode cL_law 689 = .ok (.aload_n 0, 1) := by decide +kernel
theorem dL_law_690 : decode cL_law 690 = .ok (.iload_n 3, 1) := by decide +kernel
theorem dL_law_691 : decode cL_law 691 = .ok (.iconst 1, 1) := by decide +kernel
theorem dL_law_692 : decode cL_law 692 = .ok (.iadd, 1) := by decide +kernel
theorem dL_law_693 : decode cL_law 693 = .ok (.iaload, 1) := by decide +kernel
theorem dL_law_694 : decode cL_law 694 = .ok (.aload_n 0, 1) := by decide +kernel
theorem dL_law_695 : decode cL_law 695 = .ok (.iload_n 3, 1) := by decide +kernel
theorem dL_law_696 : decode cL_law 696 = .ok (.iconst 2, 1) := by decide +kernel
theorem dL_law_697 : decode cL_law 697 = .ok (.iadd, 1) := by decide +kernel
theorem dL_law_698 : decode cL_law 698 = .ok (.iaload, 1) := by decide +kernel
theorem dL_law_699 : decode cL_law 699 = .ok (.invokevirtual 84, 3) := by decide +kernel
theorem dL_law_702 : decode cL_law 702 = .ok (.aload_n 2, 1) := by decide +kernel
theorem dL_law_703 : decode cL_law 703 = .ok (.aload_n 0, 1) := by decide +kernel
theorem dL_law_704 : decode cL_law 704 = .ok (.iload_n 3, 1) := by decide +kernel
theorem dL_law_705 : decode cL_law 705 = .ok (.iconst 1, 1) := by decide +kernel
theorem dL_law_706 : decode cL_law 706 = .ok (.iadd, 1) := by decide +kernel
theorem dL_law_707 : decode cL_law 707 = .ok (.iaload, 1) := by decide +kernel
theorem dL_law_708 : decode cL_law 708 = .ok (.aload_n 0, 1) := by decide +kernel
theorem dL_law_709 : decode cL_law 709 = .ok (.iload_n 3, 1) := by decide +kernel
theorem dL_law_710 : decode cL_law 710 = .ok (.iconst 2, 1) := by decide +kernel
theorem dL_law_711 : decode cL_law 711 = .ok (.iadd, 1) := by decide +kernel
theorem dL_law_712 : decode cL_law 712 = .ok (.iaload, 1) := by decide +kernel
theorem dL_law_713 : decode cL_law 713 = .ok (.invokevirtual 87, 3) := by decide +kernel
theorem dL_law_716 : decode cL_law 716 = .ok (.if_icmp .eq 494, 3) := by decide +kernel
theorem dL_law_719 : decode cL_law 719 = .ok (.iconst 0, 1) := by decide +kernel
theorem dL_law_720 : decode cL_law 720 = .ok (.ireturn, 1) := by decide +kernel
theorem dL_law_721 : decode cL_law 721 = .ok (.aload_n 1, 1) := by decide +kernel
theorem dL_law_722 : decode cL_law 722 = .ok (.aload_n 0, 1) := by decide +kernel
theorem dL_law_723 : decode cL_law 723 = .ok (.iload_n 3, 1) := by decide +kernel
theorem dL_law_724 : decode cL_law 724 = .ok (.iconst 1, 1) := by decide +kernel
theorem dL_law_725 : decode cL_law 725 = .ok (.iadd, 1) := by decide +kernel
theorem dL_law_726 : decode cL_law 726 = .ok (.iaload, 1) := by decide +kernel
theorem dL_law_727 : decode cL_law 727 = .ok (.invokevirtual 88, 3) := by decide +kernel
theorem dL_law_730 : decode cL_law 730 = .ok (.aload_n 2, 1) := by decide +kernel
theorem dL_law_731 : decode cL_law 731 = .ok (.aload_n 0, 1) := by decide +kernel
theorem dL_law_732 : decode cL_law 732 = .ok (.iload_n 3, 1) := by decide +kernel
theorem dL_law_733 : decode cL_law 733 = .ok (.iconst 1, 1) := by decide +kernel
theorem dL_law_734 : decode cL_law 734 = .ok (.iadd, 1) := by decide +kernel
theorem dL_law_735 : decode cL_law 735 = .ok (.iaload, 1) := by decide +kernel
theorem dL_law_736 : decode cL_law 736 = .ok (.invokevirtual 91, 3) := by decide +kernel
theorem dL_law_739 : decode cL_law 739 = .ok (.if_icmp .eq 471, 3) := by decide +kernel
theorem dL_law_742 : decode cL_law 742 = .ok (.iconst 0, 1) := by decide +kernel
theorem dL_law_743 : decode cL_law 743 = .ok (.ireturn, 1) := by decide +kernel
theorem dL_law_744 : decode cL_law 744 = .ok (.aload_n 1, 1) := by decide +kernel
theorem dL_law_745 : decode cL_law 745 = .ok (.aload_n 0, 1) := by decide +kernel
theorem dL_law_746 : decode cL_law 746 = .ok (.iload_n 3, 1) := by decide +kernel
theorem dL_law_747 : decode cL_law 747 = .ok (.iconst 1, 1) := by decide +kernel
theorem dL_law_748 : decode cL_law 748 = .ok (.iadd, 1) := by decide +kernel
theorem dL_law_749 : decode cL_law 749 = .ok (.iaload, 1) := by decide +kernel
theorem dL_law_750 : decode cL_law 750 = .ok (.invokevirtual 92, 3) := by decide +kernel
theorem dL_law_753 : decode cL_law 753 = .ok (.aload_n 2, 1) := by decide +kernel
theorem dL_law_754 : decode cL_law 754 = .ok (.aload_n 0, 1) := by decide +kernel
theorem dL_law_755 : decode cL_law 755 = .ok (.iload_n 3, 1) := by decide +kernel
theorem dL_law_756 : decode cL_law 756 = .ok (.iconst 1, 1) := by decide +kernel
theorem dL_law_757 : decode cL_law 757 = .ok (.iadd, 1) := by decide +kernel
theorem dL_law_758 : decode cL_law 758 = .ok (.iaload, 1) := by decide +kernel
theorem dL_law_759 : decode cL_law 759 = .ok (.invokevirtual 95, 3) := by decide +kernel
theorem dL_law_762 : decode cL_law 762 = .ok (.if_icmp .eq 448, 3) := by decide +kernel
theorem dL_law_765 : decode cL_law 765 = .ok (.iconst 0, 1) := by decide +kernel
theorem dL_law_766 : decode cL_law 766 = .ok (.ireturn, 1) := by decide +kernel
theorem dL_law_767 : decode cL_law 767 = .ok (.aload_n 1, 1) := by decide +kernel
theorem dL_law_768 : decode cL_law 768 = .ok (.aload_n 0, 1) := by decide +kernel
theorem dL_law_769 : decode cL_law 769 = .ok (.iload_n 3, 1) := by decide +kernel
theorem dL_law_770 : decode cL_law 770 = .ok (.iconst 1, 1) := by decide +kernel
theorem dL_law_771 : decode cL_law 771 = .ok (.iadd, 1) := by decide +kernel
theorem dL_law_772 : decode cL_law 772 = .ok (.iaload, 1) := by decide +kernel
theorem dL_law_773 : decode cL_law 773 = .ok (.aload_n 0, 1) := by decide +kernel
theorem dL_law_774 : decode cL_law 774 = .ok (.iload_n 3, 1) := by decide +kernel
theorem dL_law_775 : decode cL_law 775 = .ok (.iconst 2, 1) := by decide +kernel
theorem dL_law_776 : decode cL_law 776 = .ok (.iadd, 1) := by decide +kernel
theorem dL_law_777 : decode cL_law 777 = .ok (.iaload, 1) := by decide +kernel
theorem dL_law_778 : decode cL_law 778 = .ok (.invokevirtual 96, 3) := by decide +kernel
theorem dL_law_781 : decode cL_law 781 = .ok (.aload_n 2, 1) := by decide +kernel
theorem dL_law_782 : decode cL_law 782 = .ok (.aload_n 0, 1) := by decide +kernel
theorem dL_law_783 : decode cL_law 783 = .ok (.iload_n 3, 1) := by decide +kernel
theorem dL_law_784 : decode cL_law 784 = .ok (.iconst 1, 1) := by decide +kernel
theorem dL_law_785 : decode cL_law 785 = .ok (.iadd, 1) := by decide +kernel
theorem dL_law_786 : decode cL_law 786 = .ok (.iaload, 1) := by decide +kernel
theorem dL_law_787 : decode cL_law 787 = .ok (.aload_n 0, 1) := by decide +kernel
theorem dL_law_788 : decode cL_law 788 = .ok (.iload_n 3, 1) := by decide +kernel
theorem dL_law_789 : decode cL_law 789 = .ok (.iconst 2, 1) := by decide +kernel
theorem dL_law_790 : decode cL_law 790 = .ok (.iadd, 1) := by decide +kernel
theorem dL_law_791 : decode cL_law 791 = .ok (.iaload, 1) := by decide +kernel
theorem dL_law_792 : decode cL_law 792 = .ok (.invokevirtual 99, 3) := by decide +kernel
theorem dL_law_795 : decode cL_law 795 = .ok (.if_icmp .eq 415, 3) := by decide +kernel
theorem dL_law_798 : decode cL_law 798 = .ok (.iconst 0, 1) := by decide +kernel
theorem dL_law_799 : decode cL_law 799 = .ok (.ireturn, 1) := by decide +kernel
theorem dL_law_800 : decode cL_law 800 = .ok (.aload_n 1, 1) := by decide +kernel
theorem dL_law_801 : decode cL_law 801 = .ok (.invokevirtual 100, 3) := by decide +kernel
theorem dL_law_804 : decode cL_law 804 = .ok (.aload_n 2, 1) := by decide +kernel
theorem dL_law_805 : decode cL_law 805 = .ok (.invokevirtual 103, 3) := by decide +kernel
theorem dL_law_808 : decode cL_law 808 = .ok (.if_icmp .eq 402, 3) := by decide +kernel
theorem dL_law_811 : decode cL_law 811 = .ok (.iconst 0, 1) := by decide +kernel
theorem dL_law_812 : decode cL_law 812 = .ok (.ireturn, 1) := by decide +kernel
theorem dL_law_813 : decode cL_law 813 = .ok (.aload_n 1, 1) := by decide +kernel
theorem dL_law_814 : decode cL_law 814 = .ok (.aload_n 0, 1) := by decide +kernel
theorem dL_law_815 : decode cL_law 815 = .ok (.iload_n 3, 1) := by decide +kernel
theorem dL_law_816 : decode cL_law 816 = .ok (.iconst 1, 1) := by decide +kernel
theorem dL_law_817 : decode cL_law 817 = .ok (.iadd, 1) := by decide +kernel
theorem dL_law_818 : decode cL_law 818 = .ok (.iaload, 1) := by decide +kernel
theorem dL_law_819 : decode cL_law 819 = .ok (.invokevirtual 104, 3) := by decide +kernel
theorem dL_law_822 : decode cL_law 822 = .ok (.aload_n 2, 1) := by decide +kernel
theorem dL_law_823 : decode cL_law 823 = .ok (.aload_n 0, 1) := by decide +kernel
theorem dL_law_824 : decode cL_law 824 = .ok (.iload_n 3, 1) := by decide +kernel
theorem dL_law_825 : decode cL_law 825 = .ok (.iconst 1, 1) := by decide +kernel
theorem dL_law_826 : decode cL_law 826 = .ok (.iadd, 1) := by decide +kernel
theorem dL_law_827 : decode cL_law 827 = .ok (.iaload, 1) := by decide +kernel
theorem dL_law_828 : decode cL_law 828 = .ok (.invokevirtual 107, 3) := by decide +kernel
theorem dL_law_831 : decode cL_law 831 = .ok (.if_icmp .eq 379, 3) := by decide +kernel
theorem dL_law_834 : decode cL_law 834 = .ok (.iconst 0, 1) := by decide +kernel
theorem dL_law_835 : decode cL_law 835 = .ok (.ireturn, 1) := by decide +kernel
theorem dL_law_836 : decode cL_law 836 = .ok (.aload_n 1, 1) := by decide +kernel
theorem dL_law_837 : decode cL_law 837 = .ok (.aload_n 0, 1) := by decide +kernel
theorem dL_law_838 : decode cL_law 838 = .ok (.iload_n 3, 1) := by decide +kernel
theorem dL_law_839 : decode cL_law 839 = .ok (.iconst 1, 1) := by decide +kernel
theorem dL_law_840 : decode cL_law 840 = .ok (.iadd, 1) := by decide +kernel
theorem dL_law_841 : decode cL_law 841 = .ok (.iaload, 1) := by decide +kernel
theorem dL_law_842 : decode cL_law 842 = .ok (.invokevirtual 108, 3) := by decide +kernel
theorem dL_law_845 : decode cL_law 845 = .ok (.aload_n 2, 1) := by decide +kernel
theorem dL_law_846 : decode cL_law 846 = .ok (.aload_n 0, 1) := by decide +kernel
theorem dL_law_847 : decode cL_law 847 = .ok (.iload_n 3, 1) := by decide +kernel
theorem dL_law_848 : decode cL_law 848 = .ok (.iconst 1, 1) := by decide +kernel
theorem dL_law_849 : decode cL_law 849 = .ok (.iadd, 1) := by decide +kernel
theorem dL_law_850 : decode cL_law 850 = .ok (.iaload, 1) := by decide +kernel
theorem dL_law_851 : decode cL_law 851 = .ok (.invokevirtual 111, 3) := by decide +kernel
theorem dL_law_854 : decode cL_law 854 = .ok (.if_icmp .eq 356, 3) := by decide +kernel
theorem dL_law_857 : decode cL_law 857 = .ok (.iconst 0, 1) := by decide +kernel
theorem dL_law_858 : decode cL_law 858 = .ok (.ireturn, 1) := by decide +kernel
theorem dL_law_859 : decode cL_law 859 = .ok (.aload_n 1, 1) := by decide +kernel
theorem dL_law_860 : decode cL_law 860 = .ok (.aload_n 0, 1) := by decide +kernel
theorem dL_law_861 : decode cL_law 861 = .ok (.iload_n 3, 1) := by decide +kernel
theorem dL_law_862 : decode cL_law 862 = .ok (.iconst 1, 1) := by decide +kernel
theorem dL_law_863 : decode cL_law 863 = .ok (.iadd, 1) := by decide +kernel
theorem dL_law_864 : decode cL_law 864 = .ok (.iaload, 1) := by decide +kernel
theorem dL_law_865 : decode cL_law 865 = .ok (.invokevirtual 112, 3) := by decide +kernel
theorem dL_law_868 : decode cL_law 868 = .ok (.aload_n 2, 1) := by decide +kernel
theorem dL_law_869 : decode cL_law 869 = .ok (.aload_n 0, 1) := by decide +kernel
theorem dL_law_870 : decode cL_law 870 = .ok (.iload_n 3, 1) := by decide +kernel
theorem dL_law_871 : decode cL_law 871 = .ok (.iconst 1, 1) := by decide +kernel
theorem dL_law_872 : decode cL_law 872 = .ok (.iadd, 1) := by decide +kernel
theorem dL_law_873 : decode cL_law 873 = .ok (.iaload, 1) := by decide +kernel
theorem dL_law_874 : decode cL_law 874 = .ok (.invokevirtual 115, 3) := by decide +kernel
theorem dL_law_877 : decode cL_law 877 = .ok (.if_icmp .eq 333, 3) := by decide +kernel
theorem dL_law_880 : decode cL_law 880 = .ok (.iconst 0, 1) := by decide +kernel
theorem dL_law_881 : decode cL_law 881 = .ok (.ireturn, 1) := by decide +kernel
theorem dL_law_882 : decode cL_law 882 = .ok (.aload_n 1, 1) := by decide +kernel
theorem dL_law_883 : decode cL_law 883 = .ok (.aload_n 0, 1) := by decide +kernel
theorem dL_law_884 : decode cL_law 884 = .ok (.iload_n 3, 1) := by decide +kernel
theorem dL_law_885 : decode cL_law 885 = .ok (.iconst 1, 1) := by decide +kernel
theorem dL_law_886 : decode cL_law 886 = .ok (.iadd, 1) := by decide +kernel
theorem dL_law_887 : decode cL_law 887 = .ok (.iaload, 1) := by decide +kernel
theorem dL_law_888 : decode cL_law 888 = .ok (.aload_n 0, 1) := by decide +kernel
theorem dL_law_889 : decode cL_law 889 = .ok (.iload_n 3, 1) := by decide +kernel
theorem dL_law_890 : decode cL_law 890 = .ok (.iconst 2, 1) := by decide +kernel
theorem dL_law_891 : decode cL_law 891 = .ok (.iadd, 1) := by decide +kernel
theorem dL_law_892 : decode cL_law 892 = .ok (.iaload, 1) := by decide +kernel
theorem dL_law_893 : decode cL_law 893 = .ok (.ifCond .eq 7, 3) := by decide +kernel
theorem dL_law_896 : decode cL_law 896 = .ok (.iconst 1, 1) := by decide +kernel
theorem dL_law_897 : decode cL_law 897 = .ok (.goto 4, 3) := by decide +kernel
theorem dL_law_900 : decode cL_law 900 = .ok (.iconst 0, 1) := by decide +kernel
theorem dL_law_901 : decode cL_law 901 = .ok (.invokevirtual 116, 3) := by decide +kernel
theorem dL_law_904 : decode cL_law 904 = .ok (.aload_n 2, 1) := by decide +kernel
theorem dL_law_905 : decode cL_law 905 = .ok (.aload_n 0, 1) := by decide +kernel
theorem dL_law_906 : decode cL_law 906 = .ok (.iload_n 3, 1) := by decide +kernel
theorem dL_law_907 : decode cL_law 907 = .ok (.iconst 1, 1) := by decide +kernel
theorem dL_law_908 : decode cL_law 908 = .ok (.iadd, 1) := by decide +kernel
theorem dL_law_909 : decode cL_law 909 = .ok (.iaload, 1) := by decide +kernel
theorem dL_law_910 : decode cL_law 910 = .ok (.aload_n 0, 1) := by decide +kernel
theorem dL_law_911 : decode cL_law 911 = .ok (.iload_n 3, 1) := by decide +kernel
theorem dL_law_912 : decode cL_law 912 = .ok (.iconst 2, 1) := by decide +kernel
theorem dL_law_913 : decode cL_law 913 = .ok (.iadd, 1) := by decide +kernel
theorem dL_law_914 : decode cL_law 914 = .ok (.iaload, 1) := by decide +kernel
theorem dL_law_915 : decode cL_law 915 = .ok (.ifCond .eq 7, 3) := by decide +kernel
theorem dL_law_918 : decode cL_law 918 = .ok (.iconst 1, 1) := by decide +kernel
theorem dL_law_919 : decode cL_law 919 = .ok (.goto 4, 3) := by decide +kernel
theorem dL_law_922 : decode cL_law 922 = .ok (.iconst 0, 1) := by decide +kernel
theorem dL_law_923 : decode cL_law 923 = .ok (.invokevirtual 120, 3) := by decide +kernel
theorem dL_law_926 : decode cL_law 926 = .ok (.if_icmp .eq 284, 3) := by decide +kernel
theorem dL_law_929 : decode cL_law 929 = .ok (.iconst 0, 1) := by decide +kernel
theorem dL_law_930 : decode cL_law 930 = .ok (.ireturn, 1) := by decide +kernel
theorem dL_law_931 : decode cL_law 931 = .ok (.aload_n 1, 1) := by decide +kernel
theorem dL_law_932 : decode cL_law 932 = .ok (.aload_n 0, 1) := by decide +kernel
theorem dL_law_933 : decode cL_law 933 = .ok (.iload_n 3, 1) := by decide +kernel
theorem dL_law_934 : decode cL_law 934 = .ok (.iconst 1, 1) := by decide +kernel
theorem dL_law_935 : decode cL_law 935 = .ok (.iadd, 1) := by decide +kernel
theorem dL_law_936 : decode cL_law 936 = .ok (.iaload, 1) := by decide +kernel
theorem dL_law_937 : decode cL_law 937 = .ok (.invokevirtual 121, 3) := by decide +kernel
theorem dL_law_940 : decode cL_law 940 = .ok (.aload_n 2, 1) := by decide +kernel
theorem dL_law_941 : decode cL_law 941 = .ok (.aload_n 0, 1) := by decide +kernel
theorem dL_law_942 : decode cL_law 942 = .ok (.iload_n 3, 1) := by decide +kernel
theorem dL_law_943 : decode cL_law 943 = .ok (.iconst 1, 1) := by decide +kernel
theorem dL_law_944 : decode cL_law 944 = .ok (.iadd, 1) := by decide +kernel
theorem dL_law_945 : decode cL_law 945 = .ok (.iaload, 1) := by decide +kernel
theorem dL_law_946 : decode cL_law 946 = .ok (.invokevirtual 124, 3) := by decide +kernel
theorem dL_law_949 : decode cL_law 949 = .ok (.if_icmp .eq 261, 3) := by decide +kernel
theorem dL_law_952 : decode cL_law 952 = .ok (.iconst 0, 1) := by decide +kernel
theorem dL_law_953 : decode cL_law 953 = .ok (.ireturn, 1) := by decide +kernel
theorem dL_law_954 : decode cL_law 954 = .ok (.aload_n 1, 1) := by decide +kernel
theorem dL_law_955 : decode cL_law 955 = .ok (.aload_n 0, 1) := by decide +kernel
theorem dL_law_956 : decode cL_law 956 = .ok (.iload_n 3, 1) := by decide +kernel
theorem dL_law_957 : decode cL_law 957 = .ok (.iconst 1, 1) := by decide +kernel
theorem dL_law_958 : decode cL_law 958 = .ok (.iadd, 1) := by decide +kernel
theorem dL_law_959 : decode cL_law 959 = .ok (.iaload, 1) := by decide +kernel
theorem dL_law_960 : decode cL_law 960 = .ok (.invokevirtual 125, 3) := by decide +kernel
theorem dL_law_963 : decode cL_law 963 = .ok (.aload_n 2, 1) := by decide +kernel
theorem dL_law_964 : decode cL_law 964 = .ok (.aload_n 0, 1) := by decide +kernel
theorem dL_law_965 : decode cL_law 965 = .ok (.iload_n 3, 1) := by decide +kernel
theorem dL_law_966 : decode cL_law 966 = .ok (.iconst 1, 1) := by decide +kernel
theorem dL_law_967 : decode cL_law 967 = .ok (.iadd, 1) := by decide +kernel
theorem dL_law_968 : decode cL_law 968 = .ok (.iaload, 1) := by decide +kernel
theorem dL_law_969 : decode cL_law 969 = .ok (.invokevirtual 128, 3) := by decide +kernel
theorem dL_law_972 : decode cL_law 972 = .ok (.if_icmp .eq 238, 3) := by decide +kernel
theorem dL_law_975 : decode cL_law 975 = .ok (.iconst 0, 1) := by decide +kernel
theorem dL_law_976 : decode cL_law 976 = .ok (.ireturn, 1) := by decide +kernel
theorem dL_law_977 : decode cL_law 977 = .ok (.aload_n 1, 1) := by decide +kernel
theorem dL_law_978 : decode cL_law 978 = .ok (.aload_n 0, 1) := by decide +kernel
theorem dL_law_979 : decode cL_law 979 = .ok (.iload_n 3, 1) := by decide +kernel
theorem dL_law_980 : decode cL_law 980 = .ok (.iconst 1, 1) := by decide +kernel
theorem dL_law_981 : decode cL_law 981 = .ok (.iadd, 1) := by decide +kernel
theorem dL_law_982 : decode cL_law 982 = .ok (.iaload, 1) := by decide +kernel
theorem dL_law_983 : decode cL_law 983 = .ok (.aload_n 0, 1) := by decide +kernel
theorem dL_law_984 : decode cL_law 984 = .ok (.iload_n 3, 1) := by decide +kernel
theorem dL_law_985 : decode cL_law 985 = .ok (.iconst 2, 1) := by decide +kernel
theorem dL_law_986 : decode cL_law 986 = .ok (.iadd, 1) := by decide +kernel
theorem dL_law_987 : decode cL_law 987 = .ok (.iaload, 1) := by decide +kernel
theorem dL_law_988 : decode cL_law 988 = .ok (.aload_n 0, 1) := by decide +kernel
theorem dL_law_989 : decode cL_law 989 = .ok (.iload_n 3, 1) := by decide +kernel
theorem dL_law_990 : decode cL_law 990 = .ok (.iconst 3, 1) := by decide +kernel
theorem dL_law_991 : decode cL_law 991 = .ok (.iadd, 1) := by decide +kernel
theorem dL_law_992 : decode cL_law 992 = .ok (.iaload, 1) := by decide +kernel
theorem dL_law_993 : decode cL_law 993 = .ok (.invokevirtual 129, 3) := by decide +kernel
theorem dL_law_996 : decode cL_law 996 = .ok (.aload_n 2, 1) := by decide +kernel
theorem dL_law_997 : decode cL_law 997 = .ok (.aload_n 0, 1) := by decide +kernel
theorem dL_law_998 : decode cL_law 998 = .ok (.iload_n 3, 1) := by decide +kernel
theorem dL_law_999 : decode cL_law 999 = .ok (.iconst 1, 1) := by decide +kernel
theorem dL_law_1000 : decode cL_law 1000 = .ok (.iadd, 1) := by decide +kernel
theorem dL_law_1001 : decode cL_law 1001 = .ok (.iaload, 1) := by decide +kernel
theorem dL_law_1002 : decode cL_law 1002 = .ok (.aload_n 0, 1) := by decide +kernel
theorem dL_law_1003 : decode cL_law 1003 = .ok (.iload_n 3, 1) := by decide +kernel
theorem dL_law_1004 : decode cL_law 1004 = .ok (.iconst 2, 1) := by decide +kernel
theorem dL_law_1005 : decode cL_law 1005 = .ok (.iadd, 1) := by decide +kernel
theorem dL_law_1006 : decode cL_law 1006 = .ok (.iaload, 1) := by decide +kernel
theorem dL_law_1007 : decode cL_law 1007 = .ok (.aload_n 0, 1) := by decide +kernel
theorem dL_law_1008 : decode cL_law 1008 = .ok (.iload_n 3, 1) := by decide +kernel
theorem dL_law_1009 : decode cL_law 1009 = .ok (.iconst 3, 1) := by decide +kernel
theorem dL_law_1010 : decode cL_law 1010 = .ok (.iadd, 1) := by decide +kernel
theorem dL_law_1011 : decode cL_law 1011 = .ok (.iaload, 1) := by decide +kernel
theorem dL_law_1012 : decode cL_law 1012 = .ok (.invokevirtual 132, 3) := by decide +kernel
theorem dL_law_1015 : decode cL_law 1015 = .ok (.if_icmp .eq 195, 3) := by decide +kernel
theorem dL_law_1018 : decode cL_law 1018 = .ok (.iconst 0, 1) := by decide +kernel
theorem dL_law_1019 : decode cL_law 1019 = .ok (.ireturn, 1) := by decide +kernel
theorem dL_law_1020 : decode cL_law 1020 = .ok (.aload_n 1, 1) := by decide +kernel
theorem dL_law_1021 : decode cL_law 1021 = .ok (.aload_n 0, 1) := by decide +kernel
theorem dL_law_1022 : decode cL_law 1022 = .ok (.iload_n 3, 1) := by decide +kernel
theorem dL_law_1023 : decode cL_law 1023 = .ok (.iconst 1, 1) := by decide +kernel
theorem dL_law_1024 : decode cL_law 1024 = .ok (.iadd, 1) := by decide +kernel
theorem dL_law_1025 : decode cL_law 1025 = .ok (.iaload, 1) := by decide +kernel
theorem dL_law_1026 : decode cL_law 1026 = .ok (.invokevirtual 133, 3) := by decide +kernel
theorem dL_law_1029 : decode cL_law 1029 = .ok (.aload_n 2, 1) := by decide +kernel
theorem dL_law_1030 : decode cL_law 1030 = .ok (.aload_n 0, 1) := by decide +kernel
theorem dL_law_1031 : decode cL_law 1031 = .ok (.iload_n 3, 1) := by decide +kernel
theorem dL_law_1032 : decode cL_law 1032 = .ok (.iconst 1, 1) := by decide +kernel
theorem dL_law_1033 : decode cL_law 1033 = .ok (.iadd, 1) := by decide +kernel
theorem dL_law_1034 : decode cL_law 1034 = .ok (.iaload, 1) := by decide +kernel
theorem dL_law_1035 : decode cL_law 1035 = .ok (.invokevirtual 136, 3) := by decide +kernel
theorem dL_law_1038 : decode cL_law 1038 = .ok (.if_icmp .eq 172, 3) := by decide +kernel
theorem dL_law_1041 : decode cL_law 1041 = .ok (.iconst 0, 1) := by decide +kernel
theorem dL_law_1042 : decode cL_law 1042 = .ok (.ireturn, 1) := by decide +kernel
theorem dL_law_1043 : decode cL_law 1043 = .ok (.aload_n 1, 1) := by decide +kernel
theorem dL_law_1044 : decode cL_law 1044 = .ok (.invokevirtual 137, 3) := by decide +kernel
theorem dL_law_1047 : decode cL_law 1047 = .ok (.aload_n 2, 1) := by decide +kernel
theorem dL_law_1048 : decode cL_law 1048 = .ok (.invokevirtual 140, 3) := by decide +kernel
theorem dL_law_1051 : decode cL_law 1051 = .ok (.if_icmp .eq 159, 3) := by decide +kernel
theorem dL_law_1054 : decode cL_law 1054 = .ok (.iconst 0, 1) := by decide +kernel
theorem dL_law_1055 : decode cL_law 1055 = .ok (.ireturn, 1) := by decide +kernel
theorem dL_law_1056 : decode cL_law 1056 = .ok (.aload_n 1, 1) := by decide +kernel
theorem dL_law_1057 : decode cL_law 1057 = .ok (.invokevirtual 141, 3) := by decide +kernel
theorem dL_law_1060 : decode cL_law 1060 = .ok (.aload_n 2, 1) := by decide +kernel
theorem dL_law_1061 : decode cL_law 1061 = .ok (.invokevirtual 144, 3) := by decide +kernel
theorem dL_law_1064 : decode cL_law 1064 = .ok (.if_icmp .eq 146, 3) := by decide +kernel
theorem dL_law_1067 : decode cL_law 1067 = .ok (.iconst 0, 1) := by decide +kernel
theorem dL_law_1068 : decode cL_law 1068 = .ok (.ireturn, 1) := by decide +kernel
theorem dL_law_1069 : decode cL_law 1069 = .ok (.aload_n 1, 1) := by decide +kernel
theorem dL_law_1070 : decode cL_law 1070 = .ok (.invokevirtual 145, 3) := by decide +kernel
theorem dL_law_1073 : decode cL_law 1073 = .ok (.aload_n 2, 1) := by decide +kernel
theorem dL_law_1074 : decode cL_law 1074 = .ok (.invokevirtual 148, 3) := by decide +kernel
theorem dL_law_1077 : decode cL_law 1077 = .ok (.if_icmp .eq 133, 3) := by decide +kernel
theorem dL_law_1080 : decode cL_law 1080 = .ok (.iconst 0, 1) := by decide +kernel
theorem dL_law_1081 : decode cL_law 1081 = .ok (.ireturn, 1) := by decide +kernel
theorem dL_law_1082 : decode cL_law 1082 = .ok (.aload_n 1, 1) := by decide +kernel
theorem dL_law_1083 : decode cL_law 1083 = .ok (.invokevirtual 149, 3) := by decide +kernel
theorem dL_law_1086 : decode cL_law 1086 = .ok (.aload_n 2, 1) := by decide +kernel
theorem dL_law_1087 : decode cL_law 1087 = .ok (.invokevirtual 152, 3) := by decide +kernel
theorem dL_law_1090 : decode cL_law 1090 = .ok (.if_icmp .eq 120, 3) := by decide +kernel
theorem dL_law_1093 : decode cL_law 1093 = .ok (.iconst 0, 1) := by decide +kernel
theorem dL_law_1094 : decode cL_law 1094 = .ok (.ireturn, 1) := by decide +kernel
theorem dL_law_1095 : decode cL_law 1095 = .ok (.aload_n 1, 1) := by decide +kernel
theorem dL_law_1096 : decode cL_law 1096 = .ok (.aload_n 0, 1) := by decide +kernel
theorem dL_law_1097 : decode cL_law 1097 = .ok (.iload_n 3, 1) := by decide +kernel
theorem dL_law_1098 : decode cL_law 1098 = .ok (.iconst 1, 1) := by decide +kernel
theorem dL_law_1099 : decode cL_law 1099 = .ok (.iadd, 1) := by decide +kernel
theorem dL_law_1100 : decode cL_law 1100 = .ok (.iaload, 1) := by decide +kernel
theorem dL_law_1101 : decode cL_law 1101 = .ok (.invokevirtual 153, 3) := by decide +kernel
theorem dL_law_1104 : decode cL_law 1104 = .ok (.aload_n 2, 1) := by decide +kernel
theorem dL_law_1105 : decode cL_law 1105 = .ok (.aload_n 0, 1) := by decide +kernel
theorem dL_law_1106 : decode cL_law 1106 = .ok (.iload_n 3, 1) := by decide +kernel
theorem dL_law_1107 : decode cL_law 1107 = .ok (.iconst 1, 1) := by decide +kernel
theorem dL_law_1108 : decode cL_law 1108 = .ok (.iadd, 1) := by decide +kernel
theorem dL_law_1109 : decode cL_law 1109 = .ok (.iaload, 1) := by decide +kernel
theorem dL_law_1110 : decode cL_law 1110 = .ok (.invokevirtual 156, 3) := by decide +kernel
theorem dL_law_1113 : decode cL_law 1113 = .ok (.if_icmp .eq 97, 3) := by decide +kernel
theorem dL_law_1116 : decode cL_law 1116 = .ok (.iconst 0, 1) := by decide +kernel
theorem dL_law_1117 : decode cL_law 1117 = .ok (.ireturn, 1) := by decide +kernel
theorem dL_law_1118 : decode cL_law 1118 = .ok (.aload_n 1, 1) := by decide +kernel
theorem dL_law_1119 : decode cL_law 1119 = .ok (.aload_n 0, 1) := by decide +kernel
theorem dL_law_1120 : decode cL_law 1120 = .ok (.iload_n 3, 1) := by decide +kernel
theorem dL_law_1121 : decode cL_law 1121 = .ok (.iconst 1, 1) := by decide +kernel
theorem dL_law_1122 : decode cL_law 1122 = .ok (.iadd, 1) := by decide +kernel
theorem dL_law_1123 : decode cL_law 1123 = .ok (.iaload, 1) := by decide +kernel
theorem dL_law_1124 : decode cL_law 1124 = .ok (.aload_n 0, 1) := by decide +kernel
theorem dL_law_1125 : decode cL_law 1125 = .ok (.iload_n 3, 1) := by decide +kernel
theorem dL_law_1126 : decode cL_law 1126 = .ok (.iconst 2, 1) := by decide +kernel
theorem dL_law_1127 : decode cL_law 1127 = .ok (.iadd, 1) := by decide +kernel
theorem dL_law_1128 : decode cL_law 1128 = .ok (.iaload, 1) := by decide +kernel
theorem dL_law_1129 : decode cL_law 1129 = .ok (.aload_n 0, 1) := by decide +kernel
theorem dL_law_1130 : decode cL_law 1130 = .ok (.iload_n 3, 1) := by decide +kernel
theorem dL_law_1131 : decode cL_law 1131 = .ok (.iconst 3, 1) := by decide +kernel
theorem dL_law_1132 : decode cL_law 1132 = .ok (.iadd, 1) := by decide +kernel
theorem dL_law_1133 : decode cL_law 1133 = .ok (.iaload, 1) := by decide +kernel
theorem dL_law_1134 : decode cL_law 1134 = .ok (.invokevirtual 157, 3) := by decide +kernel
