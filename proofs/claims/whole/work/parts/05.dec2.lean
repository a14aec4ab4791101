theorem dX11_canCome_47 : decode cX11_canCome 47 = .ok (.goto 4, 3) := by decide +kernel
theorem dX11_canCome_50 : decode cX11_canCome 50 = .ok (.iconst 0, 1) := by decide +kernel
theorem dX11_canCome_51 : decode cX11_canCome 51 = .ok (.ireturn, 1) := by decide +kernel
theorem dX11_canGo_0 : decode cX11_canGo 0 = .ok (.aload_n 0, 1) := by decide +kernel
theorem dX11_canGo_1 : decode cX11_canGo 1 = .ok (.getfield 145, 3) := by decide +kernel
theorem dX11_canGo_4 : decode cX11_canGo 4 = .ok (.iload_n 1, 1) := by decide +kernel
theorem dX11_canGo_5 : decode cX11_canGo 5 = .ok (.iaload, 1) := by decide +kernel
theorem dX11_canGo_6 : decode cX11_canGo 6 = .ok (.bipush 24, 2) := by decide +kernel
theorem dX11_canGo_8 : decode cX11_canGo 8 = .ok (.if_icmp .ge 20, 3) := by decide +kernel
theorem dX11_canGo_11 : decode cX11_canGo 11 = .ok (.aload_n 0, 1) := by decide +kernel
theorem dX11_canGo_12 : decode cX11_canGo 12 = .ok (.iload_n 1, 1) := by decide +kernel
theorem dX11_canGo_13 : decode cX11_canGo 13 = .ok (.invokevirtual 459, 3) := by decide +kernel
theorem dX11_canGo_16 : decode cX11_canGo 16 = .ok (.iload_n 2, 1) := by decide +kernel
theorem dX11_canGo_17 : decode cX11_canGo 17 = .ok (.iadd, 1) := by decide +kernel
theorem dX11_canGo_18 : decode cX11_canGo 18 = .ok (.sipush 999, 3) := by decide +kernel
theorem dX11_canGo_21 : decode cX11_canGo 21 = .ok (.if_icmp .gt 7, 3) := by decide +kernel
theorem dX11_canGo_24 : decode cX11_canGo 24 = .ok (.iconst 1, 1) := by decide +kernel
theorem dX11_canGo_25 : decode cX11_canGo 25 = .ok (.goto 4, 3) := by decide +kernel
theorem dX11_canGo_28 : decode cX11_canGo 28 = .ok (.iconst 0, 1) := by decide +kernel
theorem dX11_canGo_29 : decode cX11_canGo 29 = .ok (.ireturn, 1) := by decide +kernel
theorem dX11_changesTo_0 : decode cX11_changesTo 0 = .ok (.iconst 0, 1) := by decide +kernel
theorem dX11_changesTo_1 : decode cX11_changesTo 1 = .ok (.istore_n 3, 1) := by decide +kernel
theorem dX11_changesTo_2 : decode cX11_changesTo 2 = .ok (.iconst 0, 1) := by decide +kernel
theorem dX11_changesTo_3 : decode cX11_changesTo 3 = .ok (.istore 4, 2) := by decide +kernel
theorem dX11_changesTo_5 : decode cX11_changesTo 5 = .ok (.iload 4, 2) := by decide +kernel
theorem dX11_changesTo_7 : decode cX11_changesTo 7 = .ok (.iload_n 1, 1) := by decide +kernel
theorem dX11_changesTo_8 : decode cX11_changesTo 8 = .ok (.if_icmp .gt 32, 3) := by decide +kernel
theorem dX11_changesTo_11 : decode cX11_changesTo 11 = .ok (.iload_n 2, 1) := by decide +kernel
theorem dX11_changesTo_12 : decode cX11_changesTo 12 = .ok (.iload 4, 2) := by decide +kernel
theorem dX11_changesTo_14 : decode cX11_changesTo 14 = .ok (.ishr, 1) := by decide +kernel
theorem dX11_changesTo_15 : decode cX11_changesTo 15 = .ok (.iconst 1, 1) := by decide +kernel
theorem dX11_changesTo_16 : decode cX11_changesTo 16 = .ok (.iand, 1) := by decide +kernel
theorem dX11_changesTo_17 : decode cX11_changesTo 17 = .ok (.iconst 1, 1) := by decide +kernel
theorem dX11_changesTo_18 : decode cX11_changesTo 18 = .ok (.if_icmp .ne 16, 3) := by decide +kernel
theorem dX11_changesTo_21 : decode cX11_changesTo 21 = .ok (.aload_n 0, 1) := by decide +kernel
theorem dX11_changesTo_22 : decode cX11_changesTo 22 = .ok (.getfield 200, 3) := by decide +kernel
theorem dX11_changesTo_25 : decode cX11_changesTo 25 = .ok (.iload 4, 2) := by decide +kernel
theorem dX11_changesTo_27 : decode cX11_changesTo 27 = .ok (.iaload, 1) := by decide +kernel
theorem dX11_changesTo_28 : decode cX11_changesTo 28 = .ok (.ifCond .le 6, 3) := by decide +kernel
theorem dX11_changesTo_31 : decode cX11_changesTo 31 = .ok (.iinc 3 1, 3) := by decide +kernel
theorem dX11_changesTo_34 : decode cX11_changesTo 34 = .ok (.iinc 4 1, 3) := by decide +kernel
theorem dX11_changesTo_37 : decode cX11_changesTo 37 = .ok (.goto (-32), 3) := by decide +kernel
theorem dX11_changesTo_40 : decode cX11_changesTo 40 = .ok (.iload_n 3, 1) := by decide +kernel
theorem dX11_changesTo_41 : decode cX11_changesTo 41 = .ok (.ireturn, 1) := by decide +kernel
theorem dX11_checked_0 : decode cX11_checked 0 = .ok (.bipush 83, 2) := by decide +kernel
theorem dX11_checked_2 : decode cX11_checked 2 = .ok (.istore_n 2, 1) := by decide +kernel
theorem dX11_checked_3 : decode cX11_checked 3 = .ok (.iconst 0, 1) := by decide +kernel
theorem dX11_checked_4 : decode cX11_checked 4 = .ok (.istore_n 3, 1) := by decide +kernel
theorem dX11_checked_5 : decode cX11_checked 5 = .ok (.iload_n 3, 1) := by decide +kernel
theorem dX11_checked_6 : decode cX11_checked 6 = .ok (.iload_n 1, 1) := by decide +kernel
theorem dX11_checked_7 : decode cX11_checked 7 = .ok (.if_icmp .ge 21, 3) := by decide +kernel
theorem dX11_checked_10 : decode cX11_checked 10 = .ok (.iconst 3, 1) := by decide +kernel
theorem dX11_checked_11 : decode cX11_checked 11 = .ok (.iload_n 2, 1) := by decide +kernel
theorem dX11_checked_12 : decode cX11_checked 12 = .ok (.imul, 1) := by decide +kernel
theorem dX11_checked_13 : decode cX11_checked 13 = .ok (.aload_n 0, 1) := by decide +kernel
theorem dX11_checked_14 : decode cX11_checked 14 = .ok (.iload_n 3, 1) := by decide +kernel
theorem dX11_checked_15 : decode cX11_checked 15 = .ok (.iaload, 1) := by decide +kernel
theorem dX11_checked_16 : decode cX11_checked 16 = .ok (.iadd, 1) := by decide +kernel
theorem dX11_checked_17 : decode cX11_checked 17 = .ok (.sipush 247, 3) := by decide +kernel
theorem dX11_checked_20 : decode cX11_checked 20 = .ok (.irem, 1) := by decide +kernel
theorem dX11_checked_21 : decode cX11_checked 21 = .ok (.istore_n 2, 1) := by decide +kernel
theorem dX11_checked_22 : decode cX11_checked 22 = .ok (.iinc 3 1, 3) := by decide +kernel
theorem dX11_checked_25 : decode cX11_checked 25 = .ok (.goto (-20), 3) := by decide +kernel
theorem dX11_checked_28 : decode cX11_checked 28 = .ok (.iload_n 2, 1) := by decide +kernel
theorem dX11_checked_29 : decode cX11_checked 29 = .ok (.ireturn, 1) := by decide +kernel
theorem dX11_choicesOf_0 : decode cX11_choicesOf 0 = .ok (.iload_n 1, 1) := by decide +kernel
theorem dX11_choicesOf_1 : decode cX11_choicesOf 1 = .ok (.aload_n 0, 1) := by decide +kernel
theorem dX11_choicesOf_2 : decode cX11_choicesOf 2 = .ok (.invokevirtual 447, 3) := by decide +kernel
theorem dX11_choicesOf_5 : decode cX11_choicesOf 5 = .ok (.if_icmp .ge 13, 3) := by decide +kernel
theorem dX11_choicesOf_8 : decode cX11_choicesOf 8 = .ok (.iconst 1, 1) := by decide +kernel
theorem dX11_choicesOf_9 : decode cX11_choicesOf 9 = .ok (.aload_n 0, 1) := by decide +kernel
theorem dX11_choicesOf_10 : decode cX11_choicesOf 10 = .ok (.iload_n 1, 1) := by decide +kernel
theorem dX11_choicesOf_11 : decode cX11_choicesOf 11 = .ok (.invokevirtual 641, 3) := by decide +kernel
theorem dX11_choicesOf_14 : decode cX11_choicesOf 14 = .ok (.iadd, 1) := by decide +kernel
theorem dX11_choicesOf_15 : decode cX11_choicesOf 15 = .ok (.goto 4, 3) := by decide +kernel
theorem dX11_choicesOf_18 : decode cX11_choicesOf 18 = .ok (.iconst 1, 1) := by decide +kernel
theorem dX11_choicesOf_19 : decode cX11_choicesOf 19 = .ok (.ireturn, 1) := by decide +kernel
theorem dX11_city_0 : decode cX11_city 0 = .ok (.aload_n 0, 1) := by decide +kernel
theorem dX11_city_1 : decode cX11_city 1 = .ok (.aload_n 0, 1) := by decide +kernel
theorem dX11_city_2 : decode cX11_city 2 = .ok (.getfield 221, 3) := by decide +kernel
theorem dX11_city_5 : decode cX11_city 5 = .ok (.putfield 233, 3) := by decide +kernel
theorem dX11_city_8 : decode cX11_city 8 = .ok (.aload_n 0, 1) := by decide +kernel
theorem dX11_city_9 : decode cX11_city 9 = .ok (.iconst 0, 1) := by decide +kernel
theorem dX11_city_10 : decode cX11_city 10 = .ok (.putfield 221, 3) := by decide +kernel
theorem dX11_city_13 : decode cX11_city 13 = .ok (.aload_n 0, 1) := by decide +kernel
theorem dX11_city_14 : decode cX11_city 14 = .ok (.iconst 0, 1) := by decide +kernel
theorem dX11_city_15 : decode cX11_city 15 = .ok (.putfield 230, 3) := by decide +kernel
theorem dX11_city_18 : decode cX11_city 18 = .ok (.aload_n 0, 1) := by decide +kernel
theorem dX11_city_19 : decode cX11_city 19 = .ok (.iconst (-1), 1) := by decide +kernel
theorem dX11_city_20 : decode cX11_city 20 = .ok (.putfield 244, 3) := by decide +kernel
theorem dX11_city_23 : decode cX11_city 23 = .ok (.aload_n 0, 1) := by decide +kernel
theorem dX11_city_24 : decode cX11_city 24 = .ok (.iconst 0, 1) := by decide +kernel
theorem dX11_city_25 : decode cX11_city 25 = .ok (.putfield 224, 3) := by decide +kernel
theorem dX11_city_28 : decode cX11_city 28 = .ok (.aload_n 0, 1) := by decide +kernel
theorem dX11_city_29 : decode cX11_city 29 = .ok (.iconst (-1), 1) := by decide +kernel
theorem dX11_city_30 : decode cX11_city 30 = .ok (.putfield 227, 3) := by decide +kernel
theorem dX11_city_33 : decode cX11_city 33 = .ok (.aload_n 0, 1) := by decide +kernel
theorem dX11_city_34 : decode cX11_city 34 = .ok (.iconst 0, 1) := by decide +kernel
theorem dX11_city_35 : decode cX11_city 35 = .ok (.putfield 324, 3) := by decide +kernel
theorem dX11_city_38 : decode cX11_city 38 = .ok (.aload_n 0, 1) := by decide +kernel
theorem dX11_city_39 : decode cX11_city 39 = .ok (.iconst 0, 1) := by decide +kernel
theorem dX11_city_40 : decode cX11_city 40 = .ok (.putfield 306, 3) := by decide +kernel
theorem dX11_city_43 : decode cX11_city 43 = .ok (.aload_n 0, 1) := by decide +kernel
theorem dX11_city_44 : decode cX11_city 44 = .ok (.iconst (-1), 1) := by decide +kernel
theorem dX11_city_45 : decode cX11_city 45 = .ok (.putfield 343, 3) := by decide +kernel
theorem dX11_city_48 : decode cX11_city 48 = .ok (.iconst 0, 1) := by decide +kernel
theorem dX11_city_49 : decode cX11_city 49 = .ok (.istore_n 1, 1) := by decide +kernel
theorem dX11_city_50 : decode cX11_city 50 = .ok (.iload_n 1, 1) := by decide +kernel
theorem dX11_city_51 : decode cX11_city 51 = .ok (.iconst 5, 1) := by decide +kernel
theorem dX11_city_52 : decode cX11_city 52 = .ok (.if_icmp .ge 16, 3) := by decide +kernel
theorem dX11_city_55 : decode cX11_city 55 = .ok (.aload_n 0, 1) := by decide +kernel
theorem dX11_city_56 : decode cX11_city 56 = .ok (.getfield 99, 3) := by decide +kernel
theorem dX11_city_59 : decode cX11_city 59 = .ok (.iload_n 1, 1) := by decide +kernel
theorem dX11_city_60 : decode cX11_city 60 = .ok (.iconst 0, 1) := by decide +kernel
theorem dX11_city_61 : decode cX11_city 61 = .ok (.iastore, 1) := by decide +kernel
theorem dX11_city_62 : decode cX11_city 62 = .ok (.iinc 1 1, 3) := by decide +kernel
theorem dX11_city_65 : decode cX11_city 65 = .ok (.goto (-15), 3) := by decide +kernel
theorem dX11_city_68 : decode cX11_city 68 = .ok (.aload_n 0, 1) := by decide +kernel
theorem dX11_city_69 : decode cX11_city 69 = .ok (.getfield 224, 3) := by decide +kernel
theorem dX11_city_72 : decode cX11_city 72 = .ok (.ifCond .ne 18, 3) := by decide +kernel
theorem dX11_city_75 : decode cX11_city 75 = .ok (.aload_n 0, 1) := by decide +kernel
theorem dX11_city_76 : decode cX11_city 76 = .ok (.invokevirtual 236, 3) := by decide +kernel
theorem dX11_city_79 : decode cX11_city 79 = .ok (.iconst (-1), 1) := by decide +kernel
theorem dX11_city_80 : decode cX11_city 80 = .ok (.if_icmp .eq 10, 3) := by decide +kernel
theorem dX11_city_83 : decode cX11_city 83 = .ok (.aload_n 0, 1) := by decide +kernel
theorem dX11_city_84 : decode cX11_city 84 = .ok (.invokevirtual 349, 3) := by decide +kernel
theorem dX11_city_87 : decode cX11_city 87 = .ok (.goto (-19), 3) := by decide +kernel
theorem dX11_city_90 : decode cX11_city 90 = .ok (.aload_n 0, 1) := by decide +kernel
theorem dX11_city_91 : decode cX11_city 91 = .ok (.aload_n 0, 1) := by decide +kernel
theorem dX11_city_92 : decode cX11_city 92 = .ok (.getfield 224, 3) := by decide +kernel
theorem dX11_city_95 : decode cX11_city 95 = .ok (.putfield 352, 3) := by decide +kernel
theorem dX11_city_98 : decode cX11_city 98 = .ok (.aload_n 0, 1) := by decide +kernel
theorem dX11_city_99 : decode cX11_city 99 = .ok (.aload_n 0, 1) := by decide +kernel
theorem dX11_city_100 : decode cX11_city 100 = .ok (.getfield 227, 3) := by decide +kernel
theorem dX11_city_103 : decode cX11_city 103 = .ok (.putfield 13, 3) := by decide +kernel
theorem dX11_city_106 : decode cX11_city 106 = .ok (.aload_n 0, 1) := by decide +kernel
theorem dX11_city_107 : decode cX11_city 107 = .ok (.getfield 224, 3) := by decide +kernel
theorem dX11_city_110 : decode cX11_city 110 = .ok (.ifCond .eq 5, 3) := by decide +kernel
theorem dX11_city_113 : decode cX11_city 113 = .ok (.iconst (-1), 1) := by decide +kernel
theorem dX11_city_114 : decode cX11_city 114 = .ok (.ireturn, 1) := by decide +kernel
theorem dX11_city_115 : decode cX11_city 115 = .ok (.aload_n 0, 1) := by decide +kernel
theorem dX11_city_116 : decode cX11_city 116 = .ok (.invokevirtual 355, 3) := by decide +kernel
theorem dX11_city_119 : decode cX11_city 119 = .ok (.aload_n 0, 1) := by decide +kernel
theorem dX11_city_120 : decode cX11_city 120 = .ok (.getfield 324, 3) := by decide +kernel
theorem dX11_city_123 : decode cX11_city 123 = .ok (.ireturn, 1) := by decide +kernel
theorem dX11_clash_0 : decode cX11_clash 0 = .ok (.iload_n 1, 1) := by decide +kernel
theorem dX11_clash_1 : decode cX11_clash 1 = .ok (.i2l, 1) := by decide +kernel
theorem dX11_clash_2 : decode cX11_clash 2 = .ok (.lconst 0, 1) := by decide +kernel
theorem dX11_clash_3 : decode cX11_clash 3 = .ok (.ldc2_w 546, 3) := by decide +kernel
theorem dX11_clash_6 : decode cX11_clash 6 = .ok (.invokestatic 264, 3) := by decide +kernel
theorem dX11_clash_9 : decode cX11_clash 9 = .ok (.ifCond .ne 5, 3) := by decide +kernel
theorem dX11_clash_12 : decode cX11_clash 12 = .ok (.iconst (-1), 1) := by decide +kernel
theorem dX11_clash_13 : decode cX11_clash 13 = .ok (.ireturn, 1) := by decide +kernel
theorem dX11_clash_14 : decode cX11_clash 14 = .ok (.iconst 0, 1) := by decide +kernel
theorem dX11_clash_15 : decode cX11_clash 15 = .ok (.istore_n 2, 1) := by decide +kernel
theorem dX11_clash_16 : decode cX11_clash 16 = .ok (.iload_n 2, 1) := by decide +kernel
theorem dX11_clash_17 : decode cX11_clash 17 = .ok (.sipush 999, 3) := by decide +kernel
theorem dX11_clash_20 : decode cX11_clash 20 = .ok (.if_icmp .gt 150, 3) := by decide +kernel
theorem dX11_clash_23 : decode cX11_clash 23 = .ok (.iconst 0, 1) := by decide +kernel
theorem dX11_clash_24 : decode cX11_clash 24 = .ok (.istore_n 3, 1) := by decide +kernel
theorem dX11_clash_25 : decode cX11_clash 25 = .ok (.iload_n 3, 1) := by decide +kernel
theorem dX11_clash_26 : decode cX11_clash 26 = .ok (.iconst 2, 1) := by decide +kernel
theorem dX11_clash_27 : decode cX11_clash 27 = .ok (.if_icmp .ge 137, 3) := by decide +kernel
theorem dX11_clash_30 : decode cX11_clash 30 = .ok (.iconst 0, 1) := by decide +kernel
theorem dX11_clash_31 : decode cX11_clash 31 = .ok (.istore 4, 2) := by decide +kernel
theorem dX11_clash_33 : decode cX11_clash 33 = .ok (.iload 4, 2) := by decide +kernel
theorem dX11_clash_35 : decode cX11_clash 35 = .ok (.aload_n 0, 1) := by decide +kernel
theorem dX11_clash_36 : decode cX11_clash 36 = .ok (.invokevirtual 447, 3) := by decide +kernel
theorem dX11_clash_39 : decode cX11_clash 39 = .ok (.if_icmp .ge 119, 3) := by decide +kernel
theorem dX11_clash_42 : decode cX11_clash 42 = .ok (.iload 4, 2) := by decide +kernel
theorem dX11_clash_44 : decode cX11_clash 44 = .ok (.iconst 1, 1) := by decide +kernel
theorem dX11_clash_45 : decode cX11_clash 45 = .ok (.iadd, 1) := by decide +kernel
theorem dX11_clash_46 : decode cX11_clash 46 = .ok (.istore 5, 2) := by decide +kernel
theorem dX11_clash_48 : decode cX11_clash 48 = .ok (.iload 5, 2) := by decide +kernel
theorem dX11_clash_50 : decode cX11_clash 50 = .ok (.aload_n 0, 1) := by decide +kernel
theorem dX11_clash_51 : decode cX11_clash 51 = .ok (.invokevirtual 447, 3) := by decide +kernel
theorem dX11_clash_54 : decode cX11_clash 54 = .ok (.if_icmp .ge 98, 3) := by decide +kernel
theorem dX11_clash_57 : decode cX11_clash 57 = .ok (.iload_n 3, 1) := by decide +kernel
theorem dX11_clash_58 : decode cX11_clash 58 = .ok (.ifCond .ne 15, 3) := by decide +kernel
theorem dX11_clash_61 : decode cX11_clash 61 = .ok (.aload_n 0, 1) := by decide +kernel
theorem dX11_clash_62 : decode cX11_clash 62 = .ok (.iload 4, 2) := by decide +kernel
theorem dX11_clash_64 : decode cX11_clash 64 = .ok (.iload 5, 2) := by decide +kernel
theorem dX11_clash_66 : decode cX11_clash 66 = .ok (.iload_n 2, 1) := by decide +kernel
theorem dX11_clash_67 : decode cX11_clash 67 = .ok (.invokevirtual 548, 3) := by decide +kernel
theorem dX11_clash_70 : decode cX11_clash 70 = .ok (.goto 20, 3) := by decide +kernel
theorem dX11_clash_73 : decode cX11_clash 73 = .ok (.aload_n 0, 1) := by decide +kernel
theorem dX11_clash_74 : decode cX11_clash 74 = .ok (.iload 4, 2) := by decide +kernel
theorem dX11_clash_76 : decode cX11_clash 76 = .ok (.iload 5, 2) := by decide +kernel
theorem dX11_clash_78 : decode cX11_clash 78 = .ok (.iload_n 2, 1) := by decide +kernel
theorem dX11_clash_79 : decode cX11_clash 79 = .ok (.invokevirtual 552, 3) := by decide +kernel
theorem dX11_clash_82 : decode cX11_clash 82 = .ok (.ifCond .eq 7, 3) := by decide +kernel
theorem dX11_clash_85 : decode cX11_clash 85 = .ok (.iconst 0, 1) := by decide +kernel
theorem dX11_clash_86 : decode cX11_clash 86 = .ok (.goto 4, 3) := by decide +kernel
theorem dX11_clash_89 : decode cX11_clash 89 = .ok (.iconst (-1), 1) := by decide +kernel
theorem dX11_clash_90 : decode cX11_clash 90 = .ok (.istore 6, 2) := by decide +kernel
theorem dX11_clash_92 : decode cX11_clash 92 = .ok (.iload 6, 2) := by decide +kernel
theorem dX11_clash_94 : decode cX11_clash 94 = .ok (.iconst (-1), 1) := by decide +kernel
theorem dX11_clash_95 : decode cX11_clash 95 = .ok (.if_icmp .eq 51, 3) := by decide +kernel
theorem dX11_clash_98 : decode cX11_clash 98 = .ok (.aload_n 0, 1) := by decide +kernel
theorem dX11_clash_99 : decode cX11_clash 99 = .ok (.iload_n 2, 1) := by decide +kernel
theorem dX11_clash_100 : decode cX11_clash 100 = .ok (.iload_n 3, 1) := by decide +kernel
theorem dX11_clash_101 : decode cX11_clash 101 = .ok (.iload 6, 2) := by decide +kernel
theorem dX11_clash_103 : decode cX11_clash 103 = .ok (.iload 4, 2) := by decide +kernel
theorem dX11_clash_105 : decode cX11_clash 105 = .ok (.iload 5, 2) := by decide +kernel
theorem dX11_clash_107 : decode cX11_clash 107 = .ok (.invokevirtual 555, 3) := by decide +kernel
theorem dX11_clash_110 : decode cX11_clash 110 = .ok (.ifCond .eq 6, 3) := by decide +kernel
theorem dX11_clash_113 : decode cX11_clash 113 = .ok (.goto 33, 3) := by decide +kernel
theorem dX11_clash_116 : decode cX11_clash 116 = .ok (.iload_n 1, 1) := by decide +kernel
theorem dX11_clash_117 : decode cX11_clash 117 = .ok (.ifCond .ne 7, 3) := by decide +kernel
theorem dX11_clash_120 : decode cX11_clash 120 = .ok (.iload_n 2, 1) := by decide +kernel
theorem dX11_clash_121 : decode cX11_clash 121 = .ok (.goto 24, 3) := by decide +kernel
theorem dX11_clash_124 : decode cX11_clash 124 = .ok (.iload_n 1, 1) := by decide +kernel
theorem dX11_clash_125 : decode cX11_clash 125 = .ok (.iconst 1, 1) := by decide +kernel
theorem dX11_clash_126 : decode cX11_clash 126 = .ok (.if_icmp .ne 7, 3) := by decide +kernel
theorem dX11_clash_129 : decode cX11_clash 129 = .ok (.iload_n 3, 1) := by decide +kernel
theorem dX11_clash_130 : decode cX11_clash 130 = .ok (.goto 15, 3) := by decide +kernel
theorem dX11_clash_133 : decode cX11_clash 133 = .ok (.iload_n 1, 1) := by decide +kernel
theorem dX11_clash_134 : decode cX11_clash 134 = .ok (.iconst 2, 1) := by decide +kernel
theorem dX11_clash_135 : decode cX11_clash 135 = .ok (.if_icmp .ne 8, 3) := by decide +kernel
theorem dX11_clash_138 : decode cX11_clash 138 = .ok (.iload 4, 2) := by decide +kernel
theorem dX11_clash_140 : decode cX11_clash 140 = .ok (.goto 5, 3) := by decide +kernel
theorem dX11_clash_143 : decode cX11_clash 143 = .ok (.iload 5, 2) := by decide +kernel
theorem dX11_clash_145 : decode cX11_clash 145 = .ok (.ireturn, 1) := by decide +kernel
theorem dX11_clash_146 : decode cX11_clash 146 = .ok (.iinc 5 1, 3) := by decide +kernel
theorem dX11_clash_149 : decode cX11_clash 149 = .ok (.goto (-101), 3) := by decide +kernel
theorem dX11_clash_152 : decode cX11_clash 152 = .ok (.iinc 4 1, 3) := by decide +kernel
theorem dX11_clash_155 : decode cX11_clash 155 = .ok (.goto (-122), 3) := by decide +kernel
theorem dX11_clash_158 : decode cX11_clash 158 = .ok (.iinc 3 1, 3) := by decide +kernel
theorem dX11_clash_161 : decode cX11_clash 161 = .ok (.goto (-136), 3) := by decide +kernel
theorem dX11_clash_164 : decode cX11_clash 164 = .ok (.iinc 2 1, 3) := by decide +kernel
theorem dX11_clash_167 : decode cX11_clash 167 = .ok (.goto (-151), 3) := by decide +kernel
theorem dX11_clash_170 : decode cX11_clash 170 = .ok (.iconst (-1), 1) := by decide +kernel
theorem dX11_clash_171 : decode cX11_clash 171 = .ok (.ireturn, 1) := by decide +kernel
theorem dX11_clashes_0 : decode cX11_clashes 0 = .ok (.iload_n 1, 1) := by decide +kernel
theorem dX11_clashes_1 : decode cX11_clashes 1 = .ok (.i2l, 1) := by decide +kernel
theorem dX11_clashes_2 : decode cX11_clashes 2 = .ok (.lconst 0, 1) := by decide +kernel
theorem dX11_clashes_3 : decode cX11_clashes 3 = .ok (.lconst 1, 1) := by decide +kernel
theorem dX11_clashes_4 : decode cX11_clashes 4 = .ok (.invokestatic 264, 3) := by decide +kernel
theorem dX11_clashes_7 : decode cX11_clashes 7 = .ok (.ifCond .ne 5, 3) := by decide +kernel
theorem dX11_clashes_10 : decode cX11_clashes 10 = .ok (.iconst (-1), 1) := by decide +kernel
theorem dX11_clashes_11 : decode cX11_clashes 11 = .ok (.ireturn, 1) := by decide +kernel
theorem dX11_clashes_12 : decode cX11_clashes 12 = .ok (.iconst 0, 1) := by decide +kernel
theorem dX11_clashes_13 : decode cX11_clashes 13 = .ok (.istore_n 2, 1) := by decide +kernel
theorem dX11_clashes_14 : decode cX11_clashes 14 = .ok (.iconst 0, 1) := by decide +kernel
theorem dX11_clashes_15 : decode cX11_clashes 15 = .ok (.istore_n 3, 1) := by decide +kernel
theorem dX11_clashes_16 : decode cX11_clashes 16 = .ok (.iload_n 3, 1) := by decide +kernel
theorem dX11_clashes_17 : decode cX11_clashes 17 = .ok (.sipush 999, 3) := by decide +kernel
theorem dX11_clashes_20 : decode cX11_clashes 20 = .ok (.if_icmp .gt 83, 3) := by decide +kernel
theorem dX11_clashes_23 : decode cX11_clashes 23 = .ok (.iconst 0, 1) := by decide +kernel
theorem dX11_clashes_24 : decode cX11_clashes 24 = .ok (.istore 4, 2) := by decide +kernel
theorem dX11_clashes_26 : decode cX11_clashes 26 = .ok (.iload 4, 2) := by decide +kernel
theorem dX11_clashes_28 : decode cX11_clashes 28 = .ok (.aload_n 0, 1) := by decide +kernel
theorem dX11_clashes_29 : decode cX11_clashes 29 = .ok (.invokevirtual 447, 3) := by decide +kernel
theorem dX11_clashes_32 : decode cX11_clashes 32 = .ok (.if_icmp .ge 65, 3) := by decide +kernel
theorem dX11_clashes_35 : decode cX11_clashes 35 = .ok (.iload 4, 2) := by decide +kernel
theorem dX11_clashes_37 : decode cX11_clashes 37 = .ok (.iconst 1, 1) := by decide +kernel
theorem dX11_clashes_38 : decode cX11_clashes 38 = .ok (.iadd, 1) := by decide +kernel
theorem dX11_clashes_39 : decode cX11_clashes 39 = .ok (.istore 5, 2) := by decide +kernel
theorem dX11_clashes_41 : decode cX11_clashes 41 = .ok (.iload 5, 2) := by decide +kernel
theorem dX11_clashes_43 : decode cX11_clashes 43 = .ok (.aload_n 0, 1) := by decide +kernel
theorem dX11_clashes_44 : decode cX11_clashes 44 = .ok (.invokevirtual 447, 3) := by decide +kernel
theorem dX11_clashes_47 : decode cX11_clashes 47 = .ok (.if_icmp .ge 44, 3) := by decide +kernel
theorem dX11_clashes_50 : decode cX11_clashes 50 = .ok (.iload_n 1, 1) := by decide +kernel
theorem dX11_clashes_51 : decode cX11_clashes 51 = .ok (.ifCond .ne 19, 3) := by decide +kernel
theorem dX11_clashes_54 : decode cX11_clashes 54 = .ok (.aload_n 0, 1) := by decide +kernel
theorem dX11_clashes_55 : decode cX11_clashes 55 = .ok (.iload 4, 2) := by decide +kernel
theorem dX11_clashes_57 : decode cX11_clashes 57 = .ok (.iload 5, 2) := by decide +kernel
theorem dX11_clashes_59 : decode cX11_clashes 59 = .ok (.iload_n 3, 1) := by decide +kernel
theorem dX11_clashes_60 : decode cX11_clashes 60 = .ok (.invokevirtual 548, 3) := by decide +kernel
theorem dX11_clashes_63 : decode cX11_clashes 63 = .ok (.iconst (-1), 1) := by decide +kernel
theorem dX11_clashes_64 : decode cX11_clashes 64 = .ok (.if_icmp .eq 21, 3) := by decide +kernel
theorem dX11_clashes_67 : decode cX11_clashes 67 = .ok (.goto 15, 3) := by decide +kernel
theorem dX11_clashes_70 : decode cX11_clashes 70 = .ok (.aload_n 0, 1) := by decide +kernel
theorem dX11_clashes_71 : decode cX11_clashes 71 = .ok (.iload 4, 2) := by decide +kernel
theorem dX11_clashes_73 : decode cX11_clashes 73 = .ok (.iload 5, 2) := by decide +kernel
theorem dX11_clashes_75 : decode cX11_clashes 75 = .ok (.iload_n 3, 1) := by decide +kernel
theorem dX11_clashes_76 : decode cX11_clashes 76 = .ok (.invokevirtual 552, 3) := by decide +kernel
theorem dX11_clashes_79 : decode cX11_clashes 79 = .ok (.ifCond .eq 6, 3) := by decide +kernel
theorem dX11_clashes_82 : decode cX11_clashes 82 = .ok (.iinc 2 1, 3) := by decide +kernel
theorem dX11_clashes_85 : decode cX11_clashes 85 = .ok (.iinc 5 1, 3) := by decide +kernel
theorem dX11_clashes_88 : decode cX11_clashes 88 = .ok (.goto (-47), 3) := by decide +kernel
theorem dX11_clashes_91 : decode cX11_clashes 91 = .ok (.iinc 4 1, 3) := by decide +kernel
theorem dX11_clashes_94 : decode cX11_clashes 94 = .ok (.goto (-68), 3) := by decide +kernel
theorem dX11_clashes_97 : decode cX11_clashes 97 = .ok (.iinc 3 1, 3) := by decide +kernel
theorem dX11_clashes_100 : decode cX11_clashes 100 = .ok (.goto (-84), 3) := by decide +kernel
theorem dX11_clashes_103 : decode cX11_clashes 103 = .ok (.iload_n 2, 1) := by decide +kernel
theorem dX11_clashes_104 : decode cX11_clashes 104 = .ok (.ireturn, 1) := by decide +kernel
theorem dX11_clear_0 : decode cX11_clear 0 = .ok (.aload_n 0, 1) := by decide +kernel
theorem dX11_clear_1 : decode cX11_clear 1 = .ok (.iload_n 1, 1) := by decide +kernel
theorem dX11_clear_2 : decode cX11_clear 2 = .ok (.invokevirtual 481, 3) := by decide +kernel
theorem dX11_clear_5 : decode cX11_clear 5 = .ok (.ifCond .eq 12, 3) := by decide +kernel
theorem dX11_clear_8 : decode cX11_clear 8 = .ok (.aload_n 0, 1) := by decide +kernel
theorem dX11_clear_9 : decode cX11_clear 9 = .ok (.getfield 145, 3) := by decide +kernel
theorem dX11_clear_12 : decode cX11_clear 12 = .ok (.iload_n 1, 1) := by decide +kernel
theorem dX11_clear_13 : decode cX11_clear 13 = .ok (.iaload, 1) := by decide +kernel
theorem dX11_clear_14 : decode cX11_clear 14 = .ok (.ifCond .ne 5, 3) := by decide +kernel
theorem dX11_clear_17 : decode cX11_clear 17 = .ok (.iconst 0, 1) := by decide +kernel
theorem dX11_clear_18 : decode cX11_clear 18 = .ok (.ireturn, 1) := by decide +kernel
theorem dX11_clear_19 : decode cX11_clear 19 = .ok (.aload_n 0, 1) := by decide +kernel
theorem dX11_clear_20 : decode cX11_clear 20 = .ok (.invokevirtual 509, 3) := by decide +kernel
theorem dX11_clear_23 : decode cX11_clear 23 = .ok (.aload_n 0, 1) := by decide +kernel
theorem dX11_clear_24 : decode cX11_clear 24 = .ok (.getfield 145, 3) := by decide +kernel
theorem dX11_clear_27 : decode cX11_clear 27 = .ok (.iload_n 1, 1) := by decide +kernel
theorem dX11_clear_28 : decode cX11_clear 28 = .ok (.iconst 0, 1) := by decide +kernel
theorem dX11_clear_29 : decode cX11_clear 29 = .ok (.iastore, 1) := by decide +kernel
theorem dX11_clear_30 : decode cX11_clear 30 = .ok (.iconst 1, 1) := by decide +kernel
theorem dX11_clear_31 : decode cX11_clear 31 = .ok (.ireturn, 1) := by decide +kernel
theorem dX11_clip_0 : decode cX11_clip 0 = .ok (.lload_n 0, 1) := by decide +kernel
theorem dX11_clip_1 : decode cX11_clip 1 = .ok (.ldc2_w 412, 3) := by decide +kernel
theorem dX11_clip_4 : decode cX11_clip 4 = .ok (.lcmp, 1) := by decide +kernel
theorem dX11_clip_5 : decode cX11_clip 5 = .ok (.ifCond .le 9, 3) := by decide +kernel
theorem dX11_clip_8 : decode cX11_clip 8 = .ok (.ldc2_w 412, 3) := by decide +kernel
theorem dX11_clip_11 : decode cX11_clip 11 = .ok (.goto 18, 3) := by decide +kernel
theorem dX11_clip_14 : decode cX11_clip 14 = .ok (.lload_n 0, 1) := by decide +kernel
theorem dX11_clip_15 : decode cX11_clip 15 = .ok (.ldc2_w 414, 3) := by decide +kernel
theorem dX11_clip_18 : decode cX11_clip 18 = .ok (.lcmp, 1) := by decide +kernel
theorem dX11_clip_19 : decode cX11_clip 19 = .ok (.ifCond .ge 9, 3) := by decide +kernel
theorem dX11_clip_22 : decode cX11_clip 22 = .ok (.ldc2_w 414, 3) := by decide +kernel
theorem dX11_clip_25 : decode cX11_clip 25 = .ok (.goto 4, 3) := by decide +kernel
theorem dX11_clip_28 : decode cX11_clip 28 = .ok (.lload_n 0, 1) := by decide +kernel
theorem dX11_clip_29 : decode cX11_clip 29 = .ok (.lreturn, 1) := by decide +kernel
theorem dX11_code_0 : decode cX11_code 0 = .ok (.aload_n 0, 1) := by decide +kernel
theorem dX11_code_1 : decode cX11_code 1 = .ok (.getfield 121, 3) := by decide +kernel
theorem dX11_code_4 : decode cX11_code 4 = .ok (.iconst 0, 1) := by decide +kernel
theorem dX11_code_5 : decode cX11_code 5 = .ok (.aload_n 0, 1) := by decide +kernel
theorem dX11_code_6 : decode cX11_code 6 = .ok (.getfield 306, 3) := by decide +kernel
theorem dX11_code_9 : decode cX11_code 9 = .ok (.iadd, 1) := by decide +kernel
theorem dX11_code_10 : decode cX11_code 10 = .ok (.iload_n 1, 1) := by decide +kernel
theorem dX11_code_11 : decode cX11_code 11 = .ok (.iastore, 1) := by decide +kernel
theorem dX11_code_12 : decode cX11_code 12 = .ok (.aload_n 0, 1) := by decide +kernel
theorem dX11_code_13 : decode cX11_code 13 = .ok (.dup, 1) := by decide +kernel
theorem dX11_code_14 : decode cX11_code 14 = .ok (.getfield 306, 3) := by decide +kernel
theorem dX11_code_17 : decode cX11_code 17 = .ok (.iconst 1, 1) := by decide +kernel
theorem dX11_code_18 : decode cX11_code 18 = .ok (.iadd, 1) := by decide +kernel
theorem dX11_code_19 : decode cX11_code 19 = .ok (.putfield 306, 3) := by decide +kernel
theorem dX11_code_22 : decode cX11_code 22 = .ok (.return_, 1) := by decide +kernel
theorem dX11_comesTo_0 : decode cX11_comesTo 0 = .ok (.aload_n 0, 1) := by decide +kernel
theorem dX11_comesTo_1 : decode cX11_comesTo 1 = .ok (.getfield 145, 3) := by decide +kernel
theorem dX11_comesTo_4 : decode cX11_comesTo 4 = .ok (.iload_n 1, 1) := by decide +kernel
theorem dX11_comesTo_5 : decode cX11_comesTo 5 = .ok (.aload_n 0, 1) := by decide +kernel
theorem dX11_comesTo_6 : decode cX11_comesTo 6 = .ok (.getfield 145, 3) := by decide +kernel
theorem dX11_comesTo_9 : decode cX11_comesTo 9 = .ok (.iload_n 2, 1) := by decide +kernel
theorem dX11_comesTo_10 : decode cX11_comesTo 10 = .ok (.iaload, 1) := by decide +kernel
theorem dX11_comesTo_11 : decode cX11_comesTo 11 = .ok (.iastore, 1) := by decide +kernel
theorem dX11_comesTo_12 : decode cX11_comesTo 12 = .ok (.iconst 0, 1) := by decide +kernel
theorem dX11_comesTo_13 : decode cX11_comesTo 13 = .ok (.istore_n 3, 1) := by decide +kernel
theorem dX11_comesTo_14 : decode cX11_comesTo 14 = .ok (.iload_n 3, 1) := by decide +kernel
theorem dX11_comesTo_15 : decode cX11_comesTo 15 = .ok (.aload_n 0, 1) := by decide +kernel
theorem dX11_comesTo_16 : decode cX11_comesTo 16 = .ok (.getfield 145, 3) := by decide +kernel
theorem dX11_comesTo_19 : decode cX11_comesTo 19 = .ok (.iload_n 2, 1) := by decide +kernel
theorem dX11_comesTo_20 : decode cX11_comesTo 20 = .ok (.iaload, 1) := by decide +kernel
theorem dX11_comesTo_21 : decode cX11_comesTo 21 = .ok (.if_icmp .ge 75, 3) := by decide +kernel
theorem dX11_comesTo_24 : decode cX11_comesTo 24 = .ok (.aload_n 0, 1) := by decide +kernel
theorem dX11_comesTo_25 : decode cX11_comesTo 25 = .ok (.getfield 148, 3) := by decide +kernel
theorem dX11_comesTo_28 : decode cX11_comesTo 28 = .ok (.bipush 24, 2) := by decide +kernel
theorem dX11_comesTo_30 : decode cX11_comesTo 30 = .ok (.iload_n 1, 1) := by decide +kernel
theorem dX11_comesTo_31 : decode cX11_comesTo 31 = .ok (.imul, 1) := by decide +kernel
theorem dX11_comesTo_32 : decode cX11_comesTo 32 = .ok (.iload_n 3, 1) := by decide +kernel
theorem dX11_comesTo_33 : decode cX11_comesTo 33 = .ok (.iadd, 1) := by decide +kernel
theorem dX11_comesTo_34 : decode cX11_comesTo 34 = .ok (.aload_n 0, 1) := by decide +kernel
theorem dX11_comesTo_35 : decode cX11_comesTo 35 = .ok (.getfield 148, 3) := by decide +kernel
theorem dX11_comesTo_38 : decode cX11_comesTo 38 = .ok (.bipush 24, 2) := by decide +kernel
theorem dX11_comesTo_40 : decode cX11_comesTo 40 = .ok (.iload_n 2, 1) := by decide +kernel
theorem dX11_comesTo_41 : decode cX11_comesTo 41 = .ok (.imul, 1) := by decide +kernel
theorem dX11_comesTo_42 : decode cX11_comesTo 42 = .ok (.iload_n 3, 1) := by decide +kernel
theorem dX11_comesTo_43 : decode cX11_comesTo 43 = .ok (.iadd, 1) := by decide +kernel
theorem dX11_comesTo_44 : decode cX11_comesTo 44 = .ok (.iaload, 1) := by decide +kernel
theorem dX11_comesTo_45 : decode cX11_comesTo 45 = .ok (.iastore, 1) := by decide +kernel
theorem dX11_comesTo_46 : decode cX11_comesTo 46 = .ok (.aload_n 0, 1) := by decide +kernel
theorem dX11_comesTo_47 : decode cX11_comesTo 47 = .ok (.getfield 151, 3) := by decide +kernel
theorem dX11_comesTo_50 : decode cX11_comesTo 50 = .ok (.bipush 24, 2) := by decide +kernel
theorem dX11_comesTo_52 : decode cX11_comesTo 52 = .ok (.iload_n 1, 1) := by decide +kernel
theorem dX11_comesTo_53 : decode cX11_comesTo 53 = .ok (.imul, 1) := by decide +kernel
theorem dX11_comesTo_54 : decode cX11_comesTo 54 = .ok (.iload_n 3, 1) := by decide +kernel
theorem dX11_comesTo_55 : decode cX11_comesTo 55 = .ok (.iadd, 1) := by decide +kernel
theorem dX11_comesTo_56 : decode cX11_comesTo 56 = .ok (.aload_n 0, 1) := by decide +kernel
theorem dX11_comesTo_57 : decode cX11_comesTo 57 = .ok (.getfield 151, 3) := by decide +kernel
theorem dX11_comesTo_60 : decode cX11_comesTo 60 = .ok (.bipush 24, 2) := by decide +kernel
theorem dX11_comesTo_62 : decode cX11_comesTo 62 = .ok (.iload_n 2, 1) := by decide +kernel
theorem dX11_comesTo_63 : decode cX11_comesTo 63 = .ok (.imul, 1) := by decide +kernel
theorem dX11_comesTo_64 : decode cX11_comesTo 64 = .ok (.iload_n 3, 1) := by decide +kernel
theorem dX11_comesTo_65 : decode cX11_comesTo 65 = .ok (.iadd, 1) := by decide +kernel
theorem dX11_comesTo_66 : decode cX11_comesTo 66 = .ok (.iaload, 1) := by decide +kernel
theorem dX11_comesTo_67 : decode cX11_comesTo 67 = .ok (.iastore, 1) := by decide +kernel
theorem dX11_comesTo_68 : decode cX11_comesTo 68 = .ok (.aload_n 0, 1) := by decide +kernel
theorem dX11_comesTo_69 : decode cX11_comesTo 69 = .ok (.getfield 154, 3) := by decide +kernel
theorem dX11_comesTo_72 : decode cX11_comesTo 72 = .ok (.bipush 24, 2) := by decide +kernel
theorem dX11_comesTo_74 : decode cX11_comesTo 74 = .ok (.iload_n 1, 1) := by decide +kernel
theorem dX11_comesTo_75 : decode cX11_comesTo 75 = .ok (.imul, 1) := by decide +kernel
theorem dX11_comesTo_76 : decode cX11_comesTo 76 = .ok (.iload_n 3, 1) := by decide +kernel
theorem dX11_comesTo_77 : decode cX11_comesTo 77 = .ok (.iadd, 1) := by decide +kernel
theorem dX11_comesTo_78 : decode cX11_comesTo 78 = .ok (.aload_n 0, 1) := by decide +kernel
theorem dX11_comesTo_79 : decode cX11_comesTo 79 = .ok (.getfield 154, 3) := by decide +kernel
theorem dX11_comesTo_82 : decode cX11_comesTo 82 = .ok (.bipush 24, 2) := by decide +kernel
theorem dX11_comesTo_84 : decode cX11_comesTo 84 = .ok (.iload_n 2, 1) := by decide +kernel
theorem dX11_comesTo_85 : decode cX11_comesTo 85 = .ok (.imul, 1) := by decide +kernel
theorem dX11_comesTo_86 : decode cX11_comesTo 86 = .ok (.iload_n 3, 1) := by decide +kernel
theorem dX11_comesTo_87 : decode cX11_comesTo 87 = .ok (.iadd, 1) := by decide +kernel
theorem dX11_comesTo_88 : decode cX11_comesTo 88 = .ok (.iaload, 1) := by decide +kernel
theorem dX11_comesTo_89 : decode cX11_comesTo 89 = .ok (.iastore, 1) := by decide +kernel
theorem dX11_comesTo_90 : decode cX11_comesTo 90 = .ok (.iinc 3 1, 3) := by decide +kernel
theorem dX11_comesTo_93 : decode cX11_comesTo 93 = .ok (.goto (-79), 3) := by decide +kernel
theorem dX11_comesTo_96 : decode cX11_comesTo 96 = .ok (.return_, 1) := by decide +kernel
theorem dX11_cornerTold_0 : decode cX11_cornerTold 0 = .ok (.aload_n 0, 1) := by decide +kernel
theorem dX11_cornerTold_1 : decode cX11_cornerTold 1 = .ok (.invokevirtual 279, 3) := by decide +kernel
theorem dX11_cornerTold_4 : decode cX11_cornerTold 4 = .ok (.lstore_n 1, 1) := by decide +kernel
theorem dX11_cornerTold_5 : decode cX11_cornerTold 5 = .ok (.aload_n 0, 1) := by decide +kernel
theorem dX11_cornerTold_6 : decode cX11_cornerTold 6 = .ok (.iconst 0, 1) := by decide +kernel
theorem dX11_cornerTold_7 : decode cX11_cornerTold 7 = .ok (.lload_n 1, 1) := by decide +kernel
theorem dX11_cornerTold_8 : decode cX11_cornerTold 8 = .ok (.invokevirtual 283, 3) := by decide +kernel
theorem dX11_cornerTold_11 : decode cX11_cornerTold 11 = .ok (.istore_n 3, 1) := by decide +kernel
theorem dX11_cornerTold_12 : decode cX11_cornerTold 12 = .ok (.aload_n 0, 1) := by decide +kernel
theorem dX11_cornerTold_13 : decode cX11_cornerTold 13 = .ok (.getfield 224, 3) := by decide +kernel
theorem dX11_cornerTold_16 : decode cX11_cornerTold 16 = .ok (.ifCond .ne 17, 3) := by decide +kernel
theorem dX11_cornerTold_19 : decode cX11_cornerTold 19 = .ok (.iload_n 3, 1) := by decide +kernel
theorem dX11_cornerTold_20 : decode cX11_cornerTold 20 = .ok (.iconst (-1), 1) := by decide +kernel
theorem dX11_cornerTold_21 : decode cX11_cornerTold 21 = .ok (.if_icmp .ne 12, 3) := by decide +kernel
theorem dX11_cornerTold_24 : decode cX11_cornerTold 24 = .ok (.aload_n 0, 1) := by decide +kernel
theorem dX11_cornerTold_25 : decode cX11_cornerTold 25 = .ok (.iconst 3, 1) := by decide +kernel
theorem dX11_cornerTold_26 : decode cX11_cornerTold 26 = .ok (.aload_n 0, 1) := by decide +kernel
theorem dX11_cornerTold_27 : decode cX11_cornerTold 27 = .ok (.getfield 272, 3) := by decide +kernel
theorem dX11_cornerTold_30 : decode cX11_cornerTold 30 = .ok (.invokevirtual 254, 3) := by decide +kernel
theorem dX11_cornerTold_33 : decode cX11_cornerTold 33 = .ok (.iload_n 3, 1) := by decide +kernel
theorem dX11_cornerTold_34 : decode cX11_cornerTold 34 = .ok (.iconst (-1), 1) := by decide +kernel
theorem dX11_cornerTold_35 : decode cX11_cornerTold 35 = .ok (.if_icmp .ne 7, 3) := by decide +kernel
theorem dX11_cornerTold_38 : decode cX11_cornerTold 38 = .ok (.iconst 0, 1) := by decide +kernel
theorem dX11_cornerTold_39 : decode cX11_cornerTold 39 = .ok (.goto 4, 3) := by decide +kernel
theorem dX11_cornerTold_42 : decode cX11_cornerTold 42 = .ok (.iload_n 3, 1) := by decide +kernel
theorem dX11_cornerTold_43 : decode cX11_cornerTold 43 = .ok (.ireturn, 1) := by decide +kernel
theorem dX11_corners_0 : decode cX11_corners 0 = .ok (.aload_n 0, 1) := by decide +kernel
theorem dX11_corners_1 : decode cX11_corners 1 = .ok (.getfield 99, 3) := by decide +kernel
theorem dX11_corners_4 : decode cX11_corners 4 = .ok (.iconst 5, 1) := by decide +kernel
theorem dX11_corners_5 : decode cX11_corners 5 = .ok (.iaload, 1) := by decide +kernel
theorem dX11_corners_6 : decode cX11_corners 6 = .ok (.ireturn, 1) := by decide +kernel
theorem dX11_dawn_0 : decode cX11_dawn 0 = .ok (.iload_n 1, 1) := by decide +kernel
theorem dX11_dawn_1 : decode cX11_dawn 1 = .ok (.i2l, 1) := by decide +kernel
theorem dX11_dawn_2 : decode cX11_dawn 2 = .ok (.lconst 0, 1) := by decide +kernel
theorem dX11_dawn_3 : decode cX11_dawn 3 = .ok (.iconst 1, 1) := by decide +kernel
theorem dX11_dawn_4 : decode cX11_dawn 4 = .ok (.aload_n 0, 1) := by decide +kernel
theorem dX11_dawn_5 : decode cX11_dawn 5 = .ok (.invokevirtual 450, 3) := by decide +kernel
theorem dX11_dawn_8 : decode cX11_dawn 8 = .ok (.ishl, 1) := by decide +kernel
theorem dX11_dawn_9 : decode cX11_dawn 9 = .ok (.iconst 1, 1) := by decide +kernel
theorem dX11_dawn_10 : decode cX11_dawn 10 = .ok (.isub, 1) := by decide +kernel
theorem dX11_dawn_11 : decode cX11_dawn 11 = .ok (.i2l, 1) := by decide +kernel
theorem dX11_dawn_12 : decode cX11_dawn 12 = .ok (.invokestatic 264, 3) := by decide +kernel
theorem dX11_dawn_15 : decode cX11_dawn 15 = .ok (.ifCond .eq 35, 3) := by decide +kernel
theorem dX11_dawn_18 : decode cX11_dawn 18 = .ok (.iload_n 2, 1) := by decide +kernel
theorem dX11_dawn_19 : decode cX11_dawn 19 = .ok (.i2l, 1) := by decide +kernel
theorem dX11_dawn_20 : decode cX11_dawn 20 = .ok (.lconst 0, 1) := by decide +kernel
theorem dX11_dawn_21 : decode cX11_dawn 21 = .ok (.ldc2_w 521, 3) := by decide +kernel
theorem dX11_dawn_24 : decode cX11_dawn 24 = .ok (.invokestatic 264, 3) := by decide +kernel
theorem dX11_dawn_27 : decode cX11_dawn 27 = .ok (.ifCond .eq 23, 3) := by decide +kernel
theorem dX11_dawn_30 : decode cX11_dawn 30 = .ok (.aload_n 0, 1) := by decide +kernel
theorem dX11_dawn_31 : decode cX11_dawn 31 = .ok (.invokevirtual 447, 3) := by decide +kernel
theorem dX11_dawn_34 : decode cX11_dawn 34 = .ok (.iconst 3, 1) := by decide +kernel
theorem dX11_dawn_35 : decode cX11_dawn 35 = .ok (.if_icmp .gt 15, 3) := by decide +kernel
theorem dX11_dawn_38 : decode cX11_dawn 38 = .ok (.iload_n 3, 1) := by decide +kernel
theorem dX11_dawn_39 : decode cX11_dawn 39 = .ok (.i2l, 1) := by decide +kernel
theorem dX11_dawn_40 : decode cX11_dawn 40 = .ok (.lconst 0, 1) := by decide +kernel
theorem dX11_dawn_41 : decode cX11_dawn 41 = .ok (.ldc2_w 669, 3) := by decide +kernel
theorem dX11_dawn_44 : decode cX11_dawn 44 = .ok (.invokestatic 264, 3) := by decide +kernel
theorem dX11_dawn_47 : decode cX11_dawn 47 = .ok (.ifCond .ne 5, 3) := by decide +kernel
theorem dX11_dawn_50 : decode cX11_dawn 50 = .ok (.iconst (-1), 1) := by decide +kernel
theorem dX11_dawn_51 : decode cX11_dawn 51 = .ok (.ireturn, 1) := by decide +kernel
theorem dX11_dawn_52 : decode cX11_dawn 52 = .ok (.aload_n 0, 1) := by decide +kernel
theorem dX11_dawn_53 : decode cX11_dawn 53 = .ok (.invokevirtual 644, 3) := by decide +kernel
theorem dX11_dawn_56 : decode cX11_dawn 56 = .ok (.iconst 0, 1) := by decide +kernel
theorem dX11_dawn_57 : decode cX11_dawn 57 = .ok (.istore 4, 2) := by decide +kernel
theorem dX11_dawn_59 : decode cX11_dawn 59 = .ok (.iload 4, 2) := by decide +kernel
theorem dX11_dawn_61 : decode cX11_dawn 61 = .ok (.aload_n 0, 1) := by decide +kernel
theorem dX11_dawn_62 : decode cX11_dawn 62 = .ok (.invokevirtual 447, 3) := by decide +kernel
theorem dX11_dawn_65 : decode cX11_dawn 65 = .ok (.if_icmp .ge 16, 3) := by decide +kernel
theorem dX11_dawn_68 : decode cX11_dawn 68 = .ok (.aload_n 0, 1) := by decide +kernel
theorem dX11_dawn_69 : decode cX11_dawn 69 = .ok (.iload 4, 2) := by decide +kernel
theorem dX11_dawn_71 : decode cX11_dawn 71 = .ok (.iload_n 2, 1) := by decide +kernel
theorem dX11_dawn_72 : decode cX11_dawn 72 = .ok (.invokevirtual 671, 3) := by decide +kernel
theorem dX11_dawn_75 : decode cX11_dawn 75 = .ok (.iinc 4 1, 3) := by decide +kernel
theorem dX11_dawn_78 : decode cX11_dawn 78 = .ok (.goto (-19), 3) := by decide +kernel
theorem dX11_dawn_81 : decode cX11_dawn 81 = .ok (.aload_n 0, 1) := by decide +kernel
theorem dX11_dawn_82 : decode cX11_dawn 82 = .ok (.invokevirtual 447, 3) := by decide +kernel
theorem dX11_dawn_85 : decode cX11_dawn 85 = .ok (.istore 4, 2) := by decide +kernel
theorem dX11_dawn_87 : decode cX11_dawn 87 = .ok (.iload 4, 2) := by decide +kernel
theorem dX11_dawn_89 : decode cX11_dawn 89 = .ok (.iconst 3, 1) := by decide +kernel
theorem dX11_dawn_90 : decode cX11_dawn 90 = .ok (.if_icmp .ge 31, 3) := by decide +kernel
theorem dX11_dawn_93 : decode cX11_dawn 93 = .ok (.aload_n 0, 1) := by decide +kernel
theorem dX11_dawn_94 : decode cX11_dawn 94 = .ok (.getfield 212, 3) := by decide +kernel
theorem dX11_dawn_97 : decode cX11_dawn 97 = .ok (.bipush 61, 2) := by decide +kernel
theorem dX11_dawn_99 : decode cX11_dawn 99 = .ok (.iload 4, 2) := by decide +kernel
theorem dX11_dawn_101 : decode cX11_dawn 101 = .ok (.imul, 1) := by decide +kernel
theorem dX11_dawn_102 : decode cX11_dawn 102 = .ok (.iconst 0, 1) := by decide +kernel
theorem dX11_dawn_103 : decode cX11_dawn 103 = .ok (.iastore, 1) := by decide +kernel
theorem dX11_dawn_104 : decode cX11_dawn 104 = .ok (.aload_n 0, 1) := by decide +kernel
theorem dX11_dawn_105 : decode cX11_dawn 105 = .ok (.getfield 215, 3) := by decide +kernel
theorem dX11_dawn_108 : decode cX11_dawn 108 = .ok (.bipush 61, 2) := by decide +kernel
theorem dX11_dawn_110 : decode cX11_dawn 110 = .ok (.iload 4, 2) := by decide +kernel
theorem dX11_dawn_112 : decode cX11_dawn 112 = .ok (.imul, 1) := by decide +kernel
theorem dX11_dawn_113 : decode cX11_dawn 113 = .ok (.iconst 0, 1) := by decide +kernel
theorem dX11_dawn_114 : decode cX11_dawn 114 = .ok (.iastore, 1) := by decide +kernel
theorem dX11_dawn_115 : decode cX11_dawn 115 = .ok (.iinc 4 1, 3) := by decide +kernel
theorem dX11_dawn_118 : decode cX11_dawn 118 = .ok (.goto (-31), 3) := by decide +kernel
theorem dX11_dawn_121 : decode cX11_dawn 121 = .ok (.iconst 0, 1) := by decide +kernel
theorem dX11_dawn_122 : decode cX11_dawn 122 = .ok (.istore 4, 2) := by decide +kernel
theorem dX11_dawn_124 : decode cX11_dawn 124 = .ok (.iconst 1, 1) := by decide +kernel
theorem dX11_dawn_125 : decode cX11_dawn 125 = .ok (.aload_n 0, 1) := by decide +kernel
theorem dX11_dawn_126 : decode cX11_dawn 126 = .ok (.invokevirtual 450, 3) := by decide +kernel
theorem dX11_dawn_129 : decode cX11_dawn 129 = .ok (.ishl, 1) := by decide +kernel
theorem dX11_dawn_130 : decode cX11_dawn 130 = .ok (.iconst 1, 1) := by decide +kernel
theorem dX11_dawn_131 : decode cX11_dawn 131 = .ok (.isub, 1) := by decide +kernel
theorem dX11_dawn_132 : decode cX11_dawn 132 = .ok (.istore 5, 2) := by decide +kernel
theorem dX11_dawn_134 : decode cX11_dawn 134 = .ok (.aload_n 0, 1) := by decide +kernel
theorem dX11_dawn_135 : decode cX11_dawn 135 = .ok (.invokevirtual 647, 3) := by decide +kernel
theorem dX11_dawn_138 : decode cX11_dawn 138 = .ok (.istore 6, 2) := by decide +kernel
theorem dX11_dawn_140 : decode cX11_dawn 140 = .ok (.iconst 0, 1) := by decide +kernel
theorem dX11_dawn_141 : decode cX11_dawn 141 = .ok (.istore 7, 2) := by decide +kernel
theorem dX11_dawn_143 : decode cX11_dawn 143 = .ok (.iload 7, 2) := by decide +kernel
theorem dX11_dawn_145 : decode cX11_dawn 145 = .ok (.aload_n 0, 1) := by decide +kernel
theorem dX11_dawn_146 : decode cX11_dawn 146 = .ok (.iconst 0, 1) := by decide +kernel
theorem dX11_dawn_147 : decode cX11_dawn 147 = .ok (.invokevirtual 674, 3) := by decide +kernel
theorem dX11_dawn_150 : decode cX11_dawn 150 = .ok (.if_icmp .ge 159, 3) := by decide +kernel
theorem dX11_dawn_153 : decode cX11_dawn 153 = .ok (.iconst 0, 1) := by decide +kernel
theorem dX11_dawn_154 : decode cX11_dawn 154 = .ok (.istore 8, 2) := by decide +kernel
theorem dX11_dawn_156 : decode cX11_dawn 156 = .ok (.iload 8, 2) := by decide +kernel
theorem dX11_dawn_158 : decode cX11_dawn 158 = .ok (.aload_n 0, 1) := by decide +kernel
theorem dX11_dawn_159 : decode cX11_dawn 159 = .ok (.iconst 1, 1) := by decide +kernel
theorem dX11_dawn_160 : decode cX11_dawn 160 = .ok (.invokevirtual 674, 3) := by decide +kernel
theorem dX11_dawn_163 : decode cX11_dawn 163 = .ok (.if_icmp .ge 140, 3) := by decide +kernel
theorem dX11_dawn_166 : decode cX11_dawn 166 = .ok (.iconst 0, 1) := by decide +kernel
theorem dX11_dawn_167 : decode cX11_dawn 167 = .ok (.istore 9, 2) := by decide +kernel
theorem dX11_dawn_169 : decode cX11_dawn 169 = .ok (.iload 9, 2) := by decide +kernel
theorem dX11_dawn_171 : decode cX11_dawn 171 = .ok (.aload_n 0, 1) := by decide +kernel
theorem dX11_dawn_172 : decode cX11_dawn 172 = .ok (.iconst 2, 1) := by decide +kernel
theorem dX11_dawn_173 : decode cX11_dawn 173 = .ok (.invokevirtual 674, 3) := by decide +kernel
theorem dX11_dawn_176 : decode cX11_dawn 176 = .ok (.if_icmp .ge 121, 3) := by decide +kernel
theorem dX11_dawn_179 : decode cX11_dawn 179 = .ok (.bipush 61, 2) := by decide +kernel
theorem dX11_dawn_181 : decode cX11_dawn 181 = .ok (.iload 8, 2) := by decide +kernel
theorem dX11_dawn_183 : decode cX11_dawn 183 = .ok (.iadd, 1) := by decide +kernel
theorem dX11_dawn_184 : decode cX11_dawn 184 = .ok (.istore 10, 2) := by decide +kernel
theorem dX11_dawn_186 : decode cX11_dawn 186 = .ok (.bipush 122, 2) := by decide +kernel
theorem dX11_dawn_188 : decode cX11_dawn 188 = .ok (.iload 9, 2) := by decide +kernel
theorem dX11_dawn_190 : decode cX11_dawn 190 = .ok (.iadd, 1) := by decide +kernel
theorem dX11_dawn_191 : decode cX11_dawn 191 = .ok (.istore 11, 2) := by decide +kernel
theorem dX11_dawn_193 : decode cX11_dawn 193 = .ok (.aload_n 0, 1) := by decide +kernel
theorem dX11_dawn_194 : decode cX11_dawn 194 = .ok (.getfield 212, 3) := by decide +kernel
theorem dX11_dawn_197 : decode cX11_dawn 197 = .ok (.iload 7, 2) := by decide +kernel
theorem dX11_dawn_199 : decode cX11_dawn 199 = .ok (.iaload, 1) := by decide +kernel
theorem dX11_dawn_200 : decode cX11_dawn 200 = .ok (.aload_n 0, 1) := by decide +kernel
theorem dX11_dawn_201 : decode cX11_dawn 201 = .ok (.getfield 212, 3) := by decide +kernel
theorem dX11_dawn_204 : decode cX11_dawn 204 = .ok (.iload 10, 2) := by decide +kernel
theorem dX11_dawn_206 : decode cX11_dawn 206 = .ok (.iaload, 1) := by decide +kernel
theorem dX11_dawn_207 : decode cX11_dawn 207 = .ok (.ior, 1) := by decide +kernel
theorem dX11_dawn_208 : decode cX11_dawn 208 = .ok (.aload_n 0, 1) := by decide +kernel
theorem dX11_dawn_209 : decode cX11_dawn 209 = .ok (.getfield 212, 3) := by decide +kernel
theorem dX11_dawn_212 : decode cX11_dawn 212 = .ok (.iload 11, 2) := by decide +kernel
theorem dX11_dawn_214 : decode cX11_dawn 214 = .ok (.iaload, 1) := by decide +kernel
theorem dX11_dawn_215 : decode cX11_dawn 215 = .ok (.ior, 1) := by decide +kernel
theorem dX11_dawn_216 : decode cX11_dawn 216 = .ok (.iload_n 1, 1) := by decide +kernel
theorem dX11_dawn_217 : decode cX11_dawn 217 = .ok (.if_icmp .eq 6, 3) := by decide +kernel
theorem dX11_dawn_220 : decode cX11_dawn 220 = .ok (.goto 71, 3) := by decide +kernel
theorem dX11_dawn_223 : decode cX11_dawn 223 = .ok (.iinc 4 1, 3) := by decide +kernel
theorem dX11_dawn_226 : decode cX11_dawn 226 = .ok (.iload 5, 2) := by decide +kernel
theorem dX11_dawn_228 : decode cX11_dawn 228 = .ok (.aload_n 0, 1) := by decide +kernel
theorem dX11_dawn_229 : decode cX11_dawn 229 = .ok (.getfield 215, 3) := by decide +kernel
theorem dX11_dawn_232 : decode cX11_dawn 232 = .ok (.iload 7, 2) := by decide +kernel
theorem dX11_dawn_234 : decode cX11_dawn 234 = .ok (.iaload, 1) := by decide +kernel
theorem dX11_dawn_235 : decode cX11_dawn 235 = .ok (.aload_n 0, 1) := by decide +kernel
theorem dX11_dawn_236 : decode cX11_dawn 236 = .ok (.getfield 215, 3) := by decide +kernel
theorem dX11_dawn_239 : decode cX11_dawn 239 = .ok (.iload 10, 2) := by decide +kernel
theorem dX11_dawn_241 : decode cX11_dawn 241 = .ok (.iaload, 1) := by decide +kernel
theorem dX11_dawn_242 : decode cX11_dawn 242 = .ok (.ior, 1) := by decide +kernel
theorem dX11_dawn_243 : decode cX11_dawn 243 = .ok (.aload_n 0, 1) := by decide +kernel
theorem dX11_dawn_244 : decode cX11_dawn 244 = .ok (.getfield 215, 3) := by decide +kernel
theorem dX11_dawn_247 : decode cX11_dawn 247 = .ok (.iload 11, 2) := by decide +kernel
theorem dX11_dawn_249 : decode cX11_dawn 249 = .ok (.iaload, 1) := by decide +kernel
theorem dX11_dawn_250 : decode cX11_dawn 250 = .ok (.ior, 1) := by decide +kernel
theorem dX11_dawn_251 : decode cX11_dawn 251 = .ok (.iand, 1) := by decide +kernel
theorem dX11_dawn_252 : decode cX11_dawn 252 = .ok (.istore 5, 2) := by decide +kernel
theorem dX11_dawn_254 : decode cX11_dawn 254 = .ok (.iload 6, 2) := by decide +kernel
theorem dX11_dawn_256 : decode cX11_dawn 256 = .ok (.iload 7, 2) := by decide +kernel
theorem dX11_dawn_258 : decode cX11_dawn 258 = .ok (.ifCond .ne 7, 3) := by decide +kernel
theorem dX11_dawn_261 : decode cX11_dawn 261 = .ok (.iconst 1, 1) := by decide +kernel
theorem dX11_dawn_262 : decode cX11_dawn 262 = .ok (.goto 4, 3) := by decide +kernel
theorem dX11_dawn_265 : decode cX11_dawn 265 = .ok (.iconst 0, 1) := by decide +kernel
theorem dX11_dawn_266 : decode cX11_dawn 266 = .ok (.iload 8, 2) := by decide +kernel
theorem dX11_dawn_268 : decode cX11_dawn 268 = .ok (.ifCond .ne 7, 3) := by decide +kernel
theorem dX11_dawn_271 : decode cX11_dawn 271 = .ok (.iconst 2, 1) := by decide +kernel
theorem dX11_dawn_272 : decode cX11_dawn 272 = .ok (.goto 4, 3) := by decide +kernel
theorem dX11_dawn_275 : decode cX11_dawn 275 = .ok (.iconst 0, 1) := by decide +kernel
theorem dX11_dawn_276 : decode cX11_dawn 276 = .ok (.iadd, 1) := by decide +kernel
theorem dX11_dawn_277 : decode cX11_dawn 277 = .ok (.iload 9, 2) := by decide +kernel
theorem dX11_dawn_279 : decode cX11_dawn 279 = .ok (.ifCond .ne 7, 3) := by decide +kernel
theorem dX11_dawn_282 : decode cX11_dawn 282 = .ok (.iconst 4, 1) := by decide +kernel
theorem dX11_dawn_283 : decode cX11_dawn 283 = .ok (.goto 4, 3) := by decide +kernel
theorem dX11_dawn_286 : decode cX11_dawn 286 = .ok (.iconst 0, 1) := by decide +kernel
theorem dX11_dawn_287 : decode cX11_dawn 287 = .ok (.iadd, 1) := by decide +kernel
theorem dX11_dawn_288 : decode cX11_dawn 288 = .ok (.iand, 1) := by decide +kernel
theorem dX11_dawn_289 : decode cX11_dawn 289 = .ok (.istore 6, 2) := by decide +kernel
theorem dX11_dawn_291 : decode cX11_dawn 291 = .ok (.iinc 9 1, 3) := by decide +kernel
theorem dX11_dawn_294 : decode cX11_dawn 294 = .ok (.goto (-125), 3) := by decide +kernel
theorem dX11_dawn_297 : decode cX11_dawn 297 = .ok (.iinc 8 1, 3) := by decide +kernel
theorem dX11_dawn_300 : decode cX11_dawn 300 = .ok (.goto (-144), 3) := by decide +kernel
theorem dX11_dawn_303 : decode cX11_dawn 303 = .ok (.iinc 7 1, 3) := by decide +kernel
theorem dX11_dawn_306 : decode cX11_dawn 306 = .ok (.goto (-163), 3) := by decide +kernel
theorem dX11_dawn_309 : decode cX11_dawn 309 = .ok (.iload_n 3, 1) := by decide +kernel
theorem dX11_dawn_310 : decode cX11_dawn 310 = .ok (.ifCond .ne 6, 3) := by decide +kernel
theorem dX11_dawn_313 : decode cX11_dawn 313 = .ok (.iload 4, 2) := by decide +kernel
theorem dX11_dawn_315 : decode cX11_dawn 315 = .ok (.ireturn, 1) := by decide +kernel
theorem dX11_dawn_316 : decode cX11_dawn 316 = .ok (.iload 4, 2) := by decide +kernel
theorem dX11_dawn_318 : decode cX11_dawn 318 = .ok (.ifCond .ne 7, 3) := by decide +kernel
theorem dX11_dawn_321 : decode cX11_dawn 321 = .ok (.iconst 0, 1) := by decide +kernel
theorem dX11_dawn_322 : decode cX11_dawn 322 = .ok (.goto 15, 3) := by decide +kernel
theorem dX11_dawn_325 : decode cX11_dawn 325 = .ok (.iload_n 3, 1) := by decide +kernel
theorem dX11_dawn_326 : decode cX11_dawn 326 = .ok (.iconst 1, 1) := by decide +kernel
theorem dX11_dawn_327 : decode cX11_dawn 327 = .ok (.if_icmp .ne 8, 3) := by decide +kernel
theorem dX11_dawn_330 : decode cX11_dawn 330 = .ok (.iload 5, 2) := by decide +kernel
theorem dX11_dawn_332 : decode cX11_dawn 332 = .ok (.goto 5, 3) := by decide +kernel
theorem dX11_dawn_335 : decode cX11_dawn 335 = .ok (.iload 6, 2) := by decide +kernel
theorem dX11_dawn_337 : decode cX11_dawn 337 = .ok (.ireturn, 1) := by decide +kernel
theorem dX11_dawns_0 : decode cX11_dawns 0 = .ok (.aload_n 0, 1) := by decide +kernel
theorem dX11_dawns_1 : decode cX11_dawns 1 = .ok (.getfield 212, 3) := by decide +kernel
theorem dX11_dawns_4 : decode cX11_dawns 4 = .ok (.bipush 61, 2) := by decide +kernel
theorem dX11_dawns_6 : decode cX11_dawns 6 = .ok (.iload_n 1, 1) := by decide +kernel
theorem dX11_dawns_7 : decode cX11_dawns 7 = .ok (.imul, 1) := by decide +kernel
theorem dX11_dawns_8 : decode cX11_dawns 8 = .ok (.iconst 0, 1) := by decide +kernel
theorem dX11_dawns_9 : decode cX11_dawns 9 = .ok (.iastore, 1) := by decide +kernel
theorem dX11_dawns_10 : decode cX11_dawns 10 = .ok (.aload_n 0, 1) := by decide +kernel
theorem dX11_dawns_11 : decode cX11_dawns 11 = .ok (.getfield 215, 3) := by decide +kernel
theorem dX11_dawns_14 : decode cX11_dawns 14 = .ok (.bipush 61, 2) := by decide +kernel
theorem dX11_dawns_16 : decode cX11_dawns 16 = .ok (.iload_n 1, 1) := by decide +kernel
theorem dX11_dawns_17 : decode cX11_dawns 17 = .ok (.imul, 1) := by decide +kernel
theorem dX11_dawns_18 : decode cX11_dawns 18 = .ok (.iconst 0, 1) := by decide +kernel
theorem dX11_dawns_19 : decode cX11_dawns 19 = .ok (.iastore, 1) := by decide +kernel
theorem dX11_dawns_20 : decode cX11_dawns 20 = .ok (.iconst 0, 1) := by decide +kernel
theorem dX11_dawns_21 : decode cX11_dawns 21 = .ok (.istore_n 3, 1) := by decide +kernel
theorem dX11_dawns_22 : decode cX11_dawns 22 = .ok (.iload_n 3, 1) := by decide +kernel
theorem dX11_dawns_23 : decode cX11_dawns 23 = .ok (.aload_n 0, 1) := by decide +kernel
theorem dX11_dawns_24 : decode cX11_dawns 24 = .ok (.iload_n 1, 1) := by decide +kernel
theorem dX11_dawns_25 : decode cX11_dawns 25 = .ok (.invokevirtual 641, 3) := by decide +kernel
theorem dX11_dawns_28 : decode cX11_dawns 28 = .ok (.if_icmp .ge 141, 3) := by decide +kernel
theorem dX11_dawns_31 : decode cX11_dawns 31 = .ok (.bipush 61, 2) := by decide +kernel
theorem dX11_dawns_33 : decode cX11_dawns 33 = .ok (.iload_n 1, 1) := by decide +kernel
theorem dX11_dawns_34 : decode cX11_dawns 34 = .ok (.imul, 1) := by decide +kernel
theorem dX11_dawns_35 : decode cX11_dawns 35 = .ok (.iload_n 3, 1) := by decide +kernel
theorem dX11_dawns_36 : decode cX11_dawns 36 = .ok (.iadd, 1) := by decide +kernel
theorem dX11_dawns_37 : decode cX11_dawns 37 = .ok (.iconst 1, 1) := by decide +kernel
theorem dX11_dawns_38 : decode cX11_dawns 38 = .ok (.iadd, 1) := by decide +kernel
theorem dX11_dawns_39 : decode cX11_dawns 39 = .ok (.istore 4, 2) := by decide +kernel
theorem dX11_dawns_41 : decode cX11_dawns 41 = .ok (.iload_n 1, 1) := by decide +kernel
theorem dX11_dawns_42 : decode cX11_dawns 42 = .ok (.iload_n 3, 1) := by decide +kernel
theorem dX11_dawns_43 : decode cX11_dawns 43 = .ok (.invokestatic 604, 3) := by decide +kernel
theorem dX11_dawns_46 : decode cX11_dawns 46 = .ok (.istore 5, 2) := by decide +kernel
theorem dX11_dawns_48 : decode cX11_dawns 48 = .ok (.aload_n 0, 1) := by decide +kernel
theorem dX11_dawns_49 : decode cX11_dawns 49 = .ok (.getfield 212, 3) := by decide +kernel
theorem dX11_dawns_52 : decode cX11_dawns 52 = .ok (.iload 4, 2) := by decide +kernel
theorem dX11_dawns_54 : decode cX11_dawns 54 = .ok (.iconst 0, 1) := by decide +kernel
theorem dX11_dawns_55 : decode cX11_dawns 55 = .ok (.iastore, 1) := by decide +kernel
theorem dX11_dawns_56 : decode cX11_dawns 56 = .ok (.aload_n 0, 1) := by decide +kernel
theorem dX11_dawns_57 : decode cX11_dawns 57 = .ok (.getfield 215, 3) := by decide +kernel
theorem dX11_dawns_60 : decode cX11_dawns 60 = .ok (.iload 4, 2) := by decide +kernel
theorem dX11_dawns_62 : decode cX11_dawns 62 = .ok (.iconst 0, 1) := by decide +kernel
theorem dX11_dawns_63 : decode cX11_dawns 63 = .ok (.iastore, 1) := by decide +kernel
theorem dX11_dawns_64 : decode cX11_dawns 64 = .ok (.bipush 24, 2) := by decide +kernel
theorem dX11_dawns_66 : decode cX11_dawns 66 = .ok (.iload 5, 2) := by decide +kernel
theorem dX11_dawns_68 : decode cX11_dawns 68 = .ok (.imul, 1) := by decide +kernel
theorem dX11_dawns_69 : decode cX11_dawns 69 = .ok (.istore 6, 2) := by decide +kernel
theorem dX11_dawns_71 : decode cX11_dawns 71 = .ok (.iload 6, 2) := by decide +kernel
theorem dX11_dawns_73 : decode cX11_dawns 73 = .ok (.bipush 24, 2) := by decide +kernel
theorem dX11_dawns_75 : decode cX11_dawns 75 = .ok (.iload 5, 2) := by decide +kernel
theorem dX11_dawns_77 : decode cX11_dawns 77 = .ok (.imul, 1) := by decide +kernel
theorem dX11_dawns_78 : decode cX11_dawns 78 = .ok (.aload_n 0, 1) := by decide +kernel
theorem dX11_dawns_79 : decode cX11_dawns 79 = .ok (.getfield 145, 3) := by decide +kernel
theorem dX11_dawns_82 : decode cX11_dawns 82 = .ok (.iload 5, 2) := by decide +kernel
theorem dX11_dawns_84 : decode cX11_dawns 84 = .ok (.iaload, 1) := by decide +kernel
theorem dX11_dawns_85 : decode cX11_dawns 85 = .ok (.iadd, 1) := by decide +kernel
theorem dX11_dawns_86 : decode cX11_dawns 86 = .ok (.if_icmp .ge 77, 3) := by decide +kernel
theorem dX11_dawns_89 : decode cX11_dawns 89 = .ok (.aload_n 0, 1) := by decide +kernel
theorem dX11_dawns_90 : decode cX11_dawns 90 = .ok (.getfield 151, 3) := by decide +kernel
theorem dX11_dawns_93 : decode cX11_dawns 93 = .ok (.iload 6, 2) := by decide +kernel
theorem dX11_dawns_95 : decode cX11_dawns 95 = .ok (.iaload, 1) := by decide +kernel
theorem dX11_dawns_96 : decode cX11_dawns 96 = .ok (.iconst (-1), 1) := by decide +kernel
theorem dX11_dawns_97 : decode cX11_dawns 97 = .ok (.if_icmp .ne 6, 3) := by decide +kernel
theorem dX11_dawns_100 : decode cX11_dawns 100 = .ok (.goto 57, 3) := by decide +kernel
theorem dX11_dawns_103 : decode cX11_dawns 103 = .ok (.aload_n 0, 1) := by decide +kernel
theorem dX11_dawns_104 : decode cX11_dawns 104 = .ok (.getfield 215, 3) := by decide +kernel
theorem dX11_dawns_107 : decode cX11_dawns 107 = .ok (.iload 4, 2) := by decide +kernel
theorem dX11_dawns_109 : decode cX11_dawns 109 = .ok (.dup2, 1) := by decide +kernel
theorem dX11_dawns_110 : decode cX11_dawns 110 = .ok (.iaload, 1) := by decide +kernel
theorem dX11_dawns_111 : decode cX11_dawns 111 = .ok (.iconst 1, 1) := by decide +kernel
theorem dX11_dawns_112 : decode cX11_dawns 112 = .ok (.aload_n 0, 1) := by decide +kernel
theorem dX11_dawns_113 : decode cX11_dawns 113 = .ok (.getfield 151, 3) := by decide +kernel
theorem dX11_dawns_116 : decode cX11_dawns 116 = .ok (.iload 6, 2) := by decide +kernel
theorem dX11_dawns_118 : decode cX11_dawns 118 = .ok (.iaload, 1) := by decide +kernel
theorem dX11_dawns_119 : decode cX11_dawns 119 = .ok (.ishl, 1) := by decide +kernel
theorem dX11_dawns_120 : decode cX11_dawns 120 = .ok (.ior, 1) := by decide +kernel
theorem dX11_dawns_121 : decode cX11_dawns 121 = .ok (.iastore, 1) := by decide +kernel
theorem dX11_dawns_122 : decode cX11_dawns 122 = .ok (.aload_n 0, 1) := by decide +kernel
theorem dX11_dawns_123 : decode cX11_dawns 123 = .ok (.iload_n 1, 1) := by decide +kernel
theorem dX11_dawns_124 : decode cX11_dawns 124 = .ok (.aload_n 0, 1) := by decide +kernel
theorem dX11_dawns_125 : decode cX11_dawns 125 = .ok (.getfield 154, 3) := by decide +kernel
theorem dX11_dawns_128 : decode cX11_dawns 128 = .ok (.iload 6, 2) := by decide +kernel
theorem dX11_dawns_130 : decode cX11_dawns 130 = .ok (.iaload, 1) := by decide +kernel
theorem dX11_dawns_131 : decode cX11_dawns 131 = .ok (.iload_n 2, 1) := by decide +kernel
theorem dX11_dawns_132 : decode cX11_dawns 132 = .ok (.invokevirtual 532, 3) := by decide +kernel
theorem dX11_dawns_135 : decode cX11_dawns 135 = .ok (.ifCond .eq 22, 3) := by decide +kernel
theorem dX11_dawns_138 : decode cX11_dawns 138 = .ok (.aload_n 0, 1) := by decide +kernel
theorem dX11_dawns_139 : decode cX11_dawns 139 = .ok (.getfield 212, 3) := by decide +kernel
theorem dX11_dawns_142 : decode cX11_dawns 142 = .ok (.iload 4, 2) := by decide +kernel
theorem dX11_dawns_144 : decode cX11_dawns 144 = .ok (.dup2, 1) := by decide +kernel
theorem dX11_dawns_145 : decode cX11_dawns 145 = .ok (.iaload, 1) := by decide +kernel
theorem dX11_dawns_146 : decode cX11_dawns 146 = .ok (.iconst 1, 1) := by decide +kernel
theorem dX11_dawns_147 : decode cX11_dawns 147 = .ok (.aload_n 0, 1) := by decide +kernel
theorem dX11_dawns_148 : decode cX11_dawns 148 = .ok (.getfield 151, 3) := by decide +kernel
theorem dX11_dawns_151 : decode cX11_dawns 151 = .ok (.iload 6, 2) := by decide +kernel
theorem dX11_dawns_153 : decode cX11_dawns 153 = .ok (.iaload, 1) := by decide +kernel
theorem dX11_dawns_154 : decode cX11_dawns 154 = .ok (.ishl, 1) := by decide +kernel
theorem dX11_dawns_155 : decode cX11_dawns 155 = .ok (.ior, 1) := by decide +kernel
theorem dX11_dawns_156 : decode cX11_dawns 156 = .ok (.iastore, 1) := by decide +kernel
theorem dX11_dawns_157 : decode cX11_dawns 157 = .ok (.iinc 6 1, 3) := by decide +kernel
theorem dX11_dawns_160 : decode cX11_dawns 160 = .ok (.goto (-89), 3) := by decide +kernel
theorem dX11_dawns_163 : decode cX11_dawns 163 = .ok (.iinc 3 1, 3) := by decide +kernel
theorem dX11_dawns_166 : decode cX11_dawns 166 = .ok (.goto (-144), 3) := by decide +kernel
theorem dX11_dawns_169 : decode cX11_dawns 169 = .ok (.return_, 1) := by decide +kernel
theorem dX11_doLie_0 : decode cX11_doLie 0 = .ok (.iload_n 3, 1) := by decide +kernel
theorem dX11_doLie_1 : decode cX11_doLie 1 = .ok (.i2l, 1) := by decide +kernel
theorem dX11_doLie_2 : decode cX11_doLie 2 = .ok (.iload_n 2, 1) := by decide +kernel
theorem dX11_doLie_3 : decode cX11_doLie 3 = .ok (.i2l, 1) := by decide +kernel
theorem dX11_doLie_4 : decode cX11_doLie 4 = .ok (.iload_n 2, 1) := by decide +kernel
theorem dX11_doLie_5 : decode cX11_doLie 5 = .ok (.aload_n 0, 1) := by decide +kernel
theorem dX11_doLie_6 : decode cX11_doLie 6 = .ok (.iload_n 1, 1) := by decide +kernel
theorem dX11_doLie_7 : decode cX11_doLie 7 = .ok (.invokevirtual 529, 3) := by decide +kernel
theorem dX11_doLie_10 : decode cX11_doLie 10 = .ok (.iadd, 1) := by decide +kernel
theorem dX11_doLie_11 : decode cX11_doLie 11 = .ok (.iconst 1, 1) := by decide +kernel
theorem dX11_doLie_12 : decode cX11_doLie 12 = .ok (.isub, 1) := by decide +kernel
theorem dX11_doLie_13 : decode cX11_doLie 13 = .ok (.i2l, 1) := by decide +kernel
theorem dX11_doLie_14 : decode cX11_doLie 14 = .ok (.invokestatic 264, 3) := by decide +kernel
theorem dX11_doLie_17 : decode cX11_doLie 17 = .ok (.ifCond .ne 5, 3) := by decide +kernel
theorem dX11_doLie_20 : decode cX11_doLie 20 = .ok (.iconst 0, 1) := by decide +kernel
theorem dX11_doLie_21 : decode cX11_doLie 21 = .ok (.ireturn, 1) := by decide +kernel
theorem dX11_doLie_22 : decode cX11_doLie 22 = .ok (.aload_n 0, 1) := by decide +kernel
theorem dX11_doLie_23 : decode cX11_doLie 23 = .ok (.getfield 118, 3) := by decide +kernel
theorem dX11_doLie_26 : decode cX11_doLie 26 = .ok (.iconst (-1), 1) := by decide +kernel
theorem dX11_doLie_27 : decode cX11_doLie 27 = .ok (.if_icmp .eq 19, 3) := by decide +kernel
theorem dX11_doLie_30 : decode cX11_doLie 30 = .ok (.iload_n 3, 1) := by decide +kernel
theorem dX11_doLie_31 : decode cX11_doLie 31 = .ok (.aload_n 0, 1) := by decide +kernel
theorem dX11_doLie_32 : decode cX11_doLie 32 = .ok (.getfield 118, 3) := by decide +kernel
theorem dX11_doLie_35 : decode cX11_doLie 35 = .ok (.if_icmp .lt 11, 3) := by decide +kernel
theorem dX11_doLie_38 : decode cX11_doLie 38 = .ok (.iload_n 2, 1) := by decide +kernel
theorem dX11_doLie_39 : decode cX11_doLie 39 = .ok (.aload_n 0, 1) := by decide +kernel
theorem dX11_doLie_40 : decode cX11_doLie 40 = .ok (.getfield 118, 3) := by decide +kernel
theorem dX11_doLie_43 : decode cX11_doLie 43 = .ok (.if_icmp .lt 7, 3) := by decide +kernel
theorem dX11_doLie_46 : decode cX11_doLie 46 = .ok (.iconst 1, 1) := by decide +kernel
theorem dX11_doLie_47 : decode cX11_doLie 47 = .ok (.goto 4, 3) := by decide +kernel
theorem dX11_doLie_50 : decode cX11_doLie 50 = .ok (.iconst 0, 1) := by decide +kernel
theorem dX11_doLie_51 : decode cX11_doLie 51 = .ok (.ireturn, 1) := by decide +kernel
theorem dX11_drops_0 : decode cX11_drops 0 = .ok (.aload_n 0, 1) := by decide +kernel
theorem dX11_drops_1 : decode cX11_drops 1 = .ok (.dup, 1) := by decide +kernel
theorem dX11_drops_2 : decode cX11_drops 2 = .ok (.getfield 309, 3) := by decide +kernel
theorem dX11_drops_5 : decode cX11_drops 5 = .ok (.iconst 1, 1) := by decide +kernel
theorem dX11_drops_6 : decode cX11_drops 6 = .ok (.isub, 1) := by decide +kernel
theorem dX11_drops_7 : decode cX11_drops 7 = .ok (.putfield 309, 3) := by decide +kernel
theorem dX11_drops_10 : decode cX11_drops 10 = .ok (.aload_n 0, 1) := by decide +kernel
theorem dX11_drops_11 : decode cX11_drops 11 = .ok (.aload_n 0, 1) := by decide +kernel
theorem dX11_drops_12 : decode cX11_drops 12 = .ok (.getfield 124, 3) := by decide +kernel
theorem dX11_drops_15 : decode cX11_drops 15 = .ok (.aload_n 0, 1) := by decide +kernel
theorem dX11_drops_16 : decode cX11_drops 16 = .ok (.getfield 309, 3) := by decide +kernel
theorem dX11_drops_19 : decode cX11_drops 19 = .ok (.iaload, 1) := by decide +kernel
theorem dX11_drops_20 : decode cX11_drops 20 = .ok (.invokevirtual 370, 3) := by decide +kernel
theorem dX11_drops_23 : decode cX11_drops 23 = .ok (.return_, 1) := by decide +kernel
theorem dX11_dropsNots_0 : decode cX11_dropsNots 0 = .ok (.aload_n 0, 1) := by decide +kernel
theorem dX11_dropsNots_1 : decode cX11_dropsNots 1 = .ok (.getfield 224, 3) := by decide +kernel
theorem dX11_dropsNots_4 : decode cX11_dropsNots 4 = .ok (.ifCond .ne 29, 3) := by decide +kernel
theorem dX11_dropsNots_7 : decode cX11_dropsNots 7 = .ok (.aload_n 0, 1) := by decide +kernel
theorem dX11_dropsNots_8 : decode cX11_dropsNots 8 = .ok (.bipush 16, 2) := by decide +kernel
theorem dX11_dropsNots_10 : decode cX11_dropsNots 10 = .ok (.invokevirtual 388, 3) := by decide +kernel
theorem dX11_dropsNots_13 : decode cX11_dropsNots 13 = .ok (.ifCond .eq 20, 3) := by decide +kernel
theorem dX11_dropsNots_16 : decode cX11_dropsNots 16 = .ok (.aload_n 0, 1) := by decide +kernel
theorem dX11_dropsNots_17 : decode cX11_dropsNots 17 = .ok (.dup, 1) := by decide +kernel
theorem dX11_dropsNots_18 : decode cX11_dropsNots 18 = .ok (.getfield 312, 3) := by decide +kernel
theorem dX11_dropsNots_21 : decode cX11_dropsNots 21 = .ok (.iconst 1, 1) := by decide +kernel
theorem dX11_dropsNots_22 : decode cX11_dropsNots 22 = .ok (.isub, 1) := by decide +kernel
theorem dX11_dropsNots_23 : decode cX11_dropsNots 23 = .ok (.putfield 312, 3) := by decide +kernel
theorem dX11_dropsNots_26 : decode cX11_dropsNots 26 = .ok (.aload_n 0, 1) := by decide +kernel
theorem dX11_dropsNots_27 : decode cX11_dropsNots 27 = .ok (.invokevirtual 376, 3) := by decide +kernel
theorem dX11_dropsNots_30 : decode cX11_dropsNots 30 = .ok (.goto (-30), 3) := by decide +kernel
theorem dX11_dropsNots_33 : decode cX11_dropsNots 33 = .ok (.return_, 1) := by decide +kernel
theorem dX11_dropsToMark_0 : decode cX11_dropsToMark 0 = .ok (.aload_n 0, 1) := by decide +kernel
theorem dX11_dropsToMark_1 : decode cX11_dropsToMark 1 = .ok (.getfield 309, 3) := by decide +kernel
theorem dX11_dropsToMark_4 : decode cX11_dropsToMark 4 = .ok (.aload_n 0, 1) := by decide +kernel
theorem dX11_dropsToMark_5 : decode cX11_dropsToMark 5 = .ok (.getfield 315, 3) := by decide +kernel
theorem dX11_dropsToMark_8 : decode cX11_dropsToMark 8 = .ok (.if_icmp .le 28, 3) := by decide +kernel
theorem dX11_dropsToMark_11 : decode cX11_dropsToMark 11 = .ok (.aload_n 0, 1) := by decide +kernel
theorem dX11_dropsToMark_12 : decode cX11_dropsToMark 12 = .ok (.aload_n 0, 1) := by decide +kernel
theorem dX11_dropsToMark_13 : decode cX11_dropsToMark 13 = .ok (.getfield 124, 3) := by decide +kernel
theorem dX11_dropsToMark_16 : decode cX11_dropsToMark 16 = .ok (.aload_n 0, 1) := by decide +kernel
theorem dX11_dropsToMark_17 : decode cX11_dropsToMark 17 = .ok (.getfield 309, 3) := by decide +kernel
theorem dX11_dropsToMark_20 : decode cX11_dropsToMark 20 = .ok (.iconst 1, 1) := by decide +kernel
theorem dX11_dropsToMark_21 : decode cX11_dropsToMark 21 = .ok (.isub, 1) := by decide +kernel
theorem dX11_dropsToMark_22 : decode cX11_dropsToMark 22 = .ok (.iaload, 1) := by decide +kernel
theorem dX11_dropsToMark_23 : decode cX11_dropsToMark 23 = .ok (.invokevirtual 373, 3) := by decide +kernel
theorem dX11_dropsToMark_26 : decode cX11_dropsToMark 26 = .ok (.ifCond .ne 10, 3) := by decide +kernel
theorem dX11_dropsToMark_29 : decode cX11_dropsToMark 29 = .ok (.aload_n 0, 1) := by decide +kernel
theorem dX11_dropsToMark_30 : decode cX11_dropsToMark 30 = .ok (.invokevirtual 376, 3) := by decide +kernel
theorem dX11_dropsToMark_33 : decode cX11_dropsToMark 33 = .ok (.goto (-33), 3) := by decide +kernel
theorem dX11_dropsToMark_36 : decode cX11_dropsToMark 36 = .ok (.return_, 1) := by decide +kernel
theorem dX11_drums_0 : decode cX11_drums 0 = .ok (.aload_n 0, 1) := by decide +kernel
theorem dX11_drums_1 : decode cX11_drums 1 = .ok (.getfield 145, 3) := by decide +kernel
theorem dX11_drums_4 : decode cX11_drums 4 = .ok (.iload_n 1, 1) := by decide +kernel
theorem dX11_drums_5 : decode cX11_drums 5 = .ok (.iaload, 1) := by decide +kernel
theorem dX11_drums_6 : decode cX11_drums 6 = .ok (.ifCond .eq 30, 3) := by decide +kernel
theorem dX11_drums_9 : decode cX11_drums 9 = .ok (.aload_n 0, 1) := by decide +kernel
theorem dX11_drums_10 : decode cX11_drums 10 = .ok (.getfield 145, 3) := by decide +kernel
theorem dX11_drums_13 : decode cX11_drums 13 = .ok (.iload_n 2, 1) := by decide +kernel
theorem dX11_drums_14 : decode cX11_drums 14 = .ok (.iaload, 1) := by decide +kernel
theorem dX11_drums_15 : decode cX11_drums 15 = .ok (.ifCond .eq 21, 3) := by decide +kernel
theorem dX11_drums_18 : decode cX11_drums 18 = .ok (.iload_n 3, 1) := by decide +kernel
theorem dX11_drums_19 : decode cX11_drums 19 = .ok (.aload_n 0, 1) := by decide +kernel
theorem dX11_drums_20 : decode cX11_drums 20 = .ok (.iload_n 1, 1) := by decide +kernel
theorem dX11_drums_21 : decode cX11_drums 21 = .ok (.invokevirtual 459, 3) := by decide +kernel
theorem dX11_drums_24 : decode cX11_drums 24 = .ok (.if_icmp .gt 12, 3) := by decide +kernel
theorem dX11_drums_27 : decode cX11_drums 27 = .ok (.iload_n 3, 1) := by decide +kernel
theorem dX11_drums_28 : decode cX11_drums 28 = .ok (.aload_n 0, 1) := by decide +kernel
theorem dX11_drums_29 : decode cX11_drums 29 = .ok (.iload_n 2, 1) := by decide +kernel
theorem dX11_drums_30 : decode cX11_drums 30 = .ok (.invokevirtual 459, 3) := by decide +kernel
theorem dX11_drums_33 : decode cX11_drums 33 = .ok (.if_icmp .le 5, 3) := by decide +kernel
theorem dX11_drums_36 : decode cX11_drums 36 = .ok (.iconst (-1), 1) := by decide +kernel
theorem dX11_drums_37 : decode cX11_drums 37 = .ok (.ireturn, 1) := by decide +kernel
theorem dX11_drums_38 : decode cX11_drums 38 = .ok (.aload_n 0, 1) := by decide +kernel
theorem dX11_drums_39 : decode cX11_drums 39 = .ok (.getfield 142, 3) := by decide +kernel
theorem dX11_drums_42 : decode cX11_drums 42 = .ok (.bipush 10, 2) := by decide +kernel
theorem dX11_drums_44 : decode cX11_drums 44 = .ok (.aload_n 0, 1) := by decide +kernel
theorem dX11_drums_45 : decode cX11_drums 45 = .ok (.iload_n 1, 1) := by decide +kernel
theorem dX11_drums_46 : decode cX11_drums 46 = .ok (.iload_n 3, 1) := by decide +kernel
theorem dX11_drums_47 : decode cX11_drums 47 = .ok (.invokevirtual 523, 3) := by decide +kernel
theorem dX11_drums_50 : decode cX11_drums 50 = .ok (.imul, 1) := by decide +kernel
theorem dX11_drums_51 : decode cX11_drums 51 = .ok (.aload_n 0, 1) := by decide +kernel
theorem dX11_drums_52 : decode cX11_drums 52 = .ok (.iload_n 2, 1) := by decide +kernel
theorem dX11_drums_53 : decode cX11_drums 53 = .ok (.iload_n 3, 1) := by decide +kernel
theorem dX11_drums_54 : decode cX11_drums 54 = .ok (.invokevirtual 523, 3) := by decide +kernel
theorem dX11_drums_57 : decode cX11_drums 57 = .ok (.iadd, 1) := by decide +kernel
theorem dX11_drums_58 : decode cX11_drums 58 = .ok (.iaload, 1) := by decide +kernel
theorem dX11_drums_59 : decode cX11_drums 59 = .ok (.istore 4, 2) := by decide +kernel
theorem dX11_drums_61 : decode cX11_drums 61 = .ok (.iload 4, 2) := by decide +kernel
theorem dX11_drums_63 : decode cX11_drums 63 = .ok (.aload_n 0, 1) := by decide +kernel
theorem dX11_drums_64 : decode cX11_drums 64 = .ok (.iload_n 1, 1) := by decide +kernel
theorem dX11_drums_65 : decode cX11_drums 65 = .ok (.invokestatic 453, 3) := by decide +kernel
theorem dX11_drums_68 : decode cX11_drums 68 = .ok (.iload_n 2, 1) := by decide +kernel
theorem dX11_drums_69 : decode cX11_drums 69 = .ok (.invokestatic 453, 3) := by decide +kernel
theorem dX11_drums_72 : decode cX11_drums 72 = .ok (.invokevirtual 540, 3) := by decide +kernel
theorem dX11_drums_75 : decode cX11_drums 75 = .ok (.if_icmp .gt 8, 3) := by decide +kernel
theorem dX11_drums_78 : decode cX11_drums 78 = .ok (.iload 4, 2) := by decide +kernel
theorem dX11_drums_80 : decode cX11_drums 80 = .ok (.goto 4, 3) := by decide +kernel
theorem dX11_drums_83 : decode cX11_drums 83 = .ok (.iconst (-1), 1) := by decide +kernel
theorem dX11_drums_84 : decode cX11_drums 84 = .ok (.ireturn, 1) := by decide +kernel
theorem dX11_end_0 : decode cX11_end 0 = .ok (.iload_n 1, 1) := by decide +kernel
theorem dX11_end_1 : decode cX11_end 1 = .ok (.ifCond .lt 11, 3) := by decide +kernel
theorem dX11_end_4 : decode cX11_end 4 = .ok (.iload_n 1, 1) := by decide +kernel
theorem dX11_end_5 : decode cX11_end 5 = .ok (.aload_n 0, 1) := by decide +kernel
theorem dX11_end_6 : decode cX11_end 6 = .ok (.getfield 221, 3) := by decide +kernel
theorem dX11_end_9 : decode cX11_end 9 = .ok (.if_icmp .le 5, 3) := by decide +kernel
theorem dX11_end_12 : decode cX11_end 12 = .ok (.iconst 0, 1) := by decide +kernel
theorem dX11_end_13 : decode cX11_end 13 = .ok (.ireturn, 1) := by decide +kernel
theorem dX11_end_14 : decode cX11_end 14 = .ok (.aload_n 0, 1) := by decide +kernel
theorem dX11_end_15 : decode cX11_end 15 = .ok (.iload_n 1, 1) := by decide +kernel
theorem dX11_end_16 : decode cX11_end 16 = .ok (.putfield 221, 3) := by decide +kernel
theorem dX11_end_19 : decode cX11_end 19 = .ok (.iconst 1, 1) := by decide +kernel
theorem dX11_end_20 : decode cX11_end 20 = .ok (.ireturn, 1) := by decide +kernel
theorem dX11_endOf_0 : decode cX11_endOf 0 = .ok (.aload_n 0, 1) := by decide +kernel
theorem dX11_endOf_1 : decode cX11_endOf 1 = .ok (.getfield 145, 3) := by decide +kernel
theorem dX11_endOf_4 : decode cX11_endOf 4 = .ok (.iload_n 1, 1) := by decide +kernel
theorem dX11_endOf_5 : decode cX11_endOf 5 = .ok (.iaload, 1) := by decide +kernel
theorem dX11_endOf_6 : decode cX11_endOf 6 = .ok (.ifCond .ne 7, 3) := by decide +kernel
theorem dX11_endOf_9 : decode cX11_endOf 9 = .ok (.iconst 0, 1) := by decide +kernel
theorem dX11_endOf_10 : decode cX11_endOf 10 = .ok (.goto 21, 3) := by decide +kernel
theorem dX11_endOf_13 : decode cX11_endOf 13 = .ok (.aload_n 0, 1) := by decide +kernel
theorem dX11_endOf_14 : decode cX11_endOf 14 = .ok (.getfield 154, 3) := by decide +kernel
theorem dX11_endOf_17 : decode cX11_endOf 17 = .ok (.bipush 24, 2) := by decide +kernel
theorem dX11_endOf_19 : decode cX11_endOf 19 = .ok (.iload_n 1, 1) := by decide +kernel
theorem dX11_endOf_20 : decode cX11_endOf 20 = .ok (.imul, 1) := by decide +kernel
theorem dX11_endOf_21 : decode cX11_endOf 21 = .ok (.aload_n 0, 1) := by decide +kernel
theorem dX11_endOf_22 : decode cX11_endOf 22 = .ok (.getfield 145, 3) := by decide +kernel
theorem dX11_endOf_25 : decode cX11_endOf 25 = .ok (.iload_n 1, 1) := by decide +kernel
theorem dX11_endOf_26 : decode cX11_endOf 26 = .ok (.iaload, 1) := by decide +kernel
theorem dX11_endOf_27 : decode cX11_endOf 27 = .ok (.iadd, 1) := by decide +kernel
theorem dX11_endOf_28 : decode cX11_endOf 28 = .ok (.iconst 1, 1) := by decide +kernel
theorem dX11_endOf_29 : decode cX11_endOf 29 = .ok (.isub, 1) := by decide +kernel
theorem dX11_endOf_30 : decode cX11_endOf 30 = .ok (.iaload, 1) := by decide +kernel
theorem dX11_endOf_31 : decode cX11_endOf 31 = .ok (.ireturn, 1) := by decide +kernel
theorem dX11_endsAt_0 : decode cX11_endsAt 0 = .ok (.aload_n 0, 1) := by decide +kernel
theorem dX11_endsAt_1 : decode cX11_endsAt 1 = .ok (.getfield 145, 3) := by decide +kernel
theorem dX11_endsAt_4 : decode cX11_endsAt 4 = .ok (.iload_n 1, 1) := by decide +kernel
theorem dX11_endsAt_5 : decode cX11_endsAt 5 = .ok (.iaload, 1) := by decide +kernel
theorem dX11_endsAt_6 : decode cX11_endsAt 6 = .ok (.ifCond .ne 14, 3) := by decide +kernel
theorem dX11_endsAt_9 : decode cX11_endsAt 9 = .ok (.aload_n 0, 1) := by decide +kernel
theorem dX11_endsAt_10 : decode cX11_endsAt 10 = .ok (.iload_n 1, 1) := by decide +kernel
theorem dX11_endsAt_11 : decode cX11_endsAt 11 = .ok (.invokestatic 453, 3) := by decide +kernel
theorem dX11_endsAt_14 : decode cX11_endsAt 14 = .ok (.invokevirtual 456, 3) := by decide +kernel
theorem dX11_endsAt_17 : decode cX11_endsAt 17 = .ok (.goto 21, 3) := by decide +kernel
theorem dX11_endsAt_20 : decode cX11_endsAt 20 = .ok (.aload_n 0, 1) := by decide +kernel
theorem dX11_endsAt_21 : decode cX11_endsAt 21 = .ok (.getfield 148, 3) := by decide +kernel
theorem dX11_endsAt_24 : decode cX11_endsAt 24 = .ok (.bipush 24, 2) := by decide +kernel
theorem dX11_endsAt_26 : decode cX11_endsAt 26 = .ok (.iload_n 1, 1) := by decide +kernel
theorem dX11_endsAt_27 : decode cX11_endsAt 27 = .ok (.imul, 1) := by decide +kernel
theorem dX11_endsAt_28 : decode cX11_endsAt 28 = .ok (.aload_n 0, 1) := by decide +kernel
theorem dX11_endsAt_29 : decode cX11_endsAt 29 = .ok (.getfield 145, 3) := by decide +kernel
theorem dX11_endsAt_32 : decode cX11_endsAt 32 = .ok (.iload_n 1, 1) := by decide +kernel
theorem dX11_endsAt_33 : decode cX11_endsAt 33 = .ok (.iaload, 1) := by decide +kernel
theorem dX11_endsAt_34 : decode cX11_endsAt 34 = .ok (.iadd, 1) := by decide +kernel
theorem dX11_endsAt_35 : decode cX11_endsAt 35 = .ok (.iconst 1, 1) := by decide +kernel
theorem dX11_endsAt_36 : decode cX11_endsAt 36 = .ok (.isub, 1) := by decide +kernel
theorem dX11_endsAt_37 : decode cX11_endsAt 37 = .ok (.iaload, 1) := by decide +kernel
theorem dX11_endsAt_38 : decode cX11_endsAt 38 = .ok (.ireturn, 1) := by decide +kernel
theorem dX11_endsTo_0 : decode cX11_endsTo 0 = .ok (.iconst 0, 1) := by decide +kernel
theorem dX11_endsTo_1 : decode cX11_endsTo 1 = .ok (.istore_n 3, 1) := by decide +kernel
theorem dX11_endsTo_2 : decode cX11_endsTo 2 = .ok (.iconst 0, 1) := by decide +kernel
theorem dX11_endsTo_3 : decode cX11_endsTo 3 = .ok (.istore 4, 2) := by decide +kernel
theorem dX11_endsTo_5 : decode cX11_endsTo 5 = .ok (.iload 4, 2) := by decide +kernel
theorem dX11_endsTo_7 : decode cX11_endsTo 7 = .ok (.iload_n 1, 1) := by decide +kernel
theorem dX11_endsTo_8 : decode cX11_endsTo 8 = .ok (.if_icmp .gt 32, 3) := by decide +kernel
theorem dX11_endsTo_11 : decode cX11_endsTo 11 = .ok (.iload_n 2, 1) := by decide +kernel
theorem dX11_endsTo_12 : decode cX11_endsTo 12 = .ok (.iload 4, 2) := by decide +kernel
theorem dX11_endsTo_14 : decode cX11_endsTo 14 = .ok (.ishr, 1) := by decide +kernel
theorem dX11_endsTo_15 : decode cX11_endsTo 15 = .ok (.iconst 1, 1) := by decide +kernel
theorem dX11_endsTo_16 : decode cX11_endsTo 16 = .ok (.iand, 1) := by decide +kernel
theorem dX11_endsTo_17 : decode cX11_endsTo 17 = .ok (.iconst 1, 1) := by decide +kernel
theorem dX11_endsTo_18 : decode cX11_endsTo 18 = .ok (.if_icmp .ne 16, 3) := by decide +kernel
theorem dX11_endsTo_21 : decode cX11_endsTo 21 = .ok (.iload_n 3, 1) := by decide +kernel
theorem dX11_endsTo_22 : decode cX11_endsTo 22 = .ok (.aload_n 0, 1) := by decide +kernel
theorem dX11_endsTo_23 : decode cX11_endsTo 23 = .ok (.aload_n 0, 1) := by decide +kernel
theorem dX11_endsTo_24 : decode cX11_endsTo 24 = .ok (.iload 4, 2) := by decide +kernel
theorem dX11_endsTo_26 : decode cX11_endsTo 26 = .ok (.invokevirtual 613, 3) := by decide +kernel
theorem dX11_endsTo_29 : decode cX11_endsTo 29 = .ok (.invokevirtual 459, 3) := by decide +kernel
theorem dX11_endsTo_32 : decode cX11_endsTo 32 = .ok (.iadd, 1) := by decide +kernel
theorem dX11_endsTo_33 : decode cX11_endsTo 33 = .ok (.istore_n 3, 1) := by decide +kernel
theorem dX11_endsTo_34 : decode cX11_endsTo 34 = .ok (.iinc 4 1, 3) := by decide +kernel
theorem dX11_endsTo_37 : decode cX11_endsTo 37 = .ok (.goto (-32), 3) := by decide +kernel
theorem dX11_endsTo_40 : decode cX11_endsTo 40 = .ok (.iload_n 3, 1) := by decide +kernel
theorem dX11_endsTo_41 : decode cX11_endsTo 41 = .ok (.ireturn, 1) := by decide +kernel
theorem dX11_everybody_0 : decode cX11_everybody 0 = .ok (.iconst 1, 1) := by decide +kernel
theorem dX11_everybody_1 : decode cX11_everybody 1 = .ok (.aload_n 0, 1) := by decide +kernel
theorem dX11_everybody_2 : decode cX11_everybody 2 = .ok (.invokevirtual 447, 3) := by decide +kernel
theorem dX11_everybody_5 : decode cX11_everybody 5 = .ok (.ishl, 1) := by decide +kernel
theorem dX11_everybody_6 : decode cX11_everybody 6 = .ok (.iconst 1, 1) := by decide +kernel
theorem dX11_everybody_7 : decode cX11_everybody 7 = .ok (.isub, 1) := by decide +kernel
theorem dX11_everybody_8 : decode cX11_everybody 8 = .ok (.ireturn, 1) := by decide +kernel
theorem dX11_exceptions_0 : decode cX11_exceptions 0 = .ok (.aload_n 0, 1) := by decide +kernel
theorem dX11_exceptions_1 : decode cX11_exceptions 1 = .ok (.getfield 99, 3) := by decide +kernel
theorem dX11_exceptions_4 : decode cX11_exceptions 4 = .ok (.bipush 9, 2) := by decide +kernel
theorem dX11_exceptions_6 : decode cX11_exceptions 6 = .ok (.iaload, 1) := by decide +kernel
theorem dX11_exceptions_7 : decode cX11_exceptions 7 = .ok (.ireturn, 1) := by decide +kernel
theorem dX11_fact_0 : decode cX11_fact 0 = .ok (.aload_n 0, 1) := by decide +kernel
theorem dX11_fact_1 : decode cX11_fact 1 = .ok (.aload_n 0, 1) := by decide +kernel
theorem dX11_fact_2 : decode cX11_fact 2 = .ok (.getfield 75, 3) := by decide +kernel
theorem dX11_fact_5 : decode cX11_fact 5 = .ok (.invokevirtual 251, 3) := by decide +kernel
theorem dX11_fact_8 : decode cX11_fact 8 = .ok (.ifCond .eq 10, 3) := by decide +kernel
theorem dX11_fact_11 : decode cX11_fact 11 = .ok (.aload_n 0, 1) := by decide +kernel
theorem dX11_fact_12 : decode cX11_fact 12 = .ok (.bipush 17, 2) := by decide +kernel
theorem dX11_fact_14 : decode cX11_fact 14 = .ok (.invokevirtual 370, 3) := by decide +kernel
theorem dX11_fact_17 : decode cX11_fact 17 = .ok (.return_, 1) := by decide +kernel
theorem dX11_fact_18 : decode cX11_fact 18 = .ok (.aload_n 0, 1) := by decide +kernel
theorem dX11_fact_19 : decode cX11_fact 19 = .ok (.invokevirtual 397, 3) := by decide +kernel
theorem dX11_fact_22 : decode cX11_fact 22 = .ok (.aload_n 0, 1) := by decide +kernel
theorem dX11_fact_23 : decode cX11_fact 23 = .ok (.getfield 224, 3) := by decide +kernel
theorem dX11_fact_26 : decode cX11_fact 26 = .ok (.ifCond .eq 4, 3) := by decide +kernel
theorem dX11_fact_29 : decode cX11_fact 29 = .ok (.return_, 1) := by decide +kernel
theorem dX11_fact_30 : decode cX11_fact 30 = .ok (.aload_n 0, 1) := by decide +kernel
theorem dX11_fact_31 : decode cX11_fact 31 = .ok (.invokevirtual 236, 3) := by decide +kernel
theorem dX11_fact_34 : decode cX11_fact 34 = .ok (.istore_n 1, 1) := by decide +kernel
theorem dX11_fact_35 : decode cX11_fact 35 = .ok (.iload_n 1, 1) := by decide +kernel
theorem dX11_fact_36 : decode cX11_fact 36 = .ok (.bipush 60, 2) := by decide +kernel
theorem dX11_fact_38 : decode cX11_fact 38 = .ok (.if_icmp .eq 25, 3) := by decide +kernel
theorem dX11_fact_41 : decode cX11_fact 41 = .ok (.iload_n 1, 1) := by decide +kernel
theorem dX11_fact_42 : decode cX11_fact 42 = .ok (.bipush 62, 2) := by decide +kernel
theorem dX11_fact_44 : decode cX11_fact 44 = .ok (.if_icmp .eq 19, 3) := by decide +kernel
theorem dX11_fact_47 : decode cX11_fact 47 = .ok (.iload_n 1, 1) := by decide +kernel
theorem dX11_fact_48 : decode cX11_fact 48 = .ok (.bipush 61, 2) := by decide +kernel
theorem dX11_fact_50 : decode cX11_fact 50 = .ok (.if_icmp .eq 13, 3) := by decide +kernel
theorem dX11_fact_53 : decode cX11_fact 53 = .ok (.aload_n 0, 1) := by decide +kernel
theorem dX11_fact_54 : decode cX11_fact 54 = .ok (.iconst 1, 1) := by decide +kernel
theorem dX11_fact_55 : decode cX11_fact 55 = .ok (.aload_n 0, 1) := by decide +kernel
theorem dX11_fact_56 : decode cX11_fact 56 = .ok (.getfield 230, 3) := by decide +kernel
theorem dX11_fact_59 : decode cX11_fact 59 = .ok (.invokevirtual 254, 3) := by decide +kernel
theorem dX11_fact_62 : decode cX11_fact 62 = .ok (.return_, 1) := by decide +kernel
theorem dX11_fact_63 : decode cX11_fact 63 = .ok (.aload_n 0, 1) := by decide +kernel
theorem dX11_fact_64 : decode cX11_fact 64 = .ok (.dup, 1) := by decide +kernel
theorem dX11_fact_65 : decode cX11_fact 65 = .ok (.getfield 230, 3) := by decide +kernel
theorem dX11_fact_68 : decode cX11_fact 68 = .ok (.iconst 1, 1) := by decide +kernel
theorem dX11_fact_69 : decode cX11_fact 69 = .ok (.iadd, 1) := by decide +kernel
theorem dX11_fact_70 : decode cX11_fact 70 = .ok (.putfield 230, 3) := by decide +kernel
theorem dX11_fact_73 : decode cX11_fact 73 = .ok (.aload_n 0, 1) := by decide +kernel
theorem dX11_fact_74 : decode cX11_fact 74 = .ok (.invokevirtual 397, 3) := by decide +kernel
theorem dX11_fact_77 : decode cX11_fact 77 = .ok (.aload_n 0, 1) := by decide +kernel
theorem dX11_fact_78 : decode cX11_fact 78 = .ok (.iload_n 1, 1) := by decide +kernel
theorem dX11_fact_79 : decode cX11_fact 79 = .ok (.bipush 60, 2) := by decide +kernel
theorem dX11_fact_81 : decode cX11_fact 81 = .ok (.if_icmp .ne 8, 3) := by decide +kernel
theorem dX11_fact_84 : decode cX11_fact 84 = .ok (.bipush 11, 2) := by decide +kernel
theorem dX11_fact_86 : decode cX11_fact 86 = .ok (.goto 16, 3) := by decide +kernel
theorem dX11_fact_89 : decode cX11_fact 89 = .ok (.iload_n 1, 1) := by decide +kernel
theorem dX11_fact_90 : decode cX11_fact 90 = .ok (.bipush 62, 2) := by decide +kernel
theorem dX11_fact_92 : decode cX11_fact 92 = .ok (.if_icmp .ne 8, 3) := by decide +kernel
theorem dX11_fact_95 : decode cX11_fact 95 = .ok (.bipush 12, 2) := by decide +kernel
theorem dX11_fact_97 : decode cX11_fact 97 = .ok (.goto 5, 3) := by decide +kernel
theorem dX11_fact_100 : decode cX11_fact 100 = .ok (.bipush 13, 2) := by decide +kernel
theorem dX11_fact_102 : decode cX11_fact 102 = .ok (.invokevirtual 370, 3) := by decide +kernel
theorem dX11_fact_105 : decode cX11_fact 105 = .ok (.return_, 1) := by decide +kernel
theorem dX11_fail_0 : decode cX11_fail 0 = .ok (.aload_n 0, 1) := by decide +kernel
theorem dX11_fail_1 : decode cX11_fail 1 = .ok (.getfield 224, 3) := by decide +kernel
theorem dX11_fail_4 : decode cX11_fail 4 = .ok (.ifCond .eq 4, 3) := by decide +kernel
theorem dX11_fail_7 : decode cX11_fail 7 = .ok (.return_, 1) := by decide +kernel
theorem dX11_fail_8 : decode cX11_fail 8 = .ok (.aload_n 0, 1) := by decide +kernel
theorem dX11_fail_9 : decode cX11_fail 9 = .ok (.iload_n 1, 1) := by decide +kernel
theorem dX11_fail_10 : decode cX11_fail 10 = .ok (.putfield 224, 3) := by decide +kernel
theorem dX11_fail_13 : decode cX11_fail 13 = .ok (.aload_n 0, 1) := by decide +kernel
theorem dX11_fail_14 : decode cX11_fail 14 = .ok (.iload_n 2, 1) := by decide +kernel
theorem dX11_fail_15 : decode cX11_fail 15 = .ok (.putfield 227, 3) := by decide +kernel
theorem dX11_fail_18 : decode cX11_fail 18 = .ok (.return_, 1) := by decide +kernel
theorem dX11_fault_0 : decode cX11_fault 0 = .ok (.iload_n 1, 1) := by decide +kernel
theorem dX11_fault_1 : decode cX11_fault 1 = .ok (.ifCond .ne 10, 3) := by decide +kernel
theorem dX11_fault_4 : decode cX11_fault 4 = .ok (.aload_n 0, 1) := by decide +kernel
theorem dX11_fault_5 : decode cX11_fault 5 = .ok (.getfield 352, 3) := by decide +kernel
theorem dX11_fault_8 : decode cX11_fault 8 = .ok (.goto 16, 3) := by decide +kernel
theorem dX11_fault_11 : decode cX11_fault 11 = .ok (.iload_n 1, 1) := by decide +kernel
theorem dX11_fault_12 : decode cX11_fault 12 = .ok (.iconst 1, 1) := by decide +kernel
theorem dX11_fault_13 : decode cX11_fault 13 = .ok (.if_icmp .ne 10, 3) := by decide +kernel
theorem dX11_fault_16 : decode cX11_fault 16 = .ok (.aload_n 0, 1) := by decide +kernel
theorem dX11_fault_17 : decode cX11_fault 17 = .ok (.getfield 13, 3) := by decide +kernel
theorem dX11_fault_20 : decode cX11_fault 20 = .ok (.goto 4, 3) := by decide +kernel
theorem dX11_fault_23 : decode cX11_fault 23 = .ok (.iconst (-1), 1) := by decide +kernel
theorem dX11_fault_24 : decode cX11_fault 24 = .ok (.ireturn, 1) := by decide +kernel
theorem dX11_feed_0 : decode cX11_feed 0 = .ok (.aload_n 0, 1) := by decide +kernel
theorem dX11_feed_1 : decode cX11_feed 1 = .ok (.getfield 221, 3) := by decide +kernel
theorem dX11_feed_4 : decode cX11_feed 4 = .ok (.bipush 20, 2) := by decide +kernel
theorem dX11_feed_6 : decode cX11_feed 6 = .ok (.iadd, 1) := by decide +kernel
theorem dX11_feed_7 : decode cX11_feed 7 = .ok (.sipush 1600, 3) := by decide +kernel
theorem dX11_feed_10 : decode cX11_feed 10 = .ok (.if_icmp .le 5, 3) := by decide +kernel
theorem dX11_feed_13 : decode cX11_feed 13 = .ok (.iconst (-1), 1) := by decide +kernel
theorem dX11_feed_14 : decode cX11_feed 14 = .ok (.ireturn, 1) := by decide +kernel
theorem dX11_feed_15 : decode cX11_feed 15 = .ok (.iconst 0, 1) := by decide +kernel
theorem dX11_feed_16 : decode cX11_feed 16 = .ok (.istore 6, 2) := by decide +kernel
theorem dX11_feed_18 : decode cX11_feed 18 = .ok (.iload 6, 2) := by decide +kernel
theorem dX11_feed_20 : decode cX11_feed 20 = .ok (.bipush 20, 2) := by decide +kernel
theorem dX11_feed_22 : decode cX11_feed 22 = .ok (.if_icmp .ge 92, 3) := by decide +kernel
theorem dX11_feed_25 : decode cX11_feed 25 = .ok (.iload 6, 2) := by decide +kernel
theorem dX11_feed_27 : decode cX11_feed 27 = .ok (.iconst 4, 1) := by decide +kernel
theorem dX11_feed_28 : decode cX11_feed 28 = .ok (.if_icmp .ge 7, 3) := by decide +kernel
theorem dX11_feed_31 : decode cX11_feed 31 = .ok (.iload_n 1, 1) := by decide +kernel
theorem dX11_feed_32 : decode cX11_feed 32 = .ok (.goto 39, 3) := by decide +kernel
theorem dX11_feed_35 : decode cX11_feed 35 = .ok (.iload 6, 2) := by decide +kernel
theorem dX11_feed_37 : decode cX11_feed 37 = .ok (.bipush 8, 2) := by decide +kernel
theorem dX11_feed_39 : decode cX11_feed 39 = .ok (.if_icmp .ge 7, 3) := by decide +kernel
theorem dX11_feed_42 : decode cX11_feed 42 = .ok (.iload_n 2, 1) := by decide +kernel
theorem dX11_feed_43 : decode cX11_feed 43 = .ok (.goto 28, 3) := by decide +kernel
theorem dX11_feed_46 : decode cX11_feed 46 = .ok (.iload 6, 2) := by decide +kernel
theorem dX11_feed_48 : decode cX11_feed 48 = .ok (.bipush 12, 2) := by decide +kernel
theorem dX11_feed_50 : decode cX11_feed 50 = .ok (.if_icmp .ge 7, 3) := by decide +kernel
theorem dX11_feed_53 : decode cX11_feed 53 = .ok (.iload_n 3, 1) := by decide +kernel
theorem dX11_feed_54 : decode cX11_feed 54 = .ok (.goto 17, 3) := by decide +kernel
theorem dX11_feed_57 : decode cX11_feed 57 = .ok (.iload 6, 2) := by decide +kernel
theorem dX11_feed_59 : decode cX11_feed 59 = .ok (.bipush 16, 2) := by decide +kernel
theorem dX11_feed_61 : decode cX11_feed 61 = .ok (.if_icmp .ge 8, 3) := by decide +kernel
theorem dX11_feed_64 : decode cX11_feed 64 = .ok (.iload 4, 2) := by decide +kernel
theorem dX11_feed_66 : decode cX11_feed 66 = .ok (.goto 5, 3) := by decide +kernel
theorem dX11_feed_69 : decode cX11_feed 69 = .ok (.iload 5, 2) := by decide +kernel
theorem dX11_feed_71 : decode cX11_feed 71 = .ok (.istore 7, 2) := by decide +kernel
theorem dX11_feed_73 : decode cX11_feed 73 = .ok (.aload_n 0, 1) := by decide +kernel
theorem dX11_feed_74 : decode cX11_feed 74 = .ok (.getfield 7, 3) := by decide +kernel
theorem dX11_feed_77 : decode cX11_feed 77 = .ok (.aload_n 0, 1) := by decide +kernel
theorem dX11_feed_78 : decode cX11_feed 78 = .ok (.getfield 221, 3) := by decide +kernel
theorem dX11_feed_81 : decode cX11_feed 81 = .ok (.iload 7, 2) := by decide +kernel
theorem dX11_feed_83 : decode cX11_feed 83 = .ok (.bipush 8, 2) := by decide +kernel
theorem dX11_feed_85 : decode cX11_feed 85 = .ok (.iconst 3, 1) := by decide +kernel
theorem dX11_feed_86 : decode cX11_feed 86 = .ok (.iload 6, 2) := by decide +kernel
theorem dX11_feed_88 : decode cX11_feed 88 = .ok (.iconst 4, 1) := by decide +kernel
theorem dX11_feed_89 : decode cX11_feed 89 = .ok (.irem, 1) := by decide +kernel
theorem dX11_feed_90 : decode cX11_feed 90 = .ok (.isub, 1) := by decide +kernel
theorem dX11_feed_91 : decode cX11_feed 91 = .ok (.imul, 1) := by decide +kernel
theorem dX11_feed_92 : decode cX11_feed 92 = .ok (.ishr, 1) := by decide +kernel
theorem dX11_feed_93 : decode cX11_feed 93 = .ok (.sipush 255, 3) := by decide +kernel
theorem dX11_feed_96 : decode cX11_feed 96 = .ok (.iand, 1) := by decide +kernel
theorem dX11_feed_97 : decode cX11_feed 97 = .ok (.iastore, 1) := by decide +kernel
theorem dX11_feed_98 : decode cX11_feed 98 = .ok (.aload_n 0, 1) := by decide +kernel
theorem dX11_feed_99 : decode cX11_feed 99 = .ok (.dup, 1) := by decide +kernel
theorem dX11_feed_100 : decode cX11_feed 100 = .ok (.getfield 221, 3) := by decide +kernel
theorem dX11_feed_103 : decode cX11_feed 103 = .ok (.iconst 1, 1) := by decide +kernel
theorem dX11_feed_104 : decode cX11_feed 104 = .ok (.iadd, 1) := by decide +kernel
theorem dX11_feed_105 : decode cX11_feed 105 = .ok (.putfield 221, 3) := by decide +kernel
theorem dX11_feed_108 : decode cX11_feed 108 = .ok (.iinc 6 1, 3) := by decide +kernel
theorem dX11_feed_111 : decode cX11_feed 111 = .ok (.goto (-93), 3) := by decide +kernel
theorem dX11_feed_114 : decode cX11_feed 114 = .ok (.aload_n 0, 1) := by decide +kernel
theorem dX11_feed_115 : decode cX11_feed 115 = .ok (.getfield 221, 3) := by decide +kernel
theorem dX11_feed_118 : decode cX11_feed 118 = .ok (.ireturn, 1) := by decide +kernel
theorem dX11_fits_0 : decode cX11_fits 0 = .ok (.aload_n 0, 1) := by decide +kernel
theorem dX11_fits_1 : decode cX11_fits 1 = .ok (.getfield 200, 3) := by decide +kernel
theorem dX11_fits_4 : decode cX11_fits 4 = .ok (.iload_n 1, 1) := by decide +kernel
theorem dX11_fits_5 : decode cX11_fits 5 = .ok (.iaload, 1) := by decide +kernel
theorem dX11_fits_6 : decode cX11_fits 6 = .ok (.ifCond .ne 17, 3) := by decide +kernel
theorem dX11_fits_9 : decode cX11_fits 9 = .ok (.iload_n 3, 1) := by decide +kernel
theorem dX11_fits_10 : decode cX11_fits 10 = .ok (.ifCond .eq 11, 3) := by decide +kernel
theorem dX11_fits_13 : decode cX11_fits 13 = .ok (.aload_n 0, 1) := by decide +kernel
theorem dX11_fits_14 : decode cX11_fits 14 = .ok (.iload_n 1, 1) := by decide +kernel
theorem dX11_fits_15 : decode cX11_fits 15 = .ok (.invokevirtual 610, 3) := by decide +kernel
theorem dX11_fits_18 : decode cX11_fits 18 = .ok (.ifCond .ne 5, 3) := by decide +kernel
theorem dX11_fits_21 : decode cX11_fits 21 = .ok (.iconst 0, 1) := by decide +kernel
theorem dX11_fits_22 : decode cX11_fits 22 = .ok (.ireturn, 1) := by decide +kernel
theorem dX11_fits_23 : decode cX11_fits 23 = .ok (.iconst 0, 1) := by decide +kernel
theorem dX11_fits_24 : decode cX11_fits 24 = .ok (.istore 4, 2) := by decide +kernel
theorem dX11_fits_26 : decode cX11_fits 26 = .ok (.iload 4, 2) := by decide +kernel
theorem dX11_fits_28 : decode cX11_fits 28 = .ok (.iload_n 1, 1) := by decide +kernel
theorem dX11_fits_29 : decode cX11_fits 29 = .ok (.if_icmp .ge 39, 3) := by decide +kernel
theorem dX11_fits_32 : decode cX11_fits 32 = .ok (.iload_n 2, 1) := by decide +kernel
theorem dX11_fits_33 : decode cX11_fits 33 = .ok (.iload 4, 2) := by decide +kernel
theorem dX11_fits_35 : decode cX11_fits 35 = .ok (.ishr, 1) := by decide +kernel
theorem dX11_fits_36 : decode cX11_fits 36 = .ok (.iconst 1, 1) := by decide +kernel
theorem dX11_fits_37 : decode cX11_fits 37 = .ok (.iand, 1) := by decide +kernel
theorem dX11_fits_38 : decode cX11_fits 38 = .ok (.iconst 1, 1) := by decide +kernel
theorem dX11_fits_39 : decode cX11_fits 39 = .ok (.if_icmp .ne 23, 3) := by decide +kernel
theorem dX11_fits_42 : decode cX11_fits 42 = .ok (.aload_n 0, 1) := by decide +kernel
theorem dX11_fits_43 : decode cX11_fits 43 = .ok (.aload_n 0, 1) := by decide +kernel
theorem dX11_fits_44 : decode cX11_fits 44 = .ok (.iload 4, 2) := by decide +kernel
theorem dX11_fits_46 : decode cX11_fits 46 = .ok (.invokevirtual 613, 3) := by decide +kernel
theorem dX11_fits_49 : decode cX11_fits 49 = .ok (.aload_n 0, 1) := by decide +kernel
theorem dX11_fits_50 : decode cX11_fits 50 = .ok (.iload_n 1, 1) := by decide +kernel
theorem dX11_fits_51 : decode cX11_fits 51 = .ok (.invokevirtual 613, 3) := by decide +kernel
theorem dX11_fits_54 : decode cX11_fits 54 = .ok (.invokevirtual 616, 3) := by decide +kernel
theorem dX11_fits_57 : decode cX11_fits 57 = .ok (.ifCond .ne 5, 3) := by decide +kernel
theorem dX11_fits_60 : decode cX11_fits 60 = .ok (.iconst 0, 1) := by decide +kernel
theorem dX11_fits_61 : decode cX11_fits 61 = .ok (.ireturn, 1) := by decide +kernel
theorem dX11_fits_62 : decode cX11_fits 62 = .ok (.iinc 4 1, 3) := by decide +kernel
theorem dX11_fits_65 : decode cX11_fits 65 = .ok (.goto (-39), 3) := by decide +kernel
theorem dX11_fits_68 : decode cX11_fits 68 = .ok (.iconst 1, 1) := by decide +kernel
theorem dX11_fits_69 : decode cX11_fits 69 = .ok (.ireturn, 1) := by decide +kernel
theorem dX11_floor_0 : decode cX11_floor 0 = .ok (.lload_n 2, 1) := by decide +kernel
theorem dX11_floor_1 : decode cX11_floor 1 = .ok (.lconst 0, 1) := by decide +kernel
theorem dX11_floor_2 : decode cX11_floor 2 = .ok (.lcmp, 1) := by decide +kernel
theorem dX11_floor_3 : decode cX11_floor 3 = .ok (.ifCond .ne 5, 3) := by decide +kernel
theorem dX11_floor_6 : decode cX11_floor 6 = .ok (.lconst 0, 1) := by decide +kernel
theorem dX11_floor_7 : decode cX11_floor 7 = .ok (.lreturn, 1) := by decide +kernel
theorem dX11_floor_8 : decode cX11_floor 8 = .ok (.lload_n 0, 1) := by decide +kernel
theorem dX11_floor_9 : decode cX11_floor 9 = .ok (.lload_n 2, 1) := by decide +kernel
theorem dX11_floor_10 : decode cX11_floor 10 = .ok (.ldiv, 1) := by decide +kernel
theorem dX11_floor_11 : decode cX11_floor 11 = .ok (.lstore 4, 2) := by decide +kernel
theorem dX11_floor_13 : decode cX11_floor 13 = .ok (.lload_n 0, 1) := by decide +kernel
theorem dX11_floor_14 : decode cX11_floor 14 = .ok (.lload_n 2, 1) := by decide +kernel
theorem dX11_floor_15 : decode cX11_floor 15 = .ok (.lrem, 1) := by decide +kernel
theorem dX11_floor_16 : decode cX11_floor 16 = .ok (.lconst 0, 1) := by decide +kernel
theorem dX11_floor_17 : decode cX11_floor 17 = .ok (.lcmp, 1) := by decide +kernel
theorem dX11_floor_18 : decode cX11_floor 18 = .ok (.ifCond .eq 35, 3) := by decide +kernel
theorem dX11_floor_21 : decode cX11_floor 21 = .ok (.lload_n 0, 1) := by decide +kernel
theorem dX11_floor_22 : decode cX11_floor 22 = .ok (.lconst 0, 1) := by decide +kernel
theorem dX11_floor_23 : decode cX11_floor 23 = .ok (.lcmp, 1) := by decide +kernel
theorem dX11_floor_24 : decode cX11_floor 24 = .ok (.ifCond .ge 7, 3) := by decide +kernel
theorem dX11_floor_27 : decode cX11_floor 27 = .ok (.iconst 1, 1) := by decide +kernel
theorem dX11_floor_28 : decode cX11_floor 28 = .ok (.goto 4, 3) := by decide +kernel
theorem dX11_floor_31 : decode cX11_floor 31 = .ok (.iconst 0, 1) := by decide +kernel
theorem dX11_floor_32 : decode cX11_floor 32 = .ok (.lload_n 2, 1) := by decide +kernel
theorem dX11_floor_33 : decode cX11_floor 33 = .ok (.lconst 0, 1) := by decide +kernel
theorem dX11_floor_34 : decode cX11_floor 34 = .ok (.lcmp, 1) := by decide +kernel
theorem dX11_floor_35 : decode cX11_floor 35 = .ok (.ifCond .ge 7, 3) := by decide +kernel
theorem dX11_floor_38 : decode cX11_floor 38 = .ok (.iconst 1, 1) := by decide +kernel
theorem dX11_floor_39 : decode cX11_floor 39 = .ok (.goto 4, 3) := by decide +kernel
theorem dX11_floor_42 : decode cX11_floor 42 = .ok (.iconst 0, 1) := by decide +kernel
theorem dX11_floor_43 : decode cX11_floor 43 = .ok (.if_icmp .eq 10, 3) := by decide +kernel
theorem dX11_floor_46 : decode cX11_floor 46 = .ok (.lload 4, 2) := by decide +kernel
theorem dX11_floor_48 : decode cX11_floor 48 = .ok (.lconst 1, 1) := by decide +kernel
theorem dX11_floor_49 : decode cX11_floor 49 = .ok (.lsub, 1) := by decide +kernel
theorem dX11_floor_50 : decode cX11_floor 50 = .ok (.goto 5, 3) := by decide +kernel
theorem dX11_floor_53 : decode cX11_floor 53 = .ok (.lload 4, 2) := by decide +kernel
theorem dX11_floor_55 : decode cX11_floor 55 = .ok (.lreturn, 1) := by decide +kernel
theorem dX11_fromOf_0 : decode cX11_fromOf 0 = .ok (.iload_n 2, 1) := by decide +kernel
theorem dX11_fromOf_1 : decode cX11_fromOf 1 = .ok (.ifCond .ne 14, 3) := by decide +kernel
theorem dX11_fromOf_4 : decode cX11_fromOf 4 = .ok (.aload_n 0, 1) := by decide +kernel
theorem dX11_fromOf_5 : decode cX11_fromOf 5 = .ok (.iload_n 1, 1) := by decide +kernel
theorem dX11_fromOf_6 : decode cX11_fromOf 6 = .ok (.invokestatic 453, 3) := by decide +kernel
theorem dX11_fromOf_9 : decode cX11_fromOf 9 = .ok (.invokevirtual 456, 3) := by decide +kernel
theorem dX11_fromOf_12 : decode cX11_fromOf 12 = .ok (.goto 16, 3) := by decide +kernel
theorem dX11_fromOf_15 : decode cX11_fromOf 15 = .ok (.aload_n 0, 1) := by decide +kernel
theorem dX11_fromOf_16 : decode cX11_fromOf 16 = .ok (.getfield 148, 3) := by decide +kernel
theorem dX11_fromOf_19 : decode cX11_fromOf 19 = .ok (.bipush 24, 2) := by decide +kernel
theorem dX11_fromOf_21 : decode cX11_fromOf 21 = .ok (.iload_n 1, 1) := by decide +kernel
theorem dX11_fromOf_22 : decode cX11_fromOf 22 = .ok (.imul, 1) := by decide +kernel
theorem dX11_fromOf_23 : decode cX11_fromOf 23 = .ok (.iload_n 2, 1) := by decide +kernel
theorem dX11_fromOf_24 : decode cX11_fromOf 24 = .ok (.iadd, 1) := by decide +kernel
theorem dX11_fromOf_25 : decode cX11_fromOf 25 = .ok (.iconst 1, 1) := by decide +kernel
theorem dX11_fromOf_26 : decode cX11_fromOf 26 = .ok (.isub, 1) := by decide +kernel
theorem dX11_fromOf_27 : decode cX11_fromOf 27 = .ok (.iaload, 1) := by decide +kernel
theorem dX11_fromOf_28 : decode cX11_fromOf 28 = .ok (.ireturn, 1) := by decide +kernel
theorem dX11_getsBeside_0 : decode cX11_getsBeside 0 = .ok (.aload_n 0, 1) := by decide +kernel
theorem dX11_getsBeside_1 : decode cX11_getsBeside 1 = .ok (.getfield 206, 3) := by decide +kernel
theorem dX11_getsBeside_4 : decode cX11_getsBeside 4 = .ok (.iload_n 1, 1) := by decide +kernel
theorem dX11_getsBeside_5 : decode cX11_getsBeside 5 = .ok (.iaload, 1) := by decide +kernel
theorem dX11_getsBeside_6 : decode cX11_getsBeside 6 = .ok (.istore_n 2, 1) := by decide +kernel
theorem dX11_getsBeside_7 : decode cX11_getsBeside 7 = .ok (.iconst (-1), 1) := by decide +kernel
theorem dX11_getsBeside_8 : decode cX11_getsBeside 8 = .ok (.istore_n 3, 1) := by decide +kernel
theorem dX11_getsBeside_9 : decode cX11_getsBeside 9 = .ok (.iconst 0, 1) := by decide +kernel
theorem dX11_getsBeside_10 : decode cX11_getsBeside 10 = .ok (.istore 4, 2) := by decide +kernel
theorem dX11_getsBeside_12 : decode cX11_getsBeside 12 = .ok (.iload 4, 2) := by decide +kernel
theorem dX11_getsBeside_14 : decode cX11_getsBeside 14 = .ok (.aload_n 0, 1) := by decide +kernel
theorem dX11_getsBeside_15 : decode cX11_getsBeside 15 = .ok (.iload_n 2, 1) := by decide +kernel
theorem dX11_getsBeside_16 : decode cX11_getsBeside 16 = .ok (.invokevirtual 641, 3) := by decide +kernel
theorem dX11_getsBeside_19 : decode cX11_getsBeside 19 = .ok (.if_icmp .ge 105, 3) := by decide +kernel
theorem dX11_getsBeside_22 : decode cX11_getsBeside 22 = .ok (.iload_n 2, 1) := by decide +kernel
theorem dX11_getsBeside_23 : decode cX11_getsBeside 23 = .ok (.iload 4, 2) := by decide +kernel
theorem dX11_getsBeside_25 : decode cX11_getsBeside 25 = .ok (.invokestatic 604, 3) := by decide +kernel
theorem dX11_getsBeside_28 : decode cX11_getsBeside 28 = .ok (.istore 5, 2) := by decide +kernel
theorem dX11_getsBeside_30 : decode cX11_getsBeside 30 = .ok (.iload_n 3, 1) := by decide +kernel
theorem dX11_getsBeside_31 : decode cX11_getsBeside 31 = .ok (.iconst (-1), 1) := by decide +kernel
theorem dX11_getsBeside_32 : decode cX11_getsBeside 32 = .ok (.if_icmp .eq 17, 3) := by decide +kernel
theorem dX11_getsBeside_35 : decode cX11_getsBeside 35 = .ok (.aload_n 0, 1) := by decide +kernel
theorem dX11_getsBeside_36 : decode cX11_getsBeside 36 = .ok (.iload 5, 2) := by decide +kernel
theorem dX11_getsBeside_38 : decode cX11_getsBeside 38 = .ok (.invokevirtual 459, 3) := by decide +kernel
theorem dX11_getsBeside_41 : decode cX11_getsBeside 41 = .ok (.aload_n 0, 1) := by decide +kernel
theorem dX11_getsBeside_42 : decode cX11_getsBeside 42 = .ok (.iload_n 3, 1) := by decide +kernel
theorem dX11_getsBeside_43 : decode cX11_getsBeside 43 = .ok (.invokevirtual 459, 3) := by decide +kernel
theorem dX11_getsBeside_46 : decode cX11_getsBeside 46 = .ok (.if_icmp .ge 7, 3) := by decide +kernel
theorem dX11_getsBeside_49 : decode cX11_getsBeside 49 = .ok (.iconst 1, 1) := by decide +kernel
theorem dX11_getsBeside_50 : decode cX11_getsBeside 50 = .ok (.goto 4, 3) := by decide +kernel
theorem dX11_getsBeside_53 : decode cX11_getsBeside 53 = .ok (.iconst 0, 1) := by decide +kernel
theorem dX11_getsBeside_54 : decode cX11_getsBeside 54 = .ok (.istore 6, 2) := by decide +kernel
theorem dX11_getsBeside_56 : decode cX11_getsBeside 56 = .ok (.iconst 0, 1) := by decide +kernel
theorem dX11_getsBeside_57 : decode cX11_getsBeside 57 = .ok (.istore 7, 2) := by decide +kernel
theorem dX11_getsBeside_59 : decode cX11_getsBeside 59 = .ok (.iload 7, 2) := by decide +kernel
theorem dX11_getsBeside_61 : decode cX11_getsBeside 61 = .ok (.iload_n 1, 1) := by decide +kernel
theorem dX11_getsBeside_62 : decode cX11_getsBeside 62 = .ok (.if_icmp .ge 48, 3) := by decide +kernel
theorem dX11_getsBeside_65 : decode cX11_getsBeside 65 = .ok (.iload 6, 2) := by decide +kernel
theorem dX11_getsBeside_67 : decode cX11_getsBeside 67 = .ok (.ifCond .eq 43, 3) := by decide +kernel
theorem dX11_getsBeside_70 : decode cX11_getsBeside 70 = .ok (.aload_n 0, 1) := by decide +kernel
theorem dX11_getsBeside_71 : decode cX11_getsBeside 71 = .ok (.getfield 209, 3) := by decide +kernel
theorem dX11_getsBeside_74 : decode cX11_getsBeside 74 = .ok (.iload 7, 2) := by decide +kernel
theorem dX11_getsBeside_76 : decode cX11_getsBeside 76 = .ok (.iaload, 1) := by decide +kernel
theorem dX11_getsBeside_77 : decode cX11_getsBeside 77 = .ok (.iconst (-1), 1) := by decide +kernel
theorem dX11_getsBeside_78 : decode cX11_getsBeside 78 = .ok (.if_icmp .eq 19, 3) := by decide +kernel
theorem dX11_getsBeside_81 : decode cX11_getsBeside 81 = .ok (.aload_n 0, 1) := by decide +kernel
theorem dX11_getsBeside_82 : decode cX11_getsBeside 82 = .ok (.aload_n 0, 1) := by decide +kernel
theorem dX11_getsBeside_83 : decode cX11_getsBeside 83 = .ok (.getfield 209, 3) := by decide +kernel
theorem dX11_getsBeside_86 : decode cX11_getsBeside 86 = .ok (.iload 7, 2) := by decide +kernel
theorem dX11_getsBeside_88 : decode cX11_getsBeside 88 = .ok (.iaload, 1) := by decide +kernel
theorem dX11_getsBeside_89 : decode cX11_getsBeside 89 = .ok (.iload 5, 2) := by decide +kernel
theorem dX11_getsBeside_91 : decode cX11_getsBeside 91 = .ok (.invokevirtual 616, 3) := by decide +kernel
theorem dX11_getsBeside_94 : decode cX11_getsBeside 94 = .ok (.ifCond .eq 7, 3) := by decide +kernel
theorem dX11_getsBeside_97 : decode cX11_getsBeside 97 = .ok (.iconst 1, 1) := by decide +kernel
theorem dX11_getsBeside_98 : decode cX11_getsBeside 98 = .ok (.goto 4, 3) := by decide +kernel
theorem dX11_getsBeside_101 : decode cX11_getsBeside 101 = .ok (.iconst 0, 1) := by decide +kernel
theorem dX11_getsBeside_102 : decode cX11_getsBeside 102 = .ok (.istore 6, 2) := by decide +kernel
theorem dX11_getsBeside_104 : decode cX11_getsBeside 104 = .ok (.iinc 7 1, 3) := by decide +kernel
theorem dX11_getsBeside_107 : decode cX11_getsBeside 107 = .ok (.goto (-48), 3) := by decide +kernel
theorem dX11_getsBeside_110 : decode cX11_getsBeside 110 = .ok (.iload 6, 2) := by decide +kernel
theorem dX11_getsBeside_112 : decode cX11_getsBeside 112 = .ok (.ifCond .eq 6, 3) := by decide +kernel
theorem dX11_getsBeside_115 : decode cX11_getsBeside 115 = .ok (.iload 5, 2) := by decide +kernel
theorem dX11_getsBeside_117 : decode cX11_getsBeside 117 = .ok (.istore_n 3, 1) := by decide +kernel
theorem dX11_getsBeside_118 : decode cX11_getsBeside 118 = .ok (.iinc 4 1, 3) := by decide +kernel
theorem dX11_getsBeside_121 : decode cX11_getsBeside 121 = .ok (.goto (-109), 3) := by decide +kernel
theorem dX11_getsBeside_124 : decode cX11_getsBeside 124 = .ok (.iload_n 3, 1) := by decide +kernel
theorem dX11_getsBeside_125 : decode cX11_getsBeside 125 = .ok (.ireturn, 1) := by decide +kernel
theorem dX11_go_0 : decode cX11_go 0 = .ok (.aload_n 0, 1) := by decide +kernel
theorem dX11_go_1 : decode cX11_go 1 = .ok (.iload_n 1, 1) := by decide +kernel
theorem dX11_go_2 : decode cX11_go 2 = .ok (.invokevirtual 481, 3) := by decide +kernel
theorem dX11_go_5 : decode cX11_go 5 = .ok (.ifCond .eq 11, 3) := by decide +kernel
theorem dX11_go_8 : decode cX11_go 8 = .ok (.aload_n 0, 1) := by decide +kernel
theorem dX11_go_9 : decode cX11_go 9 = .ok (.iload_n 2, 1) := by decide +kernel
theorem dX11_go_10 : decode cX11_go 10 = .ok (.invokevirtual 478, 3) := by decide +kernel
theorem dX11_go_13 : decode cX11_go 13 = .ok (.ifCond .ne 5, 3) := by decide +kernel
theorem dX11_go_16 : decode cX11_go 16 = .ok (.iconst (-1), 1) := by decide +kernel
theorem dX11_go_17 : decode cX11_go 17 = .ok (.ireturn, 1) := by decide +kernel
theorem dX11_go_18 : decode cX11_go 18 = .ok (.aload_n 0, 1) := by decide +kernel
theorem dX11_go_19 : decode cX11_go 19 = .ok (.aload_n 0, 1) := by decide +kernel
theorem dX11_go_20 : decode cX11_go 20 = .ok (.iload_n 1, 1) := by decide +kernel
theorem dX11_go_21 : decode cX11_go 21 = .ok (.invokevirtual 484, 3) := by decide +kernel
theorem dX11_go_24 : decode cX11_go 24 = .ok (.iload_n 2, 1) := by decide +kernel
theorem dX11_go_25 : decode cX11_go 25 = .ok (.invokevirtual 496, 3) := by decide +kernel
theorem dX11_go_28 : decode cX11_go 28 = .ok (.istore_n 3, 1) := by decide +kernel
theorem dX11_go_29 : decode cX11_go 29 = .ok (.iload_n 3, 1) := by decide +kernel
theorem dX11_go_30 : decode cX11_go 30 = .ok (.iconst (-1), 1) := by decide +kernel
theorem dX11_go_31 : decode cX11_go 31 = .ok (.if_icmp .eq 25, 3) := by decide +kernel
theorem dX11_go_34 : decode cX11_go 34 = .ok (.aload_n 0, 1) := by decide +kernel
theorem dX11_go_35 : decode cX11_go 35 = .ok (.iload_n 3, 1) := by decide +kernel
theorem dX11_go_36 : decode cX11_go 36 = .ok (.invokevirtual 499, 3) := by decide +kernel
theorem dX11_go_39 : decode cX11_go 39 = .ok (.ifCond .ne 17, 3) := by decide +kernel
theorem dX11_go_42 : decode cX11_go 42 = .ok (.aload_n 0, 1) := by decide +kernel
theorem dX11_go_43 : decode cX11_go 43 = .ok (.iload_n 1, 1) := by decide +kernel
theorem dX11_go_44 : decode cX11_go 44 = .ok (.aload_n 0, 1) := by decide +kernel
theorem dX11_go_45 : decode cX11_go 45 = .ok (.iload_n 3, 1) := by decide +kernel
theorem dX11_go_46 : decode cX11_go 46 = .ok (.iload_n 1, 1) := by decide +kernel
theorem dX11_go_47 : decode cX11_go 47 = .ok (.invokevirtual 502, 3) := by decide +kernel
theorem dX11_go_50 : decode cX11_go 50 = .ok (.invokevirtual 505, 3) := by decide +kernel
theorem dX11_go_53 : decode cX11_go 53 = .ok (.ifCond .ne 5, 3) := by decide +kernel
theorem dX11_go_56 : decode cX11_go 56 = .ok (.iconst (-1), 1) := by decide +kernel
theorem dX11_go_57 : decode cX11_go 57 = .ok (.ireturn, 1) := by decide +kernel
theorem dX11_go_58 : decode cX11_go 58 = .ok (.aload_n 0, 1) := by decide +kernel
theorem dX11_go_59 : decode cX11_go 59 = .ok (.invokevirtual 509, 3) := by decide +kernel
theorem dX11_go_62 : decode cX11_go 62 = .ok (.aload_n 0, 1) := by decide +kernel
theorem dX11_go_63 : decode cX11_go 63 = .ok (.iload_n 1, 1) := by decide +kernel
theorem dX11_go_64 : decode cX11_go 64 = .ok (.iload_n 2, 1) := by decide +kernel
theorem dX11_go_65 : decode cX11_go 65 = .ok (.iload_n 3, 1) := by decide +kernel
theorem dX11_go_66 : decode cX11_go 66 = .ok (.aload_n 0, 1) := by decide +kernel
theorem dX11_go_67 : decode cX11_go 67 = .ok (.iload_n 3, 1) := by decide +kernel
theorem dX11_go_68 : decode cX11_go 68 = .ok (.iload_n 1, 1) := by decide +kernel
theorem dX11_go_69 : decode cX11_go 69 = .ok (.invokevirtual 502, 3) := by decide +kernel
theorem dX11_go_72 : decode cX11_go 72 = .ok (.invokevirtual 512, 3) := by decide +kernel
theorem dX11_go_75 : decode cX11_go 75 = .ok (.aload_n 0, 1) := by decide +kernel
theorem dX11_go_76 : decode cX11_go 76 = .ok (.iload_n 1, 1) := by decide +kernel
theorem dX11_go_77 : decode cX11_go 77 = .ok (.invokevirtual 459, 3) := by decide +kernel
theorem dX11_go_80 : decode cX11_go 80 = .ok (.ireturn, 1) := by decide +kernel
theorem dX11_goesOn_0 : decode cX11_goesOn 0 = .ok (.aload_n 0, 1) := by decide +kernel
theorem dX11_goesOn_1 : decode cX11_goesOn 1 = .ok (.getfield 224, 3) := by decide +kernel
theorem dX11_goesOn_4 : decode cX11_goesOn 4 = .ok (.ifCond .ne 114, 3) := by decide +kernel
theorem dX11_goesOn_7 : decode cX11_goesOn 7 = .ok (.aload_n 0, 1) := by decide +kernel
theorem dX11_goesOn_8 : decode cX11_goesOn 8 = .ok (.invokevirtual 236, 3) := by decide +kernel
theorem dX11_goesOn_11 : decode cX11_goesOn 11 = .ok (.bipush 41, 2) := by decide +kernel
theorem dX11_goesOn_13 : decode cX11_goesOn 13 = .ok (.if_icmp .ne 105, 3) := by decide +kernel
theorem dX11_goesOn_16 : decode cX11_goesOn 16 = .ok (.aload_n 0, 1) := by decide +kernel
theorem dX11_goesOn_17 : decode cX11_goesOn 17 = .ok (.invokevirtual 382, 3) := by decide +kernel
theorem dX11_goesOn_20 : decode cX11_goesOn 20 = .ok (.bipush 20, 2) := by decide +kernel
theorem dX11_goesOn_22 : decode cX11_goesOn 22 = .ok (.if_icmp .eq 21, 3) := by decide +kernel
theorem dX11_goesOn_25 : decode cX11_goesOn 25 = .ok (.aload_n 0, 1) := by decide +kernel
theorem dX11_goesOn_26 : decode cX11_goesOn 26 = .ok (.invokevirtual 382, 3) := by decide +kernel
theorem dX11_goesOn_29 : decode cX11_goesOn 29 = .ok (.bipush 23, 2) := by decide +kernel
theorem dX11_goesOn_31 : decode cX11_goesOn 31 = .ok (.if_icmp .eq 12, 3) := by decide +kernel
theorem dX11_goesOn_34 : decode cX11_goesOn 34 = .ok (.aload_n 0, 1) := by decide +kernel
theorem dX11_goesOn_35 : decode cX11_goesOn 35 = .ok (.invokevirtual 382, 3) := by decide +kernel
theorem dX11_goesOn_38 : decode cX11_goesOn 38 = .ok (.bipush 24, 2) := by decide +kernel
theorem dX11_goesOn_40 : decode cX11_goesOn 40 = .ok (.if_icmp .ne 78, 3) := by decide +kernel
theorem dX11_goesOn_43 : decode cX11_goesOn 43 = .ok (.aload_n 0, 1) := by decide +kernel
theorem dX11_goesOn_44 : decode cX11_goesOn 44 = .ok (.dup, 1) := by decide +kernel
theorem dX11_goesOn_45 : decode cX11_goesOn 45 = .ok (.getfield 230, 3) := by decide +kernel
theorem dX11_goesOn_48 : decode cX11_goesOn 48 = .ok (.iconst 1, 1) := by decide +kernel
theorem dX11_goesOn_49 : decode cX11_goesOn 49 = .ok (.iadd, 1) := by decide +kernel
theorem dX11_goesOn_50 : decode cX11_goesOn 50 = .ok (.putfield 230, 3) := by decide +kernel
theorem dX11_goesOn_53 : decode cX11_goesOn 53 = .ok (.aload_n 0, 1) := by decide +kernel
theorem dX11_goesOn_54 : decode cX11_goesOn 54 = .ok (.invokevirtual 385, 3) := by decide +kernel
theorem dX11_goesOn_57 : decode cX11_goesOn 57 = .ok (.aload_n 0, 1) := by decide +kernel
theorem dX11_goesOn_58 : decode cX11_goesOn 58 = .ok (.dup, 1) := by decide +kernel
theorem dX11_goesOn_59 : decode cX11_goesOn 59 = .ok (.getfield 309, 3) := by decide +kernel
theorem dX11_goesOn_62 : decode cX11_goesOn 62 = .ok (.iconst 1, 1) := by decide +kernel
theorem dX11_goesOn_63 : decode cX11_goesOn 63 = .ok (.isub, 1) := by decide +kernel
theorem dX11_goesOn_64 : decode cX11_goesOn 64 = .ok (.putfield 309, 3) := by decide +kernel
theorem dX11_goesOn_67 : decode cX11_goesOn 67 = .ok (.aload_n 0, 1) := by decide +kernel
theorem dX11_goesOn_68 : decode cX11_goesOn 68 = .ok (.dup, 1) := by decide +kernel
theorem dX11_goesOn_69 : decode cX11_goesOn 69 = .ok (.getfield 312, 3) := by decide +kernel
theorem dX11_goesOn_72 : decode cX11_goesOn 72 = .ok (.iconst 1, 1) := by decide +kernel
theorem dX11_goesOn_73 : decode cX11_goesOn 73 = .ok (.isub, 1) := by decide +kernel
theorem dX11_goesOn_74 : decode cX11_goesOn 74 = .ok (.putfield 312, 3) := by decide +kernel
theorem dX11_goesOn_77 : decode cX11_goesOn 77 = .ok (.aload_n 0, 1) := by decide +kernel
theorem dX11_goesOn_78 : decode cX11_goesOn 78 = .ok (.getfield 124, 3) := by decide +kernel
theorem dX11_goesOn_81 : decode cX11_goesOn 81 = .ok (.aload_n 0, 1) := by decide +kernel
theorem dX11_goesOn_82 : decode cX11_goesOn 82 = .ok (.getfield 309, 3) := by decide +kernel
theorem dX11_goesOn_85 : decode cX11_goesOn 85 = .ok (.iaload, 1) := by decide +kernel
theorem dX11_goesOn_86 : decode cX11_goesOn 86 = .ok (.bipush 20, 2) := by decide +kernel
theorem dX11_goesOn_88 : decode cX11_goesOn 88 = .ok (.if_icmp .eq (-88), 3) := by decide +kernel
theorem dX11_goesOn_91 : decode cX11_goesOn 91 = .ok (.aload_n 0, 1) := by decide +kernel
theorem dX11_goesOn_92 : decode cX11_goesOn 92 = .ok (.aload_n 0, 1) := by decide +kernel
theorem dX11_goesOn_93 : decode cX11_goesOn 93 = .ok (.getfield 124, 3) := by decide +kernel
theorem dX11_goesOn_96 : decode cX11_goesOn 96 = .ok (.aload_n 0, 1) := by decide +kernel
theorem dX11_goesOn_97 : decode cX11_goesOn 97 = .ok (.getfield 309, 3) := by decide +kernel
theorem dX11_goesOn_100 : decode cX11_goesOn 100 = .ok (.iaload, 1) := by decide +kernel
theorem dX11_goesOn_101 : decode cX11_goesOn 101 = .ok (.bipush 23, 2) := by decide +kernel
theorem dX11_goesOn_103 : decode cX11_goesOn 103 = .ok (.if_icmp .ne 7, 3) := by decide +kernel
theorem dX11_goesOn_106 : decode cX11_goesOn 106 = .ok (.iconst 5, 1) := by decide +kernel
theorem dX11_goesOn_107 : decode cX11_goesOn 107 = .ok (.goto 5, 3) := by decide +kernel
theorem dX11_goesOn_110 : decode cX11_goesOn 110 = .ok (.bipush 6, 2) := by decide +kernel
theorem dX11_goesOn_112 : decode cX11_goesOn 112 = .ok (.invokevirtual 370, 3) := by decide +kernel
theorem dX11_goesOn_115 : decode cX11_goesOn 115 = .ok (.goto (-115), 3) := by decide +kernel
theorem dX11_goesOn_118 : decode cX11_goesOn 118 = .ok (.aload_n 0, 1) := by decide +kernel
theorem dX11_goesOn_119 : decode cX11_goesOn 119 = .ok (.bipush 42, 2) := by decide +kernel
theorem dX11_goesOn_121 : decode cX11_goesOn 121 = .ok (.invokevirtual 258, 3) := by decide +kernel
theorem dX11_goesOn_124 : decode cX11_goesOn 124 = .ok (.ifCond .ne 12, 3) := by decide +kernel
theorem dX11_goesOn_127 : decode cX11_goesOn 127 = .ok (.aload_n 0, 1) := by decide +kernel
theorem dX11_goesOn_128 : decode cX11_goesOn 128 = .ok (.bipush 47, 2) := by decide +kernel
theorem dX11_goesOn_130 : decode cX11_goesOn 130 = .ok (.invokevirtual 258, 3) := by decide +kernel
theorem dX11_goesOn_133 : decode cX11_goesOn 133 = .ok (.ifCond .eq 70, 3) := by decide +kernel
theorem dX11_goesOn_136 : decode cX11_goesOn 136 = .ok (.aload_n 0, 1) := by decide +kernel
theorem dX11_goesOn_137 : decode cX11_goesOn 137 = .ok (.getfield 7, 3) := by decide +kernel
theorem dX11_goesOn_140 : decode cX11_goesOn 140 = .ok (.aload_n 0, 1) := by decide +kernel
theorem dX11_goesOn_141 : decode cX11_goesOn 141 = .ok (.getfield 230, 3) := by decide +kernel
theorem dX11_goesOn_144 : decode cX11_goesOn 144 = .ok (.iconst 1, 1) := by decide +kernel
theorem dX11_goesOn_145 : decode cX11_goesOn 145 = .ok (.isub, 1) := by decide +kernel
theorem dX11_goesOn_146 : decode cX11_goesOn 146 = .ok (.iaload, 1) := by decide +kernel
theorem dX11_goesOn_147 : decode cX11_goesOn 147 = .ok (.bipush 42, 2) := by decide +kernel
theorem dX11_goesOn_149 : decode cX11_goesOn 149 = .ok (.if_icmp .ne 7, 3) := by decide +kernel
theorem dX11_goesOn_152 : decode cX11_goesOn 152 = .ok (.iconst 3, 1) := by decide +kernel
theorem dX11_goesOn_153 : decode cX11_goesOn 153 = .ok (.goto 4, 3) := by decide +kernel
theorem dX11_goesOn_156 : decode cX11_goesOn 156 = .ok (.iconst 4, 1) := by decide +kernel
theorem dX11_goesOn_157 : decode cX11_goesOn 157 = .ok (.istore_n 1, 1) := by decide +kernel
theorem dX11_goesOn_158 : decode cX11_goesOn 158 = .ok (.aload_n 0, 1) := by decide +kernel
theorem dX11_goesOn_159 : decode cX11_goesOn 159 = .ok (.iconst 3, 1) := by decide +kernel
theorem dX11_goesOn_160 : decode cX11_goesOn 160 = .ok (.invokevirtual 388, 3) := by decide +kernel
theorem dX11_goesOn_163 : decode cX11_goesOn 163 = .ok (.ifCond .ne 11, 3) := by decide +kernel
theorem dX11_goesOn_166 : decode cX11_goesOn 166 = .ok (.aload_n 0, 1) := by decide +kernel
theorem dX11_goesOn_167 : decode cX11_goesOn 167 = .ok (.iconst 4, 1) := by decide +kernel
theorem dX11_goesOn_168 : decode cX11_goesOn 168 = .ok (.invokevirtual 388, 3) := by decide +kernel
theorem dX11_goesOn_171 : decode cX11_goesOn 171 = .ok (.ifCond .eq 10, 3) := by decide +kernel
theorem dX11_goesOn_174 : decode cX11_goesOn 174 = .ok (.aload_n 0, 1) := by decide +kernel
theorem dX11_goesOn_175 : decode cX11_goesOn 175 = .ok (.invokevirtual 376, 3) := by decide +kernel
theorem dX11_goesOn_178 : decode cX11_goesOn 178 = .ok (.goto (-20), 3) := by decide +kernel
theorem dX11_goesOn_181 : decode cX11_goesOn 181 = .ok (.aload_n 0, 1) := by decide +kernel
theorem dX11_goesOn_182 : decode cX11_goesOn 182 = .ok (.getfield 124, 3) := by decide +kernel
theorem dX11_goesOn_185 : decode cX11_goesOn 185 = .ok (.aload_n 0, 1) := by decide +kernel
theorem dX11_goesOn_186 : decode cX11_goesOn 186 = .ok (.getfield 309, 3) := by decide +kernel
theorem dX11_goesOn_189 : decode cX11_goesOn 189 = .ok (.iload_n 1, 1) := by decide +kernel
theorem dX11_goesOn_190 : decode cX11_goesOn 190 = .ok (.iastore, 1) := by decide +kernel
theorem dX11_goesOn_191 : decode cX11_goesOn 191 = .ok (.aload_n 0, 1) := by decide +kernel
theorem dX11_goesOn_192 : decode cX11_goesOn 192 = .ok (.dup, 1) := by decide +kernel
theorem dX11_goesOn_193 : decode cX11_goesOn 193 = .ok (.getfield 309, 3) := by decide +kernel
theorem dX11_goesOn_196 : decode cX11_goesOn 196 = .ok (.iconst 1, 1) := by decide +kernel
theorem dX11_goesOn_197 : decode cX11_goesOn 197 = .ok (.iadd, 1) := by decide +kernel
theorem dX11_goesOn_198 : decode cX11_goesOn 198 = .ok (.putfield 309, 3) := by decide +kernel
theorem dX11_goesOn_201 : decode cX11_goesOn 201 = .ok (.iconst 1, 1) := by decide +kernel
theorem dX11_goesOn_202 : decode cX11_goesOn 202 = .ok (.ireturn, 1) := by decide +kernel
theorem dX11_goesOn_203 : decode cX11_goesOn 203 = .ok (.aload_n 0, 1) := by decide +kernel
theorem dX11_goesOn_204 : decode cX11_goesOn 204 = .ok (.bipush 43, 2) := by decide +kernel
theorem dX11_goesOn_206 : decode cX11_goesOn 206 = .ok (.invokevirtual 258, 3) := by decide +kernel
theorem dX11_goesOn_209 : decode cX11_goesOn 209 = .ok (.ifCond .ne 12, 3) := by decide +kernel
theorem dX11_goesOn_212 : decode cX11_goesOn 212 = .ok (.aload_n 0, 1) := by decide +kernel
theorem dX11_goesOn_213 : decode cX11_goesOn 213 = .ok (.bipush 45, 2) := by decide +kernel
theorem dX11_goesOn_215 : decode cX11_goesOn 215 = .ok (.invokevirtual 258, 3) := by decide +kernel
theorem dX11_goesOn_218 : decode cX11_goesOn 218 = .ok (.ifCond .eq 86, 3) := by decide +kernel
theorem dX11_goesOn_221 : decode cX11_goesOn 221 = .ok (.aload_n 0, 1) := by decide +kernel
theorem dX11_goesOn_222 : decode cX11_goesOn 222 = .ok (.getfield 7, 3) := by decide +kernel
theorem dX11_goesOn_225 : decode cX11_goesOn 225 = .ok (.aload_n 0, 1) := by decide +kernel
theorem dX11_goesOn_226 : decode cX11_goesOn 226 = .ok (.getfield 230, 3) := by decide +kernel
theorem dX11_goesOn_229 : decode cX11_goesOn 229 = .ok (.iconst 1, 1) := by decide +kernel
theorem dX11_goesOn_230 : decode cX11_goesOn 230 = .ok (.isub, 1) := by decide +kernel
theorem dX11_goesOn_231 : decode cX11_goesOn 231 = .ok (.iaload, 1) := by decide +kernel
theorem dX11_goesOn_232 : decode cX11_goesOn 232 = .ok (.bipush 43, 2) := by decide +kernel
theorem dX11_goesOn_234 : decode cX11_goesOn 234 = .ok (.if_icmp .ne 7, 3) := by decide +kernel
theorem dX11_goesOn_237 : decode cX11_goesOn 237 = .ok (.iconst 1, 1) := by decide +kernel
theorem dX11_goesOn_238 : decode cX11_goesOn 238 = .ok (.goto 4, 3) := by decide +kernel
theorem dX11_goesOn_241 : decode cX11_goesOn 241 = .ok (.iconst 2, 1) := by decide +kernel
theorem dX11_goesOn_242 : decode cX11_goesOn 242 = .ok (.istore_n 1, 1) := by decide +kernel
theorem dX11_goesOn_243 : decode cX11_goesOn 243 = .ok (.aload_n 0, 1) := by decide +kernel
theorem dX11_goesOn_244 : decode cX11_goesOn 244 = .ok (.iconst 3, 1) := by decide +kernel
theorem dX11_goesOn_245 : decode cX11_goesOn 245 = .ok (.invokevirtual 388, 3) := by decide +kernel
theorem dX11_goesOn_248 : decode cX11_goesOn 248 = .ok (.ifCond .ne 27, 3) := by decide +kernel
theorem dX11_goesOn_251 : decode cX11_goesOn 251 = .ok (.aload_n 0, 1) := by decide +kernel
theorem dX11_goesOn_252 : decode cX11_goesOn 252 = .ok (.iconst 4, 1) := by decide +kernel
theorem dX11_goesOn_253 : decode cX11_goesOn 253 = .ok (.invokevirtual 388, 3) := by decide +kernel
theorem dX11_goesOn_256 : decode cX11_goesOn 256 = .ok (.ifCond .ne 19, 3) := by decide +kernel
theorem dX11_goesOn_259 : decode cX11_goesOn 259 = .ok (.aload_n 0, 1) := by decide +kernel
theorem dX11_goesOn_260 : decode cX11_goesOn 260 = .ok (.iconst 1, 1) := by decide +kernel
theorem dX11_goesOn_261 : decode cX11_goesOn 261 = .ok (.invokevirtual 388, 3) := by decide +kernel
theorem dX11_goesOn_264 : decode cX11_goesOn 264 = .ok (.ifCond .ne 11, 3) := by decide +kernel
theorem dX11_goesOn_267 : decode cX11_goesOn 267 = .ok (.aload_n 0, 1) := by decide +kernel
theorem dX11_goesOn_268 : decode cX11_goesOn 268 = .ok (.iconst 2, 1) := by decide +kernel
theorem dX11_goesOn_269 : decode cX11_goesOn 269 = .ok (.invokevirtual 388, 3) := by decide +kernel
theorem dX11_goesOn_272 : decode cX11_goesOn 272 = .ok (.ifCond .eq 10, 3) := by decide +kernel
theorem dX11_goesOn_275 : decode cX11_goesOn 275 = .ok (.aload_n 0, 1) := by decide +kernel
theorem dX11_goesOn_276 : decode cX11_goesOn 276 = .ok (.invokevirtual 376, 3) := by decide +kernel
theorem dX11_goesOn_279 : decode cX11_goesOn 279 = .ok (.goto (-36), 3) := by decide +kernel
theorem dX11_goesOn_282 : decode cX11_goesOn 282 = .ok (.aload_n 0, 1) := by decide +kernel
theorem dX11_goesOn_283 : decode cX11_goesOn 283 = .ok (.getfield 124, 3) := by decide +kernel
theorem dX11_goesOn_286 : decode cX11_goesOn 286 = .ok (.aload_n 0, 1) := by decide +kernel
theorem dX11_goesOn_287 : decode cX11_goesOn 287 = .ok (.getfield 309, 3) := by decide +kernel
theorem dX11_goesOn_290 : decode cX11_goesOn 290 = .ok (.iload_n 1, 1) := by decide +kernel
theorem dX11_goesOn_291 : decode cX11_goesOn 291 = .ok (.iastore, 1) := by decide +kernel
theorem dX11_goesOn_292 : decode cX11_goesOn 292 = .ok (.aload_n 0, 1) := by decide +kernel
theorem dX11_goesOn_293 : decode cX11_goesOn 293 = .ok (.dup, 1) := by decide +kernel
theorem dX11_goesOn_294 : decode cX11_goesOn 294 = .ok (.getfield 309, 3) := by decide +kernel
theorem dX11_goesOn_297 : decode cX11_goesOn 297 = .ok (.iconst 1, 1) := by decide +kernel
theorem dX11_goesOn_298 : decode cX11_goesOn 298 = .ok (.iadd, 1) := by decide +kernel
theorem dX11_goesOn_299 : decode cX11_goesOn 299 = .ok (.putfield 309, 3) := by decide +kernel
theorem dX11_goesOn_302 : decode cX11_goesOn 302 = .ok (.iconst 1, 1) := by decide +kernel
theorem dX11_goesOn_303 : decode cX11_goesOn 303 = .ok (.ireturn, 1) := by decide +kernel
theorem dX11_goesOn_304 : decode cX11_goesOn 304 = .ok (.aload_n 0, 1) := by decide +kernel
theorem dX11_goesOn_305 : decode cX11_goesOn 305 = .ok (.invokevirtual 382, 3) := by decide +kernel
theorem dX11_goesOn_308 : decode cX11_goesOn 308 = .ok (.bipush 21, 2) := by decide +kernel
theorem dX11_goesOn_310 : decode cX11_goesOn 310 = .ok (.if_icmp .eq 12, 3) := by decide +kernel
theorem dX11_goesOn_313 : decode cX11_goesOn 313 = .ok (.aload_n 0, 1) := by decide +kernel
theorem dX11_goesOn_314 : decode cX11_goesOn 314 = .ok (.invokevirtual 382, 3) := by decide +kernel
theorem dX11_goesOn_317 : decode cX11_goesOn 317 = .ok (.bipush 22, 2) := by decide +kernel
theorem dX11_goesOn_319 : decode cX11_goesOn 319 = .ok (.if_icmp .ne 39, 3) := by decide +kernel
theorem dX11_goesOn_322 : decode cX11_goesOn 322 = .ok (.aload_n 0, 1) := by decide +kernel
theorem dX11_goesOn_323 : decode cX11_goesOn 323 = .ok (.bipush 44, 2) := by decide +kernel
theorem dX11_goesOn_325 : decode cX11_goesOn 325 = .ok (.invokevirtual 346, 3) := by decide +kernel
theorem dX11_goesOn_328 : decode cX11_goesOn 328 = .ok (.aload_n 0, 1) := by decide +kernel
theorem dX11_goesOn_329 : decode cX11_goesOn 329 = .ok (.getfield 224, 3) := by decide +kernel
theorem dX11_goesOn_332 : decode cX11_goesOn 332 = .ok (.ifCond .eq 5, 3) := by decide +kernel
theorem dX11_goesOn_335 : decode cX11_goesOn 335 = .ok (.iconst 0, 1) := by decide +kernel
theorem dX11_goesOn_336 : decode cX11_goesOn 336 = .ok (.ireturn, 1) := by decide +kernel
theorem dX11_goesOn_337 : decode cX11_goesOn 337 = .ok (.aload_n 0, 1) := by decide +kernel
theorem dX11_goesOn_338 : decode cX11_goesOn 338 = .ok (.invokevirtual 385, 3) := by decide +kernel
theorem dX11_goesOn_341 : decode cX11_goesOn 341 = .ok (.aload_n 0, 1) := by decide +kernel
theorem dX11_goesOn_342 : decode cX11_goesOn 342 = .ok (.getfield 124, 3) := by decide +kernel
theorem dX11_goesOn_345 : decode cX11_goesOn 345 = .ok (.aload_n 0, 1) := by decide +kernel
theorem dX11_goesOn_346 : decode cX11_goesOn 346 = .ok (.getfield 309, 3) := by decide +kernel
theorem dX11_goesOn_349 : decode cX11_goesOn 349 = .ok (.iconst 1, 1) := by decide +kernel
theorem dX11_goesOn_350 : decode cX11_goesOn 350 = .ok (.isub, 1) := by decide +kernel
theorem dX11_goesOn_351 : decode cX11_goesOn 351 = .ok (.dup2, 1) := by decide +kernel
theorem dX11_goesOn_352 : decode cX11_goesOn 352 = .ok (.iaload, 1) := by decide +kernel
theorem dX11_goesOn_353 : decode cX11_goesOn 353 = .ok (.iconst 2, 1) := by decide +kernel
theorem dX11_goesOn_354 : decode cX11_goesOn 354 = .ok (.iadd, 1) := by decide +kernel
theorem dX11_goesOn_355 : decode cX11_goesOn 355 = .ok (.iastore, 1) := by decide +kernel
theorem dX11_goesOn_356 : decode cX11_goesOn 356 = .ok (.iconst 1, 1) := by decide +kernel
theorem dX11_goesOn_357 : decode cX11_goesOn 357 = .ok (.ireturn, 1) := by decide +kernel
theorem dX11_goesOn_358 : decode cX11_goesOn 358 = .ok (.aload_n 0, 1) := by decide +kernel
theorem dX11_goesOn_359 : decode cX11_goesOn 359 = .ok (.invokevirtual 382, 3) := by decide +kernel
theorem dX11_goesOn_362 : decode cX11_goesOn 362 = .ok (.iconst (-1), 1) := by decide +kernel
theorem dX11_goesOn_363 : decode cX11_goesOn 363 = .ok (.if_icmp .eq 19, 3) := by decide +kernel
theorem dX11_goesOn_366 : decode cX11_goesOn 366 = .ok (.aload_n 0, 1) := by decide +kernel
theorem dX11_goesOn_367 : decode cX11_goesOn 367 = .ok (.getfield 224, 3) := by decide +kernel
theorem dX11_goesOn_370 : decode cX11_goesOn 370 = .ok (.ifCond .ne 12, 3) := by decide +kernel
theorem dX11_goesOn_373 : decode cX11_goesOn 373 = .ok (.aload_n 0, 1) := by decide +kernel
theorem dX11_goesOn_374 : decode cX11_goesOn 374 = .ok (.iconst 1, 1) := by decide +kernel
theorem dX11_goesOn_375 : decode cX11_goesOn 375 = .ok (.aload_n 0, 1) := by decide +kernel
theorem dX11_goesOn_376 : decode cX11_goesOn 376 = .ok (.getfield 230, 3) := by decide +kernel
theorem dX11_goesOn_379 : decode cX11_goesOn 379 = .ok (.invokevirtual 254, 3) := by decide +kernel
theorem dX11_goesOn_382 : decode cX11_goesOn 382 = .ok (.iconst 0, 1) := by decide +kernel
theorem dX11_goesOn_383 : decode cX11_goesOn 383 = .ok (.ireturn, 1) := by decide +kernel
theorem dX11_goesOnTest_0 : decode cX11_goesOnTest 0 = .ok (.aload_n 0, 1) := by decide +kernel
theorem dX11_goesOnTest_1 : decode cX11_goesOnTest 1 = .ok (.getfield 224, 3) := by decide +kernel
theorem dX11_goesOnTest_4 : decode cX11_goesOnTest 4 = .ok (.ifCond .ne 72, 3) := by decide +kernel
theorem dX11_goesOnTest_7 : decode cX11_goesOnTest 7 = .ok (.aload_n 0, 1) := by decide +kernel
theorem dX11_goesOnTest_8 : decode cX11_goesOnTest 8 = .ok (.invokevirtual 236, 3) := by decide +kernel
theorem dX11_goesOnTest_11 : decode cX11_goesOnTest 11 = .ok (.bipush 93, 2) := by decide +kernel
theorem dX11_goesOnTest_13 : decode cX11_goesOnTest 13 = .ok (.if_icmp .ne 63, 3) := by decide +kernel
theorem dX11_goesOnTest_16 : decode cX11_goesOnTest 16 = .ok (.aload_n 0, 1) := by decide +kernel
theorem dX11_goesOnTest_17 : decode cX11_goesOnTest 17 = .ok (.invokevirtual 409, 3) := by decide +kernel
theorem dX11_goesOnTest_20 : decode cX11_goesOnTest 20 = .ok (.ifCond .eq 56, 3) := by decide +kernel
theorem dX11_goesOnTest_23 : decode cX11_goesOnTest 23 = .ok (.aload_n 0, 1) := by decide +kernel
theorem dX11_goesOnTest_24 : decode cX11_goesOnTest 24 = .ok (.dup, 1) := by decide +kernel
theorem dX11_goesOnTest_25 : decode cX11_goesOnTest 25 = .ok (.getfield 230, 3) := by decide +kernel
theorem dX11_goesOnTest_28 : decode cX11_goesOnTest 28 = .ok (.iconst 1, 1) := by decide +kernel
theorem dX11_goesOnTest_29 : decode cX11_goesOnTest 29 = .ok (.iadd, 1) := by decide +kernel
theorem dX11_goesOnTest_30 : decode cX11_goesOnTest 30 = .ok (.putfield 230, 3) := by decide +kernel
theorem dX11_goesOnTest_33 : decode cX11_goesOnTest 33 = .ok (.aload_n 0, 1) := by decide +kernel
theorem dX11_goesOnTest_34 : decode cX11_goesOnTest 34 = .ok (.bipush 25, 2) := by decide +kernel
theorem dX11_goesOnTest_36 : decode cX11_goesOnTest 36 = .ok (.invokevirtual 388, 3) := by decide +kernel
theorem dX11_goesOnTest_39 : decode cX11_goesOnTest 39 = .ok (.ifCond .ne 10, 3) := by decide +kernel
theorem dX11_goesOnTest_42 : decode cX11_goesOnTest 42 = .ok (.aload_n 0, 1) := by decide +kernel
theorem dX11_goesOnTest_43 : decode cX11_goesOnTest 43 = .ok (.invokevirtual 376, 3) := by decide +kernel
theorem dX11_goesOnTest_46 : decode cX11_goesOnTest 46 = .ok (.goto (-13), 3) := by decide +kernel
theorem dX11_goesOnTest_49 : decode cX11_goesOnTest 49 = .ok (.aload_n 0, 1) := by decide +kernel
theorem dX11_goesOnTest_50 : decode cX11_goesOnTest 50 = .ok (.dup, 1) := by decide +kernel
theorem dX11_goesOnTest_51 : decode cX11_goesOnTest 51 = .ok (.getfield 309, 3) := by decide +kernel
theorem dX11_goesOnTest_54 : decode cX11_goesOnTest 54 = .ok (.iconst 1, 1) := by decide +kernel
theorem dX11_goesOnTest_55 : decode cX11_goesOnTest 55 = .ok (.isub, 1) := by decide +kernel
theorem dX11_goesOnTest_56 : decode cX11_goesOnTest 56 = .ok (.putfield 309, 3) := by decide +kernel
theorem dX11_goesOnTest_59 : decode cX11_goesOnTest 59 = .ok (.aload_n 0, 1) := by decide +kernel
theorem dX11_goesOnTest_60 : decode cX11_goesOnTest 60 = .ok (.dup, 1) := by decide +kernel
theorem dX11_goesOnTest_61 : decode cX11_goesOnTest 61 = .ok (.getfield 312, 3) := by decide +kernel
theorem dX11_goesOnTest_64 : decode cX11_goesOnTest 64 = .ok (.iconst 1, 1) := by decide +kernel
theorem dX11_goesOnTest_65 : decode cX11_goesOnTest 65 = .ok (.isub, 1) := by decide +kernel
theorem dX11_goesOnTest_66 : decode cX11_goesOnTest 66 = .ok (.putfield 312, 3) := by decide +kernel
theorem dX11_goesOnTest_69 : decode cX11_goesOnTest 69 = .ok (.aload_n 0, 1) := by decide +kernel
theorem dX11_goesOnTest_70 : decode cX11_goesOnTest 70 = .ok (.invokevirtual 403, 3) := by decide +kernel
theorem dX11_goesOnTest_73 : decode cX11_goesOnTest 73 = .ok (.goto (-73), 3) := by decide +kernel
theorem dX11_goesOnTest_76 : decode cX11_goesOnTest 76 = .ok (.aload_n 0, 1) := by decide +kernel
theorem dX11_goesOnTest_77 : decode cX11_goesOnTest 77 = .ok (.aload_n 0, 1) := by decide +kernel
theorem dX11_goesOnTest_78 : decode cX11_goesOnTest 78 = .ok (.getfield 69, 3) := by decide +kernel
theorem dX11_goesOnTest_81 : decode cX11_goesOnTest 81 = .ok (.invokevirtual 251, 3) := by decide +kernel
theorem dX11_goesOnTest_84 : decode cX11_goesOnTest 84 = .ok (.ifCond .eq 42, 3) := by decide +kernel
theorem dX11_goesOnTest_87 : decode cX11_goesOnTest 87 = .ok (.aload_n 0, 1) := by decide +kernel
theorem dX11_goesOnTest_88 : decode cX11_goesOnTest 88 = .ok (.bipush 14, 2) := by decide +kernel
theorem dX11_goesOnTest_90 : decode cX11_goesOnTest 90 = .ok (.invokevirtual 388, 3) := by decide +kernel
theorem dX11_goesOnTest_93 : decode cX11_goesOnTest 93 = .ok (.ifCond .eq 10, 3) := by decide +kernel
theorem dX11_goesOnTest_96 : decode cX11_goesOnTest 96 = .ok (.aload_n 0, 1) := by decide +kernel
theorem dX11_goesOnTest_97 : decode cX11_goesOnTest 97 = .ok (.invokevirtual 376, 3) := by decide +kernel
theorem dX11_goesOnTest_100 : decode cX11_goesOnTest 100 = .ok (.goto (-13), 3) := by decide +kernel
theorem dX11_goesOnTest_103 : decode cX11_goesOnTest 103 = .ok (.aload_n 0, 1) := by decide +kernel
theorem dX11_goesOnTest_104 : decode cX11_goesOnTest 104 = .ok (.getfield 124, 3) := by decide +kernel
theorem dX11_goesOnTest_107 : decode cX11_goesOnTest 107 = .ok (.aload_n 0, 1) := by decide +kernel
theorem dX11_goesOnTest_108 : decode cX11_goesOnTest 108 = .ok (.getfield 309, 3) := by decide +kernel
theorem dX11_goesOnTest_111 : decode cX11_goesOnTest 111 = .ok (.bipush 14, 2) := by decide +kernel
theorem dX11_goesOnTest_113 : decode cX11_goesOnTest 113 = .ok (.iastore, 1) := by decide +kernel
theorem dX11_goesOnTest_114 : decode cX11_goesOnTest 114 = .ok (.aload_n 0, 1) := by decide +kernel
theorem dX11_goesOnTest_115 : decode cX11_goesOnTest 115 = .ok (.dup, 1) := by decide +kernel
theorem dX11_goesOnTest_116 : decode cX11_goesOnTest 116 = .ok (.getfield 309, 3) := by decide +kernel
theorem dX11_goesOnTest_119 : decode cX11_goesOnTest 119 = .ok (.iconst 1, 1) := by decide +kernel
theorem dX11_goesOnTest_120 : decode cX11_goesOnTest 120 = .ok (.iadd, 1) := by decide +kernel
theorem dX11_goesOnTest_121 : decode cX11_goesOnTest 121 = .ok (.putfield 309, 3) := by decide +kernel
theorem dX11_goesOnTest_124 : decode cX11_goesOnTest 124 = .ok (.iconst 1, 1) := by decide +kernel
theorem dX11_goesOnTest_125 : decode cX11_goesOnTest 125 = .ok (.ireturn, 1) := by decide +kernel
theorem dX11_goesOnTest_126 : decode cX11_goesOnTest 126 = .ok (.aload_n 0, 1) := by decide +kernel
theorem dX11_goesOnTest_127 : decode cX11_goesOnTest 127 = .ok (.aload_n 0, 1) := by decide +kernel
theorem dX11_goesOnTest_128 : decode cX11_goesOnTest 128 = .ok (.getfield 66, 3) := by decide +kernel
theorem dX11_goesOnTest_131 : decode cX11_goesOnTest 131 = .ok (.invokevirtual 251, 3) := by decide +kernel
theorem dX11_goesOnTest_134 : decode cX11_goesOnTest 134 = .ok (.ifCond .eq 51, 3) := by decide +kernel
theorem dX11_goesOnTest_137 : decode cX11_goesOnTest 137 = .ok (.aload_n 0, 1) := by decide +kernel
theorem dX11_goesOnTest_138 : decode cX11_goesOnTest 138 = .ok (.bipush 14, 2) := by decide +kernel
theorem dX11_goesOnTest_140 : decode cX11_goesOnTest 140 = .ok (.invokevirtual 388, 3) := by decide +kernel
theorem dX11_goesOnTest_143 : decode cX11_goesOnTest 143 = .ok (.ifCond .ne 12, 3) := by decide +kernel
theorem dX11_goesOnTest_146 : decode cX11_goesOnTest 146 = .ok (.aload_n 0, 1) := by decide +kernel
theorem dX11_goesOnTest_147 : decode cX11_goesOnTest 147 = .ok (.bipush 15, 2) := by decide +kernel
theorem dX11_goesOnTest_149 : decode cX11_goesOnTest 149 = .ok (.invokevirtual 388, 3) := by decide +kernel
theorem dX11_goesOnTest_152 : decode cX11_goesOnTest 152 = .ok (.ifCond .eq 10, 3) := by decide +kernel
theorem dX11_goesOnTest_155 : decode cX11_goesOnTest 155 = .ok (.aload_n 0, 1) := by decide +kernel
theorem dX11_goesOnTest_156 : decode cX11_goesOnTest 156 = .ok (.invokevirtual 376, 3) := by decide +kernel
theorem dX11_goesOnTest_159 : decode cX11_goesOnTest 159 = .ok (.goto (-22), 3) := by decide +kernel
theorem dX11_goesOnTest_162 : decode cX11_goesOnTest 162 = .ok (.aload_n 0, 1) := by decide +kernel
theorem dX11_goesOnTest_163 : decode cX11_goesOnTest 163 = .ok (.getfield 124, 3) := by decide +kernel
theorem dX11_goesOnTest_166 : decode cX11_goesOnTest 166 = .ok (.aload_n 0, 1) := by decide +kernel
theorem dX11_goesOnTest_167 : decode cX11_goesOnTest 167 = .ok (.getfield 309, 3) := by decide +kernel
theorem dX11_goesOnTest_170 : decode cX11_goesOnTest 170 = .ok (.bipush 15, 2) := by decide +kernel
theorem dX11_goesOnTest_172 : decode cX11_goesOnTest 172 = .ok (.iastore, 1) := by decide +kernel
theorem dX11_goesOnTest_173 : decode cX11_goesOnTest 173 = .ok (.aload_n 0, 1) := by decide +kernel
theorem dX11_goesOnTest_174 : decode cX11_goesOnTest 174 = .ok (.dup, 1) := by decide +kernel
theorem dX11_goesOnTest_175 : decode cX11_goesOnTest 175 = .ok (.getfield 309, 3) := by decide +kernel
theorem dX11_goesOnTest_178 : decode cX11_goesOnTest 178 = .ok (.iconst 1, 1) := by decide +kernel
theorem dX11_goesOnTest_179 : decode cX11_goesOnTest 179 = .ok (.iadd, 1) := by decide +kernel
theorem dX11_goesOnTest_180 : decode cX11_goesOnTest 180 = .ok (.putfield 309, 3) := by decide +kernel
theorem dX11_goesOnTest_183 : decode cX11_goesOnTest 183 = .ok (.iconst 1, 1) := by decide +kernel
theorem dX11_goesOnTest_184 : decode cX11_goesOnTest 184 = .ok (.ireturn, 1) := by decide +kernel
theorem dX11_goesOnTest_185 : decode cX11_goesOnTest 185 = .ok (.aload_n 0, 1) := by decide +kernel
theorem dX11_goesOnTest_186 : decode cX11_goesOnTest 186 = .ok (.getfield 224, 3) := by decide +kernel
theorem dX11_goesOnTest_189 : decode cX11_goesOnTest 189 = .ok (.ifCond .ne 19, 3) := by decide +kernel
theorem dX11_goesOnTest_192 : decode cX11_goesOnTest 192 = .ok (.aload_n 0, 1) := by decide +kernel
theorem dX11_goesOnTest_193 : decode cX11_goesOnTest 193 = .ok (.invokevirtual 409, 3) := by decide +kernel
theorem dX11_goesOnTest_196 : decode cX11_goesOnTest 196 = .ok (.ifCond .eq 12, 3) := by decide +kernel
theorem dX11_goesOnTest_199 : decode cX11_goesOnTest 199 = .ok (.aload_n 0, 1) := by decide +kernel
theorem dX11_goesOnTest_200 : decode cX11_goesOnTest 200 = .ok (.iconst 1, 1) := by decide +kernel
theorem dX11_goesOnTest_201 : decode cX11_goesOnTest 201 = .ok (.aload_n 0, 1) := by decide +kernel
theorem dX11_goesOnTest_202 : decode cX11_goesOnTest 202 = .ok (.getfield 230, 3) := by decide +kernel
theorem dX11_goesOnTest_205 : decode cX11_goesOnTest 205 = .ok (.invokevirtual 254, 3) := by decide +kernel
theorem dX11_goesOnTest_208 : decode cX11_goesOnTest 208 = .ok (.iconst 0, 1) := by decide +kernel
theorem dX11_goesOnTest_209 : decode cX11_goesOnTest 209 = .ok (.ireturn, 1) := by decide +kernel
theorem dX11_greater_0 : decode cX11_greater 0 = .ok (.iload_n 0, 1) := by decide +kernel
theorem dX11_greater_1 : decode cX11_greater 1 = .ok (.iload_n 1, 1) := by decide +kernel
theorem dX11_greater_2 : decode cX11_greater 2 = .ok (.if_icmp .le 7, 3) := by decide +kernel
theorem dX11_greater_5 : decode cX11_greater 5 = .ok (.iload_n 0, 1) := by decide +kernel
theorem dX11_greater_6 : decode cX11_greater 6 = .ok (.goto 4, 3) := by decide +kernel
theorem dX11_greater_9 : decode cX11_greater 9 = .ok (.iload_n 1, 1) := by decide +kernel
theorem dX11_greater_10 : decode cX11_greater 10 = .ok (.ireturn, 1) := by decide +kernel
theorem dX11_has_0 : decode cX11_has 0 = .ok (.iload_n 1, 1) := by decide +kernel
theorem dX11_has_1 : decode cX11_has 1 = .ok (.tableswitch 114 0 9 #[55, 60, 65, 70, 78, 83, 88, 96, 104, 109], 55) := by decide +kernel
theorem dX11_has_56 : decode cX11_has 56 = .ok (.aload_n 0, 1) := by decide +kernel
theorem dX11_has_57 : decode cX11_has 57 = .ok (.invokevirtual 444, 3) := by decide +kernel
theorem dX11_has_60 : decode cX11_has 60 = .ok (.ireturn, 1) := by decide +kernel
theorem dX11_has_61 : decode cX11_has 61 = .ok (.aload_n 0, 1) := by decide +kernel
theorem dX11_has_62 : decode cX11_has 62 = .ok (.invokevirtual 450, 3) := by decide +kernel
theorem dX11_has_65 : decode cX11_has 65 = .ok (.ireturn, 1) := by decide +kernel
theorem dX11_has_66 : decode cX11_has 66 = .ok (.aload_n 0, 1) := by decide +kernel
theorem dX11_has_67 : decode cX11_has 67 = .ok (.invokevirtual 447, 3) := by decide +kernel
theorem dX11_has_70 : decode cX11_has 70 = .ok (.ireturn, 1) := by decide +kernel
theorem dX11_has_71 : decode cX11_has 71 = .ok (.aload_n 0, 1) := by decide +kernel
theorem dX11_has_72 : decode cX11_has 72 = .ok (.getfield 99, 3) := by decide +kernel
theorem dX11_has_75 : decode cX11_has 75 = .ok (.bipush 8, 2) := by decide +kernel
theorem dX11_has_77 : decode cX11_has 77 = .ok (.iaload, 1) := by decide +kernel
theorem dX11_has_78 : decode cX11_has 78 = .ok (.ireturn, 1) := by decide +kernel
theorem dX11_has_79 : decode cX11_has 79 = .ok (.aload_n 0, 1) := by decide +kernel
theorem dX11_has_80 : decode cX11_has 80 = .ok (.invokevirtual 438, 3) := by decide +kernel
theorem dX11_has_83 : decode cX11_has 83 = .ok (.ireturn, 1) := by decide +kernel
theorem dX11_has_84 : decode cX11_has 84 = .ok (.aload_n 0, 1) := by decide +kernel
theorem dX11_has_85 : decode cX11_has 85 = .ok (.getfield 118, 3) := by decide +kernel
theorem dX11_has_88 : decode cX11_has 88 = .ok (.ireturn, 1) := by decide +kernel
theorem dX11_has_89 : decode cX11_has 89 = .ok (.aload_n 0, 1) := by decide +kernel
theorem dX11_has_90 : decode cX11_has 90 = .ok (.invokevirtual 465, 3) := by decide +kernel
theorem dX11_has_93 : decode cX11_has 93 = .ok (.invokestatic 468, 3) := by decide +kernel
theorem dX11_has_96 : decode cX11_has 96 = .ok (.ireturn, 1) := by decide +kernel
theorem dX11_has_97 : decode cX11_has 97 = .ok (.aload_n 0, 1) := by decide +kernel
theorem dX11_has_98 : decode cX11_has 98 = .ok (.getfield 358, 3) := by decide +kernel
theorem dX11_has_101 : decode cX11_has 101 = .ok (.invokestatic 468, 3) := by decide +kernel
theorem dX11_has_104 : decode cX11_has 104 = .ok (.ireturn, 1) := by decide +kernel
theorem dX11_has_105 : decode cX11_has 105 = .ok (.aload_n 0, 1) := by decide +kernel
theorem dX11_has_106 : decode cX11_has 106 = .ok (.getfield 361, 3) := by decide +kernel
theorem dX11_has_109 : decode cX11_has 109 = .ok (.ireturn, 1) := by decide +kernel
theorem dX11_has_110 : decode cX11_has 110 = .ok (.aload_n 0, 1) := by decide +kernel
theorem dX11_has_111 : decode cX11_has 111 = .ok (.getfield 364, 3) := by decide +kernel
theorem dX11_has_114 : decode cX11_has 114 = .ok (.ireturn, 1) := by decide +kernel
theorem dX11_has_115 : decode cX11_has 115 = .ok (.iconst (-1), 1) := by decide +kernel
theorem dX11_has_116 : decode cX11_has 116 = .ok (.ireturn, 1) := by decide +kernel
theorem dX11_hasSquare_0 : decode cX11_hasSquare 0 = .ok (.iconst 0, 1) := by decide +kernel
theorem dX11_hasSquare_1 : decode cX11_hasSquare 1 = .ok (.istore_n 1, 1) := by decide +kernel
theorem dX11_hasSquare_2 : decode cX11_hasSquare 2 = .ok (.iload_n 1, 1) := by decide +kernel
theorem dX11_hasSquare_3 : decode cX11_hasSquare 3 = .ok (.aload_n 0, 1) := by decide +kernel
theorem dX11_hasSquare_4 : decode cX11_hasSquare 4 = .ok (.getfield 309, 3) := by decide +kernel
theorem dX11_hasSquare_7 : decode cX11_hasSquare 7 = .ok (.if_icmp .ge 22, 3) := by decide +kernel
theorem dX11_hasSquare_10 : decode cX11_hasSquare 10 = .ok (.aload_n 0, 1) := by decide +kernel
theorem dX11_hasSquare_11 : decode cX11_hasSquare 11 = .ok (.getfield 124, 3) := by decide +kernel
theorem dX11_hasSquare_14 : decode cX11_hasSquare 14 = .ok (.iload_n 1, 1) := by decide +kernel
theorem dX11_hasSquare_15 : decode cX11_hasSquare 15 = .ok (.iaload, 1) := by decide +kernel
theorem dX11_hasSquare_16 : decode cX11_hasSquare 16 = .ok (.bipush 25, 2) := by decide +kernel
theorem dX11_hasSquare_18 : decode cX11_hasSquare 18 = .ok (.if_icmp .ne 5, 3) := by decide +kernel
theorem dX11_hasSquare_21 : decode cX11_hasSquare 21 = .ok (.iconst 1, 1) := by decide +kernel
theorem dX11_hasSquare_22 : decode cX11_hasSquare 22 = .ok (.ireturn, 1) := by decide +kernel
theorem dX11_hasSquare_23 : decode cX11_hasSquare 23 = .ok (.iinc 1 1, 3) := by decide +kernel
theorem dX11_hasSquare_26 : decode cX11_hasSquare 26 = .ok (.goto (-24), 3) := by decide +kernel
theorem dX11_hasSquare_29 : decode cX11_hasSquare 29 = .ok (.iconst 0, 1) := by decide +kernel
theorem dX11_hasSquare_30 : decode cX11_hasSquare 30 = .ok (.ireturn, 1) := by decide +kernel
theorem dX11_holds_0 : decode cX11_holds 0 = .ok (.aload_n 0, 1) := by decide +kernel
theorem dX11_holds_1 : decode cX11_holds 1 = .ok (.iconst 0, 1) := by decide +kernel
theorem dX11_holds_2 : decode cX11_holds 2 = .ok (.putfield 416, 3) := by decide +kernel
theorem dX11_holds_5 : decode cX11_holds 5 = .ok (.aload_n 0, 1) := by decide +kernel
theorem dX11_holds_6 : decode cX11_holds 6 = .ok (.getfield 127, 3) := by decide +kernel
theorem dX11_holds_9 : decode cX11_holds 9 = .ok (.bipush 6, 2) := by decide +kernel
theorem dX11_holds_11 : decode cX11_holds 11 = .ok (.iload_n 1, 1) := by decide +kernel
theorem dX11_holds_12 : decode cX11_holds 12 = .ok (.iadd, 1) := by decide +kernel
theorem dX11_holds_13 : decode cX11_holds 13 = .ok (.iaload, 1) := by decide +kernel
theorem dX11_holds_14 : decode cX11_holds 14 = .ok (.istore_n 2, 1) := by decide +kernel
theorem dX11_holds_15 : decode cX11_holds 15 = .ok (.iload_n 2, 1) := by decide +kernel
theorem dX11_holds_16 : decode cX11_holds 16 = .ok (.aload_n 0, 1) := by decide +kernel
theorem dX11_holds_17 : decode cX11_holds 17 = .ok (.getfield 130, 3) := by decide +kernel
theorem dX11_holds_20 : decode cX11_holds 20 = .ok (.bipush 6, 2) := by decide +kernel
theorem dX11_holds_22 : decode cX11_holds 22 = .ok (.iload_n 1, 1) := by decide +kernel
theorem dX11_holds_23 : decode cX11_holds 23 = .ok (.iadd, 1) := by decide +kernel
theorem dX11_holds_24 : decode cX11_holds 24 = .ok (.iaload, 1) := by decide +kernel
theorem dX11_holds_25 : decode cX11_holds 25 = .ok (.if_icmp .ge 139, 3) := by decide +kernel
theorem dX11_holds_28 : decode cX11_holds 28 = .ok (.aload_n 0, 1) := by decide +kernel
theorem dX11_holds_29 : decode cX11_holds 29 = .ok (.getfield 121, 3) := by decide +kernel
theorem dX11_holds_32 : decode cX11_holds 32 = .ok (.sipush 1600, 3) := by decide +kernel
theorem dX11_holds_35 : decode cX11_holds 35 = .ok (.iload_n 2, 1) := by decide +kernel
theorem dX11_holds_36 : decode cX11_holds 36 = .ok (.iadd, 1) := by decide +kernel
theorem dX11_holds_37 : decode cX11_holds 37 = .ok (.iaload, 1) := by decide +kernel
theorem dX11_holds_38 : decode cX11_holds 38 = .ok (.istore_n 3, 1) := by decide +kernel
theorem dX11_holds_39 : decode cX11_holds 39 = .ok (.iload_n 3, 1) := by decide +kernel
theorem dX11_holds_40 : decode cX11_holds 40 = .ok (.sipush 1000, 3) := by decide +kernel
theorem dX11_holds_43 : decode cX11_holds 43 = .ok (.if_icmp .lt 16, 3) := by decide +kernel
theorem dX11_holds_46 : decode cX11_holds 46 = .ok (.aload_n 0, 1) := by decide +kernel
theorem dX11_holds_47 : decode cX11_holds 47 = .ok (.iload_n 3, 1) := by decide +kernel
theorem dX11_holds_48 : decode cX11_holds 48 = .ok (.sipush 1000, 3) := by decide +kernel
theorem dX11_holds_51 : decode cX11_holds 51 = .ok (.isub, 1) := by decide +kernel
theorem dX11_holds_52 : decode cX11_holds 52 = .ok (.i2l, 1) := by decide +kernel
theorem dX11_holds_53 : decode cX11_holds 53 = .ok (.invokevirtual 423, 3) := by decide +kernel
theorem dX11_holds_56 : decode cX11_holds 56 = .ok (.goto 102, 3) := by decide +kernel
theorem dX11_holds_59 : decode cX11_holds 59 = .ok (.iload_n 3, 1) := by decide +kernel
theorem dX11_holds_60 : decode cX11_holds 60 = .ok (.bipush 17, 2) := by decide +kernel
theorem dX11_holds_62 : decode cX11_holds 62 = .ok (.if_icmp .ne 11, 3) := by decide +kernel
theorem dX11_holds_65 : decode cX11_holds 65 = .ok (.aload_n 0, 1) := by decide +kernel
theorem dX11_holds_66 : decode cX11_holds 66 = .ok (.lconst 1, 1) := by decide +kernel
theorem dX11_holds_67 : decode cX11_holds 67 = .ok (.invokevirtual 423, 3) := by decide +kernel
theorem dX11_holds_70 : decode cX11_holds 70 = .ok (.goto 88, 3) := by decide +kernel
theorem dX11_holds_73 : decode cX11_holds 73 = .ok (.iload_n 3, 1) := by decide +kernel
theorem dX11_holds_74 : decode cX11_holds 74 = .ok (.bipush 16, 2) := by decide +kernel
theorem dX11_holds_76 : decode cX11_holds 76 = .ok (.if_icmp .ne 30, 3) := by decide +kernel
theorem dX11_holds_79 : decode cX11_holds 79 = .ok (.aload_n 0, 1) := by decide +kernel
theorem dX11_holds_80 : decode cX11_holds 80 = .ok (.getfield 136, 3) := by decide +kernel
theorem dX11_holds_83 : decode cX11_holds 83 = .ok (.aload_n 0, 1) := by decide +kernel
theorem dX11_holds_84 : decode cX11_holds 84 = .ok (.getfield 416, 3) := by decide +kernel
theorem dX11_holds_87 : decode cX11_holds 87 = .ok (.iconst 1, 1) := by decide +kernel
theorem dX11_holds_88 : decode cX11_holds 88 = .ok (.isub, 1) := by decide +kernel
theorem dX11_holds_89 : decode cX11_holds 89 = .ok (.lconst 1, 1) := by decide +kernel
theorem dX11_holds_90 : decode cX11_holds 90 = .ok (.aload_n 0, 1) := by decide +kernel
theorem dX11_holds_91 : decode cX11_holds 91 = .ok (.getfield 136, 3) := by decide +kernel
theorem dX11_holds_94 : decode cX11_holds 94 = .ok (.aload_n 0, 1) := by decide +kernel
theorem dX11_holds_95 : decode cX11_holds 95 = .ok (.getfield 416, 3) := by decide +kernel
theorem dX11_holds_98 : decode cX11_holds 98 = .ok (.iconst 1, 1) := by decide +kernel
theorem dX11_holds_99 : decode cX11_holds 99 = .ok (.isub, 1) := by decide +kernel
theorem dX11_holds_100 : decode cX11_holds 100 = .ok (.laload, 1) := by decide +kernel
theorem dX11_holds_101 : decode cX11_holds 101 = .ok (.lsub, 1) := by decide +kernel
theorem dX11_holds_102 : decode cX11_holds 102 = .ok (.lastore, 1) := by decide +kernel
theorem dX11_holds_103 : decode cX11_holds 103 = .ok (.goto 55, 3) := by decide +kernel
theorem dX11_holds_106 : decode cX11_holds 106 = .ok (.iload_n 3, 1) := by decide +kernel
theorem dX11_holds_107 : decode cX11_holds 107 = .ok (.i2l, 1) := by decide +kernel
theorem dX11_holds_108 : decode cX11_holds 108 = .ok (.ldc2_w 431, 3) := by decide +kernel
theorem dX11_holds_111 : decode cX11_holds 111 = .ok (.ldc2_w 433, 3) := by decide +kernel
theorem dX11_holds_114 : decode cX11_holds 114 = .ok (.invokestatic 264, 3) := by decide +kernel
theorem dX11_holds_117 : decode cX11_holds 117 = .ok (.ifCond .ne 9, 3) := by decide +kernel
theorem dX11_holds_120 : decode cX11_holds 120 = .ok (.iload_n 3, 1) := by decide +kernel
theorem dX11_holds_121 : decode cX11_holds 121 = .ok (.bipush 18, 2) := by decide +kernel
theorem dX11_holds_123 : decode cX11_holds 123 = .ok (.if_icmp .ne 30, 3) := by decide +kernel
theorem dX11_holds_126 : decode cX11_holds 126 = .ok (.aload_n 0, 1) := by decide +kernel
theorem dX11_holds_127 : decode cX11_holds 127 = .ok (.aload_n 0, 1) := by decide +kernel
theorem dX11_holds_128 : decode cX11_holds 128 = .ok (.getfield 139, 3) := by decide +kernel
theorem dX11_holds_131 : decode cX11_holds 131 = .ok (.iload_n 3, 1) := by decide +kernel
theorem dX11_holds_132 : decode cX11_holds 132 = .ok (.bipush 18, 2) := by decide +kernel
theorem dX11_holds_134 : decode cX11_holds 134 = .ok (.if_icmp .ne 7, 3) := by decide +kernel
theorem dX11_holds_137 : decode cX11_holds 137 = .ok (.iconst 4, 1) := by decide +kernel
theorem dX11_holds_138 : decode cX11_holds 138 = .ok (.goto 7, 3) := by decide +kernel
theorem dX11_holds_141 : decode cX11_holds 141 = .ok (.iload_n 3, 1) := by decide +kernel
theorem dX11_holds_142 : decode cX11_holds 142 = .ok (.bipush 7, 2) := by decide +kernel
theorem dX11_holds_144 : decode cX11_holds 144 = .ok (.isub, 1) := by decide +kernel
theorem dX11_holds_145 : decode cX11_holds 145 = .ok (.iaload, 1) := by decide +kernel
theorem dX11_holds_146 : decode cX11_holds 146 = .ok (.i2l, 1) := by decide +kernel
theorem dX11_holds_147 : decode cX11_holds 147 = .ok (.invokevirtual 423, 3) := by decide +kernel
theorem dX11_holds_150 : decode cX11_holds 150 = .ok (.goto 8, 3) := by decide +kernel
theorem dX11_holds_153 : decode cX11_holds 153 = .ok (.aload_n 0, 1) := by decide +kernel
theorem dX11_holds_154 : decode cX11_holds 154 = .ok (.iload_n 3, 1) := by decide +kernel
theorem dX11_holds_155 : decode cX11_holds 155 = .ok (.invokevirtual 435, 3) := by decide +kernel
theorem dX11_holds_158 : decode cX11_holds 158 = .ok (.iinc 2 1, 3) := by decide +kernel
theorem dX11_holds_161 : decode cX11_holds 161 = .ok (.goto (-146), 3) := by decide +kernel
theorem dX11_holds_164 : decode cX11_holds 164 = .ok (.aload_n 0, 1) := by decide +kernel
theorem dX11_holds_165 : decode cX11_holds 165 = .ok (.getfield 136, 3) := by decide +kernel
theorem dX11_holds_168 : decode cX11_holds 168 = .ok (.iconst 0, 1) := by decide +kernel
theorem dX11_holds_169 : decode cX11_holds 169 = .ok (.laload, 1) := by decide +kernel
theorem dX11_holds_170 : decode cX11_holds 170 = .ok (.lconst 1, 1) := by decide +kernel
theorem dX11_holds_171 : decode cX11_holds 171 = .ok (.lcmp, 1) := by decide +kernel
theorem dX11_holds_172 : decode cX11_holds 172 = .ok (.ifCond .ne 7, 3) := by decide +kernel
theorem dX11_holds_175 : decode cX11_holds 175 = .ok (.iconst 1, 1) := by decide +kernel
theorem dX11_holds_176 : decode cX11_holds 176 = .ok (.goto 4, 3) := by decide +kernel
theorem dX11_holds_179 : decode cX11_holds 179 = .ok (.iconst 0, 1) := by decide +kernel
theorem dX11_holds_180 : decode cX11_holds 180 = .ok (.ireturn, 1) := by decide +kernel
theorem dX11_homeOf_0 : decode cX11_homeOf 0 = .ok (.aload_n 0, 1) := by decide +kernel
theorem dX11_homeOf_1 : decode cX11_homeOf 1 = .ok (.getfield 112, 3) := by decide +kernel
theorem dX11_homeOf_4 : decode cX11_homeOf 4 = .ok (.bipush 16, 2) := by decide +kernel
theorem dX11_homeOf_6 : decode cX11_homeOf 6 = .ok (.iconst 4, 1) := by decide +kernel
theorem dX11_homeOf_7 : decode cX11_homeOf 7 = .ok (.iload_n 1, 1) := by decide +kernel
theorem dX11_homeOf_8 : decode cX11_homeOf 8 = .ok (.imul, 1) := by decide +kernel
theorem dX11_homeOf_9 : decode cX11_homeOf 9 = .ok (.iadd, 1) := by decide +kernel
theorem dX11_homeOf_10 : decode cX11_homeOf 10 = .ok (.iaload, 1) := by decide +kernel
theorem dX11_homeOf_11 : decode cX11_homeOf 11 = .ok (.ireturn, 1) := by decide +kernel
theorem dX11_image_0 : decode cX11_image 0 = .ok (.aload_n 0, 1) := by decide +kernel
theorem dX11_image_1 : decode cX11_image 1 = .ok (.iconst 0, 1) := by decide +kernel
theorem dX11_image_2 : decode cX11_image 2 = .ok (.putfield 677, 3) := by decide +kernel
theorem dX11_image_5 : decode cX11_image 5 = .ok (.iconst 0, 1) := by decide +kernel
theorem dX11_image_6 : decode cX11_image 6 = .ok (.istore_n 1, 1) := by decide +kernel
theorem dX11_image_7 : decode cX11_image 7 = .ok (.iload_n 1, 1) := by decide +kernel
theorem dX11_image_8 : decode cX11_image 8 = .ok (.aload_n 0, 1) := by decide +kernel
theorem dX11_image_9 : decode cX11_image 9 = .ok (.invokevirtual 447, 3) := by decide +kernel
theorem dX11_image_12 : decode cX11_image 12 = .ok (.if_icmp .ge 83, 3) := by decide +kernel
theorem dX11_image_15 : decode cX11_image 15 = .ok (.aload_n 0, 1) := by decide +kernel
theorem dX11_image_16 : decode cX11_image 16 = .ok (.aload_n 0, 1) := by decide +kernel
theorem dX11_image_17 : decode cX11_image 17 = .ok (.getfield 145, 3) := by decide +kernel
theorem dX11_image_20 : decode cX11_image 20 = .ok (.iload_n 1, 1) := by decide +kernel
theorem dX11_image_21 : decode cX11_image 21 = .ok (.iaload, 1) := by decide +kernel
theorem dX11_image_22 : decode cX11_image 22 = .ok (.invokevirtual 680, 3) := by decide +kernel
theorem dX11_image_25 : decode cX11_image 25 = .ok (.iconst 0, 1) := by decide +kernel
theorem dX11_image_26 : decode cX11_image 26 = .ok (.istore_n 2, 1) := by decide +kernel
theorem dX11_image_27 : decode cX11_image 27 = .ok (.iload_n 2, 1) := by decide +kernel
theorem dX11_image_28 : decode cX11_image 28 = .ok (.aload_n 0, 1) := by decide +kernel
theorem dX11_image_29 : decode cX11_image 29 = .ok (.getfield 145, 3) := by decide +kernel
theorem dX11_image_32 : decode cX11_image 32 = .ok (.iload_n 1, 1) := by decide +kernel
theorem dX11_image_33 : decode cX11_image 33 = .ok (.iaload, 1) := by decide +kernel
theorem dX11_image_34 : decode cX11_image 34 = .ok (.if_icmp .ge 55, 3) := by decide +kernel
theorem dX11_image_37 : decode cX11_image 37 = .ok (.bipush 24, 2) := by decide +kernel
theorem dX11_image_39 : decode cX11_image 39 = .ok (.iload_n 1, 1) := by decide +kernel
theorem dX11_image_40 : decode cX11_image 40 = .ok (.imul, 1) := by decide +kernel
theorem dX11_image_41 : decode cX11_image 41 = .ok (.iload_n 2, 1) := by decide +kernel
theorem dX11_image_42 : decode cX11_image 42 = .ok (.iadd, 1) := by decide +kernel
theorem dX11_image_43 : decode cX11_image 43 = .ok (.istore_n 3, 1) := by decide +kernel
theorem dX11_image_44 : decode cX11_image 44 = .ok (.aload_n 0, 1) := by decide +kernel
theorem dX11_image_45 : decode cX11_image 45 = .ok (.aload_n 0, 1) := by decide +kernel
theorem dX11_image_46 : decode cX11_image 46 = .ok (.getfield 151, 3) := by decide +kernel
theorem dX11_image_49 : decode cX11_image 49 = .ok (.iload_n 3, 1) := by decide +kernel
theorem dX11_image_50 : decode cX11_image 50 = .ok (.iaload, 1) := by decide +kernel
theorem dX11_image_51 : decode cX11_image 51 = .ok (.iconst (-1), 1) := by decide +kernel
theorem dX11_image_52 : decode cX11_image 52 = .ok (.if_icmp .ne 22, 3) := by decide +kernel
theorem dX11_image_55 : decode cX11_image 55 = .ok (.bipush 100, 2) := by decide +kernel
theorem dX11_image_57 : decode cX11_image 57 = .ok (.aload_n 0, 1) := by decide +kernel
theorem dX11_image_58 : decode cX11_image 58 = .ok (.getfield 154, 3) := by decide +kernel
theorem dX11_image_61 : decode cX11_image 61 = .ok (.iload_n 3, 1) := by decide +kernel
theorem dX11_image_62 : decode cX11_image 62 = .ok (.iaload, 1) := by decide +kernel
theorem dX11_image_63 : decode cX11_image 63 = .ok (.iadd, 1) := by decide +kernel
theorem dX11_image_64 : decode cX11_image 64 = .ok (.aload_n 0, 1) := by decide +kernel
theorem dX11_image_65 : decode cX11_image 65 = .ok (.iload_n 1, 1) := by decide +kernel
theorem dX11_image_66 : decode cX11_image 66 = .ok (.iload_n 2, 1) := by decide +kernel
theorem dX11_image_67 : decode cX11_image 67 = .ok (.invokevirtual 518, 3) := by decide +kernel
theorem dX11_image_70 : decode cX11_image 70 = .ok (.isub, 1) := by decide +kernel
theorem dX11_image_71 : decode cX11_image 71 = .ok (.goto 9, 3) := by decide +kernel
theorem dX11_image_74 : decode cX11_image 74 = .ok (.aload_n 0, 1) := by decide +kernel
theorem dX11_image_75 : decode cX11_image 75 = .ok (.getfield 148, 3) := by decide +kernel
theorem dX11_image_78 : decode cX11_image 78 = .ok (.iload_n 3, 1) := by decide +kernel
theorem dX11_image_79 : decode cX11_image 79 = .ok (.iaload, 1) := by decide +kernel
theorem dX11_image_80 : decode cX11_image 80 = .ok (.invokevirtual 680, 3) := by decide +kernel
theorem dX11_image_83 : decode cX11_image 83 = .ok (.iinc 2 1, 3) := by decide +kernel
theorem dX11_image_86 : decode cX11_image 86 = .ok (.goto (-59), 3) := by decide +kernel
theorem dX11_image_89 : decode cX11_image 89 = .ok (.iinc 1 1, 3) := by decide +kernel
theorem dX11_image_92 : decode cX11_image 92 = .ok (.goto (-85), 3) := by decide +kernel
theorem dX11_image_95 : decode cX11_image 95 = .ok (.aload_n 0, 1) := by decide +kernel
theorem dX11_image_96 : decode cX11_image 96 = .ok (.aload_n 0, 1) := by decide +kernel
theorem dX11_image_97 : decode cX11_image 97 = .ok (.getfield 358, 3) := by decide +kernel
theorem dX11_image_100 : decode cX11_image 100 = .ok (.sipush 256, 3) := by decide +kernel
theorem dX11_image_103 : decode cX11_image 103 = .ok (.idiv, 1) := by decide +kernel
theorem dX11_image_104 : decode cX11_image 104 = .ok (.invokevirtual 680, 3) := by decide +kernel
theorem dX11_image_107 : decode cX11_image 107 = .ok (.aload_n 0, 1) := by decide +kernel
theorem dX11_image_108 : decode cX11_image 108 = .ok (.aload_n 0, 1) := by decide +kernel
theorem dX11_image_109 : decode cX11_image 109 = .ok (.getfield 358, 3) := by decide +kernel
theorem dX11_image_112 : decode cX11_image 112 = .ok (.sipush 256, 3) := by decide +kernel
theorem dX11_image_115 : decode cX11_image 115 = .ok (.irem, 1) := by decide +kernel
theorem dX11_image_116 : decode cX11_image 116 = .ok (.invokevirtual 680, 3) := by decide +kernel
theorem dX11_image_119 : decode cX11_image 119 = .ok (.aload_n 0, 1) := by decide +kernel
theorem dX11_image_120 : decode cX11_image 120 = .ok (.aload_n 0, 1) := by decide +kernel
theorem dX11_image_121 : decode cX11_image 121 = .ok (.getfield 361, 3) := by decide +kernel
theorem dX11_image_124 : decode cX11_image 124 = .ok (.invokevirtual 680, 3) := by decide +kernel
theorem dX11_image_127 : decode cX11_image 127 = .ok (.aload_n 0, 1) := by decide +kernel
theorem dX11_image_128 : decode cX11_image 128 = .ok (.aload_n 0, 1) := by decide +kernel
theorem dX11_image_129 : decode cX11_image 129 = .ok (.getfield 218, 3) := by decide +kernel
theorem dX11_image_132 : decode cX11_image 132 = .ok (.aload_n 0, 1) := by decide +kernel
theorem dX11_image_133 : decode cX11_image 133 = .ok (.getfield 677, 3) := by decide +kernel
theorem dX11_image_136 : decode cX11_image 136 = .ok (.invokestatic 683, 3) := by decide +kernel
theorem dX11_image_139 : decode cX11_image 139 = .ok (.invokevirtual 680, 3) := by decide +kernel
theorem dX11_image_142 : decode cX11_image 142 = .ok (.aload_n 0, 1) := by decide +kernel
theorem dX11_image_143 : decode cX11_image 143 = .ok (.getfield 677, 3) := by decide +kernel
theorem dX11_image_146 : decode cX11_image 146 = .ok (.ireturn, 1) := by decide +kernel
theorem dX11_init_0 : decode cX11_init 0 = .ok (.aload_n 0, 1) := by decide +kernel
theorem dX11_init_1 : decode cX11_init 1 = .ok (.invokespecial 1, 3) := by decide +kernel
theorem dX11_init_4 : decode cX11_init 4 = .ok (.aload_n 0, 1) := by decide +kernel
theorem dX11_init_5 : decode cX11_init 5 = .ok (.sipush 1600, 3) := by decide +kernel
theorem dX11_init_8 : decode cX11_init 8 = .ok (.newarray .int, 2) := by decide +kernel
theorem dX11_init_10 : decode cX11_init 10 = .ok (.putfield 7, 3) := by decide +kernel
theorem dX11_init_13 : decode cX11_init 13 = .ok (.aload_n 0, 1) := by decide +kernel
theorem dX11_init_14 : decode cX11_init 14 = .ok (.iconst (-1), 1) := by decide +kernel
theorem dX11_init_15 : decode cX11_init 15 = .ok (.putfield 13, 3) := by decide +kernel
theorem dX11_init_18 : decode cX11_init 18 = .ok (.aload_n 0, 1) := by decide +kernel
theorem dX11_init_19 : decode cX11_init 19 = .ok (.bipush 6, 2) := by decide +kernel
theorem dX11_init_21 : decode cX11_init 21 = .ok (.newarray .char, 2) := by decide +kernel
theorem dX11_init_23 : decode cX11_init 23 = .ok (.dup, 1) := by decide +kernel
theorem dX11_init_24 : decode cX11_init 24 = .ok (.iconst 0, 1) := by decide +kernel
theorem dX11_init_25 : decode cX11_init 25 = .ok (.bipush 99, 2) := by decide +kernel
theorem dX11_init_27 : decode cX11_init 27 = .ok (.castore, 1) := by decide +kernel
theorem dX11_init_28 : decode cX11_init 28 = .ok (.dup, 1) := by decide +kernel
theorem dX11_init_29 : decode cX11_init 29 = .ok (.iconst 1, 1) := by decide +kernel
theorem dX11_init_30 : decode cX11_init 30 = .ok (.bipush 111, 2) := by decide +kernel
theorem dX11_init_32 : decode cX11_init 32 = .ok (.castore, 1) := by decide +kernel
theorem dX11_init_33 : decode cX11_init 33 = .ok (.dup, 1) := by decide +kernel
theorem dX11_init_34 : decode cX11_init 34 = .ok (.iconst 2, 1) := by decide +kernel
theorem dX11_init_35 : decode cX11_init 35 = .ok (.bipush 114, 2) := by decide +kernel
theorem dX11_init_37 : decode cX11_init 37 = .ok (.castore, 1) := by decide +kernel
theorem dX11_init_38 : decode cX11_init 38 = .ok (.dup, 1) := by decide +kernel
theorem dX11_init_39 : decode cX11_init 39 = .ok (.iconst 3, 1) := by decide +kernel
theorem dX11_init_40 : decode cX11_init 40 = .ok (.bipush 110, 2) := by decide +kernel
theorem dX11_init_42 : decode cX11_init 42 = .ok (.castore, 1) := by decide +kernel
theorem dX11_init_43 : decode cX11_init 43 = .ok (.dup, 1) := by decide +kernel
theorem dX11_init_44 : decode cX11_init 44 = .ok (.iconst 4, 1) := by decide +kernel
theorem dX11_init_45 : decode cX11_init 45 = .ok (.bipush 101, 2) := by decide +kernel
theorem dX11_init_47 : decode cX11_init 47 = .ok (.castore, 1) := by decide +kernel
theorem dX11_init_48 : decode cX11_init 48 = .ok (.dup, 1) := by decide +kernel
theorem dX11_init_49 : decode cX11_init 49 = .ok (.iconst 5, 1) := by decide +kernel
theorem dX11_init_50 : decode cX11_init 50 = .ok (.bipush 114, 2) := by decide +kernel
theorem dX11_init_52 : decode cX11_init 52 = .ok (.castore, 1) := by decide +kernel
theorem dX11_init_53 : decode cX11_init 53 = .ok (.putfield 17, 3) := by decide +kernel
theorem dX11_init_56 : decode cX11_init 56 = .ok (.aload_n 0, 1) := by decide +kernel
theorem dX11_init_57 : decode cX11_init 57 = .ok (.bipush 6, 2) := by decide +kernel
theorem dX11_init_59 : decode cX11_init 59 = .ok (.newarray .char, 2) := by decide +kernel
theorem dX11_init_61 : decode cX11_init 61 = .ok (.dup, 1) := by decide +kernel
theorem dX11_init_62 : decode cX11_init 62 = .ok (.iconst 0, 1) := by decide +kernel
theorem dX11_init_63 : decode cX11_init 63 = .ok (.bipush 112, 2) := by decide +kernel
theorem dX11_init_65 : decode cX11_init 65 = .ok (.castore, 1) := by decide +kernel
theorem dX11_init_66 : decode cX11_init 66 = .ok (.dup, 1) := by decide +kernel
theorem dX11_init_67 : decode cX11_init 67 = .ok (.iconst 1, 1) := by decide +kernel
theorem dX11_init_68 : decode cX11_init 68 = .ok (.bipush 97, 2) := by decide +kernel
theorem dX11_init_70 : decode cX11_init 70 = .ok (.castore, 1) := by decide +kernel
theorem dX11_init_71 : decode cX11_init 71 = .ok (.dup, 1) := by decide +kernel
theorem dX11_init_72 : decode cX11_init 72 = .ok (.iconst 2, 1) := by decide +kernel
theorem dX11_init_73 : decode cX11_init 73 = .ok (.bipush 114, 2) := by decide +kernel
theorem dX11_init_75 : decode cX11_init 75 = .ok (.castore, 1) := by decide +kernel
theorem dX11_init_76 : decode cX11_init 76 = .ok (.dup, 1) := by decide +kernel
theorem dX11_init_77 : decode cX11_init 77 = .ok (.iconst 3, 1) := by decide +kernel
theorem dX11_init_78 : decode cX11_init 78 = .ok (.bipush 105, 2) := by decide +kernel
theorem dX11_init_80 : decode cX11_init 80 = .ok (.castore, 1) := by decide +kernel
theorem dX11_init_81 : decode cX11_init 81 = .ok (.dup, 1) := by decide +kernel
theorem dX11_init_82 : decode cX11_init 82 = .ok (.iconst 4, 1) := by decide +kernel
theorem dX11_init_83 : decode cX11_init 83 = .ok (.bipush 115, 2) := by decide +kernel
theorem dX11_init_85 : decode cX11_init 85 = .ok (.castore, 1) := by decide +kernel
theorem dX11_init_86 : decode cX11_init 86 = .ok (.dup, 1) := by decide +kernel
theorem dX11_init_87 : decode cX11_init 87 = .ok (.iconst 5, 1) := by decide +kernel
theorem dX11_init_88 : decode cX11_init 88 = .ok (.bipush 104, 2) := by decide +kernel
theorem dX11_init_90 : decode cX11_init 90 = .ok (.castore, 1) := by decide +kernel
theorem dX11_init_91 : decode cX11_init 91 = .ok (.putfield 21, 3) := by decide +kernel
theorem dX11_init_94 : decode cX11_init 94 = .ok (.aload_n 0, 1) := by decide +kernel
theorem dX11_init_95 : decode cX11_init 95 = .ok (.iconst 4, 1) := by decide +kernel
theorem dX11_init_96 : decode cX11_init 96 = .ok (.newarray .char, 2) := by decide +kernel
theorem dX11_init_98 : decode cX11_init 98 = .ok (.dup, 1) := by decide +kernel
theorem dX11_init_99 : decode cX11_init 99 = .ok (.iconst 0, 1) := by decide +kernel
theorem dX11_init_100 : decode cX11_init 100 = .ok (.bipush 108, 2) := by decide +kernel
theorem dX11_init_102 : decode cX11_init 102 = .ok (.castore, 1) := by decide +kernel
theorem dX11_init_103 : decode cX11_init 103 = .ok (.dup, 1) := by decide +kernel
theorem dX11_init_104 : decode cX11_init 104 = .ok (.iconst 1, 1) := by decide +kernel
theorem dX11_init_105 : decode cX11_init 105 = .ok (.bipush 97, 2) := by decide +kernel
theorem dX11_init_107 : decode cX11_init 107 = .ok (.castore, 1) := by decide +kernel
theorem dX11_init_108 : decode cX11_init 108 = .ok (.dup, 1) := by decide +kernel
theorem dX11_init_109 : decode cX11_init 109 = .ok (.iconst 2, 1) := by decide +kernel
theorem dX11_init_110 : decode cX11_init 110 = .ok (.bipush 110, 2) := by decide +kernel
theorem dX11_init_112 : decode cX11_init 112 = .ok (.castore, 1) := by decide +kernel
theorem dX11_init_113 : decode cX11_init 113 = .ok (.dup, 1) := by decide +kernel
theorem dX11_init_114 : decode cX11_init 114 = .ok (.iconst 3, 1) := by decide +kernel
theorem dX11_init_115 : decode cX11_init 115 = .ok (.bipush 101, 2) := by decide +kernel
theorem dX11_init_117 : decode cX11_init 117 = .ok (.castore, 1) := by decide +kernel
theorem dX11_init_118 : decode cX11_init 118 = .ok (.putfield 24, 3) := by decide +kernel
theorem dX11_init_121 : decode cX11_init 121 = .ok (.aload_n 0, 1) := by decide +kernel
theorem dX11_init_122 : decode cX11_init 122 = .ok (.iconst 4, 1) := by decide +kernel
theorem dX11_init_123 : decode cX11_init 123 = .ok (.newarray .char, 2) := by decide +kernel
theorem dX11_init_125 : decode cX11_init 125 = .ok (.dup, 1) := by decide +kernel
theorem dX11_init_126 : decode cX11_init 126 = .ok (.iconst 0, 1) := by decide +kernel
theorem dX11_init_127 : decode cX11_init 127 = .ok (.bipush 108, 2) := by decide +kernel
theorem dX11_init_129 : decode cX11_init 129 = .ok (.castore, 1) := by decide +kernel
theorem dX11_init_130 : decode cX11_init 130 = .ok (.dup, 1) := by decide +kernel
theorem dX11_init_131 : decode cX11_init 131 = .ok (.iconst 1, 1) := by decide +kernel
theorem dX11_init_132 : decode cX11_init 132 = .ok (.bipush 111, 2) := by decide +kernel
theorem dX11_init_134 : decode cX11_init 134 = .ok (.castore, 1) := by decide +kernel
theorem dX11_init_135 : decode cX11_init 135 = .ok (.dup, 1) := by decide +kernel
theorem dX11_init_136 : decode cX11_init 136 = .ok (.iconst 2, 1) := by decide +kernel
theorem dX11_init_137 : decode cX11_init 137 = .ok (.bipush 110, 2) := by decide +kernel
theorem dX11_init_139 : decode cX11_init 139 = .ok (.castore, 1) := by decide +kernel
theorem dX11_init_140 : decode cX11_init 140 = .ok (.dup, 1) := by decide +kernel
theorem dX11_init_141 : decode cX11_init 141 = .ok (.iconst 3, 1) := by decide +kernel
theorem dX11_init_142 : decode cX11_init 142 = .ok (.bipush 103, 2) := by decide +kernel
theorem dX11_init_144 : decode cX11_init 144 = .ok (.castore, 1) := by decide +kernel
theorem dX11_init_145 : decode cX11_init 145 = .ok (.putfield 27, 3) := by decide +kernel
theorem dX11_init_148 : decode cX11_init 148 = .ok (.aload_n 0, 1) := by decide +kernel
theorem dX11_init_149 : decode cX11_init 149 = .ok (.iconst 5, 1) := by decide +kernel
theorem dX11_init_150 : decode cX11_init 150 = .ok (.newarray .char, 2) := by decide +kernel
theorem dX11_init_152 : decode cX11_init 152 = .ok (.dup, 1) := by decide +kernel
theorem dX11_init_153 : decode cX11_init 153 = .ok (.iconst 0, 1) := by decide +kernel
theorem dX11_init_154 : decode cX11_init 154 = .ok (.bipush 119, 2) := by decide +kernel
theorem dX11_init_156 : decode cX11_init 156 = .ok (.castore, 1) := by decide +kernel
theorem dX11_init_157 : decode cX11_init 157 = .ok (.dup, 1) := by decide +kernel
theorem dX11_init_158 : decode cX11_init 158 = .ok (.iconst 1, 1) := by decide +kernel
theorem dX11_init_159 : decode cX11_init 159 = .ok (.bipush 97, 2) := by decide +kernel
theorem dX11_init_161 : decode cX11_init 161 = .ok (.castore, 1) := by decide +kernel
theorem dX11_init_162 : decode cX11_init 162 = .ok (.dup, 1) := by decide +kernel
theorem dX11_init_163 : decode cX11_init 163 = .ok (.iconst 2, 1) := by decide +kernel
theorem dX11_init_164 : decode cX11_init 164 = .ok (.bipush 108, 2) := by decide +kernel
theorem dX11_init_166 : decode cX11_init 166 = .ok (.castore, 1) := by decide +kernel
theorem dX11_init_167 : decode cX11_init 167 = .ok (.dup, 1) := by decide +kernel
theorem dX11_init_168 : decode cX11_init 168 = .ok (.iconst 3, 1) := by decide +kernel
theorem dX11_init_169 : decode cX11_init 169 = .ok (.bipush 108, 2) := by decide +kernel
theorem dX11_init_171 : decode cX11_init 171 = .ok (.castore, 1) := by decide +kernel
theorem dX11_init_172 : decode cX11_init 172 = .ok (.dup, 1) := by decide +kernel
theorem dX11_init_173 : decode cX11_init 173 = .ok (.iconst 4, 1) := by decide +kernel
theorem dX11_init_174 : decode cX11_init 174 = .ok (.bipush 115, 2) := by decide +kernel
theorem dX11_init_176 : decode cX11_init 176 = .ok (.castore, 1) := by decide +kernel
theorem dX11_init_177 : decode cX11_init 177 = .ok (.putfield 30, 3) := by decide +kernel
theorem dX11_init_180 : decode cX11_init 180 = .ok (.aload_n 0, 1) := by decide +kernel
theorem dX11_init_181 : decode cX11_init 181 = .ok (.iconst 5, 1) := by decide +kernel
theorem dX11_init_182 : decode cX11_init 182 = .ok (.newarray .char, 2) := by decide +kernel
theorem dX11_init_184 : decode cX11_init 184 = .ok (.dup, 1) := by decide +kernel
theorem dX11_init_185 : decode cX11_init 185 = .ok (.iconst 0, 1) := by decide +kernel
theorem dX11_init_186 : decode cX11_init 186 = .ok (.bipush 115, 2) := by decide +kernel
theorem dX11_init_188 : decode cX11_init 188 = .ok (.castore, 1) := by decide +kernel
theorem dX11_init_189 : decode cX11_init 189 = .ok (.dup, 1) := by decide +kernel
theorem dX11_init_190 : decode cX11_init 190 = .ok (.iconst 1, 1) := by decide +kernel
theorem dX11_init_191 : decode cX11_init 191 = .ok (.bipush 97, 2) := by decide +kernel
theorem dX11_init_193 : decode cX11_init 193 = .ok (.castore, 1) := by decide +kernel
theorem dX11_init_194 : decode cX11_init 194 = .ok (.dup, 1) := by decide +kernel
theorem dX11_init_195 : decode cX11_init 195 = .ok (.iconst 2, 1) := by decide +kernel
theorem dX11_init_196 : decode cX11_init 196 = .ok (.bipush 105, 2) := by decide +kernel
theorem dX11_init_198 : decode cX11_init 198 = .ok (.castore, 1) := by decide +kernel
theorem dX11_init_199 : decode cX11_init 199 = .ok (.dup, 1) := by decide +kernel
theorem dX11_init_200 : decode cX11_init 200 = .ok (.iconst 3, 1) := by decide +kernel
theorem dX11_init_201 : decode cX11_init 201 = .ok (.bipush 110, 2) := by decide +kernel
theorem dX11_init_203 : decode cX11_init 203 = .ok (.castore, 1) := by decide +kernel
theorem dX11_init_204 : decode cX11_init 204 = .ok (.dup, 1) := by decide +kernel
theorem dX11_init_205 : decode cX11_init 205 = .ok (.iconst 4, 1) := by decide +kernel
theorem dX11_init_206 : decode cX11_init 206 = .ok (.bipush 116, 2) := by decide +kernel
theorem dX11_init_208 : decode cX11_init 208 = .ok (.castore, 1) := by decide +kernel
theorem dX11_init_209 : decode cX11_init 209 = .ok (.putfield 33, 3) := by decide +kernel
theorem dX11_init_212 : decode cX11_init 212 = .ok (.aload_n 0, 1) := by decide +kernel
theorem dX11_init_213 : decode cX11_init 213 = .ok (.iconst 2, 1) := by decide +kernel
theorem dX11_init_214 : decode cX11_init 214 = .ok (.newarray .char, 2) := by decide +kernel
theorem dX11_init_216 : decode cX11_init 216 = .ok (.dup, 1) := by decide +kernel
theorem dX11_init_217 : decode cX11_init 217 = .ok (.iconst 0, 1) := by decide +kernel
theorem dX11_init_218 : decode cX11_init 218 = .ok (.bipush 97, 2) := by decide +kernel
theorem dX11_init_220 : decode cX11_init 220 = .ok (.castore, 1) := by decide +kernel
theorem dX11_init_221 : decode cX11_init 221 = .ok (.dup, 1) := by decide +kernel
theorem dX11_init_222 : decode cX11_init 222 = .ok (.iconst 1, 1) := by decide +kernel
theorem dX11_init_223 : decode cX11_init 223 = .ok (.bipush 116, 2) := by decide +kernel
theorem dX11_init_225 : decode cX11_init 225 = .ok (.castore, 1) := by decide +kernel
theorem dX11_init_226 : decode cX11_init 226 = .ok (.putfield 36, 3) := by decide +kernel
theorem dX11_init_229 : decode cX11_init 229 = .ok (.aload_n 0, 1) := by decide +kernel
theorem dX11_init_230 : decode cX11_init 230 = .ok (.iconst 4, 1) := by decide +kernel
theorem dX11_init_231 : decode cX11_init 231 = .ok (.newarray .char, 2) := by decide +kernel
theorem dX11_init_233 : decode cX11_init 233 = .ok (.dup, 1) := by decide +kernel
theorem dX11_init_234 : decode cX11_init 234 = .ok (.iconst 0, 1) := by decide +kernel
theorem dX11_init_235 : decode cX11_init 235 = .ok (.bipush 112, 2) := by decide +kernel
theorem dX11_init_237 : decode cX11_init 237 = .ok (.castore, 1) := by decide +kernel
theorem dX11_init_238 : decode cX11_init 238 = .ok (.dup, 1) := by decide +kernel
theorem dX11_init_239 : decode cX11_init 239 = .ok (.iconst 1, 1) := by decide +kernel
theorem dX11_init_240 : decode cX11_init 240 = .ok (.bipush 97, 2) := by decide +kernel
theorem dX11_init_242 : decode cX11_init 242 = .ok (.castore, 1) := by decide +kernel
theorem dX11_init_243 : decode cX11_init 243 = .ok (.dup, 1) := by decide +kernel
theorem dX11_init_244 : decode cX11_init 244 = .ok (.iconst 2, 1) := by decide +kernel
theorem dX11_init_245 : decode cX11_init 245 = .ok (.bipush 99, 2) := by decide +kernel
theorem dX11_init_247 : decode cX11_init 247 = .ok (.castore, 1) := by decide +kernel
theorem dX11_init_248 : decode cX11_init 248 = .ok (.dup, 1) := by decide +kernel
theorem dX11_init_249 : decode cX11_init 249 = .ok (.iconst 3, 1) := by decide +kernel
theorem dX11_init_250 : decode cX11_init 250 = .ok (.bipush 101, 2) := by decide +kernel
theorem dX11_init_252 : decode cX11_init 252 = .ok (.castore, 1) := by decide +kernel
theorem dX11_init_253 : decode cX11_init 253 = .ok (.putfield 39, 3) := by decide +kernel
theorem dX11_init_256 : decode cX11_init 256 = .ok (.aload_n 0, 1) := by decide +kernel
theorem dX11_init_257 : decode cX11_init 257 = .ok (.iconst 4, 1) := by decide +kernel
theorem dX11_init_258 : decode cX11_init 258 = .ok (.newarray .char, 2) := by decide +kernel
theorem dX11_init_260 : decode cX11_init 260 = .ok (.dup, 1) := by decide +kernel
theorem dX11_init_261 : decode cX11_init 261 = .ok (.iconst 0, 1) := by decide +kernel
theorem dX11_init_262 : decode cX11_init 262 = .ok (.bipush 108, 2) := by decide +kernel
theorem dX11_init_264 : decode cX11_init 264 = .ok (.castore, 1) := by decide +kernel
theorem dX11_init_265 : decode cX11_init 265 = .ok (.dup, 1) := by decide +kernel
theorem dX11_init_266 : decode cX11_init 266 = .ok (.iconst 1, 1) := by decide +kernel
theorem dX11_init_267 : decode cX11_init 267 = .ok (.bipush 111, 2) := by decide +kernel
theorem dX11_init_269 : decode cX11_init 269 = .ok (.castore, 1) := by decide +kernel
theorem dX11_init_270 : decode cX11_init 270 = .ok (.dup, 1) := by decide +kernel
theorem dX11_init_271 : decode cX11_init 271 = .ok (.iconst 2, 1) := by decide +kernel
theorem dX11_init_272 : decode cX11_init 272 = .ok (.bipush 117, 2) := by decide +kernel
theorem dX11_init_274 : decode cX11_init 274 = .ok (.castore, 1) := by decide +kernel
theorem dX11_init_275 : decode cX11_init 275 = .ok (.dup, 1) := by decide +kernel
theorem dX11_init_276 : decode cX11_init 276 = .ok (.iconst 3, 1) := by decide +kernel
theorem dX11_init_277 : decode cX11_init 277 = .ok (.bipush 100, 2) := by decide +kernel
theorem dX11_init_279 : decode cX11_init 279 = .ok (.castore, 1) := by decide +kernel
theorem dX11_init_280 : decode cX11_init 280 = .ok (.putfield 42, 3) := by decide +kernel
theorem dX11_init_283 : decode cX11_init 283 = .ok (.aload_n 0, 1) := by decide +kernel
theorem dX11_init_284 : decode cX11_init 284 = .ok (.bipush 6, 2) := by decide +kernel
theorem dX11_init_286 : decode cX11_init 286 = .ok (.newarray .char, 2) := by decide +kernel
theorem dX11_init_288 : decode cX11_init 288 = .ok (.dup, 1) := by decide +kernel
theorem dX11_init_289 : decode cX11_init 289 = .ok (.iconst 0, 1) := by decide +kernel
theorem dX11_init_290 : decode cX11_init 290 = .ok (.bipush 112, 2) := by decide +kernel
theorem dX11_init_292 : decode cX11_init 292 = .ok (.castore, 1) := by decide +kernel
theorem dX11_init_293 : decode cX11_init 293 = .ok (.dup, 1) := by decide +kernel
theorem dX11_init_294 : decode cX11_init 294 = .ok (.iconst 1, 1) := by decide +kernel
theorem dX11_init_295 : decode cX11_init 295 = .ok (.bipush 101, 2) := by decide +kernel
theorem dX11_init_297 : decode cX11_init 297 = .ok (.castore, 1) := by decide +kernel
theorem dX11_init_298 : decode cX11_init 298 = .ok (.dup, 1) := by decide +kernel
theorem dX11_init_299 : decode cX11_init 299 = .ok (.iconst 2, 1) := by decide +kernel
theorem dX11_init_300 : decode cX11_init 300 = .ok (.bipush 116, 2) := by decide +kernel
theorem dX11_init_302 : decode cX11_init 302 = .ok (.castore, 1) := by decide +kernel
theorem dX11_init_303 : decode cX11_init 303 = .ok (.dup, 1) := by decide +kernel
theorem dX11_init_304 : decode cX11_init 304 = .ok (.iconst 3, 1) := by decide +kernel
theorem dX11_init_305 : decode cX11_init 305 = .ok (.bipush 97, 2) := by decide +kernel
theorem dX11_init_307 : decode cX11_init 307 = .ok (.castore, 1) := by decide +kernel
theorem dX11_init_308 : decode cX11_init 308 = .ok (.dup, 1) := by decide +kernel
theorem dX11_init_309 : decode cX11_init 309 = .ok (.iconst 4, 1) := by decide +kernel
theorem dX11_init_310 : decode cX11_init 310 = .ok (.bipush 108, 2) := by decide +kernel
theorem dX11_init_312 : decode cX11_init 312 = .ok (.castore, 1) := by decide +kernel
theorem dX11_init_313 : decode cX11_init 313 = .ok (.dup, 1) := by decide +kernel
theorem dX11_init_314 : decode cX11_init 314 = .ok (.iconst 5, 1) := by decide +kernel
theorem dX11_init_315 : decode cX11_init 315 = .ok (.bipush 115, 2) := by decide +kernel
theorem dX11_init_317 : decode cX11_init 317 = .ok (.castore, 1) := by decide +kernel
theorem dX11_init_318 : decode cX11_init 318 = .ok (.putfield 45, 3) := by decide +kernel
theorem dX11_init_321 : decode cX11_init 321 = .ok (.aload_n 0, 1) := by decide +kernel
theorem dX11_init_322 : decode cX11_init 322 = .ok (.bipush 7, 2) := by decide +kernel
theorem dX11_init_324 : decode cX11_init 324 = .ok (.newarray .char, 2) := by decide +kernel
theorem dX11_init_326 : decode cX11_init 326 = .ok (.dup, 1) := by decide +kernel
theorem dX11_init_327 : decode cX11_init 327 = .ok (.iconst 0, 1) := by decide +kernel
theorem dX11_init_328 : decode cX11_init 328 = .ok (.bipush 98, 2) := by decide +kernel
theorem dX11_init_330 : decode cX11_init 330 = .ok (.castore, 1) := by decide +kernel
theorem dX11_init_331 : decode cX11_init 331 = .ok (.dup, 1) := by decide +kernel
theorem dX11_init_332 : decode cX11_init 332 = .ok (.iconst 1, 1) := by decide +kernel
theorem dX11_init_333 : decode cX11_init 333 = .ok (.bipush 97, 2) := by decide +kernel
theorem dX11_init_335 : decode cX11_init 335 = .ok (.castore, 1) := by decide +kernel
theorem dX11_init_336 : decode cX11_init 336 = .ok (.dup, 1) := by decide +kernel
theorem dX11_init_337 : decode cX11_init 337 = .ok (.iconst 2, 1) := by decide +kernel
theorem dX11_init_338 : decode cX11_init 338 = .ok (.bipush 108, 2) := by decide +kernel
theorem dX11_init_340 : decode cX11_init 340 = .ok (.castore, 1) := by decide +kernel
theorem dX11_init_341 : decode cX11_init 341 = .ok (.dup, 1) := by decide +kernel
theorem dX11_init_342 : decode cX11_init 342 = .ok (.iconst 3, 1) := by decide +kernel
theorem dX11_init_343 : decode cX11_init 343 = .ok (.bipush 99, 2) := by decide +kernel
theorem dX11_init_345 : decode cX11_init 345 = .ok (.castore, 1) := by decide +kernel
theorem dX11_init_346 : decode cX11_init 346 = .ok (.dup, 1) := by decide +kernel
theorem dX11_init_347 : decode cX11_init 347 = .ok (.iconst 4, 1) := by decide +kernel
theorem dX11_init_348 : decode cX11_init 348 = .ok (.bipush 111, 2) := by decide +kernel
theorem dX11_init_350 : decode cX11_init 350 = .ok (.castore, 1) := by decide +kernel
theorem dX11_init_351 : decode cX11_init 351 = .ok (.dup, 1) := by decide +kernel
theorem dX11_init_352 : decode cX11_init 352 = .ok (.iconst 5, 1) := by decide +kernel
theorem dX11_init_353 : decode cX11_init 353 = .ok (.bipush 110, 2) := by decide +kernel
theorem dX11_init_355 : decode cX11_init 355 = .ok (.castore, 1) := by decide +kernel
theorem dX11_init_356 : decode cX11_init 356 = .ok (.dup, 1) := by decide +kernel
theorem dX11_init_357 : decode cX11_init 357 = .ok (.bipush 6, 2) := by decide +kernel
theorem dX11_init_359 : decode cX11_init 359 = .ok (.bipush 121, 2) := by decide +kernel
theorem dX11_init_361 : decode cX11_init 361 = .ok (.castore, 1) := by decide +kernel
theorem dX11_init_362 : decode cX11_init 362 = .ok (.putfield 48, 3) := by decide +kernel
theorem dX11_init_365 : decode cX11_init 365 = .ok (.aload_n 0, 1) := by decide +kernel
theorem dX11_init_366 : decode cX11_init 366 = .ok (.iconst 4, 1) := by decide +kernel
theorem dX11_init_367 : decode cX11_init 367 = .ok (.newarray .char, 2) := by decide +kernel
theorem dX11_init_369 : decode cX11_init 369 = .ok (.dup, 1) := by decide +kernel
theorem dX11_init_370 : decode cX11_init 370 = .ok (.iconst 0, 1) := by decide +kernel
theorem dX11_init_371 : decode cX11_init 371 = .ok (.bipush 102, 2) := by decide +kernel
theorem dX11_init_373 : decode cX11_init 373 = .ok (.castore, 1) := by decide +kernel
theorem dX11_init_374 : decode cX11_init 374 = .ok (.dup, 1) := by decide +kernel
theorem dX11_init_375 : decode cX11_init 375 = .ok (.iconst 1, 1) := by decide +kernel
theorem dX11_init_376 : decode cX11_init 376 = .ok (.bipush 114, 2) := by decide +kernel
theorem dX11_init_378 : decode cX11_init 378 = .ok (.castore, 1) := by decide +kernel
theorem dX11_init_379 : decode cX11_init 379 = .ok (.dup, 1) := by decide +kernel
theorem dX11_init_380 : decode cX11_init 380 = .ok (.iconst 2, 1) := by decide +kernel
theorem dX11_init_381 : decode cX11_init 381 = .ok (.bipush 111, 2) := by decide +kernel
theorem dX11_init_383 : decode cX11_init 383 = .ok (.castore, 1) := by decide +kernel
theorem dX11_init_384 : decode cX11_init 384 = .ok (.dup, 1) := by decide +kernel
theorem dX11_init_385 : decode cX11_init 385 = .ok (.iconst 3, 1) := by decide +kernel
theorem dX11_init_386 : decode cX11_init 386 = .ok (.bipush 109, 2) := by decide +kernel
theorem dX11_init_388 : decode cX11_init 388 = .ok (.castore, 1) := by decide +kernel
theorem dX11_init_389 : decode cX11_init 389 = .ok (.putfield 51, 3) := by decide +kernel
theorem dX11_init_392 : decode cX11_init 392 = .ok (.aload_n 0, 1) := by decide +kernel
theorem dX11_init_393 : decode cX11_init 393 = .ok (.iconst 2, 1) := by decide +kernel
theorem dX11_init_394 : decode cX11_init 394 = .ok (.newarray .char, 2) := by decide +kernel
theorem dX11_init_396 : decode cX11_init 396 = .ok (.dup, 1) := by decide +kernel
theorem dX11_init_397 : decode cX11_init 397 = .ok (.iconst 0, 1) := by decide +kernel
theorem dX11_init_398 : decode cX11_init 398 = .ok (.bipush 116, 2) := by decide +kernel
theorem dX11_init_400 : decode cX11_init 400 = .ok (.castore, 1) := by decide +kernel
theorem dX11_init_401 : decode cX11_init 401 = .ok (.dup, 1) := by decide +kernel
theorem dX11_init_402 : decode cX11_init 402 = .ok (.iconst 1, 1) := by decide +kernel
theorem dX11_init_403 : decode cX11_init 403 = .ok (.bipush 111, 2) := by decide +kernel
theorem dX11_init_405 : decode cX11_init 405 = .ok (.castore, 1) := by decide +kernel
theorem dX11_init_406 : decode cX11_init 406 = .ok (.putfield 54, 3) := by decide +kernel
theorem dX11_init_409 : decode cX11_init 409 = .ok (.aload_n 0, 1) := by decide +kernel
theorem dX11_init_410 : decode cX11_init 410 = .ok (.iconst 5, 1) := by decide +kernel
theorem dX11_init_411 : decode cX11_init 411 = .ok (.newarray .char, 2) := by decide +kernel
theorem dX11_init_413 : decode cX11_init 413 = .ok (.dup, 1) := by decide +kernel
theorem dX11_init_414 : decode cX11_init 414 = .ok (.iconst 0, 1) := by decide +kernel
theorem dX11_init_415 : decode cX11_init 415 = .ok (.bipush 119, 2) := by decide +kernel
theorem dX11_init_417 : decode cX11_init 417 = .ok (.castore, 1) := by decide +kernel
theorem dX11_init_418 : decode cX11_init 418 = .ok (.dup, 1) := by decide +kernel
theorem dX11_init_419 : decode cX11_init 419 = .ok (.iconst 1, 1) := by decide +kernel
theorem dX11_init_420 : decode cX11_init 420 = .ok (.bipush 111, 2) := by decide +kernel
theorem dX11_init_422 : decode cX11_init 422 = .ok (.castore, 1) := by decide +kernel
theorem dX11_init_423 : decode cX11_init 423 = .ok (.dup, 1) := by decide +kernel
theorem dX11_init_424 : decode cX11_init 424 = .ok (.iconst 2, 1) := by decide +kernel
theorem dX11_init_425 : decode cX11_init 425 = .ok (.bipush 114, 2) := by decide +kernel
theorem dX11_init_427 : decode cX11_init 427 = .ok (.castore, 1) := by decide +kernel
theorem dX11_init_428 : decode cX11_init 428 = .ok (.dup, 1) := by decide +kernel
theorem dX11_init_429 : decode cX11_init 429 = .ok (.iconst 3, 1) := by decide +kernel
theorem dX11_init_430 : decode cX11_init 430 = .ok (.bipush 116, 2) := by decide +kernel
theorem dX11_init_432 : decode cX11_init 432 = .ok (.castore, 1) := by decide +kernel
theorem dX11_init_433 : decode cX11_init 433 = .ok (.dup, 1) := by decide +kernel
theorem dX11_init_434 : decode cX11_init 434 = .ok (.iconst 4, 1) := by decide +kernel
theorem dX11_init_435 : decode cX11_init 435 = .ok (.bipush 104, 2) := by decide +kernel
theorem dX11_init_437 : decode cX11_init 437 = .ok (.castore, 1) := by decide +kernel
theorem dX11_init_438 : decode cX11_init 438 = .ok (.putfield 57, 3) := by decide +kernel
theorem dX11_init_441 : decode cX11_init 441 = .ok (.aload_n 0, 1) := by decide +kernel
theorem dX11_init_442 : decode cX11_init 442 = .ok (.iconst 3, 1) := by decide +kernel
theorem dX11_init_443 : decode cX11_init 443 = .ok (.newarray .char, 2) := by decide +kernel
theorem dX11_init_445 : decode cX11_init 445 = .ok (.dup, 1) := by decide +kernel
theorem dX11_init_446 : decode cX11_init 446 = .ok (.iconst 0, 1) := by decide +kernel
theorem dX11_init_447 : decode cX11_init 447 = .ok (.bipush 98, 2) := by decide +kernel
theorem dX11_init_449 : decode cX11_init 449 = .ok (.castore, 1) := by decide +kernel
theorem dX11_init_450 : decode cX11_init 450 = .ok (.dup, 1) := by decide +kernel
theorem dX11_init_451 : decode cX11_init 451 = .ok (.iconst 1, 1) := by decide +kernel
theorem dX11_init_452 : decode cX11_init 452 = .ok (.bipush 117, 2) := by decide +kernel
theorem dX11_init_454 : decode cX11_init 454 = .ok (.castore, 1) := by decide +kernel
theorem dX11_init_455 : decode cX11_init 455 = .ok (.dup, 1) := by decide +kernel
theorem dX11_init_456 : decode cX11_init 456 = .ok (.iconst 2, 1) := by decide +kernel
theorem dX11_init_457 : decode cX11_init 457 = .ok (.bipush 116, 2) := by decide +kernel
theorem dX11_init_459 : decode cX11_init 459 = .ok (.castore, 1) := by decide +kernel
theorem dX11_init_460 : decode cX11_init 460 = .ok (.putfield 60, 3) := by decide +kernel
theorem dX11_init_463 : decode cX11_init 463 = .ok (.aload_n 0, 1) := by decide +kernel
theorem dX11_init_464 : decode cX11_init 464 = .ok (.iconst 4, 1) := by decide +kernel
theorem dX11_init_465 : decode cX11_init 465 = .ok (.newarray .char, 2) := by decide +kernel
theorem dX11_init_467 : decode cX11_init 467 = .ok (.dup, 1) := by decide +kernel
theorem dX11_init_468 : decode cX11_init 468 = .ok (.iconst 0, 1) := by decide +kernel
theorem dX11_init_469 : decode cX11_init 469 = .ok (.bipush 114, 2) := by decide +kernel
theorem dX11_init_471 : decode cX11_init 471 = .ok (.castore, 1) := by decide +kernel
theorem dX11_init_472 : decode cX11_init 472 = .ok (.dup, 1) := by decide +kernel
theorem dX11_init_473 : decode cX11_init 473 = .ok (.iconst 1, 1) := by decide +kernel
theorem dX11_init_474 : decode cX11_init 474 = .ok (.bipush 97, 2) := by decide +kernel
theorem dX11_init_476 : decode cX11_init 476 = .ok (.castore, 1) := by decide +kernel
theorem dX11_init_477 : decode cX11_init 477 = .ok (.dup, 1) := by decide +kernel
theorem dX11_init_478 : decode cX11_init 478 = .ok (.iconst 2, 1) := by decide +kernel
theorem dX11_init_479 : decode cX11_init 479 = .ok (.bipush 105, 2) := by decide +kernel
theorem dX11_init_481 : decode cX11_init 481 = .ok (.castore, 1) := by decide +kernel
theorem dX11_init_482 : decode cX11_init 482 = .ok (.dup, 1) := by decide +kernel
theorem dX11_init_483 : decode cX11_init 483 = .ok (.iconst 3, 1) := by decide +kernel
theorem dX11_init_484 : decode cX11_init 484 = .ok (.bipush 110, 2) := by decide +kernel
theorem dX11_init_486 : decode cX11_init 486 = .ok (.castore, 1) := by decide +kernel
theorem dX11_init_487 : decode cX11_init 487 = .ok (.putfield 63, 3) := by decide +kernel
theorem dX11_init_490 : decode cX11_init 490 = .ok (.aload_n 0, 1) := by decide +kernel
theorem dX11_init_491 : decode cX11_init 491 = .ok (.iconst 2, 1) := by decide +kernel
theorem dX11_init_492 : decode cX11_init 492 = .ok (.newarray .char, 2) := by decide +kernel
theorem dX11_init_494 : decode cX11_init 494 = .ok (.dup, 1) := by decide +kernel
theorem dX11_init_495 : decode cX11_init 495 = .ok (.iconst 0, 1) := by decide +kernel
theorem dX11_init_496 : decode cX11_init 496 = .ok (.bipush 111, 2) := by decide +kernel
theorem dX11_init_498 : decode cX11_init 498 = .ok (.castore, 1) := by decide +kernel
theorem dX11_init_499 : decode cX11_init 499 = .ok (.dup, 1) := by decide +kernel
theorem dX11_init_500 : decode cX11_init 500 = .ok (.iconst 1, 1) := by decide +kernel
theorem dX11_init_501 : decode cX11_init 501 = .ok (.bipush 114, 2) := by decide +kernel
theorem dX11_init_503 : decode cX11_init 503 = .ok (.castore, 1) := by decide +kernel
theorem dX11_init_504 : decode cX11_init 504 = .ok (.putfield 66, 3) := by decide +kernel
theorem dX11_init_507 : decode cX11_init 507 = .ok (.aload_n 0, 1) := by decide +kernel
theorem dX11_init_508 : decode cX11_init 508 = .ok (.iconst 3, 1) := by decide +kernel
theorem dX11_init_509 : decode cX11_init 509 = .ok (.newarray .char, 2) := by decide +kernel
theorem dX11_init_511 : decode cX11_init 511 = .ok (.dup, 1) := by decide +kernel
theorem dX11_init_512 : decode cX11_init 512 = .ok (.iconst 0, 1) := by decide +kernel
theorem dX11_init_513 : decode cX11_init 513 = .ok (.bipush 97, 2) := by decide +kernel
theorem dX11_init_515 : decode cX11_init 515 = .ok (.castore, 1) := by decide +kernel
theorem dX11_init_516 : decode cX11_init 516 = .ok (.dup, 1) := by decide +kernel
theorem dX11_init_517 : decode cX11_init 517 = .ok (.iconst 1, 1) := by decide +kernel
theorem dX11_init_518 : decode cX11_init 518 = .ok (.bipush 110, 2) := by decide +kernel
theorem dX11_init_520 : decode cX11_init 520 = .ok (.castore, 1) := by decide +kernel
theorem dX11_init_521 : decode cX11_init 521 = .ok (.dup, 1) := by decide +kernel
theorem dX11_init_522 : decode cX11_init 522 = .ok (.iconst 2, 1) := by decide +kernel
theorem dX11_init_523 : decode cX11_init 523 = .ok (.bipush 100, 2) := by decide +kernel
theorem dX11_init_525 : decode cX11_init 525 = .ok (.castore, 1) := by decide +kernel
theorem dX11_init_526 : decode cX11_init 526 = .ok (.putfield 69, 3) := by decide +kernel
theorem dX11_init_529 : decode cX11_init 529 = .ok (.aload_n 0, 1) := by decide +kernel
theorem dX11_init_530 : decode cX11_init 530 = .ok (.iconst 3, 1) := by decide +kernel
theorem dX11_init_531 : decode cX11_init 531 = .ok (.newarray .char, 2) := by decide +kernel
theorem dX11_init_533 : decode cX11_init 533 = .ok (.dup, 1) := by decide +kernel
theorem dX11_init_534 : decode cX11_init 534 = .ok (.iconst 0, 1) := by decide +kernel
theorem dX11_init_535 : decode cX11_init 535 = .ok (.bipush 110, 2) := by decide +kernel
theorem dX11_init_537 : decode cX11_init 537 = .ok (.castore, 1) := by decide +kernel
theorem dX11_init_538 : decode cX11_init 538 = .ok (.dup, 1) := by decide +kernel
theorem dX11_init_539 : decode cX11_init 539 = .ok (.iconst 1, 1) := by decide +kernel
theorem dX11_init_540 : decode cX11_init 540 = .ok (.bipush 111, 2) := by decide +kernel
theorem dX11_init_542 : decode cX11_init 542 = .ok (.castore, 1) := by decide +kernel
theorem dX11_init_543 : decode cX11_init 543 = .ok (.dup, 1) := by decide +kernel
theorem dX11_init_544 : decode cX11_init 544 = .ok (.iconst 2, 1) := by decide +kernel
theorem dX11_init_545 : decode cX11_init 545 = .ok (.bipush 116, 2) := by decide +kernel
theorem dX11_init_547 : decode cX11_init 547 = .ok (.castore, 1) := by decide +kernel
theorem dX11_init_548 : decode cX11_init 548 = .ok (.putfield 72, 3) := by decide +kernel
theorem dX11_init_551 : decode cX11_init 551 = .ok (.aload_n 0, 1) := by decide +kernel
theorem dX11_init_552 : decode cX11_init 552 = .ok (.iconst 3, 1) := by decide +kernel
theorem dX11_init_553 : decode cX11_init 553 = .ok (.newarray .char, 2) := by decide +kernel
theorem dX11_init_555 : decode cX11_init 555 = .ok (.dup, 1) := by decide +kernel
theorem dX11_init_556 : decode cX11_init 556 = .ok (.iconst 0, 1) := by decide +kernel
theorem dX11_init_557 : decode cX11_init 557 = .ok (.bipush 97, 2) := by decide +kernel
theorem dX11_init_559 : decode cX11_init 559 = .ok (.castore, 1) := by decide +kernel
theorem dX11_init_560 : decode cX11_init 560 = .ok (.dup, 1) := by decide +kernel
theorem dX11_init_561 : decode cX11_init 561 = .ok (.iconst 1, 1) := by decide +kernel
theorem dX11_init_562 : decode cX11_init 562 = .ok (.bipush 108, 2) := by decide +kernel
theorem dX11_init_564 : decode cX11_init 564 = .ok (.castore, 1) := by decide +kernel
theorem dX11_init_565 : decode cX11_init 565 = .ok (.dup, 1) := by decide +kernel
theorem dX11_init_566 : decode cX11_init 566 = .ok (.iconst 2, 1) := by decide +kernel
theorem dX11_init_567 : decode cX11_init 567 = .ok (.bipush 108, 2) := by decide +kernel
theorem dX11_init_569 : decode cX11_init 569 = .ok (.castore, 1) := by decide +kernel
theorem dX11_init_570 : decode cX11_init 570 = .ok (.putfield 75, 3) := by decide +kernel
theorem dX11_init_573 : decode cX11_init 573 = .ok (.aload_n 0, 1) := by decide +kernel
theorem dX11_init_574 : decode cX11_init 574 = .ok (.bipush 6, 2) := by decide +kernel
theorem dX11_init_576 : decode cX11_init 576 = .ok (.newarray .char, 2) := by decide +kernel
theorem dX11_init_578 : decode cX11_init 578 = .ok (.dup, 1) := by decide +kernel
theorem dX11_init_579 : decode cX11_init 579 = .ok (.iconst 0, 1) := by decide +kernel
theorem dX11_init_580 : decode cX11_init 580 = .ok (.bipush 109, 2) := by decide +kernel
theorem dX11_init_582 : decode cX11_init 582 = .ok (.castore, 1) := by decide +kernel
theorem dX11_init_583 : decode cX11_init 583 = .ok (.dup, 1) := by decide +kernel
theorem dX11_init_584 : decode cX11_init 584 = .ok (.iconst 1, 1) := by decide +kernel
theorem dX11_init_585 : decode cX11_init 585 = .ok (.bipush 105, 2) := by decide +kernel
theorem dX11_init_587 : decode cX11_init 587 = .ok (.castore, 1) := by decide +kernel
theorem dX11_init_588 : decode cX11_init 588 = .ok (.dup, 1) := by decide +kernel
theorem dX11_init_589 : decode cX11_init 589 = .ok (.iconst 2, 1) := by decide +kernel
theorem dX11_init_590 : decode cX11_init 590 = .ok (.bipush 110, 2) := by decide +kernel
theorem dX11_init_592 : decode cX11_init 592 = .ok (.castore, 1) := by decide +kernel
theorem dX11_init_593 : decode cX11_init 593 = .ok (.dup, 1) := by decide +kernel
theorem dX11_init_594 : decode cX11_init 594 = .ok (.iconst 3, 1) := by decide +kernel
theorem dX11_init_595 : decode cX11_init 595 = .ok (.bipush 117, 2) := by decide +kernel
theorem dX11_init_597 : decode cX11_init 597 = .ok (.castore, 1) := by decide +kernel
theorem dX11_init_598 : decode cX11_init 598 = .ok (.dup, 1) := by decide +kernel
theorem dX11_init_599 : decode cX11_init 599 = .ok (.iconst 4, 1) := by decide +kernel
theorem dX11_init_600 : decode cX11_init 600 = .ok (.bipush 116, 2) := by decide +kernel
theorem dX11_init_602 : decode cX11_init 602 = .ok (.castore, 1) := by decide +kernel
theorem dX11_init_603 : decode cX11_init 603 = .ok (.dup, 1) := by decide +kernel
theorem dX11_init_604 : decode cX11_init 604 = .ok (.iconst 5, 1) := by decide +kernel
theorem dX11_init_605 : decode cX11_init 605 = .ok (.bipush 101, 2) := by decide +kernel
theorem dX11_init_607 : decode cX11_init 607 = .ok (.castore, 1) := by decide +kernel
theorem dX11_init_608 : decode cX11_init 608 = .ok (.putfield 78, 3) := by decide +kernel
theorem dX11_init_611 : decode cX11_init 611 = .ok (.aload_n 0, 1) := by decide +kernel
theorem dX11_init_612 : decode cX11_init 612 = .ok (.iconst 4, 1) := by decide +kernel
theorem dX11_init_613 : decode cX11_init 613 = .ok (.newarray .char, 2) := by decide +kernel
theorem dX11_init_615 : decode cX11_init 615 = .ok (.dup, 1) := by decide +kernel
theorem dX11_init_616 : decode cX11_init 616 = .ok (.iconst 0, 1) := by decide +kernel
theorem dX11_init_617 : decode cX11_init 617 = .ok (.bipush 115, 2) := by decide +kernel
theorem dX11_init_619 : decode cX11_init 619 = .ok (.castore, 1) := by decide +kernel
theorem dX11_init_620 : decode cX11_init 620 = .ok (.dup, 1) := by decide +kernel
theorem dX11_init_621 : decode cX11_init 621 = .ok (.iconst 1, 1) := by decide +kernel
theorem dX11_init_622 : decode cX11_init 622 = .ok (.bipush 111, 2) := by decide +kernel
theorem dX11_init_624 : decode cX11_init 624 = .ok (.castore, 1) := by decide +kernel
theorem dX11_init_625 : decode cX11_init 625 = .ok (.dup, 1) := by decide +kernel
theorem dX11_init_626 : decode cX11_init 626 = .ok (.iconst 2, 1) := by decide +kernel
theorem dX11_init_627 : decode cX11_init 627 = .ok (.bipush 114, 2) := by decide +kernel
theorem dX11_init_629 : decode cX11_init 629 = .ok (.castore, 1) := by decide +kernel
theorem dX11_init_630 : decode cX11_init 630 = .ok (.dup, 1) := by decide +kernel
theorem dX11_init_631 : decode cX11_init 631 = .ok (.iconst 3, 1) := by decide +kernel
theorem dX11_init_632 : decode cX11_init 632 = .ok (.bipush 116, 2) := by decide +kernel
theorem dX11_init_634 : decode cX11_init 634 = .ok (.castore, 1) := by decide +kernel
theorem dX11_init_635 : decode cX11_init 635 = .ok (.putfield 81, 3) := by decide +kernel
theorem dX11_init_638 : decode cX11_init 638 = .ok (.aload_n 0, 1) := by decide +kernel
theorem dX11_init_639 : decode cX11_init 639 = .ok (.iconst 3, 1) := by decide +kernel
theorem dX11_init_640 : decode cX11_init 640 = .ok (.newarray .char, 2) := by decide +kernel
theorem dX11_init_642 : decode cX11_init 642 = .ok (.dup, 1) := by decide +kernel
theorem dX11_init_643 : decode cX11_init 643 = .ok (.iconst 0, 1) := by decide +kernel
theorem dX11_init_644 : decode cX11_init 644 = .ok (.bipush 102, 2) := by decide +kernel
theorem dX11_init_646 : decode cX11_init 646 = .ok (.castore, 1) := by decide +kernel
theorem dX11_init_647 : decode cX11_init 647 = .ok (.dup, 1) := by decide +kernel
theorem dX11_init_648 : decode cX11_init 648 = .ok (.iconst 1, 1) := by decide +kernel
theorem dX11_init_649 : decode cX11_init 649 = .ok (.bipush 97, 2) := by decide +kernel
theorem dX11_init_651 : decode cX11_init 651 = .ok (.castore, 1) := by decide +kernel
theorem dX11_init_652 : decode cX11_init 652 = .ok (.dup, 1) := by decide +kernel
theorem dX11_init_653 : decode cX11_init 653 = .ok (.iconst 2, 1) := by decide +kernel
theorem dX11_init_654 : decode cX11_init 654 = .ok (.bipush 114, 2) := by decide +kernel
theorem dX11_init_656 : decode cX11_init 656 = .ok (.castore, 1) := by decide +kernel
theorem dX11_init_657 : decode cX11_init 657 = .ok (.putfield 84, 3) := by decide +kernel
theorem dX11_init_660 : decode cX11_init 660 = .ok (.aload_n 0, 1) := by decide +kernel
theorem dX11_init_661 : decode cX11_init 661 = .ok (.iconst 5, 1) := by decide +kernel
theorem dX11_init_662 : decode cX11_init 662 = .ok (.newarray .char, 2) := by decide +kernel
theorem dX11_init_664 : decode cX11_init 664 = .ok (.dup, 1) := by decide +kernel
theorem dX11_init_665 : decode cX11_init 665 = .ok (.iconst 0, 1) := by decide +kernel
theorem dX11_init_666 : decode cX11_init 666 = .ok (.bipush 102, 2) := by decide +kernel
theorem dX11_init_668 : decode cX11_init 668 = .ok (.castore, 1) := by decide +kernel
theorem dX11_init_669 : decode cX11_init 669 = .ok (.dup, 1) := by decide +kernel
theorem dX11_init_670 : decode cX11_init 670 = .ok (.iconst 1, 1) := by decide +kernel
theorem dX11_init_671 : decode cX11_init 671 = .ok (.bipush 105, 2) := by decide +kernel
theorem dX11_init_673 : decode cX11_init 673 = .ok (.castore, 1) := by decide +kernel
theorem dX11_init_674 : decode cX11_init 674 = .ok (.dup, 1) := by decide +kernel
theorem dX11_init_675 : decode cX11_init 675 = .ok (.iconst 2, 1) := by decide +kernel
theorem dX11_init_676 : decode cX11_init 676 = .ok (.bipush 114, 2) := by decide +kernel
theorem dX11_init_678 : decode cX11_init 678 = .ok (.castore, 1) := by decide +kernel
theorem dX11_init_679 : decode cX11_init 679 = .ok (.dup, 1) := by decide +kernel
theorem dX11_init_680 : decode cX11_init 680 = .ok (.iconst 3, 1) := by decide +kernel
theorem dX11_init_681 : decode cX11_init 681 = .ok (.bipush 115, 2) := by decide +kernel
theorem dX11_init_683 : decode cX11_init 683 = .ok (.castore, 1) := by decide +kernel
theorem dX11_init_684 : decode cX11_init 684 = .ok (.dup, 1) := by decide +kernel
theorem dX11_init_685 : decode cX11_init 685 = .ok (.iconst 4, 1) := by decide +kernel
theorem dX11_init_686 : decode cX11_init 686 = .ok (.bipush 116, 2) := by decide +kernel
theorem dX11_init_688 : decode cX11_init 688 = .ok (.castore, 1) := by decide +kernel
theorem dX11_init_689 : decode cX11_init 689 = .ok (.putfield 87, 3) := by decide +kernel
theorem dX11_init_692 : decode cX11_init 692 = .ok (.aload_n 0, 1) := by decide +kernel
theorem dX11_init_693 : decode cX11_init 693 = .ok (.bipush 6, 2) := by decide +kernel
theorem dX11_init_695 : decode cX11_init 695 = .ok (.newarray .char, 2) := by decide +kernel
theorem dX11_init_697 : decode cX11_init 697 = .ok (.dup, 1) := by decide +kernel
theorem dX11_init_698 : decode cX11_init 698 = .ok (.iconst 0, 1) := by decide +kernel
theorem dX11_init_699 : decode cX11_init 699 = .ok (.bipush 115, 2) := by decide +kernel
theorem dX11_init_701 : decode cX11_init 701 = .ok (.castore, 1) := by decide +kernel
theorem dX11_init_702 : decode cX11_init 702 = .ok (.dup, 1) := by decide +kernel
theorem dX11_init_703 : decode cX11_init 703 = .ok (.iconst 1, 1) := by decide +kernel
theorem dX11_init_704 : decode cX11_init 704 = .ok (.bipush 101, 2) := by decide +kernel
theorem dX11_init_706 : decode cX11_init 706 = .ok (.castore, 1) := by decide +kernel
theorem dX11_init_707 : decode cX11_init 707 = .ok (.dup, 1) := by decide +kernel
theorem dX11_init_708 : decode cX11_init 708 = .ok (.iconst 2, 1) := by decide +kernel
theorem dX11_init_709 : decode cX11_init 709 = .ok (.bipush 99, 2) := by decide +kernel
theorem dX11_init_711 : decode cX11_init 711 = .ok (.castore, 1) := by decide +kernel
theorem dX11_init_712 : decode cX11_init 712 = .ok (.dup, 1) := by decide +kernel
theorem dX11_init_713 : decode cX11_init 713 = .ok (.iconst 3, 1) := by decide +kernel
theorem dX11_init_714 : decode cX11_init 714 = .ok (.bipush 111, 2) := by decide +kernel
theorem dX11_init_716 : decode cX11_init 716 = .ok (.castore, 1) := by decide +kernel
theorem dX11_init_717 : decode cX11_init 717 = .ok (.dup, 1) := by decide +kernel
theorem dX11_init_718 : decode cX11_init 718 = .ok (.iconst 4, 1) := by decide +kernel
theorem dX11_init_719 : decode cX11_init 719 = .ok (.bipush 110, 2) := by decide +kernel
theorem dX11_init_721 : decode cX11_init 721 = .ok (.castore, 1) := by decide +kernel
theorem dX11_init_722 : decode cX11_init 722 = .ok (.dup, 1) := by decide +kernel
theorem dX11_init_723 : decode cX11_init 723 = .ok (.iconst 5, 1) := by decide +kernel
theorem dX11_init_724 : decode cX11_init 724 = .ok (.bipush 100, 2) := by decide +kernel
theorem dX11_init_726 : decode cX11_init 726 = .ok (.castore, 1) := by decide +kernel
theorem dX11_init_727 : decode cX11_init 727 = .ok (.putfield 90, 3) := by decide +kernel
theorem dX11_init_730 : decode cX11_init 730 = .ok (.aload_n 0, 1) := by decide +kernel
theorem dX11_init_731 : decode cX11_init 731 = .ok (.iconst 3, 1) := by decide +kernel
theorem dX11_init_732 : decode cX11_init 732 = .ok (.newarray .char, 2) := by decide +kernel
theorem dX11_init_734 : decode cX11_init 734 = .ok (.dup, 1) := by decide +kernel
theorem dX11_init_735 : decode cX11_init 735 = .ok (.iconst 0, 1) := by decide +kernel
theorem dX11_init_736 : decode cX11_init 736 = .ok (.bipush 109, 2) := by decide +kernel
theorem dX11_init_738 : decode cX11_init 738 = .ok (.castore, 1) := by decide +kernel
theorem dX11_init_739 : decode cX11_init 739 = .ok (.dup, 1) := by decide +kernel
theorem dX11_init_740 : decode cX11_init 740 = .ok (.iconst 1, 1) := by decide +kernel
theorem dX11_init_741 : decode cX11_init 741 = .ok (.bipush 105, 2) := by decide +kernel
theorem dX11_init_743 : decode cX11_init 743 = .ok (.castore, 1) := by decide +kernel
theorem dX11_init_744 : decode cX11_init 744 = .ok (.dup, 1) := by decide +kernel
theorem dX11_init_745 : decode cX11_init 745 = .ok (.iconst 2, 1) := by decide +kernel
theorem dX11_init_746 : decode cX11_init 746 = .ok (.bipush 110, 2) := by decide +kernel
theorem dX11_init_748 : decode cX11_init 748 = .ok (.castore, 1) := by decide +kernel
theorem dX11_init_749 : decode cX11_init 749 = .ok (.putfield 93, 3) := by decide +kernel
theorem dX11_init_752 : decode cX11_init 752 = .ok (.aload_n 0, 1) := by decide +kernel
theorem dX11_init_753 : decode cX11_init 753 = .ok (.iconst 3, 1) := by decide +kernel
theorem dX11_init_754 : decode cX11_init 754 = .ok (.newarray .char, 2) := by decide +kernel
theorem dX11_init_756 : decode cX11_init 756 = .ok (.dup, 1) := by decide +kernel
theorem dX11_init_757 : decode cX11_init 757 = .ok (.iconst 0, 1) := by decide +kernel
theorem dX11_init_758 : decode cX11_init 758 = .ok (.bipush 109, 2) := by decide +kernel
theorem dX11_init_760 : decode cX11_init 760 = .ok (.castore, 1) := by decide +kernel
theorem dX11_init_761 : decode cX11_init 761 = .ok (.dup, 1) := by decide +kernel
theorem dX11_init_762 : decode cX11_init 762 = .ok (.iconst 1, 1) := by decide +kernel
theorem dX11_init_763 : decode cX11_init 763 = .ok (.bipush 97, 2) := by decide +kernel
theorem dX11_init_765 : decode cX11_init 765 = .ok (.castore, 1) := by decide +kernel
theorem dX11_init_766 : decode cX11_init 766 = .ok (.dup, 1) := by decide +kernel
theorem dX11_init_767 : decode cX11_init 767 = .ok (.iconst 2, 1) := by decide +kernel
theorem dX11_init_768 : decode cX11_init 768 = .ok (.bipush 120, 2) := by decide +kernel
theorem dX11_init_770 : decode cX11_init 770 = .ok (.castore, 1) := by decide +kernel
theorem dX11_init_771 : decode cX11_init 771 = .ok (.putfield 96, 3) := by decide +kernel
theorem dX11_init_774 : decode cX11_init 774 = .ok (.aload_n 0, 1) := by decide +kernel
theorem dX11_init_775 : decode cX11_init 775 = .ok (.bipush 10, 2) := by decide +kernel
theorem dX11_init_777 : decode cX11_init 777 = .ok (.newarray .int, 2) := by decide +kernel
theorem dX11_init_779 : decode cX11_init 779 = .ok (.putfield 99, 3) := by decide +kernel
theorem dX11_init_782 : decode cX11_init 782 = .ok (.aload_n 0, 1) := by decide +kernel
theorem dX11_init_783 : decode cX11_init 783 = .ok (.bipush 40, 2) := by decide +kernel
theorem dX11_init_785 : decode cX11_init 785 = .ok (.newarray .long, 2) := by decide +kernel
theorem dX11_init_787 : decode cX11_init 787 = .ok (.putfield 102, 3) := by decide +kernel
theorem dX11_init_790 : decode cX11_init 790 = .ok (.aload_n 0, 1) := by decide +kernel
theorem dX11_init_791 : decode cX11_init 791 = .ok (.bipush 20, 2) := by decide +kernel
theorem dX11_init_793 : decode cX11_init 793 = .ok (.newarray .int, 2) := by decide +kernel
theorem dX11_init_795 : decode cX11_init 795 = .ok (.putfield 106, 3) := by decide +kernel
theorem dX11_init_798 : decode cX11_init 798 = .ok (.aload_n 0, 1) := by decide +kernel
theorem dX11_init_799 : decode cX11_init 799 = .ok (.sipush 128, 3) := by decide +kernel
theorem dX11_init_802 : decode cX11_init 802 = .ok (.newarray .int, 2) := by decide +kernel
theorem dX11_init_804 : decode cX11_init 804 = .ok (.putfield 109, 3) := by decide +kernel
theorem dX11_init_807 : decode cX11_init 807 = .ok (.aload_n 0, 1) := by decide +kernel
theorem dX11_init_808 : decode cX11_init 808 = .ok (.bipush 32, 2) := by decide +kernel
theorem dX11_init_810 : decode cX11_init 810 = .ok (.newarray .int, 2) := by decide +kernel
theorem dX11_init_812 : decode cX11_init 812 = .ok (.putfield 112, 3) := by decide +kernel
theorem dX11_init_815 : decode cX11_init 815 = .ok (.aload_n 0, 1) := by decide +kernel
theorem dX11_init_816 : decode cX11_init 816 = .ok (.bipush 80, 2) := by decide +kernel
theorem dX11_init_818 : decode cX11_init 818 = .ok (.newarray .int, 2) := by decide +kernel
theorem dX11_init_820 : decode cX11_init 820 = .ok (.putfield 115, 3) := by decide +kernel
theorem dX11_init_823 : decode cX11_init 823 = .ok (.aload_n 0, 1) := by decide +kernel
theorem dX11_init_824 : decode cX11_init 824 = .ok (.iconst (-1), 1) := by decide +kernel
theorem dX11_init_825 : decode cX11_init 825 = .ok (.putfield 118, 3) := by decide +kernel
theorem dX11_init_828 : decode cX11_init 828 = .ok (.aload_n 0, 1) := by decide +kernel
theorem dX11_init_829 : decode cX11_init 829 = .ok (.sipush 3200, 3) := by decide +kernel
theorem dX11_init_832 : decode cX11_init 832 = .ok (.newarray .int, 2) := by decide +kernel
theorem dX11_init_834 : decode cX11_init 834 = .ok (.putfield 121, 3) := by decide +kernel
theorem dX11_init_837 : decode cX11_init 837 = .ok (.aload_n 0, 1) := by decide +kernel
theorem dX11_init_838 : decode cX11_init 838 = .ok (.sipush 1700, 3) := by decide +kernel
theorem dX11_init_841 : decode cX11_init 841 = .ok (.newarray .int, 2) := by decide +kernel
theorem dX11_init_843 : decode cX11_init 843 = .ok (.putfield 124, 3) := by decide +kernel
theorem dX11_init_846 : decode cX11_init 846 = .ok (.aload_n 0, 1) := by decide +kernel
theorem dX11_init_847 : decode cX11_init 847 = .ok (.bipush 12, 2) := by decide +kernel
theorem dX11_init_849 : decode cX11_init 849 = .ok (.newarray .int, 2) := by decide +kernel
theorem dX11_init_851 : decode cX11_init 851 = .ok (.putfield 127, 3) := by decide +kernel
theorem dX11_init_854 : decode cX11_init 854 = .ok (.aload_n 0, 1) := by decide +kernel
theorem dX11_init_855 : decode cX11_init 855 = .ok (.bipush 12, 2) := by decide +kernel
theorem dX11_init_857 : decode cX11_init 857 = .ok (.newarray .int, 2) := by decide +kernel
theorem dX11_init_859 : decode cX11_init 859 = .ok (.putfield 130, 3) := by decide +kernel
theorem dX11_init_862 : decode cX11_init 862 = .ok (.aload_n 0, 1) := by decide +kernel
theorem dX11_init_863 : decode cX11_init 863 = .ok (.bipush 12, 2) := by decide +kernel
theorem dX11_init_865 : decode cX11_init 865 = .ok (.newarray .int, 2) := by decide +kernel
theorem dX11_init_867 : decode cX11_init 867 = .ok (.putfield 133, 3) := by decide +kernel
theorem dX11_init_870 : decode cX11_init 870 = .ok (.aload_n 0, 1) := by decide +kernel
theorem dX11_init_871 : decode cX11_init 871 = .ok (.sipush 1700, 3) := by decide +kernel
theorem dX11_init_874 : decode cX11_init 874 = .ok (.newarray .long, 2) := by decide +kernel
theorem dX11_init_876 : decode cX11_init 876 = .ok (.putfield 136, 3) := by decide +kernel
theorem dX11_init_879 : decode cX11_init 879 = .ok (.aload_n 0, 1) := by decide +kernel
theorem dX11_init_880 : decode cX11_init 880 = .ok (.iconst 5, 1) := by decide +kernel
theorem dX11_init_881 : decode cX11_init 881 = .ok (.newarray .int, 2) := by decide +kernel
theorem dX11_init_883 : decode cX11_init 883 = .ok (.putfield 139, 3) := by decide +kernel
theorem dX11_init_886 : decode cX11_init 886 = .ok (.aload_n 0, 1) := by decide +kernel
theorem dX11_init_887 : decode cX11_init 887 = .ok (.bipush 100, 2) := by decide +kernel
theorem dX11_init_889 : decode cX11_init 889 = .ok (.newarray .int, 2) := by decide +kernel
theorem dX11_init_891 : decode cX11_init 891 = .ok (.putfield 142, 3) := by decide +kernel
theorem dX11_init_894 : decode cX11_init 894 = .ok (.aload_n 0, 1) := by decide +kernel
theorem dX11_init_895 : decode cX11_init 895 = .ok (.sipush 244, 3) := by decide +kernel
theorem dX11_init_898 : decode cX11_init 898 = .ok (.newarray .int, 2) := by decide +kernel
theorem dX11_init_900 : decode cX11_init 900 = .ok (.putfield 145, 3) := by decide +kernel
theorem dX11_init_903 : decode cX11_init 903 = .ok (.aload_n 0, 1) := by decide +kernel
theorem dX11_init_904 : decode cX11_init 904 = .ok (.sipush 5856, 3) := by decide +kernel
theorem dX11_init_907 : decode cX11_init 907 = .ok (.newarray .int, 2) := by decide +kernel
theorem dX11_init_909 : decode cX11_init 909 = .ok (.putfield 148, 3) := by decide +kernel
theorem dX11_init_912 : decode cX11_init 912 = .ok (.aload_n 0, 1) := by decide +kernel
theorem dX11_init_913 : decode cX11_init 913 = .ok (.sipush 5856, 3) := by decide +kernel
theorem dX11_init_916 : decode cX11_init 916 = .ok (.newarray .int, 2) := by decide +kernel
theorem dX11_init_918 : decode cX11_init 918 = .ok (.putfield 151, 3) := by decide +kernel
theorem dX11_init_921 : decode cX11_init 921 = .ok (.aload_n 0, 1) := by decide +kernel
theorem dX11_init_922 : decode cX11_init 922 = .ok (.sipush 5856, 3) := by decide +kernel
theorem dX11_init_925 : decode cX11_init 925 = .ok (.newarray .int, 2) := by decide +kernel
theorem dX11_init_927 : decode cX11_init 927 = .ok (.putfield 154, 3) := by decide +kernel
theorem dX11_init_930 : decode cX11_init 930 = .ok (.aload_n 0, 1) := by decide +kernel
theorem dX11_init_931 : decode cX11_init 931 = .ok (.bipush 80, 2) := by decide +kernel
theorem dX11_init_933 : decode cX11_init 933 = .ok (.newarray .int, 2) := by decide +kernel
theorem dX11_init_935 : decode cX11_init 935 = .ok (.putfield 157, 3) := by decide +kernel
theorem dX11_init_938 : decode cX11_init 938 = .ok (.aload_n 0, 1) := by decide +kernel
theorem dX11_init_939 : decode cX11_init 939 = .ok (.sipush 1920, 3) := by decide +kernel
theorem dX11_init_942 : decode cX11_init 942 = .ok (.newarray .int, 2) := by decide +kernel
theorem dX11_init_944 : decode cX11_init 944 = .ok (.putfield 160, 3) := by decide +kernel
theorem dX11_init_947 : decode cX11_init 947 = .ok (.aload_n 0, 1) := by decide +kernel
theorem dX11_init_948 : decode cX11_init 948 = .ok (.sipush 1920, 3) := by decide +kernel
theorem dX11_init_951 : decode cX11_init 951 = .ok (.newarray .int, 2) := by decide +kernel
theorem dX11_init_953 : decode cX11_init 953 = .ok (.putfield 163, 3) := by decide +kernel
theorem dX11_init_956 : decode cX11_init 956 = .ok (.aload_n 0, 1) := by decide +kernel
theorem dX11_init_957 : decode cX11_init 957 = .ok (.sipush 1920, 3) := by decide +kernel
theorem dX11_init_960 : decode cX11_init 960 = .ok (.newarray .int, 2) := by decide +kernel
theorem dX11_init_962 : decode cX11_init 962 = .ok (.putfield 166, 3) := by decide +kernel
theorem dX11_init_965 : decode cX11_init 965 = .ok (.aload_n 0, 1) := by decide +kernel
theorem dX11_init_966 : decode cX11_init 966 = .ok (.bipush 20, 2) := by decide +kernel
theorem dX11_init_968 : decode cX11_init 968 = .ok (.newarray .int, 2) := by decide +kernel
theorem dX11_init_970 : decode cX11_init 970 = .ok (.putfield 169, 3) := by decide +kernel
theorem dX11_init_973 : decode cX11_init 973 = .ok (.aload_n 0, 1) := by decide +kernel
theorem dX11_init_974 : decode cX11_init 974 = .ok (.bipush 20, 2) := by decide +kernel
theorem dX11_init_976 : decode cX11_init 976 = .ok (.newarray .int, 2) := by decide +kernel
theorem dX11_init_978 : decode cX11_init 978 = .ok (.putfield 172, 3) := by decide +kernel
theorem dX11_init_981 : decode cX11_init 981 = .ok (.aload_n 0, 1) := by decide +kernel
theorem dX11_init_982 : decode cX11_init 982 = .ok (.iconst 4, 1) := by decide +kernel
theorem dX11_init_983 : decode cX11_init 983 = .ok (.newarray .int, 2) := by decide +kernel
theorem dX11_init_985 : decode cX11_init 985 = .ok (.putfield 175, 3) := by decide +kernel
theorem dX11_init_988 : decode cX11_init 988 = .ok (.aload_n 0, 1) := by decide +kernel
theorem dX11_init_989 : decode cX11_init 989 = .ok (.bipush 96, 2) := by decide +kernel
theorem dX11_init_991 : decode cX11_init 991 = .ok (.newarray .int, 2) := by decide +kernel
theorem dX11_init_993 : decode cX11_init 993 = .ok (.putfield 178, 3) := by decide +kernel
theorem dX11_init_996 : decode cX11_init 996 = .ok (.aload_n 0, 1) := by decide +kernel
theorem dX11_init_997 : decode cX11_init 997 = .ok (.bipush 96, 2) := by decide +kernel
theorem dX11_init_999 : decode cX11_init 999 = .ok (.newarray .int, 2) := by decide +kernel
theorem dX11_init_1001 : decode cX11_init 1001 = .ok (.putfield 181, 3) := by decide +kernel
theorem dX11_init_1004 : decode cX11_init 1004 = .ok (.aload_n 0, 1) := by decide +kernel
theorem dX11_init_1005 : decode cX11_init 1005 = .ok (.bipush 96, 2) := by decide +kernel
theorem dX11_init_1007 : decode cX11_init 1007 = .ok (.newarray .int, 2) := by decide +kernel
theorem dX11_init_1009 : decode cX11_init 1009 = .ok (.putfield 184, 3) := by decide +kernel
theorem dX11_init_1012 : decode cX11_init 1012 = .ok (.aload_n 0, 1) := by decide +kernel
theorem dX11_init_1013 : decode cX11_init 1013 = .ok (.iconst 4, 1) := by decide +kernel
theorem dX11_init_1014 : decode cX11_init 1014 = .ok (.newarray .int, 2) := by decide +kernel
theorem dX11_init_1016 : decode cX11_init 1016 = .ok (.putfield 187, 3) := by decide +kernel
theorem dX11_init_1019 : decode cX11_init 1019 = .ok (.aload_n 0, 1) := by decide +kernel
theorem dX11_init_1020 : decode cX11_init 1020 = .ok (.sipush 800, 3) := by decide +kernel
theorem dX11_init_1023 : decode cX11_init 1023 = .ok (.newarray .int, 2) := by decide +kernel
theorem dX11_init_1025 : decode cX11_init 1025 = .ok (.putfield 190, 3) := by decide +kernel
theorem dX11_init_1028 : decode cX11_init 1028 = .ok (.aload_n 0, 1) := by decide +kernel
theorem dX11_init_1029 : decode cX11_init 1029 = .ok (.bipush 10, 2) := by decide +kernel
theorem dX11_init_1031 : decode cX11_init 1031 = .ok (.newarray .int, 2) := by decide +kernel
theorem dX11_init_1033 : decode cX11_init 1033 = .ok (.putfield 193, 3) := by decide +kernel
theorem dX11_init_1036 : decode cX11_init 1036 = .ok (.aload_n 0, 1) := by decide +kernel
theorem dX11_init_1037 : decode cX11_init 1037 = .ok (.ldc 196, 2) := by decide +kernel
theorem dX11_init_1039 : decode cX11_init 1039 = .ok (.newarray .int, 2) := by decide +kernel
theorem dX11_init_1041 : decode cX11_init 1041 = .ok (.putfield 197, 3) := by decide +kernel
theorem dX11_init_1044 : decode cX11_init 1044 = .ok (.aload_n 0, 1) := by decide +kernel
theorem dX11_init_1045 : decode cX11_init 1045 = .ok (.iconst 4, 1) := by decide +kernel
theorem dX11_init_1046 : decode cX11_init 1046 = .ok (.newarray .int, 2) := by decide +kernel
theorem dX11_init_1048 : decode cX11_init 1048 = .ok (.putfield 200, 3) := by decide +kernel
theorem dX11_init_1051 : decode cX11_init 1051 = .ok (.aload_n 0, 1) := by decide +kernel
theorem dX11_init_1052 : decode cX11_init 1052 = .ok (.iconst 4, 1) := by decide +kernel
theorem dX11_init_1053 : decode cX11_init 1053 = .ok (.newarray .int, 2) := by decide +kernel
theorem dX11_init_1055 : decode cX11_init 1055 = .ok (.putfield 203, 3) := by decide +kernel
theorem dX11_init_1058 : decode cX11_init 1058 = .ok (.aload_n 0, 1) := by decide +kernel
theorem dX11_init_1059 : decode cX11_init 1059 = .ok (.iconst 4, 1) := by decide +kernel
theorem dX11_init_1060 : decode cX11_init 1060 = .ok (.newarray .int, 2) := by decide +kernel
theorem dX11_init_1062 : decode cX11_init 1062 = .ok (.putfield 206, 3) := by decide +kernel
theorem dX11_init_1065 : decode cX11_init 1065 = .ok (.aload_n 0, 1) := by decide +kernel
theorem dX11_init_1066 : decode cX11_init 1066 = .ok (.iconst 4, 1) := by decide +kernel
theorem dX11_init_1067 : decode cX11_init 1067 = .ok (.newarray .int, 2) := by decide +kernel
theorem dX11_init_1069 : decode cX11_init 1069 = .ok (.putfield 209, 3) := by decide +kernel
theorem dX11_init_1072 : decode cX11_init 1072 = .ok (.aload_n 0, 1) := by decide +kernel
theorem dX11_init_1073 : decode cX11_init 1073 = .ok (.sipush 183, 3) := by decide +kernel
theorem dX11_init_1076 : decode cX11_init 1076 = .ok (.newarray .int, 2) := by decide +kernel
theorem dX11_init_1078 : decode cX11_init 1078 = .ok (.putfield 212, 3) := by decide +kernel
theorem dX11_init_1081 : decode cX11_init 1081 = .ok (.aload_n 0, 1) := by decide +kernel
theorem dX11_init_1082 : decode cX11_init 1082 = .ok (.sipush 183, 3) := by decide +kernel
theorem dX11_init_1085 : decode cX11_init 1085 = .ok (.newarray .int, 2) := by decide +kernel
theorem dX11_init_1087 : decode cX11_init 1087 = .ok (.putfield 215, 3) := by decide +kernel
theorem dX11_init_1090 : decode cX11_init 1090 = .ok (.aload_n 0, 1) := by decide +kernel
theorem dX11_init_1091 : decode cX11_init 1091 = .ok (.bipush 104, 2) := by decide +kernel
theorem dX11_init_1093 : decode cX11_init 1093 = .ok (.newarray .int, 2) := by decide +kernel
theorem dX11_init_1095 : decode cX11_init 1095 = .ok (.putfield 218, 3) := by decide +kernel
theorem dX11_init_1098 : decode cX11_init 1098 = .ok (.return_, 1) := by decide +kernel
theorem dX11_isAlone_0 : decode cX11_isAlone 0 = .ok (.iconst 0, 1) := by decide +kernel
theorem dX11_isAlone_1 : decode cX11_isAlone 1 = .ok (.istore_n 3, 1) := by decide +kernel
theorem dX11_isAlone_2 : decode cX11_isAlone 2 = .ok (.iload_n 3, 1) := by decide +kernel
theorem dX11_isAlone_3 : decode cX11_isAlone 3 = .ok (.aload_n 0, 1) := by decide +kernel
theorem dX11_isAlone_4 : decode cX11_isAlone 4 = .ok (.invokevirtual 447, 3) := by decide +kernel
theorem dX11_isAlone_7 : decode cX11_isAlone 7 = .ok (.if_icmp .ge 25, 3) := by decide +kernel
theorem dX11_isAlone_10 : decode cX11_isAlone 10 = .ok (.iload_n 3, 1) := by decide +kernel
theorem dX11_isAlone_11 : decode cX11_isAlone 11 = .ok (.iload_n 2, 1) := by decide +kernel
theorem dX11_isAlone_12 : decode cX11_isAlone 12 = .ok (.if_icmp .eq 14, 3) := by decide +kernel
theorem dX11_isAlone_15 : decode cX11_isAlone 15 = .ok (.aload_n 0, 1) := by decide +kernel
theorem dX11_isAlone_16 : decode cX11_isAlone 16 = .ok (.iload_n 1, 1) := by decide +kernel
theorem dX11_isAlone_17 : decode cX11_isAlone 17 = .ok (.iload_n 3, 1) := by decide +kernel
theorem dX11_isAlone_18 : decode cX11_isAlone 18 = .ok (.invokevirtual 580, 3) := by decide +kernel
theorem dX11_isAlone_21 : decode cX11_isAlone 21 = .ok (.ifCond .ne 5, 3) := by decide +kernel
theorem dX11_isAlone_24 : decode cX11_isAlone 24 = .ok (.iconst 0, 1) := by decide +kernel
theorem dX11_isAlone_25 : decode cX11_isAlone 25 = .ok (.ireturn, 1) := by decide +kernel
theorem dX11_isAlone_26 : decode cX11_isAlone 26 = .ok (.iinc 3 1, 3) := by decide +kernel
theorem dX11_isAlone_29 : decode cX11_isAlone 29 = .ok (.goto (-27), 3) := by decide +kernel
theorem dX11_isAlone_32 : decode cX11_isAlone 32 = .ok (.iconst 1, 1) := by decide +kernel
theorem dX11_isAlone_33 : decode cX11_isAlone 33 = .ok (.ireturn, 1) := by decide +kernel
theorem dX11_isChosen_0 : decode cX11_isChosen 0 = .ok (.aload_n 0, 1) := by decide +kernel
theorem dX11_isChosen_1 : decode cX11_isChosen 1 = .ok (.iconst (-1), 1) := by decide +kernel
theorem dX11_isChosen_2 : decode cX11_isChosen 2 = .ok (.putfield 619, 3) := by decide +kernel
theorem dX11_isChosen_5 : decode cX11_isChosen 5 = .ok (.aload_n 0, 1) := by decide +kernel
theorem dX11_isChosen_6 : decode cX11_isChosen 6 = .ok (.iconst 0, 1) := by decide +kernel
theorem dX11_isChosen_7 : decode cX11_isChosen 7 = .ok (.putfield 625, 3) := by decide +kernel
theorem dX11_isChosen_10 : decode cX11_isChosen 10 = .ok (.iconst 0, 1) := by decide +kernel
theorem dX11_isChosen_11 : decode cX11_isChosen 11 = .ok (.istore 4, 2) := by decide +kernel
theorem dX11_isChosen_13 : decode cX11_isChosen 13 = .ok (.aload_n 0, 1) := by decide +kernel
theorem dX11_isChosen_14 : decode cX11_isChosen 14 = .ok (.getfield 200, 3) := by decide +kernel
theorem dX11_isChosen_17 : decode cX11_isChosen 17 = .ok (.iconst 0, 1) := by decide +kernel
theorem dX11_isChosen_18 : decode cX11_isChosen 18 = .ok (.iconst (-1), 1) := by decide +kernel
theorem dX11_isChosen_19 : decode cX11_isChosen 19 = .ok (.iastore, 1) := by decide +kernel
theorem dX11_isChosen_20 : decode cX11_isChosen 20 = .ok (.iload 4, 2) := by decide +kernel
theorem dX11_isChosen_22 : decode cX11_isChosen 22 = .ok (.ifCond .lt 196, 3) := by decide +kernel
theorem dX11_isChosen_25 : decode cX11_isChosen 25 = .ok (.iload 4, 2) := by decide +kernel
theorem dX11_isChosen_27 : decode cX11_isChosen 27 = .ok (.aload_n 0, 1) := by decide +kernel
theorem dX11_isChosen_28 : decode cX11_isChosen 28 = .ok (.invokevirtual 447, 3) := by decide +kernel
theorem dX11_isChosen_31 : decode cX11_isChosen 31 = .ok (.if_icmp .ne 79, 3) := by decide +kernel
theorem dX11_isChosen_34 : decode cX11_isChosen 34 = .ok (.aload_n 0, 1) := by decide +kernel
theorem dX11_isChosen_35 : decode cX11_isChosen 35 = .ok (.aload_n 0, 1) := by decide +kernel
theorem dX11_isChosen_36 : decode cX11_isChosen 36 = .ok (.iload 4, 2) := by decide +kernel
theorem dX11_isChosen_38 : decode cX11_isChosen 38 = .ok (.iconst 1, 1) := by decide +kernel
theorem dX11_isChosen_39 : decode cX11_isChosen 39 = .ok (.isub, 1) := by decide +kernel
theorem dX11_isChosen_40 : decode cX11_isChosen 40 = .ok (.iload_n 1, 1) := by decide +kernel
theorem dX11_isChosen_41 : decode cX11_isChosen 41 = .ok (.invokevirtual 628, 3) := by decide +kernel
theorem dX11_isChosen_44 : decode cX11_isChosen 44 = .ok (.putfield 619, 3) := by decide +kernel
theorem dX11_isChosen_47 : decode cX11_isChosen 47 = .ok (.aload_n 0, 1) := by decide +kernel
theorem dX11_isChosen_48 : decode cX11_isChosen 48 = .ok (.iload_n 2, 1) := by decide +kernel
theorem dX11_isChosen_49 : decode cX11_isChosen 49 = .ok (.ifCond .eq 15, 3) := by decide +kernel
theorem dX11_isChosen_52 : decode cX11_isChosen 52 = .ok (.aload_n 0, 1) := by decide +kernel
theorem dX11_isChosen_53 : decode cX11_isChosen 53 = .ok (.iload 4, 2) := by decide +kernel
theorem dX11_isChosen_55 : decode cX11_isChosen 55 = .ok (.iconst 1, 1) := by decide +kernel
theorem dX11_isChosen_56 : decode cX11_isChosen 56 = .ok (.isub, 1) := by decide +kernel
theorem dX11_isChosen_57 : decode cX11_isChosen 57 = .ok (.iload_n 1, 1) := by decide +kernel
theorem dX11_isChosen_58 : decode cX11_isChosen 58 = .ok (.invokevirtual 622, 3) := by decide +kernel
theorem dX11_isChosen_61 : decode cX11_isChosen 61 = .ok (.goto 4, 3) := by decide +kernel
theorem dX11_isChosen_64 : decode cX11_isChosen 64 = .ok (.iconst 0, 1) := by decide +kernel
theorem dX11_isChosen_65 : decode cX11_isChosen 65 = .ok (.putfield 625, 3) := by decide +kernel
theorem dX11_isChosen_68 : decode cX11_isChosen 68 = .ok (.iconst 0, 1) := by decide +kernel
theorem dX11_isChosen_69 : decode cX11_isChosen 69 = .ok (.istore 5, 2) := by decide +kernel
theorem dX11_isChosen_71 : decode cX11_isChosen 71 = .ok (.iload 5, 2) := by decide +kernel
theorem dX11_isChosen_73 : decode cX11_isChosen 73 = .ok (.iload 4, 2) := by decide +kernel
theorem dX11_isChosen_75 : decode cX11_isChosen 75 = .ok (.if_icmp .ge 23, 3) := by decide +kernel
theorem dX11_isChosen_78 : decode cX11_isChosen 78 = .ok (.aload_n 0, 1) := by decide +kernel
theorem dX11_isChosen_79 : decode cX11_isChosen 79 = .ok (.getfield 203, 3) := by decide +kernel
theorem dX11_isChosen_82 : decode cX11_isChosen 82 = .ok (.iload 5, 2) := by decide +kernel
theorem dX11_isChosen_84 : decode cX11_isChosen 84 = .ok (.aload_n 0, 1) := by decide +kernel
theorem dX11_isChosen_85 : decode cX11_isChosen 85 = .ok (.getfield 200, 3) := by decide +kernel
theorem dX11_isChosen_88 : decode cX11_isChosen 88 = .ok (.iload 5, 2) := by decide +kernel
theorem dX11_isChosen_90 : decode cX11_isChosen 90 = .ok (.iaload, 1) := by decide +kernel
theorem dX11_isChosen_91 : decode cX11_isChosen 91 = .ok (.iastore, 1) := by decide +kernel
theorem dX11_isChosen_92 : decode cX11_isChosen 92 = .ok (.iinc 5 1, 3) := by decide +kernel
theorem dX11_isChosen_95 : decode cX11_isChosen 95 = .ok (.goto (-24), 3) := by decide +kernel
theorem dX11_isChosen_98 : decode cX11_isChosen 98 = .ok (.iload_n 3, 1) := by decide +kernel
theorem dX11_isChosen_99 : decode cX11_isChosen 99 = .ok (.ifCond .eq 5, 3) := by decide +kernel
theorem dX11_isChosen_102 : decode cX11_isChosen 102 = .ok (.iconst 1, 1) := by decide +kernel
theorem dX11_isChosen_103 : decode cX11_isChosen 103 = .ok (.ireturn, 1) := by decide +kernel
theorem dX11_isChosen_104 : decode cX11_isChosen 104 = .ok (.iinc 4 (-1), 3) := by decide +kernel
theorem dX11_isChosen_107 : decode cX11_isChosen 107 = .ok (.goto (-87), 3) := by decide +kernel
theorem dX11_isChosen_110 : decode cX11_isChosen 110 = .ok (.iconst 0, 1) := by decide +kernel
theorem dX11_isChosen_111 : decode cX11_isChosen 111 = .ok (.istore 5, 2) := by decide +kernel
theorem dX11_isChosen_113 : decode cX11_isChosen 113 = .ok (.iload 5, 2) := by decide +kernel
theorem dX11_isChosen_115 : decode cX11_isChosen 115 = .ok (.ifCond .ne 72, 3) := by decide +kernel
theorem dX11_isChosen_118 : decode cX11_isChosen 118 = .ok (.aload_n 0, 1) := by decide +kernel
theorem dX11_isChosen_119 : decode cX11_isChosen 119 = .ok (.getfield 200, 3) := by decide +kernel
theorem dX11_isChosen_122 : decode cX11_isChosen 122 = .ok (.iload 4, 2) := by decide +kernel
theorem dX11_isChosen_124 : decode cX11_isChosen 124 = .ok (.iaload, 1) := by decide +kernel
theorem dX11_isChosen_125 : decode cX11_isChosen 125 = .ok (.aload_n 0, 1) := by decide +kernel
theorem dX11_isChosen_126 : decode cX11_isChosen 126 = .ok (.iload 4, 2) := by decide +kernel
theorem dX11_isChosen_128 : decode cX11_isChosen 128 = .ok (.iload_n 1, 1) := by decide +kernel
theorem dX11_isChosen_129 : decode cX11_isChosen 129 = .ok (.invokevirtual 631, 3) := by decide +kernel
theorem dX11_isChosen_132 : decode cX11_isChosen 132 = .ok (.if_icmp .ge 55, 3) := by decide +kernel
theorem dX11_isChosen_135 : decode cX11_isChosen 135 = .ok (.aload_n 0, 1) := by decide +kernel
theorem dX11_isChosen_136 : decode cX11_isChosen 136 = .ok (.getfield 200, 3) := by decide +kernel
theorem dX11_isChosen_139 : decode cX11_isChosen 139 = .ok (.iload 4, 2) := by decide +kernel
theorem dX11_isChosen_141 : decode cX11_isChosen 141 = .ok (.dup2, 1) := by decide +kernel
theorem dX11_isChosen_142 : decode cX11_isChosen 142 = .ok (.iaload, 1) := by decide +kernel
theorem dX11_isChosen_143 : decode cX11_isChosen 143 = .ok (.iconst 1, 1) := by decide +kernel
theorem dX11_isChosen_144 : decode cX11_isChosen 144 = .ok (.iadd, 1) := by decide +kernel
theorem dX11_isChosen_145 : decode cX11_isChosen 145 = .ok (.iastore, 1) := by decide +kernel
theorem dX11_isChosen_146 : decode cX11_isChosen 146 = .ok (.iload_n 1, 1) := by decide +kernel
theorem dX11_isChosen_147 : decode cX11_isChosen 147 = .ok (.iload 4, 2) := by decide +kernel
theorem dX11_isChosen_149 : decode cX11_isChosen 149 = .ok (.ishr, 1) := by decide +kernel
theorem dX11_isChosen_150 : decode cX11_isChosen 150 = .ok (.iconst 1, 1) := by decide +kernel
theorem dX11_isChosen_151 : decode cX11_isChosen 151 = .ok (.iand, 1) := by decide +kernel
theorem dX11_isChosen_152 : decode cX11_isChosen 152 = .ok (.ifCond .eq 25, 3) := by decide +kernel
theorem dX11_isChosen_155 : decode cX11_isChosen 155 = .ok (.aload_n 0, 1) := by decide +kernel
theorem dX11_isChosen_156 : decode cX11_isChosen 156 = .ok (.iload 4, 2) := by decide +kernel
theorem dX11_isChosen_158 : decode cX11_isChosen 158 = .ok (.iload_n 1, 1) := by decide +kernel
theorem dX11_isChosen_159 : decode cX11_isChosen 159 = .ok (.iload_n 2, 1) := by decide +kernel
theorem dX11_isChosen_160 : decode cX11_isChosen 160 = .ok (.invokevirtual 634, 3) := by decide +kernel
theorem dX11_isChosen_163 : decode cX11_isChosen 163 = .ok (.ifCond .eq 18, 3) := by decide +kernel
theorem dX11_isChosen_166 : decode cX11_isChosen 166 = .ok (.aload_n 0, 1) := by decide +kernel
theorem dX11_isChosen_167 : decode cX11_isChosen 167 = .ok (.iload 4, 2) := by decide +kernel
theorem dX11_isChosen_169 : decode cX11_isChosen 169 = .ok (.iload_n 1, 1) := by decide +kernel
theorem dX11_isChosen_170 : decode cX11_isChosen 170 = .ok (.iload_n 2, 1) := by decide +kernel
theorem dX11_isChosen_171 : decode cX11_isChosen 171 = .ok (.invokevirtual 638, 3) := by decide +kernel
theorem dX11_isChosen_174 : decode cX11_isChosen 174 = .ok (.ifCond .eq 7, 3) := by decide +kernel
theorem dX11_isChosen_177 : decode cX11_isChosen 177 = .ok (.iconst 1, 1) := by decide +kernel
theorem dX11_isChosen_178 : decode cX11_isChosen 178 = .ok (.goto 4, 3) := by decide +kernel
theorem dX11_isChosen_181 : decode cX11_isChosen 181 = .ok (.iconst 0, 1) := by decide +kernel
theorem dX11_isChosen_182 : decode cX11_isChosen 182 = .ok (.istore 5, 2) := by decide +kernel
theorem dX11_isChosen_184 : decode cX11_isChosen 184 = .ok (.goto (-71), 3) := by decide +kernel
theorem dX11_isChosen_187 : decode cX11_isChosen 187 = .ok (.iload 5, 2) := by decide +kernel
theorem dX11_isChosen_189 : decode cX11_isChosen 189 = .ok (.ifCond .eq 23, 3) := by decide +kernel
theorem dX11_isChosen_192 : decode cX11_isChosen 192 = .ok (.iinc 4 1, 3) := by decide +kernel
theorem dX11_isChosen_195 : decode cX11_isChosen 195 = .ok (.iload 4, 2) := by decide +kernel
theorem dX11_isChosen_197 : decode cX11_isChosen 197 = .ok (.iconst 4, 1) := by decide +kernel
theorem dX11_isChosen_198 : decode cX11_isChosen 198 = .ok (.if_icmp .ge 17, 3) := by decide +kernel
theorem dX11_isChosen_201 : decode cX11_isChosen 201 = .ok (.aload_n 0, 1) := by decide +kernel
theorem dX11_isChosen_202 : decode cX11_isChosen 202 = .ok (.getfield 200, 3) := by decide +kernel
theorem dX11_isChosen_205 : decode cX11_isChosen 205 = .ok (.iload 4, 2) := by decide +kernel
theorem dX11_isChosen_207 : decode cX11_isChosen 207 = .ok (.iconst (-1), 1) := by decide +kernel
theorem dX11_isChosen_208 : decode cX11_isChosen 208 = .ok (.iastore, 1) := by decide +kernel
theorem dX11_isChosen_209 : decode cX11_isChosen 209 = .ok (.goto 6, 3) := by decide +kernel
theorem dX11_isChosen_212 : decode cX11_isChosen 212 = .ok (.iinc 4 (-1), 3) := by decide +kernel
theorem dX11_isChosen_215 : decode cX11_isChosen 215 = .ok (.goto (-195), 3) := by decide +kernel
theorem dX11_isChosen_218 : decode cX11_isChosen 218 = .ok (.aload_n 0, 1) := by decide +kernel
theorem dX11_isChosen_219 : decode cX11_isChosen 219 = .ok (.getfield 619, 3) := by decide +kernel
theorem dX11_isChosen_222 : decode cX11_isChosen 222 = .ok (.iconst (-1), 1) := by decide +kernel
theorem dX11_isChosen_223 : decode cX11_isChosen 223 = .ok (.if_icmp .eq 7, 3) := by decide +kernel
theorem dX11_isChosen_226 : decode cX11_isChosen 226 = .ok (.iconst 1, 1) := by decide +kernel
theorem dX11_isChosen_227 : decode cX11_isChosen 227 = .ok (.goto 4, 3) := by decide +kernel
theorem dX11_isChosen_230 : decode cX11_isChosen 230 = .ok (.iconst 0, 1) := by decide +kernel
theorem dX11_isChosen_231 : decode cX11_isChosen 231 = .ok (.ireturn, 1) := by decide +kernel
theorem dX11_isCorner_0 : decode cX11_isCorner 0 = .ok (.iload_n 1, 1) := by decide +kernel
theorem dX11_isCorner_1 : decode cX11_isCorner 1 = .ok (.i2l, 1) := by decide +kernel
theorem dX11_isCorner_2 : decode cX11_isCorner 2 = .ok (.lconst 0, 1) := by decide +kernel
theorem dX11_isCorner_3 : decode cX11_isCorner 3 = .ok (.aload_n 0, 1) := by decide +kernel
theorem dX11_isCorner_4 : decode cX11_isCorner 4 = .ok (.invokevirtual 444, 3) := by decide +kernel
theorem dX11_isCorner_7 : decode cX11_isCorner 7 = .ok (.iconst 1, 1) := by decide +kernel
theorem dX11_isCorner_8 : decode cX11_isCorner 8 = .ok (.isub, 1) := by decide +kernel
theorem dX11_isCorner_9 : decode cX11_isCorner 9 = .ok (.i2l, 1) := by decide +kernel
theorem dX11_isCorner_10 : decode cX11_isCorner 10 = .ok (.invokestatic 264, 3) := by decide +kernel
theorem dX11_isCorner_13 : decode cX11_isCorner 13 = .ok (.ireturn, 1) := by decide +kernel
theorem dX11_isDigit_0 : decode cX11_isDigit 0 = .ok (.iload_n 0, 1) := by decide +kernel
theorem dX11_isDigit_1 : decode cX11_isDigit 1 = .ok (.bipush 48, 2) := by decide +kernel
theorem dX11_isDigit_3 : decode cX11_isDigit 3 = .ok (.if_icmp .lt 13, 3) := by decide +kernel
theorem dX11_isDigit_6 : decode cX11_isDigit 6 = .ok (.iload_n 0, 1) := by decide +kernel
theorem dX11_isDigit_7 : decode cX11_isDigit 7 = .ok (.bipush 57, 2) := by decide +kernel
theorem dX11_isDigit_9 : decode cX11_isDigit 9 = .ok (.if_icmp .gt 7, 3) := by decide +kernel
theorem dX11_isDigit_12 : decode cX11_isDigit 12 = .ok (.iconst 1, 1) := by decide +kernel
theorem dX11_isDigit_13 : decode cX11_isDigit 13 = .ok (.goto 4, 3) := by decide +kernel
theorem dX11_isDigit_16 : decode cX11_isDigit 16 = .ok (.iconst 0, 1) := by decide +kernel
theorem dX11_isDigit_17 : decode cX11_isDigit 17 = .ok (.ireturn, 1) := by decide +kernel
theorem dX11_isExcepted_0 : decode cX11_isExcepted 0 = .ok (.aload_n 0, 1) := by decide +kernel
theorem dX11_isExcepted_1 : decode cX11_isExcepted 1 = .ok (.getfield 361, 3) := by decide +kernel
theorem dX11_isExcepted_4 : decode cX11_isExcepted 4 = .ok (.ifCond .ne 5, 3) := by decide +kernel
theorem dX11_isExcepted_7 : decode cX11_isExcepted 7 = .ok (.iconst 0, 1) := by decide +kernel
theorem dX11_isExcepted_8 : decode cX11_isExcepted 8 = .ok (.ireturn, 1) := by decide +kernel
theorem dX11_isExcepted_9 : decode cX11_isExcepted 9 = .ok (.aload_n 0, 1) := by decide +kernel
theorem dX11_isExcepted_10 : decode cX11_isExcepted 10 = .ok (.getfield 139, 3) := by decide +kernel
theorem dX11_isExcepted_13 : decode cX11_isExcepted 13 = .ok (.iconst 0, 1) := by decide +kernel
theorem dX11_isExcepted_14 : decode cX11_isExcepted 14 = .ok (.iload_n 1, 1) := by decide +kernel
theorem dX11_isExcepted_15 : decode cX11_isExcepted 15 = .ok (.iastore, 1) := by decide +kernel
theorem dX11_isExcepted_16 : decode cX11_isExcepted 16 = .ok (.aload_n 0, 1) := by decide +kernel
theorem dX11_isExcepted_17 : decode cX11_isExcepted 17 = .ok (.getfield 139, 3) := by decide +kernel
theorem dX11_isExcepted_20 : decode cX11_isExcepted 20 = .ok (.iconst 1, 1) := by decide +kernel
theorem dX11_isExcepted_21 : decode cX11_isExcepted 21 = .ok (.iload_n 2, 1) := by decide +kernel
theorem dX11_isExcepted_22 : decode cX11_isExcepted 22 = .ok (.iastore, 1) := by decide +kernel
theorem dX11_isExcepted_23 : decode cX11_isExcepted 23 = .ok (.aload_n 0, 1) := by decide +kernel
theorem dX11_isExcepted_24 : decode cX11_isExcepted 24 = .ok (.getfield 139, 3) := by decide +kernel
theorem dX11_isExcepted_27 : decode cX11_isExcepted 27 = .ok (.iconst 2, 1) := by decide +kernel
theorem dX11_isExcepted_28 : decode cX11_isExcepted 28 = .ok (.iload_n 3, 1) := by decide +kernel
theorem dX11_isExcepted_29 : decode cX11_isExcepted 29 = .ok (.iastore, 1) := by decide +kernel
theorem dX11_isExcepted_30 : decode cX11_isExcepted 30 = .ok (.aload_n 0, 1) := by decide +kernel
theorem dX11_isExcepted_31 : decode cX11_isExcepted 31 = .ok (.getfield 139, 3) := by decide +kernel
theorem dX11_isExcepted_34 : decode cX11_isExcepted 34 = .ok (.iconst 3, 1) := by decide +kernel
theorem dX11_isExcepted_35 : decode cX11_isExcepted 35 = .ok (.iload 4, 2) := by decide +kernel
theorem dX11_isExcepted_37 : decode cX11_isExcepted 37 = .ok (.iload 5, 2) := by decide +kernel
theorem dX11_isExcepted_39 : decode cX11_isExcepted 39 = .ok (.if_icmp .ge 8, 3) := by decide +kernel
theorem dX11_isExcepted_42 : decode cX11_isExcepted 42 = .ok (.iload 4, 2) := by decide +kernel
theorem dX11_isExcepted_44 : decode cX11_isExcepted 44 = .ok (.goto 5, 3) := by decide +kernel
theorem dX11_isExcepted_47 : decode cX11_isExcepted 47 = .ok (.iload 5, 2) := by decide +kernel
theorem dX11_isExcepted_49 : decode cX11_isExcepted 49 = .ok (.iastore, 1) := by decide +kernel
theorem dX11_isExcepted_50 : decode cX11_isExcepted 50 = .ok (.aload_n 0, 1) := by decide +kernel
theorem dX11_isExcepted_51 : decode cX11_isExcepted 51 = .ok (.getfield 139, 3) := by decide +kernel
theorem dX11_isExcepted_54 : decode cX11_isExcepted 54 = .ok (.iconst 4, 1) := by decide +kernel
theorem dX11_isExcepted_55 : decode cX11_isExcepted 55 = .ok (.iload 4, 2) := by decide +kernel
theorem dX11_isExcepted_57 : decode cX11_isExcepted 57 = .ok (.iload 5, 2) := by decide +kernel
theorem dX11_isExcepted_59 : decode cX11_isExcepted 59 = .ok (.if_icmp .ge 8, 3) := by decide +kernel
theorem dX11_isExcepted_62 : decode cX11_isExcepted 62 = .ok (.iload 5, 2) := by decide +kernel
theorem dX11_isExcepted_64 : decode cX11_isExcepted 64 = .ok (.goto 5, 3) := by decide +kernel
theorem dX11_isExcepted_67 : decode cX11_isExcepted 67 = .ok (.iload 4, 2) := by decide +kernel
theorem dX11_isExcepted_69 : decode cX11_isExcepted 69 = .ok (.iastore, 1) := by decide +kernel
theorem dX11_isExcepted_70 : decode cX11_isExcepted 70 = .ok (.iconst 0, 1) := by decide +kernel
theorem dX11_isExcepted_71 : decode cX11_isExcepted 71 = .ok (.istore 6, 2) := by decide +kernel
theorem dX11_isExcepted_73 : decode cX11_isExcepted 73 = .ok (.iload 6, 2) := by decide +kernel
theorem dX11_isExcepted_75 : decode cX11_isExcepted 75 = .ok (.aload_n 0, 1) := by decide +kernel
theorem dX11_isExcepted_76 : decode cX11_isExcepted 76 = .ok (.invokevirtual 438, 3) := by decide +kernel
theorem dX11_isExcepted_79 : decode cX11_isExcepted 79 = .ok (.if_icmp .ge 33, 3) := by decide +kernel
theorem dX11_isExcepted_82 : decode cX11_isExcepted 82 = .ok (.aload_n 0, 1) := by decide +kernel
theorem dX11_isExcepted_83 : decode cX11_isExcepted 83 = .ok (.getfield 361, 3) := by decide +kernel
theorem dX11_isExcepted_86 : decode cX11_isExcepted 86 = .ok (.iload 6, 2) := by decide +kernel
theorem dX11_isExcepted_88 : decode cX11_isExcepted 88 = .ok (.ishr, 1) := by decide +kernel
theorem dX11_isExcepted_89 : decode cX11_isExcepted 89 = .ok (.iconst 1, 1) := by decide +kernel
theorem dX11_isExcepted_90 : decode cX11_isExcepted 90 = .ok (.iand, 1) := by decide +kernel
theorem dX11_isExcepted_91 : decode cX11_isExcepted 91 = .ok (.iconst 1, 1) := by decide +kernel
theorem dX11_isExcepted_92 : decode cX11_isExcepted 92 = .ok (.if_icmp .ne 14, 3) := by decide +kernel
theorem dX11_isExcepted_95 : decode cX11_isExcepted 95 = .ok (.aload_n 0, 1) := by decide +kernel
theorem dX11_isExcepted_96 : decode cX11_isExcepted 96 = .ok (.iload 6, 2) := by decide +kernel
theorem dX11_isExcepted_98 : decode cX11_isExcepted 98 = .ok (.invokevirtual 441, 3) := by decide +kernel
theorem dX11_isExcepted_101 : decode cX11_isExcepted 101 = .ok (.ifCond .eq 5, 3) := by decide +kernel
theorem dX11_isExcepted_104 : decode cX11_isExcepted 104 = .ok (.iconst 1, 1) := by decide +kernel
theorem dX11_isExcepted_105 : decode cX11_isExcepted 105 = .ok (.ireturn, 1) := by decide +kernel
theorem dX11_isExcepted_106 : decode cX11_isExcepted 106 = .ok (.iinc 6 1, 3) := by decide +kernel
theorem dX11_isExcepted_109 : decode cX11_isExcepted 109 = .ok (.goto (-36), 3) := by decide +kernel
theorem dX11_isExcepted_112 : decode cX11_isExcepted 112 = .ok (.iconst 0, 1) := by decide +kernel
theorem dX11_isExcepted_113 : decode cX11_isExcepted 113 = .ok (.ireturn, 1) := by decide +kernel
theorem dX11_isFull_0 : decode cX11_isFull 0 = .ok (.aload_n 0, 1) := by decide +kernel
theorem dX11_isFull_1 : decode cX11_isFull 1 = .ok (.getfield 224, 3) := by decide +kernel
theorem dX11_isFull_4 : decode cX11_isFull 4 = .ok (.ifCond .ne 19, 3) := by decide +kernel
theorem dX11_isFull_7 : decode cX11_isFull 7 = .ok (.aload_n 0, 1) := by decide +kernel
theorem dX11_isFull_8 : decode cX11_isFull 8 = .ok (.getfield 99, 3) := by decide +kernel
theorem dX11_isFull_11 : decode cX11_isFull 11 = .ok (.iload_n 1, 1) := by decide +kernel
theorem dX11_isFull_12 : decode cX11_isFull 12 = .ok (.iaload, 1) := by decide +kernel
theorem dX11_isFull_13 : decode cX11_isFull 13 = .ok (.iload_n 2, 1) := by decide +kernel
theorem dX11_isFull_14 : decode cX11_isFull 14 = .ok (.if_icmp .ne 9, 3) := by decide +kernel
theorem dX11_isFull_17 : decode cX11_isFull 17 = .ok (.aload_n 0, 1) := by decide +kernel
theorem dX11_isFull_18 : decode cX11_isFull 18 = .ok (.iconst 5, 1) := by decide +kernel
theorem dX11_isFull_19 : decode cX11_isFull 19 = .ok (.iload_n 3, 1) := by decide +kernel
theorem dX11_isFull_20 : decode cX11_isFull 20 = .ok (.invokevirtual 254, 3) := by decide +kernel
theorem dX11_isFull_23 : decode cX11_isFull 23 = .ok (.aload_n 0, 1) := by decide +kernel
theorem dX11_isFull_24 : decode cX11_isFull 24 = .ok (.getfield 224, 3) := by decide +kernel
theorem dX11_isFull_27 : decode cX11_isFull 27 = .ok (.ifCond .eq 7, 3) := by decide +kernel
theorem dX11_isFull_30 : decode cX11_isFull 30 = .ok (.iconst 1, 1) := by decide +kernel
theorem dX11_isFull_31 : decode cX11_isFull 31 = .ok (.goto 4, 3) := by decide +kernel
theorem dX11_isFull_34 : decode cX11_isFull 34 = .ok (.iconst 0, 1) := by decide +kernel
theorem dX11_isFull_35 : decode cX11_isFull 35 = .ok (.ireturn, 1) := by decide +kernel
theorem dX11_isHere_0 : decode cX11_isHere 0 = .ok (.aload_n 0, 1) := by decide +kernel
theorem dX11_isHere_1 : decode cX11_isHere 1 = .ok (.getfield 224, 3) := by decide +kernel
theorem dX11_isHere_4 : decode cX11_isHere 4 = .ok (.ifCond .ne 24, 3) := by decide +kernel
theorem dX11_isHere_7 : decode cX11_isHere 7 = .ok (.aload_n 0, 1) := by decide +kernel
theorem dX11_isHere_8 : decode cX11_isHere 8 = .ok (.invokevirtual 236, 3) := by decide +kernel
theorem dX11_isHere_11 : decode cX11_isHere 11 = .ok (.invokestatic 240, 3) := by decide +kernel
theorem dX11_isHere_14 : decode cX11_isHere 14 = .ok (.ifCond .eq 14, 3) := by decide +kernel
theorem dX11_isHere_17 : decode cX11_isHere 17 = .ok (.aload_n 0, 1) := by decide +kernel
theorem dX11_isHere_18 : decode cX11_isHere 18 = .ok (.getfield 230, 3) := by decide +kernel
theorem dX11_isHere_21 : decode cX11_isHere 21 = .ok (.aload_n 0, 1) := by decide +kernel
theorem dX11_isHere_22 : decode cX11_isHere 22 = .ok (.getfield 244, 3) := by decide +kernel
theorem dX11_isHere_25 : decode cX11_isHere 25 = .ok (.if_icmp .ne 5, 3) := by decide +kernel
theorem dX11_isHere_28 : decode cX11_isHere 28 = .ok (.iconst 0, 1) := by decide +kernel
theorem dX11_isHere_29 : decode cX11_isHere 29 = .ok (.ireturn, 1) := by decide +kernel
theorem dX11_isHere_30 : decode cX11_isHere 30 = .ok (.aload_n 0, 1) := by decide +kernel
theorem dX11_isHere_31 : decode cX11_isHere 31 = .ok (.getfield 230, 3) := by decide +kernel
theorem dX11_isHere_34 : decode cX11_isHere 34 = .ok (.istore_n 2, 1) := by decide +kernel
theorem dX11_isHere_35 : decode cX11_isHere 35 = .ok (.iload_n 2, 1) := by decide +kernel
theorem dX11_isHere_36 : decode cX11_isHere 36 = .ok (.aload_n 0, 1) := by decide +kernel
theorem dX11_isHere_37 : decode cX11_isHere 37 = .ok (.getfield 233, 3) := by decide +kernel
theorem dX11_isHere_40 : decode cX11_isHere 40 = .ok (.if_icmp .ge 21, 3) := by decide +kernel
theorem dX11_isHere_43 : decode cX11_isHere 43 = .ok (.aload_n 0, 1) := by decide +kernel
theorem dX11_isHere_44 : decode cX11_isHere 44 = .ok (.getfield 7, 3) := by decide +kernel
theorem dX11_isHere_47 : decode cX11_isHere 47 = .ok (.iload_n 2, 1) := by decide +kernel
theorem dX11_isHere_48 : decode cX11_isHere 48 = .ok (.iaload, 1) := by decide +kernel
theorem dX11_isHere_49 : decode cX11_isHere 49 = .ok (.invokestatic 240, 3) := by decide +kernel
theorem dX11_isHere_52 : decode cX11_isHere 52 = .ok (.ifCond .eq 9, 3) := by decide +kernel
theorem dX11_isHere_55 : decode cX11_isHere 55 = .ok (.iinc 2 1, 3) := by decide +kernel
theorem dX11_isHere_58 : decode cX11_isHere 58 = .ok (.goto (-23), 3) := by decide +kernel
theorem dX11_isHere_61 : decode cX11_isHere 61 = .ok (.iload_n 2, 1) := by decide +kernel
theorem dX11_isHere_62 : decode cX11_isHere 62 = .ok (.aload_n 0, 1) := by decide +kernel
theorem dX11_isHere_63 : decode cX11_isHere 63 = .ok (.getfield 230, 3) := by decide +kernel
theorem dX11_isHere_66 : decode cX11_isHere 66 = .ok (.isub, 1) := by decide +kernel
theorem dX11_isHere_67 : decode cX11_isHere 67 = .ok (.aload_n 1, 1) := by decide +kernel
theorem dX11_isHere_68 : decode cX11_isHere 68 = .ok (.arraylength, 1) := by decide +kernel
theorem dX11_isHere_69 : decode cX11_isHere 69 = .ok (.if_icmp .eq 5, 3) := by decide +kernel
theorem dX11_isHere_72 : decode cX11_isHere 72 = .ok (.iconst 0, 1) := by decide +kernel
theorem dX11_isHere_73 : decode cX11_isHere 73 = .ok (.ireturn, 1) := by decide +kernel
theorem dX11_isHere_74 : decode cX11_isHere 74 = .ok (.iconst 0, 1) := by decide +kernel
theorem dX11_isHere_75 : decode cX11_isHere 75 = .ok (.istore_n 3, 1) := by decide +kernel
theorem dX11_isHere_76 : decode cX11_isHere 76 = .ok (.iload_n 3, 1) := by decide +kernel
theorem dX11_isHere_77 : decode cX11_isHere 77 = .ok (.aload_n 1, 1) := by decide +kernel
theorem dX11_isHere_78 : decode cX11_isHere 78 = .ok (.arraylength, 1) := by decide +kernel
theorem dX11_isHere_79 : decode cX11_isHere 79 = .ok (.if_icmp .ge 28, 3) := by decide +kernel
theorem dX11_isHere_82 : decode cX11_isHere 82 = .ok (.aload_n 0, 1) := by decide +kernel
theorem dX11_isHere_83 : decode cX11_isHere 83 = .ok (.getfield 7, 3) := by decide +kernel
theorem dX11_isHere_86 : decode cX11_isHere 86 = .ok (.aload_n 0, 1) := by decide +kernel
theorem dX11_isHere_87 : decode cX11_isHere 87 = .ok (.getfield 230, 3) := by decide +kernel
theorem dX11_isHere_90 : decode cX11_isHere 90 = .ok (.iload_n 3, 1) := by decide +kernel
theorem dX11_isHere_91 : decode cX11_isHere 91 = .ok (.iadd, 1) := by decide +kernel
theorem dX11_isHere_92 : decode cX11_isHere 92 = .ok (.iaload, 1) := by decide +kernel
theorem dX11_isHere_93 : decode cX11_isHere 93 = .ok (.aload_n 1, 1) := by decide +kernel
theorem dX11_isHere_94 : decode cX11_isHere 94 = .ok (.iload_n 3, 1) := by decide +kernel
theorem dX11_isHere_95 : decode cX11_isHere 95 = .ok (.caload, 1) := by decide +kernel
theorem dX11_isHere_96 : decode cX11_isHere 96 = .ok (.if_icmp .eq 5, 3) := by decide +kernel
theorem dX11_isHere_99 : decode cX11_isHere 99 = .ok (.iconst 0, 1) := by decide +kernel
theorem dX11_isHere_100 : decode cX11_isHere 100 = .ok (.ireturn, 1) := by decide +kernel
theorem dX11_isHere_101 : decode cX11_isHere 101 = .ok (.iinc 3 1, 3) := by decide +kernel
theorem dX11_isHere_104 : decode cX11_isHere 104 = .ok (.goto (-28), 3) := by decide +kernel
theorem dX11_isHere_107 : decode cX11_isHere 107 = .ok (.iconst 1, 1) := by decide +kernel
theorem dX11_isHere_108 : decode cX11_isHere 108 = .ok (.ireturn, 1) := by decide +kernel
theorem dX11_isIn_0 : decode cX11_isIn 0 = .ok (.lload_n 0, 1) := by decide +kernel
theorem dX11_isIn_1 : decode cX11_isIn 1 = .ok (.lload_n 2, 1) := by decide +kernel
theorem dX11_isIn_2 : decode cX11_isIn 2 = .ok (.lcmp, 1) := by decide +kernel
theorem dX11_isIn_3 : decode cX11_isIn 3 = .ok (.ifCond .lt 14, 3) := by decide +kernel
theorem dX11_isIn_6 : decode cX11_isIn 6 = .ok (.lload_n 0, 1) := by decide +kernel
theorem dX11_isIn_7 : decode cX11_isIn 7 = .ok (.lload 4, 2) := by decide +kernel
theorem dX11_isIn_9 : decode cX11_isIn 9 = .ok (.lcmp, 1) := by decide +kernel
theorem dX11_isIn_10 : decode cX11_isIn 10 = .ok (.ifCond .gt 7, 3) := by decide +kernel
theorem dX11_isIn_13 : decode cX11_isIn 13 = .ok (.iconst 1, 1) := by decide +kernel
theorem dX11_isIn_14 : decode cX11_isIn 14 = .ok (.goto 4, 3) := by decide +kernel
theorem dX11_isIn_17 : decode cX11_isIn 17 = .ok (.iconst 0, 1) := by decide +kernel
theorem dX11_isIn_18 : decode cX11_isIn 18 = .ok (.ireturn, 1) := by decide +kernel
theorem dX11_isLane_0 : decode cX11_isLane 0 = .ok (.iload_n 1, 1) := by decide +kernel
theorem dX11_isLane_1 : decode cX11_isLane 1 = .ok (.i2l, 1) := by decide +kernel
theorem dX11_isLane_2 : decode cX11_isLane 2 = .ok (.lconst 0, 1) := by decide +kernel
theorem dX11_isLane_3 : decode cX11_isLane 3 = .ok (.aload_n 0, 1) := by decide +kernel
theorem dX11_isLane_4 : decode cX11_isLane 4 = .ok (.invokevirtual 450, 3) := by decide +kernel
theorem dX11_isLane_7 : decode cX11_isLane 7 = .ok (.iconst 1, 1) := by decide +kernel
theorem dX11_isLane_8 : decode cX11_isLane 8 = .ok (.isub, 1) := by decide +kernel
theorem dX11_isLane_9 : decode cX11_isLane 9 = .ok (.i2l, 1) := by decide +kernel
theorem dX11_isLane_10 : decode cX11_isLane 10 = .ok (.invokestatic 264, 3) := by decide +kernel
theorem dX11_isLane_13 : decode cX11_isLane 13 = .ok (.ireturn, 1) := by decide +kernel
theorem dX11_isLawful_0 : decode cX11_isLawful 0 = .ok (.iconst 0, 1) := by decide +kernel
theorem dX11_isLawful_1 : decode cX11_isLawful 1 = .ok (.istore_n 1, 1) := by decide +kernel
theorem dX11_isLawful_2 : decode cX11_isLawful 2 = .ok (.iload_n 1, 1) := by decide +kernel
theorem dX11_isLawful_3 : decode cX11_isLawful 3 = .ok (.aload_n 0, 1) := by decide +kernel
theorem dX11_isLawful_4 : decode cX11_isLawful 4 = .ok (.invokevirtual 447, 3) := by decide +kernel
theorem dX11_isLawful_7 : decode cX11_isLawful 7 = .ok (.if_icmp .ge 38, 3) := by decide +kernel
theorem dX11_isLawful_10 : decode cX11_isLawful 10 = .ok (.iload_n 1, 1) := by decide +kernel
theorem dX11_isLawful_11 : decode cX11_isLawful 11 = .ok (.iconst 1, 1) := by decide +kernel
theorem dX11_isLawful_12 : decode cX11_isLawful 12 = .ok (.iadd, 1) := by decide +kernel
theorem dX11_isLawful_13 : decode cX11_isLawful 13 = .ok (.istore_n 2, 1) := by decide +kernel
theorem dX11_isLawful_14 : decode cX11_isLawful 14 = .ok (.iload_n 2, 1) := by decide +kernel
theorem dX11_isLawful_15 : decode cX11_isLawful 15 = .ok (.aload_n 0, 1) := by decide +kernel
theorem dX11_isLawful_16 : decode cX11_isLawful 16 = .ok (.invokevirtual 447, 3) := by decide +kernel
theorem dX11_isLawful_19 : decode cX11_isLawful 19 = .ok (.if_icmp .ge 20, 3) := by decide +kernel
theorem dX11_isLawful_22 : decode cX11_isLawful 22 = .ok (.aload_n 0, 1) := by decide +kernel
theorem dX11_isLawful_23 : decode cX11_isLawful 23 = .ok (.iload_n 1, 1) := by decide +kernel
theorem dX11_isLawful_24 : decode cX11_isLawful 24 = .ok (.iload_n 2, 1) := by decide +kernel
theorem dX11_isLawful_25 : decode cX11_isLawful 25 = .ok (.invokevirtual 580, 3) := by decide +kernel
theorem dX11_isLawful_28 : decode cX11_isLawful 28 = .ok (.ifCond .ne 5, 3) := by decide +kernel
theorem dX11_isLawful_31 : decode cX11_isLawful 31 = .ok (.iconst 0, 1) := by decide +kernel
theorem dX11_isLawful_32 : decode cX11_isLawful 32 = .ok (.ireturn, 1) := by decide +kernel
theorem dX11_isLawful_33 : decode cX11_isLawful 33 = .ok (.iinc 2 1, 3) := by decide +kernel
theorem dX11_isLawful_36 : decode cX11_isLawful 36 = .ok (.goto (-22), 3) := by decide +kernel
theorem dX11_isLawful_39 : decode cX11_isLawful 39 = .ok (.iinc 1 1, 3) := by decide +kernel
theorem dX11_isLawful_42 : decode cX11_isLawful 42 = .ok (.goto (-40), 3) := by decide +kernel
theorem dX11_isLawful_45 : decode cX11_isLawful 45 = .ok (.iconst 1, 1) := by decide +kernel
theorem dX11_isLawful_46 : decode cX11_isLawful 46 = .ok (.ireturn, 1) := by decide +kernel
theorem dX11_isLetter_0 : decode cX11_isLetter 0 = .ok (.iload_n 0, 1) := by decide +kernel
theorem dX11_isLetter_1 : decode cX11_isLetter 1 = .ok (.bipush 97, 2) := by decide +kernel
theorem dX11_isLetter_3 : decode cX11_isLetter 3 = .ok (.if_icmp .lt 13, 3) := by decide +kernel
theorem dX11_isLetter_6 : decode cX11_isLetter 6 = .ok (.iload_n 0, 1) := by decide +kernel
theorem dX11_isLetter_7 : decode cX11_isLetter 7 = .ok (.bipush 122, 2) := by decide +kernel
theorem dX11_isLetter_9 : decode cX11_isLetter 9 = .ok (.if_icmp .gt 7, 3) := by decide +kernel
theorem dX11_isLetter_12 : decode cX11_isLetter 12 = .ok (.iconst 1, 1) := by decide +kernel
theorem dX11_isLetter_13 : decode cX11_isLetter 13 = .ok (.goto 4, 3) := by decide +kernel
theorem dX11_isLetter_16 : decode cX11_isLetter 16 = .ok (.iconst 0, 1) := by decide +kernel
theorem dX11_isLetter_17 : decode cX11_isLetter 17 = .ok (.ireturn, 1) := by decide +kernel
theorem dX11_isMark_0 : decode cX11_isMark 0 = .ok (.iload_n 1, 1) := by decide +kernel
theorem dX11_isMark_1 : decode cX11_isMark 1 = .ok (.bipush 20, 2) := by decide +kernel
theorem dX11_isMark_3 : decode cX11_isMark 3 = .ok (.if_icmp .lt 13, 3) := by decide +kernel
theorem dX11_isMark_6 : decode cX11_isMark 6 = .ok (.iload_n 1, 1) := by decide +kernel
theorem dX11_isMark_7 : decode cX11_isMark 7 = .ok (.bipush 24, 2) := by decide +kernel
theorem dX11_isMark_9 : decode cX11_isMark 9 = .ok (.if_icmp .gt 7, 3) := by decide +kernel
theorem dX11_isMark_12 : decode cX11_isMark 12 = .ok (.iconst 1, 1) := by decide +kernel
theorem dX11_isMark_13 : decode cX11_isMark 13 = .ok (.goto 4, 3) := by decide +kernel
theorem dX11_isMark_16 : decode cX11_isMark 16 = .ok (.iconst 0, 1) := by decide +kernel
theorem dX11_isMark_17 : decode cX11_isMark 17 = .ok (.ireturn, 1) := by decide +kernel
theorem dX11_isOff_0 : decode cX11_isOff 0 = .ok (.iload_n 1, 1) := by decide +kernel
theorem dX11_isOff_1 : decode cX11_isOff 1 = .ok (.invokestatic 453, 3) := by decide +kernel
theorem dX11_isOff_4 : decode cX11_isOff 4 = .ok (.istore_n 3, 1) := by decide +kernel
theorem dX11_isOff_5 : decode cX11_isOff 5 = .ok (.iload_n 2, 1) := by decide +kernel
theorem dX11_isOff_6 : decode cX11_isOff 6 = .ok (.invokestatic 453, 3) := by decide +kernel
theorem dX11_isOff_9 : decode cX11_isOff 9 = .ok (.istore 4, 2) := by decide +kernel
theorem dX11_isOff_11 : decode cX11_isOff 11 = .ok (.iconst 0, 1) := by decide +kernel
theorem dX11_isOff_12 : decode cX11_isOff 12 = .ok (.istore 5, 2) := by decide +kernel
theorem dX11_isOff_14 : decode cX11_isOff 14 = .ok (.iload 5, 2) := by decide +kernel
theorem dX11_isOff_16 : decode cX11_isOff 16 = .ok (.aload_n 0, 1) := by decide +kernel
theorem dX11_isOff_17 : decode cX11_isOff 17 = .ok (.getfield 145, 3) := by decide +kernel
theorem dX11_isOff_20 : decode cX11_isOff 20 = .ok (.iload_n 1, 1) := by decide +kernel
theorem dX11_isOff_21 : decode cX11_isOff 21 = .ok (.iaload, 1) := by decide +kernel
theorem dX11_isOff_22 : decode cX11_isOff 22 = .ok (.if_icmp .ge 151, 3) := by decide +kernel
theorem dX11_isOff_25 : decode cX11_isOff 25 = .ok (.aload_n 0, 1) := by decide +kernel
theorem dX11_isOff_26 : decode cX11_isOff 26 = .ok (.getfield 151, 3) := by decide +kernel
theorem dX11_isOff_29 : decode cX11_isOff 29 = .ok (.bipush 24, 2) := by decide +kernel
theorem dX11_isOff_31 : decode cX11_isOff 31 = .ok (.iload_n 1, 1) := by decide +kernel
theorem dX11_isOff_32 : decode cX11_isOff 32 = .ok (.imul, 1) := by decide +kernel
theorem dX11_isOff_33 : decode cX11_isOff 33 = .ok (.iload 5, 2) := by decide +kernel
theorem dX11_isOff_35 : decode cX11_isOff 35 = .ok (.iadd, 1) := by decide +kernel
theorem dX11_isOff_36 : decode cX11_isOff 36 = .ok (.iaload, 1) := by decide +kernel
theorem dX11_isOff_37 : decode cX11_isOff 37 = .ok (.istore 6, 2) := by decide +kernel
theorem dX11_isOff_39 : decode cX11_isOff 39 = .ok (.iconst 0, 1) := by decide +kernel
theorem dX11_isOff_40 : decode cX11_isOff 40 = .ok (.istore 7, 2) := by decide +kernel
theorem dX11_isOff_42 : decode cX11_isOff 42 = .ok (.iload 7, 2) := by decide +kernel
theorem dX11_isOff_44 : decode cX11_isOff 44 = .ok (.aload_n 0, 1) := by decide +kernel
theorem dX11_isOff_45 : decode cX11_isOff 45 = .ok (.getfield 145, 3) := by decide +kernel
theorem dX11_isOff_48 : decode cX11_isOff 48 = .ok (.iload_n 2, 1) := by decide +kernel
theorem dX11_isOff_49 : decode cX11_isOff 49 = .ok (.iaload, 1) := by decide +kernel
theorem dX11_isOff_50 : decode cX11_isOff 50 = .ok (.if_icmp .ge 117, 3) := by decide +kernel
theorem dX11_isOff_53 : decode cX11_isOff 53 = .ok (.iload 6, 2) := by decide +kernel
theorem dX11_isOff_55 : decode cX11_isOff 55 = .ok (.iconst (-1), 1) := by decide +kernel
theorem dX11_isOff_56 : decode cX11_isOff 56 = .ok (.if_icmp .eq 111, 3) := by decide +kernel
theorem dX11_isOff_59 : decode cX11_isOff 59 = .ok (.aload_n 0, 1) := by decide +kernel
theorem dX11_isOff_60 : decode cX11_isOff 60 = .ok (.getfield 154, 3) := by decide +kernel
theorem dX11_isOff_63 : decode cX11_isOff 63 = .ok (.bipush 24, 2) := by decide +kernel
theorem dX11_isOff_65 : decode cX11_isOff 65 = .ok (.iload_n 2, 1) := by decide +kernel
theorem dX11_isOff_66 : decode cX11_isOff 66 = .ok (.imul, 1) := by decide +kernel
theorem dX11_isOff_67 : decode cX11_isOff 67 = .ok (.iload 7, 2) := by decide +kernel
theorem dX11_isOff_69 : decode cX11_isOff 69 = .ok (.iadd, 1) := by decide +kernel
theorem dX11_isOff_70 : decode cX11_isOff 70 = .ok (.iaload, 1) := by decide +kernel
theorem dX11_isOff_71 : decode cX11_isOff 71 = .ok (.istore 8, 2) := by decide +kernel
theorem dX11_isOff_73 : decode cX11_isOff 73 = .ok (.aload_n 0, 1) := by decide +kernel
theorem dX11_isOff_74 : decode cX11_isOff 74 = .ok (.getfield 151, 3) := by decide +kernel
theorem dX11_isOff_77 : decode cX11_isOff 77 = .ok (.bipush 24, 2) := by decide +kernel
theorem dX11_isOff_79 : decode cX11_isOff 79 = .ok (.iload_n 2, 1) := by decide +kernel
theorem dX11_isOff_80 : decode cX11_isOff 80 = .ok (.imul, 1) := by decide +kernel
theorem dX11_isOff_81 : decode cX11_isOff 81 = .ok (.iload 7, 2) := by decide +kernel
theorem dX11_isOff_83 : decode cX11_isOff 83 = .ok (.iadd, 1) := by decide +kernel
theorem dX11_isOff_84 : decode cX11_isOff 84 = .ok (.iaload, 1) := by decide +kernel
theorem dX11_isOff_85 : decode cX11_isOff 85 = .ok (.iload 6, 2) := by decide +kernel
theorem dX11_isOff_87 : decode cX11_isOff 87 = .ok (.if_icmp .eq 6, 3) := by decide +kernel
theorem dX11_isOff_90 : decode cX11_isOff 90 = .ok (.goto 71, 3) := by decide +kernel
theorem dX11_isOff_93 : decode cX11_isOff 93 = .ok (.aload_n 0, 1) := by decide +kernel
theorem dX11_isOff_94 : decode cX11_isOff 94 = .ok (.iload_n 1, 1) := by decide +kernel
theorem dX11_isOff_95 : decode cX11_isOff 95 = .ok (.iload 5, 2) := by decide +kernel
theorem dX11_isOff_97 : decode cX11_isOff 97 = .ok (.invokevirtual 518, 3) := by decide +kernel
theorem dX11_isOff_100 : decode cX11_isOff 100 = .ok (.iconst 1, 1) := by decide +kernel
theorem dX11_isOff_101 : decode cX11_isOff 101 = .ok (.iadd, 1) := by decide +kernel
theorem dX11_isOff_102 : decode cX11_isOff 102 = .ok (.iload 8, 2) := by decide +kernel
theorem dX11_isOff_104 : decode cX11_isOff 104 = .ok (.invokestatic 577, 3) := by decide +kernel
theorem dX11_isOff_107 : decode cX11_isOff 107 = .ok (.istore 9, 2) := by decide +kernel
theorem dX11_isOff_109 : decode cX11_isOff 109 = .ok (.iload 9, 2) := by decide +kernel
theorem dX11_isOff_111 : decode cX11_isOff 111 = .ok (.aload_n 0, 1) := by decide +kernel
theorem dX11_isOff_112 : decode cX11_isOff 112 = .ok (.getfield 154, 3) := by decide +kernel
theorem dX11_isOff_115 : decode cX11_isOff 115 = .ok (.bipush 24, 2) := by decide +kernel
theorem dX11_isOff_117 : decode cX11_isOff 117 = .ok (.iload_n 1, 1) := by decide +kernel
theorem dX11_isOff_118 : decode cX11_isOff 118 = .ok (.imul, 1) := by decide +kernel
theorem dX11_isOff_119 : decode cX11_isOff 119 = .ok (.iload 5, 2) := by decide +kernel
theorem dX11_isOff_121 : decode cX11_isOff 121 = .ok (.iadd, 1) := by decide +kernel
theorem dX11_isOff_122 : decode cX11_isOff 122 = .ok (.iaload, 1) := by decide +kernel
theorem dX11_isOff_123 : decode cX11_isOff 123 = .ok (.if_icmp .gt 38, 3) := by decide +kernel
theorem dX11_isOff_126 : decode cX11_isOff 126 = .ok (.aload_n 0, 1) := by decide +kernel
theorem dX11_isOff_127 : decode cX11_isOff 127 = .ok (.iload 4, 2) := by decide +kernel
theorem dX11_isOff_129 : decode cX11_isOff 129 = .ok (.iload 8, 2) := by decide +kernel
theorem dX11_isOff_131 : decode cX11_isOff 131 = .ok (.iload 9, 2) := by decide +kernel
theorem dX11_isOff_133 : decode cX11_isOff 133 = .ok (.invokevirtual 532, 3) := by decide +kernel
theorem dX11_isOff_136 : decode cX11_isOff 136 = .ok (.ifCond .eq 19, 3) := by decide +kernel
theorem dX11_isOff_139 : decode cX11_isOff 139 = .ok (.aload_n 0, 1) := by decide +kernel
theorem dX11_isOff_140 : decode cX11_isOff 140 = .ok (.iload 9, 2) := by decide +kernel
theorem dX11_isOff_142 : decode cX11_isOff 142 = .ok (.iconst 1, 1) := by decide +kernel
theorem dX11_isOff_143 : decode cX11_isOff 143 = .ok (.iconst 0, 1) := by decide +kernel
theorem dX11_isOff_144 : decode cX11_isOff 144 = .ok (.iload_n 3, 1) := by decide +kernel
theorem dX11_isOff_145 : decode cX11_isOff 145 = .ok (.iload 4, 2) := by decide +kernel
theorem dX11_isOff_147 : decode cX11_isOff 147 = .ok (.invokevirtual 555, 3) := by decide +kernel
theorem dX11_isOff_150 : decode cX11_isOff 150 = .ok (.ifCond .ne 5, 3) := by decide +kernel
theorem dX11_isOff_153 : decode cX11_isOff 153 = .ok (.iconst 0, 1) := by decide +kernel
theorem dX11_isOff_154 : decode cX11_isOff 154 = .ok (.ireturn, 1) := by decide +kernel
theorem dX11_isOff_155 : decode cX11_isOff 155 = .ok (.iinc 9 1, 3) := by decide +kernel
theorem dX11_isOff_158 : decode cX11_isOff 158 = .ok (.goto (-49), 3) := by decide +kernel
theorem dX11_isOff_161 : decode cX11_isOff 161 = .ok (.iinc 7 1, 3) := by decide +kernel
theorem dX11_isOff_164 : decode cX11_isOff 164 = .ok (.goto (-122), 3) := by decide +kernel
theorem dX11_isOff_167 : decode cX11_isOff 167 = .ok (.iinc 5 1, 3) := by decide +kernel
theorem dX11_isOff_170 : decode cX11_isOff 170 = .ok (.goto (-156), 3) := by decide +kernel
theorem dX11_isOff_173 : decode cX11_isOff 173 = .ok (.iconst 1, 1) := by decide +kernel
theorem dX11_isOff_174 : decode cX11_isOff 174 = .ok (.ireturn, 1) := by decide +kernel
theorem dX11_isOn_0 : decode cX11_isOn 0 = .ok (.aload_n 0, 1) := by decide +kernel
theorem dX11_isOn_1 : decode cX11_isOn 1 = .ok (.getfield 309, 3) := by decide +kernel
theorem dX11_isOn_4 : decode cX11_isOn 4 = .ok (.ifCond .le 22, 3) := by decide +kernel
theorem dX11_isOn_7 : decode cX11_isOn 7 = .ok (.aload_n 0, 1) := by decide +kernel
theorem dX11_isOn_8 : decode cX11_isOn 8 = .ok (.getfield 124, 3) := by decide +kernel
theorem dX11_isOn_11 : decode cX11_isOn 11 = .ok (.aload_n 0, 1) := by decide +kernel
theorem dX11_isOn_12 : decode cX11_isOn 12 = .ok (.getfield 309, 3) := by decide +kernel
theorem dX11_isOn_15 : decode cX11_isOn 15 = .ok (.iconst 1, 1) := by decide +kernel
theorem dX11_isOn_16 : decode cX11_isOn 16 = .ok (.isub, 1) := by decide +kernel
theorem dX11_isOn_17 : decode cX11_isOn 17 = .ok (.iaload, 1) := by decide +kernel
theorem dX11_isOn_18 : decode cX11_isOn 18 = .ok (.iload_n 1, 1) := by decide +kernel
theorem dX11_isOn_19 : decode cX11_isOn 19 = .ok (.if_icmp .ne 7, 3) := by decide +kernel
theorem dX11_isOn_22 : decode cX11_isOn 22 = .ok (.iconst 1, 1) := by decide +kernel
theorem dX11_isOn_23 : decode cX11_isOn 23 = .ok (.goto 4, 3) := by decide +kernel
theorem dX11_isOn_26 : decode cX11_isOn 26 = .ok (.iconst 0, 1) := by decide +kernel
theorem dX11_isOn_27 : decode cX11_isOn 27 = .ok (.ireturn, 1) := by decide +kernel
theorem dX11_isOrder_0 : decode cX11_isOrder 0 = .ok (.iconst 0, 1) := by decide +kernel
theorem dX11_isOrder_1 : decode cX11_isOrder 1 = .ok (.istore_n 2, 1) := by decide +kernel
theorem dX11_isOrder_2 : decode cX11_isOrder 2 = .ok (.iload_n 1, 1) := by decide +kernel
theorem dX11_isOrder_3 : decode cX11_isOrder 3 = .ok (.istore_n 3, 1) := by decide +kernel
theorem dX11_isOrder_4 : decode cX11_isOrder 4 = .ok (.iconst 0, 1) := by decide +kernel
theorem dX11_isOrder_5 : decode cX11_isOrder 5 = .ok (.istore 4, 2) := by decide +kernel
theorem dX11_isOrder_7 : decode cX11_isOrder 7 = .ok (.iload 4, 2) := by decide +kernel
theorem dX11_isOrder_9 : decode cX11_isOrder 9 = .ok (.aload_n 0, 1) := by decide +kernel
theorem dX11_isOrder_10 : decode cX11_isOrder 10 = .ok (.invokevirtual 447, 3) := by decide +kernel
theorem dX11_isOrder_13 : decode cX11_isOrder 13 = .ok (.if_icmp .ge 41, 3) := by decide +kernel
theorem dX11_isOrder_16 : decode cX11_isOrder 16 = .ok (.aload_n 0, 1) := by decide +kernel
theorem dX11_isOrder_17 : decode cX11_isOrder 17 = .ok (.getfield 206, 3) := by decide +kernel
theorem dX11_isOrder_20 : decode cX11_isOrder 20 = .ok (.iload 4, 2) := by decide +kernel
theorem dX11_isOrder_22 : decode cX11_isOrder 22 = .ok (.iload_n 3, 1) := by decide +kernel
theorem dX11_isOrder_23 : decode cX11_isOrder 23 = .ok (.aload_n 0, 1) := by decide +kernel
theorem dX11_isOrder_24 : decode cX11_isOrder 24 = .ok (.invokevirtual 447, 3) := by decide +kernel
theorem dX11_isOrder_27 : decode cX11_isOrder 27 = .ok (.irem, 1) := by decide +kernel
theorem dX11_isOrder_28 : decode cX11_isOrder 28 = .ok (.iastore, 1) := by decide +kernel
theorem dX11_isOrder_29 : decode cX11_isOrder 29 = .ok (.iload_n 3, 1) := by decide +kernel
theorem dX11_isOrder_30 : decode cX11_isOrder 30 = .ok (.aload_n 0, 1) := by decide +kernel
theorem dX11_isOrder_31 : decode cX11_isOrder 31 = .ok (.invokevirtual 447, 3) := by decide +kernel
theorem dX11_isOrder_34 : decode cX11_isOrder 34 = .ok (.idiv, 1) := by decide +kernel
theorem dX11_isOrder_35 : decode cX11_isOrder 35 = .ok (.istore_n 3, 1) := by decide +kernel
theorem dX11_isOrder_36 : decode cX11_isOrder 36 = .ok (.iload_n 2, 1) := by decide +kernel
theorem dX11_isOrder_37 : decode cX11_isOrder 37 = .ok (.iconst 1, 1) := by decide +kernel
theorem dX11_isOrder_38 : decode cX11_isOrder 38 = .ok (.aload_n 0, 1) := by decide +kernel
theorem dX11_isOrder_39 : decode cX11_isOrder 39 = .ok (.getfield 206, 3) := by decide +kernel
theorem dX11_isOrder_42 : decode cX11_isOrder 42 = .ok (.iload 4, 2) := by decide +kernel
theorem dX11_isOrder_44 : decode cX11_isOrder 44 = .ok (.iaload, 1) := by decide +kernel
theorem dX11_isOrder_45 : decode cX11_isOrder 45 = .ok (.ishl, 1) := by decide +kernel
theorem dX11_isOrder_46 : decode cX11_isOrder 46 = .ok (.ior, 1) := by decide +kernel
theorem dX11_isOrder_47 : decode cX11_isOrder 47 = .ok (.istore_n 2, 1) := by decide +kernel
theorem dX11_isOrder_48 : decode cX11_isOrder 48 = .ok (.iinc 4 1, 3) := by decide +kernel
theorem dX11_isOrder_51 : decode cX11_isOrder 51 = .ok (.goto (-44), 3) := by decide +kernel
theorem dX11_isOrder_54 : decode cX11_isOrder 54 = .ok (.iload_n 2, 1) := by decide +kernel
theorem dX11_isOrder_55 : decode cX11_isOrder 55 = .ok (.aload_n 0, 1) := by decide +kernel
theorem dX11_isOrder_56 : decode cX11_isOrder 56 = .ok (.invokevirtual 647, 3) := by decide +kernel
theorem dX11_isOrder_59 : decode cX11_isOrder 59 = .ok (.if_icmp .ne 7, 3) := by decide +kernel
theorem dX11_isOrder_62 : decode cX11_isOrder 62 = .ok (.iconst 1, 1) := by decide +kernel
theorem dX11_isOrder_63 : decode cX11_isOrder 63 = .ok (.goto 4, 3) := by decide +kernel
theorem dX11_isOrder_66 : decode cX11_isOrder 66 = .ok (.iconst 0, 1) := by decide +kernel
theorem dX11_isOrder_67 : decode cX11_isOrder 67 = .ok (.ireturn, 1) := by decide +kernel
theorem dX11_isOwnHere_0 : decode cX11_isOwnHere 0 = .ok (.aload_n 0, 1) := by decide +kernel
theorem dX11_isOwnHere_1 : decode cX11_isOwnHere 1 = .ok (.aload_n 0, 1) := by decide +kernel
theorem dX11_isOwnHere_2 : decode cX11_isOwnHere 2 = .ok (.getfield 17, 3) := by decide +kernel
theorem dX11_isOwnHere_5 : decode cX11_isOwnHere 5 = .ok (.invokevirtual 247, 3) := by decide +kernel
theorem dX11_isOwnHere_8 : decode cX11_isOwnHere 8 = .ok (.ifCond .ne 58, 3) := by decide +kernel
theorem dX11_isOwnHere_11 : decode cX11_isOwnHere 11 = .ok (.aload_n 0, 1) := by decide +kernel
theorem dX11_isOwnHere_12 : decode cX11_isOwnHere 12 = .ok (.aload_n 0, 1) := by decide +kernel
theorem dX11_isOwnHere_13 : decode cX11_isOwnHere 13 = .ok (.getfield 21, 3) := by decide +kernel
theorem dX11_isOwnHere_16 : decode cX11_isOwnHere 16 = .ok (.invokevirtual 247, 3) := by decide +kernel
theorem dX11_isOwnHere_19 : decode cX11_isOwnHere 19 = .ok (.ifCond .ne 47, 3) := by decide +kernel
theorem dX11_isOwnHere_22 : decode cX11_isOwnHere 22 = .ok (.aload_n 0, 1) := by decide +kernel
theorem dX11_isOwnHere_23 : decode cX11_isOwnHere 23 = .ok (.aload_n 0, 1) := by decide +kernel
theorem dX11_isOwnHere_24 : decode cX11_isOwnHere 24 = .ok (.getfield 24, 3) := by decide +kernel
theorem dX11_isOwnHere_27 : decode cX11_isOwnHere 27 = .ok (.invokevirtual 247, 3) := by decide +kernel
theorem dX11_isOwnHere_30 : decode cX11_isOwnHere 30 = .ok (.ifCond .ne 36, 3) := by decide +kernel
theorem dX11_isOwnHere_33 : decode cX11_isOwnHere 33 = .ok (.aload_n 0, 1) := by decide +kernel
theorem dX11_isOwnHere_34 : decode cX11_isOwnHere 34 = .ok (.aload_n 0, 1) := by decide +kernel
theorem dX11_isOwnHere_35 : decode cX11_isOwnHere 35 = .ok (.getfield 27, 3) := by decide +kernel
theorem dX11_isOwnHere_38 : decode cX11_isOwnHere 38 = .ok (.invokevirtual 247, 3) := by decide +kernel
theorem dX11_isOwnHere_41 : decode cX11_isOwnHere 41 = .ok (.ifCond .ne 25, 3) := by decide +kernel
theorem dX11_isOwnHere_44 : decode cX11_isOwnHere 44 = .ok (.aload_n 0, 1) := by decide +kernel
theorem dX11_isOwnHere_45 : decode cX11_isOwnHere 45 = .ok (.aload_n 0, 1) := by decide +kernel
theorem dX11_isOwnHere_46 : decode cX11_isOwnHere 46 = .ok (.getfield 30, 3) := by decide +kernel
theorem dX11_isOwnHere_49 : decode cX11_isOwnHere 49 = .ok (.invokevirtual 247, 3) := by decide +kernel
theorem dX11_isOwnHere_52 : decode cX11_isOwnHere 52 = .ok (.ifCond .ne 14, 3) := by decide +kernel
theorem dX11_isOwnHere_55 : decode cX11_isOwnHere 55 = .ok (.aload_n 0, 1) := by decide +kernel
theorem dX11_isOwnHere_56 : decode cX11_isOwnHere 56 = .ok (.aload_n 0, 1) := by decide +kernel
theorem dX11_isOwnHere_57 : decode cX11_isOwnHere 57 = .ok (.getfield 33, 3) := by decide +kernel
theorem dX11_isOwnHere_60 : decode cX11_isOwnHere 60 = .ok (.invokevirtual 247, 3) := by decide +kernel
theorem dX11_isOwnHere_63 : decode cX11_isOwnHere 63 = .ok (.ifCond .eq 7, 3) := by decide +kernel
theorem dX11_isOwnHere_66 : decode cX11_isOwnHere 66 = .ok (.iconst 1, 1) := by decide +kernel
theorem dX11_isOwnHere_67 : decode cX11_isOwnHere 67 = .ok (.goto 4, 3) := by decide +kernel
theorem dX11_isOwnHere_70 : decode cX11_isOwnHere 70 = .ok (.iconst 0, 1) := by decide +kernel
theorem dX11_isOwnHere_71 : decode cX11_isOwnHere 71 = .ok (.istore_n 1, 1) := by decide +kernel
theorem dX11_isOwnHere_72 : decode cX11_isOwnHere 72 = .ok (.iload_n 1, 1) := by decide +kernel
theorem dX11_isOwnHere_73 : decode cX11_isOwnHere 73 = .ok (.ifCond .ne 69, 3) := by decide +kernel
theorem dX11_isOwnHere_76 : decode cX11_isOwnHere 76 = .ok (.aload_n 0, 1) := by decide +kernel
theorem dX11_isOwnHere_77 : decode cX11_isOwnHere 77 = .ok (.aload_n 0, 1) := by decide +kernel
theorem dX11_isOwnHere_78 : decode cX11_isOwnHere 78 = .ok (.getfield 36, 3) := by decide +kernel
theorem dX11_isOwnHere_81 : decode cX11_isOwnHere 81 = .ok (.invokevirtual 247, 3) := by decide +kernel
theorem dX11_isOwnHere_84 : decode cX11_isOwnHere 84 = .ok (.ifCond .ne 58, 3) := by decide +kernel
theorem dX11_isOwnHere_87 : decode cX11_isOwnHere 87 = .ok (.aload_n 0, 1) := by decide +kernel
theorem dX11_isOwnHere_88 : decode cX11_isOwnHere 88 = .ok (.aload_n 0, 1) := by decide +kernel
theorem dX11_isOwnHere_89 : decode cX11_isOwnHere 89 = .ok (.getfield 39, 3) := by decide +kernel
theorem dX11_isOwnHere_92 : decode cX11_isOwnHere 92 = .ok (.invokevirtual 247, 3) := by decide +kernel
theorem dX11_isOwnHere_95 : decode cX11_isOwnHere 95 = .ok (.ifCond .ne 47, 3) := by decide +kernel
theorem dX11_isOwnHere_98 : decode cX11_isOwnHere 98 = .ok (.aload_n 0, 1) := by decide +kernel
theorem dX11_isOwnHere_99 : decode cX11_isOwnHere 99 = .ok (.aload_n 0, 1) := by decide +kernel
theorem dX11_isOwnHere_100 : decode cX11_isOwnHere 100 = .ok (.getfield 42, 3) := by decide +kernel
theorem dX11_isOwnHere_103 : decode cX11_isOwnHere 103 = .ok (.invokevirtual 247, 3) := by decide +kernel
theorem dX11_isOwnHere_106 : decode cX11_isOwnHere 106 = .ok (.ifCond .ne 36, 3) := by decide +kernel
theorem dX11_isOwnHere_109 : decode cX11_isOwnHere 109 = .ok (.aload_n 0, 1) := by decide +kernel
theorem dX11_isOwnHere_110 : decode cX11_isOwnHere 110 = .ok (.aload_n 0, 1) := by decide +kernel
theorem dX11_isOwnHere_111 : decode cX11_isOwnHere 111 = .ok (.getfield 45, 3) := by decide +kernel
theorem dX11_isOwnHere_114 : decode cX11_isOwnHere 114 = .ok (.invokevirtual 247, 3) := by decide +kernel
theorem dX11_isOwnHere_117 : decode cX11_isOwnHere 117 = .ok (.ifCond .ne 25, 3) := by decide +kernel
theorem dX11_isOwnHere_120 : decode cX11_isOwnHere 120 = .ok (.aload_n 0, 1) := by decide +kernel
theorem dX11_isOwnHere_121 : decode cX11_isOwnHere 121 = .ok (.aload_n 0, 1) := by decide +kernel
theorem dX11_isOwnHere_122 : decode cX11_isOwnHere 122 = .ok (.getfield 48, 3) := by decide +kernel
theorem dX11_isOwnHere_125 : decode cX11_isOwnHere 125 = .ok (.invokevirtual 247, 3) := by decide +kernel
theorem dX11_isOwnHere_128 : decode cX11_isOwnHere 128 = .ok (.ifCond .ne 14, 3) := by decide +kernel
theorem dX11_isOwnHere_131 : decode cX11_isOwnHere 131 = .ok (.aload_n 0, 1) := by decide +kernel
theorem dX11_isOwnHere_132 : decode cX11_isOwnHere 132 = .ok (.aload_n 0, 1) := by decide +kernel
theorem dX11_isOwnHere_133 : decode cX11_isOwnHere 133 = .ok (.getfield 51, 3) := by decide +kernel
theorem dX11_isOwnHere_136 : decode cX11_isOwnHere 136 = .ok (.invokevirtual 247, 3) := by decide +kernel
theorem dX11_isOwnHere_139 : decode cX11_isOwnHere 139 = .ok (.ifCond .eq 7, 3) := by decide +kernel
theorem dX11_isOwnHere_142 : decode cX11_isOwnHere 142 = .ok (.iconst 1, 1) := by decide +kernel
theorem dX11_isOwnHere_143 : decode cX11_isOwnHere 143 = .ok (.goto 4, 3) := by decide +kernel
theorem dX11_isOwnHere_146 : decode cX11_isOwnHere 146 = .ok (.iconst 0, 1) := by decide +kernel
theorem dX11_isOwnHere_147 : decode cX11_isOwnHere 147 = .ok (.istore_n 1, 1) := by decide +kernel
theorem dX11_isOwnHere_148 : decode cX11_isOwnHere 148 = .ok (.iload_n 1, 1) := by decide +kernel
theorem dX11_isOwnHere_149 : decode cX11_isOwnHere 149 = .ok (.ifCond .ne 69, 3) := by decide +kernel
theorem dX11_isOwnHere_152 : decode cX11_isOwnHere 152 = .ok (.aload_n 0, 1) := by decide +kernel
theorem dX11_isOwnHere_153 : decode cX11_isOwnHere 153 = .ok (.aload_n 0, 1) := by decide +kernel
theorem dX11_isOwnHere_154 : decode cX11_isOwnHere 154 = .ok (.getfield 54, 3) := by decide +kernel
theorem dX11_isOwnHere_157 : decode cX11_isOwnHere 157 = .ok (.invokevirtual 247, 3) := by decide +kernel
theorem dX11_isOwnHere_160 : decode cX11_isOwnHere 160 = .ok (.ifCond .ne 58, 3) := by decide +kernel
theorem dX11_isOwnHere_163 : decode cX11_isOwnHere 163 = .ok (.aload_n 0, 1) := by decide +kernel
theorem dX11_isOwnHere_164 : decode cX11_isOwnHere 164 = .ok (.aload_n 0, 1) := by decide +kernel
theorem dX11_isOwnHere_165 : decode cX11_isOwnHere 165 = .ok (.getfield 57, 3) := by decide +kernel
theorem dX11_isOwnHere_168 : decode cX11_isOwnHere 168 = .ok (.invokevirtual 247, 3) := by decide +kernel
theorem dX11_isOwnHere_171 : decode cX11_isOwnHere 171 = .ok (.ifCond .ne 47, 3) := by decide +kernel
theorem dX11_isOwnHere_174 : decode cX11_isOwnHere 174 = .ok (.aload_n 0, 1) := by decide +kernel
theorem dX11_isOwnHere_175 : decode cX11_isOwnHere 175 = .ok (.aload_n 0, 1) := by decide +kernel
theorem dX11_isOwnHere_176 : decode cX11_isOwnHere 176 = .ok (.getfield 60, 3) := by decide +kernel
theorem dX11_isOwnHere_179 : decode cX11_isOwnHere 179 = .ok (.invokevirtual 247, 3) := by decide +kernel
theorem dX11_isOwnHere_182 : decode cX11_isOwnHere 182 = .ok (.ifCond .ne 36, 3) := by decide +kernel
theorem dX11_isOwnHere_185 : decode cX11_isOwnHere 185 = .ok (.aload_n 0, 1) := by decide +kernel
theorem dX11_isOwnHere_186 : decode cX11_isOwnHere 186 = .ok (.aload_n 0, 1) := by decide +kernel
theorem dX11_isOwnHere_187 : decode cX11_isOwnHere 187 = .ok (.getfield 63, 3) := by decide +kernel
theorem dX11_isOwnHere_190 : decode cX11_isOwnHere 190 = .ok (.invokevirtual 247, 3) := by decide +kernel
theorem dX11_isOwnHere_193 : decode cX11_isOwnHere 193 = .ok (.ifCond .ne 25, 3) := by decide +kernel
theorem dX11_isOwnHere_196 : decode cX11_isOwnHere 196 = .ok (.aload_n 0, 1) := by decide +kernel
theorem dX11_isOwnHere_197 : decode cX11_isOwnHere 197 = .ok (.aload_n 0, 1) := by decide +kernel
theorem dX11_isOwnHere_198 : decode cX11_isOwnHere 198 = .ok (.getfield 66, 3) := by decide +kernel
theorem dX11_isOwnHere_201 : decode cX11_isOwnHere 201 = .ok (.invokevirtual 247, 3) := by decide +kernel
theorem dX11_isOwnHere_204 : decode cX11_isOwnHere 204 = .ok (.ifCond .ne 14, 3) := by decide +kernel
theorem dX11_isOwnHere_207 : decode cX11_isOwnHere 207 = .ok (.aload_n 0, 1) := by decide +kernel
theorem dX11_isOwnHere_208 : decode cX11_isOwnHere 208 = .ok (.aload_n 0, 1) := by decide +kernel
theorem dX11_isOwnHere_209 : decode cX11_isOwnHere 209 = .ok (.getfield 69, 3) := by decide +kernel
theorem dX11_isOwnHere_212 : decode cX11_isOwnHere 212 = .ok (.invokevirtual 247, 3) := by decide +kernel
theorem dX11_isOwnHere_215 : decode cX11_isOwnHere 215 = .ok (.ifCond .eq 7, 3) := by decide +kernel
theorem dX11_isOwnHere_218 : decode cX11_isOwnHere 218 = .ok (.iconst 1, 1) := by decide +kernel
theorem dX11_isOwnHere_219 : decode cX11_isOwnHere 219 = .ok (.goto 4, 3) := by decide +kernel
theorem dX11_isOwnHere_222 : decode cX11_isOwnHere 222 = .ok (.iconst 0, 1) := by decide +kernel
theorem dX11_isOwnHere_223 : decode cX11_isOwnHere 223 = .ok (.istore_n 1, 1) := by decide +kernel
theorem dX11_isOwnHere_224 : decode cX11_isOwnHere 224 = .ok (.iload_n 1, 1) := by decide +kernel
theorem dX11_isOwnHere_225 : decode cX11_isOwnHere 225 = .ok (.ifCond .ne 69, 3) := by decide +kernel
theorem dX11_isOwnHere_228 : decode cX11_isOwnHere 228 = .ok (.aload_n 0, 1) := by decide +kernel
theorem dX11_isOwnHere_229 : decode cX11_isOwnHere 229 = .ok (.aload_n 0, 1) := by decide +kernel
theorem dX11_isOwnHere_230 : decode cX11_isOwnHere 230 = .ok (.getfield 72, 3) := by decide +kernel
theorem dX11_isOwnHere_233 : decode cX11_isOwnHere 233 = .ok (.invokevirtual 247, 3) := by decide +kernel
theorem dX11_isOwnHere_236 : decode cX11_isOwnHere 236 = .ok (.ifCond .ne 58, 3) := by decide +kernel
theorem dX11_isOwnHere_239 : decode cX11_isOwnHere 239 = .ok (.aload_n 0, 1) := by decide +kernel
theorem dX11_isOwnHere_240 : decode cX11_isOwnHere 240 = .ok (.aload_n 0, 1) := by decide +kernel
theorem dX11_isOwnHere_241 : decode cX11_isOwnHere 241 = .ok (.getfield 75, 3) := by decide +kernel
theorem dX11_isOwnHere_244 : decode cX11_isOwnHere 244 = .ok (.invokevirtual 247, 3) := by decide +kernel
theorem dX11_isOwnHere_247 : decode cX11_isOwnHere 247 = .ok (.ifCond .ne 47, 3) := by decide +kernel
theorem dX11_isOwnHere_250 : decode cX11_isOwnHere 250 = .ok (.aload_n 0, 1) := by decide +kernel
theorem dX11_isOwnHere_251 : decode cX11_isOwnHere 251 = .ok (.aload_n 0, 1) := by decide +kernel
theorem dX11_isOwnHere_252 : decode cX11_isOwnHere 252 = .ok (.getfield 78, 3) := by decide +kernel
theorem dX11_isOwnHere_255 : decode cX11_isOwnHere 255 = .ok (.invokevirtual 247, 3) := by decide +kernel
theorem dX11_isOwnHere_258 : decode cX11_isOwnHere 258 = .ok (.ifCond .ne 36, 3) := by decide +kernel
theorem dX11_isOwnHere_261 : decode cX11_isOwnHere 261 = .ok (.aload_n 0, 1) := by decide +kernel
theorem dX11_isOwnHere_262 : decode cX11_isOwnHere 262 = .ok (.aload_n 0, 1) := by decide +kernel
theorem dX11_isOwnHere_263 : decode cX11_isOwnHere 263 = .ok (.getfield 81, 3) := by decide +kernel
theorem dX11_isOwnHere_266 : decode cX11_isOwnHere 266 = .ok (.invokevirtual 247, 3) := by decide +kernel
theorem dX11_isOwnHere_269 : decode cX11_isOwnHere 269 = .ok (.ifCond .ne 25, 3) := by decide +kernel
theorem dX11_isOwnHere_272 : decode cX11_isOwnHere 272 = .ok (.aload_n 0, 1) := by decide +kernel
theorem dX11_isOwnHere_273 : decode cX11_isOwnHere 273 = .ok (.aload_n 0, 1) := by decide +kernel
theorem dX11_isOwnHere_274 : decode cX11_isOwnHere 274 = .ok (.getfield 84, 3) := by decide +kernel
theorem dX11_isOwnHere_277 : decode cX11_isOwnHere 277 = .ok (.invokevirtual 247, 3) := by decide +kernel
theorem dX11_isOwnHere_280 : decode cX11_isOwnHere 280 = .ok (.ifCond .ne 14, 3) := by decide +kernel
theorem dX11_isOwnHere_283 : decode cX11_isOwnHere 283 = .ok (.aload_n 0, 1) := by decide +kernel
theorem dX11_isOwnHere_284 : decode cX11_isOwnHere 284 = .ok (.aload_n 0, 1) := by decide +kernel
theorem dX11_isOwnHere_285 : decode cX11_isOwnHere 285 = .ok (.getfield 87, 3) := by decide +kernel
theorem dX11_isOwnHere_288 : decode cX11_isOwnHere 288 = .ok (.invokevirtual 247, 3) := by decide +kernel
theorem dX11_isOwnHere_291 : decode cX11_isOwnHere 291 = .ok (.ifCond .eq 7, 3) := by decide +kernel
theorem dX11_isOwnHere_294 : decode cX11_isOwnHere 294 = .ok (.iconst 1, 1) := by decide +kernel
theorem dX11_isOwnHere_295 : decode cX11_isOwnHere 295 = .ok (.goto 4, 3) := by decide +kernel
theorem dX11_isOwnHere_298 : decode cX11_isOwnHere 298 = .ok (.iconst 0, 1) := by decide +kernel
theorem dX11_isOwnHere_299 : decode cX11_isOwnHere 299 = .ok (.istore_n 1, 1) := by decide +kernel
theorem dX11_isOwnHere_300 : decode cX11_isOwnHere 300 = .ok (.iload_n 1, 1) := by decide +kernel
theorem dX11_isOwnHere_301 : decode cX11_isOwnHere 301 = .ok (.ifCond .ne 36, 3) := by decide +kernel
theorem dX11_isOwnHere_304 : decode cX11_isOwnHere 304 = .ok (.aload_n 0, 1) := by decide +kernel
theorem dX11_isOwnHere_305 : decode cX11_isOwnHere 305 = .ok (.aload_n 0, 1) := by decide +kernel
theorem dX11_isOwnHere_306 : decode cX11_isOwnHere 306 = .ok (.getfield 90, 3) := by decide +kernel
theorem dX11_isOwnHere_309 : decode cX11_isOwnHere 309 = .ok (.invokevirtual 247, 3) := by decide +kernel
theorem dX11_isOwnHere_312 : decode cX11_isOwnHere 312 = .ok (.ifCond .ne 25, 3) := by decide +kernel
theorem dX11_isOwnHere_315 : decode cX11_isOwnHere 315 = .ok (.aload_n 0, 1) := by decide +kernel
theorem dX11_isOwnHere_316 : decode cX11_isOwnHere 316 = .ok (.aload_n 0, 1) := by decide +kernel
theorem dX11_isOwnHere_317 : decode cX11_isOwnHere 317 = .ok (.getfield 93, 3) := by decide +kernel
theorem dX11_isOwnHere_320 : decode cX11_isOwnHere 320 = .ok (.invokevirtual 247, 3) := by decide +kernel
theorem dX11_isOwnHere_323 : decode cX11_isOwnHere 323 = .ok (.ifCond .ne 14, 3) := by decide +kernel
theorem dX11_isOwnHere_326 : decode cX11_isOwnHere 326 = .ok (.aload_n 0, 1) := by decide +kernel
theorem dX11_isOwnHere_327 : decode cX11_isOwnHere 327 = .ok (.aload_n 0, 1) := by decide +kernel
theorem dX11_isOwnHere_328 : decode cX11_isOwnHere 328 = .ok (.getfield 96, 3) := by decide +kernel
theorem dX11_isOwnHere_331 : decode cX11_isOwnHere 331 = .ok (.invokevirtual 247, 3) := by decide +kernel
theorem dX11_isOwnHere_334 : decode cX11_isOwnHere 334 = .ok (.ifCond .eq 7, 3) := by decide +kernel
theorem dX11_isOwnHere_337 : decode cX11_isOwnHere 337 = .ok (.iconst 1, 1) := by decide +kernel
theorem dX11_isOwnHere_338 : decode cX11_isOwnHere 338 = .ok (.goto 4, 3) := by decide +kernel
theorem dX11_isOwnHere_341 : decode cX11_isOwnHere 341 = .ok (.iconst 0, 1) := by decide +kernel
theorem dX11_isOwnHere_342 : decode cX11_isOwnHere 342 = .ok (.istore_n 1, 1) := by decide +kernel
theorem dX11_isOwnHere_343 : decode cX11_isOwnHere 343 = .ok (.iload_n 1, 1) := by decide +kernel
theorem dX11_isOwnHere_344 : decode cX11_isOwnHere 344 = .ok (.ireturn, 1) := by decide +kernel
theorem dX11_isPleased_0 : decode cX11_isPleased 0 = .ok (.bipush 40, 2) := by decide +kernel
theorem dX11_isPleased_2 : decode cX11_isPleased 2 = .ok (.iconst 4, 1) := by decide +kernel
theorem dX11_isPleased_3 : decode cX11_isPleased 3 = .ok (.iload_n 1, 1) := by decide +kernel
theorem dX11_isPleased_4 : decode cX11_isPleased 4 = .ok (.imul, 1) := by decide +kernel
theorem dX11_isPleased_5 : decode cX11_isPleased 5 = .ok (.iadd, 1) := by decide +kernel
theorem dX11_isPleased_6 : decode cX11_isPleased 6 = .ok (.istore_n 2, 1) := by decide +kernel
theorem dX11_isPleased_7 : decode cX11_isPleased 7 = .ok (.iconst 0, 1) := by decide +kernel
theorem dX11_isPleased_8 : decode cX11_isPleased 8 = .ok (.istore_n 3, 1) := by decide +kernel
theorem dX11_isPleased_9 : decode cX11_isPleased 9 = .ok (.iload_n 3, 1) := by decide +kernel
theorem dX11_isPleased_10 : decode cX11_isPleased 10 = .ok (.aload_n 0, 1) := by decide +kernel
theorem dX11_isPleased_11 : decode cX11_isPleased 11 = .ok (.invokevirtual 447, 3) := by decide +kernel
theorem dX11_isPleased_14 : decode cX11_isPleased 14 = .ok (.if_icmp .ge 134, 3) := by decide +kernel
theorem dX11_isPleased_17 : decode cX11_isPleased 17 = .ok (.aload_n 0, 1) := by decide +kernel
theorem dX11_isPleased_18 : decode cX11_isPleased 18 = .ok (.getfield 145, 3) := by decide +kernel
theorem dX11_isPleased_21 : decode cX11_isPleased 21 = .ok (.iload_n 3, 1) := by decide +kernel
theorem dX11_isPleased_22 : decode cX11_isPleased 22 = .ok (.iaload, 1) := by decide +kernel
theorem dX11_isPleased_23 : decode cX11_isPleased 23 = .ok (.ifCond .le 30, 3) := by decide +kernel
theorem dX11_isPleased_26 : decode cX11_isPleased 26 = .ok (.aload_n 0, 1) := by decide +kernel
theorem dX11_isPleased_27 : decode cX11_isPleased 27 = .ok (.iload_n 3, 1) := by decide +kernel
theorem dX11_isPleased_28 : decode cX11_isPleased 28 = .ok (.invokevirtual 456, 3) := by decide +kernel
theorem dX11_isPleased_31 : decode cX11_isPleased 31 = .ok (.aload_n 0, 1) := by decide +kernel
theorem dX11_isPleased_32 : decode cX11_isPleased 32 = .ok (.getfield 115, 3) := by decide +kernel
theorem dX11_isPleased_35 : decode cX11_isPleased 35 = .ok (.iload_n 2, 1) := by decide +kernel
theorem dX11_isPleased_36 : decode cX11_isPleased 36 = .ok (.iaload, 1) := by decide +kernel
theorem dX11_isPleased_37 : decode cX11_isPleased 37 = .ok (.if_icmp .ne 16, 3) := by decide +kernel
theorem dX11_isPleased_40 : decode cX11_isPleased 40 = .ok (.aload_n 0, 1) := by decide +kernel
theorem dX11_isPleased_41 : decode cX11_isPleased 41 = .ok (.getfield 115, 3) := by decide +kernel
theorem dX11_isPleased_44 : decode cX11_isPleased 44 = .ok (.iload_n 2, 1) := by decide +kernel
theorem dX11_isPleased_45 : decode cX11_isPleased 45 = .ok (.iconst 1, 1) := by decide +kernel
theorem dX11_isPleased_46 : decode cX11_isPleased 46 = .ok (.iadd, 1) := by decide +kernel
theorem dX11_isPleased_47 : decode cX11_isPleased 47 = .ok (.iaload, 1) := by decide +kernel
theorem dX11_isPleased_48 : decode cX11_isPleased 48 = .ok (.ifCond .ne 5, 3) := by decide +kernel
theorem dX11_isPleased_51 : decode cX11_isPleased 51 = .ok (.iconst 1, 1) := by decide +kernel
theorem dX11_isPleased_52 : decode cX11_isPleased 52 = .ok (.ireturn, 1) := by decide +kernel
theorem dX11_isPleased_53 : decode cX11_isPleased 53 = .ok (.bipush 24, 2) := by decide +kernel
theorem dX11_isPleased_55 : decode cX11_isPleased 55 = .ok (.iload_n 3, 1) := by decide +kernel
theorem dX11_isPleased_56 : decode cX11_isPleased 56 = .ok (.imul, 1) := by decide +kernel
theorem dX11_isPleased_57 : decode cX11_isPleased 57 = .ok (.istore 4, 2) := by decide +kernel
theorem dX11_isPleased_59 : decode cX11_isPleased 59 = .ok (.iload 4, 2) := by decide +kernel
theorem dX11_isPleased_61 : decode cX11_isPleased 61 = .ok (.bipush 24, 2) := by decide +kernel
theorem dX11_isPleased_63 : decode cX11_isPleased 63 = .ok (.iload_n 3, 1) := by decide +kernel
theorem dX11_isPleased_64 : decode cX11_isPleased 64 = .ok (.imul, 1) := by decide +kernel
theorem dX11_isPleased_65 : decode cX11_isPleased 65 = .ok (.aload_n 0, 1) := by decide +kernel
theorem dX11_isPleased_66 : decode cX11_isPleased 66 = .ok (.getfield 145, 3) := by decide +kernel
theorem dX11_isPleased_69 : decode cX11_isPleased 69 = .ok (.iload_n 3, 1) := by decide +kernel
theorem dX11_isPleased_70 : decode cX11_isPleased 70 = .ok (.iaload, 1) := by decide +kernel
theorem dX11_isPleased_71 : decode cX11_isPleased 71 = .ok (.iadd, 1) := by decide +kernel
theorem dX11_isPleased_72 : decode cX11_isPleased 72 = .ok (.if_icmp .ge 70, 3) := by decide +kernel
theorem dX11_isPleased_75 : decode cX11_isPleased 75 = .ok (.aload_n 0, 1) := by decide +kernel
theorem dX11_isPleased_76 : decode cX11_isPleased 76 = .ok (.getfield 151, 3) := by decide +kernel
theorem dX11_isPleased_79 : decode cX11_isPleased 79 = .ok (.iload 4, 2) := by decide +kernel
theorem dX11_isPleased_81 : decode cX11_isPleased 81 = .ok (.iaload, 1) := by decide +kernel
theorem dX11_isPleased_82 : decode cX11_isPleased 82 = .ok (.iconst (-1), 1) := by decide +kernel
theorem dX11_isPleased_83 : decode cX11_isPleased 83 = .ok (.if_icmp .eq 53, 3) := by decide +kernel
theorem dX11_isPleased_86 : decode cX11_isPleased 86 = .ok (.aload_n 0, 1) := by decide +kernel
theorem dX11_isPleased_87 : decode cX11_isPleased 87 = .ok (.getfield 148, 3) := by decide +kernel
theorem dX11_isPleased_90 : decode cX11_isPleased 90 = .ok (.iload 4, 2) := by decide +kernel
theorem dX11_isPleased_92 : decode cX11_isPleased 92 = .ok (.iaload, 1) := by decide +kernel
theorem dX11_isPleased_93 : decode cX11_isPleased 93 = .ok (.aload_n 0, 1) := by decide +kernel
theorem dX11_isPleased_94 : decode cX11_isPleased 94 = .ok (.getfield 115, 3) := by decide +kernel
theorem dX11_isPleased_97 : decode cX11_isPleased 97 = .ok (.iload_n 2, 1) := by decide +kernel
theorem dX11_isPleased_98 : decode cX11_isPleased 98 = .ok (.iaload, 1) := by decide +kernel
theorem dX11_isPleased_99 : decode cX11_isPleased 99 = .ok (.if_icmp .ne 37, 3) := by decide +kernel
theorem dX11_isPleased_102 : decode cX11_isPleased 102 = .ok (.aload_n 0, 1) := by decide +kernel
theorem dX11_isPleased_103 : decode cX11_isPleased 103 = .ok (.getfield 154, 3) := by decide +kernel
theorem dX11_isPleased_106 : decode cX11_isPleased 106 = .ok (.iload 4, 2) := by decide +kernel
theorem dX11_isPleased_108 : decode cX11_isPleased 108 = .ok (.iaload, 1) := by decide +kernel
theorem dX11_isPleased_109 : decode cX11_isPleased 109 = .ok (.i2l, 1) := by decide +kernel
theorem dX11_isPleased_110 : decode cX11_isPleased 110 = .ok (.aload_n 0, 1) := by decide +kernel
theorem dX11_isPleased_111 : decode cX11_isPleased 111 = .ok (.getfield 115, 3) := by decide +kernel
theorem dX11_isPleased_114 : decode cX11_isPleased 114 = .ok (.iload_n 2, 1) := by decide +kernel
theorem dX11_isPleased_115 : decode cX11_isPleased 115 = .ok (.iconst 1, 1) := by decide +kernel
theorem dX11_isPleased_116 : decode cX11_isPleased 116 = .ok (.iadd, 1) := by decide +kernel
theorem dX11_isPleased_117 : decode cX11_isPleased 117 = .ok (.iaload, 1) := by decide +kernel
theorem dX11_isPleased_118 : decode cX11_isPleased 118 = .ok (.i2l, 1) := by decide +kernel
theorem dX11_isPleased_119 : decode cX11_isPleased 119 = .ok (.aload_n 0, 1) := by decide +kernel
theorem dX11_isPleased_120 : decode cX11_isPleased 120 = .ok (.getfield 115, 3) := by decide +kernel
theorem dX11_isPleased_123 : decode cX11_isPleased 123 = .ok (.iload_n 2, 1) := by decide +kernel
theorem dX11_isPleased_124 : decode cX11_isPleased 124 = .ok (.iconst 2, 1) := by decide +kernel
theorem dX11_isPleased_125 : decode cX11_isPleased 125 = .ok (.iadd, 1) := by decide +kernel
theorem dX11_isPleased_126 : decode cX11_isPleased 126 = .ok (.iaload, 1) := by decide +kernel
theorem dX11_isPleased_127 : decode cX11_isPleased 127 = .ok (.i2l, 1) := by decide +kernel
theorem dX11_isPleased_128 : decode cX11_isPleased 128 = .ok (.invokestatic 264, 3) := by decide +kernel
theorem dX11_isPleased_131 : decode cX11_isPleased 131 = .ok (.ifCond .eq 5, 3) := by decide +kernel
theorem dX11_isPleased_134 : decode cX11_isPleased 134 = .ok (.iconst 1, 1) := by decide +kernel
theorem dX11_isPleased_135 : decode cX11_isPleased 135 = .ok (.ireturn, 1) := by decide +kernel
theorem dX11_isPleased_136 : decode cX11_isPleased 136 = .ok (.iinc 4 1, 3) := by decide +kernel
theorem dX11_isPleased_139 : decode cX11_isPleased 139 = .ok (.goto (-80), 3) := by decide +kernel
theorem dX11_isPleased_142 : decode cX11_isPleased 142 = .ok (.iinc 3 1, 3) := by decide +kernel
theorem dX11_isPleased_145 : decode cX11_isPleased 145 = .ok (.goto (-136), 3) := by decide +kernel
theorem dX11_isPleased_148 : decode cX11_isPleased 148 = .ok (.iconst 0, 1) := by decide +kernel
theorem dX11_isPleased_149 : decode cX11_isPleased 149 = .ok (.ireturn, 1) := by decide +kernel
theorem dX11_isSaint_0 : decode cX11_isSaint 0 = .ok (.iload_n 1, 1) := by decide +kernel
theorem dX11_isSaint_1 : decode cX11_isSaint 1 = .ok (.i2l, 1) := by decide +kernel
theorem dX11_isSaint_2 : decode cX11_isSaint 2 = .ok (.lconst 0, 1) := by decide +kernel
theorem dX11_isSaint_3 : decode cX11_isSaint 3 = .ok (.aload_n 0, 1) := by decide +kernel
theorem dX11_isSaint_4 : decode cX11_isSaint 4 = .ok (.invokevirtual 447, 3) := by decide +kernel
theorem dX11_isSaint_7 : decode cX11_isSaint 7 = .ok (.iconst 1, 1) := by decide +kernel
theorem dX11_isSaint_8 : decode cX11_isSaint 8 = .ok (.isub, 1) := by decide +kernel
theorem dX11_isSaint_9 : decode cX11_isSaint 9 = .ok (.i2l, 1) := by decide +kernel
theorem dX11_isSaint_10 : decode cX11_isSaint 10 = .ok (.invokestatic 264, 3) := by decide +kernel
theorem dX11_isSaint_13 : decode cX11_isSaint 13 = .ok (.ireturn, 1) := by decide +kernel
theorem dX11_isShut_0 : decode cX11_isShut 0 = .ok (.aload_n 0, 1) := by decide +kernel
theorem dX11_isShut_1 : decode cX11_isShut 1 = .ok (.getfield 358, 3) := by decide +kernel
theorem dX11_isShut_4 : decode cX11_isShut 4 = .ok (.iload_n 1, 1) := by decide +kernel
theorem dX11_isShut_5 : decode cX11_isShut 5 = .ok (.ishr, 1) := by decide +kernel
theorem dX11_isShut_6 : decode cX11_isShut 6 = .ok (.iconst 1, 1) := by decide +kernel
theorem dX11_isShut_7 : decode cX11_isShut 7 = .ok (.iand, 1) := by decide +kernel
theorem dX11_isShut_8 : decode cX11_isShut 8 = .ok (.iconst 1, 1) := by decide +kernel
theorem dX11_isShut_9 : decode cX11_isShut 9 = .ok (.if_icmp .ne 7, 3) := by decide +kernel
theorem dX11_isShut_12 : decode cX11_isShut 12 = .ok (.iconst 1, 1) := by decide +kernel
theorem dX11_isShut_13 : decode cX11_isShut 13 = .ok (.goto 4, 3) := by decide +kernel
theorem dX11_isShut_16 : decode cX11_isShut 16 = .ok (.iconst 0, 1) := by decide +kernel
theorem dX11_isShut_17 : decode cX11_isShut 17 = .ok (.ireturn, 1) := by decide +kernel
theorem dX11_isStepTold_0 : decode cX11_isStepTold 0 = .ok (.iload_n 1, 1) := by decide +kernel
theorem dX11_isStepTold_1 : decode cX11_isStepTold 1 = .ok (.invokestatic 453, 3) := by decide +kernel
theorem dX11_isStepTold_4 : decode cX11_isStepTold 4 = .ok (.istore_n 3, 1) := by decide +kernel
theorem dX11_isStepTold_5 : decode cX11_isStepTold 5 = .ok (.iload_n 2, 1) := by decide +kernel
theorem dX11_isStepTold_6 : decode cX11_isStepTold 6 = .ok (.bipush 100, 2) := by decide +kernel
theorem dX11_isStepTold_8 : decode cX11_isStepTold 8 = .ok (.if_icmp .le 41, 3) := by decide +kernel
theorem dX11_isStepTold_11 : decode cX11_isStepTold 11 = .ok (.iload_n 2, 1) := by decide +kernel
theorem dX11_isStepTold_12 : decode cX11_isStepTold 12 = .ok (.sipush 130, 3) := by decide +kernel
theorem dX11_isStepTold_15 : decode cX11_isStepTold 15 = .ok (.if_icmp .gt 15, 3) := by decide +kernel
theorem dX11_isStepTold_18 : decode cX11_isStepTold 18 = .ok (.aload_n 0, 1) := by decide +kernel
theorem dX11_isStepTold_19 : decode cX11_isStepTold 19 = .ok (.iload_n 1, 1) := by decide +kernel
theorem dX11_isStepTold_20 : decode cX11_isStepTold 20 = .ok (.iload_n 2, 1) := by decide +kernel
theorem dX11_isStepTold_21 : decode cX11_isStepTold 21 = .ok (.bipush 100, 2) := by decide +kernel
theorem dX11_isStepTold_23 : decode cX11_isStepTold 23 = .ok (.isub, 1) := by decide +kernel
theorem dX11_isStepTold_24 : decode cX11_isStepTold 24 = .ok (.invokevirtual 505, 3) := by decide +kernel
theorem dX11_isStepTold_27 : decode cX11_isStepTold 27 = .ok (.ifCond .ne 5, 3) := by decide +kernel
theorem dX11_isStepTold_30 : decode cX11_isStepTold 30 = .ok (.iconst 0, 1) := by decide +kernel
theorem dX11_isStepTold_31 : decode cX11_isStepTold 31 = .ok (.ireturn, 1) := by decide +kernel
theorem dX11_isStepTold_32 : decode cX11_isStepTold 32 = .ok (.aload_n 0, 1) := by decide +kernel
theorem dX11_isStepTold_33 : decode cX11_isStepTold 33 = .ok (.iload_n 1, 1) := by decide +kernel
theorem dX11_isStepTold_34 : decode cX11_isStepTold 34 = .ok (.aload_n 0, 1) := by decide +kernel
theorem dX11_isStepTold_35 : decode cX11_isStepTold 35 = .ok (.iload_n 1, 1) := by decide +kernel
theorem dX11_isStepTold_36 : decode cX11_isStepTold 36 = .ok (.invokevirtual 484, 3) := by decide +kernel
theorem dX11_isStepTold_39 : decode cX11_isStepTold 39 = .ok (.iconst (-1), 1) := by decide +kernel
theorem dX11_isStepTold_40 : decode cX11_isStepTold 40 = .ok (.iload_n 2, 1) := by decide +kernel
theorem dX11_isStepTold_41 : decode cX11_isStepTold 41 = .ok (.bipush 100, 2) := by decide +kernel
theorem dX11_isStepTold_43 : decode cX11_isStepTold 43 = .ok (.isub, 1) := by decide +kernel
theorem dX11_isStepTold_44 : decode cX11_isStepTold 44 = .ok (.invokevirtual 512, 3) := by decide +kernel
theorem dX11_isStepTold_47 : decode cX11_isStepTold 47 = .ok (.iconst 1, 1) := by decide +kernel
theorem dX11_isStepTold_48 : decode cX11_isStepTold 48 = .ok (.ireturn, 1) := by decide +kernel
theorem dX11_isStepTold_49 : decode cX11_isStepTold 49 = .ok (.aload_n 0, 1) := by decide +kernel
theorem dX11_isStepTold_50 : decode cX11_isStepTold 50 = .ok (.iload_n 2, 1) := by decide +kernel
theorem dX11_isStepTold_51 : decode cX11_isStepTold 51 = .ok (.invokevirtual 478, 3) := by decide +kernel
theorem dX11_isStepTold_54 : decode cX11_isStepTold 54 = .ok (.ifCond .eq 16, 3) := by decide +kernel
theorem dX11_isStepTold_57 : decode cX11_isStepTold 57 = .ok (.aload_n 0, 1) := by decide +kernel
theorem dX11_isStepTold_58 : decode cX11_isStepTold 58 = .ok (.aload_n 0, 1) := by decide +kernel
theorem dX11_isStepTold_59 : decode cX11_isStepTold 59 = .ok (.iload_n 1, 1) := by decide +kernel
theorem dX11_isStepTold_60 : decode cX11_isStepTold 60 = .ok (.invokevirtual 484, 3) := by decide +kernel
theorem dX11_isStepTold_63 : decode cX11_isStepTold 63 = .ok (.iload_n 2, 1) := by decide +kernel
theorem dX11_isStepTold_64 : decode cX11_isStepTold 64 = .ok (.invokevirtual 496, 3) := by decide +kernel
theorem dX11_isStepTold_67 : decode cX11_isStepTold 67 = .ok (.goto 4, 3) := by decide +kernel
theorem dX11_isStepTold_70 : decode cX11_isStepTold 70 = .ok (.iconst (-1), 1) := by decide +kernel
theorem dX11_isStepTold_71 : decode cX11_isStepTold 71 = .ok (.istore 4, 2) := by decide +kernel
theorem dX11_isStepTold_73 : decode cX11_isStepTold 73 = .ok (.iload 4, 2) := by decide +kernel
theorem dX11_isStepTold_75 : decode cX11_isStepTold 75 = .ok (.iconst (-1), 1) := by decide +kernel
theorem dX11_isStepTold_76 : decode cX11_isStepTold 76 = .ok (.if_icmp .eq 18, 3) := by decide +kernel
theorem dX11_isStepTold_79 : decode cX11_isStepTold 79 = .ok (.aload_n 0, 1) := by decide +kernel
theorem dX11_isStepTold_80 : decode cX11_isStepTold 80 = .ok (.iload_n 1, 1) := by decide +kernel
theorem dX11_isStepTold_81 : decode cX11_isStepTold 81 = .ok (.aload_n 0, 1) := by decide +kernel
theorem dX11_isStepTold_82 : decode cX11_isStepTold 82 = .ok (.iload 4, 2) := by decide +kernel
theorem dX11_isStepTold_84 : decode cX11_isStepTold 84 = .ok (.iload_n 3, 1) := by decide +kernel
theorem dX11_isStepTold_85 : decode cX11_isStepTold 85 = .ok (.invokevirtual 502, 3) := by decide +kernel
theorem dX11_isStepTold_88 : decode cX11_isStepTold 88 = .ok (.invokevirtual 505, 3) := by decide +kernel
theorem dX11_isStepTold_91 : decode cX11_isStepTold 91 = .ok (.ifCond .ne 5, 3) := by decide +kernel
theorem dX11_isStepTold_94 : decode cX11_isStepTold 94 = .ok (.iconst 0, 1) := by decide +kernel
theorem dX11_isStepTold_95 : decode cX11_isStepTold 95 = .ok (.ireturn, 1) := by decide +kernel
theorem dX11_isStepTold_96 : decode cX11_isStepTold 96 = .ok (.aload_n 0, 1) := by decide +kernel
theorem dX11_isStepTold_97 : decode cX11_isStepTold 97 = .ok (.iload_n 1, 1) := by decide +kernel
theorem dX11_isStepTold_98 : decode cX11_isStepTold 98 = .ok (.iload_n 2, 1) := by decide +kernel
theorem dX11_isStepTold_99 : decode cX11_isStepTold 99 = .ok (.iload 4, 2) := by decide +kernel
theorem dX11_isStepTold_101 : decode cX11_isStepTold 101 = .ok (.aload_n 0, 1) := by decide +kernel
theorem dX11_isStepTold_102 : decode cX11_isStepTold 102 = .ok (.iload 4, 2) := by decide +kernel
theorem dX11_isStepTold_104 : decode cX11_isStepTold 104 = .ok (.iload_n 3, 1) := by decide +kernel
theorem dX11_isStepTold_105 : decode cX11_isStepTold 105 = .ok (.invokevirtual 502, 3) := by decide +kernel
theorem dX11_isStepTold_108 : decode cX11_isStepTold 108 = .ok (.invokevirtual 512, 3) := by decide +kernel
theorem dX11_isStepTold_111 : decode cX11_isStepTold 111 = .ok (.iconst 1, 1) := by decide +kernel
theorem dX11_isStepTold_112 : decode cX11_isStepTold 112 = .ok (.ireturn, 1) := by decide +kernel
theorem dX11_isTold_0 : decode cX11_isTold 0 = .ok (.iload_n 1, 1) := by decide +kernel
theorem dX11_isTold_1 : decode cX11_isTold 1 = .ok (.iconst 4, 1) := by decide +kernel
theorem dX11_isTold_2 : decode cX11_isTold 2 = .ok (.if_icmp .lt 24, 3) := by decide +kernel
theorem dX11_isTold_5 : decode cX11_isTold 5 = .ok (.aload_n 0, 1) := by decide +kernel
theorem dX11_isTold_6 : decode cX11_isTold 6 = .ok (.getfield 7, 3) := by decide +kernel
theorem dX11_isTold_9 : decode cX11_isTold 9 = .ok (.iload_n 1, 1) := by decide +kernel
theorem dX11_isTold_10 : decode cX11_isTold 10 = .ok (.iconst 1, 1) := by decide +kernel
theorem dX11_isTold_11 : decode cX11_isTold 11 = .ok (.isub, 1) := by decide +kernel
theorem dX11_isTold_12 : decode cX11_isTold 12 = .ok (.iaload, 1) := by decide +kernel
theorem dX11_isTold_13 : decode cX11_isTold 13 = .ok (.aload_n 0, 1) := by decide +kernel
theorem dX11_isTold_14 : decode cX11_isTold 14 = .ok (.getfield 7, 3) := by decide +kernel
theorem dX11_isTold_17 : decode cX11_isTold 17 = .ok (.iload_n 1, 1) := by decide +kernel
theorem dX11_isTold_18 : decode cX11_isTold 18 = .ok (.iconst 1, 1) := by decide +kernel
theorem dX11_isTold_19 : decode cX11_isTold 19 = .ok (.isub, 1) := by decide +kernel
theorem dX11_isTold_20 : decode cX11_isTold 20 = .ok (.invokestatic 683, 3) := by decide +kernel
theorem dX11_isTold_23 : decode cX11_isTold 23 = .ok (.if_icmp .eq 5, 3) := by decide +kernel
theorem dX11_isTold_26 : decode cX11_isTold 26 = .ok (.iconst 0, 1) := by decide +kernel
theorem dX11_isTold_27 : decode cX11_isTold 27 = .ok (.ireturn, 1) := by decide +kernel
theorem dX11_isTold_28 : decode cX11_isTold 28 = .ok (.iconst 0, 1) := by decide +kernel
theorem dX11_isTold_29 : decode cX11_isTold 29 = .ok (.istore_n 2, 1) := by decide +kernel
theorem dX11_isTold_30 : decode cX11_isTold 30 = .ok (.iconst 0, 1) := by decide +kernel
theorem dX11_isTold_31 : decode cX11_isTold 31 = .ok (.istore_n 3, 1) := by decide +kernel
theorem dX11_isTold_32 : decode cX11_isTold 32 = .ok (.iload_n 3, 1) := by decide +kernel
theorem dX11_isTold_33 : decode cX11_isTold 33 = .ok (.aload_n 0, 1) := by decide +kernel
theorem dX11_isTold_34 : decode cX11_isTold 34 = .ok (.invokevirtual 447, 3) := by decide +kernel
theorem dX11_isTold_37 : decode cX11_isTold 37 = .ok (.if_icmp .ge 106, 3) := by decide +kernel
theorem dX11_isTold_40 : decode cX11_isTold 40 = .ok (.iload_n 3, 1) := by decide +kernel
theorem dX11_isTold_41 : decode cX11_isTold 41 = .ok (.iconst 0, 1) := by decide +kernel
theorem dX11_isTold_42 : decode cX11_isTold 42 = .ok (.invokestatic 604, 3) := by decide +kernel
theorem dX11_isTold_45 : decode cX11_isTold 45 = .ok (.istore 4, 2) := by decide +kernel
theorem dX11_isTold_47 : decode cX11_isTold 47 = .ok (.aload_n 0, 1) := by decide +kernel
theorem dX11_isTold_48 : decode cX11_isTold 48 = .ok (.getfield 145, 3) := by decide +kernel
theorem dX11_isTold_51 : decode cX11_isTold 51 = .ok (.iload 4, 2) := by decide +kernel
theorem dX11_isTold_53 : decode cX11_isTold 53 = .ok (.iconst 0, 1) := by decide +kernel
theorem dX11_isTold_54 : decode cX11_isTold 54 = .ok (.iastore, 1) := by decide +kernel
theorem dX11_isTold_55 : decode cX11_isTold 55 = .ok (.iload_n 2, 1) := by decide +kernel
theorem dX11_isTold_56 : decode cX11_isTold 56 = .ok (.iload_n 1, 1) := by decide +kernel
theorem dX11_isTold_57 : decode cX11_isTold 57 = .ok (.iconst 4, 1) := by decide +kernel
theorem dX11_isTold_58 : decode cX11_isTold 58 = .ok (.isub, 1) := by decide +kernel
theorem dX11_isTold_59 : decode cX11_isTold 59 = .ok (.if_icmp .ge 12, 3) := by decide +kernel
theorem dX11_isTold_62 : decode cX11_isTold 62 = .ok (.aload_n 0, 1) := by decide +kernel
theorem dX11_isTold_63 : decode cX11_isTold 63 = .ok (.getfield 7, 3) := by decide +kernel
theorem dX11_isTold_66 : decode cX11_isTold 66 = .ok (.iload_n 2, 1) := by decide +kernel
theorem dX11_isTold_67 : decode cX11_isTold 67 = .ok (.iaload, 1) := by decide +kernel
theorem dX11_isTold_68 : decode cX11_isTold 68 = .ok (.goto 5, 3) := by decide +kernel
theorem dX11_isTold_71 : decode cX11_isTold 71 = .ok (.bipush 25, 2) := by decide +kernel
theorem dX11_isTold_73 : decode cX11_isTold 73 = .ok (.istore 5, 2) := by decide +kernel
theorem dX11_isTold_75 : decode cX11_isTold 75 = .ok (.iload 5, 2) := by decide +kernel
theorem dX11_isTold_77 : decode cX11_isTold 77 = .ok (.bipush 24, 2) := by decide +kernel
theorem dX11_isTold_79 : decode cX11_isTold 79 = .ok (.if_icmp .gt 13, 3) := by decide +kernel
theorem dX11_isTold_82 : decode cX11_isTold 82 = .ok (.iload_n 2, 1) := by decide +kernel
theorem dX11_isTold_83 : decode cX11_isTold 83 = .ok (.iload 5, 2) := by decide +kernel
theorem dX11_isTold_85 : decode cX11_isTold 85 = .ok (.iadd, 1) := by decide +kernel
theorem dX11_isTold_86 : decode cX11_isTold 86 = .ok (.iload_n 1, 1) := by decide +kernel
theorem dX11_isTold_87 : decode cX11_isTold 87 = .ok (.iconst 4, 1) := by decide +kernel
theorem dX11_isTold_88 : decode cX11_isTold 88 = .ok (.isub, 1) := by decide +kernel
theorem dX11_isTold_89 : decode cX11_isTold 89 = .ok (.if_icmp .lt 5, 3) := by decide +kernel
theorem dX11_isTold_92 : decode cX11_isTold 92 = .ok (.iconst 0, 1) := by decide +kernel
theorem dX11_isTold_93 : decode cX11_isTold 93 = .ok (.ireturn, 1) := by decide +kernel
theorem dX11_isTold_94 : decode cX11_isTold 94 = .ok (.iconst 1, 1) := by decide +kernel
theorem dX11_isTold_95 : decode cX11_isTold 95 = .ok (.istore 6, 2) := by decide +kernel
theorem dX11_isTold_97 : decode cX11_isTold 97 = .ok (.iload 6, 2) := by decide +kernel
theorem dX11_isTold_99 : decode cX11_isTold 99 = .ok (.iload 5, 2) := by decide +kernel
theorem dX11_isTold_101 : decode cX11_isTold 101 = .ok (.if_icmp .gt 29, 3) := by decide +kernel
theorem dX11_isTold_104 : decode cX11_isTold 104 = .ok (.aload_n 0, 1) := by decide +kernel
theorem dX11_isTold_105 : decode cX11_isTold 105 = .ok (.iload 4, 2) := by decide +kernel
theorem dX11_isTold_107 : decode cX11_isTold 107 = .ok (.aload_n 0, 1) := by decide +kernel
theorem dX11_isTold_108 : decode cX11_isTold 108 = .ok (.getfield 7, 3) := by decide +kernel
theorem dX11_isTold_111 : decode cX11_isTold 111 = .ok (.iload_n 2, 1) := by decide +kernel
theorem dX11_isTold_112 : decode cX11_isTold 112 = .ok (.iload 6, 2) := by decide +kernel
theorem dX11_isTold_114 : decode cX11_isTold 114 = .ok (.iadd, 1) := by decide +kernel
theorem dX11_isTold_115 : decode cX11_isTold 115 = .ok (.iaload, 1) := by decide +kernel
theorem dX11_isTold_116 : decode cX11_isTold 116 = .ok (.invokevirtual 687, 3) := by decide +kernel
theorem dX11_isTold_119 : decode cX11_isTold 119 = .ok (.ifCond .ne 5, 3) := by decide +kernel
theorem dX11_isTold_122 : decode cX11_isTold 122 = .ok (.iconst 0, 1) := by decide +kernel
theorem dX11_isTold_123 : decode cX11_isTold 123 = .ok (.ireturn, 1) := by decide +kernel
theorem dX11_isTold_124 : decode cX11_isTold 124 = .ok (.iinc 6 1, 3) := by decide +kernel
theorem dX11_isTold_127 : decode cX11_isTold 127 = .ok (.goto (-30), 3) := by decide +kernel
theorem dX11_isTold_130 : decode cX11_isTold 130 = .ok (.iload_n 2, 1) := by decide +kernel
theorem dX11_isTold_131 : decode cX11_isTold 131 = .ok (.iload 5, 2) := by decide +kernel
theorem dX11_isTold_133 : decode cX11_isTold 133 = .ok (.iconst 1, 1) := by decide +kernel
theorem dX11_isTold_134 : decode cX11_isTold 134 = .ok (.iadd, 1) := by decide +kernel
theorem dX11_isTold_135 : decode cX11_isTold 135 = .ok (.iadd, 1) := by decide +kernel
theorem dX11_isTold_136 : decode cX11_isTold 136 = .ok (.istore_n 2, 1) := by decide +kernel
theorem dX11_isTold_137 : decode cX11_isTold 137 = .ok (.iinc 3 1, 3) := by decide +kernel
theorem dX11_isTold_140 : decode cX11_isTold 140 = .ok (.goto (-108), 3) := by decide +kernel
theorem dX11_isTold_143 : decode cX11_isTold 143 = .ok (.iload_n 2, 1) := by decide +kernel
theorem dX11_isTold_144 : decode cX11_isTold 144 = .ok (.iload_n 1, 1) := by decide +kernel
theorem dX11_isTold_145 : decode cX11_isTold 145 = .ok (.iconst 4, 1) := by decide +kernel
theorem dX11_isTold_146 : decode cX11_isTold 146 = .ok (.isub, 1) := by decide +kernel
theorem dX11_isTold_147 : decode cX11_isTold 147 = .ok (.if_icmp .ne 54, 3) := by decide +kernel
theorem dX11_isTold_150 : decode cX11_isTold 150 = .ok (.sipush 256, 3) := by decide +kernel
theorem dX11_isTold_153 : decode cX11_isTold 153 = .ok (.aload_n 0, 1) := by decide +kernel
theorem dX11_isTold_154 : decode cX11_isTold 154 = .ok (.getfield 7, 3) := by decide +kernel
theorem dX11_isTold_157 : decode cX11_isTold 157 = .ok (.iload_n 1, 1) := by decide +kernel
theorem dX11_isTold_158 : decode cX11_isTold 158 = .ok (.iconst 4, 1) := by decide +kernel
theorem dX11_isTold_159 : decode cX11_isTold 159 = .ok (.isub, 1) := by decide +kernel
theorem dX11_isTold_160 : decode cX11_isTold 160 = .ok (.iaload, 1) := by decide +kernel
theorem dX11_isTold_161 : decode cX11_isTold 161 = .ok (.imul, 1) := by decide +kernel
theorem dX11_isTold_162 : decode cX11_isTold 162 = .ok (.aload_n 0, 1) := by decide +kernel
theorem dX11_isTold_163 : decode cX11_isTold 163 = .ok (.getfield 7, 3) := by decide +kernel
theorem dX11_isTold_166 : decode cX11_isTold 166 = .ok (.iload_n 1, 1) := by decide +kernel
theorem dX11_isTold_167 : decode cX11_isTold 167 = .ok (.iconst 3, 1) := by decide +kernel
theorem dX11_isTold_168 : decode cX11_isTold 168 = .ok (.isub, 1) := by decide +kernel
theorem dX11_isTold_169 : decode cX11_isTold 169 = .ok (.iaload, 1) := by decide +kernel
theorem dX11_isTold_170 : decode cX11_isTold 170 = .ok (.iadd, 1) := by decide +kernel
theorem dX11_isTold_171 : decode cX11_isTold 171 = .ok (.iconst 1, 1) := by decide +kernel
theorem dX11_isTold_172 : decode cX11_isTold 172 = .ok (.aload_n 0, 1) := by decide +kernel
theorem dX11_isTold_173 : decode cX11_isTold 173 = .ok (.invokevirtual 450, 3) := by decide +kernel
theorem dX11_isTold_176 : decode cX11_isTold 176 = .ok (.ishl, 1) := by decide +kernel
theorem dX11_isTold_177 : decode cX11_isTold 177 = .ok (.if_icmp .ge 24, 3) := by decide +kernel
theorem dX11_isTold_180 : decode cX11_isTold 180 = .ok (.aload_n 0, 1) := by decide +kernel
theorem dX11_isTold_181 : decode cX11_isTold 181 = .ok (.getfield 7, 3) := by decide +kernel
theorem dX11_isTold_184 : decode cX11_isTold 184 = .ok (.iload_n 1, 1) := by decide +kernel
theorem dX11_isTold_185 : decode cX11_isTold 185 = .ok (.iconst 2, 1) := by decide +kernel
theorem dX11_isTold_186 : decode cX11_isTold 186 = .ok (.isub, 1) := by decide +kernel
theorem dX11_isTold_187 : decode cX11_isTold 187 = .ok (.iaload, 1) := by decide +kernel
theorem dX11_isTold_188 : decode cX11_isTold 188 = .ok (.iconst 1, 1) := by decide +kernel
theorem dX11_isTold_189 : decode cX11_isTold 189 = .ok (.aload_n 0, 1) := by decide +kernel
theorem dX11_isTold_190 : decode cX11_isTold 190 = .ok (.invokevirtual 438, 3) := by decide +kernel
theorem dX11_isTold_193 : decode cX11_isTold 193 = .ok (.ishl, 1) := by decide +kernel
theorem dX11_isTold_194 : decode cX11_isTold 194 = .ok (.if_icmp .ge 7, 3) := by decide +kernel
theorem dX11_isTold_197 : decode cX11_isTold 197 = .ok (.iconst 1, 1) := by decide +kernel
theorem dX11_isTold_198 : decode cX11_isTold 198 = .ok (.goto 4, 3) := by decide +kernel
theorem dX11_isTold_201 : decode cX11_isTold 201 = .ok (.iconst 0, 1) := by decide +kernel
theorem dX11_isTold_202 : decode cX11_isTold 202 = .ok (.ireturn, 1) := by decide +kernel
theorem dX11_isUpon_0 : decode cX11_isUpon 0 = .ok (.aload_n 0, 1) := by decide +kernel
theorem dX11_isUpon_1 : decode cX11_isUpon 1 = .ok (.iload_n 1, 1) := by decide +kernel
theorem dX11_isUpon_2 : decode cX11_isUpon 2 = .ok (.iload_n 3, 1) := by decide +kernel
theorem dX11_isUpon_3 : decode cX11_isUpon 3 = .ok (.invokevirtual 526, 3) := by decide +kernel
theorem dX11_isUpon_6 : decode cX11_isUpon 6 = .ok (.istore 4, 2) := by decide +kernel
theorem dX11_isUpon_8 : decode cX11_isUpon 8 = .ok (.iload 4, 2) := by decide +kernel
theorem dX11_isUpon_10 : decode cX11_isUpon 10 = .ok (.iconst (-1), 1) := by decide +kernel
theorem dX11_isUpon_11 : decode cX11_isUpon 11 = .ok (.if_icmp .eq 18, 3) := by decide +kernel
theorem dX11_isUpon_14 : decode cX11_isUpon 14 = .ok (.aload_n 0, 1) := by decide +kernel
theorem dX11_isUpon_15 : decode cX11_isUpon 15 = .ok (.iload_n 2, 1) := by decide +kernel
theorem dX11_isUpon_16 : decode cX11_isUpon 16 = .ok (.iload 4, 2) := by decide +kernel
theorem dX11_isUpon_18 : decode cX11_isUpon 18 = .ok (.iload_n 3, 1) := by decide +kernel
theorem dX11_isUpon_19 : decode cX11_isUpon 19 = .ok (.invokevirtual 535, 3) := by decide +kernel
theorem dX11_isUpon_22 : decode cX11_isUpon 22 = .ok (.ifCond .eq 7, 3) := by decide +kernel
theorem dX11_isUpon_25 : decode cX11_isUpon 25 = .ok (.iconst 1, 1) := by decide +kernel
theorem dX11_isUpon_26 : decode cX11_isUpon 26 = .ok (.goto 4, 3) := by decide +kernel
theorem dX11_isUpon_29 : decode cX11_isUpon 29 = .ok (.iconst 0, 1) := by decide +kernel
theorem dX11_isUpon_30 : decode cX11_isUpon 30 = .ok (.ireturn, 1) := by decide +kernel
theorem dX11_isWhole_0 : decode cX11_isWhole 0 = .ok (.bipush 24, 2) := by decide +kernel
theorem dX11_isWhole_2 : decode cX11_isWhole 2 = .ok (.iload_n 1, 1) := by decide +kernel
theorem dX11_isWhole_3 : decode cX11_isWhole 3 = .ok (.imul, 1) := by decide +kernel
theorem dX11_isWhole_4 : decode cX11_isWhole 4 = .ok (.istore_n 2, 1) := by decide +kernel
theorem dX11_isWhole_5 : decode cX11_isWhole 5 = .ok (.iload_n 2, 1) := by decide +kernel
theorem dX11_isWhole_6 : decode cX11_isWhole 6 = .ok (.bipush 24, 2) := by decide +kernel
theorem dX11_isWhole_8 : decode cX11_isWhole 8 = .ok (.iload_n 1, 1) := by decide +kernel
theorem dX11_isWhole_9 : decode cX11_isWhole 9 = .ok (.imul, 1) := by decide +kernel
theorem dX11_isWhole_10 : decode cX11_isWhole 10 = .ok (.aload_n 0, 1) := by decide +kernel
theorem dX11_isWhole_11 : decode cX11_isWhole 11 = .ok (.getfield 145, 3) := by decide +kernel
theorem dX11_isWhole_14 : decode cX11_isWhole 14 = .ok (.iload_n 1, 1) := by decide +kernel
theorem dX11_isWhole_15 : decode cX11_isWhole 15 = .ok (.iaload, 1) := by decide +kernel
theorem dX11_isWhole_16 : decode cX11_isWhole 16 = .ok (.iadd, 1) := by decide +kernel
theorem dX11_isWhole_17 : decode cX11_isWhole 17 = .ok (.if_icmp .ge 34, 3) := by decide +kernel
theorem dX11_isWhole_20 : decode cX11_isWhole 20 = .ok (.aload_n 0, 1) := by decide +kernel
theorem dX11_isWhole_21 : decode cX11_isWhole 21 = .ok (.getfield 151, 3) := by decide +kernel
theorem dX11_isWhole_24 : decode cX11_isWhole 24 = .ok (.iload_n 2, 1) := by decide +kernel
theorem dX11_isWhole_25 : decode cX11_isWhole 25 = .ok (.iaload, 1) := by decide +kernel
theorem dX11_isWhole_26 : decode cX11_isWhole 26 = .ok (.iconst (-1), 1) := by decide +kernel
theorem dX11_isWhole_27 : decode cX11_isWhole 27 = .ok (.if_icmp .eq 18, 3) := by decide +kernel
theorem dX11_isWhole_30 : decode cX11_isWhole 30 = .ok (.aload_n 0, 1) := by decide +kernel
theorem dX11_isWhole_31 : decode cX11_isWhole 31 = .ok (.aload_n 0, 1) := by decide +kernel
theorem dX11_isWhole_32 : decode cX11_isWhole 32 = .ok (.getfield 151, 3) := by decide +kernel
theorem dX11_isWhole_35 : decode cX11_isWhole 35 = .ok (.iload_n 2, 1) := by decide +kernel
theorem dX11_isWhole_36 : decode cX11_isWhole 36 = .ok (.iaload, 1) := by decide +kernel
theorem dX11_isWhole_37 : decode cX11_isWhole 37 = .ok (.invokevirtual 499, 3) := by decide +kernel
theorem dX11_isWhole_40 : decode cX11_isWhole 40 = .ok (.ifCond .eq 5, 3) := by decide +kernel
theorem dX11_isWhole_43 : decode cX11_isWhole 43 = .ok (.iconst 0, 1) := by decide +kernel
theorem dX11_isWhole_44 : decode cX11_isWhole 44 = .ok (.ireturn, 1) := by decide +kernel
theorem dX11_isWhole_45 : decode cX11_isWhole 45 = .ok (.iinc 2 1, 3) := by decide +kernel
theorem dX11_isWhole_48 : decode cX11_isWhole 48 = .ok (.goto (-43), 3) := by decide +kernel
theorem dX11_isWhole_51 : decode cX11_isWhole 51 = .ok (.iconst 1, 1) := by decide +kernel
theorem dX11_isWhole_52 : decode cX11_isWhole 52 = .ok (.ireturn, 1) := by decide +kernel
theorem dX11_joins_0 : decode cX11_joins 0 = .ok (.aload_n 0, 1) := by decide +kernel
theorem dX11_joins_1 : decode cX11_joins 1 = .ok (.getfield 136, 3) := by decide +kernel
theorem dX11_joins_4 : decode cX11_joins 4 = .ok (.aload_n 0, 1) := by decide +kernel
theorem dX11_joins_5 : decode cX11_joins 5 = .ok (.getfield 416, 3) := by decide +kernel
theorem dX11_joins_8 : decode cX11_joins 8 = .ok (.iconst 1, 1) := by decide +kernel
theorem dX11_joins_9 : decode cX11_joins 9 = .ok (.isub, 1) := by decide +kernel
theorem dX11_joins_10 : decode cX11_joins 10 = .ok (.laload, 1) := by decide +kernel
theorem dX11_joins_11 : decode cX11_joins 11 = .ok (.lstore_n 2, 1) := by decide +kernel
theorem dX11_joins_12 : decode cX11_joins 12 = .ok (.aload_n 0, 1) := by decide +kernel
theorem dX11_joins_13 : decode cX11_joins 13 = .ok (.getfield 136, 3) := by decide +kernel
theorem dX11_joins_16 : decode cX11_joins 16 = .ok (.aload_n 0, 1) := by decide +kernel
theorem dX11_joins_17 : decode cX11_joins 17 = .ok (.getfield 416, 3) := by decide +kernel
theorem dX11_joins_20 : decode cX11_joins 20 = .ok (.iconst 2, 1) := by decide +kernel
theorem dX11_joins_21 : decode cX11_joins 21 = .ok (.isub, 1) := by decide +kernel
theorem dX11_joins_22 : decode cX11_joins 22 = .ok (.laload, 1) := by decide +kernel
theorem dX11_joins_23 : decode cX11_joins 23 = .ok (.lstore 4, 2) := by decide +kernel
theorem dX11_joins_25 : decode cX11_joins 25 = .ok (.aload_n 0, 1) := by decide +kernel
theorem dX11_joins_26 : decode cX11_joins 26 = .ok (.dup, 1) := by decide +kernel
theorem dX11_joins_27 : decode cX11_joins 27 = .ok (.getfield 416, 3) := by decide +kernel
theorem dX11_joins_30 : decode cX11_joins 30 = .ok (.iconst 2, 1) := by decide +kernel
theorem dX11_joins_31 : decode cX11_joins 31 = .ok (.isub, 1) := by decide +kernel
theorem dX11_joins_32 : decode cX11_joins 32 = .ok (.putfield 416, 3) := by decide +kernel
theorem dX11_joins_35 : decode cX11_joins 35 = .ok (.iload_n 1, 1) := by decide +kernel
theorem dX11_joins_36 : decode cX11_joins 36 = .ok (.tableswitch 235 1 14 #[72, 86, 100, 114, 127, 147, 235, 235, 235, 235, 167, 186, 205, 224], 72) := by decide +kernel
theorem dX11_joins_108 : decode cX11_joins 108 = .ok (.aload_n 0, 1) := by decide +kernel
theorem dX11_joins_109 : decode cX11_joins 109 = .ok (.lload 4, 2) := by decide +kernel
theorem dX11_joins_111 : decode cX11_joins 111 = .ok (.lload_n 2, 1) := by decide +kernel
theorem dX11_joins_112 : decode cX11_joins 112 = .ok (.ladd, 1) := by decide +kernel
theorem dX11_joins_113 : decode cX11_joins 113 = .ok (.invokestatic 419, 3) := by decide +kernel
theorem dX11_joins_116 : decode cX11_joins 116 = .ok (.invokevirtual 423, 3) := by decide +kernel
theorem dX11_joins_119 : decode cX11_joins 119 = .ok (.goto 170, 3) := by decide +kernel
theorem dX11_joins_122 : decode cX11_joins 122 = .ok (.aload_n 0, 1) := by decide +kernel
theorem dX11_joins_123 : decode cX11_joins 123 = .ok (.lload 4, 2) := by decide +kernel
theorem dX11_joins_125 : decode cX11_joins 125 = .ok (.lload_n 2, 1) := by decide +kernel
theorem dX11_joins_126 : decode cX11_joins 126 = .ok (.lsub, 1) := by decide +kernel
theorem dX11_joins_127 : decode cX11_joins 127 = .ok (.invokestatic 419, 3) := by decide +kernel
theorem dX11_joins_130 : decode cX11_joins 130 = .ok (.invokevirtual 423, 3) := by decide +kernel
theorem dX11_joins_133 : decode cX11_joins 133 = .ok (.goto 156, 3) := by decide +kernel
theorem dX11_joins_136 : decode cX11_joins 136 = .ok (.aload_n 0, 1) := by decide +kernel
theorem dX11_joins_137 : decode cX11_joins 137 = .ok (.lload 4, 2) := by decide +kernel
theorem dX11_joins_139 : decode cX11_joins 139 = .ok (.lload_n 2, 1) := by decide +kernel
theorem dX11_joins_140 : decode cX11_joins 140 = .ok (.lmul, 1) := by decide +kernel
theorem dX11_joins_141 : decode cX11_joins 141 = .ok (.invokestatic 419, 3) := by decide +kernel
theorem dX11_joins_144 : decode cX11_joins 144 = .ok (.invokevirtual 423, 3) := by decide +kernel
theorem dX11_joins_147 : decode cX11_joins 147 = .ok (.goto 142, 3) := by decide +kernel
theorem dX11_joins_150 : decode cX11_joins 150 = .ok (.aload_n 0, 1) := by decide +kernel
theorem dX11_joins_151 : decode cX11_joins 151 = .ok (.lload 4, 2) := by decide +kernel
theorem dX11_joins_153 : decode cX11_joins 153 = .ok (.lload_n 2, 1) := by decide +kernel
theorem dX11_joins_154 : decode cX11_joins 154 = .ok (.invokestatic 427, 3) := by decide +kernel
theorem dX11_joins_157 : decode cX11_joins 157 = .ok (.invokevirtual 423, 3) := by decide +kernel
theorem dX11_joins_160 : decode cX11_joins 160 = .ok (.goto 129, 3) := by decide +kernel
theorem dX11_joins_163 : decode cX11_joins 163 = .ok (.aload_n 0, 1) := by decide +kernel
theorem dX11_joins_164 : decode cX11_joins 164 = .ok (.lload 4, 2) := by decide +kernel
theorem dX11_joins_166 : decode cX11_joins 166 = .ok (.lload_n 2, 1) := by decide +kernel
theorem dX11_joins_167 : decode cX11_joins 167 = .ok (.lcmp, 1) := by decide +kernel
theorem dX11_joins_168 : decode cX11_joins 168 = .ok (.ifCond .ge 8, 3) := by decide +kernel
theorem dX11_joins_171 : decode cX11_joins 171 = .ok (.lload 4, 2) := by decide +kernel
theorem dX11_joins_173 : decode cX11_joins 173 = .ok (.goto 4, 3) := by decide +kernel
theorem dX11_joins_176 : decode cX11_joins 176 = .ok (.lload_n 2, 1) := by decide +kernel
theorem dX11_joins_177 : decode cX11_joins 177 = .ok (.invokevirtual 423, 3) := by decide +kernel
theorem dX11_joins_180 : decode cX11_joins 180 = .ok (.goto 109, 3) := by decide +kernel
theorem dX11_joins_183 : decode cX11_joins 183 = .ok (.aload_n 0, 1) := by decide +kernel
theorem dX11_joins_184 : decode cX11_joins 184 = .ok (.lload 4, 2) := by decide +kernel
theorem dX11_joins_186 : decode cX11_joins 186 = .ok (.lload_n 2, 1) := by decide +kernel
theorem dX11_joins_187 : decode cX11_joins 187 = .ok (.lcmp, 1) := by decide +kernel
theorem dX11_joins_188 : decode cX11_joins 188 = .ok (.ifCond .le 8, 3) := by decide +kernel
theorem dX11_joins_191 : decode cX11_joins 191 = .ok (.lload 4, 2) := by decide +kernel
theorem dX11_joins_193 : decode cX11_joins 193 = .ok (.goto 4, 3) := by decide +kernel
theorem dX11_joins_196 : decode cX11_joins 196 = .ok (.lload_n 2, 1) := by decide +kernel
theorem dX11_joins_197 : decode cX11_joins 197 = .ok (.invokevirtual 423, 3) := by decide +kernel
theorem dX11_joins_200 : decode cX11_joins 200 = .ok (.goto 89, 3) := by decide +kernel
theorem dX11_joins_203 : decode cX11_joins 203 = .ok (.aload_n 0, 1) := by decide +kernel
theorem dX11_joins_204 : decode cX11_joins 204 = .ok (.lload 4, 2) := by decide +kernel
theorem dX11_joins_206 : decode cX11_joins 206 = .ok (.lload_n 2, 1) := by decide +kernel
theorem dX11_joins_207 : decode cX11_joins 207 = .ok (.lcmp, 1) := by decide +kernel
theorem dX11_joins_208 : decode cX11_joins 208 = .ok (.ifCond .ge 7, 3) := by decide +kernel
theorem dX11_joins_211 : decode cX11_joins 211 = .ok (.lconst 1, 1) := by decide +kernel
theorem dX11_joins_212 : decode cX11_joins 212 = .ok (.goto 4, 3) := by decide +kernel
theorem dX11_joins_215 : decode cX11_joins 215 = .ok (.lconst 0, 1) := by decide +kernel
theorem dX11_joins_216 : decode cX11_joins 216 = .ok (.invokevirtual 423, 3) := by decide +kernel
theorem dX11_joins_219 : decode cX11_joins 219 = .ok (.goto 70, 3) := by decide +kernel
theorem dX11_joins_222 : decode cX11_joins 222 = .ok (.aload_n 0, 1) := by decide +kernel
theorem dX11_joins_223 : decode cX11_joins 223 = .ok (.lload 4, 2) := by decide +kernel
theorem dX11_joins_225 : decode cX11_joins 225 = .ok (.lload_n 2, 1) := by decide +kernel
theorem dX11_joins_226 : decode cX11_joins 226 = .ok (.lcmp, 1) := by decide +kernel
theorem dX11_joins_227 : decode cX11_joins 227 = .ok (.ifCond .le 7, 3) := by decide +kernel
theorem dX11_joins_230 : decode cX11_joins 230 = .ok (.lconst 1, 1) := by decide +kernel
theorem dX11_joins_231 : decode cX11_joins 231 = .ok (.goto 4, 3) := by decide +kernel
theorem dX11_joins_234 : decode cX11_joins 234 = .ok (.lconst 0, 1) := by decide +kernel
theorem dX11_joins_235 : decode cX11_joins 235 = .ok (.invokevirtual 423, 3) := by decide +kernel
theorem dX11_joins_238 : decode cX11_joins 238 = .ok (.goto 51, 3) := by decide +kernel
theorem dX11_joins_241 : decode cX11_joins 241 = .ok (.aload_n 0, 1) := by decide +kernel
theorem dX11_joins_242 : decode cX11_joins 242 = .ok (.lload 4, 2) := by decide +kernel
theorem dX11_joins_244 : decode cX11_joins 244 = .ok (.lload_n 2, 1) := by decide +kernel
theorem dX11_joins_245 : decode cX11_joins 245 = .ok (.lcmp, 1) := by decide +kernel
theorem dX11_joins_246 : decode cX11_joins 246 = .ok (.ifCond .ne 7, 3) := by decide +kernel
theorem dX11_joins_249 : decode cX11_joins 249 = .ok (.lconst 1, 1) := by decide +kernel
theorem dX11_joins_250 : decode cX11_joins 250 = .ok (.goto 4, 3) := by decide +kernel
theorem dX11_joins_253 : decode cX11_joins 253 = .ok (.lconst 0, 1) := by decide +kernel
theorem dX11_joins_254 : decode cX11_joins 254 = .ok (.invokevirtual 423, 3) := by decide +kernel
theorem dX11_joins_257 : decode cX11_joins 257 = .ok (.goto 32, 3) := by decide +kernel
theorem dX11_joins_260 : decode cX11_joins 260 = .ok (.aload_n 0, 1) := by decide +kernel
theorem dX11_joins_261 : decode cX11_joins 261 = .ok (.lload 4, 2) := by decide +kernel
theorem dX11_joins_263 : decode cX11_joins 263 = .ok (.lload_n 2, 1) := by decide +kernel
theorem dX11_joins_264 : decode cX11_joins 264 = .ok (.lmul, 1) := by decide +kernel
theorem dX11_joins_265 : decode cX11_joins 265 = .ok (.invokevirtual 423, 3) := by decide +kernel
theorem dX11_joins_268 : decode cX11_joins 268 = .ok (.goto 21, 3) := by decide +kernel
theorem dX11_joins_271 : decode cX11_joins 271 = .ok (.aload_n 0, 1) := by decide +kernel
theorem dX11_joins_272 : decode cX11_joins 272 = .ok (.lload 4, 2) := by decide +kernel
theorem dX11_joins_274 : decode cX11_joins 274 = .ok (.lload_n 2, 1) := by decide +kernel
theorem dX11_joins_275 : decode cX11_joins 275 = .ok (.ladd, 1) := by decide +kernel
theorem dX11_joins_276 : decode cX11_joins 276 = .ok (.lconst 0, 1) := by decide +kernel
theorem dX11_joins_277 : decode cX11_joins 277 = .ok (.lcmp, 1) := by decide +kernel
theorem dX11_joins_278 : decode cX11_joins 278 = .ok (.ifCond .le 7, 3) := by decide +kernel
theorem dX11_joins_281 : decode cX11_joins 281 = .ok (.lconst 1, 1) := by decide +kernel
theorem dX11_joins_282 : decode cX11_joins 282 = .ok (.goto 4, 3) := by decide +kernel
theorem dX11_joins_285 : decode cX11_joins 285 = .ok (.lconst 0, 1) := by decide +kernel
theorem dX11_joins_286 : decode cX11_joins 286 = .ok (.invokevirtual 423, 3) := by decide +kernel
theorem dX11_joins_289 : decode cX11_joins 289 = .ok (.return_, 1) := by decide +kernel
theorem dX11_keeps_0 : decode cX11_keeps 0 = .ok (.aload_n 0, 1) := by decide +kernel
theorem dX11_keeps_1 : decode cX11_keeps 1 = .ok (.invokevirtual 490, 3) := by decide +kernel
theorem dX11_keeps_4 : decode cX11_keeps 4 = .ok (.aload_n 0, 1) := by decide +kernel
theorem dX11_keeps_5 : decode cX11_keeps 5 = .ok (.invokevirtual 493, 3) := by decide +kernel
theorem dX11_keeps_8 : decode cX11_keeps 8 = .ok (.return_, 1) := by decide +kernel
theorem dX11_keepsAside_0 : decode cX11_keepsAside 0 = .ok (.aload_n 0, 1) := by decide +kernel
theorem dX11_keepsAside_1 : decode cX11_keepsAside 1 = .ok (.aload_n 0, 1) := by decide +kernel
theorem dX11_keepsAside_2 : decode cX11_keepsAside 2 = .ok (.getfield 487, 3) := by decide +kernel
theorem dX11_keepsAside_5 : decode cX11_keepsAside 5 = .ok (.iconst 1, 1) := by decide +kernel
theorem dX11_keepsAside_6 : decode cX11_keepsAside 6 = .ok (.iadd, 1) := by decide +kernel
theorem dX11_keepsAside_7 : decode cX11_keepsAside 7 = .ok (.bipush 20, 2) := by decide +kernel
theorem dX11_keepsAside_9 : decode cX11_keepsAside 9 = .ok (.irem, 1) := by decide +kernel
theorem dX11_keepsAside_10 : decode cX11_keepsAside 10 = .ok (.putfield 487, 3) := by decide +kernel
theorem dX11_keepsAside_13 : decode cX11_keepsAside 13 = .ok (.iconst 0, 1) := by decide +kernel
theorem dX11_keepsAside_14 : decode cX11_keepsAside 14 = .ok (.istore_n 1, 1) := by decide +kernel
theorem dX11_keepsAside_15 : decode cX11_keepsAside 15 = .ok (.iload_n 1, 1) := by decide +kernel
theorem dX11_keepsAside_16 : decode cX11_keepsAside 16 = .ok (.iconst 4, 1) := by decide +kernel
theorem dX11_keepsAside_17 : decode cX11_keepsAside 17 = .ok (.if_icmp .ge 28, 3) := by decide +kernel
theorem dX11_keepsAside_20 : decode cX11_keepsAside 20 = .ok (.aload_n 0, 1) := by decide +kernel
theorem dX11_keepsAside_21 : decode cX11_keepsAside 21 = .ok (.getfield 157, 3) := by decide +kernel
theorem dX11_keepsAside_24 : decode cX11_keepsAside 24 = .ok (.iconst 4, 1) := by decide +kernel
theorem dX11_keepsAside_25 : decode cX11_keepsAside 25 = .ok (.aload_n 0, 1) := by decide +kernel
theorem dX11_keepsAside_26 : decode cX11_keepsAside 26 = .ok (.getfield 487, 3) := by decide +kernel
theorem dX11_keepsAside_29 : decode cX11_keepsAside 29 = .ok (.imul, 1) := by decide +kernel
theorem dX11_keepsAside_30 : decode cX11_keepsAside 30 = .ok (.iload_n 1, 1) := by decide +kernel
theorem dX11_keepsAside_31 : decode cX11_keepsAside 31 = .ok (.iadd, 1) := by decide +kernel
theorem dX11_keepsAside_32 : decode cX11_keepsAside 32 = .ok (.aload_n 0, 1) := by decide +kernel
theorem dX11_keepsAside_33 : decode cX11_keepsAside 33 = .ok (.getfield 175, 3) := by decide +kernel
theorem dX11_keepsAside_36 : decode cX11_keepsAside 36 = .ok (.iload_n 1, 1) := by decide +kernel
theorem dX11_keepsAside_37 : decode cX11_keepsAside 37 = .ok (.iaload, 1) := by decide +kernel
theorem dX11_keepsAside_38 : decode cX11_keepsAside 38 = .ok (.iastore, 1) := by decide +kernel
theorem dX11_keepsAside_39 : decode cX11_keepsAside 39 = .ok (.iinc 1 1, 3) := by decide +kernel
theorem dX11_keepsAside_42 : decode cX11_keepsAside 42 = .ok (.goto (-27), 3) := by decide +kernel
theorem dX11_keepsAside_45 : decode cX11_keepsAside 45 = .ok (.iconst 0, 1) := by decide +kernel
theorem dX11_keepsAside_46 : decode cX11_keepsAside 46 = .ok (.istore_n 1, 1) := by decide +kernel
theorem dX11_keepsAside_47 : decode cX11_keepsAside 47 = .ok (.iload_n 1, 1) := by decide +kernel
theorem dX11_keepsAside_48 : decode cX11_keepsAside 48 = .ok (.bipush 96, 2) := by decide +kernel
theorem dX11_keepsAside_50 : decode cX11_keepsAside 50 = .ok (.if_icmp .ge 69, 3) := by decide +kernel
theorem dX11_keepsAside_53 : decode cX11_keepsAside 53 = .ok (.aload_n 0, 1) := by decide +kernel
theorem dX11_keepsAside_54 : decode cX11_keepsAside 54 = .ok (.getfield 160, 3) := by decide +kernel
theorem dX11_keepsAside_57 : decode cX11_keepsAside 57 = .ok (.bipush 96, 2) := by decide +kernel
theorem dX11_keepsAside_59 : decode cX11_keepsAside 59 = .ok (.aload_n 0, 1) := by decide +kernel
theorem dX11_keepsAside_60 : decode cX11_keepsAside 60 = .ok (.getfield 487, 3) := by decide +kernel
theorem dX11_keepsAside_63 : decode cX11_keepsAside 63 = .ok (.imul, 1) := by decide +kernel
theorem dX11_keepsAside_64 : decode cX11_keepsAside 64 = .ok (.iload_n 1, 1) := by decide +kernel
theorem dX11_keepsAside_65 : decode cX11_keepsAside 65 = .ok (.iadd, 1) := by decide +kernel
theorem dX11_keepsAside_66 : decode cX11_keepsAside 66 = .ok (.aload_n 0, 1) := by decide +kernel
theorem dX11_keepsAside_67 : decode cX11_keepsAside 67 = .ok (.getfield 178, 3) := by decide +kernel
theorem dX11_keepsAside_70 : decode cX11_keepsAside 70 = .ok (.iload_n 1, 1) := by decide +kernel
theorem dX11_keepsAside_71 : decode cX11_keepsAside 71 = .ok (.iaload, 1) := by decide +kernel
theorem dX11_keepsAside_72 : decode cX11_keepsAside 72 = .ok (.iastore, 1) := by decide +kernel
theorem dX11_keepsAside_73 : decode cX11_keepsAside 73 = .ok (.aload_n 0, 1) := by decide +kernel
theorem dX11_keepsAside_74 : decode cX11_keepsAside 74 = .ok (.getfield 163, 3) := by decide +kernel
theorem dX11_keepsAside_77 : decode cX11_keepsAside 77 = .ok (.bipush 96, 2) := by decide +kernel
theorem dX11_keepsAside_79 : decode cX11_keepsAside 79 = .ok (.aload_n 0, 1) := by decide +kernel
theorem dX11_keepsAside_80 : decode cX11_keepsAside 80 = .ok (.getfield 487, 3) := by decide +kernel
theorem dX11_keepsAside_83 : decode cX11_keepsAside 83 = .ok (.imul, 1) := by decide +kernel
theorem dX11_keepsAside_84 : decode cX11_keepsAside 84 = .ok (.iload_n 1, 1) := by decide +kernel
theorem dX11_keepsAside_85 : decode cX11_keepsAside 85 = .ok (.iadd, 1) := by decide +kernel
theorem dX11_keepsAside_86 : decode cX11_keepsAside 86 = .ok (.aload_n 0, 1) := by decide +kernel
theorem dX11_keepsAside_87 : decode cX11_keepsAside 87 = .ok (.getfield 181, 3) := by decide +kernel
theorem dX11_keepsAside_90 : decode cX11_keepsAside 90 = .ok (.iload_n 1, 1) := by decide +kernel
theorem dX11_keepsAside_91 : decode cX11_keepsAside 91 = .ok (.iaload, 1) := by decide +kernel
theorem dX11_keepsAside_92 : decode cX11_keepsAside 92 = .ok (.iastore, 1) := by decide +kernel
theorem dX11_keepsAside_93 : decode cX11_keepsAside 93 = .ok (.aload_n 0, 1) := by decide +kernel
theorem dX11_keepsAside_94 : decode cX11_keepsAside 94 = .ok (.getfield 166, 3) := by decide +kernel
theorem dX11_keepsAside_97 : decode cX11_keepsAside 97 = .ok (.bipush 96, 2) := by decide +kernel
theorem dX11_keepsAside_99 : decode cX11_keepsAside 99 = .ok (.aload_n 0, 1) := by decide +kernel
theorem dX11_keepsAside_100 : decode cX11_keepsAside 100 = .ok (.getfield 487, 3) := by decide +kernel
theorem dX11_keepsAside_103 : decode cX11_keepsAside 103 = .ok (.imul, 1) := by decide +kernel
theorem dX11_keepsAside_104 : decode cX11_keepsAside 104 = .ok (.iload_n 1, 1) := by decide +kernel
theorem dX11_keepsAside_105 : decode cX11_keepsAside 105 = .ok (.iadd, 1) := by decide +kernel
theorem dX11_keepsAside_106 : decode cX11_keepsAside 106 = .ok (.aload_n 0, 1) := by decide +kernel
theorem dX11_keepsAside_107 : decode cX11_keepsAside 107 = .ok (.getfield 184, 3) := by decide +kernel
theorem dX11_keepsAside_110 : decode cX11_keepsAside 110 = .ok (.iload_n 1, 1) := by decide +kernel
theorem dX11_keepsAside_111 : decode cX11_keepsAside 111 = .ok (.iaload, 1) := by decide +kernel
theorem dX11_keepsAside_112 : decode cX11_keepsAside 112 = .ok (.iastore, 1) := by decide +kernel
theorem dX11_keepsAside_113 : decode cX11_keepsAside 113 = .ok (.iinc 1 1, 3) := by decide +kernel
theorem dX11_keepsAside_116 : decode cX11_keepsAside 116 = .ok (.goto (-69), 3) := by decide +kernel
theorem dX11_keepsAside_119 : decode cX11_keepsAside 119 = .ok (.aload_n 0, 1) := by decide +kernel
theorem dX11_keepsAside_120 : decode cX11_keepsAside 120 = .ok (.getfield 169, 3) := by decide +kernel
theorem dX11_keepsAside_123 : decode cX11_keepsAside 123 = .ok (.aload_n 0, 1) := by decide +kernel
theorem dX11_keepsAside_124 : decode cX11_keepsAside 124 = .ok (.getfield 487, 3) := by decide +kernel
theorem dX11_keepsAside_127 : decode cX11_keepsAside 127 = .ok (.aload_n 0, 1) := by decide +kernel
theorem dX11_keepsAside_128 : decode cX11_keepsAside 128 = .ok (.getfield 358, 3) := by decide +kernel
theorem dX11_keepsAside_131 : decode cX11_keepsAside 131 = .ok (.iastore, 1) := by decide +kernel
theorem dX11_keepsAside_132 : decode cX11_keepsAside 132 = .ok (.aload_n 0, 1) := by decide +kernel
theorem dX11_keepsAside_133 : decode cX11_keepsAside 133 = .ok (.getfield 172, 3) := by decide +kernel
theorem dX11_keepsAside_136 : decode cX11_keepsAside 136 = .ok (.aload_n 0, 1) := by decide +kernel
theorem dX11_keepsAside_137 : decode cX11_keepsAside 137 = .ok (.getfield 487, 3) := by decide +kernel
theorem dX11_keepsAside_140 : decode cX11_keepsAside 140 = .ok (.aload_n 0, 1) := by decide +kernel
theorem dX11_keepsAside_141 : decode cX11_keepsAside 141 = .ok (.getfield 361, 3) := by decide +kernel
theorem dX11_keepsAside_144 : decode cX11_keepsAside 144 = .ok (.iastore, 1) := by decide +kernel
theorem dX11_keepsAside_145 : decode cX11_keepsAside 145 = .ok (.aload_n 0, 1) := by decide +kernel
theorem dX11_keepsAside_146 : decode cX11_keepsAside 146 = .ok (.getfield 364, 3) := by decide +kernel
theorem dX11_keepsAside_149 : decode cX11_keepsAside 149 = .ok (.bipush 20, 2) := by decide +kernel
theorem dX11_keepsAside_151 : decode cX11_keepsAside 151 = .ok (.if_icmp .ge 13, 3) := by decide +kernel
theorem dX11_keepsAside_154 : decode cX11_keepsAside 154 = .ok (.aload_n 0, 1) := by decide +kernel
theorem dX11_keepsAside_155 : decode cX11_keepsAside 155 = .ok (.dup, 1) := by decide +kernel
theorem dX11_keepsAside_156 : decode cX11_keepsAside 156 = .ok (.getfield 364, 3) := by decide +kernel
theorem dX11_keepsAside_159 : decode cX11_keepsAside 159 = .ok (.iconst 1, 1) := by decide +kernel
theorem dX11_keepsAside_160 : decode cX11_keepsAside 160 = .ok (.iadd, 1) := by decide +kernel
theorem dX11_keepsAside_161 : decode cX11_keepsAside 161 = .ok (.putfield 364, 3) := by decide +kernel
theorem dX11_keepsAside_164 : decode cX11_keepsAside 164 = .ok (.return_, 1) := by decide +kernel
theorem dX11_lane_0 : decode cX11_lane 0 = .ok (.aload_n 0, 1) := by decide +kernel
theorem dX11_lane_1 : decode cX11_lane 1 = .ok (.iload_n 1, 1) := by decide +kernel
theorem dX11_lane_2 : decode cX11_lane 2 = .ok (.invokevirtual 473, 3) := by decide +kernel
theorem dX11_lane_5 : decode cX11_lane 5 = .ok (.ifCond .eq 15, 3) := by decide +kernel
theorem dX11_lane_8 : decode cX11_lane 8 = .ok (.iload_n 2, 1) := by decide +kernel
theorem dX11_lane_9 : decode cX11_lane 9 = .ok (.i2l, 1) := by decide +kernel
theorem dX11_lane_10 : decode cX11_lane 10 = .ok (.lconst 0, 1) := by decide +kernel
theorem dX11_lane_11 : decode cX11_lane 11 = .ok (.ldc2_w 476, 3) := by decide +kernel
theorem dX11_lane_14 : decode cX11_lane 14 = .ok (.invokestatic 264, 3) := by decide +kernel
theorem dX11_lane_17 : decode cX11_lane 17 = .ok (.ifCond .ne 5, 3) := by decide +kernel
theorem dX11_lane_20 : decode cX11_lane 20 = .ok (.iconst (-1), 1) := by decide +kernel
theorem dX11_lane_21 : decode cX11_lane 21 = .ok (.ireturn, 1) := by decide +kernel
theorem dX11_lane_22 : decode cX11_lane 22 = .ok (.iload_n 2, 1) := by decide +kernel
theorem dX11_lane_23 : decode cX11_lane 23 = .ok (.iconst 4, 1) := by decide +kernel
theorem dX11_lane_24 : decode cX11_lane 24 = .ok (.if_icmp .ne 14, 3) := by decide +kernel
theorem dX11_lane_27 : decode cX11_lane 27 = .ok (.aload_n 0, 1) := by decide +kernel
theorem dX11_lane_28 : decode cX11_lane 28 = .ok (.getfield 358, 3) := by decide +kernel
theorem dX11_lane_31 : decode cX11_lane 31 = .ok (.iload_n 1, 1) := by decide +kernel
theorem dX11_lane_32 : decode cX11_lane 32 = .ok (.ishr, 1) := by decide +kernel
theorem dX11_lane_33 : decode cX11_lane 33 = .ok (.iconst 1, 1) := by decide +kernel
theorem dX11_lane_34 : decode cX11_lane 34 = .ok (.iand, 1) := by decide +kernel
theorem dX11_lane_35 : decode cX11_lane 35 = .ok (.goto 16, 3) := by decide +kernel
theorem dX11_lane_38 : decode cX11_lane 38 = .ok (.aload_n 0, 1) := by decide +kernel
theorem dX11_lane_39 : decode cX11_lane 39 = .ok (.getfield 109, 3) := by decide +kernel
theorem dX11_lane_42 : decode cX11_lane 42 = .ok (.bipush 64, 2) := by decide +kernel
theorem dX11_lane_44 : decode cX11_lane 44 = .ok (.iconst 4, 1) := by decide +kernel
theorem dX11_lane_45 : decode cX11_lane 45 = .ok (.iload_n 1, 1) := by decide +kernel
theorem dX11_lane_46 : decode cX11_lane 46 = .ok (.imul, 1) := by decide +kernel
theorem dX11_lane_47 : decode cX11_lane 47 = .ok (.iadd, 1) := by decide +kernel
theorem dX11_lane_48 : decode cX11_lane 48 = .ok (.iload_n 2, 1) := by decide +kernel
theorem dX11_lane_49 : decode cX11_lane 49 = .ok (.iadd, 1) := by decide +kernel
theorem dX11_lane_50 : decode cX11_lane 50 = .ok (.iaload, 1) := by decide +kernel
theorem dX11_lane_51 : decode cX11_lane 51 = .ok (.ireturn, 1) := by decide +kernel
theorem dX11_laneMany_0 : decode cX11_laneMany 0 = .ok (.aload_n 0, 1) := by decide +kernel
theorem dX11_laneMany_1 : decode cX11_laneMany 1 = .ok (.getfield 99, 3) := by decide +kernel
theorem dX11_laneMany_4 : decode cX11_laneMany 4 = .ok (.bipush 7, 2) := by decide +kernel
theorem dX11_laneMany_6 : decode cX11_laneMany 6 = .ok (.iaload, 1) := by decide +kernel
theorem dX11_laneMany_7 : decode cX11_laneMany 7 = .ok (.ireturn, 1) := by decide +kernel
theorem dX11_laneOf_0 : decode cX11_laneOf 0 = .ok (.iconst 0, 1) := by decide +kernel
theorem dX11_laneOf_1 : decode cX11_laneOf 1 = .ok (.istore_n 3, 1) := by decide +kernel
theorem dX11_laneOf_2 : decode cX11_laneOf 2 = .ok (.iload_n 3, 1) := by decide +kernel
theorem dX11_laneOf_3 : decode cX11_laneOf 3 = .ok (.aload_n 0, 1) := by decide +kernel
theorem dX11_laneOf_4 : decode cX11_laneOf 4 = .ok (.invokevirtual 450, 3) := by decide +kernel
theorem dX11_laneOf_7 : decode cX11_laneOf 7 = .ok (.if_icmp .ge 67, 3) := by decide +kernel
theorem dX11_laneOf_10 : decode cX11_laneOf 10 = .ok (.bipush 64, 2) := by decide +kernel
theorem dX11_laneOf_12 : decode cX11_laneOf 12 = .ok (.iconst 4, 1) := by decide +kernel
theorem dX11_laneOf_13 : decode cX11_laneOf 13 = .ok (.iload_n 3, 1) := by decide +kernel
theorem dX11_laneOf_14 : decode cX11_laneOf 14 = .ok (.imul, 1) := by decide +kernel
theorem dX11_laneOf_15 : decode cX11_laneOf 15 = .ok (.iadd, 1) := by decide +kernel
theorem dX11_laneOf_16 : decode cX11_laneOf 16 = .ok (.istore 4, 2) := by decide +kernel
theorem dX11_laneOf_18 : decode cX11_laneOf 18 = .ok (.aload_n 0, 1) := by decide +kernel
theorem dX11_laneOf_19 : decode cX11_laneOf 19 = .ok (.getfield 109, 3) := by decide +kernel
theorem dX11_laneOf_22 : decode cX11_laneOf 22 = .ok (.iload 4, 2) := by decide +kernel
theorem dX11_laneOf_24 : decode cX11_laneOf 24 = .ok (.iaload, 1) := by decide +kernel
theorem dX11_laneOf_25 : decode cX11_laneOf 25 = .ok (.iload_n 1, 1) := by decide +kernel
theorem dX11_laneOf_26 : decode cX11_laneOf 26 = .ok (.if_icmp .ne 16, 3) := by decide +kernel
theorem dX11_laneOf_29 : decode cX11_laneOf 29 = .ok (.aload_n 0, 1) := by decide +kernel
theorem dX11_laneOf_30 : decode cX11_laneOf 30 = .ok (.getfield 109, 3) := by decide +kernel
theorem dX11_laneOf_33 : decode cX11_laneOf 33 = .ok (.iload 4, 2) := by decide +kernel
theorem dX11_laneOf_35 : decode cX11_laneOf 35 = .ok (.iconst 1, 1) := by decide +kernel
theorem dX11_laneOf_36 : decode cX11_laneOf 36 = .ok (.iadd, 1) := by decide +kernel
theorem dX11_laneOf_37 : decode cX11_laneOf 37 = .ok (.iaload, 1) := by decide +kernel
theorem dX11_laneOf_38 : decode cX11_laneOf 38 = .ok (.iload_n 2, 1) := by decide +kernel
theorem dX11_laneOf_39 : decode cX11_laneOf 39 = .ok (.if_icmp .eq 27, 3) := by decide +kernel
theorem dX11_laneOf_42 : decode cX11_laneOf 42 = .ok (.aload_n 0, 1) := by decide +kernel
theorem dX11_laneOf_43 : decode cX11_laneOf 43 = .ok (.getfield 109, 3) := by decide +kernel
theorem dX11_laneOf_46 : decode cX11_laneOf 46 = .ok (.iload 4, 2) := by decide +kernel
theorem dX11_laneOf_48 : decode cX11_laneOf 48 = .ok (.iaload, 1) := by decide +kernel
theorem dX11_laneOf_49 : decode cX11_laneOf 49 = .ok (.iload_n 2, 1) := by decide +kernel
theorem dX11_laneOf_50 : decode cX11_laneOf 50 = .ok (.if_icmp .ne 18, 3) := by decide +kernel
theorem dX11_laneOf_53 : decode cX11_laneOf 53 = .ok (.aload_n 0, 1) := by decide +kernel
theorem dX11_laneOf_54 : decode cX11_laneOf 54 = .ok (.getfield 109, 3) := by decide +kernel
theorem dX11_laneOf_57 : decode cX11_laneOf 57 = .ok (.iload 4, 2) := by decide +kernel
theorem dX11_laneOf_59 : decode cX11_laneOf 59 = .ok (.iconst 1, 1) := by decide +kernel
theorem dX11_laneOf_60 : decode cX11_laneOf 60 = .ok (.iadd, 1) := by decide +kernel
theorem dX11_laneOf_61 : decode cX11_laneOf 61 = .ok (.iaload, 1) := by decide +kernel
theorem dX11_laneOf_62 : decode cX11_laneOf 62 = .ok (.iload_n 1, 1) := by decide +kernel
theorem dX11_laneOf_63 : decode cX11_laneOf 63 = .ok (.if_icmp .ne 5, 3) := by decide +kernel
theorem dX11_laneOf_66 : decode cX11_laneOf 66 = .ok (.iload_n 3, 1) := by decide +kernel
theorem dX11_laneOf_67 : decode cX11_laneOf 67 = .ok (.ireturn, 1) := by decide +kernel
theorem dX11_laneOf_68 : decode cX11_laneOf 68 = .ok (.iinc 3 1, 3) := by decide +kernel
theorem dX11_laneOf_71 : decode cX11_laneOf 71 = .ok (.goto (-69), 3) := by decide +kernel
theorem dX11_laneOf_74 : decode cX11_laneOf 74 = .ok (.iconst (-1), 1) := by decide +kernel
theorem dX11_laneOf_75 : decode cX11_laneOf 75 = .ok (.ireturn, 1) := by decide +kernel
theorem dX11_lastOf_0 : decode cX11_lastOf 0 = .ok (.iload_n 2, 1) := by decide +kernel
theorem dX11_lastOf_1 : decode cX11_lastOf 1 = .ok (.iload_n 1, 1) := by decide +kernel
theorem dX11_lastOf_2 : decode cX11_lastOf 2 = .ok (.ishr, 1) := by decide +kernel
theorem dX11_lastOf_3 : decode cX11_lastOf 3 = .ok (.iconst 1, 1) := by decide +kernel
theorem dX11_lastOf_4 : decode cX11_lastOf 4 = .ok (.iand, 1) := by decide +kernel
theorem dX11_lastOf_5 : decode cX11_lastOf 5 = .ok (.ifCond .ne 7, 3) := by decide +kernel
theorem dX11_lastOf_8 : decode cX11_lastOf 8 = .ok (.iconst 0, 1) := by decide +kernel
theorem dX11_lastOf_9 : decode cX11_lastOf 9 = .ok (.goto 8, 3) := by decide +kernel
theorem dX11_lastOf_12 : decode cX11_lastOf 12 = .ok (.aload_n 0, 1) := by decide +kernel
theorem dX11_lastOf_13 : decode cX11_lastOf 13 = .ok (.iload_n 1, 1) := by decide +kernel
theorem dX11_lastOf_14 : decode cX11_lastOf 14 = .ok (.invokevirtual 641, 3) := by decide +kernel
theorem dX11_lastOf_17 : decode cX11_lastOf 17 = .ok (.ireturn, 1) := by decide +kernel
theorem dX11_leastAlone_0 : decode cX11_leastAlone 0 = .ok (.iconst (-1), 1) := by decide +kernel
theorem dX11_leastAlone_1 : decode cX11_leastAlone 1 = .ok (.istore_n 2, 1) := by decide +kernel
theorem dX11_leastAlone_2 : decode cX11_leastAlone 2 = .ok (.iconst 0, 1) := by decide +kernel
theorem dX11_leastAlone_3 : decode cX11_leastAlone 3 = .ok (.istore_n 3, 1) := by decide +kernel
theorem dX11_leastAlone_4 : decode cX11_leastAlone 4 = .ok (.iload_n 3, 1) := by decide +kernel
theorem dX11_leastAlone_5 : decode cX11_leastAlone 5 = .ok (.aload_n 0, 1) := by decide +kernel
theorem dX11_leastAlone_6 : decode cX11_leastAlone 6 = .ok (.iload_n 1, 1) := by decide +kernel
theorem dX11_leastAlone_7 : decode cX11_leastAlone 7 = .ok (.invokevirtual 641, 3) := by decide +kernel
theorem dX11_leastAlone_10 : decode cX11_leastAlone 10 = .ok (.if_icmp .ge 34, 3) := by decide +kernel
theorem dX11_leastAlone_13 : decode cX11_leastAlone 13 = .ok (.aload_n 0, 1) := by decide +kernel
theorem dX11_leastAlone_14 : decode cX11_leastAlone 14 = .ok (.iload_n 1, 1) := by decide +kernel
theorem dX11_leastAlone_15 : decode cX11_leastAlone 15 = .ok (.iload_n 3, 1) := by decide +kernel
theorem dX11_leastAlone_16 : decode cX11_leastAlone 16 = .ok (.invokestatic 604, 3) := by decide +kernel
theorem dX11_leastAlone_19 : decode cX11_leastAlone 19 = .ok (.invokevirtual 459, 3) := by decide +kernel
theorem dX11_leastAlone_22 : decode cX11_leastAlone 22 = .ok (.istore 4, 2) := by decide +kernel
theorem dX11_leastAlone_24 : decode cX11_leastAlone 24 = .ok (.iload_n 2, 1) := by decide +kernel
theorem dX11_leastAlone_25 : decode cX11_leastAlone 25 = .ok (.iconst (-1), 1) := by decide +kernel
theorem dX11_leastAlone_26 : decode cX11_leastAlone 26 = .ok (.if_icmp .eq 9, 3) := by decide +kernel
theorem dX11_leastAlone_29 : decode cX11_leastAlone 29 = .ok (.iload 4, 2) := by decide +kernel
theorem dX11_leastAlone_31 : decode cX11_leastAlone 31 = .ok (.iload_n 2, 1) := by decide +kernel
theorem dX11_leastAlone_32 : decode cX11_leastAlone 32 = .ok (.if_icmp .ge 6, 3) := by decide +kernel
theorem dX11_leastAlone_35 : decode cX11_leastAlone 35 = .ok (.iload 4, 2) := by decide +kernel
theorem dX11_leastAlone_37 : decode cX11_leastAlone 37 = .ok (.istore_n 2, 1) := by decide +kernel
theorem dX11_leastAlone_38 : decode cX11_leastAlone 38 = .ok (.iinc 3 1, 3) := by decide +kernel
theorem dX11_leastAlone_41 : decode cX11_leastAlone 41 = .ok (.goto (-37), 3) := by decide +kernel
theorem dX11_leastAlone_44 : decode cX11_leastAlone 44 = .ok (.iload_n 2, 1) := by decide +kernel
theorem dX11_leastAlone_45 : decode cX11_leastAlone 45 = .ok (.ireturn, 1) := by decide +kernel
theorem dX11_leaves_0 : decode cX11_leaves 0 = .ok (.iload_n 2, 1) := by decide +kernel
theorem dX11_leaves_1 : decode cX11_leaves 1 = .ok (.ifCond .ne 7, 3) := by decide +kernel
theorem dX11_leaves_4 : decode cX11_leaves 4 = .ok (.iconst 0, 1) := by decide +kernel
