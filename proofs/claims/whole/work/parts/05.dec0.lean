theorem dX0_addLane_0 : decode cX0_addLane 0 = .ok (.aload_n 0, 1) := by decide +kernel
theorem dX0_addLane_1 : decode cX0_addLane 1 = .ok (.getfield 9, 3) := by decide +kernel
theorem dX0_addLane_4 : decode cX0_addLane 4 = .ok (.iconst 1, 1) := by decide +kernel
theorem dX0_addLane_5 : decode cX0_addLane 5 = .ok (.dup2, 1) := by decide +kernel
theorem dX0_addLane_6 : decode cX0_addLane 6 = .ok (.iaload, 1) := by decide +kernel
theorem dX0_addLane_7 : decode cX0_addLane 7 = .ok (.dup_x2, 1) := by decide +kernel
theorem dX0_addLane_8 : decode cX0_addLane 8 = .ok (.iconst 1, 1) := by decide +kernel
theorem dX0_addLane_9 : decode cX0_addLane 9 = .ok (.iadd, 1) := by decide +kernel
theorem dX0_addLane_10 : decode cX0_addLane 10 = .ok (.iastore, 1) := by decide +kernel
theorem dX0_addLane_11 : decode cX0_addLane 11 = .ok (.istore 5, 2) := by decide +kernel
theorem dX0_addLane_13 : decode cX0_addLane 13 = .ok (.aload_n 0, 1) := by decide +kernel
theorem dX0_addLane_14 : decode cX0_addLane 14 = .ok (.getfield 24, 3) := by decide +kernel
theorem dX0_addLane_17 : decode cX0_addLane 17 = .ok (.iload 5, 2) := by decide +kernel
theorem dX0_addLane_19 : decode cX0_addLane 19 = .ok (.iconst 4, 1) := by decide +kernel
theorem dX0_addLane_20 : decode cX0_addLane 20 = .ok (.imul, 1) := by decide +kernel
theorem dX0_addLane_21 : decode cX0_addLane 21 = .ok (.iload_n 1, 1) := by decide +kernel
theorem dX0_addLane_22 : decode cX0_addLane 22 = .ok (.iastore, 1) := by decide +kernel
theorem dX0_addLane_23 : decode cX0_addLane 23 = .ok (.aload_n 0, 1) := by decide +kernel
theorem dX0_addLane_24 : decode cX0_addLane 24 = .ok (.getfield 24, 3) := by decide +kernel
theorem dX0_addLane_27 : decode cX0_addLane 27 = .ok (.iload 5, 2) := by decide +kernel
theorem dX0_addLane_29 : decode cX0_addLane 29 = .ok (.iconst 4, 1) := by decide +kernel
theorem dX0_addLane_30 : decode cX0_addLane 30 = .ok (.imul, 1) := by decide +kernel
theorem dX0_addLane_31 : decode cX0_addLane 31 = .ok (.iconst 1, 1) := by decide +kernel
theorem dX0_addLane_32 : decode cX0_addLane 32 = .ok (.iadd, 1) := by decide +kernel
theorem dX0_addLane_33 : decode cX0_addLane 33 = .ok (.iload_n 2, 1) := by decide +kernel
theorem dX0_addLane_34 : decode cX0_addLane 34 = .ok (.iastore, 1) := by decide +kernel
theorem dX0_addLane_35 : decode cX0_addLane 35 = .ok (.aload_n 0, 1) := by decide +kernel
theorem dX0_addLane_36 : decode cX0_addLane 36 = .ok (.getfield 24, 3) := by decide +kernel
theorem dX0_addLane_39 : decode cX0_addLane 39 = .ok (.iload 5, 2) := by decide +kernel
theorem dX0_addLane_41 : decode cX0_addLane 41 = .ok (.iconst 4, 1) := by decide +kernel
theorem dX0_addLane_42 : decode cX0_addLane 42 = .ok (.imul, 1) := by decide +kernel
theorem dX0_addLane_43 : decode cX0_addLane 43 = .ok (.iconst 2, 1) := by decide +kernel
theorem dX0_addLane_44 : decode cX0_addLane 44 = .ok (.iadd, 1) := by decide +kernel
theorem dX0_addLane_45 : decode cX0_addLane 45 = .ok (.iload_n 3, 1) := by decide +kernel
theorem dX0_addLane_46 : decode cX0_addLane 46 = .ok (.iastore, 1) := by decide +kernel
theorem dX0_addLane_47 : decode cX0_addLane 47 = .ok (.aload_n 0, 1) := by decide +kernel
theorem dX0_addLane_48 : decode cX0_addLane 48 = .ok (.getfield 24, 3) := by decide +kernel
theorem dX0_addLane_51 : decode cX0_addLane 51 = .ok (.iload 5, 2) := by decide +kernel
theorem dX0_addLane_53 : decode cX0_addLane 53 = .ok (.iconst 4, 1) := by decide +kernel
theorem dX0_addLane_54 : decode cX0_addLane 54 = .ok (.imul, 1) := by decide +kernel
theorem dX0_addLane_55 : decode cX0_addLane 55 = .ok (.iconst 3, 1) := by decide +kernel
theorem dX0_addLane_56 : decode cX0_addLane 56 = .ok (.iadd, 1) := by decide +kernel
theorem dX0_addLane_57 : decode cX0_addLane 57 = .ok (.iload 4, 2) := by decide +kernel
theorem dX0_addLane_59 : decode cX0_addLane 59 = .ok (.iastore, 1) := by decide +kernel
theorem dX0_addLane_60 : decode cX0_addLane 60 = .ok (.aload_n 0, 1) := by decide +kernel
theorem dX0_addLane_61 : decode cX0_addLane 61 = .ok (.getfield 42, 3) := by decide +kernel
theorem dX0_addLane_64 : decode cX0_addLane 64 = .ok (.iload_n 1, 1) := by decide +kernel
theorem dX0_addLane_65 : decode cX0_addLane 65 = .ok (.bipush 10, 2) := by decide +kernel
theorem dX0_addLane_67 : decode cX0_addLane 67 = .ok (.imul, 1) := by decide +kernel
theorem dX0_addLane_68 : decode cX0_addLane 68 = .ok (.iload_n 2, 1) := by decide +kernel
theorem dX0_addLane_69 : decode cX0_addLane 69 = .ok (.iadd, 1) := by decide +kernel
theorem dX0_addLane_70 : decode cX0_addLane 70 = .ok (.iload 5, 2) := by decide +kernel
theorem dX0_addLane_72 : decode cX0_addLane 72 = .ok (.iastore, 1) := by decide +kernel
theorem dX0_addLane_73 : decode cX0_addLane 73 = .ok (.aload_n 0, 1) := by decide +kernel
theorem dX0_addLane_74 : decode cX0_addLane 74 = .ok (.getfield 42, 3) := by decide +kernel
theorem dX0_addLane_77 : decode cX0_addLane 77 = .ok (.iload_n 2, 1) := by decide +kernel
theorem dX0_addLane_78 : decode cX0_addLane 78 = .ok (.bipush 10, 2) := by decide +kernel
theorem dX0_addLane_80 : decode cX0_addLane 80 = .ok (.imul, 1) := by decide +kernel
theorem dX0_addLane_81 : decode cX0_addLane 81 = .ok (.iload_n 1, 1) := by decide +kernel
theorem dX0_addLane_82 : decode cX0_addLane 82 = .ok (.iadd, 1) := by decide +kernel
theorem dX0_addLane_83 : decode cX0_addLane 83 = .ok (.iload 5, 2) := by decide +kernel
theorem dX0_addLane_85 : decode cX0_addLane 85 = .ok (.iastore, 1) := by decide +kernel
theorem dX0_addLane_86 : decode cX0_addLane 86 = .ok (.return_, 1) := by decide +kernel
theorem dX0_copyFrom_0 : decode cX0_copyFrom 0 = .ok (.aload_n 0, 1) := by decide +kernel
theorem dX0_copyFrom_1 : decode cX0_copyFrom 1 = .ok (.aload_n 1, 1) := by decide +kernel
theorem dX0_copyFrom_2 : decode cX0_copyFrom 2 = .ok (.getfield 9, 3) := by decide +kernel
theorem dX0_copyFrom_5 : decode cX0_copyFrom 5 = .ok (.aload_n 0, 1) := by decide +kernel
theorem dX0_copyFrom_6 : decode cX0_copyFrom 6 = .ok (.getfield 9, 3) := by decide +kernel
theorem dX0_copyFrom_9 : decode cX0_copyFrom 9 = .ok (.invokevirtual 61, 3) := by decide +kernel
theorem dX0_copyFrom_12 : decode cX0_copyFrom 12 = .ok (.aload_n 0, 1) := by decide +kernel
theorem dX0_copyFrom_13 : decode cX0_copyFrom 13 = .ok (.aload_n 1, 1) := by decide +kernel
theorem dX0_copyFrom_14 : decode cX0_copyFrom 14 = .ok (.getfield 15, 3) := by decide +kernel
theorem dX0_copyFrom_17 : decode cX0_copyFrom 17 = .ok (.aload_n 0, 1) := by decide +kernel
theorem dX0_copyFrom_18 : decode cX0_copyFrom 18 = .ok (.getfield 15, 3) := by decide +kernel
theorem dX0_copyFrom_21 : decode cX0_copyFrom 21 = .ok (.invokevirtual 61, 3) := by decide +kernel
theorem dX0_copyFrom_24 : decode cX0_copyFrom 24 = .ok (.aload_n 0, 1) := by decide +kernel
theorem dX0_copyFrom_25 : decode cX0_copyFrom 25 = .ok (.aload_n 1, 1) := by decide +kernel
theorem dX0_copyFrom_26 : decode cX0_copyFrom 26 = .ok (.getfield 18, 3) := by decide +kernel
theorem dX0_copyFrom_29 : decode cX0_copyFrom 29 = .ok (.aload_n 0, 1) := by decide +kernel
theorem dX0_copyFrom_30 : decode cX0_copyFrom 30 = .ok (.getfield 18, 3) := by decide +kernel
theorem dX0_copyFrom_33 : decode cX0_copyFrom 33 = .ok (.invokevirtual 61, 3) := by decide +kernel
theorem dX0_copyFrom_36 : decode cX0_copyFrom 36 = .ok (.aload_n 0, 1) := by decide +kernel
theorem dX0_copyFrom_37 : decode cX0_copyFrom 37 = .ok (.aload_n 1, 1) := by decide +kernel
theorem dX0_copyFrom_38 : decode cX0_copyFrom 38 = .ok (.getfield 21, 3) := by decide +kernel
theorem dX0_copyFrom_41 : decode cX0_copyFrom 41 = .ok (.aload_n 0, 1) := by decide +kernel
theorem dX0_copyFrom_42 : decode cX0_copyFrom 42 = .ok (.getfield 21, 3) := by decide +kernel
theorem dX0_copyFrom_45 : decode cX0_copyFrom 45 = .ok (.invokevirtual 61, 3) := by decide +kernel
theorem dX0_copyFrom_48 : decode cX0_copyFrom 48 = .ok (.aload_n 0, 1) := by decide +kernel
theorem dX0_copyFrom_49 : decode cX0_copyFrom 49 = .ok (.aload_n 1, 1) := by decide +kernel
theorem dX0_copyFrom_50 : decode cX0_copyFrom 50 = .ok (.getfield 24, 3) := by decide +kernel
theorem dX0_copyFrom_53 : decode cX0_copyFrom 53 = .ok (.aload_n 0, 1) := by decide +kernel
theorem dX0_copyFrom_54 : decode cX0_copyFrom 54 = .ok (.getfield 24, 3) := by decide +kernel
theorem dX0_copyFrom_57 : decode cX0_copyFrom 57 = .ok (.invokevirtual 61, 3) := by decide +kernel
theorem dX0_copyFrom_60 : decode cX0_copyFrom 60 = .ok (.aload_n 0, 1) := by decide +kernel
theorem dX0_copyFrom_61 : decode cX0_copyFrom 61 = .ok (.aload_n 1, 1) := by decide +kernel
theorem dX0_copyFrom_62 : decode cX0_copyFrom 62 = .ok (.getfield 27, 3) := by decide +kernel
theorem dX0_copyFrom_65 : decode cX0_copyFrom 65 = .ok (.aload_n 0, 1) := by decide +kernel
theorem dX0_copyFrom_66 : decode cX0_copyFrom 66 = .ok (.getfield 27, 3) := by decide +kernel
theorem dX0_copyFrom_69 : decode cX0_copyFrom 69 = .ok (.invokevirtual 61, 3) := by decide +kernel
theorem dX0_copyFrom_72 : decode cX0_copyFrom 72 = .ok (.aload_n 0, 1) := by decide +kernel
theorem dX0_copyFrom_73 : decode cX0_copyFrom 73 = .ok (.aload_n 1, 1) := by decide +kernel
theorem dX0_copyFrom_74 : decode cX0_copyFrom 74 = .ok (.getfield 30, 3) := by decide +kernel
theorem dX0_copyFrom_77 : decode cX0_copyFrom 77 = .ok (.aload_n 0, 1) := by decide +kernel
theorem dX0_copyFrom_78 : decode cX0_copyFrom 78 = .ok (.getfield 30, 3) := by decide +kernel
theorem dX0_copyFrom_81 : decode cX0_copyFrom 81 = .ok (.invokevirtual 61, 3) := by decide +kernel
theorem dX0_copyFrom_84 : decode cX0_copyFrom 84 = .ok (.aload_n 0, 1) := by decide +kernel
theorem dX0_copyFrom_85 : decode cX0_copyFrom 85 = .ok (.aload_n 1, 1) := by decide +kernel
theorem dX0_copyFrom_86 : decode cX0_copyFrom 86 = .ok (.getfield 33, 3) := by decide +kernel
theorem dX0_copyFrom_89 : decode cX0_copyFrom 89 = .ok (.aload_n 0, 1) := by decide +kernel
theorem dX0_copyFrom_90 : decode cX0_copyFrom 90 = .ok (.getfield 33, 3) := by decide +kernel
theorem dX0_copyFrom_93 : decode cX0_copyFrom 93 = .ok (.invokevirtual 61, 3) := by decide +kernel
theorem dX0_copyFrom_96 : decode cX0_copyFrom 96 = .ok (.aload_n 0, 1) := by decide +kernel
theorem dX0_copyFrom_97 : decode cX0_copyFrom 97 = .ok (.aload_n 1, 1) := by decide +kernel
theorem dX0_copyFrom_98 : decode cX0_copyFrom 98 = .ok (.getfield 36, 3) := by decide +kernel
theorem dX0_copyFrom_101 : decode cX0_copyFrom 101 = .ok (.aload_n 0, 1) := by decide +kernel
theorem dX0_copyFrom_102 : decode cX0_copyFrom 102 = .ok (.getfield 36, 3) := by decide +kernel
theorem dX0_copyFrom_105 : decode cX0_copyFrom 105 = .ok (.invokevirtual 61, 3) := by decide +kernel
theorem dX0_copyFrom_108 : decode cX0_copyFrom 108 = .ok (.aload_n 0, 1) := by decide +kernel
theorem dX0_copyFrom_109 : decode cX0_copyFrom 109 = .ok (.aload_n 1, 1) := by decide +kernel
theorem dX0_copyFrom_110 : decode cX0_copyFrom 110 = .ok (.getfield 39, 3) := by decide +kernel
theorem dX0_copyFrom_113 : decode cX0_copyFrom 113 = .ok (.aload_n 0, 1) := by decide +kernel
theorem dX0_copyFrom_114 : decode cX0_copyFrom 114 = .ok (.getfield 39, 3) := by decide +kernel
theorem dX0_copyFrom_117 : decode cX0_copyFrom 117 = .ok (.invokevirtual 61, 3) := by decide +kernel
theorem dX0_copyFrom_120 : decode cX0_copyFrom 120 = .ok (.aload_n 0, 1) := by decide +kernel
theorem dX0_copyFrom_121 : decode cX0_copyFrom 121 = .ok (.aload_n 1, 1) := by decide +kernel
theorem dX0_copyFrom_122 : decode cX0_copyFrom 122 = .ok (.getfield 42, 3) := by decide +kernel
theorem dX0_copyFrom_125 : decode cX0_copyFrom 125 = .ok (.aload_n 0, 1) := by decide +kernel
theorem dX0_copyFrom_126 : decode cX0_copyFrom 126 = .ok (.getfield 42, 3) := by decide +kernel
theorem dX0_copyFrom_129 : decode cX0_copyFrom 129 = .ok (.invokevirtual 61, 3) := by decide +kernel
theorem dX0_copyFrom_132 : decode cX0_copyFrom 132 = .ok (.aload_n 0, 1) := by decide +kernel
theorem dX0_copyFrom_133 : decode cX0_copyFrom 133 = .ok (.aload_n 1, 1) := by decide +kernel
theorem dX0_copyFrom_134 : decode cX0_copyFrom 134 = .ok (.getfield 45, 3) := by decide +kernel
theorem dX0_copyFrom_137 : decode cX0_copyFrom 137 = .ok (.aload_n 0, 1) := by decide +kernel
theorem dX0_copyFrom_138 : decode cX0_copyFrom 138 = .ok (.getfield 45, 3) := by decide +kernel
theorem dX0_copyFrom_141 : decode cX0_copyFrom 141 = .ok (.invokevirtual 61, 3) := by decide +kernel
theorem dX0_copyFrom_144 : decode cX0_copyFrom 144 = .ok (.aload_n 0, 1) := by decide +kernel
theorem dX0_copyFrom_145 : decode cX0_copyFrom 145 = .ok (.aload_n 1, 1) := by decide +kernel
theorem dX0_copyFrom_146 : decode cX0_copyFrom 146 = .ok (.getfield 58, 3) := by decide +kernel
theorem dX0_copyFrom_149 : decode cX0_copyFrom 149 = .ok (.putfield 58, 3) := by decide +kernel
theorem dX0_copyFrom_152 : decode cX0_copyFrom 152 = .ok (.aload_n 0, 1) := by decide +kernel
theorem dX0_copyFrom_153 : decode cX0_copyFrom 153 = .ok (.aload_n 1, 1) := by decide +kernel
theorem dX0_copyFrom_154 : decode cX0_copyFrom 154 = .ok (.getfield 48, 3) := by decide +kernel
theorem dX0_copyFrom_157 : decode cX0_copyFrom 157 = .ok (.putfield 48, 3) := by decide +kernel
theorem dX0_copyFrom_160 : decode cX0_copyFrom 160 = .ok (.return_, 1) := by decide +kernel
theorem dX0_copyRow_0 : decode cX0_copyRow 0 = .ok (.aload_n 1, 1) := by decide +kernel
theorem dX0_copyRow_1 : decode cX0_copyRow 1 = .ok (.iconst 0, 1) := by decide +kernel
theorem dX0_copyRow_2 : decode cX0_copyRow 2 = .ok (.aload_n 2, 1) := by decide +kernel
theorem dX0_copyRow_3 : decode cX0_copyRow 3 = .ok (.iconst 0, 1) := by decide +kernel
theorem dX0_copyRow_4 : decode cX0_copyRow 4 = .ok (.aload_n 1, 1) := by decide +kernel
theorem dX0_copyRow_5 : decode cX0_copyRow 5 = .ok (.arraylength, 1) := by decide +kernel
theorem dX0_copyRow_6 : decode cX0_copyRow 6 = .ok (.aload_n 2, 1) := by decide +kernel
theorem dX0_copyRow_7 : decode cX0_copyRow 7 = .ok (.arraylength, 1) := by decide +kernel
theorem dX0_copyRow_8 : decode cX0_copyRow 8 = .ok (.invokestatic 65, 3) := by decide +kernel
theorem dX0_copyRow_11 : decode cX0_copyRow 11 = .ok (.invokestatic 71, 3) := by decide +kernel
theorem dX0_copyRow_14 : decode cX0_copyRow 14 = .ok (.return_, 1) := by decide +kernel
theorem dX0_empty_0 : decode cX0_empty 0 = .ok (.aload_n 0, 1) := by decide +kernel
theorem dX0_empty_1 : decode cX0_empty 1 = .ok (.getfield 9, 3) := by decide +kernel
theorem dX0_empty_4 : decode cX0_empty 4 = .ok (.iconst 0, 1) := by decide +kernel
theorem dX0_empty_5 : decode cX0_empty 5 = .ok (.invokestatic 52, 3) := by decide +kernel
theorem dX0_empty_8 : decode cX0_empty 8 = .ok (.aload_n 0, 1) := by decide +kernel
theorem dX0_empty_9 : decode cX0_empty 9 = .ok (.getfield 42, 3) := by decide +kernel
theorem dX0_empty_12 : decode cX0_empty 12 = .ok (.iconst (-1), 1) := by decide +kernel
theorem dX0_empty_13 : decode cX0_empty 13 = .ok (.invokestatic 52, 3) := by decide +kernel
theorem dX0_empty_16 : decode cX0_empty 16 = .ok (.aload_n 0, 1) := by decide +kernel
theorem dX0_empty_17 : decode cX0_empty 17 = .ok (.getfield 36, 3) := by decide +kernel
theorem dX0_empty_20 : decode cX0_empty 20 = .ok (.iconst 0, 1) := by decide +kernel
theorem dX0_empty_21 : decode cX0_empty 21 = .ok (.iconst 0, 1) := by decide +kernel
theorem dX0_empty_22 : decode cX0_empty 22 = .ok (.iastore, 1) := by decide +kernel
theorem dX0_empty_23 : decode cX0_empty 23 = .ok (.aload_n 0, 1) := by decide +kernel
theorem dX0_empty_24 : decode cX0_empty 24 = .ok (.iconst 0, 1) := by decide +kernel
theorem dX0_empty_25 : decode cX0_empty 25 = .ok (.putfield 58, 3) := by decide +kernel
theorem dX0_empty_28 : decode cX0_empty 28 = .ok (.aload_n 0, 1) := by decide +kernel
theorem dX0_empty_29 : decode cX0_empty 29 = .ok (.iconst (-1), 1) := by decide +kernel
theorem dX0_empty_30 : decode cX0_empty 30 = .ok (.putfield 48, 3) := by decide +kernel
theorem dX0_empty_33 : decode cX0_empty 33 = .ok (.return_, 1) := by decide +kernel
theorem dX0_greaterLoud_0 : decode cX0_greaterLoud 0 = .ok (.aload_n 0, 1) := by decide +kernel
theorem dX0_greaterLoud_1 : decode cX0_greaterLoud 1 = .ok (.getfield 27, 3) := by decide +kernel
theorem dX0_greaterLoud_4 : decode cX0_greaterLoud 4 = .ok (.iload_n 1, 1) := by decide +kernel
theorem dX0_greaterLoud_5 : decode cX0_greaterLoud 5 = .ok (.iconst 4, 1) := by decide +kernel
theorem dX0_greaterLoud_6 : decode cX0_greaterLoud 6 = .ok (.imul, 1) := by decide +kernel
theorem dX0_greaterLoud_7 : decode cX0_greaterLoud 7 = .ok (.iconst 2, 1) := by decide +kernel
theorem dX0_greaterLoud_8 : decode cX0_greaterLoud 8 = .ok (.iadd, 1) := by decide +kernel
theorem dX0_greaterLoud_9 : decode cX0_greaterLoud 9 = .ok (.iaload, 1) := by decide +kernel
theorem dX0_greaterLoud_10 : decode cX0_greaterLoud 10 = .ok (.aload_n 0, 1) := by decide +kernel
theorem dX0_greaterLoud_11 : decode cX0_greaterLoud 11 = .ok (.getfield 27, 3) := by decide +kernel
theorem dX0_greaterLoud_14 : decode cX0_greaterLoud 14 = .ok (.iload_n 2, 1) := by decide +kernel
theorem dX0_greaterLoud_15 : decode cX0_greaterLoud 15 = .ok (.iconst 4, 1) := by decide +kernel
theorem dX0_greaterLoud_16 : decode cX0_greaterLoud 16 = .ok (.imul, 1) := by decide +kernel
theorem dX0_greaterLoud_17 : decode cX0_greaterLoud 17 = .ok (.iconst 2, 1) := by decide +kernel
theorem dX0_greaterLoud_18 : decode cX0_greaterLoud 18 = .ok (.iadd, 1) := by decide +kernel
theorem dX0_greaterLoud_19 : decode cX0_greaterLoud 19 = .ok (.iaload, 1) := by decide +kernel
theorem dX0_greaterLoud_20 : decode cX0_greaterLoud 20 = .ok (.invokestatic 81, 3) := by decide +kernel
theorem dX0_greaterLoud_23 : decode cX0_greaterLoud 23 = .ok (.ireturn, 1) := by decide +kernel
theorem dX0_hearThrough_0 : decode cX0_hearThrough 0 = .ok (.iconst 0, 1) := by decide +kernel
theorem dX0_hearThrough_1 : decode cX0_hearThrough 1 = .ok (.istore_n 2, 1) := by decide +kernel
theorem dX0_hearThrough_2 : decode cX0_hearThrough 2 = .ok (.iload_n 2, 1) := by decide +kernel
theorem dX0_hearThrough_3 : decode cX0_hearThrough 3 = .ok (.aload_n 0, 1) := by decide +kernel
theorem dX0_hearThrough_4 : decode cX0_hearThrough 4 = .ok (.getfield 9, 3) := by decide +kernel
theorem dX0_hearThrough_7 : decode cX0_hearThrough 7 = .ok (.iconst 0, 1) := by decide +kernel
theorem dX0_hearThrough_8 : decode cX0_hearThrough 8 = .ok (.iaload, 1) := by decide +kernel
theorem dX0_hearThrough_9 : decode cX0_hearThrough 9 = .ok (.if_icmp .ge 95, 3) := by decide +kernel
theorem dX0_hearThrough_12 : decode cX0_hearThrough 12 = .ok (.aload_n 0, 1) := by decide +kernel
theorem dX0_hearThrough_13 : decode cX0_hearThrough 13 = .ok (.getfield 45, 3) := by decide +kernel
theorem dX0_hearThrough_16 : decode cX0_hearThrough 16 = .ok (.iload_n 2, 1) := by decide +kernel
theorem dX0_hearThrough_17 : decode cX0_hearThrough 17 = .ok (.bipush 10, 2) := by decide +kernel
theorem dX0_hearThrough_19 : decode cX0_hearThrough 19 = .ok (.imul, 1) := by decide +kernel
theorem dX0_hearThrough_20 : decode cX0_hearThrough 20 = .ok (.iload_n 1, 1) := by decide +kernel
theorem dX0_hearThrough_21 : decode cX0_hearThrough 21 = .ok (.iadd, 1) := by decide +kernel
theorem dX0_hearThrough_22 : decode cX0_hearThrough 22 = .ok (.iaload, 1) := by decide +kernel
theorem dX0_hearThrough_23 : decode cX0_hearThrough 23 = .ok (.istore_n 3, 1) := by decide +kernel
theorem dX0_hearThrough_24 : decode cX0_hearThrough 24 = .ok (.iconst 0, 1) := by decide +kernel
theorem dX0_hearThrough_25 : decode cX0_hearThrough 25 = .ok (.istore 4, 2) := by decide +kernel
theorem dX0_hearThrough_27 : decode cX0_hearThrough 27 = .ok (.iload_n 3, 1) := by decide +kernel
theorem dX0_hearThrough_28 : decode cX0_hearThrough 28 = .ok (.sipush 999, 3) := by decide +kernel
theorem dX0_hearThrough_31 : decode cX0_hearThrough 31 = .ok (.if_icmp .ge 67, 3) := by decide +kernel
theorem dX0_hearThrough_34 : decode cX0_hearThrough 34 = .ok (.iload 4, 2) := by decide +kernel
theorem dX0_hearThrough_36 : decode cX0_hearThrough 36 = .ok (.aload_n 0, 1) := by decide +kernel
theorem dX0_hearThrough_37 : decode cX0_hearThrough 37 = .ok (.getfield 9, 3) := by decide +kernel
theorem dX0_hearThrough_40 : decode cX0_hearThrough 40 = .ok (.iconst 0, 1) := by decide +kernel
theorem dX0_hearThrough_41 : decode cX0_hearThrough 41 = .ok (.iaload, 1) := by decide +kernel
theorem dX0_hearThrough_42 : decode cX0_hearThrough 42 = .ok (.if_icmp .ge 56, 3) := by decide +kernel
theorem dX0_hearThrough_45 : decode cX0_hearThrough 45 = .ok (.iload_n 3, 1) := by decide +kernel
theorem dX0_hearThrough_46 : decode cX0_hearThrough 46 = .ok (.aload_n 0, 1) := by decide +kernel
theorem dX0_hearThrough_47 : decode cX0_hearThrough 47 = .ok (.getfield 45, 3) := by decide +kernel
theorem dX0_hearThrough_50 : decode cX0_hearThrough 50 = .ok (.iload_n 1, 1) := by decide +kernel
theorem dX0_hearThrough_51 : decode cX0_hearThrough 51 = .ok (.bipush 10, 2) := by decide +kernel
theorem dX0_hearThrough_53 : decode cX0_hearThrough 53 = .ok (.imul, 1) := by decide +kernel
theorem dX0_hearThrough_54 : decode cX0_hearThrough 54 = .ok (.iload 4, 2) := by decide +kernel
theorem dX0_hearThrough_56 : decode cX0_hearThrough 56 = .ok (.iadd, 1) := by decide +kernel
theorem dX0_hearThrough_57 : decode cX0_hearThrough 57 = .ok (.iaload, 1) := by decide +kernel
theorem dX0_hearThrough_58 : decode cX0_hearThrough 58 = .ok (.iadd, 1) := by decide +kernel
theorem dX0_hearThrough_59 : decode cX0_hearThrough 59 = .ok (.istore 5, 2) := by decide +kernel
theorem dX0_hearThrough_61 : decode cX0_hearThrough 61 = .ok (.iload 5, 2) := by decide +kernel
theorem dX0_hearThrough_63 : decode cX0_hearThrough 63 = .ok (.aload_n 0, 1) := by decide +kernel
theorem dX0_hearThrough_64 : decode cX0_hearThrough 64 = .ok (.getfield 45, 3) := by decide +kernel
theorem dX0_hearThrough_67 : decode cX0_hearThrough 67 = .ok (.iload_n 2, 1) := by decide +kernel
theorem dX0_hearThrough_68 : decode cX0_hearThrough 68 = .ok (.bipush 10, 2) := by decide +kernel
theorem dX0_hearThrough_70 : decode cX0_hearThrough 70 = .ok (.imul, 1) := by decide +kernel
theorem dX0_hearThrough_71 : decode cX0_hearThrough 71 = .ok (.iload 4, 2) := by decide +kernel
theorem dX0_hearThrough_73 : decode cX0_hearThrough 73 = .ok (.iadd, 1) := by decide +kernel
theorem dX0_hearThrough_74 : decode cX0_hearThrough 74 = .ok (.iaload, 1) := by decide +kernel
theorem dX0_hearThrough_75 : decode cX0_hearThrough 75 = .ok (.if_icmp .ge 17, 3) := by decide +kernel
theorem dX0_hearThrough_78 : decode cX0_hearThrough 78 = .ok (.aload_n 0, 1) := by decide +kernel
theorem dX0_hearThrough_79 : decode cX0_hearThrough 79 = .ok (.getfield 45, 3) := by decide +kernel
theorem dX0_hearThrough_82 : decode cX0_hearThrough 82 = .ok (.iload_n 2, 1) := by decide +kernel
theorem dX0_hearThrough_83 : decode cX0_hearThrough 83 = .ok (.bipush 10, 2) := by decide +kernel
theorem dX0_hearThrough_85 : decode cX0_hearThrough 85 = .ok (.imul, 1) := by decide +kernel
theorem dX0_hearThrough_86 : decode cX0_hearThrough 86 = .ok (.iload 4, 2) := by decide +kernel
theorem dX0_hearThrough_88 : decode cX0_hearThrough 88 = .ok (.iadd, 1) := by decide +kernel
theorem dX0_hearThrough_89 : decode cX0_hearThrough 89 = .ok (.iload 5, 2) := by decide +kernel
theorem dX0_hearThrough_91 : decode cX0_hearThrough 91 = .ok (.iastore, 1) := by decide +kernel
theorem dX0_hearThrough_92 : decode cX0_hearThrough 92 = .ok (.iinc 4 1, 3) := by decide +kernel
theorem dX0_hearThrough_95 : decode cX0_hearThrough 95 = .ok (.goto (-68), 3) := by decide +kernel
theorem dX0_hearThrough_98 : decode cX0_hearThrough 98 = .ok (.iinc 2 1, 3) := by decide +kernel
theorem dX0_hearThrough_101 : decode cX0_hearThrough 101 = .ok (.goto (-99), 3) := by decide +kernel
theorem dX0_hearThrough_104 : decode cX0_hearThrough 104 = .ok (.return_, 1) := by decide +kernel
theorem dX0_init_0 : decode cX0_init 0 = .ok (.aload_n 0, 1) := by decide +kernel
theorem dX0_init_1 : decode cX0_init 1 = .ok (.invokespecial 3, 3) := by decide +kernel
theorem dX0_init_4 : decode cX0_init 4 = .ok (.aload_n 0, 1) := by decide +kernel
theorem dX0_init_5 : decode cX0_init 5 = .ok (.iconst 5, 1) := by decide +kernel
theorem dX0_init_6 : decode cX0_init 6 = .ok (.newarray .int, 2) := by decide +kernel
theorem dX0_init_8 : decode cX0_init 8 = .ok (.putfield 9, 3) := by decide +kernel
theorem dX0_init_11 : decode cX0_init 11 = .ok (.aload_n 0, 1) := by decide +kernel
theorem dX0_init_12 : decode cX0_init 12 = .ok (.bipush 60, 2) := by decide +kernel
theorem dX0_init_14 : decode cX0_init 14 = .ok (.newarray .int, 2) := by decide +kernel
theorem dX0_init_16 : decode cX0_init 16 = .ok (.putfield 15, 3) := by decide +kernel
theorem dX0_init_19 : decode cX0_init 19 = .ok (.aload_n 0, 1) := by decide +kernel
theorem dX0_init_20 : decode cX0_init 20 = .ok (.bipush 24, 2) := by decide +kernel
theorem dX0_init_22 : decode cX0_init 22 = .ok (.newarray .int, 2) := by decide +kernel
theorem dX0_init_24 : decode cX0_init 24 = .ok (.putfield 18, 3) := by decide +kernel
theorem dX0_init_27 : decode cX0_init 27 = .ok (.aload_n 0, 1) := by decide +kernel
theorem dX0_init_28 : decode cX0_init 28 = .ok (.bipush 10, 2) := by decide +kernel
theorem dX0_init_30 : decode cX0_init 30 = .ok (.newarray .int, 2) := by decide +kernel
theorem dX0_init_32 : decode cX0_init 32 = .ok (.putfield 21, 3) := by decide +kernel
theorem dX0_init_35 : decode cX0_init 35 = .ok (.aload_n 0, 1) := by decide +kernel
theorem dX0_init_36 : decode cX0_init 36 = .ok (.bipush 64, 2) := by decide +kernel
theorem dX0_init_38 : decode cX0_init 38 = .ok (.newarray .int, 2) := by decide +kernel
theorem dX0_init_40 : decode cX0_init 40 = .ok (.putfield 24, 3) := by decide +kernel
theorem dX0_init_43 : decode cX0_init 43 = .ok (.aload_n 0, 1) := by decide +kernel
theorem dX0_init_44 : decode cX0_init 44 = .ok (.bipush 16, 2) := by decide +kernel
theorem dX0_init_46 : decode cX0_init 46 = .ok (.newarray .int, 2) := by decide +kernel
theorem dX0_init_48 : decode cX0_init 48 = .ok (.putfield 27, 3) := by decide +kernel
theorem dX0_init_51 : decode cX0_init 51 = .ok (.aload_n 0, 1) := by decide +kernel
theorem dX0_init_52 : decode cX0_init 52 = .ok (.bipush 40, 2) := by decide +kernel
theorem dX0_init_54 : decode cX0_init 54 = .ok (.newarray .int, 2) := by decide +kernel
theorem dX0_init_56 : decode cX0_init 56 = .ok (.putfield 30, 3) := by decide +kernel
theorem dX0_init_59 : decode cX0_init 59 = .ok (.aload_n 0, 1) := by decide +kernel
theorem dX0_init_60 : decode cX0_init 60 = .ok (.sipush 1600, 3) := by decide +kernel
theorem dX0_init_63 : decode cX0_init 63 = .ok (.newarray .int, 2) := by decide +kernel
theorem dX0_init_65 : decode cX0_init 65 = .ok (.putfield 33, 3) := by decide +kernel
theorem dX0_init_68 : decode cX0_init 68 = .ok (.aload_n 0, 1) := by decide +kernel
theorem dX0_init_69 : decode cX0_init 69 = .ok (.bipush 7, 2) := by decide +kernel
theorem dX0_init_71 : decode cX0_init 71 = .ok (.newarray .int, 2) := by decide +kernel
theorem dX0_init_73 : decode cX0_init 73 = .ok (.putfield 36, 3) := by decide +kernel
theorem dX0_init_76 : decode cX0_init 76 = .ok (.aload_n 0, 1) := by decide +kernel
theorem dX0_init_77 : decode cX0_init 77 = .ok (.bipush 6, 2) := by decide +kernel
theorem dX0_init_79 : decode cX0_init 79 = .ok (.newarray .int, 2) := by decide +kernel
theorem dX0_init_81 : decode cX0_init 81 = .ok (.putfield 39, 3) := by decide +kernel
theorem dX0_init_84 : decode cX0_init 84 = .ok (.aload_n 0, 1) := by decide +kernel
theorem dX0_init_85 : decode cX0_init 85 = .ok (.bipush 100, 2) := by decide +kernel
theorem dX0_init_87 : decode cX0_init 87 = .ok (.newarray .int, 2) := by decide +kernel
theorem dX0_init_89 : decode cX0_init 89 = .ok (.putfield 42, 3) := by decide +kernel
theorem dX0_init_92 : decode cX0_init 92 = .ok (.aload_n 0, 1) := by decide +kernel
theorem dX0_init_93 : decode cX0_init 93 = .ok (.bipush 100, 2) := by decide +kernel
theorem dX0_init_95 : decode cX0_init 95 = .ok (.newarray .int, 2) := by decide +kernel
theorem dX0_init_97 : decode cX0_init 97 = .ok (.putfield 45, 3) := by decide +kernel
theorem dX0_init_100 : decode cX0_init 100 = .ok (.aload_n 0, 1) := by decide +kernel
theorem dX0_init_101 : decode cX0_init 101 = .ok (.iconst (-1), 1) := by decide +kernel
theorem dX0_init_102 : decode cX0_init 102 = .ok (.putfield 48, 3) := by decide +kernel
theorem dX0_init_105 : decode cX0_init 105 = .ok (.return_, 1) := by decide +kernel
theorem dX0_lastPetals_0 : decode cX0_lastPetals 0 = .ok (.iload_n 2, 1) := by decide +kernel
theorem dX0_lastPetals_1 : decode cX0_lastPetals 1 = .ok (.aload_n 0, 1) := by decide +kernel
theorem dX0_lastPetals_2 : decode cX0_lastPetals 2 = .ok (.getfield 27, 3) := by decide +kernel
theorem dX0_lastPetals_5 : decode cX0_lastPetals 5 = .ok (.iload_n 1, 1) := by decide +kernel
theorem dX0_lastPetals_6 : decode cX0_lastPetals 6 = .ok (.iconst 4, 1) := by decide +kernel
theorem dX0_lastPetals_7 : decode cX0_lastPetals 7 = .ok (.imul, 1) := by decide +kernel
theorem dX0_lastPetals_8 : decode cX0_lastPetals 8 = .ok (.iconst 3, 1) := by decide +kernel
theorem dX0_lastPetals_9 : decode cX0_lastPetals 9 = .ok (.iadd, 1) := by decide +kernel
theorem dX0_lastPetals_10 : decode cX0_lastPetals 10 = .ok (.iaload, 1) := by decide +kernel
theorem dX0_lastPetals_11 : decode cX0_lastPetals 11 = .ok (.iadd, 1) := by decide +kernel
theorem dX0_lastPetals_12 : decode cX0_lastPetals 12 = .ok (.iconst 1, 1) := by decide +kernel
theorem dX0_lastPetals_13 : decode cX0_lastPetals 13 = .ok (.isub, 1) := by decide +kernel
theorem dX0_lastPetals_14 : decode cX0_lastPetals 14 = .ok (.istore_n 3, 1) := by decide +kernel
theorem dX0_lastPetals_15 : decode cX0_lastPetals 15 = .ok (.iload_n 2, 1) := by decide +kernel
theorem dX0_lastPetals_16 : decode cX0_lastPetals 16 = .ok (.aload_n 0, 1) := by decide +kernel
theorem dX0_lastPetals_17 : decode cX0_lastPetals 17 = .ok (.getfield 48, 3) := by decide +kernel
theorem dX0_lastPetals_20 : decode cX0_lastPetals 20 = .ok (.if_icmp .ge 16, 3) := by decide +kernel
theorem dX0_lastPetals_23 : decode cX0_lastPetals 23 = .ok (.iload_n 3, 1) := by decide +kernel
theorem dX0_lastPetals_24 : decode cX0_lastPetals 24 = .ok (.aload_n 0, 1) := by decide +kernel
theorem dX0_lastPetals_25 : decode cX0_lastPetals 25 = .ok (.getfield 48, 3) := by decide +kernel
theorem dX0_lastPetals_28 : decode cX0_lastPetals 28 = .ok (.iconst 1, 1) := by decide +kernel
theorem dX0_lastPetals_29 : decode cX0_lastPetals 29 = .ok (.isub, 1) := by decide +kernel
theorem dX0_lastPetals_30 : decode cX0_lastPetals 30 = .ok (.invokestatic 65, 3) := by decide +kernel
theorem dX0_lastPetals_33 : decode cX0_lastPetals 33 = .ok (.goto 4, 3) := by decide +kernel
theorem dX0_lastPetals_36 : decode cX0_lastPetals 36 = .ok (.iload_n 3, 1) := by decide +kernel
theorem dX0_lastPetals_37 : decode cX0_lastPetals 37 = .ok (.ireturn, 1) := by decide +kernel
theorem dX0_minutesOf_0 : decode cX0_minutesOf 0 = .ok (.aload_n 0, 1) := by decide +kernel
theorem dX0_minutesOf_1 : decode cX0_minutesOf 1 = .ok (.getfield 24, 3) := by decide +kernel
theorem dX0_minutesOf_4 : decode cX0_minutesOf 4 = .ok (.iload_n 2, 1) := by decide +kernel
theorem dX0_minutesOf_5 : decode cX0_minutesOf 5 = .ok (.iconst 4, 1) := by decide +kernel
theorem dX0_minutesOf_6 : decode cX0_minutesOf 6 = .ok (.imul, 1) := by decide +kernel
theorem dX0_minutesOf_7 : decode cX0_minutesOf 7 = .ok (.iconst 2, 1) := by decide +kernel
theorem dX0_minutesOf_8 : decode cX0_minutesOf 8 = .ok (.iadd, 1) := by decide +kernel
theorem dX0_minutesOf_9 : decode cX0_minutesOf 9 = .ok (.iaload, 1) := by decide +kernel
theorem dX0_minutesOf_10 : decode cX0_minutesOf 10 = .ok (.aload_n 0, 1) := by decide +kernel
theorem dX0_minutesOf_11 : decode cX0_minutesOf 11 = .ok (.getfield 27, 3) := by decide +kernel
theorem dX0_minutesOf_14 : decode cX0_minutesOf 14 = .ok (.iload_n 1, 1) := by decide +kernel
theorem dX0_minutesOf_15 : decode cX0_minutesOf 15 = .ok (.iconst 4, 1) := by decide +kernel
theorem dX0_minutesOf_16 : decode cX0_minutesOf 16 = .ok (.imul, 1) := by decide +kernel
theorem dX0_minutesOf_17 : decode cX0_minutesOf 17 = .ok (.iconst 1, 1) := by decide +kernel
theorem dX0_minutesOf_18 : decode cX0_minutesOf 18 = .ok (.iadd, 1) := by decide +kernel
theorem dX0_minutesOf_19 : decode cX0_minutesOf 19 = .ok (.iaload, 1) := by decide +kernel
theorem dX0_minutesOf_20 : decode cX0_minutesOf 20 = .ok (.imul, 1) := by decide +kernel
theorem dX0_minutesOf_21 : decode cX0_minutesOf 21 = .ok (.ireturn, 1) := by decide +kernel
theorem dX0_petalsOf_0 : decode cX0_petalsOf 0 = .ok (.iconst 0, 1) := by decide +kernel
theorem dX0_petalsOf_1 : decode cX0_petalsOf 1 = .ok (.istore 5, 2) := by decide +kernel
theorem dX0_petalsOf_3 : decode cX0_petalsOf 3 = .ok (.iconst 1, 1) := by decide +kernel
theorem dX0_petalsOf_4 : decode cX0_petalsOf 4 = .ok (.istore 6, 2) := by decide +kernel
theorem dX0_petalsOf_6 : decode cX0_petalsOf 6 = .ok (.iload 6, 2) := by decide +kernel
theorem dX0_petalsOf_8 : decode cX0_petalsOf 8 = .ok (.aload_n 2, 1) := by decide +kernel
theorem dX0_petalsOf_9 : decode cX0_petalsOf 9 = .ok (.getfield 84, 3) := by decide +kernel
theorem dX0_petalsOf_12 : decode cX0_petalsOf 12 = .ok (.if_icmp .ge 53, 3) := by decide +kernel
theorem dX0_petalsOf_15 : decode cX0_petalsOf 15 = .ok (.aload_n 2, 1) := by decide +kernel
theorem dX0_petalsOf_16 : decode cX0_petalsOf 16 = .ok (.getfield 89, 3) := by decide +kernel
theorem dX0_petalsOf_19 : decode cX0_petalsOf 19 = .ok (.iload 6, 2) := by decide +kernel
theorem dX0_petalsOf_21 : decode cX0_petalsOf 21 = .ok (.iaload, 1) := by decide +kernel
theorem dX0_petalsOf_22 : decode cX0_petalsOf 22 = .ok (.iload_n 3, 1) := by decide +kernel
theorem dX0_petalsOf_23 : decode cX0_petalsOf 23 = .ok (.iadd, 1) := by decide +kernel
theorem dX0_petalsOf_24 : decode cX0_petalsOf 24 = .ok (.istore 7, 2) := by decide +kernel
theorem dX0_petalsOf_26 : decode cX0_petalsOf 26 = .ok (.iload 7, 2) := by decide +kernel
theorem dX0_petalsOf_28 : decode cX0_petalsOf 28 = .ok (.iload 4, 2) := by decide +kernel
theorem dX0_petalsOf_30 : decode cX0_petalsOf 30 = .ok (.if_icmp .gt 29, 3) := by decide +kernel
theorem dX0_petalsOf_33 : decode cX0_petalsOf 33 = .ok (.iload 4, 2) := by decide +kernel
theorem dX0_petalsOf_35 : decode cX0_petalsOf 35 = .ok (.aload_n 0, 1) := by decide +kernel
theorem dX0_petalsOf_36 : decode cX0_petalsOf 36 = .ok (.iload_n 1, 1) := by decide +kernel
theorem dX0_petalsOf_37 : decode cX0_petalsOf 37 = .ok (.iload 7, 2) := by decide +kernel
theorem dX0_petalsOf_39 : decode cX0_petalsOf 39 = .ok (.invokevirtual 92, 3) := by decide +kernel
theorem dX0_petalsOf_42 : decode cX0_petalsOf 42 = .ok (.if_icmp .gt 17, 3) := by decide +kernel
theorem dX0_petalsOf_45 : decode cX0_petalsOf 45 = .ok (.iload 5, 2) := by decide +kernel
theorem dX0_petalsOf_47 : decode cX0_petalsOf 47 = .ok (.iconst 1, 1) := by decide +kernel
theorem dX0_petalsOf_48 : decode cX0_petalsOf 48 = .ok (.aload_n 2, 1) := by decide +kernel
theorem dX0_petalsOf_49 : decode cX0_petalsOf 49 = .ok (.getfield 95, 3) := by decide +kernel
theorem dX0_petalsOf_52 : decode cX0_petalsOf 52 = .ok (.iload 6, 2) := by decide +kernel
theorem dX0_petalsOf_54 : decode cX0_petalsOf 54 = .ok (.iaload, 1) := by decide +kernel
theorem dX0_petalsOf_55 : decode cX0_petalsOf 55 = .ok (.ishl, 1) := by decide +kernel
theorem dX0_petalsOf_56 : decode cX0_petalsOf 56 = .ok (.ior, 1) := by decide +kernel
theorem dX0_petalsOf_57 : decode cX0_petalsOf 57 = .ok (.istore 5, 2) := by decide +kernel
theorem dX0_petalsOf_59 : decode cX0_petalsOf 59 = .ok (.iinc 6 1, 3) := by decide +kernel
theorem dX0_petalsOf_62 : decode cX0_petalsOf 62 = .ok (.goto (-56), 3) := by decide +kernel
theorem dX0_petalsOf_65 : decode cX0_petalsOf 65 = .ok (.iload 5, 2) := by decide +kernel
theorem dX0_petalsOf_67 : decode cX0_petalsOf 67 = .ok (.ireturn, 1) := by decide +kernel
theorem dX0_settle_0 : decode cX0_settle 0 = .ok (.aload_n 0, 1) := by decide +kernel
theorem dX0_settle_1 : decode cX0_settle 1 = .ok (.getfield 45, 3) := by decide +kernel
theorem dX0_settle_4 : decode cX0_settle 4 = .ok (.sipush 999, 3) := by decide +kernel
theorem dX0_settle_7 : decode cX0_settle 7 = .ok (.invokestatic 52, 3) := by decide +kernel
theorem dX0_settle_10 : decode cX0_settle 10 = .ok (.iconst 0, 1) := by decide +kernel
theorem dX0_settle_11 : decode cX0_settle 11 = .ok (.istore_n 1, 1) := by decide +kernel
theorem dX0_settle_12 : decode cX0_settle 12 = .ok (.iload_n 1, 1) := by decide +kernel
theorem dX0_settle_13 : decode cX0_settle 13 = .ok (.aload_n 0, 1) := by decide +kernel
theorem dX0_settle_14 : decode cX0_settle 14 = .ok (.getfield 9, 3) := by decide +kernel
theorem dX0_settle_17 : decode cX0_settle 17 = .ok (.iconst 0, 1) := by decide +kernel
theorem dX0_settle_18 : decode cX0_settle 18 = .ok (.iaload, 1) := by decide +kernel
theorem dX0_settle_19 : decode cX0_settle 19 = .ok (.if_icmp .ge 38, 3) := by decide +kernel
theorem dX0_settle_22 : decode cX0_settle 22 = .ok (.aload_n 0, 1) := by decide +kernel
theorem dX0_settle_23 : decode cX0_settle 23 = .ok (.getfield 45, 3) := by decide +kernel
theorem dX0_settle_26 : decode cX0_settle 26 = .ok (.iload_n 1, 1) := by decide +kernel
theorem dX0_settle_27 : decode cX0_settle 27 = .ok (.bipush 10, 2) := by decide +kernel
theorem dX0_settle_29 : decode cX0_settle 29 = .ok (.imul, 1) := by decide +kernel
theorem dX0_settle_30 : decode cX0_settle 30 = .ok (.iload_n 1, 1) := by decide +kernel
theorem dX0_settle_31 : decode cX0_settle 31 = .ok (.iadd, 1) := by decide +kernel
theorem dX0_settle_32 : decode cX0_settle 32 = .ok (.iconst 0, 1) := by decide +kernel
theorem dX0_settle_33 : decode cX0_settle 33 = .ok (.iastore, 1) := by decide +kernel
theorem dX0_settle_34 : decode cX0_settle 34 = .ok (.aload_n 0, 1) := by decide +kernel
theorem dX0_settle_35 : decode cX0_settle 35 = .ok (.dup, 1) := by decide +kernel
theorem dX0_settle_36 : decode cX0_settle 36 = .ok (.getfield 58, 3) := by decide +kernel
theorem dX0_settle_39 : decode cX0_settle 39 = .ok (.iconst 1, 1) := by decide +kernel
theorem dX0_settle_40 : decode cX0_settle 40 = .ok (.aload_n 0, 1) := by decide +kernel
theorem dX0_settle_41 : decode cX0_settle 41 = .ok (.getfield 21, 3) := by decide +kernel
theorem dX0_settle_44 : decode cX0_settle 44 = .ok (.iload_n 1, 1) := by decide +kernel
theorem dX0_settle_45 : decode cX0_settle 45 = .ok (.iaload, 1) := by decide +kernel
theorem dX0_settle_46 : decode cX0_settle 46 = .ok (.ishl, 1) := by decide +kernel
theorem dX0_settle_47 : decode cX0_settle 47 = .ok (.ior, 1) := by decide +kernel
theorem dX0_settle_48 : decode cX0_settle 48 = .ok (.putfield 58, 3) := by decide +kernel
theorem dX0_settle_51 : decode cX0_settle 51 = .ok (.iinc 1 1, 3) := by decide +kernel
theorem dX0_settle_54 : decode cX0_settle 54 = .ok (.goto (-42), 3) := by decide +kernel
theorem dX0_settle_57 : decode cX0_settle 57 = .ok (.iconst 0, 1) := by decide +kernel
theorem dX0_settle_58 : decode cX0_settle 58 = .ok (.istore_n 1, 1) := by decide +kernel
theorem dX0_settle_59 : decode cX0_settle 59 = .ok (.iload_n 1, 1) := by decide +kernel
theorem dX0_settle_60 : decode cX0_settle 60 = .ok (.aload_n 0, 1) := by decide +kernel
theorem dX0_settle_61 : decode cX0_settle 61 = .ok (.getfield 9, 3) := by decide +kernel
theorem dX0_settle_64 : decode cX0_settle 64 = .ok (.iconst 1, 1) := by decide +kernel
theorem dX0_settle_65 : decode cX0_settle 65 = .ok (.iaload, 1) := by decide +kernel
theorem dX0_settle_66 : decode cX0_settle 66 = .ok (.if_icmp .ge 71, 3) := by decide +kernel
theorem dX0_settle_69 : decode cX0_settle 69 = .ok (.aload_n 0, 1) := by decide +kernel
theorem dX0_settle_70 : decode cX0_settle 70 = .ok (.getfield 24, 3) := by decide +kernel
theorem dX0_settle_73 : decode cX0_settle 73 = .ok (.iload_n 1, 1) := by decide +kernel
theorem dX0_settle_74 : decode cX0_settle 74 = .ok (.iconst 4, 1) := by decide +kernel
theorem dX0_settle_75 : decode cX0_settle 75 = .ok (.imul, 1) := by decide +kernel
theorem dX0_settle_76 : decode cX0_settle 76 = .ok (.iaload, 1) := by decide +kernel
theorem dX0_settle_77 : decode cX0_settle 77 = .ok (.istore_n 2, 1) := by decide +kernel
theorem dX0_settle_78 : decode cX0_settle 78 = .ok (.aload_n 0, 1) := by decide +kernel
theorem dX0_settle_79 : decode cX0_settle 79 = .ok (.getfield 24, 3) := by decide +kernel
theorem dX0_settle_82 : decode cX0_settle 82 = .ok (.iload_n 1, 1) := by decide +kernel
theorem dX0_settle_83 : decode cX0_settle 83 = .ok (.iconst 4, 1) := by decide +kernel
theorem dX0_settle_84 : decode cX0_settle 84 = .ok (.imul, 1) := by decide +kernel
theorem dX0_settle_85 : decode cX0_settle 85 = .ok (.iconst 1, 1) := by decide +kernel
theorem dX0_settle_86 : decode cX0_settle 86 = .ok (.iadd, 1) := by decide +kernel
theorem dX0_settle_87 : decode cX0_settle 87 = .ok (.iaload, 1) := by decide +kernel
theorem dX0_settle_88 : decode cX0_settle 88 = .ok (.istore_n 3, 1) := by decide +kernel
theorem dX0_settle_89 : decode cX0_settle 89 = .ok (.aload_n 0, 1) := by decide +kernel
theorem dX0_settle_90 : decode cX0_settle 90 = .ok (.getfield 45, 3) := by decide +kernel
theorem dX0_settle_93 : decode cX0_settle 93 = .ok (.iload_n 2, 1) := by decide +kernel
theorem dX0_settle_94 : decode cX0_settle 94 = .ok (.bipush 10, 2) := by decide +kernel
theorem dX0_settle_96 : decode cX0_settle 96 = .ok (.imul, 1) := by decide +kernel
theorem dX0_settle_97 : decode cX0_settle 97 = .ok (.iload_n 3, 1) := by decide +kernel
theorem dX0_settle_98 : decode cX0_settle 98 = .ok (.iadd, 1) := by decide +kernel
theorem dX0_settle_99 : decode cX0_settle 99 = .ok (.aload_n 0, 1) := by decide +kernel
theorem dX0_settle_100 : decode cX0_settle 100 = .ok (.getfield 24, 3) := by decide +kernel
theorem dX0_settle_103 : decode cX0_settle 103 = .ok (.iload_n 1, 1) := by decide +kernel
theorem dX0_settle_104 : decode cX0_settle 104 = .ok (.iconst 4, 1) := by decide +kernel
theorem dX0_settle_105 : decode cX0_settle 105 = .ok (.imul, 1) := by decide +kernel
theorem dX0_settle_106 : decode cX0_settle 106 = .ok (.iconst 3, 1) := by decide +kernel
theorem dX0_settle_107 : decode cX0_settle 107 = .ok (.iadd, 1) := by decide +kernel
theorem dX0_settle_108 : decode cX0_settle 108 = .ok (.iaload, 1) := by decide +kernel
theorem dX0_settle_109 : decode cX0_settle 109 = .ok (.iastore, 1) := by decide +kernel
theorem dX0_settle_110 : decode cX0_settle 110 = .ok (.aload_n 0, 1) := by decide +kernel
theorem dX0_settle_111 : decode cX0_settle 111 = .ok (.getfield 45, 3) := by decide +kernel
theorem dX0_settle_114 : decode cX0_settle 114 = .ok (.iload_n 3, 1) := by decide +kernel
theorem dX0_settle_115 : decode cX0_settle 115 = .ok (.bipush 10, 2) := by decide +kernel
theorem dX0_settle_117 : decode cX0_settle 117 = .ok (.imul, 1) := by decide +kernel
theorem dX0_settle_118 : decode cX0_settle 118 = .ok (.iload_n 2, 1) := by decide +kernel
theorem dX0_settle_119 : decode cX0_settle 119 = .ok (.iadd, 1) := by decide +kernel
theorem dX0_settle_120 : decode cX0_settle 120 = .ok (.aload_n 0, 1) := by decide +kernel
theorem dX0_settle_121 : decode cX0_settle 121 = .ok (.getfield 24, 3) := by decide +kernel
theorem dX0_settle_124 : decode cX0_settle 124 = .ok (.iload_n 1, 1) := by decide +kernel
theorem dX0_settle_125 : decode cX0_settle 125 = .ok (.iconst 4, 1) := by decide +kernel
theorem dX0_settle_126 : decode cX0_settle 126 = .ok (.imul, 1) := by decide +kernel
theorem dX0_settle_127 : decode cX0_settle 127 = .ok (.iconst 3, 1) := by decide +kernel
theorem dX0_settle_128 : decode cX0_settle 128 = .ok (.iadd, 1) := by decide +kernel
theorem dX0_settle_129 : decode cX0_settle 129 = .ok (.iaload, 1) := by decide +kernel
theorem dX0_settle_130 : decode cX0_settle 130 = .ok (.iastore, 1) := by decide +kernel
theorem dX0_settle_131 : decode cX0_settle 131 = .ok (.iinc 1 1, 3) := by decide +kernel
theorem dX0_settle_134 : decode cX0_settle 134 = .ok (.goto (-75), 3) := by decide +kernel
theorem dX0_settle_137 : decode cX0_settle 137 = .ok (.iconst 0, 1) := by decide +kernel
theorem dX0_settle_138 : decode cX0_settle 138 = .ok (.istore_n 1, 1) := by decide +kernel
theorem dX0_settle_139 : decode cX0_settle 139 = .ok (.iload_n 1, 1) := by decide +kernel
theorem dX0_settle_140 : decode cX0_settle 140 = .ok (.aload_n 0, 1) := by decide +kernel
theorem dX0_settle_141 : decode cX0_settle 141 = .ok (.getfield 9, 3) := by decide +kernel
theorem dX0_settle_144 : decode cX0_settle 144 = .ok (.iconst 0, 1) := by decide +kernel
theorem dX0_settle_145 : decode cX0_settle 145 = .ok (.iaload, 1) := by decide +kernel
theorem dX0_settle_146 : decode cX0_settle 146 = .ok (.if_icmp .ge 14, 3) := by decide +kernel
theorem dX0_settle_149 : decode cX0_settle 149 = .ok (.aload_n 0, 1) := by decide +kernel
theorem dX0_settle_150 : decode cX0_settle 150 = .ok (.iload_n 1, 1) := by decide +kernel
theorem dX0_settle_151 : decode cX0_settle 151 = .ok (.invokevirtual 77, 3) := by decide +kernel
theorem dX0_settle_154 : decode cX0_settle 154 = .ok (.iinc 1 1, 3) := by decide +kernel
theorem dX0_settle_157 : decode cX0_settle 157 = .ok (.goto (-18), 3) := by decide +kernel
theorem dX0_settle_160 : decode cX0_settle 160 = .ok (.return_, 1) := by decide +kernel
theorem dX0_wordsOf_0 : decode cX0_wordsOf 0 = .ok (.iconst 0, 1) := by decide +kernel
theorem dX0_wordsOf_1 : decode cX0_wordsOf 1 = .ok (.istore_n 2, 1) := by decide +kernel
theorem dX0_wordsOf_2 : decode cX0_wordsOf 2 = .ok (.iconst 0, 1) := by decide +kernel
theorem dX0_wordsOf_3 : decode cX0_wordsOf 3 = .ok (.istore_n 3, 1) := by decide +kernel
theorem dX0_wordsOf_4 : decode cX0_wordsOf 4 = .ok (.iload_n 3, 1) := by decide +kernel
theorem dX0_wordsOf_5 : decode cX0_wordsOf 5 = .ok (.aload_n 0, 1) := by decide +kernel
theorem dX0_wordsOf_6 : decode cX0_wordsOf 6 = .ok (.getfield 9, 3) := by decide +kernel
theorem dX0_wordsOf_9 : decode cX0_wordsOf 9 = .ok (.iconst 4, 1) := by decide +kernel
theorem dX0_wordsOf_10 : decode cX0_wordsOf 10 = .ok (.iaload, 1) := by decide +kernel
theorem dX0_wordsOf_11 : decode cX0_wordsOf 11 = .ok (.if_icmp .ge 26, 3) := by decide +kernel
theorem dX0_wordsOf_14 : decode cX0_wordsOf 14 = .ok (.iload_n 1, 1) := by decide +kernel
theorem dX0_wordsOf_15 : decode cX0_wordsOf 15 = .ok (.iload_n 3, 1) := by decide +kernel
theorem dX0_wordsOf_16 : decode cX0_wordsOf 16 = .ok (.ishr, 1) := by decide +kernel
theorem dX0_wordsOf_17 : decode cX0_wordsOf 17 = .ok (.iconst 1, 1) := by decide +kernel
theorem dX0_wordsOf_18 : decode cX0_wordsOf 18 = .ok (.iand, 1) := by decide +kernel
theorem dX0_wordsOf_19 : decode cX0_wordsOf 19 = .ok (.ifCond .eq 12, 3) := by decide +kernel
theorem dX0_wordsOf_22 : decode cX0_wordsOf 22 = .ok (.iload_n 2, 1) := by decide +kernel
theorem dX0_wordsOf_23 : decode cX0_wordsOf 23 = .ok (.aload_n 0, 1) := by decide +kernel
theorem dX0_wordsOf_24 : decode cX0_wordsOf 24 = .ok (.getfield 39, 3) := by decide +kernel
theorem dX0_wordsOf_27 : decode cX0_wordsOf 27 = .ok (.iload_n 3, 1) := by decide +kernel
theorem dX0_wordsOf_28 : decode cX0_wordsOf 28 = .ok (.iaload, 1) := by decide +kernel
theorem dX0_wordsOf_29 : decode cX0_wordsOf 29 = .ok (.iadd, 1) := by decide +kernel
theorem dX0_wordsOf_30 : decode cX0_wordsOf 30 = .ok (.istore_n 2, 1) := by decide +kernel
theorem dX0_wordsOf_31 : decode cX0_wordsOf 31 = .ok (.iinc 3 1, 3) := by decide +kernel
theorem dX0_wordsOf_34 : decode cX0_wordsOf 34 = .ok (.goto (-30), 3) := by decide +kernel
theorem dX0_wordsOf_37 : decode cX0_wordsOf 37 = .ok (.iload_n 2, 1) := by decide +kernel
theorem dX0_wordsOf_38 : decode cX0_wordsOf 38 = .ok (.ireturn, 1) := by decide +kernel
theorem dX1_firstUnexcused_0 : decode cX1_firstUnexcused 0 = .ok (.aload_n 1, 1) := by decide +kernel
theorem dX1_firstUnexcused_1 : decode cX1_firstUnexcused 1 = .ok (.getfield 44, 3) := by decide +kernel
theorem dX1_firstUnexcused_4 : decode cX1_firstUnexcused 4 = .ok (.iload_n 2, 1) := by decide +kernel
theorem dX1_firstUnexcused_5 : decode cX1_firstUnexcused 5 = .ok (.iaload, 1) := by decide +kernel
theorem dX1_firstUnexcused_6 : decode cX1_firstUnexcused 6 = .ok (.istore 4, 2) := by decide +kernel
theorem dX1_firstUnexcused_8 : decode cX1_firstUnexcused 8 = .ok (.aload_n 1, 1) := by decide +kernel
theorem dX1_firstUnexcused_9 : decode cX1_firstUnexcused 9 = .ok (.getfield 47, 3) := by decide +kernel
theorem dX1_firstUnexcused_12 : decode cX1_firstUnexcused 12 = .ok (.iload_n 2, 1) := by decide +kernel
theorem dX1_firstUnexcused_13 : decode cX1_firstUnexcused 13 = .ok (.iaload, 1) := by decide +kernel
theorem dX1_firstUnexcused_14 : decode cX1_firstUnexcused 14 = .ok (.istore 5, 2) := by decide +kernel
theorem dX1_firstUnexcused_16 : decode cX1_firstUnexcused 16 = .ok (.iload 4, 2) := by decide +kernel
theorem dX1_firstUnexcused_18 : decode cX1_firstUnexcused 18 = .ok (.bipush 64, 2) := by decide +kernel
theorem dX1_firstUnexcused_20 : decode cX1_firstUnexcused 20 = .ok (.idiv, 1) := by decide +kernel
theorem dX1_firstUnexcused_21 : decode cX1_firstUnexcused 21 = .ok (.istore 6, 2) := by decide +kernel
theorem dX1_firstUnexcused_23 : decode cX1_firstUnexcused 23 = .ok (.iload 6, 2) := by decide +kernel
theorem dX1_firstUnexcused_25 : decode cX1_firstUnexcused 25 = .ok (.iload 5, 2) := by decide +kernel
theorem dX1_firstUnexcused_27 : decode cX1_firstUnexcused 27 = .ok (.bipush 64, 2) := by decide +kernel
theorem dX1_firstUnexcused_29 : decode cX1_firstUnexcused 29 = .ok (.idiv, 1) := by decide +kernel
theorem dX1_firstUnexcused_30 : decode cX1_firstUnexcused 30 = .ok (.if_icmp .gt 143, 3) := by decide +kernel
theorem dX1_firstUnexcused_33 : decode cX1_firstUnexcused 33 = .ok (.iload 6, 2) := by decide +kernel
theorem dX1_firstUnexcused_35 : decode cX1_firstUnexcused 35 = .ok (.bipush 16, 2) := by decide +kernel
theorem dX1_firstUnexcused_37 : decode cX1_firstUnexcused 37 = .ok (.if_icmp .ge 136, 3) := by decide +kernel
theorem dX1_firstUnexcused_40 : decode cX1_firstUnexcused 40 = .ok (.iload 6, 2) := by decide +kernel
theorem dX1_firstUnexcused_42 : decode cX1_firstUnexcused 42 = .ok (.iload 4, 2) := by decide +kernel
theorem dX1_firstUnexcused_44 : decode cX1_firstUnexcused 44 = .ok (.bipush 64, 2) := by decide +kernel
theorem dX1_firstUnexcused_46 : decode cX1_firstUnexcused 46 = .ok (.idiv, 1) := by decide +kernel
theorem dX1_firstUnexcused_47 : decode cX1_firstUnexcused 47 = .ok (.if_icmp .ne 15, 3) := by decide +kernel
theorem dX1_firstUnexcused_50 : decode cX1_firstUnexcused 50 = .ok (.ldc2_w 50, 3) := by decide +kernel
theorem dX1_firstUnexcused_53 : decode cX1_firstUnexcused 53 = .ok (.iload 4, 2) := by decide +kernel
theorem dX1_firstUnexcused_55 : decode cX1_firstUnexcused 55 = .ok (.bipush 64, 2) := by decide +kernel
theorem dX1_firstUnexcused_57 : decode cX1_firstUnexcused 57 = .ok (.irem, 1) := by decide +kernel
theorem dX1_firstUnexcused_58 : decode cX1_firstUnexcused 58 = .ok (.lshl, 1) := by decide +kernel
theorem dX1_firstUnexcused_59 : decode cX1_firstUnexcused 59 = .ok (.goto 6, 3) := by decide +kernel
theorem dX1_firstUnexcused_62 : decode cX1_firstUnexcused 62 = .ok (.ldc2_w 50, 3) := by decide +kernel
theorem dX1_firstUnexcused_65 : decode cX1_firstUnexcused 65 = .ok (.lstore 7, 2) := by decide +kernel
theorem dX1_firstUnexcused_67 : decode cX1_firstUnexcused 67 = .ok (.iload_n 3, 1) := by decide +kernel
theorem dX1_firstUnexcused_68 : decode cX1_firstUnexcused 68 = .ok (.ifCond .ne 7, 3) := by decide +kernel
theorem dX1_firstUnexcused_71 : decode cX1_firstUnexcused 71 = .ok (.iconst 0, 1) := by decide +kernel
theorem dX1_firstUnexcused_72 : decode cX1_firstUnexcused 72 = .ok (.goto 23, 3) := by decide +kernel
theorem dX1_firstUnexcused_75 : decode cX1_firstUnexcused 75 = .ok (.aload_n 0, 1) := by decide +kernel
theorem dX1_firstUnexcused_76 : decode cX1_firstUnexcused 76 = .ok (.aload_n 1, 1) := by decide +kernel
theorem dX1_firstUnexcused_77 : decode cX1_firstUnexcused 77 = .ok (.getfield 52, 3) := by decide +kernel
theorem dX1_firstUnexcused_80 : decode cX1_firstUnexcused 80 = .ok (.aload_n 1, 1) := by decide +kernel
theorem dX1_firstUnexcused_81 : decode cX1_firstUnexcused 81 = .ok (.getfield 55, 3) := by decide +kernel
theorem dX1_firstUnexcused_84 : decode cX1_firstUnexcused 84 = .ok (.aload_n 1, 1) := by decide +kernel
theorem dX1_firstUnexcused_85 : decode cX1_firstUnexcused 85 = .ok (.getfield 58, 3) := by decide +kernel
theorem dX1_firstUnexcused_88 : decode cX1_firstUnexcused 88 = .ok (.iload_n 2, 1) := by decide +kernel
theorem dX1_firstUnexcused_89 : decode cX1_firstUnexcused 89 = .ok (.iaload, 1) := by decide +kernel
theorem dX1_firstUnexcused_90 : decode cX1_firstUnexcused 90 = .ok (.iload 6, 2) := by decide +kernel
theorem dX1_firstUnexcused_92 : decode cX1_firstUnexcused 92 = .ok (.invokevirtual 35, 3) := by decide +kernel
theorem dX1_firstUnexcused_95 : decode cX1_firstUnexcused 95 = .ok (.istore 9, 2) := by decide +kernel
theorem dX1_firstUnexcused_97 : decode cX1_firstUnexcused 97 = .ok (.iconst 0, 1) := by decide +kernel
theorem dX1_firstUnexcused_98 : decode cX1_firstUnexcused 98 = .ok (.istore 10, 2) := by decide +kernel
theorem dX1_firstUnexcused_100 : decode cX1_firstUnexcused 100 = .ok (.iload 10, 2) := by decide +kernel
theorem dX1_firstUnexcused_102 : decode cX1_firstUnexcused 102 = .ok (.bipush 6, 2) := by decide +kernel
theorem dX1_firstUnexcused_104 : decode cX1_firstUnexcused 104 = .ok (.if_icmp .ge 37, 3) := by decide +kernel
theorem dX1_firstUnexcused_107 : decode cX1_firstUnexcused 107 = .ok (.iload_n 3, 1) := by decide +kernel
theorem dX1_firstUnexcused_108 : decode cX1_firstUnexcused 108 = .ok (.iload 10, 2) := by decide +kernel
theorem dX1_firstUnexcused_110 : decode cX1_firstUnexcused 110 = .ok (.ishr, 1) := by decide +kernel
theorem dX1_firstUnexcused_111 : decode cX1_firstUnexcused 111 = .ok (.iconst 1, 1) := by decide +kernel
theorem dX1_firstUnexcused_112 : decode cX1_firstUnexcused 112 = .ok (.iand, 1) := by decide +kernel
theorem dX1_firstUnexcused_113 : decode cX1_firstUnexcused 113 = .ok (.ifCond .eq 22, 3) := by decide +kernel
theorem dX1_firstUnexcused_116 : decode cX1_firstUnexcused 116 = .ok (.lload 7, 2) := by decide +kernel
theorem dX1_firstUnexcused_118 : decode cX1_firstUnexcused 118 = .ok (.aload_n 0, 1) := by decide +kernel
theorem dX1_firstUnexcused_119 : decode cX1_firstUnexcused 119 = .ok (.getfield 13, 3) := by decide +kernel
theorem dX1_firstUnexcused_122 : decode cX1_firstUnexcused 122 = .ok (.iload 9, 2) := by decide +kernel
theorem dX1_firstUnexcused_124 : decode cX1_firstUnexcused 124 = .ok (.iload 10, 2) := by decide +kernel
theorem dX1_firstUnexcused_126 : decode cX1_firstUnexcused 126 = .ok (.iadd, 1) := by decide +kernel
theorem dX1_firstUnexcused_127 : decode cX1_firstUnexcused 127 = .ok (.laload, 1) := by decide +kernel
theorem dX1_firstUnexcused_128 : decode cX1_firstUnexcused 128 = .ok (.ldc2_w 50, 3) := by decide +kernel
theorem dX1_firstUnexcused_131 : decode cX1_firstUnexcused 131 = .ok (.lxor, 1) := by decide +kernel
theorem dX1_firstUnexcused_132 : decode cX1_firstUnexcused 132 = .ok (.land, 1) := by decide +kernel
theorem dX1_firstUnexcused_133 : decode cX1_firstUnexcused 133 = .ok (.lstore 7, 2) := by decide +kernel
theorem dX1_firstUnexcused_135 : decode cX1_firstUnexcused 135 = .ok (.iinc 10 1, 3) := by decide +kernel
theorem dX1_firstUnexcused_138 : decode cX1_firstUnexcused 138 = .ok (.goto (-38), 3) := by decide +kernel
theorem dX1_firstUnexcused_141 : decode cX1_firstUnexcused 141 = .ok (.lload 7, 2) := by decide +kernel
theorem dX1_firstUnexcused_143 : decode cX1_firstUnexcused 143 = .ok (.lconst 0, 1) := by decide +kernel
theorem dX1_firstUnexcused_144 : decode cX1_firstUnexcused 144 = .ok (.lcmp, 1) := by decide +kernel
theorem dX1_firstUnexcused_145 : decode cX1_firstUnexcused 145 = .ok (.ifCond .eq 22, 3) := by decide +kernel
theorem dX1_firstUnexcused_148 : decode cX1_firstUnexcused 148 = .ok (.iload 6, 2) := by decide +kernel
theorem dX1_firstUnexcused_150 : decode cX1_firstUnexcused 150 = .ok (.bipush 64, 2) := by decide +kernel
theorem dX1_firstUnexcused_152 : decode cX1_firstUnexcused 152 = .ok (.imul, 1) := by decide +kernel
theorem dX1_firstUnexcused_153 : decode cX1_firstUnexcused 153 = .ok (.lload 7, 2) := by decide +kernel
theorem dX1_firstUnexcused_155 : decode cX1_firstUnexcused 155 = .ok (.invokestatic 61, 3) := by decide +kernel
theorem dX1_firstUnexcused_158 : decode cX1_firstUnexcused 158 = .ok (.iadd, 1) := by decide +kernel
theorem dX1_firstUnexcused_159 : decode cX1_firstUnexcused 159 = .ok (.iload 5, 2) := by decide +kernel
theorem dX1_firstUnexcused_161 : decode cX1_firstUnexcused 161 = .ok (.iconst 1, 1) := by decide +kernel
theorem dX1_firstUnexcused_162 : decode cX1_firstUnexcused 162 = .ok (.iadd, 1) := by decide +kernel
theorem dX1_firstUnexcused_163 : decode cX1_firstUnexcused 163 = .ok (.invokestatic 67, 3) := by decide +kernel
theorem dX1_firstUnexcused_166 : decode cX1_firstUnexcused 166 = .ok (.ireturn, 1) := by decide +kernel
theorem dX1_firstUnexcused_167 : decode cX1_firstUnexcused 167 = .ok (.iinc 6 1, 3) := by decide +kernel
theorem dX1_firstUnexcused_170 : decode cX1_firstUnexcused 170 = .ok (.goto (-147), 3) := by decide +kernel
theorem dX1_firstUnexcused_173 : decode cX1_firstUnexcused 173 = .ok (.iload 5, 2) := by decide +kernel
theorem dX1_firstUnexcused_175 : decode cX1_firstUnexcused 175 = .ok (.iconst 1, 1) := by decide +kernel
theorem dX1_firstUnexcused_176 : decode cX1_firstUnexcused 176 = .ok (.iadd, 1) := by decide +kernel
theorem dX1_firstUnexcused_177 : decode cX1_firstUnexcused 177 = .ok (.ireturn, 1) := by decide +kernel
theorem dX1_forget_0 : decode cX1_forget 0 = .ok (.aload_n 0, 1) := by decide +kernel
theorem dX1_forget_1 : decode cX1_forget 1 = .ok (.dup, 1) := by decide +kernel
theorem dX1_forget_2 : decode cX1_forget 2 = .ok (.getfield 27, 3) := by decide +kernel
theorem dX1_forget_5 : decode cX1_forget 5 = .ok (.iconst 1, 1) := by decide +kernel
theorem dX1_forget_6 : decode cX1_forget 6 = .ok (.iadd, 1) := by decide +kernel
theorem dX1_forget_7 : decode cX1_forget 7 = .ok (.putfield 27, 3) := by decide +kernel
theorem dX1_forget_10 : decode cX1_forget 10 = .ok (.return_, 1) := by decide +kernel
theorem dX1_holding_0 : decode cX1_holding 0 = .ok (.aload_n 0, 1) := by decide +kernel
theorem dX1_holding_1 : decode cX1_holding 1 = .ok (.iload_n 1, 1) := by decide +kernel
theorem dX1_holding_2 : decode cX1_holding 2 = .ok (.iload_n 2, 1) := by decide +kernel
theorem dX1_holding_3 : decode cX1_holding 3 = .ok (.iload_n 3, 1) := by decide +kernel
theorem dX1_holding_4 : decode cX1_holding 4 = .ok (.iload 4, 2) := by decide +kernel
theorem dX1_holding_6 : decode cX1_holding 6 = .ok (.bipush 64, 2) := by decide +kernel
theorem dX1_holding_8 : decode cX1_holding 8 = .ok (.idiv, 1) := by decide +kernel
theorem dX1_holding_9 : decode cX1_holding 9 = .ok (.invokevirtual 35, 3) := by decide +kernel
theorem dX1_holding_12 : decode cX1_holding 12 = .ok (.istore 5, 2) := by decide +kernel
theorem dX1_holding_14 : decode cX1_holding 14 = .ok (.iconst 0, 1) := by decide +kernel
theorem dX1_holding_15 : decode cX1_holding 15 = .ok (.istore 6, 2) := by decide +kernel
theorem dX1_holding_17 : decode cX1_holding 17 = .ok (.iconst 0, 1) := by decide +kernel
theorem dX1_holding_18 : decode cX1_holding 18 = .ok (.istore 7, 2) := by decide +kernel
theorem dX1_holding_20 : decode cX1_holding 20 = .ok (.iload 7, 2) := by decide +kernel
theorem dX1_holding_22 : decode cX1_holding 22 = .ok (.aload_n 0, 1) := by decide +kernel
theorem dX1_holding_23 : decode cX1_holding 23 = .ok (.getfield 31, 3) := by decide +kernel
theorem dX1_holding_26 : decode cX1_holding 26 = .ok (.getfield 39, 3) := by decide +kernel
theorem dX1_holding_29 : decode cX1_holding 29 = .ok (.iconst 4, 1) := by decide +kernel
theorem dX1_holding_30 : decode cX1_holding 30 = .ok (.iaload, 1) := by decide +kernel
theorem dX1_holding_31 : decode cX1_holding 31 = .ok (.if_icmp .ge 36, 3) := by decide +kernel
theorem dX1_holding_34 : decode cX1_holding 34 = .ok (.iload 6, 2) := by decide +kernel
theorem dX1_holding_36 : decode cX1_holding 36 = .ok (.aload_n 0, 1) := by decide +kernel
theorem dX1_holding_37 : decode cX1_holding 37 = .ok (.getfield 13, 3) := by decide +kernel
theorem dX1_holding_40 : decode cX1_holding 40 = .ok (.iload 5, 2) := by decide +kernel
theorem dX1_holding_42 : decode cX1_holding 42 = .ok (.iload 7, 2) := by decide +kernel
theorem dX1_holding_44 : decode cX1_holding 44 = .ok (.iadd, 1) := by decide +kernel
theorem dX1_holding_45 : decode cX1_holding 45 = .ok (.laload, 1) := by decide +kernel
theorem dX1_holding_46 : decode cX1_holding 46 = .ok (.iload 4, 2) := by decide +kernel
theorem dX1_holding_48 : decode cX1_holding 48 = .ok (.bipush 64, 2) := by decide +kernel
theorem dX1_holding_50 : decode cX1_holding 50 = .ok (.irem, 1) := by decide +kernel
theorem dX1_holding_51 : decode cX1_holding 51 = .ok (.lushr, 1) := by decide +kernel
theorem dX1_holding_52 : decode cX1_holding 52 = .ok (.lconst 1, 1) := by decide +kernel
theorem dX1_holding_53 : decode cX1_holding 53 = .ok (.land, 1) := by decide +kernel
theorem dX1_holding_54 : decode cX1_holding 54 = .ok (.l2i, 1) := by decide +kernel
theorem dX1_holding_55 : decode cX1_holding 55 = .ok (.iload 7, 2) := by decide +kernel
theorem dX1_holding_57 : decode cX1_holding 57 = .ok (.ishl, 1) := by decide +kernel
theorem dX1_holding_58 : decode cX1_holding 58 = .ok (.ior, 1) := by decide +kernel
theorem dX1_holding_59 : decode cX1_holding 59 = .ok (.istore 6, 2) := by decide +kernel
theorem dX1_holding_61 : decode cX1_holding 61 = .ok (.iinc 7 1, 3) := by decide +kernel
theorem dX1_holding_64 : decode cX1_holding 64 = .ok (.goto (-44), 3) := by decide +kernel
theorem dX1_holding_67 : decode cX1_holding 67 = .ok (.iload 6, 2) := by decide +kernel
theorem dX1_holding_69 : decode cX1_holding 69 = .ok (.ireturn, 1) := by decide +kernel
theorem dX1_holds_0 : decode cX1_holds 0 = .ok (.iconst 0, 1) := by decide +kernel
theorem dX1_holds_1 : decode cX1_holds 1 = .ok (.istore_n 2, 1) := by decide +kernel
theorem dX1_holds_2 : decode cX1_holds 2 = .ok (.aload_n 0, 1) := by decide +kernel
theorem dX1_holds_3 : decode cX1_holds 3 = .ok (.getfield 31, 3) := by decide +kernel
theorem dX1_holds_6 : decode cX1_holds 6 = .ok (.getfield 84, 3) := by decide +kernel
theorem dX1_holds_9 : decode cX1_holds 9 = .ok (.iload_n 1, 1) := by decide +kernel
theorem dX1_holds_10 : decode cX1_holds 10 = .ok (.iconst 1, 1) := by decide +kernel
theorem dX1_holds_11 : decode cX1_holds 11 = .ok (.iadd, 1) := by decide +kernel
theorem dX1_holds_12 : decode cX1_holds 12 = .ok (.iaload, 1) := by decide +kernel
theorem dX1_holds_13 : decode cX1_holds 13 = .ok (.aload_n 0, 1) := by decide +kernel
theorem dX1_holds_14 : decode cX1_holds 14 = .ok (.getfield 31, 3) := by decide +kernel
theorem dX1_holds_17 : decode cX1_holds 17 = .ok (.getfield 87, 3) := by decide +kernel
theorem dX1_holds_20 : decode cX1_holds 20 = .ok (.arraylength, 1) := by decide +kernel
theorem dX1_holds_21 : decode cX1_holds 21 = .ok (.invokestatic 67, 3) := by decide +kernel
theorem dX1_holds_24 : decode cX1_holds 24 = .ok (.istore_n 3, 1) := by decide +kernel
theorem dX1_holds_25 : decode cX1_holds 25 = .ok (.aload_n 0, 1) := by decide +kernel
theorem dX1_holds_26 : decode cX1_holds 26 = .ok (.getfield 31, 3) := by decide +kernel
theorem dX1_holds_29 : decode cX1_holds 29 = .ok (.getfield 84, 3) := by decide +kernel
theorem dX1_holds_32 : decode cX1_holds 32 = .ok (.iload_n 1, 1) := by decide +kernel
theorem dX1_holds_33 : decode cX1_holds 33 = .ok (.iaload, 1) := by decide +kernel
theorem dX1_holds_34 : decode cX1_holds 34 = .ok (.istore 4, 2) := by decide +kernel
theorem dX1_holds_36 : decode cX1_holds 36 = .ok (.iload 4, 2) := by decide +kernel
theorem dX1_holds_38 : decode cX1_holds 38 = .ok (.iload_n 3, 1) := by decide +kernel
theorem dX1_holds_39 : decode cX1_holds 39 = .ok (.if_icmp .ge 420, 3) := by decide +kernel
theorem dX1_holds_42 : decode cX1_holds 42 = .ok (.aload_n 0, 1) := by decide +kernel
theorem dX1_holds_43 : decode cX1_holds 43 = .ok (.getfield 31, 3) := by decide +kernel
theorem dX1_holds_46 : decode cX1_holds 46 = .ok (.getfield 87, 3) := by decide +kernel
theorem dX1_holds_49 : decode cX1_holds 49 = .ok (.iload 4, 2) := by decide +kernel
theorem dX1_holds_51 : decode cX1_holds 51 = .ok (.iaload, 1) := by decide +kernel
theorem dX1_holds_52 : decode cX1_holds 52 = .ok (.istore 5, 2) := by decide +kernel
theorem dX1_holds_54 : decode cX1_holds 54 = .ok (.iload 5, 2) := by decide +kernel
theorem dX1_holds_56 : decode cX1_holds 56 = .ok (.bipush (-5), 2) := by decide +kernel
theorem dX1_holds_58 : decode cX1_holds 58 = .ok (.if_icmp .lt 60, 3) := by decide +kernel
theorem dX1_holds_61 : decode cX1_holds 61 = .ok (.iload_n 2, 1) := by decide +kernel
theorem dX1_holds_62 : decode cX1_holds 62 = .ok (.bipush 64, 2) := by decide +kernel
theorem dX1_holds_64 : decode cX1_holds 64 = .ok (.if_icmp .ge 54, 3) := by decide +kernel
theorem dX1_holds_67 : decode cX1_holds 67 = .ok (.aload_n 0, 1) := by decide +kernel
theorem dX1_holds_68 : decode cX1_holds 68 = .ok (.dup, 1) := by decide +kernel
theorem dX1_holds_69 : decode cX1_holds 69 = .ok (.getfield 76, 3) := by decide +kernel
theorem dX1_holds_72 : decode cX1_holds 72 = .ok (.iload 5, 2) := by decide +kernel
theorem dX1_holds_74 : decode cX1_holds 74 = .ok (.iconst (-1), 1) := by decide +kernel
theorem dX1_holds_75 : decode cX1_holds 75 = .ok (.if_icmp .ne 7, 3) := by decide +kernel
theorem dX1_holds_78 : decode cX1_holds 78 = .ok (.iconst 1, 1) := by decide +kernel
theorem dX1_holds_79 : decode cX1_holds 79 = .ok (.goto 4, 3) := by decide +kernel
theorem dX1_holds_82 : decode cX1_holds 82 = .ok (.iconst 0, 1) := by decide +kernel
theorem dX1_holds_83 : decode cX1_holds 83 = .ok (.ior, 1) := by decide +kernel
theorem dX1_holds_84 : decode cX1_holds 84 = .ok (.putfield 76, 3) := by decide +kernel
theorem dX1_holds_87 : decode cX1_holds 87 = .ok (.aload_n 0, 1) := by decide +kernel
theorem dX1_holds_88 : decode cX1_holds 88 = .ok (.getfield 21, 3) := by decide +kernel
theorem dX1_holds_91 : decode cX1_holds 91 = .ok (.iload_n 2, 1) := by decide +kernel
theorem dX1_holds_92 : decode cX1_holds 92 = .ok (.iinc 2 1, 3) := by decide +kernel
theorem dX1_holds_95 : decode cX1_holds 95 = .ok (.iload 5, 2) := by decide +kernel
theorem dX1_holds_97 : decode cX1_holds 97 = .ok (.ifCond .lt 8, 3) := by decide +kernel
theorem dX1_holds_100 : decode cX1_holds 100 = .ok (.iload 5, 2) := by decide +kernel
theorem dX1_holds_102 : decode cX1_holds 102 = .ok (.goto 12, 3) := by decide +kernel
theorem dX1_holds_105 : decode cX1_holds 105 = .ok (.aload_n 0, 1) := by decide +kernel
theorem dX1_holds_106 : decode cX1_holds 106 = .ok (.getfield 24, 3) := by decide +kernel
theorem dX1_holds_109 : decode cX1_holds 109 = .ok (.iconst (-1), 1) := by decide +kernel
theorem dX1_holds_110 : decode cX1_holds 110 = .ok (.iload 5, 2) := by decide +kernel
theorem dX1_holds_112 : decode cX1_holds 112 = .ok (.isub, 1) := by decide +kernel
theorem dX1_holds_113 : decode cX1_holds 113 = .ok (.iaload, 1) := by decide +kernel
theorem dX1_holds_114 : decode cX1_holds 114 = .ok (.iastore, 1) := by decide +kernel
theorem dX1_holds_115 : decode cX1_holds 115 = .ok (.goto 338, 3) := by decide +kernel
theorem dX1_holds_118 : decode cX1_holds 118 = .ok (.iload 5, 2) := by decide +kernel
theorem dX1_holds_120 : decode cX1_holds 120 = .ok (.bipush (-15), 2) := by decide +kernel
theorem dX1_holds_122 : decode cX1_holds 122 = .ok (.if_icmp .ne 28, 3) := by decide +kernel
theorem dX1_holds_125 : decode cX1_holds 125 = .ok (.iload_n 2, 1) := by decide +kernel
theorem dX1_holds_126 : decode cX1_holds 126 = .ok (.ifCond .le 24, 3) := by decide +kernel
theorem dX1_holds_129 : decode cX1_holds 129 = .ok (.aload_n 0, 1) := by decide +kernel
theorem dX1_holds_130 : decode cX1_holds 130 = .ok (.getfield 21, 3) := by decide +kernel
theorem dX1_holds_133 : decode cX1_holds 133 = .ok (.iload_n 2, 1) := by decide +kernel
theorem dX1_holds_134 : decode cX1_holds 134 = .ok (.iconst 1, 1) := by decide +kernel
theorem dX1_holds_135 : decode cX1_holds 135 = .ok (.isub, 1) := by decide +kernel
theorem dX1_holds_136 : decode cX1_holds 136 = .ok (.iconst 1, 1) := by decide +kernel
theorem dX1_holds_137 : decode cX1_holds 137 = .ok (.aload_n 0, 1) := by decide +kernel
theorem dX1_holds_138 : decode cX1_holds 138 = .ok (.getfield 21, 3) := by decide +kernel
theorem dX1_holds_141 : decode cX1_holds 141 = .ok (.iload_n 2, 1) := by decide +kernel
theorem dX1_holds_142 : decode cX1_holds 142 = .ok (.iconst 1, 1) := by decide +kernel
theorem dX1_holds_143 : decode cX1_holds 143 = .ok (.isub, 1) := by decide +kernel
theorem dX1_holds_144 : decode cX1_holds 144 = .ok (.iaload, 1) := by decide +kernel
theorem dX1_holds_145 : decode cX1_holds 145 = .ok (.isub, 1) := by decide +kernel
theorem dX1_holds_146 : decode cX1_holds 146 = .ok (.iastore, 1) := by decide +kernel
theorem dX1_holds_147 : decode cX1_holds 147 = .ok (.goto 306, 3) := by decide +kernel
theorem dX1_holds_150 : decode cX1_holds 150 = .ok (.iload_n 2, 1) := by decide +kernel
theorem dX1_holds_151 : decode cX1_holds 151 = .ok (.iconst 1, 1) := by decide +kernel
theorem dX1_holds_152 : decode cX1_holds 152 = .ok (.if_icmp .le 301, 3) := by decide +kernel
theorem dX1_holds_155 : decode cX1_holds 155 = .ok (.iinc 2 (-1), 3) := by decide +kernel
theorem dX1_holds_158 : decode cX1_holds 158 = .ok (.aload_n 0, 1) := by decide +kernel
theorem dX1_holds_159 : decode cX1_holds 159 = .ok (.getfield 21, 3) := by decide +kernel
theorem dX1_holds_162 : decode cX1_holds 162 = .ok (.iload_n 2, 1) := by decide +kernel
theorem dX1_holds_163 : decode cX1_holds 163 = .ok (.iconst 1, 1) := by decide +kernel
theorem dX1_holds_164 : decode cX1_holds 164 = .ok (.isub, 1) := by decide +kernel
theorem dX1_holds_165 : decode cX1_holds 165 = .ok (.iaload, 1) := by decide +kernel
theorem dX1_holds_166 : decode cX1_holds 166 = .ok (.i2l, 1) := by decide +kernel
theorem dX1_holds_167 : decode cX1_holds 167 = .ok (.lstore 6, 2) := by decide +kernel
theorem dX1_holds_169 : decode cX1_holds 169 = .ok (.aload_n 0, 1) := by decide +kernel
theorem dX1_holds_170 : decode cX1_holds 170 = .ok (.getfield 21, 3) := by decide +kernel
theorem dX1_holds_173 : decode cX1_holds 173 = .ok (.iload_n 2, 1) := by decide +kernel
theorem dX1_holds_174 : decode cX1_holds 174 = .ok (.iaload, 1) := by decide +kernel
theorem dX1_holds_175 : decode cX1_holds 175 = .ok (.istore 8, 2) := by decide +kernel
theorem dX1_holds_177 : decode cX1_holds 177 = .ok (.iload 5, 2) := by decide +kernel
theorem dX1_holds_179 : decode cX1_holds 179 = .ok (.tableswitch 225 (-16) (-6) #[214, 225, 195, 176, 157, 135, 113, 90, 79, 68, 57], 57) := by decide +kernel
theorem dX1_holds_236 : decode cX1_holds 236 = .ok (.lload 6, 2) := by decide +kernel
theorem dX1_holds_238 : decode cX1_holds 238 = .ok (.iload 8, 2) := by decide +kernel
theorem dX1_holds_240 : decode cX1_holds 240 = .ok (.i2l, 1) := by decide +kernel
theorem dX1_holds_241 : decode cX1_holds 241 = .ok (.ladd, 1) := by decide +kernel
theorem dX1_holds_242 : decode cX1_holds 242 = .ok (.lstore 6, 2) := by decide +kernel
theorem dX1_holds_244 : decode cX1_holds 244 = .ok (.goto 168, 3) := by decide +kernel
theorem dX1_holds_247 : decode cX1_holds 247 = .ok (.lload 6, 2) := by decide +kernel
theorem dX1_holds_249 : decode cX1_holds 249 = .ok (.iload 8, 2) := by decide +kernel
theorem dX1_holds_251 : decode cX1_holds 251 = .ok (.i2l, 1) := by decide +kernel
theorem dX1_holds_252 : decode cX1_holds 252 = .ok (.lsub, 1) := by decide +kernel
theorem dX1_holds_253 : decode cX1_holds 253 = .ok (.lstore 6, 2) := by decide +kernel
theorem dX1_holds_255 : decode cX1_holds 255 = .ok (.goto 157, 3) := by decide +kernel
theorem dX1_holds_258 : decode cX1_holds 258 = .ok (.lload 6, 2) := by decide +kernel
theorem dX1_holds_260 : decode cX1_holds 260 = .ok (.iload 8, 2) := by decide +kernel
theorem dX1_holds_262 : decode cX1_holds 262 = .ok (.i2l, 1) := by decide +kernel
theorem dX1_holds_263 : decode cX1_holds 263 = .ok (.lmul, 1) := by decide +kernel
theorem dX1_holds_264 : decode cX1_holds 264 = .ok (.lstore 6, 2) := by decide +kernel
theorem dX1_holds_266 : decode cX1_holds 266 = .ok (.goto 146, 3) := by decide +kernel
theorem dX1_holds_269 : decode cX1_holds 269 = .ok (.iload 8, 2) := by decide +kernel
theorem dX1_holds_271 : decode cX1_holds 271 = .ok (.ifCond .ne 7, 3) := by decide +kernel
theorem dX1_holds_274 : decode cX1_holds 274 = .ok (.lconst 0, 1) := by decide +kernel
theorem dX1_holds_275 : decode cX1_holds 275 = .ok (.goto 12, 3) := by decide +kernel
theorem dX1_holds_278 : decode cX1_holds 278 = .ok (.lload 6, 2) := by decide +kernel
theorem dX1_holds_280 : decode cX1_holds 280 = .ok (.l2i, 1) := by decide +kernel
theorem dX1_holds_281 : decode cX1_holds 281 = .ok (.iload 8, 2) := by decide +kernel
theorem dX1_holds_283 : decode cX1_holds 283 = .ok (.invokestatic 90, 3) := by decide +kernel
theorem dX1_holds_286 : decode cX1_holds 286 = .ok (.i2l, 1) := by decide +kernel
theorem dX1_holds_287 : decode cX1_holds 287 = .ok (.lstore 6, 2) := by decide +kernel
theorem dX1_holds_289 : decode cX1_holds 289 = .ok (.goto 123, 3) := by decide +kernel
theorem dX1_holds_292 : decode cX1_holds 292 = .ok (.lload 6, 2) := by decide +kernel
theorem dX1_holds_294 : decode cX1_holds 294 = .ok (.iload 8, 2) := by decide +kernel
theorem dX1_holds_296 : decode cX1_holds 296 = .ok (.i2l, 1) := by decide +kernel
theorem dX1_holds_297 : decode cX1_holds 297 = .ok (.lcmp, 1) := by decide +kernel
theorem dX1_holds_298 : decode cX1_holds 298 = .ok (.ifCond .ge 8, 3) := by decide +kernel
theorem dX1_holds_301 : decode cX1_holds 301 = .ok (.lload 6, 2) := by decide +kernel
theorem dX1_holds_303 : decode cX1_holds 303 = .ok (.goto 6, 3) := by decide +kernel
theorem dX1_holds_306 : decode cX1_holds 306 = .ok (.iload 8, 2) := by decide +kernel
theorem dX1_holds_308 : decode cX1_holds 308 = .ok (.i2l, 1) := by decide +kernel
theorem dX1_holds_309 : decode cX1_holds 309 = .ok (.lstore 6, 2) := by decide +kernel
theorem dX1_holds_311 : decode cX1_holds 311 = .ok (.goto 101, 3) := by decide +kernel
theorem dX1_holds_314 : decode cX1_holds 314 = .ok (.lload 6, 2) := by decide +kernel
theorem dX1_holds_316 : decode cX1_holds 316 = .ok (.iload 8, 2) := by decide +kernel
theorem dX1_holds_318 : decode cX1_holds 318 = .ok (.i2l, 1) := by decide +kernel
theorem dX1_holds_319 : decode cX1_holds 319 = .ok (.lcmp, 1) := by decide +kernel
theorem dX1_holds_320 : decode cX1_holds 320 = .ok (.ifCond .le 8, 3) := by decide +kernel
theorem dX1_holds_323 : decode cX1_holds 323 = .ok (.lload 6, 2) := by decide +kernel
theorem dX1_holds_325 : decode cX1_holds 325 = .ok (.goto 6, 3) := by decide +kernel
theorem dX1_holds_328 : decode cX1_holds 328 = .ok (.iload 8, 2) := by decide +kernel
theorem dX1_holds_330 : decode cX1_holds 330 = .ok (.i2l, 1) := by decide +kernel
theorem dX1_holds_331 : decode cX1_holds 331 = .ok (.lstore 6, 2) := by decide +kernel
theorem dX1_holds_333 : decode cX1_holds 333 = .ok (.goto 79, 3) := by decide +kernel
theorem dX1_holds_336 : decode cX1_holds 336 = .ok (.lload 6, 2) := by decide +kernel
theorem dX1_holds_338 : decode cX1_holds 338 = .ok (.iload 8, 2) := by decide +kernel
theorem dX1_holds_340 : decode cX1_holds 340 = .ok (.i2l, 1) := by decide +kernel
theorem dX1_holds_341 : decode cX1_holds 341 = .ok (.lcmp, 1) := by decide +kernel
theorem dX1_holds_342 : decode cX1_holds 342 = .ok (.ifCond .ge 7, 3) := by decide +kernel
theorem dX1_holds_345 : decode cX1_holds 345 = .ok (.lconst 1, 1) := by decide +kernel
theorem dX1_holds_346 : decode cX1_holds 346 = .ok (.goto 4, 3) := by decide +kernel
theorem dX1_holds_349 : decode cX1_holds 349 = .ok (.lconst 0, 1) := by decide +kernel
theorem dX1_holds_350 : decode cX1_holds 350 = .ok (.lstore 6, 2) := by decide +kernel
theorem dX1_holds_352 : decode cX1_holds 352 = .ok (.goto 60, 3) := by decide +kernel
theorem dX1_holds_355 : decode cX1_holds 355 = .ok (.lload 6, 2) := by decide +kernel
theorem dX1_holds_357 : decode cX1_holds 357 = .ok (.iload 8, 2) := by decide +kernel
theorem dX1_holds_359 : decode cX1_holds 359 = .ok (.i2l, 1) := by decide +kernel
theorem dX1_holds_360 : decode cX1_holds 360 = .ok (.lcmp, 1) := by decide +kernel
theorem dX1_holds_361 : decode cX1_holds 361 = .ok (.ifCond .le 7, 3) := by decide +kernel
theorem dX1_holds_364 : decode cX1_holds 364 = .ok (.lconst 1, 1) := by decide +kernel
theorem dX1_holds_365 : decode cX1_holds 365 = .ok (.goto 4, 3) := by decide +kernel
theorem dX1_holds_368 : decode cX1_holds 368 = .ok (.lconst 0, 1) := by decide +kernel
theorem dX1_holds_369 : decode cX1_holds 369 = .ok (.lstore 6, 2) := by decide +kernel
theorem dX1_holds_371 : decode cX1_holds 371 = .ok (.goto 41, 3) := by decide +kernel
theorem dX1_holds_374 : decode cX1_holds 374 = .ok (.lload 6, 2) := by decide +kernel
theorem dX1_holds_376 : decode cX1_holds 376 = .ok (.iload 8, 2) := by decide +kernel
theorem dX1_holds_378 : decode cX1_holds 378 = .ok (.i2l, 1) := by decide +kernel
theorem dX1_holds_379 : decode cX1_holds 379 = .ok (.lcmp, 1) := by decide +kernel
theorem dX1_holds_380 : decode cX1_holds 380 = .ok (.ifCond .ne 7, 3) := by decide +kernel
theorem dX1_holds_383 : decode cX1_holds 383 = .ok (.lconst 1, 1) := by decide +kernel
theorem dX1_holds_384 : decode cX1_holds 384 = .ok (.goto 4, 3) := by decide +kernel
theorem dX1_holds_387 : decode cX1_holds 387 = .ok (.lconst 0, 1) := by decide +kernel
theorem dX1_holds_388 : decode cX1_holds 388 = .ok (.lstore 6, 2) := by decide +kernel
theorem dX1_holds_390 : decode cX1_holds 390 = .ok (.goto 22, 3) := by decide +kernel
theorem dX1_holds_393 : decode cX1_holds 393 = .ok (.lload 6, 2) := by decide +kernel
theorem dX1_holds_395 : decode cX1_holds 395 = .ok (.iload 8, 2) := by decide +kernel
theorem dX1_holds_397 : decode cX1_holds 397 = .ok (.i2l, 1) := by decide +kernel
theorem dX1_holds_398 : decode cX1_holds 398 = .ok (.land, 1) := by decide +kernel
theorem dX1_holds_399 : decode cX1_holds 399 = .ok (.lstore 6, 2) := by decide +kernel
theorem dX1_holds_401 : decode cX1_holds 401 = .ok (.goto 11, 3) := by decide +kernel
theorem dX1_holds_404 : decode cX1_holds 404 = .ok (.lload 6, 2) := by decide +kernel
theorem dX1_holds_406 : decode cX1_holds 406 = .ok (.iload 8, 2) := by decide +kernel
theorem dX1_holds_408 : decode cX1_holds 408 = .ok (.i2l, 1) := by decide +kernel
theorem dX1_holds_409 : decode cX1_holds 409 = .ok (.lor, 1) := by decide +kernel
theorem dX1_holds_410 : decode cX1_holds 410 = .ok (.lstore 6, 2) := by decide +kernel
theorem dX1_holds_412 : decode cX1_holds 412 = .ok (.aload_n 0, 1) := by decide +kernel
theorem dX1_holds_413 : decode cX1_holds 413 = .ok (.getfield 21, 3) := by decide +kernel
theorem dX1_holds_416 : decode cX1_holds 416 = .ok (.iload_n 2, 1) := by decide +kernel
theorem dX1_holds_417 : decode cX1_holds 417 = .ok (.iconst 1, 1) := by decide +kernel
theorem dX1_holds_418 : decode cX1_holds 418 = .ok (.isub, 1) := by decide +kernel
theorem dX1_holds_419 : decode cX1_holds 419 = .ok (.lload 6, 2) := by decide +kernel
theorem dX1_holds_421 : decode cX1_holds 421 = .ok (.ldc2_w 93, 3) := by decide +kernel
theorem dX1_holds_424 : decode cX1_holds 424 = .ok (.lcmp, 1) := by decide +kernel
theorem dX1_holds_425 : decode cX1_holds 425 = .ok (.ifCond .le 9, 3) := by decide +kernel
theorem dX1_holds_428 : decode cX1_holds 428 = .ok (.ldc2_w 93, 3) := by decide +kernel
theorem dX1_holds_431 : decode cX1_holds 431 = .ok (.goto 20, 3) := by decide +kernel
theorem dX1_holds_434 : decode cX1_holds 434 = .ok (.lload 6, 2) := by decide +kernel
theorem dX1_holds_436 : decode cX1_holds 436 = .ok (.ldc2_w 95, 3) := by decide +kernel
theorem dX1_holds_439 : decode cX1_holds 439 = .ok (.lcmp, 1) := by decide +kernel
theorem dX1_holds_440 : decode cX1_holds 440 = .ok (.ifCond .ge 9, 3) := by decide +kernel
theorem dX1_holds_443 : decode cX1_holds 443 = .ok (.ldc2_w 95, 3) := by decide +kernel
theorem dX1_holds_446 : decode cX1_holds 446 = .ok (.goto 5, 3) := by decide +kernel
theorem dX1_holds_449 : decode cX1_holds 449 = .ok (.lload 6, 2) := by decide +kernel
theorem dX1_holds_451 : decode cX1_holds 451 = .ok (.l2i, 1) := by decide +kernel
theorem dX1_holds_452 : decode cX1_holds 452 = .ok (.iastore, 1) := by decide +kernel
theorem dX1_holds_453 : decode cX1_holds 453 = .ok (.iinc 4 1, 3) := by decide +kernel
theorem dX1_holds_456 : decode cX1_holds 456 = .ok (.goto (-420), 3) := by decide +kernel
theorem dX1_holds_459 : decode cX1_holds 459 = .ok (.iload_n 2, 1) := by decide +kernel
theorem dX1_holds_460 : decode cX1_holds 460 = .ok (.ifCond .le 18, 3) := by decide +kernel
theorem dX1_holds_463 : decode cX1_holds 463 = .ok (.aload_n 0, 1) := by decide +kernel
theorem dX1_holds_464 : decode cX1_holds 464 = .ok (.getfield 21, 3) := by decide +kernel
theorem dX1_holds_467 : decode cX1_holds 467 = .ok (.iload_n 2, 1) := by decide +kernel
theorem dX1_holds_468 : decode cX1_holds 468 = .ok (.iconst 1, 1) := by decide +kernel
theorem dX1_holds_469 : decode cX1_holds 469 = .ok (.isub, 1) := by decide +kernel
theorem dX1_holds_470 : decode cX1_holds 470 = .ok (.iaload, 1) := by decide +kernel
theorem dX1_holds_471 : decode cX1_holds 471 = .ok (.ifCond .eq 7, 3) := by decide +kernel
theorem dX1_holds_474 : decode cX1_holds 474 = .ok (.iconst 1, 1) := by decide +kernel
theorem dX1_holds_475 : decode cX1_holds 475 = .ok (.goto 4, 3) := by decide +kernel
theorem dX1_holds_478 : decode cX1_holds 478 = .ok (.iconst 0, 1) := by decide +kernel
theorem dX1_holds_479 : decode cX1_holds 479 = .ok (.ireturn, 1) := by decide +kernel
theorem dX1_init_0 : decode cX1_init 0 = .ok (.aload_n 0, 1) := by decide +kernel
theorem dX1_init_1 : decode cX1_init 1 = .ok (.invokespecial 5, 3) := by decide +kernel
theorem dX1_init_4 : decode cX1_init 4 = .ok (.aload_n 0, 1) := by decide +kernel
theorem dX1_init_5 : decode cX1_init 5 = .ok (.sipush 12672, 3) := by decide +kernel
theorem dX1_init_8 : decode cX1_init 8 = .ok (.newarray .long, 2) := by decide +kernel
theorem dX1_init_10 : decode cX1_init 10 = .ok (.putfield 13, 3) := by decide +kernel
theorem dX1_init_13 : decode cX1_init 13 = .ok (.aload_n 0, 1) := by decide +kernel
theorem dX1_init_14 : decode cX1_init 14 = .ok (.sipush 2112, 3) := by decide +kernel
theorem dX1_init_17 : decode cX1_init 17 = .ok (.newarray .int, 2) := by decide +kernel
theorem dX1_init_19 : decode cX1_init 19 = .ok (.putfield 17, 3) := by decide +kernel
theorem dX1_init_22 : decode cX1_init 22 = .ok (.aload_n 0, 1) := by decide +kernel
theorem dX1_init_23 : decode cX1_init 23 = .ok (.bipush 64, 2) := by decide +kernel
theorem dX1_init_25 : decode cX1_init 25 = .ok (.newarray .int, 2) := by decide +kernel
theorem dX1_init_27 : decode cX1_init 27 = .ok (.putfield 21, 3) := by decide +kernel
theorem dX1_init_30 : decode cX1_init 30 = .ok (.aload_n 0, 1) := by decide +kernel
theorem dX1_init_31 : decode cX1_init 31 = .ok (.iconst 5, 1) := by decide +kernel
theorem dX1_init_32 : decode cX1_init 32 = .ok (.newarray .int, 2) := by decide +kernel
theorem dX1_init_34 : decode cX1_init 34 = .ok (.putfield 24, 3) := by decide +kernel
theorem dX1_init_37 : decode cX1_init 37 = .ok (.aload_n 0, 1) := by decide +kernel
theorem dX1_init_38 : decode cX1_init 38 = .ok (.iconst 1, 1) := by decide +kernel
theorem dX1_init_39 : decode cX1_init 39 = .ok (.putfield 27, 3) := by decide +kernel
theorem dX1_init_42 : decode cX1_init 42 = .ok (.aload_n 0, 1) := by decide +kernel
theorem dX1_init_43 : decode cX1_init 43 = .ok (.aload_n 1, 1) := by decide +kernel
theorem dX1_init_44 : decode cX1_init 44 = .ok (.putfield 31, 3) := by decide +kernel
theorem dX1_init_47 : decode cX1_init 47 = .ok (.return_, 1) := by decide +kernel
theorem dX1_wordsOf_0 : decode cX1_wordsOf 0 = .ok (.iload_n 1, 1) := by decide +kernel
theorem dX1_wordsOf_1 : decode cX1_wordsOf 1 = .ok (.iload_n 2, 1) := by decide +kernel
theorem dX1_wordsOf_2 : decode cX1_wordsOf 2 = .ok (.invokestatic 73, 3) := by decide +kernel
theorem dX1_wordsOf_5 : decode cX1_wordsOf 5 = .ok (.bipush 22, 2) := by decide +kernel
theorem dX1_wordsOf_7 : decode cX1_wordsOf 7 = .ok (.imul, 1) := by decide +kernel
theorem dX1_wordsOf_8 : decode cX1_wordsOf 8 = .ok (.iload_n 3, 1) := by decide +kernel
theorem dX1_wordsOf_9 : decode cX1_wordsOf 9 = .ok (.iadd, 1) := by decide +kernel
theorem dX1_wordsOf_10 : decode cX1_wordsOf 10 = .ok (.bipush 16, 2) := by decide +kernel
theorem dX1_wordsOf_12 : decode cX1_wordsOf 12 = .ok (.imul, 1) := by decide +kernel
theorem dX1_wordsOf_13 : decode cX1_wordsOf 13 = .ok (.iload 4, 2) := by decide +kernel
theorem dX1_wordsOf_15 : decode cX1_wordsOf 15 = .ok (.iadd, 1) := by decide +kernel
theorem dX1_wordsOf_16 : decode cX1_wordsOf 16 = .ok (.istore 5, 2) := by decide +kernel
theorem dX1_wordsOf_18 : decode cX1_wordsOf 18 = .ok (.aload_n 0, 1) := by decide +kernel
theorem dX1_wordsOf_19 : decode cX1_wordsOf 19 = .ok (.getfield 17, 3) := by decide +kernel
theorem dX1_wordsOf_22 : decode cX1_wordsOf 22 = .ok (.iload 5, 2) := by decide +kernel
theorem dX1_wordsOf_24 : decode cX1_wordsOf 24 = .ok (.iaload, 1) := by decide +kernel
theorem dX1_wordsOf_25 : decode cX1_wordsOf 25 = .ok (.aload_n 0, 1) := by decide +kernel
theorem dX1_wordsOf_26 : decode cX1_wordsOf 26 = .ok (.getfield 27, 3) := by decide +kernel
theorem dX1_wordsOf_29 : decode cX1_wordsOf 29 = .ok (.if_icmp .ne 9, 3) := by decide +kernel
theorem dX1_wordsOf_32 : decode cX1_wordsOf 32 = .ok (.iload 5, 2) := by decide +kernel
theorem dX1_wordsOf_34 : decode cX1_wordsOf 34 = .ok (.bipush 6, 2) := by decide +kernel
theorem dX1_wordsOf_36 : decode cX1_wordsOf 36 = .ok (.imul, 1) := by decide +kernel
theorem dX1_wordsOf_37 : decode cX1_wordsOf 37 = .ok (.ireturn, 1) := by decide +kernel
theorem dX1_wordsOf_38 : decode cX1_wordsOf 38 = .ok (.aload_n 0, 1) := by decide +kernel
theorem dX1_wordsOf_39 : decode cX1_wordsOf 39 = .ok (.getfield 17, 3) := by decide +kernel
theorem dX1_wordsOf_42 : decode cX1_wordsOf 42 = .ok (.iload 5, 2) := by decide +kernel
theorem dX1_wordsOf_44 : decode cX1_wordsOf 44 = .ok (.aload_n 0, 1) := by decide +kernel
theorem dX1_wordsOf_45 : decode cX1_wordsOf 45 = .ok (.getfield 27, 3) := by decide +kernel
theorem dX1_wordsOf_48 : decode cX1_wordsOf 48 = .ok (.iastore, 1) := by decide +kernel
theorem dX1_wordsOf_49 : decode cX1_wordsOf 49 = .ok (.aload_n 0, 1) := by decide +kernel
theorem dX1_wordsOf_50 : decode cX1_wordsOf 50 = .ok (.getfield 24, 3) := by decide +kernel
theorem dX1_wordsOf_53 : decode cX1_wordsOf 53 = .ok (.iconst 1, 1) := by decide +kernel
theorem dX1_wordsOf_54 : decode cX1_wordsOf 54 = .ok (.iload_n 3, 1) := by decide +kernel
theorem dX1_wordsOf_55 : decode cX1_wordsOf 55 = .ok (.bipush 21, 2) := by decide +kernel
theorem dX1_wordsOf_57 : decode cX1_wordsOf 57 = .ok (.if_icmp .ne 7, 3) := by decide +kernel
theorem dX1_wordsOf_60 : decode cX1_wordsOf 60 = .ok (.iconst 1, 1) := by decide +kernel
theorem dX1_wordsOf_61 : decode cX1_wordsOf 61 = .ok (.goto 4, 3) := by decide +kernel
theorem dX1_wordsOf_64 : decode cX1_wordsOf 64 = .ok (.iconst 0, 1) := by decide +kernel
theorem dX1_wordsOf_65 : decode cX1_wordsOf 65 = .ok (.iastore, 1) := by decide +kernel
theorem dX1_wordsOf_66 : decode cX1_wordsOf 66 = .ok (.aload_n 0, 1) := by decide +kernel
theorem dX1_wordsOf_67 : decode cX1_wordsOf 67 = .ok (.getfield 24, 3) := by decide +kernel
theorem dX1_wordsOf_70 : decode cX1_wordsOf 70 = .ok (.iconst 2, 1) := by decide +kernel
theorem dX1_wordsOf_71 : decode cX1_wordsOf 71 = .ok (.iload_n 3, 1) := by decide +kernel
theorem dX1_wordsOf_72 : decode cX1_wordsOf 72 = .ok (.bipush 21, 2) := by decide +kernel
theorem dX1_wordsOf_74 : decode cX1_wordsOf 74 = .ok (.if_icmp .ne 7, 3) := by decide +kernel
theorem dX1_wordsOf_77 : decode cX1_wordsOf 77 = .ok (.iconst 0, 1) := by decide +kernel
theorem dX1_wordsOf_78 : decode cX1_wordsOf 78 = .ok (.goto 4, 3) := by decide +kernel
theorem dX1_wordsOf_81 : decode cX1_wordsOf 81 = .ok (.iload_n 3, 1) := by decide +kernel
theorem dX1_wordsOf_82 : decode cX1_wordsOf 82 = .ok (.iastore, 1) := by decide +kernel
theorem dX1_wordsOf_83 : decode cX1_wordsOf 83 = .ok (.aload_n 0, 1) := by decide +kernel
theorem dX1_wordsOf_84 : decode cX1_wordsOf 84 = .ok (.getfield 24, 3) := by decide +kernel
theorem dX1_wordsOf_87 : decode cX1_wordsOf 87 = .ok (.iconst 3, 1) := by decide +kernel
theorem dX1_wordsOf_88 : decode cX1_wordsOf 88 = .ok (.iload_n 1, 1) := by decide +kernel
theorem dX1_wordsOf_89 : decode cX1_wordsOf 89 = .ok (.iastore, 1) := by decide +kernel
theorem dX1_wordsOf_90 : decode cX1_wordsOf 90 = .ok (.aload_n 0, 1) := by decide +kernel
theorem dX1_wordsOf_91 : decode cX1_wordsOf 91 = .ok (.getfield 24, 3) := by decide +kernel
theorem dX1_wordsOf_94 : decode cX1_wordsOf 94 = .ok (.iconst 4, 1) := by decide +kernel
theorem dX1_wordsOf_95 : decode cX1_wordsOf 95 = .ok (.iload_n 2, 1) := by decide +kernel
theorem dX1_wordsOf_96 : decode cX1_wordsOf 96 = .ok (.iastore, 1) := by decide +kernel
theorem dX1_wordsOf_97 : decode cX1_wordsOf 97 = .ok (.iconst 0, 1) := by decide +kernel
theorem dX1_wordsOf_98 : decode cX1_wordsOf 98 = .ok (.istore 6, 2) := by decide +kernel
theorem dX1_wordsOf_100 : decode cX1_wordsOf 100 = .ok (.iload 6, 2) := by decide +kernel
theorem dX1_wordsOf_102 : decode cX1_wordsOf 102 = .ok (.aload_n 0, 1) := by decide +kernel
theorem dX1_wordsOf_103 : decode cX1_wordsOf 103 = .ok (.getfield 31, 3) := by decide +kernel
theorem dX1_wordsOf_106 : decode cX1_wordsOf 106 = .ok (.getfield 39, 3) := by decide +kernel
theorem dX1_wordsOf_109 : decode cX1_wordsOf 109 = .ok (.iconst 4, 1) := by decide +kernel
theorem dX1_wordsOf_110 : decode cX1_wordsOf 110 = .ok (.iaload, 1) := by decide +kernel
theorem dX1_wordsOf_111 : decode cX1_wordsOf 111 = .ok (.if_icmp .ge 105, 3) := by decide +kernel
theorem dX1_wordsOf_114 : decode cX1_wordsOf 114 = .ok (.lconst 0, 1) := by decide +kernel
theorem dX1_wordsOf_115 : decode cX1_wordsOf 115 = .ok (.lstore 7, 2) := by decide +kernel
theorem dX1_wordsOf_117 : decode cX1_wordsOf 117 = .ok (.aload_n 0, 1) := by decide +kernel
theorem dX1_wordsOf_118 : decode cX1_wordsOf 118 = .ok (.iconst 1, 1) := by decide +kernel
theorem dX1_wordsOf_119 : decode cX1_wordsOf 119 = .ok (.putfield 76, 3) := by decide +kernel
theorem dX1_wordsOf_122 : decode cX1_wordsOf 122 = .ok (.iconst 0, 1) := by decide +kernel
theorem dX1_wordsOf_123 : decode cX1_wordsOf 123 = .ok (.istore 9, 2) := by decide +kernel
theorem dX1_wordsOf_125 : decode cX1_wordsOf 125 = .ok (.iload 9, 2) := by decide +kernel
theorem dX1_wordsOf_127 : decode cX1_wordsOf 127 = .ok (.bipush 64, 2) := by decide +kernel
theorem dX1_wordsOf_129 : decode cX1_wordsOf 129 = .ok (.if_icmp .ge 66, 3) := by decide +kernel
theorem dX1_wordsOf_132 : decode cX1_wordsOf 132 = .ok (.aload_n 0, 1) := by decide +kernel
theorem dX1_wordsOf_133 : decode cX1_wordsOf 133 = .ok (.getfield 76, 3) := by decide +kernel
theorem dX1_wordsOf_136 : decode cX1_wordsOf 136 = .ok (.ifCond .eq 59, 3) := by decide +kernel
theorem dX1_wordsOf_139 : decode cX1_wordsOf 139 = .ok (.aload_n 0, 1) := by decide +kernel
theorem dX1_wordsOf_140 : decode cX1_wordsOf 140 = .ok (.getfield 24, 3) := by decide +kernel
theorem dX1_wordsOf_143 : decode cX1_wordsOf 143 = .ok (.iconst 0, 1) := by decide +kernel
theorem dX1_wordsOf_144 : decode cX1_wordsOf 144 = .ok (.iload 4, 2) := by decide +kernel
theorem dX1_wordsOf_146 : decode cX1_wordsOf 146 = .ok (.bipush 64, 2) := by decide +kernel
theorem dX1_wordsOf_148 : decode cX1_wordsOf 148 = .ok (.imul, 1) := by decide +kernel
theorem dX1_wordsOf_149 : decode cX1_wordsOf 149 = .ok (.iload 9, 2) := by decide +kernel
theorem dX1_wordsOf_151 : decode cX1_wordsOf 151 = .ok (.iadd, 1) := by decide +kernel
theorem dX1_wordsOf_152 : decode cX1_wordsOf 152 = .ok (.iastore, 1) := by decide +kernel
theorem dX1_wordsOf_153 : decode cX1_wordsOf 153 = .ok (.aload_n 0, 1) := by decide +kernel
theorem dX1_wordsOf_154 : decode cX1_wordsOf 154 = .ok (.iconst 0, 1) := by decide +kernel
theorem dX1_wordsOf_155 : decode cX1_wordsOf 155 = .ok (.putfield 76, 3) := by decide +kernel
theorem dX1_wordsOf_158 : decode cX1_wordsOf 158 = .ok (.aload_n 0, 1) := by decide +kernel
theorem dX1_wordsOf_159 : decode cX1_wordsOf 159 = .ok (.iload 6, 2) := by decide +kernel
theorem dX1_wordsOf_161 : decode cX1_wordsOf 161 = .ok (.invokevirtual 80, 3) := by decide +kernel
theorem dX1_wordsOf_164 : decode cX1_wordsOf 164 = .ok (.ifCond .eq 25, 3) := by decide +kernel
theorem dX1_wordsOf_167 : decode cX1_wordsOf 167 = .ok (.lload 7, 2) := by decide +kernel
theorem dX1_wordsOf_169 : decode cX1_wordsOf 169 = .ok (.aload_n 0, 1) := by decide +kernel
theorem dX1_wordsOf_170 : decode cX1_wordsOf 170 = .ok (.getfield 76, 3) := by decide +kernel
theorem dX1_wordsOf_173 : decode cX1_wordsOf 173 = .ok (.ifCond .eq 10, 3) := by decide +kernel
theorem dX1_wordsOf_176 : decode cX1_wordsOf 176 = .ok (.lconst 1, 1) := by decide +kernel
theorem dX1_wordsOf_177 : decode cX1_wordsOf 177 = .ok (.iload 9, 2) := by decide +kernel
theorem dX1_wordsOf_179 : decode cX1_wordsOf 179 = .ok (.lshl, 1) := by decide +kernel
theorem dX1_wordsOf_180 : decode cX1_wordsOf 180 = .ok (.goto 6, 3) := by decide +kernel
theorem dX1_wordsOf_183 : decode cX1_wordsOf 183 = .ok (.ldc2_w 50, 3) := by decide +kernel
theorem dX1_wordsOf_186 : decode cX1_wordsOf 186 = .ok (.lor, 1) := by decide +kernel
theorem dX1_wordsOf_187 : decode cX1_wordsOf 187 = .ok (.lstore 7, 2) := by decide +kernel
theorem dX1_wordsOf_189 : decode cX1_wordsOf 189 = .ok (.iinc 9 1, 3) := by decide +kernel
theorem dX1_wordsOf_192 : decode cX1_wordsOf 192 = .ok (.goto (-67), 3) := by decide +kernel
theorem dX1_wordsOf_195 : decode cX1_wordsOf 195 = .ok (.aload_n 0, 1) := by decide +kernel
theorem dX1_wordsOf_196 : decode cX1_wordsOf 196 = .ok (.getfield 13, 3) := by decide +kernel
theorem dX1_wordsOf_199 : decode cX1_wordsOf 199 = .ok (.iload 5, 2) := by decide +kernel
theorem dX1_wordsOf_201 : decode cX1_wordsOf 201 = .ok (.bipush 6, 2) := by decide +kernel
theorem dX1_wordsOf_203 : decode cX1_wordsOf 203 = .ok (.imul, 1) := by decide +kernel
theorem dX1_wordsOf_204 : decode cX1_wordsOf 204 = .ok (.iload 6, 2) := by decide +kernel
theorem dX1_wordsOf_206 : decode cX1_wordsOf 206 = .ok (.iadd, 1) := by decide +kernel
theorem dX1_wordsOf_207 : decode cX1_wordsOf 207 = .ok (.lload 7, 2) := by decide +kernel
theorem dX1_wordsOf_209 : decode cX1_wordsOf 209 = .ok (.lastore, 1) := by decide +kernel
theorem dX1_wordsOf_210 : decode cX1_wordsOf 210 = .ok (.iinc 6 1, 3) := by decide +kernel
theorem dX1_wordsOf_213 : decode cX1_wordsOf 213 = .ok (.goto (-113), 3) := by decide +kernel
theorem dX1_wordsOf_216 : decode cX1_wordsOf 216 = .ok (.iload 5, 2) := by decide +kernel
theorem dX1_wordsOf_218 : decode cX1_wordsOf 218 = .ok (.bipush 6, 2) := by decide +kernel
theorem dX1_wordsOf_220 : decode cX1_wordsOf 220 = .ok (.imul, 1) := by decide +kernel
theorem dX1_wordsOf_221 : decode cX1_wordsOf 221 = .ok (.ireturn, 1) := by decide +kernel
theorem dX2_count_0 : decode cX2_count 0 = .ok (.aload_n 0, 1) := by decide +kernel
theorem dX2_count_1 : decode cX2_count 1 = .ok (.iconst 0, 1) := by decide +kernel
theorem dX2_count_2 : decode cX2_count 2 = .ok (.putfield 75, 3) := by decide +kernel
theorem dX2_count_5 : decode cX2_count 5 = .ok (.aload_n 0, 1) := by decide +kernel
theorem dX2_count_6 : decode cX2_count 6 = .ok (.ldc 78, 2) := by decide +kernel
theorem dX2_count_8 : decode cX2_count 8 = .ok (.putfield 79, 3) := by decide +kernel
theorem dX2_count_11 : decode cX2_count 11 = .ok (.aload_n 0, 1) := by decide +kernel
theorem dX2_count_12 : decode cX2_count 12 = .ok (.iconst 0, 1) := by decide +kernel
theorem dX2_count_13 : decode cX2_count 13 = .ok (.putfield 82, 3) := by decide +kernel
theorem dX2_count_16 : decode cX2_count 16 = .ok (.iconst 0, 1) := by decide +kernel
theorem dX2_count_17 : decode cX2_count 17 = .ok (.istore_n 2, 1) := by decide +kernel
theorem dX2_count_18 : decode cX2_count 18 = .ok (.iload_n 2, 1) := by decide +kernel
theorem dX2_count_19 : decode cX2_count 19 = .ok (.aload_n 0, 1) := by decide +kernel
theorem dX2_count_20 : decode cX2_count 20 = .ok (.getfield 27, 3) := by decide +kernel
theorem dX2_count_23 : decode cX2_count 23 = .ok (.iconst 0, 1) := by decide +kernel
theorem dX2_count_24 : decode cX2_count 24 = .ok (.iaload, 1) := by decide +kernel
theorem dX2_count_25 : decode cX2_count 25 = .ok (.if_icmp .ge 198, 3) := by decide +kernel
theorem dX2_count_28 : decode cX2_count 28 = .ok (.bipush 61, 2) := by decide +kernel
theorem dX2_count_30 : decode cX2_count 30 = .ok (.istore_n 3, 1) := by decide +kernel
theorem dX2_count_31 : decode cX2_count 31 = .ok (.iload_n 3, 1) := by decide +kernel
theorem dX2_count_32 : decode cX2_count 32 = .ok (.bipush 61, 2) := by decide +kernel
theorem dX2_count_34 : decode cX2_count 34 = .ok (.aload_n 0, 1) := by decide +kernel
theorem dX2_count_35 : decode cX2_count 35 = .ok (.getfield 27, 3) := by decide +kernel
theorem dX2_count_38 : decode cX2_count 38 = .ok (.iconst 1, 1) := by decide +kernel
theorem dX2_count_39 : decode cX2_count 39 = .ok (.iaload, 1) := by decide +kernel
theorem dX2_count_40 : decode cX2_count 40 = .ok (.iadd, 1) := by decide +kernel
theorem dX2_count_41 : decode cX2_count 41 = .ok (.if_icmp .ge 176, 3) := by decide +kernel
theorem dX2_count_44 : decode cX2_count 44 = .ok (.aload_n 0, 1) := by decide +kernel
theorem dX2_count_45 : decode cX2_count 45 = .ok (.getfield 13, 3) := by decide +kernel
theorem dX2_count_48 : decode cX2_count 48 = .ok (.iload_n 2, 1) := by decide +kernel
theorem dX2_count_49 : decode cX2_count 49 = .ok (.iaload, 1) := by decide +kernel
theorem dX2_count_50 : decode cX2_count 50 = .ok (.aload_n 0, 1) := by decide +kernel
theorem dX2_count_51 : decode cX2_count 51 = .ok (.getfield 13, 3) := by decide +kernel
theorem dX2_count_54 : decode cX2_count 54 = .ok (.iload_n 3, 1) := by decide +kernel
theorem dX2_count_55 : decode cX2_count 55 = .ok (.iaload, 1) := by decide +kernel
theorem dX2_count_56 : decode cX2_count 56 = .ok (.ior, 1) := by decide +kernel
theorem dX2_count_57 : decode cX2_count 57 = .ok (.istore 4, 2) := by decide +kernel
theorem dX2_count_59 : decode cX2_count 59 = .ok (.bipush 122, 2) := by decide +kernel
theorem dX2_count_61 : decode cX2_count 61 = .ok (.istore 5, 2) := by decide +kernel
theorem dX2_count_63 : decode cX2_count 63 = .ok (.iload 5, 2) := by decide +kernel
theorem dX2_count_65 : decode cX2_count 65 = .ok (.bipush 122, 2) := by decide +kernel
theorem dX2_count_67 : decode cX2_count 67 = .ok (.aload_n 0, 1) := by decide +kernel
theorem dX2_count_68 : decode cX2_count 68 = .ok (.getfield 27, 3) := by decide +kernel
theorem dX2_count_71 : decode cX2_count 71 = .ok (.iconst 2, 1) := by decide +kernel
theorem dX2_count_72 : decode cX2_count 72 = .ok (.iaload, 1) := by decide +kernel
theorem dX2_count_73 : decode cX2_count 73 = .ok (.iadd, 1) := by decide +kernel
theorem dX2_count_74 : decode cX2_count 74 = .ok (.if_icmp .ge 137, 3) := by decide +kernel
theorem dX2_count_77 : decode cX2_count 77 = .ok (.iload 4, 2) := by decide +kernel
theorem dX2_count_79 : decode cX2_count 79 = .ok (.aload_n 0, 1) := by decide +kernel
theorem dX2_count_80 : decode cX2_count 80 = .ok (.getfield 13, 3) := by decide +kernel
theorem dX2_count_83 : decode cX2_count 83 = .ok (.iload 5, 2) := by decide +kernel
theorem dX2_count_85 : decode cX2_count 85 = .ok (.iaload, 1) := by decide +kernel
theorem dX2_count_86 : decode cX2_count 86 = .ok (.ior, 1) := by decide +kernel
theorem dX2_count_87 : decode cX2_count 87 = .ok (.iload_n 1, 1) := by decide +kernel
theorem dX2_count_88 : decode cX2_count 88 = .ok (.if_icmp .ne 117, 3) := by decide +kernel
theorem dX2_count_91 : decode cX2_count 91 = .ok (.aload_n 0, 1) := by decide +kernel
theorem dX2_count_92 : decode cX2_count 92 = .ok (.dup, 1) := by decide +kernel
theorem dX2_count_93 : decode cX2_count 93 = .ok (.getfield 75, 3) := by decide +kernel
theorem dX2_count_96 : decode cX2_count 96 = .ok (.aload_n 0, 1) := by decide +kernel
theorem dX2_count_97 : decode cX2_count 97 = .ok (.getfield 17, 3) := by decide +kernel
theorem dX2_count_100 : decode cX2_count 100 = .ok (.iload_n 2, 1) := by decide +kernel
theorem dX2_count_101 : decode cX2_count 101 = .ok (.iaload, 1) := by decide +kernel
theorem dX2_count_102 : decode cX2_count 102 = .ok (.aload_n 0, 1) := by decide +kernel
theorem dX2_count_103 : decode cX2_count 103 = .ok (.getfield 17, 3) := by decide +kernel
theorem dX2_count_106 : decode cX2_count 106 = .ok (.iload_n 3, 1) := by decide +kernel
theorem dX2_count_107 : decode cX2_count 107 = .ok (.iaload, 1) := by decide +kernel
theorem dX2_count_108 : decode cX2_count 108 = .ok (.imul, 1) := by decide +kernel
theorem dX2_count_109 : decode cX2_count 109 = .ok (.aload_n 0, 1) := by decide +kernel
theorem dX2_count_110 : decode cX2_count 110 = .ok (.getfield 17, 3) := by decide +kernel
theorem dX2_count_113 : decode cX2_count 113 = .ok (.iload 5, 2) := by decide +kernel
theorem dX2_count_115 : decode cX2_count 115 = .ok (.iaload, 1) := by decide +kernel
theorem dX2_count_116 : decode cX2_count 116 = .ok (.imul, 1) := by decide +kernel
theorem dX2_count_117 : decode cX2_count 117 = .ok (.iadd, 1) := by decide +kernel
theorem dX2_count_118 : decode cX2_count 118 = .ok (.putfield 75, 3) := by decide +kernel
theorem dX2_count_121 : decode cX2_count 121 = .ok (.aload_n 0, 1) := by decide +kernel
theorem dX2_count_122 : decode cX2_count 122 = .ok (.dup, 1) := by decide +kernel
theorem dX2_count_123 : decode cX2_count 123 = .ok (.getfield 79, 3) := by decide +kernel
theorem dX2_count_126 : decode cX2_count 126 = .ok (.aload_n 0, 1) := by decide +kernel
theorem dX2_count_127 : decode cX2_count 127 = .ok (.getfield 20, 3) := by decide +kernel
theorem dX2_count_130 : decode cX2_count 130 = .ok (.iload_n 2, 1) := by decide +kernel
theorem dX2_count_131 : decode cX2_count 131 = .ok (.iaload, 1) := by decide +kernel
theorem dX2_count_132 : decode cX2_count 132 = .ok (.aload_n 0, 1) := by decide +kernel
theorem dX2_count_133 : decode cX2_count 133 = .ok (.getfield 20, 3) := by decide +kernel
theorem dX2_count_136 : decode cX2_count 136 = .ok (.iload_n 3, 1) := by decide +kernel
theorem dX2_count_137 : decode cX2_count 137 = .ok (.iaload, 1) := by decide +kernel
theorem dX2_count_138 : decode cX2_count 138 = .ok (.ior, 1) := by decide +kernel
theorem dX2_count_139 : decode cX2_count 139 = .ok (.aload_n 0, 1) := by decide +kernel
theorem dX2_count_140 : decode cX2_count 140 = .ok (.getfield 20, 3) := by decide +kernel
theorem dX2_count_143 : decode cX2_count 143 = .ok (.iload 5, 2) := by decide +kernel
theorem dX2_count_145 : decode cX2_count 145 = .ok (.iaload, 1) := by decide +kernel
theorem dX2_count_146 : decode cX2_count 146 = .ok (.ior, 1) := by decide +kernel
theorem dX2_count_147 : decode cX2_count 147 = .ok (.iand, 1) := by decide +kernel
theorem dX2_count_148 : decode cX2_count 148 = .ok (.putfield 79, 3) := by decide +kernel
theorem dX2_count_151 : decode cX2_count 151 = .ok (.aload_n 0, 1) := by decide +kernel
theorem dX2_count_152 : decode cX2_count 152 = .ok (.dup, 1) := by decide +kernel
theorem dX2_count_153 : decode cX2_count 153 = .ok (.getfield 82, 3) := by decide +kernel
theorem dX2_count_156 : decode cX2_count 156 = .ok (.aload_n 0, 1) := by decide +kernel
theorem dX2_count_157 : decode cX2_count 157 = .ok (.getfield 23, 3) := by decide +kernel
theorem dX2_count_160 : decode cX2_count 160 = .ok (.iload_n 2, 1) := by decide +kernel
theorem dX2_count_161 : decode cX2_count 161 = .ok (.baload, 1) := by decide +kernel
theorem dX2_count_162 : decode cX2_count 162 = .ok (.ifCond .eq 7, 3) := by decide +kernel
theorem dX2_count_165 : decode cX2_count 165 = .ok (.iconst 1, 1) := by decide +kernel
theorem dX2_count_166 : decode cX2_count 166 = .ok (.goto 4, 3) := by decide +kernel
theorem dX2_count_169 : decode cX2_count 169 = .ok (.iconst 0, 1) := by decide +kernel
theorem dX2_count_170 : decode cX2_count 170 = .ok (.aload_n 0, 1) := by decide +kernel
theorem dX2_count_171 : decode cX2_count 171 = .ok (.getfield 23, 3) := by decide +kernel
theorem dX2_count_174 : decode cX2_count 174 = .ok (.iload_n 3, 1) := by decide +kernel
theorem dX2_count_175 : decode cX2_count 175 = .ok (.baload, 1) := by decide +kernel
theorem dX2_count_176 : decode cX2_count 176 = .ok (.ifCond .eq 7, 3) := by decide +kernel
theorem dX2_count_179 : decode cX2_count 179 = .ok (.iconst 2, 1) := by decide +kernel
theorem dX2_count_180 : decode cX2_count 180 = .ok (.goto 4, 3) := by decide +kernel
theorem dX2_count_183 : decode cX2_count 183 = .ok (.iconst 0, 1) := by decide +kernel
theorem dX2_count_184 : decode cX2_count 184 = .ok (.ior, 1) := by decide +kernel
theorem dX2_count_185 : decode cX2_count 185 = .ok (.aload_n 0, 1) := by decide +kernel
theorem dX2_count_186 : decode cX2_count 186 = .ok (.getfield 23, 3) := by decide +kernel
theorem dX2_count_189 : decode cX2_count 189 = .ok (.iload 5, 2) := by decide +kernel
theorem dX2_count_191 : decode cX2_count 191 = .ok (.baload, 1) := by decide +kernel
theorem dX2_count_192 : decode cX2_count 192 = .ok (.ifCond .eq 7, 3) := by decide +kernel
theorem dX2_count_195 : decode cX2_count 195 = .ok (.iconst 4, 1) := by decide +kernel
theorem dX2_count_196 : decode cX2_count 196 = .ok (.goto 4, 3) := by decide +kernel
theorem dX2_count_199 : decode cX2_count 199 = .ok (.iconst 0, 1) := by decide +kernel
theorem dX2_count_200 : decode cX2_count 200 = .ok (.ior, 1) := by decide +kernel
theorem dX2_count_201 : decode cX2_count 201 = .ok (.ior, 1) := by decide +kernel
theorem dX2_count_202 : decode cX2_count 202 = .ok (.putfield 82, 3) := by decide +kernel
theorem dX2_count_205 : decode cX2_count 205 = .ok (.iinc 5 1, 3) := by decide +kernel
theorem dX2_count_208 : decode cX2_count 208 = .ok (.goto (-145), 3) := by decide +kernel
theorem dX2_count_211 : decode cX2_count 211 = .ok (.iinc 3 1, 3) := by decide +kernel
theorem dX2_count_214 : decode cX2_count 214 = .ok (.goto (-183), 3) := by decide +kernel
theorem dX2_count_217 : decode cX2_count 217 = .ok (.iinc 2 1, 3) := by decide +kernel
theorem dX2_count_220 : decode cX2_count 220 = .ok (.goto (-202), 3) := by decide +kernel
theorem dX2_count_223 : decode cX2_count 223 = .ok (.return_, 1) := by decide +kernel
theorem dX2_heap_0 : decode cX2_heap 0 = .ok (.iload_n 1, 1) := by decide +kernel
theorem dX2_heap_1 : decode cX2_heap 1 = .ok (.bipush 61, 2) := by decide +kernel
theorem dX2_heap_3 : decode cX2_heap 3 = .ok (.imul, 1) := by decide +kernel
theorem dX2_heap_4 : decode cX2_heap 4 = .ok (.istore 5, 2) := by decide +kernel
theorem dX2_heap_6 : decode cX2_heap 6 = .ok (.iload 5, 2) := by decide +kernel
theorem dX2_heap_8 : decode cX2_heap 8 = .ok (.istore 6, 2) := by decide +kernel
theorem dX2_heap_10 : decode cX2_heap 10 = .ok (.iload 6, 2) := by decide +kernel
theorem dX2_heap_12 : decode cX2_heap 12 = .ok (.iload 5, 2) := by decide +kernel
theorem dX2_heap_14 : decode cX2_heap 14 = .ok (.aload_n 0, 1) := by decide +kernel
theorem dX2_heap_15 : decode cX2_heap 15 = .ok (.getfield 27, 3) := by decide +kernel
theorem dX2_heap_18 : decode cX2_heap 18 = .ok (.iload_n 1, 1) := by decide +kernel
theorem dX2_heap_19 : decode cX2_heap 19 = .ok (.iaload, 1) := by decide +kernel
theorem dX2_heap_20 : decode cX2_heap 20 = .ok (.iadd, 1) := by decide +kernel
theorem dX2_heap_21 : decode cX2_heap 21 = .ok (.if_icmp .ge 20, 3) := by decide +kernel
theorem dX2_heap_24 : decode cX2_heap 24 = .ok (.aload_n 0, 1) := by decide +kernel
theorem dX2_heap_25 : decode cX2_heap 25 = .ok (.getfield 13, 3) := by decide +kernel
theorem dX2_heap_28 : decode cX2_heap 28 = .ok (.iload 6, 2) := by decide +kernel
theorem dX2_heap_30 : decode cX2_heap 30 = .ok (.iaload, 1) := by decide +kernel
theorem dX2_heap_31 : decode cX2_heap 31 = .ok (.iload_n 2, 1) := by decide +kernel
theorem dX2_heap_32 : decode cX2_heap 32 = .ok (.if_icmp .eq 9, 3) := by decide +kernel
theorem dX2_heap_35 : decode cX2_heap 35 = .ok (.iinc 6 1, 3) := by decide +kernel
theorem dX2_heap_38 : decode cX2_heap 38 = .ok (.goto (-28), 3) := by decide +kernel
theorem dX2_heap_41 : decode cX2_heap 41 = .ok (.iload 6, 2) := by decide +kernel
theorem dX2_heap_43 : decode cX2_heap 43 = .ok (.iload 5, 2) := by decide +kernel
theorem dX2_heap_45 : decode cX2_heap 45 = .ok (.aload_n 0, 1) := by decide +kernel
theorem dX2_heap_46 : decode cX2_heap 46 = .ok (.getfield 27, 3) := by decide +kernel
theorem dX2_heap_49 : decode cX2_heap 49 = .ok (.iload_n 1, 1) := by decide +kernel
theorem dX2_heap_50 : decode cX2_heap 50 = .ok (.iaload, 1) := by decide +kernel
theorem dX2_heap_51 : decode cX2_heap 51 = .ok (.iadd, 1) := by decide +kernel
theorem dX2_heap_52 : decode cX2_heap 52 = .ok (.if_icmp .ne 45, 3) := by decide +kernel
theorem dX2_heap_55 : decode cX2_heap 55 = .ok (.aload_n 0, 1) := by decide +kernel
theorem dX2_heap_56 : decode cX2_heap 56 = .ok (.getfield 27, 3) := by decide +kernel
theorem dX2_heap_59 : decode cX2_heap 59 = .ok (.iload_n 1, 1) := by decide +kernel
theorem dX2_heap_60 : decode cX2_heap 60 = .ok (.dup2, 1) := by decide +kernel
theorem dX2_heap_61 : decode cX2_heap 61 = .ok (.iaload, 1) := by decide +kernel
theorem dX2_heap_62 : decode cX2_heap 62 = .ok (.iconst 1, 1) := by decide +kernel
theorem dX2_heap_63 : decode cX2_heap 63 = .ok (.iadd, 1) := by decide +kernel
theorem dX2_heap_64 : decode cX2_heap 64 = .ok (.iastore, 1) := by decide +kernel
theorem dX2_heap_65 : decode cX2_heap 65 = .ok (.aload_n 0, 1) := by decide +kernel
theorem dX2_heap_66 : decode cX2_heap 66 = .ok (.getfield 13, 3) := by decide +kernel
theorem dX2_heap_69 : decode cX2_heap 69 = .ok (.iload 6, 2) := by decide +kernel
theorem dX2_heap_71 : decode cX2_heap 71 = .ok (.iload_n 2, 1) := by decide +kernel
theorem dX2_heap_72 : decode cX2_heap 72 = .ok (.iastore, 1) := by decide +kernel
theorem dX2_heap_73 : decode cX2_heap 73 = .ok (.aload_n 0, 1) := by decide +kernel
theorem dX2_heap_74 : decode cX2_heap 74 = .ok (.getfield 17, 3) := by decide +kernel
theorem dX2_heap_77 : decode cX2_heap 77 = .ok (.iload 6, 2) := by decide +kernel
theorem dX2_heap_79 : decode cX2_heap 79 = .ok (.iconst 0, 1) := by decide +kernel
theorem dX2_heap_80 : decode cX2_heap 80 = .ok (.iastore, 1) := by decide +kernel
theorem dX2_heap_81 : decode cX2_heap 81 = .ok (.aload_n 0, 1) := by decide +kernel
theorem dX2_heap_82 : decode cX2_heap 82 = .ok (.getfield 20, 3) := by decide +kernel
theorem dX2_heap_85 : decode cX2_heap 85 = .ok (.iload 6, 2) := by decide +kernel
theorem dX2_heap_87 : decode cX2_heap 87 = .ok (.iload_n 3, 1) := by decide +kernel
theorem dX2_heap_88 : decode cX2_heap 88 = .ok (.iastore, 1) := by decide +kernel
theorem dX2_heap_89 : decode cX2_heap 89 = .ok (.aload_n 0, 1) := by decide +kernel
theorem dX2_heap_90 : decode cX2_heap 90 = .ok (.getfield 23, 3) := by decide +kernel
theorem dX2_heap_93 : decode cX2_heap 93 = .ok (.iload 6, 2) := by decide +kernel
theorem dX2_heap_95 : decode cX2_heap 95 = .ok (.iconst 0, 1) := by decide +kernel
theorem dX2_heap_96 : decode cX2_heap 96 = .ok (.bastore, 1) := by decide +kernel
theorem dX2_heap_97 : decode cX2_heap 97 = .ok (.aload_n 0, 1) := by decide +kernel
theorem dX2_heap_98 : decode cX2_heap 98 = .ok (.getfield 17, 3) := by decide +kernel
theorem dX2_heap_101 : decode cX2_heap 101 = .ok (.iload 6, 2) := by decide +kernel
theorem dX2_heap_103 : decode cX2_heap 103 = .ok (.dup2, 1) := by decide +kernel
theorem dX2_heap_104 : decode cX2_heap 104 = .ok (.iaload, 1) := by decide +kernel
theorem dX2_heap_105 : decode cX2_heap 105 = .ok (.iconst 1, 1) := by decide +kernel
theorem dX2_heap_106 : decode cX2_heap 106 = .ok (.iadd, 1) := by decide +kernel
theorem dX2_heap_107 : decode cX2_heap 107 = .ok (.iastore, 1) := by decide +kernel
theorem dX2_heap_108 : decode cX2_heap 108 = .ok (.aload_n 0, 1) := by decide +kernel
theorem dX2_heap_109 : decode cX2_heap 109 = .ok (.getfield 20, 3) := by decide +kernel
theorem dX2_heap_112 : decode cX2_heap 112 = .ok (.iload 6, 2) := by decide +kernel
theorem dX2_heap_114 : decode cX2_heap 114 = .ok (.dup2, 1) := by decide +kernel
theorem dX2_heap_115 : decode cX2_heap 115 = .ok (.iaload, 1) := by decide +kernel
theorem dX2_heap_116 : decode cX2_heap 116 = .ok (.iload_n 3, 1) := by decide +kernel
theorem dX2_heap_117 : decode cX2_heap 117 = .ok (.iand, 1) := by decide +kernel
theorem dX2_heap_118 : decode cX2_heap 118 = .ok (.iastore, 1) := by decide +kernel
theorem dX2_heap_119 : decode cX2_heap 119 = .ok (.aload_n 0, 1) := by decide +kernel
theorem dX2_heap_120 : decode cX2_heap 120 = .ok (.getfield 23, 3) := by decide +kernel
theorem dX2_heap_123 : decode cX2_heap 123 = .ok (.iload 6, 2) := by decide +kernel
theorem dX2_heap_125 : decode cX2_heap 125 = .ok (.dup2, 1) := by decide +kernel
theorem dX2_heap_126 : decode cX2_heap 126 = .ok (.baload, 1) := by decide +kernel
theorem dX2_heap_127 : decode cX2_heap 127 = .ok (.iload 4, 2) := by decide +kernel
theorem dX2_heap_129 : decode cX2_heap 129 = .ok (.ior, 1) := by decide +kernel
theorem dX2_heap_130 : decode cX2_heap 130 = .ok (.bastore, 1) := by decide +kernel
theorem dX2_heap_131 : decode cX2_heap 131 = .ok (.return_, 1) := by decide +kernel
theorem dX2_init_0 : decode cX2_init 0 = .ok (.aload_n 0, 1) := by decide +kernel
theorem dX2_init_1 : decode cX2_init 1 = .ok (.invokespecial 5, 3) := by decide +kernel
theorem dX2_init_4 : decode cX2_init 4 = .ok (.aload_n 0, 1) := by decide +kernel
theorem dX2_init_5 : decode cX2_init 5 = .ok (.sipush 183, 3) := by decide +kernel
theorem dX2_init_8 : decode cX2_init 8 = .ok (.newarray .int, 2) := by decide +kernel
theorem dX2_init_10 : decode cX2_init 10 = .ok (.putfield 13, 3) := by decide +kernel
theorem dX2_init_13 : decode cX2_init 13 = .ok (.aload_n 0, 1) := by decide +kernel
theorem dX2_init_14 : decode cX2_init 14 = .ok (.sipush 183, 3) := by decide +kernel
theorem dX2_init_17 : decode cX2_init 17 = .ok (.newarray .int, 2) := by decide +kernel
theorem dX2_init_19 : decode cX2_init 19 = .ok (.putfield 17, 3) := by decide +kernel
theorem dX2_init_22 : decode cX2_init 22 = .ok (.aload_n 0, 1) := by decide +kernel
theorem dX2_init_23 : decode cX2_init 23 = .ok (.sipush 183, 3) := by decide +kernel
theorem dX2_init_26 : decode cX2_init 26 = .ok (.newarray .int, 2) := by decide +kernel
theorem dX2_init_28 : decode cX2_init 28 = .ok (.putfield 20, 3) := by decide +kernel
theorem dX2_init_31 : decode cX2_init 31 = .ok (.aload_n 0, 1) := by decide +kernel
theorem dX2_init_32 : decode cX2_init 32 = .ok (.sipush 183, 3) := by decide +kernel
theorem dX2_init_35 : decode cX2_init 35 = .ok (.newarray .boolean, 2) := by decide +kernel
theorem dX2_init_37 : decode cX2_init 37 = .ok (.putfield 23, 3) := by decide +kernel
theorem dX2_init_40 : decode cX2_init 40 = .ok (.aload_n 0, 1) := by decide +kernel
theorem dX2_init_41 : decode cX2_init 41 = .ok (.iconst 3, 1) := by decide +kernel
theorem dX2_init_42 : decode cX2_init 42 = .ok (.newarray .int, 2) := by decide +kernel
theorem dX2_init_44 : decode cX2_init 44 = .ok (.putfield 27, 3) := by decide +kernel
theorem dX2_init_47 : decode cX2_init 47 = .ok (.aload_n 0, 1) := by decide +kernel
theorem dX2_init_48 : decode cX2_init 48 = .ok (.aload_n 1, 1) := by decide +kernel
theorem dX2_init_49 : decode cX2_init 49 = .ok (.putfield 30, 3) := by decide +kernel
theorem dX2_init_52 : decode cX2_init 52 = .ok (.aload_n 0, 1) := by decide +kernel
theorem dX2_init_53 : decode cX2_init 53 = .ok (.aload_n 2, 1) := by decide +kernel
theorem dX2_init_54 : decode cX2_init 54 = .ok (.putfield 34, 3) := by decide +kernel
theorem dX2_init_57 : decode cX2_init 57 = .ok (.return_, 1) := by decide +kernel
theorem dX2_look_0 : decode cX2_look 0 = .ok (.aload_n 0, 1) := by decide +kernel
theorem dX2_look_1 : decode cX2_look 1 = .ok (.getfield 34, 3) := by decide +kernel
theorem dX2_look_4 : decode cX2_look 4 = .ok (.invokevirtual 38, 3) := by decide +kernel
theorem dX2_look_7 : decode cX2_look 7 = .ok (.iconst 0, 1) := by decide +kernel
theorem dX2_look_8 : decode cX2_look 8 = .ok (.istore_n 3, 1) := by decide +kernel
theorem dX2_look_9 : decode cX2_look 9 = .ok (.iload_n 3, 1) := by decide +kernel
theorem dX2_look_10 : decode cX2_look 10 = .ok (.iconst 3, 1) := by decide +kernel
theorem dX2_look_11 : decode cX2_look 11 = .ok (.if_icmp .ge 126, 3) := by decide +kernel
theorem dX2_look_14 : decode cX2_look 14 = .ok (.aload_n 0, 1) := by decide +kernel
theorem dX2_look_15 : decode cX2_look 15 = .ok (.getfield 27, 3) := by decide +kernel
theorem dX2_look_18 : decode cX2_look 18 = .ok (.iload_n 3, 1) := by decide +kernel
theorem dX2_look_19 : decode cX2_look 19 = .ok (.iconst 0, 1) := by decide +kernel
theorem dX2_look_20 : decode cX2_look 20 = .ok (.iastore, 1) := by decide +kernel
theorem dX2_look_21 : decode cX2_look 21 = .ok (.aload_n 0, 1) := by decide +kernel
theorem dX2_look_22 : decode cX2_look 22 = .ok (.iload_n 3, 1) := by decide +kernel
theorem dX2_look_23 : decode cX2_look 23 = .ok (.iconst 0, 1) := by decide +kernel
theorem dX2_look_24 : decode cX2_look 24 = .ok (.iconst 0, 1) := by decide +kernel
theorem dX2_look_25 : decode cX2_look 25 = .ok (.iconst 0, 1) := by decide +kernel
theorem dX2_look_26 : decode cX2_look 26 = .ok (.invokevirtual 41, 3) := by decide +kernel
theorem dX2_look_29 : decode cX2_look 29 = .ok (.iload_n 3, 1) := by decide +kernel
theorem dX2_look_30 : decode cX2_look 30 = .ok (.aload_n 0, 1) := by decide +kernel
theorem dX2_look_31 : decode cX2_look 31 = .ok (.getfield 30, 3) := by decide +kernel
theorem dX2_look_34 : decode cX2_look 34 = .ok (.getfield 45, 3) := by decide +kernel
theorem dX2_look_37 : decode cX2_look 37 = .ok (.iconst 2, 1) := by decide +kernel
theorem dX2_look_38 : decode cX2_look 38 = .ok (.iaload, 1) := by decide +kernel
theorem dX2_look_39 : decode cX2_look 39 = .ok (.if_icmp .ge 17, 3) := by decide +kernel
theorem dX2_look_42 : decode cX2_look 42 = .ok (.iconst 3, 1) := by decide +kernel
theorem dX2_look_43 : decode cX2_look 43 = .ok (.aload_n 0, 1) := by decide +kernel
theorem dX2_look_44 : decode cX2_look 44 = .ok (.getfield 34, 3) := by decide +kernel
theorem dX2_look_47 : decode cX2_look 47 = .ok (.getfield 50, 3) := by decide +kernel
theorem dX2_look_50 : decode cX2_look 50 = .ok (.iload_n 3, 1) := by decide +kernel
theorem dX2_look_51 : decode cX2_look 51 = .ok (.iaload, 1) := by decide +kernel
theorem dX2_look_52 : decode cX2_look 52 = .ok (.imul, 1) := by decide +kernel
theorem dX2_look_53 : decode cX2_look 53 = .ok (.goto 4, 3) := by decide +kernel
theorem dX2_look_56 : decode cX2_look 56 = .ok (.iconst 0, 1) := by decide +kernel
theorem dX2_look_57 : decode cX2_look 57 = .ok (.istore 4, 2) := by decide +kernel
theorem dX2_look_59 : decode cX2_look 59 = .ok (.iconst 1, 1) := by decide +kernel
theorem dX2_look_60 : decode cX2_look 60 = .ok (.istore 5, 2) := by decide +kernel
theorem dX2_look_62 : decode cX2_look 62 = .ok (.iload 5, 2) := by decide +kernel
theorem dX2_look_64 : decode cX2_look 64 = .ok (.iload 4, 2) := by decide +kernel
theorem dX2_look_66 : decode cX2_look 66 = .ok (.if_icmp .gt 65, 3) := by decide +kernel
theorem dX2_look_69 : decode cX2_look 69 = .ok (.aload_n 0, 1) := by decide +kernel
theorem dX2_look_70 : decode cX2_look 70 = .ok (.getfield 34, 3) := by decide +kernel
theorem dX2_look_73 : decode cX2_look 73 = .ok (.iload_n 3, 1) := by decide +kernel
theorem dX2_look_74 : decode cX2_look 74 = .ok (.iload 5, 2) := by decide +kernel
theorem dX2_look_76 : decode cX2_look 76 = .ok (.invokevirtual 53, 3) := by decide +kernel
theorem dX2_look_79 : decode cX2_look 79 = .ok (.astore 6, 2) := by decide +kernel
theorem dX2_look_81 : decode cX2_look 81 = .ok (.aload_n 0, 1) := by decide +kernel
theorem dX2_look_82 : decode cX2_look 82 = .ok (.getfield 30, 3) := by decide +kernel
theorem dX2_look_85 : decode cX2_look 85 = .ok (.iload_n 3, 1) := by decide +kernel
theorem dX2_look_86 : decode cX2_look 86 = .ok (.aload 6, 2) := by decide +kernel
theorem dX2_look_88 : decode cX2_look 88 = .ok (.aload_n 0, 1) := by decide +kernel
theorem dX2_look_89 : decode cX2_look 89 = .ok (.getfield 34, 3) := by decide +kernel
theorem dX2_look_92 : decode cX2_look 92 = .ok (.iload 5, 2) := by decide +kernel
theorem dX2_look_94 : decode cX2_look 94 = .ok (.invokevirtual 57, 3) := by decide +kernel
theorem dX2_look_97 : decode cX2_look 97 = .ok (.iload_n 2, 1) := by decide +kernel
theorem dX2_look_98 : decode cX2_look 98 = .ok (.invokevirtual 61, 3) := by decide +kernel
theorem dX2_look_101 : decode cX2_look 101 = .ok (.istore 7, 2) := by decide +kernel
theorem dX2_look_103 : decode cX2_look 103 = .ok (.iload 7, 2) := by decide +kernel
theorem dX2_look_105 : decode cX2_look 105 = .ok (.iload_n 1, 1) := by decide +kernel
theorem dX2_look_106 : decode cX2_look 106 = .ok (.iconst (-1), 1) := by decide +kernel
theorem dX2_look_107 : decode cX2_look 107 = .ok (.ixor, 1) := by decide +kernel
theorem dX2_look_108 : decode cX2_look 108 = .ok (.iand, 1) := by decide +kernel
theorem dX2_look_109 : decode cX2_look 109 = .ok (.ifCond .ne 16, 3) := by decide +kernel
theorem dX2_look_112 : decode cX2_look 112 = .ok (.aload_n 0, 1) := by decide +kernel
theorem dX2_look_113 : decode cX2_look 113 = .ok (.iload_n 3, 1) := by decide +kernel
theorem dX2_look_114 : decode cX2_look 114 = .ok (.iload 7, 2) := by decide +kernel
theorem dX2_look_116 : decode cX2_look 116 = .ok (.aload 6, 2) := by decide +kernel
theorem dX2_look_118 : decode cX2_look 118 = .ok (.getfield 65, 3) := by decide +kernel
theorem dX2_look_121 : decode cX2_look 121 = .ok (.iconst 1, 1) := by decide +kernel
theorem dX2_look_122 : decode cX2_look 122 = .ok (.invokevirtual 41, 3) := by decide +kernel
theorem dX2_look_125 : decode cX2_look 125 = .ok (.iinc 5 1, 3) := by decide +kernel
theorem dX2_look_128 : decode cX2_look 128 = .ok (.goto (-66), 3) := by decide +kernel
theorem dX2_look_131 : decode cX2_look 131 = .ok (.iinc 3 1, 3) := by decide +kernel
theorem dX2_look_134 : decode cX2_look 134 = .ok (.goto (-125), 3) := by decide +kernel
theorem dX2_look_137 : decode cX2_look 137 = .ok (.aload_n 0, 1) := by decide +kernel
theorem dX2_look_138 : decode cX2_look 138 = .ok (.iload_n 1, 1) := by decide +kernel
theorem dX2_look_139 : decode cX2_look 139 = .ok (.invokevirtual 71, 3) := by decide +kernel
theorem dX2_look_142 : decode cX2_look 142 = .ok (.return_, 1) := by decide +kernel
theorem dX3_add_0 : decode cX3_add 0 = .ok (.aload_n 0, 1) := by decide +kernel
theorem dX3_add_1 : decode cX3_add 1 = .ok (.getfield 42, 3) := by decide +kernel
theorem dX3_add_4 : decode cX3_add 4 = .ok (.sipush 1201, 3) := by decide +kernel
theorem dX3_add_7 : decode cX3_add 7 = .ok (.if_icmp .ge 54, 3) := by decide +kernel
theorem dX3_add_10 : decode cX3_add 10 = .ok (.aload_n 0, 1) := by decide +kernel
theorem dX3_add_11 : decode cX3_add 11 = .ok (.getfield 11, 3) := by decide +kernel
theorem dX3_add_14 : decode cX3_add 14 = .ok (.aload_n 0, 1) := by decide +kernel
theorem dX3_add_15 : decode cX3_add 15 = .ok (.getfield 42, 3) := by decide +kernel
theorem dX3_add_18 : decode cX3_add 18 = .ok (.iload_n 1, 1) := by decide +kernel
theorem dX3_add_19 : decode cX3_add 19 = .ok (.iastore, 1) := by decide +kernel
theorem dX3_add_20 : decode cX3_add 20 = .ok (.aload_n 0, 1) := by decide +kernel
theorem dX3_add_21 : decode cX3_add 21 = .ok (.getfield 15, 3) := by decide +kernel
theorem dX3_add_24 : decode cX3_add 24 = .ok (.aload_n 0, 1) := by decide +kernel
theorem dX3_add_25 : decode cX3_add 25 = .ok (.getfield 42, 3) := by decide +kernel
theorem dX3_add_28 : decode cX3_add 28 = .ok (.iload_n 2, 1) := by decide +kernel
theorem dX3_add_29 : decode cX3_add 29 = .ok (.iastore, 1) := by decide +kernel
theorem dX3_add_30 : decode cX3_add 30 = .ok (.aload_n 0, 1) := by decide +kernel
theorem dX3_add_31 : decode cX3_add 31 = .ok (.getfield 18, 3) := by decide +kernel
theorem dX3_add_34 : decode cX3_add 34 = .ok (.aload_n 0, 1) := by decide +kernel
theorem dX3_add_35 : decode cX3_add 35 = .ok (.getfield 42, 3) := by decide +kernel
theorem dX3_add_38 : decode cX3_add 38 = .ok (.iload_n 3, 1) := by decide +kernel
theorem dX3_add_39 : decode cX3_add 39 = .ok (.iastore, 1) := by decide +kernel
theorem dX3_add_40 : decode cX3_add 40 = .ok (.aload_n 0, 1) := by decide +kernel
theorem dX3_add_41 : decode cX3_add 41 = .ok (.getfield 21, 3) := by decide +kernel
theorem dX3_add_44 : decode cX3_add 44 = .ok (.aload_n 0, 1) := by decide +kernel
theorem dX3_add_45 : decode cX3_add 45 = .ok (.getfield 42, 3) := by decide +kernel
theorem dX3_add_48 : decode cX3_add 48 = .ok (.iload 4, 2) := by decide +kernel
theorem dX3_add_50 : decode cX3_add 50 = .ok (.iastore, 1) := by decide +kernel
theorem dX3_add_51 : decode cX3_add 51 = .ok (.aload_n 0, 1) := by decide +kernel
theorem dX3_add_52 : decode cX3_add 52 = .ok (.dup, 1) := by decide +kernel
theorem dX3_add_53 : decode cX3_add 53 = .ok (.getfield 42, 3) := by decide +kernel
theorem dX3_add_56 : decode cX3_add 56 = .ok (.iconst 1, 1) := by decide +kernel
theorem dX3_add_57 : decode cX3_add 57 = .ok (.iadd, 1) := by decide +kernel
theorem dX3_add_58 : decode cX3_add 58 = .ok (.putfield 42, 3) := by decide +kernel
theorem dX3_add_61 : decode cX3_add 61 = .ok (.return_, 1) := by decide +kernel
theorem dX3_drums_0 : decode cX3_drums 0 = .ok (.aload_n 2, 1) := by decide +kernel
theorem dX3_drums_1 : decode cX3_drums 1 = .ok (.getfield 68, 3) := by decide +kernel
theorem dX3_drums_4 : decode cX3_drums 4 = .ok (.iload_n 3, 1) := by decide +kernel
theorem dX3_drums_5 : decode cX3_drums 5 = .ok (.iadd, 1) := by decide +kernel
theorem dX3_drums_6 : decode cX3_drums 6 = .ok (.aload 4, 2) := by decide +kernel
theorem dX3_drums_8 : decode cX3_drums 8 = .ok (.getfield 68, 3) := by decide +kernel
theorem dX3_drums_11 : decode cX3_drums 11 = .ok (.iload 5, 2) := by decide +kernel
theorem dX3_drums_13 : decode cX3_drums 13 = .ok (.iadd, 1) := by decide +kernel
theorem dX3_drums_14 : decode cX3_drums 14 = .ok (.invokestatic 71, 3) := by decide +kernel
theorem dX3_drums_17 : decode cX3_drums 17 = .ok (.istore 6, 2) := by decide +kernel
theorem dX3_drums_19 : decode cX3_drums 19 = .ok (.iconst 0, 1) := by decide +kernel
theorem dX3_drums_20 : decode cX3_drums 20 = .ok (.istore 7, 2) := by decide +kernel
theorem dX3_drums_22 : decode cX3_drums 22 = .ok (.iconst 0, 1) := by decide +kernel
theorem dX3_drums_23 : decode cX3_drums 23 = .ok (.istore 8, 2) := by decide +kernel
theorem dX3_drums_25 : decode cX3_drums 25 = .ok (.iconst 0, 1) := by decide +kernel
theorem dX3_drums_26 : decode cX3_drums 26 = .ok (.istore 9, 2) := by decide +kernel
theorem dX3_drums_28 : decode cX3_drums 28 = .ok (.iload 9, 2) := by decide +kernel
theorem dX3_drums_30 : decode cX3_drums 30 = .ok (.iload 6, 2) := by decide +kernel
theorem dX3_drums_32 : decode cX3_drums 32 = .ok (.if_icmp .gt 189, 3) := by decide +kernel
theorem dX3_drums_35 : decode cX3_drums 35 = .ok (.aload_n 0, 1) := by decide +kernel
theorem dX3_drums_36 : decode cX3_drums 36 = .ok (.getfield 42, 3) := by decide +kernel
theorem dX3_drums_39 : decode cX3_drums 39 = .ok (.aload_n 0, 1) := by decide +kernel
theorem dX3_drums_40 : decode cX3_drums 40 = .ok (.getfield 28, 3) := by decide +kernel
theorem dX3_drums_43 : decode cX3_drums 43 = .ok (.if_icmp .ge 178, 3) := by decide +kernel
theorem dX3_drums_46 : decode cX3_drums 46 = .ok (.iload 7, 2) := by decide +kernel
theorem dX3_drums_48 : decode cX3_drums 48 = .ok (.aload_n 2, 1) := by decide +kernel
theorem dX3_drums_49 : decode cX3_drums 49 = .ok (.getfield 76, 3) := by decide +kernel
theorem dX3_drums_52 : decode cX3_drums 52 = .ok (.if_icmp .ge 169, 3) := by decide +kernel
theorem dX3_drums_55 : decode cX3_drums 55 = .ok (.iload 8, 2) := by decide +kernel
theorem dX3_drums_57 : decode cX3_drums 57 = .ok (.aload 4, 2) := by decide +kernel
theorem dX3_drums_59 : decode cX3_drums 59 = .ok (.getfield 76, 3) := by decide +kernel
theorem dX3_drums_62 : decode cX3_drums 62 = .ok (.if_icmp .ge 159, 3) := by decide +kernel
theorem dX3_drums_65 : decode cX3_drums 65 = .ok (.iload 7, 2) := by decide +kernel
theorem dX3_drums_67 : decode cX3_drums 67 = .ok (.iconst 1, 1) := by decide +kernel
theorem dX3_drums_68 : decode cX3_drums 68 = .ok (.iadd, 1) := by decide +kernel
theorem dX3_drums_69 : decode cX3_drums 69 = .ok (.aload_n 2, 1) := by decide +kernel
theorem dX3_drums_70 : decode cX3_drums 70 = .ok (.getfield 76, 3) := by decide +kernel
theorem dX3_drums_73 : decode cX3_drums 73 = .ok (.if_icmp .ge 17, 3) := by decide +kernel
theorem dX3_drums_76 : decode cX3_drums 76 = .ok (.aload_n 2, 1) := by decide +kernel
theorem dX3_drums_77 : decode cX3_drums 77 = .ok (.getfield 79, 3) := by decide +kernel
theorem dX3_drums_80 : decode cX3_drums 80 = .ok (.iload 7, 2) := by decide +kernel
theorem dX3_drums_82 : decode cX3_drums 82 = .ok (.iconst 1, 1) := by decide +kernel
theorem dX3_drums_83 : decode cX3_drums 83 = .ok (.iadd, 1) := by decide +kernel
theorem dX3_drums_84 : decode cX3_drums 84 = .ok (.iaload, 1) := by decide +kernel
theorem dX3_drums_85 : decode cX3_drums 85 = .ok (.iload_n 3, 1) := by decide +kernel
theorem dX3_drums_86 : decode cX3_drums 86 = .ok (.iadd, 1) := by decide +kernel
theorem dX3_drums_87 : decode cX3_drums 87 = .ok (.goto 7, 3) := by decide +kernel
theorem dX3_drums_90 : decode cX3_drums 90 = .ok (.iload 6, 2) := by decide +kernel
theorem dX3_drums_92 : decode cX3_drums 92 = .ok (.iconst 1, 1) := by decide +kernel
theorem dX3_drums_93 : decode cX3_drums 93 = .ok (.iadd, 1) := by decide +kernel
theorem dX3_drums_94 : decode cX3_drums 94 = .ok (.istore 10, 2) := by decide +kernel
theorem dX3_drums_96 : decode cX3_drums 96 = .ok (.iload 8, 2) := by decide +kernel
theorem dX3_drums_98 : decode cX3_drums 98 = .ok (.iconst 1, 1) := by decide +kernel
theorem dX3_drums_99 : decode cX3_drums 99 = .ok (.iadd, 1) := by decide +kernel
theorem dX3_drums_100 : decode cX3_drums 100 = .ok (.aload 4, 2) := by decide +kernel
theorem dX3_drums_102 : decode cX3_drums 102 = .ok (.getfield 76, 3) := by decide +kernel
theorem dX3_drums_105 : decode cX3_drums 105 = .ok (.if_icmp .ge 19, 3) := by decide +kernel
theorem dX3_drums_108 : decode cX3_drums 108 = .ok (.aload 4, 2) := by decide +kernel
theorem dX3_drums_110 : decode cX3_drums 110 = .ok (.getfield 79, 3) := by decide +kernel
theorem dX3_drums_113 : decode cX3_drums 113 = .ok (.iload 8, 2) := by decide +kernel
theorem dX3_drums_115 : decode cX3_drums 115 = .ok (.iconst 1, 1) := by decide +kernel
theorem dX3_drums_116 : decode cX3_drums 116 = .ok (.iadd, 1) := by decide +kernel
theorem dX3_drums_117 : decode cX3_drums 117 = .ok (.iaload, 1) := by decide +kernel
theorem dX3_drums_118 : decode cX3_drums 118 = .ok (.iload 5, 2) := by decide +kernel
theorem dX3_drums_120 : decode cX3_drums 120 = .ok (.iadd, 1) := by decide +kernel
theorem dX3_drums_121 : decode cX3_drums 121 = .ok (.goto 7, 3) := by decide +kernel
theorem dX3_drums_124 : decode cX3_drums 124 = .ok (.iload 6, 2) := by decide +kernel
theorem dX3_drums_126 : decode cX3_drums 126 = .ok (.iconst 1, 1) := by decide +kernel
theorem dX3_drums_127 : decode cX3_drums 127 = .ok (.iadd, 1) := by decide +kernel
theorem dX3_drums_128 : decode cX3_drums 128 = .ok (.istore 11, 2) := by decide +kernel
theorem dX3_drums_130 : decode cX3_drums 130 = .ok (.iload 6, 2) := by decide +kernel
theorem dX3_drums_132 : decode cX3_drums 132 = .ok (.iload 10, 2) := by decide +kernel
theorem dX3_drums_134 : decode cX3_drums 134 = .ok (.iload 11, 2) := by decide +kernel
theorem dX3_drums_136 : decode cX3_drums 136 = .ok (.invokestatic 71, 3) := by decide +kernel
theorem dX3_drums_139 : decode cX3_drums 139 = .ok (.iconst 1, 1) := by decide +kernel
theorem dX3_drums_140 : decode cX3_drums 140 = .ok (.isub, 1) := by decide +kernel
theorem dX3_drums_141 : decode cX3_drums 141 = .ok (.invokestatic 71, 3) := by decide +kernel
theorem dX3_drums_144 : decode cX3_drums 144 = .ok (.istore 12, 2) := by decide +kernel
theorem dX3_drums_146 : decode cX3_drums 146 = .ok (.aload_n 0, 1) := by decide +kernel
theorem dX3_drums_147 : decode cX3_drums 147 = .ok (.getfield 24, 3) := by decide +kernel
theorem dX3_drums_150 : decode cX3_drums 150 = .ok (.getfield 82, 3) := by decide +kernel
theorem dX3_drums_153 : decode cX3_drums 153 = .ok (.aload_n 2, 1) := by decide +kernel
theorem dX3_drums_154 : decode cX3_drums 154 = .ok (.getfield 85, 3) := by decide +kernel
theorem dX3_drums_157 : decode cX3_drums 157 = .ok (.iload 7, 2) := by decide +kernel
theorem dX3_drums_159 : decode cX3_drums 159 = .ok (.iaload, 1) := by decide +kernel
theorem dX3_drums_160 : decode cX3_drums 160 = .ok (.bipush 10, 2) := by decide +kernel
theorem dX3_drums_162 : decode cX3_drums 162 = .ok (.imul, 1) := by decide +kernel
theorem dX3_drums_163 : decode cX3_drums 163 = .ok (.aload 4, 2) := by decide +kernel
theorem dX3_drums_165 : decode cX3_drums 165 = .ok (.getfield 85, 3) := by decide +kernel
theorem dX3_drums_168 : decode cX3_drums 168 = .ok (.iload 8, 2) := by decide +kernel
theorem dX3_drums_170 : decode cX3_drums 170 = .ok (.iaload, 1) := by decide +kernel
theorem dX3_drums_171 : decode cX3_drums 171 = .ok (.iadd, 1) := by decide +kernel
theorem dX3_drums_172 : decode cX3_drums 172 = .ok (.iaload, 1) := by decide +kernel
theorem dX3_drums_173 : decode cX3_drums 173 = .ok (.istore 13, 2) := by decide +kernel
theorem dX3_drums_175 : decode cX3_drums 175 = .ok (.iload 13, 2) := by decide +kernel
theorem dX3_drums_177 : decode cX3_drums 177 = .ok (.iload_n 1, 1) := by decide +kernel
theorem dX3_drums_178 : decode cX3_drums 178 = .ok (.if_icmp .gt 14, 3) := by decide +kernel
theorem dX3_drums_181 : decode cX3_drums 181 = .ok (.aload_n 0, 1) := by decide +kernel
theorem dX3_drums_182 : decode cX3_drums 182 = .ok (.iload 9, 2) := by decide +kernel
theorem dX3_drums_184 : decode cX3_drums 184 = .ok (.iload 12, 2) := by decide +kernel
theorem dX3_drums_186 : decode cX3_drums 186 = .ok (.iload 13, 2) := by decide +kernel
theorem dX3_drums_188 : decode cX3_drums 188 = .ok (.iconst (-1), 1) := by decide +kernel
theorem dX3_drums_189 : decode cX3_drums 189 = .ok (.invokevirtual 88, 3) := by decide +kernel
theorem dX3_drums_192 : decode cX3_drums 192 = .ok (.iload 12, 2) := by decide +kernel
theorem dX3_drums_194 : decode cX3_drums 194 = .ok (.iconst 1, 1) := by decide +kernel
theorem dX3_drums_195 : decode cX3_drums 195 = .ok (.iadd, 1) := by decide +kernel
theorem dX3_drums_196 : decode cX3_drums 196 = .ok (.istore 9, 2) := by decide +kernel
theorem dX3_drums_198 : decode cX3_drums 198 = .ok (.iload 10, 2) := by decide +kernel
theorem dX3_drums_200 : decode cX3_drums 200 = .ok (.iload 9, 2) := by decide +kernel
theorem dX3_drums_202 : decode cX3_drums 202 = .ok (.if_icmp .ne 6, 3) := by decide +kernel
theorem dX3_drums_205 : decode cX3_drums 205 = .ok (.iinc 7 1, 3) := by decide +kernel
theorem dX3_drums_208 : decode cX3_drums 208 = .ok (.iload 11, 2) := by decide +kernel
theorem dX3_drums_210 : decode cX3_drums 210 = .ok (.iload 9, 2) := by decide +kernel
theorem dX3_drums_212 : decode cX3_drums 212 = .ok (.if_icmp .ne 6, 3) := by decide +kernel
theorem dX3_drums_215 : decode cX3_drums 215 = .ok (.iinc 8 1, 3) := by decide +kernel
theorem dX3_drums_218 : decode cX3_drums 218 = .ok (.goto (-190), 3) := by decide +kernel
theorem dX3_drums_221 : decode cX3_drums 221 = .ok (.return_, 1) := by decide +kernel
theorem dX3_init_0 : decode cX3_init 0 = .ok (.aload_n 0, 1) := by decide +kernel
theorem dX3_init_1 : decode cX3_init 1 = .ok (.invokespecial 3, 3) := by decide +kernel
theorem dX3_init_4 : decode cX3_init 4 = .ok (.aload_n 0, 1) := by decide +kernel
theorem dX3_init_5 : decode cX3_init 5 = .ok (.sipush 1201, 3) := by decide +kernel
theorem dX3_init_8 : decode cX3_init 8 = .ok (.newarray .int, 2) := by decide +kernel
theorem dX3_init_10 : decode cX3_init 10 = .ok (.putfield 11, 3) := by decide +kernel
theorem dX3_init_13 : decode cX3_init 13 = .ok (.aload_n 0, 1) := by decide +kernel
theorem dX3_init_14 : decode cX3_init 14 = .ok (.sipush 1201, 3) := by decide +kernel
theorem dX3_init_17 : decode cX3_init 17 = .ok (.newarray .int, 2) := by decide +kernel
theorem dX3_init_19 : decode cX3_init 19 = .ok (.putfield 15, 3) := by decide +kernel
theorem dX3_init_22 : decode cX3_init 22 = .ok (.aload_n 0, 1) := by decide +kernel
theorem dX3_init_23 : decode cX3_init 23 = .ok (.sipush 1201, 3) := by decide +kernel
theorem dX3_init_26 : decode cX3_init 26 = .ok (.newarray .int, 2) := by decide +kernel
theorem dX3_init_28 : decode cX3_init 28 = .ok (.putfield 18, 3) := by decide +kernel
theorem dX3_init_31 : decode cX3_init 31 = .ok (.aload_n 0, 1) := by decide +kernel
theorem dX3_init_32 : decode cX3_init 32 = .ok (.sipush 1201, 3) := by decide +kernel
theorem dX3_init_35 : decode cX3_init 35 = .ok (.newarray .int, 2) := by decide +kernel
theorem dX3_init_37 : decode cX3_init 37 = .ok (.putfield 21, 3) := by decide +kernel
theorem dX3_init_40 : decode cX3_init 40 = .ok (.aload_n 0, 1) := by decide +kernel
theorem dX3_init_41 : decode cX3_init 41 = .ok (.aload_n 1, 1) := by decide +kernel
theorem dX3_init_42 : decode cX3_init 42 = .ok (.putfield 24, 3) := by decide +kernel
theorem dX3_init_45 : decode cX3_init 45 = .ok (.return_, 1) := by decide +kernel
theorem dX3_scan_0 : decode cX3_scan 0 = .ok (.aload_n 0, 1) := by decide +kernel
theorem dX3_scan_1 : decode cX3_scan 1 = .ok (.iload_n 1, 1) := by decide +kernel
theorem dX3_scan_2 : decode cX3_scan 2 = .ok (.putfield 36, 3) := by decide +kernel
theorem dX3_scan_5 : decode cX3_scan 5 = .ok (.aload_n 0, 1) := by decide +kernel
theorem dX3_scan_6 : decode cX3_scan 6 = .ok (.iload 4, 2) := by decide +kernel
theorem dX3_scan_8 : decode cX3_scan 8 = .ok (.putfield 39, 3) := by decide +kernel
theorem dX3_scan_11 : decode cX3_scan 11 = .ok (.aload_n 0, 1) := by decide +kernel
theorem dX3_scan_12 : decode cX3_scan 12 = .ok (.iconst 0, 1) := by decide +kernel
theorem dX3_scan_13 : decode cX3_scan 13 = .ok (.putfield 42, 3) := by decide +kernel
theorem dX3_scan_16 : decode cX3_scan 16 = .ok (.aload_n 2, 1) := by decide +kernel
theorem dX3_scan_17 : decode cX3_scan 17 = .ok (.getfield 45, 3) := by decide +kernel
theorem dX3_scan_20 : decode cX3_scan 20 = .ok (.ifCond .ne 7, 3) := by decide +kernel
theorem dX3_scan_23 : decode cX3_scan 23 = .ok (.iload_n 3, 1) := by decide +kernel
theorem dX3_scan_24 : decode cX3_scan 24 = .ok (.ifCond .eq 16, 3) := by decide +kernel
theorem dX3_scan_27 : decode cX3_scan 27 = .ok (.aload 5, 2) := by decide +kernel
theorem dX3_scan_29 : decode cX3_scan 29 = .ok (.getfield 45, 3) := by decide +kernel
theorem dX3_scan_32 : decode cX3_scan 32 = .ok (.ifCond .ne 9, 3) := by decide +kernel
theorem dX3_scan_35 : decode cX3_scan 35 = .ok (.iload 6, 2) := by decide +kernel
theorem dX3_scan_37 : decode cX3_scan 37 = .ok (.ifCond .ne 4, 3) := by decide +kernel
theorem dX3_scan_40 : decode cX3_scan 40 = .ok (.return_, 1) := by decide +kernel
theorem dX3_scan_41 : decode cX3_scan 41 = .ok (.aload_n 0, 1) := by decide +kernel
theorem dX3_scan_42 : decode cX3_scan 42 = .ok (.aload_n 0, 1) := by decide +kernel
theorem dX3_scan_43 : decode cX3_scan 43 = .ok (.getfield 24, 3) := by decide +kernel
theorem dX3_scan_46 : decode cX3_scan 46 = .ok (.iload_n 1, 1) := by decide +kernel
theorem dX3_scan_47 : decode cX3_scan 47 = .ok (.iload 4, 2) := by decide +kernel
theorem dX3_scan_49 : decode cX3_scan 49 = .ok (.invokevirtual 51, 3) := by decide +kernel
theorem dX3_scan_52 : decode cX3_scan 52 = .ok (.aload_n 2, 1) := by decide +kernel
theorem dX3_scan_53 : decode cX3_scan 53 = .ok (.iload_n 3, 1) := by decide +kernel
theorem dX3_scan_54 : decode cX3_scan 54 = .ok (.aload 5, 2) := by decide +kernel
theorem dX3_scan_56 : decode cX3_scan 56 = .ok (.iload 6, 2) := by decide +kernel
theorem dX3_scan_58 : decode cX3_scan 58 = .ok (.invokevirtual 57, 3) := by decide +kernel
theorem dX3_scan_61 : decode cX3_scan 61 = .ok (.aload_n 2, 1) := by decide +kernel
theorem dX3_scan_62 : decode cX3_scan 62 = .ok (.getfield 61, 3) := by decide +kernel
theorem dX3_scan_65 : decode cX3_scan 65 = .ok (.aload 5, 2) := by decide +kernel
theorem dX3_scan_67 : decode cX3_scan 67 = .ok (.getfield 61, 3) := by decide +kernel
theorem dX3_scan_70 : decode cX3_scan 70 = .ok (.iand, 1) := by decide +kernel
theorem dX3_scan_71 : decode cX3_scan 71 = .ok (.ifCond .eq 26, 3) := by decide +kernel
theorem dX3_scan_74 : decode cX3_scan 74 = .ok (.aload_n 0, 1) := by decide +kernel
theorem dX3_scan_75 : decode cX3_scan 75 = .ok (.aload_n 2, 1) := by decide +kernel
theorem dX3_scan_76 : decode cX3_scan 76 = .ok (.iload_n 3, 1) := by decide +kernel
theorem dX3_scan_77 : decode cX3_scan 77 = .ok (.iload 4, 2) := by decide +kernel
theorem dX3_scan_79 : decode cX3_scan 79 = .ok (.aload 5, 2) := by decide +kernel
theorem dX3_scan_81 : decode cX3_scan 81 = .ok (.iload 6, 2) := by decide +kernel
theorem dX3_scan_83 : decode cX3_scan 83 = .ok (.invokevirtual 64, 3) := by decide +kernel
theorem dX3_scan_86 : decode cX3_scan 86 = .ok (.aload_n 0, 1) := by decide +kernel
theorem dX3_scan_87 : decode cX3_scan 87 = .ok (.aload 5, 2) := by decide +kernel
theorem dX3_scan_89 : decode cX3_scan 89 = .ok (.iload 6, 2) := by decide +kernel
theorem dX3_scan_91 : decode cX3_scan 91 = .ok (.iload_n 1, 1) := by decide +kernel
theorem dX3_scan_92 : decode cX3_scan 92 = .ok (.aload_n 2, 1) := by decide +kernel
theorem dX3_scan_93 : decode cX3_scan 93 = .ok (.iload_n 3, 1) := by decide +kernel
theorem dX3_scan_94 : decode cX3_scan 94 = .ok (.invokevirtual 64, 3) := by decide +kernel
theorem dX3_scan_97 : decode cX3_scan 97 = .ok (.return_, 1) := by decide +kernel
theorem dX3_scanAll_0 : decode cX3_scanAll 0 = .ok (.aload_n 0, 1) := by decide +kernel
theorem dX3_scanAll_1 : decode cX3_scanAll 1 = .ok (.sipush 1201, 3) := by decide +kernel
theorem dX3_scanAll_4 : decode cX3_scanAll 4 = .ok (.putfield 28, 3) := by decide +kernel
theorem dX3_scanAll_7 : decode cX3_scanAll 7 = .ok (.aload_n 0, 1) := by decide +kernel
theorem dX3_scanAll_8 : decode cX3_scanAll 8 = .ok (.iload_n 1, 1) := by decide +kernel
theorem dX3_scanAll_9 : decode cX3_scanAll 9 = .ok (.aload_n 3, 1) := by decide +kernel
theorem dX3_scanAll_10 : decode cX3_scanAll 10 = .ok (.iload_n 1, 1) := by decide +kernel
theorem dX3_scanAll_11 : decode cX3_scanAll 11 = .ok (.aaload, 1) := by decide +kernel
theorem dX3_scanAll_12 : decode cX3_scanAll 12 = .ok (.iconst 0, 1) := by decide +kernel
theorem dX3_scanAll_13 : decode cX3_scanAll 13 = .ok (.iload_n 2, 1) := by decide +kernel
theorem dX3_scanAll_14 : decode cX3_scanAll 14 = .ok (.aload_n 3, 1) := by decide +kernel
theorem dX3_scanAll_15 : decode cX3_scanAll 15 = .ok (.iload_n 2, 1) := by decide +kernel
theorem dX3_scanAll_16 : decode cX3_scanAll 16 = .ok (.aaload, 1) := by decide +kernel
theorem dX3_scanAll_17 : decode cX3_scanAll 17 = .ok (.iconst 0, 1) := by decide +kernel
theorem dX3_scanAll_18 : decode cX3_scanAll 18 = .ok (.invokevirtual 32, 3) := by decide +kernel
theorem dX3_scanAll_21 : decode cX3_scanAll 21 = .ok (.return_, 1) := by decide +kernel
theorem dX3_trodden_0 : decode cX3_trodden 0 = .ok (.iconst 1, 1) := by decide +kernel
theorem dX3_trodden_1 : decode cX3_trodden 1 = .ok (.istore 6, 2) := by decide +kernel
theorem dX3_trodden_3 : decode cX3_trodden 3 = .ok (.iload 6, 2) := by decide +kernel
theorem dX3_trodden_5 : decode cX3_trodden 5 = .ok (.aload_n 1, 1) := by decide +kernel
theorem dX3_trodden_6 : decode cX3_trodden 6 = .ok (.getfield 76, 3) := by decide +kernel
theorem dX3_trodden_9 : decode cX3_trodden 9 = .ok (.if_icmp .ge 157, 3) := by decide +kernel
theorem dX3_trodden_12 : decode cX3_trodden 12 = .ok (.aload 4, 2) := by decide +kernel
theorem dX3_trodden_14 : decode cX3_trodden 14 = .ok (.getfield 61, 3) := by decide +kernel
theorem dX3_trodden_17 : decode cX3_trodden 17 = .ok (.aload_n 1, 1) := by decide +kernel
theorem dX3_trodden_18 : decode cX3_trodden 18 = .ok (.getfield 92, 3) := by decide +kernel
theorem dX3_trodden_21 : decode cX3_trodden 21 = .ok (.iload 6, 2) := by decide +kernel
theorem dX3_trodden_23 : decode cX3_trodden 23 = .ok (.iaload, 1) := by decide +kernel
theorem dX3_trodden_24 : decode cX3_trodden 24 = .ok (.ishr, 1) := by decide +kernel
theorem dX3_trodden_25 : decode cX3_trodden 25 = .ok (.iconst 1, 1) := by decide +kernel
theorem dX3_trodden_26 : decode cX3_trodden 26 = .ok (.iand, 1) := by decide +kernel
theorem dX3_trodden_27 : decode cX3_trodden 27 = .ok (.ifCond .ne 6, 3) := by decide +kernel
theorem dX3_trodden_30 : decode cX3_trodden 30 = .ok (.goto 130, 3) := by decide +kernel
theorem dX3_trodden_33 : decode cX3_trodden 33 = .ok (.iconst 1, 1) := by decide +kernel
theorem dX3_trodden_34 : decode cX3_trodden 34 = .ok (.istore 7, 2) := by decide +kernel
theorem dX3_trodden_36 : decode cX3_trodden 36 = .ok (.iload 7, 2) := by decide +kernel
theorem dX3_trodden_38 : decode cX3_trodden 38 = .ok (.aload 4, 2) := by decide +kernel
theorem dX3_trodden_40 : decode cX3_trodden 40 = .ok (.getfield 76, 3) := by decide +kernel
theorem dX3_trodden_43 : decode cX3_trodden 43 = .ok (.if_icmp .ge 117, 3) := by decide +kernel
theorem dX3_trodden_46 : decode cX3_trodden 46 = .ok (.aload_n 0, 1) := by decide +kernel
theorem dX3_trodden_47 : decode cX3_trodden 47 = .ok (.getfield 42, 3) := by decide +kernel
theorem dX3_trodden_50 : decode cX3_trodden 50 = .ok (.aload_n 0, 1) := by decide +kernel
theorem dX3_trodden_51 : decode cX3_trodden 51 = .ok (.getfield 28, 3) := by decide +kernel
theorem dX3_trodden_54 : decode cX3_trodden 54 = .ok (.if_icmp .ge 106, 3) := by decide +kernel
theorem dX3_trodden_57 : decode cX3_trodden 57 = .ok (.aload 4, 2) := by decide +kernel
theorem dX3_trodden_59 : decode cX3_trodden 59 = .ok (.getfield 92, 3) := by decide +kernel
theorem dX3_trodden_62 : decode cX3_trodden 62 = .ok (.iload 7, 2) := by decide +kernel
theorem dX3_trodden_64 : decode cX3_trodden 64 = .ok (.iaload, 1) := by decide +kernel
theorem dX3_trodden_65 : decode cX3_trodden 65 = .ok (.aload_n 1, 1) := by decide +kernel
theorem dX3_trodden_66 : decode cX3_trodden 66 = .ok (.getfield 92, 3) := by decide +kernel
theorem dX3_trodden_69 : decode cX3_trodden 69 = .ok (.iload 6, 2) := by decide +kernel
theorem dX3_trodden_71 : decode cX3_trodden 71 = .ok (.iaload, 1) := by decide +kernel
theorem dX3_trodden_72 : decode cX3_trodden 72 = .ok (.if_icmp .ne 82, 3) := by decide +kernel
theorem dX3_trodden_75 : decode cX3_trodden 75 = .ok (.aload 4, 2) := by decide +kernel
theorem dX3_trodden_77 : decode cX3_trodden 77 = .ok (.getfield 79, 3) := by decide +kernel
theorem dX3_trodden_80 : decode cX3_trodden 80 = .ok (.iload 7, 2) := by decide +kernel
theorem dX3_trodden_82 : decode cX3_trodden 82 = .ok (.iaload, 1) := by decide +kernel
theorem dX3_trodden_83 : decode cX3_trodden 83 = .ok (.iload 5, 2) := by decide +kernel
theorem dX3_trodden_85 : decode cX3_trodden 85 = .ok (.iadd, 1) := by decide +kernel
theorem dX3_trodden_86 : decode cX3_trodden 86 = .ok (.istore 8, 2) := by decide +kernel
theorem dX3_trodden_88 : decode cX3_trodden 88 = .ok (.aload_n 1, 1) := by decide +kernel
theorem dX3_trodden_89 : decode cX3_trodden 89 = .ok (.getfield 93, 3) := by decide +kernel
theorem dX3_trodden_92 : decode cX3_trodden 92 = .ok (.iload 6, 2) := by decide +kernel
theorem dX3_trodden_94 : decode cX3_trodden 94 = .ok (.iaload, 1) := by decide +kernel
theorem dX3_trodden_95 : decode cX3_trodden 95 = .ok (.iload_n 2, 1) := by decide +kernel
theorem dX3_trodden_96 : decode cX3_trodden 96 = .ok (.iadd, 1) := by decide +kernel
theorem dX3_trodden_97 : decode cX3_trodden 97 = .ok (.iconst 1, 1) := by decide +kernel
theorem dX3_trodden_98 : decode cX3_trodden 98 = .ok (.iadd, 1) := by decide +kernel
theorem dX3_trodden_99 : decode cX3_trodden 99 = .ok (.iload 8, 2) := by decide +kernel
theorem dX3_trodden_101 : decode cX3_trodden 101 = .ok (.invokestatic 96, 3) := by decide +kernel
theorem dX3_trodden_104 : decode cX3_trodden 104 = .ok (.istore 9, 2) := by decide +kernel
theorem dX3_trodden_106 : decode cX3_trodden 106 = .ok (.aload_n 1, 1) := by decide +kernel
theorem dX3_trodden_107 : decode cX3_trodden 107 = .ok (.getfield 79, 3) := by decide +kernel
theorem dX3_trodden_110 : decode cX3_trodden 110 = .ok (.iload 6, 2) := by decide +kernel
theorem dX3_trodden_112 : decode cX3_trodden 112 = .ok (.iaload, 1) := by decide +kernel
theorem dX3_trodden_113 : decode cX3_trodden 113 = .ok (.iload_n 2, 1) := by decide +kernel
theorem dX3_trodden_114 : decode cX3_trodden 114 = .ok (.iadd, 1) := by decide +kernel
theorem dX3_trodden_115 : decode cX3_trodden 115 = .ok (.aload_n 0, 1) := by decide +kernel
theorem dX3_trodden_116 : decode cX3_trodden 116 = .ok (.getfield 24, 3) := by decide +kernel
theorem dX3_trodden_119 : decode cX3_trodden 119 = .ok (.iload_n 3, 1) := by decide +kernel
theorem dX3_trodden_120 : decode cX3_trodden 120 = .ok (.iload 8, 2) := by decide +kernel
theorem dX3_trodden_122 : decode cX3_trodden 122 = .ok (.invokevirtual 99, 3) := by decide +kernel
theorem dX3_trodden_125 : decode cX3_trodden 125 = .ok (.invokestatic 71, 3) := by decide +kernel
theorem dX3_trodden_128 : decode cX3_trodden 128 = .ok (.istore 10, 2) := by decide +kernel
theorem dX3_trodden_130 : decode cX3_trodden 130 = .ok (.iload 9, 2) := by decide +kernel
theorem dX3_trodden_132 : decode cX3_trodden 132 = .ok (.iload 10, 2) := by decide +kernel
theorem dX3_trodden_134 : decode cX3_trodden 134 = .ok (.if_icmp .gt 20, 3) := by decide +kernel
theorem dX3_trodden_137 : decode cX3_trodden 137 = .ok (.aload_n 0, 1) := by decide +kernel
theorem dX3_trodden_138 : decode cX3_trodden 138 = .ok (.iload 9, 2) := by decide +kernel
theorem dX3_trodden_140 : decode cX3_trodden 140 = .ok (.iload 10, 2) := by decide +kernel
theorem dX3_trodden_142 : decode cX3_trodden 142 = .ok (.bipush 21, 2) := by decide +kernel
theorem dX3_trodden_144 : decode cX3_trodden 144 = .ok (.aload_n 1, 1) := by decide +kernel
theorem dX3_trodden_145 : decode cX3_trodden 145 = .ok (.getfield 92, 3) := by decide +kernel
theorem dX3_trodden_148 : decode cX3_trodden 148 = .ok (.iload 6, 2) := by decide +kernel
theorem dX3_trodden_150 : decode cX3_trodden 150 = .ok (.iaload, 1) := by decide +kernel
theorem dX3_trodden_151 : decode cX3_trodden 151 = .ok (.invokevirtual 88, 3) := by decide +kernel
theorem dX3_trodden_154 : decode cX3_trodden 154 = .ok (.iinc 7 1, 3) := by decide +kernel
theorem dX3_trodden_157 : decode cX3_trodden 157 = .ok (.goto (-121), 3) := by decide +kernel
theorem dX3_trodden_160 : decode cX3_trodden 160 = .ok (.iinc 6 1, 3) := by decide +kernel
theorem dX3_trodden_163 : decode cX3_trodden 163 = .ok (.goto (-160), 3) := by decide +kernel
theorem dX3_trodden_166 : decode cX3_trodden 166 = .ok (.return_, 1) := by decide +kernel
theorem dX4_excuses_0 : decode cX4_excuses 0 = .ok (.iconst 0, 1) := by decide +kernel
theorem dX4_excuses_1 : decode cX4_excuses 1 = .ok (.istore 4, 2) := by decide +kernel
theorem dX4_excuses_3 : decode cX4_excuses 3 = .ok (.iload 4, 2) := by decide +kernel
theorem dX4_excuses_5 : decode cX4_excuses 5 = .ok (.bipush 64, 2) := by decide +kernel
theorem dX4_excuses_7 : decode cX4_excuses 7 = .ok (.if_icmp .ge 29, 3) := by decide +kernel
theorem dX4_excuses_10 : decode cX4_excuses 10 = .ok (.lload_n 2, 1) := by decide +kernel
theorem dX4_excuses_11 : decode cX4_excuses 11 = .ok (.iload 4, 2) := by decide +kernel
theorem dX4_excuses_13 : decode cX4_excuses 13 = .ok (.lushr, 1) := by decide +kernel
theorem dX4_excuses_14 : decode cX4_excuses 14 = .ok (.lconst 1, 1) := by decide +kernel
theorem dX4_excuses_15 : decode cX4_excuses 15 = .ok (.land, 1) := by decide +kernel
theorem dX4_excuses_16 : decode cX4_excuses 16 = .ok (.lconst 0, 1) := by decide +kernel
theorem dX4_excuses_17 : decode cX4_excuses 17 = .ok (.lcmp, 1) := by decide +kernel
theorem dX4_excuses_18 : decode cX4_excuses 18 = .ok (.ifCond .eq 12, 3) := by decide +kernel
theorem dX4_excuses_21 : decode cX4_excuses 21 = .ok (.iload 4, 2) := by decide +kernel
theorem dX4_excuses_23 : decode cX4_excuses 23 = .ok (.iload_n 1, 1) := by decide +kernel
theorem dX4_excuses_24 : decode cX4_excuses 24 = .ok (.iand, 1) := by decide +kernel
theorem dX4_excuses_25 : decode cX4_excuses 25 = .ok (.ifCond .ne 5, 3) := by decide +kernel
theorem dX4_excuses_28 : decode cX4_excuses 28 = .ok (.iconst 0, 1) := by decide +kernel
theorem dX4_excuses_29 : decode cX4_excuses 29 = .ok (.ireturn, 1) := by decide +kernel
theorem dX4_excuses_30 : decode cX4_excuses 30 = .ok (.iinc 4 1, 3) := by decide +kernel
theorem dX4_excuses_33 : decode cX4_excuses 33 = .ok (.goto (-30), 3) := by decide +kernel
theorem dX4_excuses_36 : decode cX4_excuses 36 = .ok (.iconst 1, 1) := by decide +kernel
theorem dX4_excuses_37 : decode cX4_excuses 37 = .ok (.ireturn, 1) := by decide +kernel
theorem dX4_firstClash_0 : decode cX4_firstClash 0 = .ok (.sipush 2000, 3) := by decide +kernel
theorem dX4_firstClash_3 : decode cX4_firstClash 3 = .ok (.istore_n 2, 1) := by decide +kernel
theorem dX4_firstClash_4 : decode cX4_firstClash 4 = .ok (.iconst (-1), 1) := by decide +kernel
theorem dX4_firstClash_5 : decode cX4_firstClash 5 = .ok (.istore_n 3, 1) := by decide +kernel
theorem dX4_firstClash_6 : decode cX4_firstClash 6 = .ok (.iconst (-1), 1) := by decide +kernel
theorem dX4_firstClash_7 : decode cX4_firstClash 7 = .ok (.istore 4, 2) := by decide +kernel
theorem dX4_firstClash_9 : decode cX4_firstClash 9 = .ok (.iconst 0, 1) := by decide +kernel
theorem dX4_firstClash_10 : decode cX4_firstClash 10 = .ok (.istore 5, 2) := by decide +kernel
theorem dX4_firstClash_12 : decode cX4_firstClash 12 = .ok (.iload 5, 2) := by decide +kernel
theorem dX4_firstClash_14 : decode cX4_firstClash 14 = .ok (.aload_n 0, 1) := by decide +kernel
theorem dX4_firstClash_15 : decode cX4_firstClash 15 = .ok (.getfield 15, 3) := by decide +kernel
theorem dX4_firstClash_18 : decode cX4_firstClash 18 = .ok (.getfield 58, 3) := by decide +kernel
theorem dX4_firstClash_21 : decode cX4_firstClash 21 = .ok (.iconst 2, 1) := by decide +kernel
theorem dX4_firstClash_22 : decode cX4_firstClash 22 = .ok (.iaload, 1) := by decide +kernel
theorem dX4_firstClash_23 : decode cX4_firstClash 23 = .ok (.if_icmp .ge 61, 3) := by decide +kernel
theorem dX4_firstClash_26 : decode cX4_firstClash 26 = .ok (.iload 5, 2) := by decide +kernel
theorem dX4_firstClash_28 : decode cX4_firstClash 28 = .ok (.iconst 1, 1) := by decide +kernel
theorem dX4_firstClash_29 : decode cX4_firstClash 29 = .ok (.iadd, 1) := by decide +kernel
theorem dX4_firstClash_30 : decode cX4_firstClash 30 = .ok (.istore 6, 2) := by decide +kernel
theorem dX4_firstClash_32 : decode cX4_firstClash 32 = .ok (.iload 6, 2) := by decide +kernel
theorem dX4_firstClash_34 : decode cX4_firstClash 34 = .ok (.aload_n 0, 1) := by decide +kernel
theorem dX4_firstClash_35 : decode cX4_firstClash 35 = .ok (.getfield 15, 3) := by decide +kernel
theorem dX4_firstClash_38 : decode cX4_firstClash 38 = .ok (.getfield 58, 3) := by decide +kernel
theorem dX4_firstClash_41 : decode cX4_firstClash 41 = .ok (.iconst 2, 1) := by decide +kernel
theorem dX4_firstClash_42 : decode cX4_firstClash 42 = .ok (.iaload, 1) := by decide +kernel
theorem dX4_firstClash_43 : decode cX4_firstClash 43 = .ok (.if_icmp .ge 35, 3) := by decide +kernel
theorem dX4_firstClash_46 : decode cX4_firstClash 46 = .ok (.aload_n 0, 1) := by decide +kernel
theorem dX4_firstClash_47 : decode cX4_firstClash 47 = .ok (.iload 5, 2) := by decide +kernel
theorem dX4_firstClash_49 : decode cX4_firstClash 49 = .ok (.iload 6, 2) := by decide +kernel
theorem dX4_firstClash_51 : decode cX4_firstClash 51 = .ok (.invokevirtual 61, 3) := by decide +kernel
theorem dX4_firstClash_54 : decode cX4_firstClash 54 = .ok (.istore 7, 2) := by decide +kernel
theorem dX4_firstClash_56 : decode cX4_firstClash 56 = .ok (.iload 7, 2) := by decide +kernel
theorem dX4_firstClash_58 : decode cX4_firstClash 58 = .ok (.iload_n 2, 1) := by decide +kernel
theorem dX4_firstClash_59 : decode cX4_firstClash 59 = .ok (.if_icmp .ge 13, 3) := by decide +kernel
theorem dX4_firstClash_62 : decode cX4_firstClash 62 = .ok (.iload 7, 2) := by decide +kernel
theorem dX4_firstClash_64 : decode cX4_firstClash 64 = .ok (.istore_n 2, 1) := by decide +kernel
theorem dX4_firstClash_65 : decode cX4_firstClash 65 = .ok (.iload 5, 2) := by decide +kernel
theorem dX4_firstClash_67 : decode cX4_firstClash 67 = .ok (.istore_n 3, 1) := by decide +kernel
theorem dX4_firstClash_68 : decode cX4_firstClash 68 = .ok (.iload 6, 2) := by decide +kernel
theorem dX4_firstClash_70 : decode cX4_firstClash 70 = .ok (.istore 4, 2) := by decide +kernel
theorem dX4_firstClash_72 : decode cX4_firstClash 72 = .ok (.iinc 6 1, 3) := by decide +kernel
theorem dX4_firstClash_75 : decode cX4_firstClash 75 = .ok (.goto (-43), 3) := by decide +kernel
theorem dX4_firstClash_78 : decode cX4_firstClash 78 = .ok (.iinc 5 1, 3) := by decide +kernel
theorem dX4_firstClash_81 : decode cX4_firstClash 81 = .ok (.goto (-69), 3) := by decide +kernel
theorem dX4_firstClash_84 : decode cX4_firstClash 84 = .ok (.iload_n 3, 1) := by decide +kernel
theorem dX4_firstClash_85 : decode cX4_firstClash 85 = .ok (.iconst (-1), 1) := by decide +kernel
theorem dX4_firstClash_86 : decode cX4_firstClash 86 = .ok (.if_icmp .ne 5, 3) := by decide +kernel
theorem dX4_firstClash_89 : decode cX4_firstClash 89 = .ok (.iconst (-1), 1) := by decide +kernel
theorem dX4_firstClash_90 : decode cX4_firstClash 90 = .ok (.ireturn, 1) := by decide +kernel
theorem dX4_firstClash_91 : decode cX4_firstClash 91 = .ok (.iload_n 1, 1) := by decide +kernel
theorem dX4_firstClash_92 : decode cX4_firstClash 92 = .ok (.ifCond .ne 9, 3) := by decide +kernel
theorem dX4_firstClash_95 : decode cX4_firstClash 95 = .ok (.iload_n 2, 1) := by decide +kernel
theorem dX4_firstClash_96 : decode cX4_firstClash 96 = .ok (.iconst 2, 1) := by decide +kernel
theorem dX4_firstClash_97 : decode cX4_firstClash 97 = .ok (.idiv, 1) := by decide +kernel
theorem dX4_firstClash_98 : decode cX4_firstClash 98 = .ok (.goto 25, 3) := by decide +kernel
theorem dX4_firstClash_101 : decode cX4_firstClash 101 = .ok (.iload_n 1, 1) := by decide +kernel
theorem dX4_firstClash_102 : decode cX4_firstClash 102 = .ok (.iconst 1, 1) := by decide +kernel
theorem dX4_firstClash_103 : decode cX4_firstClash 103 = .ok (.if_icmp .ne 9, 3) := by decide +kernel
theorem dX4_firstClash_106 : decode cX4_firstClash 106 = .ok (.iload_n 2, 1) := by decide +kernel
theorem dX4_firstClash_107 : decode cX4_firstClash 107 = .ok (.iconst 2, 1) := by decide +kernel
theorem dX4_firstClash_108 : decode cX4_firstClash 108 = .ok (.irem, 1) := by decide +kernel
theorem dX4_firstClash_109 : decode cX4_firstClash 109 = .ok (.goto 14, 3) := by decide +kernel
theorem dX4_firstClash_112 : decode cX4_firstClash 112 = .ok (.iload_n 1, 1) := by decide +kernel
theorem dX4_firstClash_113 : decode cX4_firstClash 113 = .ok (.iconst 2, 1) := by decide +kernel
theorem dX4_firstClash_114 : decode cX4_firstClash 114 = .ok (.if_icmp .ne 7, 3) := by decide +kernel
theorem dX4_firstClash_117 : decode cX4_firstClash 117 = .ok (.iload_n 3, 1) := by decide +kernel
theorem dX4_firstClash_118 : decode cX4_firstClash 118 = .ok (.goto 5, 3) := by decide +kernel
theorem dX4_firstClash_121 : decode cX4_firstClash 121 = .ok (.iload 4, 2) := by decide +kernel
theorem dX4_firstClash_123 : decode cX4_firstClash 123 = .ok (.ireturn, 1) := by decide +kernel
theorem dX4_firstIn_0 : decode cX4_firstIn 0 = .ok (.aload_n 0, 1) := by decide +kernel
theorem dX4_firstIn_1 : decode cX4_firstIn 1 = .ok (.getfield 19, 3) := by decide +kernel
theorem dX4_firstIn_4 : decode cX4_firstIn 4 = .ok (.getfield 31, 3) := by decide +kernel
theorem dX4_firstIn_7 : decode cX4_firstIn 7 = .ok (.iload_n 1, 1) := by decide +kernel
theorem dX4_firstIn_8 : decode cX4_firstIn 8 = .ok (.aaload, 1) := by decide +kernel
theorem dX4_firstIn_9 : decode cX4_firstIn 9 = .ok (.astore_n 3, 1) := by decide +kernel
theorem dX4_firstIn_10 : decode cX4_firstIn 10 = .ok (.iconst 0, 1) := by decide +kernel
theorem dX4_firstIn_11 : decode cX4_firstIn 11 = .ok (.istore 4, 2) := by decide +kernel
theorem dX4_firstIn_13 : decode cX4_firstIn 13 = .ok (.aload_n 3, 1) := by decide +kernel
theorem dX4_firstIn_14 : decode cX4_firstIn 14 = .ok (.getfield 37, 3) := by decide +kernel
theorem dX4_firstIn_17 : decode cX4_firstIn 17 = .ok (.ifCond .eq 54, 3) := by decide +kernel
theorem dX4_firstIn_20 : decode cX4_firstIn 20 = .ok (.iload 4, 2) := by decide +kernel
theorem dX4_firstIn_22 : decode cX4_firstIn 22 = .ok (.aload_n 3, 1) := by decide +kernel
theorem dX4_firstIn_23 : decode cX4_firstIn 23 = .ok (.getfield 43, 3) := by decide +kernel
theorem dX4_firstIn_26 : decode cX4_firstIn 26 = .ok (.if_icmp .ge 45, 3) := by decide +kernel
theorem dX4_firstIn_29 : decode cX4_firstIn 29 = .ok (.aload_n 0, 1) := by decide +kernel
theorem dX4_firstIn_30 : decode cX4_firstIn 30 = .ok (.getfield 15, 3) := by decide +kernel
theorem dX4_firstIn_33 : decode cX4_firstIn 33 = .ok (.getfield 47, 3) := by decide +kernel
theorem dX4_firstIn_36 : decode cX4_firstIn 36 = .ok (.aload_n 3, 1) := by decide +kernel
theorem dX4_firstIn_37 : decode cX4_firstIn 37 = .ok (.getfield 52, 3) := by decide +kernel
theorem dX4_firstIn_40 : decode cX4_firstIn 40 = .ok (.iload 4, 2) := by decide +kernel
theorem dX4_firstIn_42 : decode cX4_firstIn 42 = .ok (.iaload, 1) := by decide +kernel
theorem dX4_firstIn_43 : decode cX4_firstIn 43 = .ok (.iaload, 1) := by decide +kernel
theorem dX4_firstIn_44 : decode cX4_firstIn 44 = .ok (.iload_n 2, 1) := by decide +kernel
theorem dX4_firstIn_45 : decode cX4_firstIn 45 = .ok (.if_icmp .ne 20, 3) := by decide +kernel
theorem dX4_firstIn_48 : decode cX4_firstIn 48 = .ok (.iload 4, 2) := by decide +kernel
theorem dX4_firstIn_50 : decode cX4_firstIn 50 = .ok (.ifCond .ne 7, 3) := by decide +kernel
theorem dX4_firstIn_53 : decode cX4_firstIn 53 = .ok (.iconst 0, 1) := by decide +kernel
theorem dX4_firstIn_54 : decode cX4_firstIn 54 = .ok (.goto 10, 3) := by decide +kernel
theorem dX4_firstIn_57 : decode cX4_firstIn 57 = .ok (.aload_n 3, 1) := by decide +kernel
theorem dX4_firstIn_58 : decode cX4_firstIn 58 = .ok (.getfield 55, 3) := by decide +kernel
theorem dX4_firstIn_61 : decode cX4_firstIn 61 = .ok (.iload 4, 2) := by decide +kernel
theorem dX4_firstIn_63 : decode cX4_firstIn 63 = .ok (.iaload, 1) := by decide +kernel
theorem dX4_firstIn_64 : decode cX4_firstIn 64 = .ok (.ireturn, 1) := by decide +kernel
theorem dX4_firstIn_65 : decode cX4_firstIn 65 = .ok (.iinc 4 1, 3) := by decide +kernel
theorem dX4_firstIn_68 : decode cX4_firstIn 68 = .ok (.goto (-55), 3) := by decide +kernel
theorem dX4_firstIn_71 : decode cX4_firstIn 71 = .ok (.iconst (-1), 1) := by decide +kernel
theorem dX4_firstIn_72 : decode cX4_firstIn 72 = .ok (.ireturn, 1) := by decide +kernel
theorem dX4_firstMeeting_0 : decode cX4_firstMeeting 0 = .ok (.sipush 1000, 3) := by decide +kernel
theorem dX4_firstMeeting_3 : decode cX4_firstMeeting 3 = .ok (.istore_n 3, 1) := by decide +kernel
theorem dX4_firstMeeting_4 : decode cX4_firstMeeting 4 = .ok (.aload_n 0, 1) := by decide +kernel
theorem dX4_firstMeeting_5 : decode cX4_firstMeeting 5 = .ok (.getfield 23, 3) := by decide +kernel
theorem dX4_firstMeeting_8 : decode cX4_firstMeeting 8 = .ok (.iload_n 1, 1) := by decide +kernel
theorem dX4_firstMeeting_9 : decode cX4_firstMeeting 9 = .ok (.iload_n 2, 1) := by decide +kernel
theorem dX4_firstMeeting_10 : decode cX4_firstMeeting 10 = .ok (.aload_n 0, 1) := by decide +kernel
theorem dX4_firstMeeting_11 : decode cX4_firstMeeting 11 = .ok (.getfield 19, 3) := by decide +kernel
theorem dX4_firstMeeting_14 : decode cX4_firstMeeting 14 = .ok (.getfield 31, 3) := by decide +kernel
theorem dX4_firstMeeting_17 : decode cX4_firstMeeting 17 = .ok (.invokevirtual 65, 3) := by decide +kernel
theorem dX4_firstMeeting_20 : decode cX4_firstMeeting 20 = .ok (.iconst 0, 1) := by decide +kernel
theorem dX4_firstMeeting_21 : decode cX4_firstMeeting 21 = .ok (.istore 4, 2) := by decide +kernel
theorem dX4_firstMeeting_23 : decode cX4_firstMeeting 23 = .ok (.iload 4, 2) := by decide +kernel
theorem dX4_firstMeeting_25 : decode cX4_firstMeeting 25 = .ok (.aload_n 0, 1) := by decide +kernel
theorem dX4_firstMeeting_26 : decode cX4_firstMeeting 26 = .ok (.getfield 23, 3) := by decide +kernel
theorem dX4_firstMeeting_29 : decode cX4_firstMeeting 29 = .ok (.getfield 71, 3) := by decide +kernel
theorem dX4_firstMeeting_32 : decode cX4_firstMeeting 32 = .ok (.if_icmp .ge 24, 3) := by decide +kernel
theorem dX4_firstMeeting_35 : decode cX4_firstMeeting 35 = .ok (.iload_n 3, 1) := by decide +kernel
theorem dX4_firstMeeting_36 : decode cX4_firstMeeting 36 = .ok (.aload_n 0, 1) := by decide +kernel
theorem dX4_firstMeeting_37 : decode cX4_firstMeeting 37 = .ok (.getfield 23, 3) := by decide +kernel
theorem dX4_firstMeeting_40 : decode cX4_firstMeeting 40 = .ok (.getfield 77, 3) := by decide +kernel
theorem dX4_firstMeeting_43 : decode cX4_firstMeeting 43 = .ok (.iload 4, 2) := by decide +kernel
theorem dX4_firstMeeting_45 : decode cX4_firstMeeting 45 = .ok (.iaload, 1) := by decide +kernel
theorem dX4_firstMeeting_46 : decode cX4_firstMeeting 46 = .ok (.invokestatic 93, 3) := by decide +kernel
theorem dX4_firstMeeting_49 : decode cX4_firstMeeting 49 = .ok (.istore_n 3, 1) := by decide +kernel
theorem dX4_firstMeeting_50 : decode cX4_firstMeeting 50 = .ok (.iinc 4 1, 3) := by decide +kernel
theorem dX4_firstMeeting_53 : decode cX4_firstMeeting 53 = .ok (.goto (-30), 3) := by decide +kernel
theorem dX4_firstMeeting_56 : decode cX4_firstMeeting 56 = .ok (.iload_n 3, 1) := by decide +kernel
theorem dX4_firstMeeting_57 : decode cX4_firstMeeting 57 = .ok (.sipush 1000, 3) := by decide +kernel
theorem dX4_firstMeeting_60 : decode cX4_firstMeeting 60 = .ok (.if_icmp .ge 7, 3) := by decide +kernel
theorem dX4_firstMeeting_63 : decode cX4_firstMeeting 63 = .ok (.iload_n 3, 1) := by decide +kernel
theorem dX4_firstMeeting_64 : decode cX4_firstMeeting 64 = .ok (.goto 4, 3) := by decide +kernel
theorem dX4_firstMeeting_67 : decode cX4_firstMeeting 67 = .ok (.iconst (-1), 1) := by decide +kernel
theorem dX4_firstMeeting_68 : decode cX4_firstMeeting 68 = .ok (.ireturn, 1) := by decide +kernel
theorem dX4_foul_0 : decode cX4_foul 0 = .ok (.iconst 0, 1) := by decide +kernel
theorem dX4_foul_1 : decode cX4_foul 1 = .ok (.istore_n 1, 1) := by decide +kernel
theorem dX4_foul_2 : decode cX4_foul 2 = .ok (.iconst 0, 1) := by decide +kernel
theorem dX4_foul_3 : decode cX4_foul 3 = .ok (.istore_n 2, 1) := by decide +kernel
theorem dX4_foul_4 : decode cX4_foul 4 = .ok (.iload_n 2, 1) := by decide +kernel
theorem dX4_foul_5 : decode cX4_foul 5 = .ok (.aload_n 0, 1) := by decide +kernel
theorem dX4_foul_6 : decode cX4_foul 6 = .ok (.getfield 15, 3) := by decide +kernel
theorem dX4_foul_9 : decode cX4_foul 9 = .ok (.getfield 58, 3) := by decide +kernel
theorem dX4_foul_12 : decode cX4_foul 12 = .ok (.iconst 2, 1) := by decide +kernel
theorem dX4_foul_13 : decode cX4_foul 13 = .ok (.iaload, 1) := by decide +kernel
theorem dX4_foul_14 : decode cX4_foul 14 = .ok (.if_icmp .ge 132, 3) := by decide +kernel
theorem dX4_foul_17 : decode cX4_foul 17 = .ok (.iload_n 2, 1) := by decide +kernel
theorem dX4_foul_18 : decode cX4_foul 18 = .ok (.iconst 1, 1) := by decide +kernel
theorem dX4_foul_19 : decode cX4_foul 19 = .ok (.iadd, 1) := by decide +kernel
theorem dX4_foul_20 : decode cX4_foul 20 = .ok (.istore_n 3, 1) := by decide +kernel
theorem dX4_foul_21 : decode cX4_foul 21 = .ok (.iload_n 3, 1) := by decide +kernel
theorem dX4_foul_22 : decode cX4_foul 22 = .ok (.aload_n 0, 1) := by decide +kernel
theorem dX4_foul_23 : decode cX4_foul 23 = .ok (.getfield 15, 3) := by decide +kernel
theorem dX4_foul_26 : decode cX4_foul 26 = .ok (.getfield 58, 3) := by decide +kernel
theorem dX4_foul_29 : decode cX4_foul 29 = .ok (.iconst 2, 1) := by decide +kernel
theorem dX4_foul_30 : decode cX4_foul 30 = .ok (.iaload, 1) := by decide +kernel
theorem dX4_foul_31 : decode cX4_foul 31 = .ok (.if_icmp .ge 109, 3) := by decide +kernel
theorem dX4_foul_34 : decode cX4_foul 34 = .ok (.aload_n 0, 1) := by decide +kernel
theorem dX4_foul_35 : decode cX4_foul 35 = .ok (.getfield 23, 3) := by decide +kernel
theorem dX4_foul_38 : decode cX4_foul 38 = .ok (.iload_n 2, 1) := by decide +kernel
theorem dX4_foul_39 : decode cX4_foul 39 = .ok (.iload_n 3, 1) := by decide +kernel
theorem dX4_foul_40 : decode cX4_foul 40 = .ok (.aload_n 0, 1) := by decide +kernel
theorem dX4_foul_41 : decode cX4_foul 41 = .ok (.getfield 19, 3) := by decide +kernel
theorem dX4_foul_44 : decode cX4_foul 44 = .ok (.getfield 31, 3) := by decide +kernel
theorem dX4_foul_47 : decode cX4_foul 47 = .ok (.invokevirtual 65, 3) := by decide +kernel
theorem dX4_foul_50 : decode cX4_foul 50 = .ok (.iconst 0, 1) := by decide +kernel
theorem dX4_foul_51 : decode cX4_foul 51 = .ok (.istore 4, 2) := by decide +kernel
theorem dX4_foul_53 : decode cX4_foul 53 = .ok (.iload 4, 2) := by decide +kernel
theorem dX4_foul_55 : decode cX4_foul 55 = .ok (.aload_n 0, 1) := by decide +kernel
theorem dX4_foul_56 : decode cX4_foul 56 = .ok (.getfield 23, 3) := by decide +kernel
theorem dX4_foul_59 : decode cX4_foul 59 = .ok (.getfield 71, 3) := by decide +kernel
theorem dX4_foul_62 : decode cX4_foul 62 = .ok (.if_icmp .ge 72, 3) := by decide +kernel
theorem dX4_foul_65 : decode cX4_foul 65 = .ok (.aload_n 0, 1) := by decide +kernel
theorem dX4_foul_66 : decode cX4_foul 66 = .ok (.getfield 23, 3) := by decide +kernel
theorem dX4_foul_69 : decode cX4_foul 69 = .ok (.getfield 74, 3) := by decide +kernel
theorem dX4_foul_72 : decode cX4_foul 72 = .ok (.iload 4, 2) := by decide +kernel
theorem dX4_foul_74 : decode cX4_foul 74 = .ok (.iaload, 1) := by decide +kernel
theorem dX4_foul_75 : decode cX4_foul 75 = .ok (.bipush 21, 2) := by decide +kernel
theorem dX4_foul_77 : decode cX4_foul 77 = .ok (.if_icmp .ne 51, 3) := by decide +kernel
theorem dX4_foul_80 : decode cX4_foul 80 = .ok (.aload_n 0, 1) := by decide +kernel
theorem dX4_foul_81 : decode cX4_foul 81 = .ok (.getfield 27, 3) := by decide +kernel
theorem dX4_foul_84 : decode cX4_foul 84 = .ok (.aload_n 0, 1) := by decide +kernel
theorem dX4_foul_85 : decode cX4_foul 85 = .ok (.getfield 23, 3) := by decide +kernel
theorem dX4_foul_88 : decode cX4_foul 88 = .ok (.iload 4, 2) := by decide +kernel
theorem dX4_foul_90 : decode cX4_foul 90 = .ok (.aload_n 0, 1) := by decide +kernel
theorem dX4_foul_91 : decode cX4_foul 91 = .ok (.getfield 19, 3) := by decide +kernel
theorem dX4_foul_94 : decode cX4_foul 94 = .ok (.invokevirtual 80, 3) := by decide +kernel
theorem dX4_foul_97 : decode cX4_foul 97 = .ok (.invokevirtual 84, 3) := by decide +kernel
theorem dX4_foul_100 : decode cX4_foul 100 = .ok (.aload_n 0, 1) := by decide +kernel
theorem dX4_foul_101 : decode cX4_foul 101 = .ok (.getfield 23, 3) := by decide +kernel
theorem dX4_foul_104 : decode cX4_foul 104 = .ok (.getfield 90, 3) := by decide +kernel
theorem dX4_foul_107 : decode cX4_foul 107 = .ok (.iload 4, 2) := by decide +kernel
theorem dX4_foul_109 : decode cX4_foul 109 = .ok (.iaload, 1) := by decide +kernel
theorem dX4_foul_110 : decode cX4_foul 110 = .ok (.if_icmp .gt 18, 3) := by decide +kernel
theorem dX4_foul_113 : decode cX4_foul 113 = .ok (.iload_n 1, 1) := by decide +kernel
theorem dX4_foul_114 : decode cX4_foul 114 = .ok (.iconst 1, 1) := by decide +kernel
theorem dX4_foul_115 : decode cX4_foul 115 = .ok (.aload_n 0, 1) := by decide +kernel
theorem dX4_foul_116 : decode cX4_foul 116 = .ok (.getfield 23, 3) := by decide +kernel
theorem dX4_foul_119 : decode cX4_foul 119 = .ok (.getfield 128, 3) := by decide +kernel
theorem dX4_foul_122 : decode cX4_foul 122 = .ok (.iload 4, 2) := by decide +kernel
theorem dX4_foul_124 : decode cX4_foul 124 = .ok (.iaload, 1) := by decide +kernel
theorem dX4_foul_125 : decode cX4_foul 125 = .ok (.ishl, 1) := by decide +kernel
theorem dX4_foul_126 : decode cX4_foul 126 = .ok (.ior, 1) := by decide +kernel
theorem dX4_foul_127 : decode cX4_foul 127 = .ok (.istore_n 1, 1) := by decide +kernel
theorem dX4_foul_128 : decode cX4_foul 128 = .ok (.iinc 4 1, 3) := by decide +kernel
theorem dX4_foul_131 : decode cX4_foul 131 = .ok (.goto (-78), 3) := by decide +kernel
theorem dX4_foul_134 : decode cX4_foul 134 = .ok (.iinc 3 1, 3) := by decide +kernel
theorem dX4_foul_137 : decode cX4_foul 137 = .ok (.goto (-116), 3) := by decide +kernel
theorem dX4_foul_140 : decode cX4_foul 140 = .ok (.iinc 2 1, 3) := by decide +kernel
theorem dX4_foul_143 : decode cX4_foul 143 = .ok (.goto (-139), 3) := by decide +kernel
theorem dX4_foul_146 : decode cX4_foul 146 = .ok (.iload_n 1, 1) := by decide +kernel
theorem dX4_foul_147 : decode cX4_foul 147 = .ok (.ireturn, 1) := by decide +kernel
theorem dX4_heldSets_0 : decode cX4_heldSets 0 = .ok (.lconst 0, 1) := by decide +kernel
theorem dX4_heldSets_1 : decode cX4_heldSets 1 = .ok (.lstore_n 3, 1) := by decide +kernel
theorem dX4_heldSets_2 : decode cX4_heldSets 2 = .ok (.aload_n 0, 1) := by decide +kernel
theorem dX4_heldSets_3 : decode cX4_heldSets 3 = .ok (.getfield 23, 3) := by decide +kernel
theorem dX4_heldSets_6 : decode cX4_heldSets 6 = .ok (.iload_n 1, 1) := by decide +kernel
theorem dX4_heldSets_7 : decode cX4_heldSets 7 = .ok (.iload_n 2, 1) := by decide +kernel
theorem dX4_heldSets_8 : decode cX4_heldSets 8 = .ok (.aload_n 0, 1) := by decide +kernel
theorem dX4_heldSets_9 : decode cX4_heldSets 9 = .ok (.getfield 19, 3) := by decide +kernel
theorem dX4_heldSets_12 : decode cX4_heldSets 12 = .ok (.getfield 31, 3) := by decide +kernel
theorem dX4_heldSets_15 : decode cX4_heldSets 15 = .ok (.invokevirtual 65, 3) := by decide +kernel
theorem dX4_heldSets_18 : decode cX4_heldSets 18 = .ok (.iconst 0, 1) := by decide +kernel
theorem dX4_heldSets_19 : decode cX4_heldSets 19 = .ok (.istore 5, 2) := by decide +kernel
theorem dX4_heldSets_21 : decode cX4_heldSets 21 = .ok (.iload 5, 2) := by decide +kernel
theorem dX4_heldSets_23 : decode cX4_heldSets 23 = .ok (.aload_n 0, 1) := by decide +kernel
theorem dX4_heldSets_24 : decode cX4_heldSets 24 = .ok (.getfield 23, 3) := by decide +kernel
theorem dX4_heldSets_27 : decode cX4_heldSets 27 = .ok (.getfield 71, 3) := by decide +kernel
theorem dX4_heldSets_30 : decode cX4_heldSets 30 = .ok (.if_icmp .ge 68, 3) := by decide +kernel
theorem dX4_heldSets_33 : decode cX4_heldSets 33 = .ok (.aload_n 0, 1) := by decide +kernel
theorem dX4_heldSets_34 : decode cX4_heldSets 34 = .ok (.getfield 23, 3) := by decide +kernel
theorem dX4_heldSets_37 : decode cX4_heldSets 37 = .ok (.getfield 77, 3) := by decide +kernel
theorem dX4_heldSets_40 : decode cX4_heldSets 40 = .ok (.iload 5, 2) := by decide +kernel
theorem dX4_heldSets_42 : decode cX4_heldSets 42 = .ok (.iaload, 1) := by decide +kernel
theorem dX4_heldSets_43 : decode cX4_heldSets 43 = .ok (.istore 6, 2) := by decide +kernel
theorem dX4_heldSets_45 : decode cX4_heldSets 45 = .ok (.iload 6, 2) := by decide +kernel
theorem dX4_heldSets_47 : decode cX4_heldSets 47 = .ok (.aload_n 0, 1) := by decide +kernel
theorem dX4_heldSets_48 : decode cX4_heldSets 48 = .ok (.getfield 23, 3) := by decide +kernel
theorem dX4_heldSets_51 : decode cX4_heldSets 51 = .ok (.getfield 90, 3) := by decide +kernel
theorem dX4_heldSets_54 : decode cX4_heldSets 54 = .ok (.iload 5, 2) := by decide +kernel
theorem dX4_heldSets_56 : decode cX4_heldSets 56 = .ok (.iaload, 1) := by decide +kernel
theorem dX4_heldSets_57 : decode cX4_heldSets 57 = .ok (.if_icmp .gt 35, 3) := by decide +kernel
theorem dX4_heldSets_60 : decode cX4_heldSets 60 = .ok (.lload_n 3, 1) := by decide +kernel
theorem dX4_heldSets_61 : decode cX4_heldSets 61 = .ok (.lconst 1, 1) := by decide +kernel
theorem dX4_heldSets_62 : decode cX4_heldSets 62 = .ok (.aload_n 0, 1) := by decide +kernel
theorem dX4_heldSets_63 : decode cX4_heldSets 63 = .ok (.getfield 27, 3) := by decide +kernel
theorem dX4_heldSets_66 : decode cX4_heldSets 66 = .ok (.iload_n 1, 1) := by decide +kernel
theorem dX4_heldSets_67 : decode cX4_heldSets 67 = .ok (.iload_n 2, 1) := by decide +kernel
theorem dX4_heldSets_68 : decode cX4_heldSets 68 = .ok (.aload_n 0, 1) := by decide +kernel
theorem dX4_heldSets_69 : decode cX4_heldSets 69 = .ok (.getfield 23, 3) := by decide +kernel
theorem dX4_heldSets_72 : decode cX4_heldSets 72 = .ok (.getfield 74, 3) := by decide +kernel
theorem dX4_heldSets_75 : decode cX4_heldSets 75 = .ok (.iload 5, 2) := by decide +kernel
theorem dX4_heldSets_77 : decode cX4_heldSets 77 = .ok (.iaload, 1) := by decide +kernel
theorem dX4_heldSets_78 : decode cX4_heldSets 78 = .ok (.iload 6, 2) := by decide +kernel
theorem dX4_heldSets_80 : decode cX4_heldSets 80 = .ok (.invokevirtual 124, 3) := by decide +kernel
theorem dX4_heldSets_83 : decode cX4_heldSets 83 = .ok (.lshl, 1) := by decide +kernel
theorem dX4_heldSets_84 : decode cX4_heldSets 84 = .ok (.lor, 1) := by decide +kernel
theorem dX4_heldSets_85 : decode cX4_heldSets 85 = .ok (.lstore_n 3, 1) := by decide +kernel
theorem dX4_heldSets_86 : decode cX4_heldSets 86 = .ok (.iinc 6 1, 3) := by decide +kernel
theorem dX4_heldSets_89 : decode cX4_heldSets 89 = .ok (.goto (-44), 3) := by decide +kernel
theorem dX4_heldSets_92 : decode cX4_heldSets 92 = .ok (.iinc 5 1, 3) := by decide +kernel
theorem dX4_heldSets_95 : decode cX4_heldSets 95 = .ok (.goto (-74), 3) := by decide +kernel
theorem dX4_heldSets_98 : decode cX4_heldSets 98 = .ok (.lload_n 3, 1) := by decide +kernel
theorem dX4_heldSets_99 : decode cX4_heldSets 99 = .ok (.lreturn, 1) := by decide +kernel
theorem dX4_init_0 : decode cX4_init 0 = .ok (.aload_n 0, 1) := by decide +kernel
theorem dX4_init_1 : decode cX4_init 1 = .ok (.invokespecial 3, 3) := by decide +kernel
theorem dX4_init_4 : decode cX4_init 4 = .ok (.aload_n 0, 1) := by decide +kernel
theorem dX4_init_5 : decode cX4_init 5 = .ok (.sipush 1000, 3) := by decide +kernel
theorem dX4_init_8 : decode cX4_init 8 = .ok (.newarray .int, 2) := by decide +kernel
theorem dX4_init_10 : decode cX4_init 10 = .ok (.putfield 9, 3) := by decide +kernel
theorem dX4_init_13 : decode cX4_init 13 = .ok (.aload_n 0, 1) := by decide +kernel
theorem dX4_init_14 : decode cX4_init 14 = .ok (.aload_n 1, 1) := by decide +kernel
theorem dX4_init_15 : decode cX4_init 15 = .ok (.putfield 15, 3) := by decide +kernel
theorem dX4_init_18 : decode cX4_init 18 = .ok (.aload_n 0, 1) := by decide +kernel
theorem dX4_init_19 : decode cX4_init 19 = .ok (.aload_n 2, 1) := by decide +kernel
theorem dX4_init_20 : decode cX4_init 20 = .ok (.putfield 19, 3) := by decide +kernel
theorem dX4_init_23 : decode cX4_init 23 = .ok (.aload_n 0, 1) := by decide +kernel
theorem dX4_init_24 : decode cX4_init 24 = .ok (.aload_n 3, 1) := by decide +kernel
theorem dX4_init_25 : decode cX4_init 25 = .ok (.putfield 23, 3) := by decide +kernel
theorem dX4_init_28 : decode cX4_init 28 = .ok (.aload_n 0, 1) := by decide +kernel
theorem dX4_init_29 : decode cX4_init 29 = .ok (.aload 4, 2) := by decide +kernel
theorem dX4_init_31 : decode cX4_init 31 = .ok (.putfield 27, 3) := by decide +kernel
theorem dX4_init_34 : decode cX4_init 34 = .ok (.return_, 1) := by decide +kernel
theorem dX4_joy_0 : decode cX4_joy 0 = .ok (.iconst 0, 1) := by decide +kernel
theorem dX4_joy_1 : decode cX4_joy 1 = .ok (.istore_n 1, 1) := by decide +kernel
theorem dX4_joy_2 : decode cX4_joy 2 = .ok (.iconst 0, 1) := by decide +kernel
theorem dX4_joy_3 : decode cX4_joy 3 = .ok (.istore_n 2, 1) := by decide +kernel
theorem dX4_joy_4 : decode cX4_joy 4 = .ok (.iload_n 2, 1) := by decide +kernel
theorem dX4_joy_5 : decode cX4_joy 5 = .ok (.aload_n 0, 1) := by decide +kernel
theorem dX4_joy_6 : decode cX4_joy 6 = .ok (.getfield 15, 3) := by decide +kernel
theorem dX4_joy_9 : decode cX4_joy 9 = .ok (.getfield 58, 3) := by decide +kernel
theorem dX4_joy_12 : decode cX4_joy 12 = .ok (.iconst 3, 1) := by decide +kernel
theorem dX4_joy_13 : decode cX4_joy 13 = .ok (.iaload, 1) := by decide +kernel
theorem dX4_joy_14 : decode cX4_joy 14 = .ok (.if_icmp .ge 72, 3) := by decide +kernel
theorem dX4_joy_17 : decode cX4_joy 17 = .ok (.iconst 0, 1) := by decide +kernel
theorem dX4_joy_18 : decode cX4_joy 18 = .ok (.istore_n 3, 1) := by decide +kernel
theorem dX4_joy_19 : decode cX4_joy 19 = .ok (.iconst 0, 1) := by decide +kernel
theorem dX4_joy_20 : decode cX4_joy 20 = .ok (.istore 4, 2) := by decide +kernel
theorem dX4_joy_22 : decode cX4_joy 22 = .ok (.iload 4, 2) := by decide +kernel
theorem dX4_joy_24 : decode cX4_joy 24 = .ok (.aload_n 0, 1) := by decide +kernel
theorem dX4_joy_25 : decode cX4_joy 25 = .ok (.getfield 15, 3) := by decide +kernel
theorem dX4_joy_28 : decode cX4_joy 28 = .ok (.getfield 58, 3) := by decide +kernel
theorem dX4_joy_31 : decode cX4_joy 31 = .ok (.iconst 2, 1) := by decide +kernel
theorem dX4_joy_32 : decode cX4_joy 32 = .ok (.iaload, 1) := by decide +kernel
theorem dX4_joy_33 : decode cX4_joy 33 = .ok (.if_icmp .ge 23, 3) := by decide +kernel
theorem dX4_joy_36 : decode cX4_joy 36 = .ok (.iload_n 3, 1) := by decide +kernel
theorem dX4_joy_37 : decode cX4_joy 37 = .ok (.ifCond .ne 19, 3) := by decide +kernel
theorem dX4_joy_40 : decode cX4_joy 40 = .ok (.aload_n 0, 1) := by decide +kernel
theorem dX4_joy_41 : decode cX4_joy 41 = .ok (.iload 4, 2) := by decide +kernel
theorem dX4_joy_43 : decode cX4_joy 43 = .ok (.iload_n 2, 1) := by decide +kernel
theorem dX4_joy_44 : decode cX4_joy 44 = .ok (.iconst 4, 1) := by decide +kernel
theorem dX4_joy_45 : decode cX4_joy 45 = .ok (.imul, 1) := by decide +kernel
theorem dX4_joy_46 : decode cX4_joy 46 = .ok (.invokevirtual 105, 3) := by decide +kernel
theorem dX4_joy_49 : decode cX4_joy 49 = .ok (.istore_n 3, 1) := by decide +kernel
theorem dX4_joy_50 : decode cX4_joy 50 = .ok (.iinc 4 1, 3) := by decide +kernel
theorem dX4_joy_53 : decode cX4_joy 53 = .ok (.goto (-31), 3) := by decide +kernel
theorem dX4_joy_56 : decode cX4_joy 56 = .ok (.iload_n 1, 1) := by decide +kernel
theorem dX4_joy_57 : decode cX4_joy 57 = .ok (.iload_n 3, 1) := by decide +kernel
theorem dX4_joy_58 : decode cX4_joy 58 = .ok (.ifCond .eq 19, 3) := by decide +kernel
theorem dX4_joy_61 : decode cX4_joy 61 = .ok (.aload_n 0, 1) := by decide +kernel
theorem dX4_joy_62 : decode cX4_joy 62 = .ok (.getfield 15, 3) := by decide +kernel
theorem dX4_joy_65 : decode cX4_joy 65 = .ok (.getfield 109, 3) := by decide +kernel
theorem dX4_joy_68 : decode cX4_joy 68 = .ok (.iload_n 2, 1) := by decide +kernel
theorem dX4_joy_69 : decode cX4_joy 69 = .ok (.iconst 4, 1) := by decide +kernel
theorem dX4_joy_70 : decode cX4_joy 70 = .ok (.imul, 1) := by decide +kernel
theorem dX4_joy_71 : decode cX4_joy 71 = .ok (.iconst 3, 1) := by decide +kernel
theorem dX4_joy_72 : decode cX4_joy 72 = .ok (.iadd, 1) := by decide +kernel
theorem dX4_joy_73 : decode cX4_joy 73 = .ok (.iaload, 1) := by decide +kernel
theorem dX4_joy_74 : decode cX4_joy 74 = .ok (.goto 4, 3) := by decide +kernel
theorem dX4_joy_77 : decode cX4_joy 77 = .ok (.iconst 0, 1) := by decide +kernel
theorem dX4_joy_78 : decode cX4_joy 78 = .ok (.iadd, 1) := by decide +kernel
theorem dX4_joy_79 : decode cX4_joy 79 = .ok (.istore_n 1, 1) := by decide +kernel
theorem dX4_joy_80 : decode cX4_joy 80 = .ok (.iinc 2 1, 3) := by decide +kernel
theorem dX4_joy_83 : decode cX4_joy 83 = .ok (.goto (-79), 3) := by decide +kernel
theorem dX4_joy_86 : decode cX4_joy 86 = .ok (.iload_n 1, 1) := by decide +kernel
theorem dX4_joy_87 : decode cX4_joy 87 = .ok (.ireturn, 1) := by decide +kernel
theorem dX4_pleases_0 : decode cX4_pleases 0 = .ok (.aload_n 0, 1) := by decide +kernel
theorem dX4_pleases_1 : decode cX4_pleases 1 = .ok (.getfield 19, 3) := by decide +kernel
theorem dX4_pleases_4 : decode cX4_pleases 4 = .ok (.getfield 31, 3) := by decide +kernel
theorem dX4_pleases_7 : decode cX4_pleases 7 = .ok (.iload_n 1, 1) := by decide +kernel
theorem dX4_pleases_8 : decode cX4_pleases 8 = .ok (.aaload, 1) := by decide +kernel
theorem dX4_pleases_9 : decode cX4_pleases 9 = .ok (.astore_n 3, 1) := by decide +kernel
theorem dX4_pleases_10 : decode cX4_pleases 10 = .ok (.iconst 0, 1) := by decide +kernel
theorem dX4_pleases_11 : decode cX4_pleases 11 = .ok (.istore 4, 2) := by decide +kernel
theorem dX4_pleases_13 : decode cX4_pleases 13 = .ok (.aload_n 3, 1) := by decide +kernel
theorem dX4_pleases_14 : decode cX4_pleases 14 = .ok (.getfield 37, 3) := by decide +kernel
theorem dX4_pleases_17 : decode cX4_pleases 17 = .ok (.ifCond .eq 89, 3) := by decide +kernel
theorem dX4_pleases_20 : decode cX4_pleases 20 = .ok (.iload 4, 2) := by decide +kernel
theorem dX4_pleases_22 : decode cX4_pleases 22 = .ok (.aload_n 3, 1) := by decide +kernel
theorem dX4_pleases_23 : decode cX4_pleases 23 = .ok (.getfield 43, 3) := by decide +kernel
theorem dX4_pleases_26 : decode cX4_pleases 26 = .ok (.if_icmp .ge 80, 3) := by decide +kernel
theorem dX4_pleases_29 : decode cX4_pleases 29 = .ok (.iload 4, 2) := by decide +kernel
theorem dX4_pleases_31 : decode cX4_pleases 31 = .ok (.ifCond .ne 7, 3) := by decide +kernel
theorem dX4_pleases_34 : decode cX4_pleases 34 = .ok (.iconst 0, 1) := by decide +kernel
theorem dX4_pleases_35 : decode cX4_pleases 35 = .ok (.goto 10, 3) := by decide +kernel
theorem dX4_pleases_38 : decode cX4_pleases 38 = .ok (.aload_n 3, 1) := by decide +kernel
theorem dX4_pleases_39 : decode cX4_pleases 39 = .ok (.getfield 55, 3) := by decide +kernel
theorem dX4_pleases_42 : decode cX4_pleases 42 = .ok (.iload 4, 2) := by decide +kernel
theorem dX4_pleases_44 : decode cX4_pleases 44 = .ok (.iaload, 1) := by decide +kernel
theorem dX4_pleases_45 : decode cX4_pleases 45 = .ok (.istore 5, 2) := by decide +kernel
theorem dX4_pleases_47 : decode cX4_pleases 47 = .ok (.aload_n 3, 1) := by decide +kernel
theorem dX4_pleases_48 : decode cX4_pleases 48 = .ok (.getfield 52, 3) := by decide +kernel
theorem dX4_pleases_51 : decode cX4_pleases 51 = .ok (.iload 4, 2) := by decide +kernel
theorem dX4_pleases_53 : decode cX4_pleases 53 = .ok (.iaload, 1) := by decide +kernel
theorem dX4_pleases_54 : decode cX4_pleases 54 = .ok (.aload_n 0, 1) := by decide +kernel
theorem dX4_pleases_55 : decode cX4_pleases 55 = .ok (.getfield 15, 3) := by decide +kernel
theorem dX4_pleases_58 : decode cX4_pleases 58 = .ok (.getfield 109, 3) := by decide +kernel
theorem dX4_pleases_61 : decode cX4_pleases 61 = .ok (.iload_n 2, 1) := by decide +kernel
theorem dX4_pleases_62 : decode cX4_pleases 62 = .ok (.iaload, 1) := by decide +kernel
theorem dX4_pleases_63 : decode cX4_pleases 63 = .ok (.if_icmp .ne 37, 3) := by decide +kernel
theorem dX4_pleases_66 : decode cX4_pleases 66 = .ok (.iload 5, 2) := by decide +kernel
theorem dX4_pleases_68 : decode cX4_pleases 68 = .ok (.aload_n 0, 1) := by decide +kernel
theorem dX4_pleases_69 : decode cX4_pleases 69 = .ok (.getfield 15, 3) := by decide +kernel
theorem dX4_pleases_72 : decode cX4_pleases 72 = .ok (.getfield 109, 3) := by decide +kernel
theorem dX4_pleases_75 : decode cX4_pleases 75 = .ok (.iload_n 2, 1) := by decide +kernel
theorem dX4_pleases_76 : decode cX4_pleases 76 = .ok (.iconst 1, 1) := by decide +kernel
theorem dX4_pleases_77 : decode cX4_pleases 77 = .ok (.iadd, 1) := by decide +kernel
theorem dX4_pleases_78 : decode cX4_pleases 78 = .ok (.iaload, 1) := by decide +kernel
theorem dX4_pleases_79 : decode cX4_pleases 79 = .ok (.if_icmp .lt 21, 3) := by decide +kernel
theorem dX4_pleases_82 : decode cX4_pleases 82 = .ok (.iload 5, 2) := by decide +kernel
theorem dX4_pleases_84 : decode cX4_pleases 84 = .ok (.aload_n 0, 1) := by decide +kernel
theorem dX4_pleases_85 : decode cX4_pleases 85 = .ok (.getfield 15, 3) := by decide +kernel
theorem dX4_pleases_88 : decode cX4_pleases 88 = .ok (.getfield 109, 3) := by decide +kernel
theorem dX4_pleases_91 : decode cX4_pleases 91 = .ok (.iload_n 2, 1) := by decide +kernel
theorem dX4_pleases_92 : decode cX4_pleases 92 = .ok (.iconst 2, 1) := by decide +kernel
theorem dX4_pleases_93 : decode cX4_pleases 93 = .ok (.iadd, 1) := by decide +kernel
theorem dX4_pleases_94 : decode cX4_pleases 94 = .ok (.iaload, 1) := by decide +kernel
theorem dX4_pleases_95 : decode cX4_pleases 95 = .ok (.if_icmp .gt 5, 3) := by decide +kernel
theorem dX4_pleases_98 : decode cX4_pleases 98 = .ok (.iconst 1, 1) := by decide +kernel
theorem dX4_pleases_99 : decode cX4_pleases 99 = .ok (.ireturn, 1) := by decide +kernel
theorem dX4_pleases_100 : decode cX4_pleases 100 = .ok (.iinc 4 1, 3) := by decide +kernel
theorem dX4_pleases_103 : decode cX4_pleases 103 = .ok (.goto (-90), 3) := by decide +kernel
theorem dX4_pleases_106 : decode cX4_pleases 106 = .ok (.iconst 0, 1) := by decide +kernel
theorem dX4_pleases_107 : decode cX4_pleases 107 = .ok (.ireturn, 1) := by decide +kernel
theorem dX4_softest_0 : decode cX4_softest 0 = .ok (.lconst 0, 1) := by decide +kernel
theorem dX4_softest_1 : decode cX4_softest 1 = .ok (.lstore_n 1, 1) := by decide +kernel
theorem dX4_softest_2 : decode cX4_softest 2 = .ok (.iconst 0, 1) := by decide +kernel
theorem dX4_softest_3 : decode cX4_softest 3 = .ok (.istore_n 3, 1) := by decide +kernel
theorem dX4_softest_4 : decode cX4_softest 4 = .ok (.iload_n 3, 1) := by decide +kernel
theorem dX4_softest_5 : decode cX4_softest 5 = .ok (.aload_n 0, 1) := by decide +kernel
theorem dX4_softest_6 : decode cX4_softest 6 = .ok (.getfield 15, 3) := by decide +kernel
theorem dX4_softest_9 : decode cX4_softest 9 = .ok (.getfield 58, 3) := by decide +kernel
theorem dX4_softest_12 : decode cX4_softest 12 = .ok (.iconst 2, 1) := by decide +kernel
theorem dX4_softest_13 : decode cX4_softest 13 = .ok (.iaload, 1) := by decide +kernel
theorem dX4_softest_14 : decode cX4_softest 14 = .ok (.if_icmp .ge 44, 3) := by decide +kernel
theorem dX4_softest_17 : decode cX4_softest 17 = .ok (.iload_n 3, 1) := by decide +kernel
theorem dX4_softest_18 : decode cX4_softest 18 = .ok (.iconst 1, 1) := by decide +kernel
theorem dX4_softest_19 : decode cX4_softest 19 = .ok (.iadd, 1) := by decide +kernel
theorem dX4_softest_20 : decode cX4_softest 20 = .ok (.istore 4, 2) := by decide +kernel
theorem dX4_softest_22 : decode cX4_softest 22 = .ok (.iload 4, 2) := by decide +kernel
theorem dX4_softest_24 : decode cX4_softest 24 = .ok (.aload_n 0, 1) := by decide +kernel
theorem dX4_softest_25 : decode cX4_softest 25 = .ok (.getfield 15, 3) := by decide +kernel
theorem dX4_softest_28 : decode cX4_softest 28 = .ok (.getfield 58, 3) := by decide +kernel
theorem dX4_softest_31 : decode cX4_softest 31 = .ok (.iconst 2, 1) := by decide +kernel
theorem dX4_softest_32 : decode cX4_softest 32 = .ok (.iaload, 1) := by decide +kernel
theorem dX4_softest_33 : decode cX4_softest 33 = .ok (.if_icmp .ge 19, 3) := by decide +kernel
theorem dX4_softest_36 : decode cX4_softest 36 = .ok (.lload_n 1, 1) := by decide +kernel
theorem dX4_softest_37 : decode cX4_softest 37 = .ok (.aload_n 0, 1) := by decide +kernel
theorem dX4_softest_38 : decode cX4_softest 38 = .ok (.iload_n 3, 1) := by decide +kernel
theorem dX4_softest_39 : decode cX4_softest 39 = .ok (.iload 4, 2) := by decide +kernel
theorem dX4_softest_41 : decode cX4_softest 41 = .ok (.invokevirtual 112, 3) := by decide +kernel
theorem dX4_softest_44 : decode cX4_softest 44 = .ok (.lor, 1) := by decide +kernel
theorem dX4_softest_45 : decode cX4_softest 45 = .ok (.lstore_n 1, 1) := by decide +kernel
theorem dX4_softest_46 : decode cX4_softest 46 = .ok (.iinc 4 1, 3) := by decide +kernel
theorem dX4_softest_49 : decode cX4_softest 49 = .ok (.goto (-27), 3) := by decide +kernel
theorem dX4_softest_52 : decode cX4_softest 52 = .ok (.iinc 3 1, 3) := by decide +kernel
theorem dX4_softest_55 : decode cX4_softest 55 = .ok (.goto (-51), 3) := by decide +kernel
theorem dX4_softest_58 : decode cX4_softest 58 = .ok (.iconst (-1), 1) := by decide +kernel
theorem dX4_softest_59 : decode cX4_softest 59 = .ok (.istore_n 3, 1) := by decide +kernel
theorem dX4_softest_60 : decode cX4_softest 60 = .ok (.iconst 0, 1) := by decide +kernel
theorem dX4_softest_61 : decode cX4_softest 61 = .ok (.istore 4, 2) := by decide +kernel
theorem dX4_softest_63 : decode cX4_softest 63 = .ok (.iload 4, 2) := by decide +kernel
theorem dX4_softest_65 : decode cX4_softest 65 = .ok (.iconst 1, 1) := by decide +kernel
theorem dX4_softest_66 : decode cX4_softest 66 = .ok (.aload_n 0, 1) := by decide +kernel
theorem dX4_softest_67 : decode cX4_softest 67 = .ok (.getfield 15, 3) := by decide +kernel
theorem dX4_softest_70 : decode cX4_softest 70 = .ok (.getfield 58, 3) := by decide +kernel
theorem dX4_softest_73 : decode cX4_softest 73 = .ok (.iconst 4, 1) := by decide +kernel
theorem dX4_softest_74 : decode cX4_softest 74 = .ok (.iaload, 1) := by decide +kernel
theorem dX4_softest_75 : decode cX4_softest 75 = .ok (.ishl, 1) := by decide +kernel
theorem dX4_softest_76 : decode cX4_softest 76 = .ok (.if_icmp .ge 47, 3) := by decide +kernel
theorem dX4_softest_79 : decode cX4_softest 79 = .ok (.aload_n 0, 1) := by decide +kernel
theorem dX4_softest_80 : decode cX4_softest 80 = .ok (.iload 4, 2) := by decide +kernel
theorem dX4_softest_82 : decode cX4_softest 82 = .ok (.lload_n 1, 1) := by decide +kernel
theorem dX4_softest_83 : decode cX4_softest 83 = .ok (.invokevirtual 116, 3) := by decide +kernel
theorem dX4_softest_86 : decode cX4_softest 86 = .ok (.ifCond .eq 31, 3) := by decide +kernel
theorem dX4_softest_89 : decode cX4_softest 89 = .ok (.iload_n 3, 1) := by decide +kernel
theorem dX4_softest_90 : decode cX4_softest 90 = .ok (.iconst (-1), 1) := by decide +kernel
theorem dX4_softest_91 : decode cX4_softest 91 = .ok (.if_icmp .eq 23, 3) := by decide +kernel
theorem dX4_softest_94 : decode cX4_softest 94 = .ok (.aload_n 0, 1) := by decide +kernel
theorem dX4_softest_95 : decode cX4_softest 95 = .ok (.getfield 15, 3) := by decide +kernel
theorem dX4_softest_98 : decode cX4_softest 98 = .ok (.iload 4, 2) := by decide +kernel
theorem dX4_softest_100 : decode cX4_softest 100 = .ok (.invokevirtual 120, 3) := by decide +kernel
theorem dX4_softest_103 : decode cX4_softest 103 = .ok (.aload_n 0, 1) := by decide +kernel
theorem dX4_softest_104 : decode cX4_softest 104 = .ok (.getfield 15, 3) := by decide +kernel
theorem dX4_softest_107 : decode cX4_softest 107 = .ok (.iload_n 3, 1) := by decide +kernel
theorem dX4_softest_108 : decode cX4_softest 108 = .ok (.invokevirtual 120, 3) := by decide +kernel
theorem dX4_softest_111 : decode cX4_softest 111 = .ok (.if_icmp .ge 6, 3) := by decide +kernel
theorem dX4_softest_114 : decode cX4_softest 114 = .ok (.iload 4, 2) := by decide +kernel
theorem dX4_softest_116 : decode cX4_softest 116 = .ok (.istore_n 3, 1) := by decide +kernel
theorem dX4_softest_117 : decode cX4_softest 117 = .ok (.iinc 4 1, 3) := by decide +kernel
theorem dX4_softest_120 : decode cX4_softest 120 = .ok (.goto (-57), 3) := by decide +kernel
theorem dX4_softest_123 : decode cX4_softest 123 = .ok (.iload_n 3, 1) := by decide +kernel
theorem dX4_softest_124 : decode cX4_softest 124 = .ok (.ireturn, 1) := by decide +kernel
theorem dX4_tally_0 : decode cX4_tally 0 = .ok (.iconst 0, 1) := by decide +kernel
theorem dX4_tally_1 : decode cX4_tally 1 = .ok (.istore_n 2, 1) := by decide +kernel
theorem dX4_tally_2 : decode cX4_tally 2 = .ok (.iconst 0, 1) := by decide +kernel
theorem dX4_tally_3 : decode cX4_tally 3 = .ok (.istore_n 3, 1) := by decide +kernel
theorem dX4_tally_4 : decode cX4_tally 4 = .ok (.iload_n 3, 1) := by decide +kernel
theorem dX4_tally_5 : decode cX4_tally 5 = .ok (.aload_n 0, 1) := by decide +kernel
theorem dX4_tally_6 : decode cX4_tally 6 = .ok (.getfield 15, 3) := by decide +kernel
theorem dX4_tally_9 : decode cX4_tally 9 = .ok (.getfield 58, 3) := by decide +kernel
theorem dX4_tally_12 : decode cX4_tally 12 = .ok (.iconst 2, 1) := by decide +kernel
theorem dX4_tally_13 : decode cX4_tally 13 = .ok (.iaload, 1) := by decide +kernel
theorem dX4_tally_14 : decode cX4_tally 14 = .ok (.if_icmp .ge 45, 3) := by decide +kernel
theorem dX4_tally_17 : decode cX4_tally 17 = .ok (.iload_n 3, 1) := by decide +kernel
theorem dX4_tally_18 : decode cX4_tally 18 = .ok (.iconst 1, 1) := by decide +kernel
theorem dX4_tally_19 : decode cX4_tally 19 = .ok (.iadd, 1) := by decide +kernel
theorem dX4_tally_20 : decode cX4_tally 20 = .ok (.istore 4, 2) := by decide +kernel
theorem dX4_tally_22 : decode cX4_tally 22 = .ok (.iload 4, 2) := by decide +kernel
theorem dX4_tally_24 : decode cX4_tally 24 = .ok (.aload_n 0, 1) := by decide +kernel
theorem dX4_tally_25 : decode cX4_tally 25 = .ok (.getfield 15, 3) := by decide +kernel
theorem dX4_tally_28 : decode cX4_tally 28 = .ok (.getfield 58, 3) := by decide +kernel
theorem dX4_tally_31 : decode cX4_tally 31 = .ok (.iconst 2, 1) := by decide +kernel
theorem dX4_tally_32 : decode cX4_tally 32 = .ok (.iaload, 1) := by decide +kernel
theorem dX4_tally_33 : decode cX4_tally 33 = .ok (.if_icmp .ge 20, 3) := by decide +kernel
theorem dX4_tally_36 : decode cX4_tally 36 = .ok (.iload_n 2, 1) := by decide +kernel
theorem dX4_tally_37 : decode cX4_tally 37 = .ok (.aload_n 0, 1) := by decide +kernel
theorem dX4_tally_38 : decode cX4_tally 38 = .ok (.iload_n 3, 1) := by decide +kernel
theorem dX4_tally_39 : decode cX4_tally 39 = .ok (.iload 4, 2) := by decide +kernel
theorem dX4_tally_41 : decode cX4_tally 41 = .ok (.iload_n 1, 1) := by decide +kernel
theorem dX4_tally_42 : decode cX4_tally 42 = .ok (.invokevirtual 98, 3) := by decide +kernel
theorem dX4_tally_45 : decode cX4_tally 45 = .ok (.iadd, 1) := by decide +kernel
theorem dX4_tally_46 : decode cX4_tally 46 = .ok (.istore_n 2, 1) := by decide +kernel
theorem dX4_tally_47 : decode cX4_tally 47 = .ok (.iinc 4 1, 3) := by decide +kernel
theorem dX4_tally_50 : decode cX4_tally 50 = .ok (.goto (-28), 3) := by decide +kernel
theorem dX4_tally_53 : decode cX4_tally 53 = .ok (.iinc 3 1, 3) := by decide +kernel
theorem dX4_tally_56 : decode cX4_tally 56 = .ok (.goto (-52), 3) := by decide +kernel
theorem dX4_tally_59 : decode cX4_tally 59 = .ok (.iload_n 2, 1) := by decide +kernel
theorem dX4_tally_60 : decode cX4_tally 60 = .ok (.ireturn, 1) := by decide +kernel
theorem dX4_tallyOf_0 : decode cX4_tallyOf 0 = .ok (.iconst 0, 1) := by decide +kernel
theorem dX4_tallyOf_1 : decode cX4_tallyOf 1 = .ok (.istore 4, 2) := by decide +kernel
theorem dX4_tallyOf_3 : decode cX4_tallyOf 3 = .ok (.aload_n 0, 1) := by decide +kernel
theorem dX4_tallyOf_4 : decode cX4_tallyOf 4 = .ok (.dup, 1) := by decide +kernel
theorem dX4_tallyOf_5 : decode cX4_tallyOf 5 = .ok (.getfield 102, 3) := by decide +kernel
theorem dX4_tallyOf_8 : decode cX4_tallyOf 8 = .ok (.iconst 1, 1) := by decide +kernel
theorem dX4_tallyOf_9 : decode cX4_tallyOf 9 = .ok (.iadd, 1) := by decide +kernel
theorem dX4_tallyOf_10 : decode cX4_tallyOf 10 = .ok (.putfield 102, 3) := by decide +kernel
theorem dX4_tallyOf_13 : decode cX4_tallyOf 13 = .ok (.aload_n 0, 1) := by decide +kernel
theorem dX4_tallyOf_14 : decode cX4_tallyOf 14 = .ok (.getfield 23, 3) := by decide +kernel
theorem dX4_tallyOf_17 : decode cX4_tallyOf 17 = .ok (.iload_n 1, 1) := by decide +kernel
theorem dX4_tallyOf_18 : decode cX4_tallyOf 18 = .ok (.iload_n 2, 1) := by decide +kernel
theorem dX4_tallyOf_19 : decode cX4_tallyOf 19 = .ok (.aload_n 0, 1) := by decide +kernel
theorem dX4_tallyOf_20 : decode cX4_tallyOf 20 = .ok (.getfield 19, 3) := by decide +kernel
theorem dX4_tallyOf_23 : decode cX4_tallyOf 23 = .ok (.getfield 31, 3) := by decide +kernel
theorem dX4_tallyOf_26 : decode cX4_tallyOf 26 = .ok (.invokevirtual 65, 3) := by decide +kernel
theorem dX4_tallyOf_29 : decode cX4_tallyOf 29 = .ok (.iconst 0, 1) := by decide +kernel
theorem dX4_tallyOf_30 : decode cX4_tallyOf 30 = .ok (.istore 5, 2) := by decide +kernel
theorem dX4_tallyOf_32 : decode cX4_tallyOf 32 = .ok (.iload 5, 2) := by decide +kernel
theorem dX4_tallyOf_34 : decode cX4_tallyOf 34 = .ok (.aload_n 0, 1) := by decide +kernel
theorem dX4_tallyOf_35 : decode cX4_tallyOf 35 = .ok (.getfield 23, 3) := by decide +kernel
theorem dX4_tallyOf_38 : decode cX4_tallyOf 38 = .ok (.getfield 71, 3) := by decide +kernel
theorem dX4_tallyOf_41 : decode cX4_tallyOf 41 = .ok (.if_icmp .ge 105, 3) := by decide +kernel
theorem dX4_tallyOf_44 : decode cX4_tallyOf 44 = .ok (.aload_n 0, 1) := by decide +kernel
theorem dX4_tallyOf_45 : decode cX4_tallyOf 45 = .ok (.getfield 23, 3) := by decide +kernel
theorem dX4_tallyOf_48 : decode cX4_tallyOf 48 = .ok (.getfield 74, 3) := by decide +kernel
theorem dX4_tallyOf_51 : decode cX4_tallyOf 51 = .ok (.iload 5, 2) := by decide +kernel
theorem dX4_tallyOf_53 : decode cX4_tallyOf 53 = .ok (.iaload, 1) := by decide +kernel
theorem dX4_tallyOf_54 : decode cX4_tallyOf 54 = .ok (.bipush 21, 2) := by decide +kernel
theorem dX4_tallyOf_56 : decode cX4_tallyOf 56 = .ok (.if_icmp .ne 7, 3) := by decide +kernel
theorem dX4_tallyOf_59 : decode cX4_tallyOf 59 = .ok (.iconst 1, 1) := by decide +kernel
theorem dX4_tallyOf_60 : decode cX4_tallyOf 60 = .ok (.goto 4, 3) := by decide +kernel
theorem dX4_tallyOf_63 : decode cX4_tallyOf 63 = .ok (.iconst 0, 1) := by decide +kernel
theorem dX4_tallyOf_64 : decode cX4_tallyOf 64 = .ok (.iload_n 3, 1) := by decide +kernel
theorem dX4_tallyOf_65 : decode cX4_tallyOf 65 = .ok (.if_icmp .eq 6, 3) := by decide +kernel
theorem dX4_tallyOf_68 : decode cX4_tallyOf 68 = .ok (.goto 72, 3) := by decide +kernel
theorem dX4_tallyOf_71 : decode cX4_tallyOf 71 = .ok (.aload_n 0, 1) := by decide +kernel
theorem dX4_tallyOf_72 : decode cX4_tallyOf 72 = .ok (.getfield 23, 3) := by decide +kernel
theorem dX4_tallyOf_75 : decode cX4_tallyOf 75 = .ok (.getfield 77, 3) := by decide +kernel
theorem dX4_tallyOf_78 : decode cX4_tallyOf 78 = .ok (.iload 5, 2) := by decide +kernel
theorem dX4_tallyOf_80 : decode cX4_tallyOf 80 = .ok (.iaload, 1) := by decide +kernel
theorem dX4_tallyOf_81 : decode cX4_tallyOf 81 = .ok (.istore 6, 2) := by decide +kernel
theorem dX4_tallyOf_83 : decode cX4_tallyOf 83 = .ok (.iload 6, 2) := by decide +kernel
theorem dX4_tallyOf_85 : decode cX4_tallyOf 85 = .ok (.aload_n 0, 1) := by decide +kernel
theorem dX4_tallyOf_86 : decode cX4_tallyOf 86 = .ok (.getfield 23, 3) := by decide +kernel
theorem dX4_tallyOf_89 : decode cX4_tallyOf 89 = .ok (.getfield 90, 3) := by decide +kernel
theorem dX4_tallyOf_92 : decode cX4_tallyOf 92 = .ok (.iload 5, 2) := by decide +kernel
theorem dX4_tallyOf_94 : decode cX4_tallyOf 94 = .ok (.iaload, 1) := by decide +kernel
theorem dX4_tallyOf_95 : decode cX4_tallyOf 95 = .ok (.if_icmp .gt 45, 3) := by decide +kernel
theorem dX4_tallyOf_98 : decode cX4_tallyOf 98 = .ok (.iload 6, 2) := by decide +kernel
theorem dX4_tallyOf_100 : decode cX4_tallyOf 100 = .ok (.sipush 1000, 3) := by decide +kernel
theorem dX4_tallyOf_103 : decode cX4_tallyOf 103 = .ok (.if_icmp .ge 37, 3) := by decide +kernel
theorem dX4_tallyOf_106 : decode cX4_tallyOf 106 = .ok (.aload_n 0, 1) := by decide +kernel
theorem dX4_tallyOf_107 : decode cX4_tallyOf 107 = .ok (.getfield 9, 3) := by decide +kernel
theorem dX4_tallyOf_110 : decode cX4_tallyOf 110 = .ok (.iload 6, 2) := by decide +kernel
theorem dX4_tallyOf_112 : decode cX4_tallyOf 112 = .ok (.iaload, 1) := by decide +kernel
theorem dX4_tallyOf_113 : decode cX4_tallyOf 113 = .ok (.aload_n 0, 1) := by decide +kernel
theorem dX4_tallyOf_114 : decode cX4_tallyOf 114 = .ok (.getfield 102, 3) := by decide +kernel
theorem dX4_tallyOf_117 : decode cX4_tallyOf 117 = .ok (.if_icmp .eq 17, 3) := by decide +kernel
theorem dX4_tallyOf_120 : decode cX4_tallyOf 120 = .ok (.aload_n 0, 1) := by decide +kernel
theorem dX4_tallyOf_121 : decode cX4_tallyOf 121 = .ok (.getfield 9, 3) := by decide +kernel
theorem dX4_tallyOf_124 : decode cX4_tallyOf 124 = .ok (.iload 6, 2) := by decide +kernel
theorem dX4_tallyOf_126 : decode cX4_tallyOf 126 = .ok (.aload_n 0, 1) := by decide +kernel
theorem dX4_tallyOf_127 : decode cX4_tallyOf 127 = .ok (.getfield 102, 3) := by decide +kernel
theorem dX4_tallyOf_130 : decode cX4_tallyOf 130 = .ok (.iastore, 1) := by decide +kernel
theorem dX4_tallyOf_131 : decode cX4_tallyOf 131 = .ok (.iinc 4 1, 3) := by decide +kernel
theorem dX4_tallyOf_134 : decode cX4_tallyOf 134 = .ok (.iinc 6 1, 3) := by decide +kernel
theorem dX4_tallyOf_137 : decode cX4_tallyOf 137 = .ok (.goto (-54), 3) := by decide +kernel
theorem dX4_tallyOf_140 : decode cX4_tallyOf 140 = .ok (.iinc 5 1, 3) := by decide +kernel
theorem dX4_tallyOf_143 : decode cX4_tallyOf 143 = .ok (.goto (-111), 3) := by decide +kernel
theorem dX4_tallyOf_146 : decode cX4_tallyOf 146 = .ok (.iload 4, 2) := by decide +kernel
theorem dX4_tallyOf_148 : decode cX4_tallyOf 148 = .ok (.ireturn, 1) := by decide +kernel
theorem dX4_unexcusedOf_0 : decode cX4_unexcusedOf 0 = .ok (.sipush 2000, 3) := by decide +kernel
theorem dX4_unexcusedOf_3 : decode cX4_unexcusedOf 3 = .ok (.istore_n 3, 1) := by decide +kernel
theorem dX4_unexcusedOf_4 : decode cX4_unexcusedOf 4 = .ok (.aload_n 0, 1) := by decide +kernel
theorem dX4_unexcusedOf_5 : decode cX4_unexcusedOf 5 = .ok (.getfield 23, 3) := by decide +kernel
theorem dX4_unexcusedOf_8 : decode cX4_unexcusedOf 8 = .ok (.iload_n 1, 1) := by decide +kernel
theorem dX4_unexcusedOf_9 : decode cX4_unexcusedOf 9 = .ok (.iload_n 2, 1) := by decide +kernel
theorem dX4_unexcusedOf_10 : decode cX4_unexcusedOf 10 = .ok (.aload_n 0, 1) := by decide +kernel
theorem dX4_unexcusedOf_11 : decode cX4_unexcusedOf 11 = .ok (.getfield 19, 3) := by decide +kernel
theorem dX4_unexcusedOf_14 : decode cX4_unexcusedOf 14 = .ok (.getfield 31, 3) := by decide +kernel
theorem dX4_unexcusedOf_17 : decode cX4_unexcusedOf 17 = .ok (.invokevirtual 65, 3) := by decide +kernel
theorem dX4_unexcusedOf_20 : decode cX4_unexcusedOf 20 = .ok (.iconst 0, 1) := by decide +kernel
theorem dX4_unexcusedOf_21 : decode cX4_unexcusedOf 21 = .ok (.istore 4, 2) := by decide +kernel
theorem dX4_unexcusedOf_23 : decode cX4_unexcusedOf 23 = .ok (.iload 4, 2) := by decide +kernel
theorem dX4_unexcusedOf_25 : decode cX4_unexcusedOf 25 = .ok (.aload_n 0, 1) := by decide +kernel
theorem dX4_unexcusedOf_26 : decode cX4_unexcusedOf 26 = .ok (.getfield 23, 3) := by decide +kernel
theorem dX4_unexcusedOf_29 : decode cX4_unexcusedOf 29 = .ok (.getfield 71, 3) := by decide +kernel
theorem dX4_unexcusedOf_32 : decode cX4_unexcusedOf 32 = .ok (.if_icmp .ge 99, 3) := by decide +kernel
theorem dX4_unexcusedOf_35 : decode cX4_unexcusedOf 35 = .ok (.aload_n 0, 1) := by decide +kernel
theorem dX4_unexcusedOf_36 : decode cX4_unexcusedOf 36 = .ok (.getfield 23, 3) := by decide +kernel
theorem dX4_unexcusedOf_39 : decode cX4_unexcusedOf 39 = .ok (.getfield 74, 3) := by decide +kernel
theorem dX4_unexcusedOf_42 : decode cX4_unexcusedOf 42 = .ok (.iload 4, 2) := by decide +kernel
theorem dX4_unexcusedOf_44 : decode cX4_unexcusedOf 44 = .ok (.iaload, 1) := by decide +kernel
theorem dX4_unexcusedOf_45 : decode cX4_unexcusedOf 45 = .ok (.bipush 21, 2) := by decide +kernel
theorem dX4_unexcusedOf_47 : decode cX4_unexcusedOf 47 = .ok (.if_icmp .ne 7, 3) := by decide +kernel
theorem dX4_unexcusedOf_50 : decode cX4_unexcusedOf 50 = .ok (.iconst 1, 1) := by decide +kernel
theorem dX4_unexcusedOf_51 : decode cX4_unexcusedOf 51 = .ok (.goto 4, 3) := by decide +kernel
theorem dX4_unexcusedOf_54 : decode cX4_unexcusedOf 54 = .ok (.iconst 0, 1) := by decide +kernel
theorem dX4_unexcusedOf_55 : decode cX4_unexcusedOf 55 = .ok (.istore 5, 2) := by decide +kernel
theorem dX4_unexcusedOf_57 : decode cX4_unexcusedOf 57 = .ok (.aload_n 0, 1) := by decide +kernel
theorem dX4_unexcusedOf_58 : decode cX4_unexcusedOf 58 = .ok (.getfield 23, 3) := by decide +kernel
theorem dX4_unexcusedOf_61 : decode cX4_unexcusedOf 61 = .ok (.getfield 77, 3) := by decide +kernel
theorem dX4_unexcusedOf_64 : decode cX4_unexcusedOf 64 = .ok (.iload 4, 2) := by decide +kernel
theorem dX4_unexcusedOf_66 : decode cX4_unexcusedOf 66 = .ok (.iaload, 1) := by decide +kernel
theorem dX4_unexcusedOf_67 : decode cX4_unexcusedOf 67 = .ok (.iconst 2, 1) := by decide +kernel
theorem dX4_unexcusedOf_68 : decode cX4_unexcusedOf 68 = .ok (.imul, 1) := by decide +kernel
theorem dX4_unexcusedOf_69 : decode cX4_unexcusedOf 69 = .ok (.iload 5, 2) := by decide +kernel
theorem dX4_unexcusedOf_71 : decode cX4_unexcusedOf 71 = .ok (.iadd, 1) := by decide +kernel
theorem dX4_unexcusedOf_72 : decode cX4_unexcusedOf 72 = .ok (.iload_n 3, 1) := by decide +kernel
theorem dX4_unexcusedOf_73 : decode cX4_unexcusedOf 73 = .ok (.if_icmp .ge 52, 3) := by decide +kernel
theorem dX4_unexcusedOf_76 : decode cX4_unexcusedOf 76 = .ok (.aload_n 0, 1) := by decide +kernel
theorem dX4_unexcusedOf_77 : decode cX4_unexcusedOf 77 = .ok (.getfield 27, 3) := by decide +kernel
theorem dX4_unexcusedOf_80 : decode cX4_unexcusedOf 80 = .ok (.aload_n 0, 1) := by decide +kernel
theorem dX4_unexcusedOf_81 : decode cX4_unexcusedOf 81 = .ok (.getfield 23, 3) := by decide +kernel
theorem dX4_unexcusedOf_84 : decode cX4_unexcusedOf 84 = .ok (.iload 4, 2) := by decide +kernel
theorem dX4_unexcusedOf_86 : decode cX4_unexcusedOf 86 = .ok (.aload_n 0, 1) := by decide +kernel
theorem dX4_unexcusedOf_87 : decode cX4_unexcusedOf 87 = .ok (.getfield 19, 3) := by decide +kernel
theorem dX4_unexcusedOf_90 : decode cX4_unexcusedOf 90 = .ok (.invokevirtual 80, 3) := by decide +kernel
theorem dX4_unexcusedOf_93 : decode cX4_unexcusedOf 93 = .ok (.invokevirtual 84, 3) := by decide +kernel
theorem dX4_unexcusedOf_96 : decode cX4_unexcusedOf 96 = .ok (.istore 6, 2) := by decide +kernel
theorem dX4_unexcusedOf_98 : decode cX4_unexcusedOf 98 = .ok (.iload 6, 2) := by decide +kernel
theorem dX4_unexcusedOf_100 : decode cX4_unexcusedOf 100 = .ok (.aload_n 0, 1) := by decide +kernel
theorem dX4_unexcusedOf_101 : decode cX4_unexcusedOf 101 = .ok (.getfield 23, 3) := by decide +kernel
theorem dX4_unexcusedOf_104 : decode cX4_unexcusedOf 104 = .ok (.getfield 90, 3) := by decide +kernel
theorem dX4_unexcusedOf_107 : decode cX4_unexcusedOf 107 = .ok (.iload 4, 2) := by decide +kernel
theorem dX4_unexcusedOf_109 : decode cX4_unexcusedOf 109 = .ok (.iaload, 1) := by decide +kernel
theorem dX4_unexcusedOf_110 : decode cX4_unexcusedOf 110 = .ok (.if_icmp .gt 15, 3) := by decide +kernel
theorem dX4_unexcusedOf_113 : decode cX4_unexcusedOf 113 = .ok (.iload_n 3, 1) := by decide +kernel
theorem dX4_unexcusedOf_114 : decode cX4_unexcusedOf 114 = .ok (.iload 6, 2) := by decide +kernel
theorem dX4_unexcusedOf_116 : decode cX4_unexcusedOf 116 = .ok (.iconst 2, 1) := by decide +kernel
theorem dX4_unexcusedOf_117 : decode cX4_unexcusedOf 117 = .ok (.imul, 1) := by decide +kernel
theorem dX4_unexcusedOf_118 : decode cX4_unexcusedOf 118 = .ok (.iload 5, 2) := by decide +kernel
theorem dX4_unexcusedOf_120 : decode cX4_unexcusedOf 120 = .ok (.iadd, 1) := by decide +kernel
theorem dX4_unexcusedOf_121 : decode cX4_unexcusedOf 121 = .ok (.invokestatic 93, 3) := by decide +kernel
theorem dX4_unexcusedOf_124 : decode cX4_unexcusedOf 124 = .ok (.istore_n 3, 1) := by decide +kernel
theorem dX4_unexcusedOf_125 : decode cX4_unexcusedOf 125 = .ok (.iinc 4 1, 3) := by decide +kernel
theorem dX4_unexcusedOf_128 : decode cX4_unexcusedOf 128 = .ok (.goto (-105), 3) := by decide +kernel
theorem dX4_unexcusedOf_131 : decode cX4_unexcusedOf 131 = .ok (.iload_n 3, 1) := by decide +kernel
theorem dX4_unexcusedOf_132 : decode cX4_unexcusedOf 132 = .ok (.ireturn, 1) := by decide +kernel
theorem dX5_endOf_0 : decode cX5_endOf 0 = .ok (.iload_n 2, 1) := by decide +kernel
theorem dX5_endOf_1 : decode cX5_endOf 1 = .ok (.ifCond .ne 18, 3) := by decide +kernel
theorem dX5_endOf_4 : decode cX5_endOf 4 = .ok (.aload_n 0, 1) := by decide +kernel
theorem dX5_endOf_5 : decode cX5_endOf 5 = .ok (.getfield 41, 3) := by decide +kernel
theorem dX5_endOf_8 : decode cX5_endOf 8 = .ok (.getfield 139, 3) := by decide +kernel
theorem dX5_endOf_11 : decode cX5_endOf 11 = .ok (.iload_n 1, 1) := by decide +kernel
theorem dX5_endOf_12 : decode cX5_endOf 12 = .ok (.aaload, 1) := by decide +kernel
theorem dX5_endOf_13 : decode cX5_endOf 13 = .ok (.getfield 129, 3) := by decide +kernel
theorem dX5_endOf_16 : decode cX5_endOf 16 = .ok (.goto 14, 3) := by decide +kernel
theorem dX5_endOf_19 : decode cX5_endOf 19 = .ok (.aload_n 0, 1) := by decide +kernel
theorem dX5_endOf_20 : decode cX5_endOf 20 = .ok (.getfield 21, 3) := by decide +kernel
theorem dX5_endOf_23 : decode cX5_endOf 23 = .ok (.iload_n 1, 1) := by decide +kernel
theorem dX5_endOf_24 : decode cX5_endOf 24 = .ok (.bipush 61, 2) := by decide +kernel
theorem dX5_endOf_26 : decode cX5_endOf 26 = .ok (.imul, 1) := by decide +kernel
theorem dX5_endOf_27 : decode cX5_endOf 27 = .ok (.iload_n 2, 1) := by decide +kernel
theorem dX5_endOf_28 : decode cX5_endOf 28 = .ok (.iadd, 1) := by decide +kernel
theorem dX5_endOf_29 : decode cX5_endOf 29 = .ok (.iaload, 1) := by decide +kernel
theorem dX5_endOf_30 : decode cX5_endOf 30 = .ok (.ireturn, 1) := by decide +kernel
theorem dX5_explore_0 : decode cX5_explore 0 = .ok (.iload_n 3, 1) := by decide +kernel
theorem dX5_explore_1 : decode cX5_explore 1 = .ok (.aload_n 0, 1) := by decide +kernel
theorem dX5_explore_2 : decode cX5_explore 2 = .ok (.getfield 37, 3) := by decide +kernel
theorem dX5_explore_5 : decode cX5_explore 5 = .ok (.getfield 101, 3) := by decide +kernel
theorem dX5_explore_8 : decode cX5_explore 8 = .ok (.if_icmp .ne 10, 3) := by decide +kernel
theorem dX5_explore_11 : decode cX5_explore 11 = .ok (.aload_n 0, 1) := by decide +kernel
theorem dX5_explore_12 : decode cX5_explore 12 = .ok (.iload_n 1, 1) := by decide +kernel
theorem dX5_explore_13 : decode cX5_explore 13 = .ok (.iload_n 2, 1) := by decide +kernel
theorem dX5_explore_14 : decode cX5_explore 14 = .ok (.invokevirtual 104, 3) := by decide +kernel
theorem dX5_explore_17 : decode cX5_explore 17 = .ok (.return_, 1) := by decide +kernel
theorem dX5_explore_18 : decode cX5_explore 18 = .ok (.iconst 0, 1) := by decide +kernel
theorem dX5_explore_19 : decode cX5_explore 19 = .ok (.istore 4, 2) := by decide +kernel
theorem dX5_explore_21 : decode cX5_explore 21 = .ok (.iload 4, 2) := by decide +kernel
theorem dX5_explore_23 : decode cX5_explore 23 = .ok (.aload_n 0, 1) := by decide +kernel
theorem dX5_explore_24 : decode cX5_explore 24 = .ok (.getfield 37, 3) := by decide +kernel
theorem dX5_explore_27 : decode cX5_explore 27 = .ok (.getfield 62, 3) := by decide +kernel
theorem dX5_explore_30 : decode cX5_explore 30 = .ok (.iconst 0, 1) := by decide +kernel
theorem dX5_explore_31 : decode cX5_explore 31 = .ok (.iaload, 1) := by decide +kernel
theorem dX5_explore_32 : decode cX5_explore 32 = .ok (.if_icmp .ge 126, 3) := by decide +kernel
theorem dX5_explore_35 : decode cX5_explore 35 = .ok (.iload_n 2, 1) := by decide +kernel
theorem dX5_explore_36 : decode cX5_explore 36 = .ok (.iconst 1, 1) := by decide +kernel
theorem dX5_explore_37 : decode cX5_explore 37 = .ok (.iadd, 1) := by decide +kernel
theorem dX5_explore_38 : decode cX5_explore 38 = .ok (.bipush 10, 2) := by decide +kernel
theorem dX5_explore_40 : decode cX5_explore 40 = .ok (.if_icmp .ge 118, 3) := by decide +kernel
theorem dX5_explore_43 : decode cX5_explore 43 = .ok (.aload_n 0, 1) := by decide +kernel
theorem dX5_explore_44 : decode cX5_explore 44 = .ok (.getfield 37, 3) := by decide +kernel
theorem dX5_explore_47 : decode cX5_explore 47 = .ok (.getfield 108, 3) := by decide +kernel
theorem dX5_explore_50 : decode cX5_explore 50 = .ok (.aload_n 0, 1) := by decide +kernel
theorem dX5_explore_51 : decode cX5_explore 51 = .ok (.getfield 27, 3) := by decide +kernel
theorem dX5_explore_54 : decode cX5_explore 54 = .ok (.iload_n 2, 1) := by decide +kernel
theorem dX5_explore_55 : decode cX5_explore 55 = .ok (.iaload, 1) := by decide +kernel
theorem dX5_explore_56 : decode cX5_explore 56 = .ok (.bipush 10, 2) := by decide +kernel
theorem dX5_explore_58 : decode cX5_explore 58 = .ok (.imul, 1) := by decide +kernel
theorem dX5_explore_59 : decode cX5_explore 59 = .ok (.iload 4, 2) := by decide +kernel
theorem dX5_explore_61 : decode cX5_explore 61 = .ok (.iadd, 1) := by decide +kernel
theorem dX5_explore_62 : decode cX5_explore 62 = .ok (.iaload, 1) := by decide +kernel
theorem dX5_explore_63 : decode cX5_explore 63 = .ok (.istore 5, 2) := by decide +kernel
theorem dX5_explore_65 : decode cX5_explore 65 = .ok (.iconst 1, 1) := by decide +kernel
theorem dX5_explore_66 : decode cX5_explore 66 = .ok (.aload_n 0, 1) := by decide +kernel
theorem dX5_explore_67 : decode cX5_explore 67 = .ok (.getfield 37, 3) := by decide +kernel
theorem dX5_explore_70 : decode cX5_explore 70 = .ok (.getfield 70, 3) := by decide +kernel
theorem dX5_explore_73 : decode cX5_explore 73 = .ok (.iload 4, 2) := by decide +kernel
theorem dX5_explore_75 : decode cX5_explore 75 = .ok (.iaload, 1) := by decide +kernel
theorem dX5_explore_76 : decode cX5_explore 76 = .ok (.ishl, 1) := by decide +kernel
theorem dX5_explore_77 : decode cX5_explore 77 = .ok (.istore 6, 2) := by decide +kernel
theorem dX5_explore_79 : decode cX5_explore 79 = .ok (.iload 5, 2) := by decide +kernel
theorem dX5_explore_81 : decode cX5_explore 81 = .ok (.iconst (-1), 1) := by decide +kernel
theorem dX5_explore_82 : decode cX5_explore 82 = .ok (.if_icmp .eq 22, 3) := by decide +kernel
theorem dX5_explore_85 : decode cX5_explore 85 = .ok (.aload_n 0, 1) := by decide +kernel
theorem dX5_explore_86 : decode cX5_explore 86 = .ok (.getfield 41, 3) := by decide +kernel
theorem dX5_explore_89 : decode cX5_explore 89 = .ok (.invokevirtual 111, 3) := by decide +kernel
theorem dX5_explore_92 : decode cX5_explore 92 = .ok (.iload 5, 2) := by decide +kernel
theorem dX5_explore_94 : decode cX5_explore 94 = .ok (.ishr, 1) := by decide +kernel
theorem dX5_explore_95 : decode cX5_explore 95 = .ok (.iconst 1, 1) := by decide +kernel
theorem dX5_explore_96 : decode cX5_explore 96 = .ok (.iand, 1) := by decide +kernel
theorem dX5_explore_97 : decode cX5_explore 97 = .ok (.ifCond .ne 7, 3) := by decide +kernel
theorem dX5_explore_100 : decode cX5_explore 100 = .ok (.iconst 1, 1) := by decide +kernel
theorem dX5_explore_101 : decode cX5_explore 101 = .ok (.goto 4, 3) := by decide +kernel
theorem dX5_explore_104 : decode cX5_explore 104 = .ok (.iconst 0, 1) := by decide +kernel
theorem dX5_explore_105 : decode cX5_explore 105 = .ok (.istore 7, 2) := by decide +kernel
theorem dX5_explore_107 : decode cX5_explore 107 = .ok (.iload 7, 2) := by decide +kernel
theorem dX5_explore_109 : decode cX5_explore 109 = .ok (.ifCond .eq 43, 3) := by decide +kernel
theorem dX5_explore_112 : decode cX5_explore 112 = .ok (.iload_n 3, 1) := by decide +kernel
theorem dX5_explore_113 : decode cX5_explore 113 = .ok (.iload 6, 2) := by decide +kernel
theorem dX5_explore_115 : decode cX5_explore 115 = .ok (.iand, 1) := by decide +kernel
theorem dX5_explore_116 : decode cX5_explore 116 = .ok (.ifCond .ne 36, 3) := by decide +kernel
theorem dX5_explore_119 : decode cX5_explore 119 = .ok (.aload_n 0, 1) := by decide +kernel
theorem dX5_explore_120 : decode cX5_explore 120 = .ok (.getfield 17, 3) := by decide +kernel
theorem dX5_explore_123 : decode cX5_explore 123 = .ok (.iload_n 1, 1) := by decide +kernel
theorem dX5_explore_124 : decode cX5_explore 124 = .ok (.iaload, 1) := by decide +kernel
theorem dX5_explore_125 : decode cX5_explore 125 = .ok (.bipush 20, 2) := by decide +kernel
theorem dX5_explore_127 : decode cX5_explore 127 = .ok (.if_icmp .ge 25, 3) := by decide +kernel
theorem dX5_explore_130 : decode cX5_explore 130 = .ok (.aload_n 0, 1) := by decide +kernel
theorem dX5_explore_131 : decode cX5_explore 131 = .ok (.getfield 27, 3) := by decide +kernel
theorem dX5_explore_134 : decode cX5_explore 134 = .ok (.iload_n 2, 1) := by decide +kernel
theorem dX5_explore_135 : decode cX5_explore 135 = .ok (.iconst 1, 1) := by decide +kernel
theorem dX5_explore_136 : decode cX5_explore 136 = .ok (.iadd, 1) := by decide +kernel
theorem dX5_explore_137 : decode cX5_explore 137 = .ok (.iload 4, 2) := by decide +kernel
theorem dX5_explore_139 : decode cX5_explore 139 = .ok (.iastore, 1) := by decide +kernel
theorem dX5_explore_140 : decode cX5_explore 140 = .ok (.aload_n 0, 1) := by decide +kernel
theorem dX5_explore_141 : decode cX5_explore 141 = .ok (.iload_n 1, 1) := by decide +kernel
theorem dX5_explore_142 : decode cX5_explore 142 = .ok (.iload_n 2, 1) := by decide +kernel
theorem dX5_explore_143 : decode cX5_explore 143 = .ok (.iconst 1, 1) := by decide +kernel
theorem dX5_explore_144 : decode cX5_explore 144 = .ok (.iadd, 1) := by decide +kernel
theorem dX5_explore_145 : decode cX5_explore 145 = .ok (.iload_n 3, 1) := by decide +kernel
theorem dX5_explore_146 : decode cX5_explore 146 = .ok (.iload 6, 2) := by decide +kernel
theorem dX5_explore_148 : decode cX5_explore 148 = .ok (.ior, 1) := by decide +kernel
theorem dX5_explore_149 : decode cX5_explore 149 = .ok (.invokevirtual 73, 3) := by decide +kernel
theorem dX5_explore_152 : decode cX5_explore 152 = .ok (.iinc 4 1, 3) := by decide +kernel
theorem dX5_explore_155 : decode cX5_explore 155 = .ok (.goto (-134), 3) := by decide +kernel
theorem dX5_explore_158 : decode cX5_explore 158 = .ok (.return_, 1) := by decide +kernel
theorem dX5_fitting_0 : decode cX5_fitting 0 = .ok (.iload_n 1, 1) := by decide +kernel
theorem dX5_fitting_1 : decode cX5_fitting 1 = .ok (.iload_n 3, 1) := by decide +kernel
theorem dX5_fitting_2 : decode cX5_fitting 2 = .ok (.if_icmp .ge 7, 3) := by decide +kernel
theorem dX5_fitting_5 : decode cX5_fitting 5 = .ok (.iconst 1, 1) := by decide +kernel
theorem dX5_fitting_6 : decode cX5_fitting 6 = .ok (.goto 4, 3) := by decide +kernel
theorem dX5_fitting_9 : decode cX5_fitting 9 = .ok (.iconst 0, 1) := by decide +kernel
theorem dX5_fitting_10 : decode cX5_fitting 10 = .ok (.istore 6, 2) := by decide +kernel
theorem dX5_fitting_12 : decode cX5_fitting 12 = .ok (.iload 6, 2) := by decide +kernel
theorem dX5_fitting_14 : decode cX5_fitting 14 = .ok (.ifCond .eq 11, 3) := by decide +kernel
theorem dX5_fitting_17 : decode cX5_fitting 17 = .ok (.iload_n 1, 1) := by decide +kernel
theorem dX5_fitting_18 : decode cX5_fitting 18 = .ok (.iload_n 3, 1) := by decide +kernel
theorem dX5_fitting_19 : decode cX5_fitting 19 = .ok (.invokestatic 140, 3) := by decide +kernel
theorem dX5_fitting_22 : decode cX5_fitting 22 = .ok (.goto 8, 3) := by decide +kernel
theorem dX5_fitting_25 : decode cX5_fitting 25 = .ok (.iload_n 3, 1) := by decide +kernel
theorem dX5_fitting_26 : decode cX5_fitting 26 = .ok (.iload_n 1, 1) := by decide +kernel
theorem dX5_fitting_27 : decode cX5_fitting 27 = .ok (.invokestatic 140, 3) := by decide +kernel
theorem dX5_fitting_30 : decode cX5_fitting 30 = .ok (.istore 7, 2) := by decide +kernel
theorem dX5_fitting_32 : decode cX5_fitting 32 = .ok (.iload 7, 2) := by decide +kernel
theorem dX5_fitting_34 : decode cX5_fitting 34 = .ok (.bipush 61, 2) := by decide +kernel
theorem dX5_fitting_36 : decode cX5_fitting 36 = .ok (.imul, 1) := by decide +kernel
theorem dX5_fitting_37 : decode cX5_fitting 37 = .ok (.iload_n 2, 1) := by decide +kernel
theorem dX5_fitting_38 : decode cX5_fitting 38 = .ok (.iadd, 1) := by decide +kernel
theorem dX5_fitting_39 : decode cX5_fitting 39 = .ok (.istore 8, 2) := by decide +kernel
theorem dX5_fitting_41 : decode cX5_fitting 41 = .ok (.iload 6, 2) := by decide +kernel
theorem dX5_fitting_43 : decode cX5_fitting 43 = .ok (.ifCond .eq 33, 3) := by decide +kernel
theorem dX5_fitting_46 : decode cX5_fitting 46 = .ok (.lload 4, 2) := by decide +kernel
theorem dX5_fitting_48 : decode cX5_fitting 48 = .ok (.aload_n 0, 1) := by decide +kernel
theorem dX5_fitting_49 : decode cX5_fitting 49 = .ok (.getfield 30, 3) := by decide +kernel
theorem dX5_fitting_52 : decode cX5_fitting 52 = .ok (.iload 8, 2) := by decide +kernel
theorem dX5_fitting_54 : decode cX5_fitting 54 = .ok (.laload, 1) := by decide +kernel
theorem dX5_fitting_55 : decode cX5_fitting 55 = .ok (.ldc2_w 143, 3) := by decide +kernel
theorem dX5_fitting_58 : decode cX5_fitting 58 = .ok (.lxor, 1) := by decide +kernel
theorem dX5_fitting_59 : decode cX5_fitting 59 = .ok (.land, 1) := by decide +kernel
theorem dX5_fitting_60 : decode cX5_fitting 60 = .ok (.lconst 0, 1) := by decide +kernel
theorem dX5_fitting_61 : decode cX5_fitting 61 = .ok (.lcmp, 1) := by decide +kernel
theorem dX5_fitting_62 : decode cX5_fitting 62 = .ok (.ifCond .ne 14, 3) := by decide +kernel
theorem dX5_fitting_65 : decode cX5_fitting 65 = .ok (.lload 4, 2) := by decide +kernel
theorem dX5_fitting_67 : decode cX5_fitting 67 = .ok (.aload_n 0, 1) := by decide +kernel
theorem dX5_fitting_68 : decode cX5_fitting 68 = .ok (.getfield 34, 3) := by decide +kernel
theorem dX5_fitting_71 : decode cX5_fitting 71 = .ok (.iload 8, 2) := by decide +kernel
theorem dX5_fitting_73 : decode cX5_fitting 73 = .ok (.laload, 1) := by decide +kernel
theorem dX5_fitting_74 : decode cX5_fitting 74 = .ok (.land, 1) := by decide +kernel
theorem dX5_fitting_75 : decode cX5_fitting 75 = .ok (.lreturn, 1) := by decide +kernel
theorem dX5_fitting_76 : decode cX5_fitting 76 = .ok (.lload 4, 2) := by decide +kernel
theorem dX5_fitting_78 : decode cX5_fitting 78 = .ok (.lstore 9, 2) := by decide +kernel
theorem dX5_fitting_80 : decode cX5_fitting 80 = .ok (.lconst 0, 1) := by decide +kernel
theorem dX5_fitting_81 : decode cX5_fitting 81 = .ok (.lstore 11, 2) := by decide +kernel
theorem dX5_fitting_83 : decode cX5_fitting 83 = .ok (.iconst 0, 1) := by decide +kernel
theorem dX5_fitting_84 : decode cX5_fitting 84 = .ok (.istore 13, 2) := by decide +kernel
theorem dX5_fitting_86 : decode cX5_fitting 86 = .ok (.iload 13, 2) := by decide +kernel
theorem dX5_fitting_88 : decode cX5_fitting 88 = .ok (.bipush 61, 2) := by decide +kernel
theorem dX5_fitting_90 : decode cX5_fitting 90 = .ok (.if_icmp .ge 78, 3) := by decide +kernel
theorem dX5_fitting_93 : decode cX5_fitting 93 = .ok (.lload 9, 2) := by decide +kernel
theorem dX5_fitting_95 : decode cX5_fitting 95 = .ok (.lconst 0, 1) := by decide +kernel
theorem dX5_fitting_96 : decode cX5_fitting 96 = .ok (.lcmp, 1) := by decide +kernel
theorem dX5_fitting_97 : decode cX5_fitting 97 = .ok (.ifCond .eq 71, 3) := by decide +kernel
theorem dX5_fitting_100 : decode cX5_fitting 100 = .ok (.lload 9, 2) := by decide +kernel
theorem dX5_fitting_102 : decode cX5_fitting 102 = .ok (.invokestatic 145, 3) := by decide +kernel
theorem dX5_fitting_105 : decode cX5_fitting 105 = .ok (.istore 14, 2) := by decide +kernel
theorem dX5_fitting_107 : decode cX5_fitting 107 = .ok (.lload 9, 2) := by decide +kernel
theorem dX5_fitting_109 : decode cX5_fitting 109 = .ok (.lload 9, 2) := by decide +kernel
theorem dX5_fitting_111 : decode cX5_fitting 111 = .ok (.lconst 1, 1) := by decide +kernel
theorem dX5_fitting_112 : decode cX5_fitting 112 = .ok (.lsub, 1) := by decide +kernel
theorem dX5_fitting_113 : decode cX5_fitting 113 = .ok (.land, 1) := by decide +kernel
theorem dX5_fitting_114 : decode cX5_fitting 114 = .ok (.lstore 9, 2) := by decide +kernel
theorem dX5_fitting_116 : decode cX5_fitting 116 = .ok (.iload 6, 2) := by decide +kernel
theorem dX5_fitting_118 : decode cX5_fitting 118 = .ok (.ifCond .eq 15, 3) := by decide +kernel
theorem dX5_fitting_121 : decode cX5_fitting 121 = .ok (.aload_n 0, 1) := by decide +kernel
theorem dX5_fitting_122 : decode cX5_fitting 122 = .ok (.iload_n 1, 1) := by decide +kernel
theorem dX5_fitting_123 : decode cX5_fitting 123 = .ok (.iload_n 2, 1) := by decide +kernel
theorem dX5_fitting_124 : decode cX5_fitting 124 = .ok (.iload_n 3, 1) := by decide +kernel
theorem dX5_fitting_125 : decode cX5_fitting 125 = .ok (.iload 14, 2) := by decide +kernel
theorem dX5_fitting_127 : decode cX5_fitting 127 = .ok (.invokevirtual 151, 3) := by decide +kernel
theorem dX5_fitting_130 : decode cX5_fitting 130 = .ok (.goto 12, 3) := by decide +kernel
theorem dX5_fitting_133 : decode cX5_fitting 133 = .ok (.aload_n 0, 1) := by decide +kernel
theorem dX5_fitting_134 : decode cX5_fitting 134 = .ok (.iload_n 3, 1) := by decide +kernel
theorem dX5_fitting_135 : decode cX5_fitting 135 = .ok (.iload 14, 2) := by decide +kernel
theorem dX5_fitting_137 : decode cX5_fitting 137 = .ok (.iload_n 1, 1) := by decide +kernel
theorem dX5_fitting_138 : decode cX5_fitting 138 = .ok (.iload_n 2, 1) := by decide +kernel
theorem dX5_fitting_139 : decode cX5_fitting 139 = .ok (.invokevirtual 151, 3) := by decide +kernel
theorem dX5_fitting_142 : decode cX5_fitting 142 = .ok (.istore 15, 2) := by decide +kernel
theorem dX5_fitting_144 : decode cX5_fitting 144 = .ok (.lload 11, 2) := by decide +kernel
theorem dX5_fitting_146 : decode cX5_fitting 146 = .ok (.iload 15, 2) := by decide +kernel
theorem dX5_fitting_148 : decode cX5_fitting 148 = .ok (.ifCond .eq 10, 3) := by decide +kernel
theorem dX5_fitting_151 : decode cX5_fitting 151 = .ok (.lconst 1, 1) := by decide +kernel
theorem dX5_fitting_152 : decode cX5_fitting 152 = .ok (.iload 14, 2) := by decide +kernel
theorem dX5_fitting_154 : decode cX5_fitting 154 = .ok (.lshl, 1) := by decide +kernel
theorem dX5_fitting_155 : decode cX5_fitting 155 = .ok (.goto 4, 3) := by decide +kernel
theorem dX5_fitting_158 : decode cX5_fitting 158 = .ok (.lconst 0, 1) := by decide +kernel
theorem dX5_fitting_159 : decode cX5_fitting 159 = .ok (.lor, 1) := by decide +kernel
theorem dX5_fitting_160 : decode cX5_fitting 160 = .ok (.lstore 11, 2) := by decide +kernel
theorem dX5_fitting_162 : decode cX5_fitting 162 = .ok (.iinc 13 1, 3) := by decide +kernel
theorem dX5_fitting_165 : decode cX5_fitting 165 = .ok (.goto (-79), 3) := by decide +kernel
theorem dX5_fitting_168 : decode cX5_fitting 168 = .ok (.lload 11, 2) := by decide +kernel
theorem dX5_fitting_170 : decode cX5_fitting 170 = .ok (.lreturn, 1) := by decide +kernel
theorem dX5_forgetWays_0 : decode cX5_forgetWays 0 = .ok (.iconst 0, 1) := by decide +kernel
theorem dX5_forgetWays_1 : decode cX5_forgetWays 1 = .ok (.istore_n 1, 1) := by decide +kernel
theorem dX5_forgetWays_2 : decode cX5_forgetWays 2 = .ok (.iload_n 1, 1) := by decide +kernel
theorem dX5_forgetWays_3 : decode cX5_forgetWays 3 = .ok (.bipush 6, 2) := by decide +kernel
theorem dX5_forgetWays_5 : decode cX5_forgetWays 5 = .ok (.if_icmp .ge 77, 3) := by decide +kernel
theorem dX5_forgetWays_8 : decode cX5_forgetWays 8 = .ok (.aload_n 0, 1) := by decide +kernel
theorem dX5_forgetWays_9 : decode cX5_forgetWays 9 = .ok (.getfield 30, 3) := by decide +kernel
theorem dX5_forgetWays_12 : decode cX5_forgetWays 12 = .ok (.iload_n 1, 1) := by decide +kernel
theorem dX5_forgetWays_13 : decode cX5_forgetWays 13 = .ok (.bipush 61, 2) := by decide +kernel
theorem dX5_forgetWays_15 : decode cX5_forgetWays 15 = .ok (.imul, 1) := by decide +kernel
theorem dX5_forgetWays_16 : decode cX5_forgetWays 16 = .ok (.lconst 0, 1) := by decide +kernel
theorem dX5_forgetWays_17 : decode cX5_forgetWays 17 = .ok (.lastore, 1) := by decide +kernel
theorem dX5_forgetWays_18 : decode cX5_forgetWays 18 = .ok (.aload_n 0, 1) := by decide +kernel
theorem dX5_forgetWays_19 : decode cX5_forgetWays 19 = .ok (.getfield 34, 3) := by decide +kernel
theorem dX5_forgetWays_22 : decode cX5_forgetWays 22 = .ok (.iload_n 1, 1) := by decide +kernel
theorem dX5_forgetWays_23 : decode cX5_forgetWays 23 = .ok (.bipush 61, 2) := by decide +kernel
theorem dX5_forgetWays_25 : decode cX5_forgetWays 25 = .ok (.imul, 1) := by decide +kernel
theorem dX5_forgetWays_26 : decode cX5_forgetWays 26 = .ok (.lconst 0, 1) := by decide +kernel
theorem dX5_forgetWays_27 : decode cX5_forgetWays 27 = .ok (.lastore, 1) := by decide +kernel
theorem dX5_forgetWays_28 : decode cX5_forgetWays 28 = .ok (.iconst 1, 1) := by decide +kernel
theorem dX5_forgetWays_29 : decode cX5_forgetWays 29 = .ok (.istore_n 2, 1) := by decide +kernel
theorem dX5_forgetWays_30 : decode cX5_forgetWays 30 = .ok (.iload_n 2, 1) := by decide +kernel
theorem dX5_forgetWays_31 : decode cX5_forgetWays 31 = .ok (.bipush 61, 2) := by decide +kernel
theorem dX5_forgetWays_33 : decode cX5_forgetWays 33 = .ok (.if_icmp .ge 43, 3) := by decide +kernel
theorem dX5_forgetWays_36 : decode cX5_forgetWays 36 = .ok (.aload_n 0, 1) := by decide +kernel
theorem dX5_forgetWays_37 : decode cX5_forgetWays 37 = .ok (.getfield 30, 3) := by decide +kernel
theorem dX5_forgetWays_40 : decode cX5_forgetWays 40 = .ok (.iload_n 1, 1) := by decide +kernel
theorem dX5_forgetWays_41 : decode cX5_forgetWays 41 = .ok (.bipush 61, 2) := by decide +kernel
theorem dX5_forgetWays_43 : decode cX5_forgetWays 43 = .ok (.imul, 1) := by decide +kernel
theorem dX5_forgetWays_44 : decode cX5_forgetWays 44 = .ok (.iload_n 2, 1) := by decide +kernel
theorem dX5_forgetWays_45 : decode cX5_forgetWays 45 = .ok (.iadd, 1) := by decide +kernel
theorem dX5_forgetWays_46 : decode cX5_forgetWays 46 = .ok (.dup2, 1) := by decide +kernel
theorem dX5_forgetWays_47 : decode cX5_forgetWays 47 = .ok (.laload, 1) := by decide +kernel
theorem dX5_forgetWays_48 : decode cX5_forgetWays 48 = .ok (.ldc2_w 99, 3) := by decide +kernel
theorem dX5_forgetWays_51 : decode cX5_forgetWays 51 = .ok (.land, 1) := by decide +kernel
theorem dX5_forgetWays_52 : decode cX5_forgetWays 52 = .ok (.lastore, 1) := by decide +kernel
theorem dX5_forgetWays_53 : decode cX5_forgetWays 53 = .ok (.aload_n 0, 1) := by decide +kernel
theorem dX5_forgetWays_54 : decode cX5_forgetWays 54 = .ok (.getfield 34, 3) := by decide +kernel
theorem dX5_forgetWays_57 : decode cX5_forgetWays 57 = .ok (.iload_n 1, 1) := by decide +kernel
theorem dX5_forgetWays_58 : decode cX5_forgetWays 58 = .ok (.bipush 61, 2) := by decide +kernel
theorem dX5_forgetWays_60 : decode cX5_forgetWays 60 = .ok (.imul, 1) := by decide +kernel
theorem dX5_forgetWays_61 : decode cX5_forgetWays 61 = .ok (.iload_n 2, 1) := by decide +kernel
theorem dX5_forgetWays_62 : decode cX5_forgetWays 62 = .ok (.iadd, 1) := by decide +kernel
theorem dX5_forgetWays_63 : decode cX5_forgetWays 63 = .ok (.dup2, 1) := by decide +kernel
theorem dX5_forgetWays_64 : decode cX5_forgetWays 64 = .ok (.laload, 1) := by decide +kernel
theorem dX5_forgetWays_65 : decode cX5_forgetWays 65 = .ok (.ldc2_w 99, 3) := by decide +kernel
theorem dX5_forgetWays_68 : decode cX5_forgetWays 68 = .ok (.land, 1) := by decide +kernel
theorem dX5_forgetWays_69 : decode cX5_forgetWays 69 = .ok (.lastore, 1) := by decide +kernel
theorem dX5_forgetWays_70 : decode cX5_forgetWays 70 = .ok (.iinc 2 1, 3) := by decide +kernel
theorem dX5_forgetWays_73 : decode cX5_forgetWays 73 = .ok (.goto (-43), 3) := by decide +kernel
theorem dX5_forgetWays_76 : decode cX5_forgetWays 76 = .ok (.iinc 1 1, 3) := by decide +kernel
theorem dX5_forgetWays_79 : decode cX5_forgetWays 79 = .ok (.goto (-77), 3) := by decide +kernel
theorem dX5_forgetWays_82 : decode cX5_forgetWays 82 = .ok (.return_, 1) := by decide +kernel
theorem dX5_init_0 : decode cX5_init 0 = .ok (.aload_n 0, 1) := by decide +kernel
theorem dX5_init_1 : decode cX5_init 1 = .ok (.invokespecial 5, 3) := by decide +kernel
theorem dX5_init_4 : decode cX5_init 4 = .ok (.aload_n 0, 1) := by decide +kernel
theorem dX5_init_5 : decode cX5_init 5 = .ok (.bipush 80, 2) := by decide +kernel
theorem dX5_init_7 : decode cX5_init 7 = .ok (.anewarray 11, 3) := by decide +kernel
theorem dX5_init_10 : decode cX5_init 10 = .ok (.putfield 13, 3) := by decide +kernel
theorem dX5_init_13 : decode cX5_init 13 = .ok (.aload_n 0, 1) := by decide +kernel
theorem dX5_init_14 : decode cX5_init 14 = .ok (.iconst 4, 1) := by decide +kernel
theorem dX5_init_15 : decode cX5_init 15 = .ok (.newarray .int, 2) := by decide +kernel
theorem dX5_init_17 : decode cX5_init 17 = .ok (.putfield 17, 3) := by decide +kernel
theorem dX5_init_20 : decode cX5_init 20 = .ok (.aload_n 0, 1) := by decide +kernel
theorem dX5_init_21 : decode cX5_init 21 = .ok (.sipush 244, 3) := by decide +kernel
theorem dX5_init_24 : decode cX5_init 24 = .ok (.newarray .int, 2) := by decide +kernel
theorem dX5_init_26 : decode cX5_init 26 = .ok (.putfield 21, 3) := by decide +kernel
theorem dX5_init_29 : decode cX5_init 29 = .ok (.aload_n 0, 1) := by decide +kernel
theorem dX5_init_30 : decode cX5_init 30 = .ok (.sipush 244, 3) := by decide +kernel
theorem dX5_init_33 : decode cX5_init 33 = .ok (.newarray .int, 2) := by decide +kernel
theorem dX5_init_35 : decode cX5_init 35 = .ok (.putfield 24, 3) := by decide +kernel
theorem dX5_init_38 : decode cX5_init 38 = .ok (.aload_n 0, 1) := by decide +kernel
theorem dX5_init_39 : decode cX5_init 39 = .ok (.bipush 10, 2) := by decide +kernel
theorem dX5_init_41 : decode cX5_init 41 = .ok (.newarray .int, 2) := by decide +kernel
theorem dX5_init_43 : decode cX5_init 43 = .ok (.putfield 27, 3) := by decide +kernel
theorem dX5_init_46 : decode cX5_init 46 = .ok (.aload_n 0, 1) := by decide +kernel
theorem dX5_init_47 : decode cX5_init 47 = .ok (.sipush 366, 3) := by decide +kernel
theorem dX5_init_50 : decode cX5_init 50 = .ok (.newarray .long, 2) := by decide +kernel
theorem dX5_init_52 : decode cX5_init 52 = .ok (.putfield 30, 3) := by decide +kernel
theorem dX5_init_55 : decode cX5_init 55 = .ok (.aload_n 0, 1) := by decide +kernel
theorem dX5_init_56 : decode cX5_init 56 = .ok (.sipush 366, 3) := by decide +kernel
theorem dX5_init_59 : decode cX5_init 59 = .ok (.newarray .long, 2) := by decide +kernel
theorem dX5_init_61 : decode cX5_init 61 = .ok (.putfield 34, 3) := by decide +kernel
theorem dX5_init_64 : decode cX5_init 64 = .ok (.aload_n 0, 1) := by decide +kernel
theorem dX5_init_65 : decode cX5_init 65 = .ok (.aload_n 1, 1) := by decide +kernel
theorem dX5_init_66 : decode cX5_init 66 = .ok (.putfield 37, 3) := by decide +kernel
theorem dX5_init_69 : decode cX5_init 69 = .ok (.aload_n 0, 1) := by decide +kernel
theorem dX5_init_70 : decode cX5_init 70 = .ok (.aload_n 2, 1) := by decide +kernel
theorem dX5_init_71 : decode cX5_init 71 = .ok (.putfield 41, 3) := by decide +kernel
theorem dX5_init_74 : decode cX5_init 74 = .ok (.aload_n 0, 1) := by decide +kernel
theorem dX5_init_75 : decode cX5_init 75 = .ok (.aload_n 3, 1) := by decide +kernel
theorem dX5_init_76 : decode cX5_init 76 = .ok (.putfield 45, 3) := by decide +kernel
theorem dX5_init_79 : decode cX5_init 79 = .ok (.aload_n 0, 1) := by decide +kernel
theorem dX5_init_80 : decode cX5_init 80 = .ok (.aload 4, 2) := by decide +kernel
theorem dX5_init_82 : decode cX5_init 82 = .ok (.putfield 49, 3) := by decide +kernel
theorem dX5_init_85 : decode cX5_init 85 = .ok (.iconst 0, 1) := by decide +kernel
theorem dX5_init_86 : decode cX5_init 86 = .ok (.istore 5, 2) := by decide +kernel
theorem dX5_init_88 : decode cX5_init 88 = .ok (.iload 5, 2) := by decide +kernel
theorem dX5_init_90 : decode cX5_init 90 = .ok (.aload_n 0, 1) := by decide +kernel
theorem dX5_init_91 : decode cX5_init 91 = .ok (.getfield 13, 3) := by decide +kernel
theorem dX5_init_94 : decode cX5_init 94 = .ok (.arraylength, 1) := by decide +kernel
theorem dX5_init_95 : decode cX5_init 95 = .ok (.if_icmp .ge 25, 3) := by decide +kernel
theorem dX5_init_98 : decode cX5_init 98 = .ok (.aload_n 0, 1) := by decide +kernel
theorem dX5_init_99 : decode cX5_init 99 = .ok (.getfield 13, 3) := by decide +kernel
theorem dX5_init_102 : decode cX5_init 102 = .ok (.iload 5, 2) := by decide +kernel
theorem dX5_init_104 : decode cX5_init 104 = .ok (.new 11, 3) := by decide +kernel
theorem dX5_init_107 : decode cX5_init 107 = .ok (.dup, 1) := by decide +kernel
theorem dX5_init_108 : decode cX5_init 108 = .ok (.bipush 10, 2) := by decide +kernel
theorem dX5_init_110 : decode cX5_init 110 = .ok (.invokespecial 53, 3) := by decide +kernel
theorem dX5_init_113 : decode cX5_init 113 = .ok (.aastore, 1) := by decide +kernel
theorem dX5_init_114 : decode cX5_init 114 = .ok (.iinc 5 1, 3) := by decide +kernel
theorem dX5_init_117 : decode cX5_init 117 = .ok (.goto (-29), 3) := by decide +kernel
theorem dX5_init_120 : decode cX5_init 120 = .ok (.return_, 1) := by decide +kernel
theorem dX5_judged_0 : decode cX5_judged 0 = .ok (.iload_n 1, 1) := by decide +kernel
theorem dX5_judged_1 : decode cX5_judged 1 = .ok (.iload_n 3, 1) := by decide +kernel
theorem dX5_judged_2 : decode cX5_judged 2 = .ok (.invokestatic 140, 3) := by decide +kernel
theorem dX5_judged_5 : decode cX5_judged 5 = .ok (.bipush 61, 2) := by decide +kernel
theorem dX5_judged_7 : decode cX5_judged 7 = .ok (.imul, 1) := by decide +kernel
theorem dX5_judged_8 : decode cX5_judged 8 = .ok (.iload_n 2, 1) := by decide +kernel
theorem dX5_judged_9 : decode cX5_judged 9 = .ok (.iadd, 1) := by decide +kernel
theorem dX5_judged_10 : decode cX5_judged 10 = .ok (.istore 5, 2) := by decide +kernel
theorem dX5_judged_12 : decode cX5_judged 12 = .ok (.lconst 1, 1) := by decide +kernel
theorem dX5_judged_13 : decode cX5_judged 13 = .ok (.iload 4, 2) := by decide +kernel
theorem dX5_judged_15 : decode cX5_judged 15 = .ok (.lshl, 1) := by decide +kernel
theorem dX5_judged_16 : decode cX5_judged 16 = .ok (.lstore 6, 2) := by decide +kernel
theorem dX5_judged_18 : decode cX5_judged 18 = .ok (.aload_n 0, 1) := by decide +kernel
theorem dX5_judged_19 : decode cX5_judged 19 = .ok (.getfield 30, 3) := by decide +kernel
theorem dX5_judged_22 : decode cX5_judged 22 = .ok (.iload 5, 2) := by decide +kernel
theorem dX5_judged_24 : decode cX5_judged 24 = .ok (.laload, 1) := by decide +kernel
theorem dX5_judged_25 : decode cX5_judged 25 = .ok (.lload 6, 2) := by decide +kernel
theorem dX5_judged_27 : decode cX5_judged 27 = .ok (.land, 1) := by decide +kernel
theorem dX5_judged_28 : decode cX5_judged 28 = .ok (.lconst 0, 1) := by decide +kernel
theorem dX5_judged_29 : decode cX5_judged 29 = .ok (.lcmp, 1) := by decide +kernel
theorem dX5_judged_30 : decode cX5_judged 30 = .ok (.ifCond .ne 193, 3) := by decide +kernel
theorem dX5_judged_33 : decode cX5_judged 33 = .ok (.aload_n 0, 1) := by decide +kernel
theorem dX5_judged_34 : decode cX5_judged 34 = .ok (.getfield 30, 3) := by decide +kernel
theorem dX5_judged_37 : decode cX5_judged 37 = .ok (.iload 5, 2) := by decide +kernel
theorem dX5_judged_39 : decode cX5_judged 39 = .ok (.dup2, 1) := by decide +kernel
theorem dX5_judged_40 : decode cX5_judged 40 = .ok (.laload, 1) := by decide +kernel
theorem dX5_judged_41 : decode cX5_judged 41 = .ok (.lload 6, 2) := by decide +kernel
theorem dX5_judged_43 : decode cX5_judged 43 = .ok (.lor, 1) := by decide +kernel
theorem dX5_judged_44 : decode cX5_judged 44 = .ok (.lastore, 1) := by decide +kernel
theorem dX5_judged_45 : decode cX5_judged 45 = .ok (.aload_n 0, 1) := by decide +kernel
theorem dX5_judged_46 : decode cX5_judged 46 = .ok (.iload_n 1, 1) := by decide +kernel
theorem dX5_judged_47 : decode cX5_judged 47 = .ok (.iload_n 2, 1) := by decide +kernel
theorem dX5_judged_48 : decode cX5_judged 48 = .ok (.invokevirtual 125, 3) := by decide +kernel
theorem dX5_judged_51 : decode cX5_judged 51 = .ok (.astore 8, 2) := by decide +kernel
theorem dX5_judged_53 : decode cX5_judged 53 = .ok (.aload_n 0, 1) := by decide +kernel
theorem dX5_judged_54 : decode cX5_judged 54 = .ok (.iload_n 3, 1) := by decide +kernel
theorem dX5_judged_55 : decode cX5_judged 55 = .ok (.iload 4, 2) := by decide +kernel
theorem dX5_judged_57 : decode cX5_judged 57 = .ok (.invokevirtual 125, 3) := by decide +kernel
theorem dX5_judged_60 : decode cX5_judged 60 = .ok (.astore 9, 2) := by decide +kernel
theorem dX5_judged_62 : decode cX5_judged 62 = .ok (.iconst 1, 1) := by decide +kernel
theorem dX5_judged_63 : decode cX5_judged 63 = .ok (.istore 10, 2) := by decide +kernel
theorem dX5_judged_65 : decode cX5_judged 65 = .ok (.iconst 1, 1) := by decide +kernel
theorem dX5_judged_66 : decode cX5_judged 66 = .ok (.istore 11, 2) := by decide +kernel
theorem dX5_judged_68 : decode cX5_judged 68 = .ok (.iload 11, 2) := by decide +kernel
theorem dX5_judged_70 : decode cX5_judged 70 = .ok (.sipush 1201, 3) := by decide +kernel
theorem dX5_judged_73 : decode cX5_judged 73 = .ok (.if_icmp .gt 129, 3) := by decide +kernel
theorem dX5_judged_76 : decode cX5_judged 76 = .ok (.iload 10, 2) := by decide +kernel
theorem dX5_judged_78 : decode cX5_judged 78 = .ok (.ifCond .eq 124, 3) := by decide +kernel
theorem dX5_judged_81 : decode cX5_judged 81 = .ok (.aload_n 0, 1) := by decide +kernel
theorem dX5_judged_82 : decode cX5_judged 82 = .ok (.getfield 45, 3) := by decide +kernel
theorem dX5_judged_85 : decode cX5_judged 85 = .ok (.iload 11, 2) := by decide +kernel
theorem dX5_judged_87 : decode cX5_judged 87 = .ok (.putfield 157, 3) := by decide +kernel
theorem dX5_judged_90 : decode cX5_judged 90 = .ok (.aload_n 0, 1) := by decide +kernel
theorem dX5_judged_91 : decode cX5_judged 91 = .ok (.getfield 45, 3) := by decide +kernel
theorem dX5_judged_94 : decode cX5_judged 94 = .ok (.iload_n 1, 1) := by decide +kernel
theorem dX5_judged_95 : decode cX5_judged 95 = .ok (.aload 8, 2) := by decide +kernel
theorem dX5_judged_97 : decode cX5_judged 97 = .ok (.aload_n 0, 1) := by decide +kernel
theorem dX5_judged_98 : decode cX5_judged 98 = .ok (.iload_n 2, 1) := by decide +kernel
theorem dX5_judged_99 : decode cX5_judged 99 = .ok (.invokevirtual 132, 3) := by decide +kernel
theorem dX5_judged_102 : decode cX5_judged 102 = .ok (.iload_n 3, 1) := by decide +kernel
theorem dX5_judged_103 : decode cX5_judged 103 = .ok (.aload 9, 2) := by decide +kernel
theorem dX5_judged_105 : decode cX5_judged 105 = .ok (.aload_n 0, 1) := by decide +kernel
theorem dX5_judged_106 : decode cX5_judged 106 = .ok (.iload 4, 2) := by decide +kernel
theorem dX5_judged_108 : decode cX5_judged 108 = .ok (.invokevirtual 132, 3) := by decide +kernel
theorem dX5_judged_111 : decode cX5_judged 111 = .ok (.invokevirtual 160, 3) := by decide +kernel
theorem dX5_judged_114 : decode cX5_judged 114 = .ok (.iconst 0, 1) := by decide +kernel
theorem dX5_judged_115 : decode cX5_judged 115 = .ok (.istore 12, 2) := by decide +kernel
theorem dX5_judged_117 : decode cX5_judged 117 = .ok (.iload 12, 2) := by decide +kernel
theorem dX5_judged_119 : decode cX5_judged 119 = .ok (.aload_n 0, 1) := by decide +kernel
theorem dX5_judged_120 : decode cX5_judged 120 = .ok (.getfield 45, 3) := by decide +kernel
theorem dX5_judged_123 : decode cX5_judged 123 = .ok (.getfield 164, 3) := by decide +kernel
theorem dX5_judged_126 : decode cX5_judged 126 = .ok (.if_icmp .ge 54, 3) := by decide +kernel
theorem dX5_judged_129 : decode cX5_judged 129 = .ok (.iload 10, 2) := by decide +kernel
theorem dX5_judged_131 : decode cX5_judged 131 = .ok (.ifCond .eq 49, 3) := by decide +kernel
theorem dX5_judged_134 : decode cX5_judged 134 = .ok (.aload_n 0, 1) := by decide +kernel
theorem dX5_judged_135 : decode cX5_judged 135 = .ok (.getfield 49, 3) := by decide +kernel
theorem dX5_judged_138 : decode cX5_judged 138 = .ok (.aload_n 0, 1) := by decide +kernel
theorem dX5_judged_139 : decode cX5_judged 139 = .ok (.getfield 45, 3) := by decide +kernel
theorem dX5_judged_142 : decode cX5_judged 142 = .ok (.iload 12, 2) := by decide +kernel
theorem dX5_judged_144 : decode cX5_judged 144 = .ok (.aload_n 0, 1) := by decide +kernel
theorem dX5_judged_145 : decode cX5_judged 145 = .ok (.getfield 41, 3) := by decide +kernel
theorem dX5_judged_148 : decode cX5_judged 148 = .ok (.invokevirtual 167, 3) := by decide +kernel
theorem dX5_judged_151 : decode cX5_judged 151 = .ok (.invokevirtual 170, 3) := by decide +kernel
theorem dX5_judged_154 : decode cX5_judged 154 = .ok (.aload_n 0, 1) := by decide +kernel
theorem dX5_judged_155 : decode cX5_judged 155 = .ok (.getfield 45, 3) := by decide +kernel
theorem dX5_judged_158 : decode cX5_judged 158 = .ok (.getfield 176, 3) := by decide +kernel
theorem dX5_judged_161 : decode cX5_judged 161 = .ok (.iload 12, 2) := by decide +kernel
theorem dX5_judged_163 : decode cX5_judged 163 = .ok (.iaload, 1) := by decide +kernel
theorem dX5_judged_164 : decode cX5_judged 164 = .ok (.if_icmp .le 7, 3) := by decide +kernel
theorem dX5_judged_167 : decode cX5_judged 167 = .ok (.iconst 1, 1) := by decide +kernel
theorem dX5_judged_168 : decode cX5_judged 168 = .ok (.goto 4, 3) := by decide +kernel
theorem dX5_judged_171 : decode cX5_judged 171 = .ok (.iconst 0, 1) := by decide +kernel
theorem dX5_judged_172 : decode cX5_judged 172 = .ok (.istore 10, 2) := by decide +kernel
theorem dX5_judged_174 : decode cX5_judged 174 = .ok (.iinc 12 1, 3) := by decide +kernel
theorem dX5_judged_177 : decode cX5_judged 177 = .ok (.goto (-60), 3) := by decide +kernel
theorem dX5_judged_180 : decode cX5_judged 180 = .ok (.aload_n 0, 1) := by decide +kernel
theorem dX5_judged_181 : decode cX5_judged 181 = .ok (.getfield 45, 3) := by decide +kernel
theorem dX5_judged_184 : decode cX5_judged 184 = .ok (.getfield 164, 3) := by decide +kernel
theorem dX5_judged_187 : decode cX5_judged 187 = .ok (.ifCond .ne 6, 3) := by decide +kernel
theorem dX5_judged_190 : decode cX5_judged 190 = .ok (.goto 12, 3) := by decide +kernel
theorem dX5_judged_193 : decode cX5_judged 193 = .ok (.iinc 11 1200, 6) := by decide +kernel
theorem dX5_judged_199 : decode cX5_judged 199 = .ok (.goto (-131), 3) := by decide +kernel
theorem dX5_judged_202 : decode cX5_judged 202 = .ok (.aload_n 0, 1) := by decide +kernel
theorem dX5_judged_203 : decode cX5_judged 203 = .ok (.getfield 34, 3) := by decide +kernel
theorem dX5_judged_206 : decode cX5_judged 206 = .ok (.iload 5, 2) := by decide +kernel
theorem dX5_judged_208 : decode cX5_judged 208 = .ok (.dup2, 1) := by decide +kernel
theorem dX5_judged_209 : decode cX5_judged 209 = .ok (.laload, 1) := by decide +kernel
theorem dX5_judged_210 : decode cX5_judged 210 = .ok (.iload 10, 2) := by decide +kernel
theorem dX5_judged_212 : decode cX5_judged 212 = .ok (.ifCond .eq 8, 3) := by decide +kernel
theorem dX5_judged_215 : decode cX5_judged 215 = .ok (.lload 6, 2) := by decide +kernel
theorem dX5_judged_217 : decode cX5_judged 217 = .ok (.goto 4, 3) := by decide +kernel
theorem dX5_judged_220 : decode cX5_judged 220 = .ok (.lconst 0, 1) := by decide +kernel
theorem dX5_judged_221 : decode cX5_judged 221 = .ok (.lor, 1) := by decide +kernel
theorem dX5_judged_222 : decode cX5_judged 222 = .ok (.lastore, 1) := by decide +kernel
theorem dX5_judged_223 : decode cX5_judged 223 = .ok (.aload_n 0, 1) := by decide +kernel
theorem dX5_judged_224 : decode cX5_judged 224 = .ok (.getfield 34, 3) := by decide +kernel
theorem dX5_judged_227 : decode cX5_judged 227 = .ok (.iload 5, 2) := by decide +kernel
theorem dX5_judged_229 : decode cX5_judged 229 = .ok (.laload, 1) := by decide +kernel
theorem dX5_judged_230 : decode cX5_judged 230 = .ok (.lload 6, 2) := by decide +kernel
theorem dX5_judged_232 : decode cX5_judged 232 = .ok (.land, 1) := by decide +kernel
theorem dX5_judged_233 : decode cX5_judged 233 = .ok (.lconst 0, 1) := by decide +kernel
theorem dX5_judged_234 : decode cX5_judged 234 = .ok (.lcmp, 1) := by decide +kernel
theorem dX5_judged_235 : decode cX5_judged 235 = .ok (.ifCond .eq 7, 3) := by decide +kernel
theorem dX5_judged_238 : decode cX5_judged 238 = .ok (.iconst 1, 1) := by decide +kernel
theorem dX5_judged_239 : decode cX5_judged 239 = .ok (.goto 4, 3) := by decide +kernel
theorem dX5_judged_242 : decode cX5_judged 242 = .ok (.iconst 0, 1) := by decide +kernel
theorem dX5_judged_243 : decode cX5_judged 243 = .ok (.ireturn, 1) := by decide +kernel
theorem dX5_lateOf_0 : decode cX5_lateOf 0 = .ok (.iload_n 1, 1) := by decide +kernel
theorem dX5_lateOf_1 : decode cX5_lateOf 1 = .ok (.ifCond .ne 7, 3) := by decide +kernel
theorem dX5_lateOf_4 : decode cX5_lateOf 4 = .ok (.iconst 0, 1) := by decide +kernel
theorem dX5_lateOf_5 : decode cX5_lateOf 5 = .ok (.goto 10, 3) := by decide +kernel
theorem dX5_lateOf_8 : decode cX5_lateOf 8 = .ok (.iload_n 1, 1) := by decide +kernel
theorem dX5_lateOf_9 : decode cX5_lateOf 9 = .ok (.iconst 1, 1) := by decide +kernel
theorem dX5_lateOf_10 : decode cX5_lateOf 10 = .ok (.isub, 1) := by decide +kernel
theorem dX5_lateOf_11 : decode cX5_lateOf 11 = .ok (.iconst 3, 1) := by decide +kernel
theorem dX5_lateOf_12 : decode cX5_lateOf 12 = .ok (.irem, 1) := by decide +kernel
theorem dX5_lateOf_13 : decode cX5_lateOf 13 = .ok (.iconst 5, 1) := by decide +kernel
theorem dX5_lateOf_14 : decode cX5_lateOf 14 = .ok (.imul, 1) := by decide +kernel
theorem dX5_lateOf_15 : decode cX5_lateOf 15 = .ok (.ireturn, 1) := by decide +kernel
theorem dX5_optionBits_0 : decode cX5_optionBits 0 = .ok (.lconst 1, 1) := by decide +kernel
theorem dX5_optionBits_1 : decode cX5_optionBits 1 = .ok (.iconst 3, 1) := by decide +kernel
theorem dX5_optionBits_2 : decode cX5_optionBits 2 = .ok (.aload_n 0, 1) := by decide +kernel
theorem dX5_optionBits_3 : decode cX5_optionBits 3 = .ok (.getfield 17, 3) := by decide +kernel
theorem dX5_optionBits_6 : decode cX5_optionBits 6 = .ok (.iload_n 1, 1) := by decide +kernel
theorem dX5_optionBits_7 : decode cX5_optionBits 7 = .ok (.iaload, 1) := by decide +kernel
theorem dX5_optionBits_8 : decode cX5_optionBits 8 = .ok (.imul, 1) := by decide +kernel
theorem dX5_optionBits_9 : decode cX5_optionBits 9 = .ok (.lshl, 1) := by decide +kernel
theorem dX5_optionBits_10 : decode cX5_optionBits 10 = .ok (.lconst 1, 1) := by decide +kernel
theorem dX5_optionBits_11 : decode cX5_optionBits 11 = .ok (.lsub, 1) := by decide +kernel
theorem dX5_optionBits_12 : decode cX5_optionBits 12 = .ok (.iconst 1, 1) := by decide +kernel
theorem dX5_optionBits_13 : decode cX5_optionBits 13 = .ok (.lshl, 1) := by decide +kernel
theorem dX5_optionBits_14 : decode cX5_optionBits 14 = .ok (.lreturn, 1) := by decide +kernel
theorem dX5_prepare_0 : decode cX5_prepare 0 = .ok (.aload_n 0, 1) := by decide +kernel
theorem dX5_prepare_1 : decode cX5_prepare 1 = .ok (.getfield 41, 3) := by decide +kernel
theorem dX5_prepare_4 : decode cX5_prepare 4 = .ok (.getfield 56, 3) := by decide +kernel
theorem dX5_prepare_7 : decode cX5_prepare 7 = .ok (.ifCond .eq 75, 3) := by decide +kernel
theorem dX5_prepare_10 : decode cX5_prepare 10 = .ok (.iconst 0, 1) := by decide +kernel
theorem dX5_prepare_11 : decode cX5_prepare 11 = .ok (.istore_n 1, 1) := by decide +kernel
theorem dX5_prepare_12 : decode cX5_prepare 12 = .ok (.iload_n 1, 1) := by decide +kernel
theorem dX5_prepare_13 : decode cX5_prepare 13 = .ok (.aload_n 0, 1) := by decide +kernel
theorem dX5_prepare_14 : decode cX5_prepare 14 = .ok (.getfield 37, 3) := by decide +kernel
theorem dX5_prepare_17 : decode cX5_prepare 17 = .ok (.getfield 62, 3) := by decide +kernel
theorem dX5_prepare_20 : decode cX5_prepare 20 = .ok (.iconst 2, 1) := by decide +kernel
theorem dX5_prepare_21 : decode cX5_prepare 21 = .ok (.iaload, 1) := by decide +kernel
theorem dX5_prepare_22 : decode cX5_prepare 22 = .ok (.if_icmp .ge 60, 3) := by decide +kernel
theorem dX5_prepare_25 : decode cX5_prepare 25 = .ok (.aload_n 0, 1) := by decide +kernel
theorem dX5_prepare_26 : decode cX5_prepare 26 = .ok (.getfield 17, 3) := by decide +kernel
theorem dX5_prepare_29 : decode cX5_prepare 29 = .ok (.iload_n 1, 1) := by decide +kernel
theorem dX5_prepare_30 : decode cX5_prepare 30 = .ok (.iconst 0, 1) := by decide +kernel
theorem dX5_prepare_31 : decode cX5_prepare 31 = .ok (.iastore, 1) := by decide +kernel
theorem dX5_prepare_32 : decode cX5_prepare 32 = .ok (.aload_n 0, 1) := by decide +kernel
theorem dX5_prepare_33 : decode cX5_prepare 33 = .ok (.getfield 27, 3) := by decide +kernel
theorem dX5_prepare_36 : decode cX5_prepare 36 = .ok (.iconst 0, 1) := by decide +kernel
theorem dX5_prepare_37 : decode cX5_prepare 37 = .ok (.aload_n 0, 1) := by decide +kernel
theorem dX5_prepare_38 : decode cX5_prepare 38 = .ok (.getfield 37, 3) := by decide +kernel
theorem dX5_prepare_41 : decode cX5_prepare 41 = .ok (.getfield 67, 3) := by decide +kernel
theorem dX5_prepare_44 : decode cX5_prepare 44 = .ok (.iload_n 1, 1) := by decide +kernel
theorem dX5_prepare_45 : decode cX5_prepare 45 = .ok (.iconst 4, 1) := by decide +kernel
theorem dX5_prepare_46 : decode cX5_prepare 46 = .ok (.imul, 1) := by decide +kernel
theorem dX5_prepare_47 : decode cX5_prepare 47 = .ok (.iaload, 1) := by decide +kernel
theorem dX5_prepare_48 : decode cX5_prepare 48 = .ok (.iastore, 1) := by decide +kernel
theorem dX5_prepare_49 : decode cX5_prepare 49 = .ok (.aload_n 0, 1) := by decide +kernel
theorem dX5_prepare_50 : decode cX5_prepare 50 = .ok (.iload_n 1, 1) := by decide +kernel
theorem dX5_prepare_51 : decode cX5_prepare 51 = .ok (.iconst 0, 1) := by decide +kernel
theorem dX5_prepare_52 : decode cX5_prepare 52 = .ok (.iconst 1, 1) := by decide +kernel
theorem dX5_prepare_53 : decode cX5_prepare 53 = .ok (.aload_n 0, 1) := by decide +kernel
theorem dX5_prepare_54 : decode cX5_prepare 54 = .ok (.getfield 37, 3) := by decide +kernel
theorem dX5_prepare_57 : decode cX5_prepare 57 = .ok (.getfield 70, 3) := by decide +kernel
theorem dX5_prepare_60 : decode cX5_prepare 60 = .ok (.aload_n 0, 1) := by decide +kernel
theorem dX5_prepare_61 : decode cX5_prepare 61 = .ok (.getfield 27, 3) := by decide +kernel
theorem dX5_prepare_64 : decode cX5_prepare 64 = .ok (.iconst 0, 1) := by decide +kernel
theorem dX5_prepare_65 : decode cX5_prepare 65 = .ok (.iaload, 1) := by decide +kernel
theorem dX5_prepare_66 : decode cX5_prepare 66 = .ok (.iaload, 1) := by decide +kernel
theorem dX5_prepare_67 : decode cX5_prepare 67 = .ok (.ishl, 1) := by decide +kernel
theorem dX5_prepare_68 : decode cX5_prepare 68 = .ok (.invokevirtual 73, 3) := by decide +kernel
theorem dX5_prepare_71 : decode cX5_prepare 71 = .ok (.aload_n 0, 1) := by decide +kernel
theorem dX5_prepare_72 : decode cX5_prepare 72 = .ok (.iload_n 1, 1) := by decide +kernel
theorem dX5_prepare_73 : decode cX5_prepare 73 = .ok (.invokevirtual 77, 3) := by decide +kernel
theorem dX5_prepare_76 : decode cX5_prepare 76 = .ok (.iinc 1 1, 3) := by decide +kernel
theorem dX5_prepare_79 : decode cX5_prepare 79 = .ok (.goto (-67), 3) := by decide +kernel
theorem dX5_prepare_82 : decode cX5_prepare 82 = .ok (.aload_n 0, 1) := by decide +kernel
theorem dX5_prepare_83 : decode cX5_prepare 83 = .ok (.getfield 41, 3) := by decide +kernel
theorem dX5_prepare_86 : decode cX5_prepare 86 = .ok (.getfield 56, 3) := by decide +kernel
theorem dX5_prepare_89 : decode cX5_prepare 89 = .ok (.ifCond .ne 13, 3) := by decide +kernel
theorem dX5_prepare_92 : decode cX5_prepare 92 = .ok (.aload_n 0, 1) := by decide +kernel
theorem dX5_prepare_93 : decode cX5_prepare 93 = .ok (.getfield 41, 3) := by decide +kernel
theorem dX5_prepare_96 : decode cX5_prepare 96 = .ok (.getfield 80, 3) := by decide +kernel
theorem dX5_prepare_99 : decode cX5_prepare 99 = .ok (.ifCond .eq 32, 3) := by decide +kernel
theorem dX5_prepare_102 : decode cX5_prepare 102 = .ok (.aload_n 0, 1) := by decide +kernel
theorem dX5_prepare_103 : decode cX5_prepare 103 = .ok (.getfield 30, 3) := by decide +kernel
theorem dX5_prepare_106 : decode cX5_prepare 106 = .ok (.lconst 0, 1) := by decide +kernel
theorem dX5_prepare_107 : decode cX5_prepare 107 = .ok (.invokestatic 83, 3) := by decide +kernel
theorem dX5_prepare_110 : decode cX5_prepare 110 = .ok (.aload_n 0, 1) := by decide +kernel
theorem dX5_prepare_111 : decode cX5_prepare 111 = .ok (.getfield 34, 3) := by decide +kernel
theorem dX5_prepare_114 : decode cX5_prepare 114 = .ok (.lconst 0, 1) := by decide +kernel
theorem dX5_prepare_115 : decode cX5_prepare 115 = .ok (.invokestatic 83, 3) := by decide +kernel
theorem dX5_prepare_118 : decode cX5_prepare 118 = .ok (.aload_n 0, 1) := by decide +kernel
theorem dX5_prepare_119 : decode cX5_prepare 119 = .ok (.dup, 1) := by decide +kernel
theorem dX5_prepare_120 : decode cX5_prepare 120 = .ok (.getfield 89, 3) := by decide +kernel
theorem dX5_prepare_123 : decode cX5_prepare 123 = .ok (.iconst 1, 1) := by decide +kernel
theorem dX5_prepare_124 : decode cX5_prepare 124 = .ok (.iadd, 1) := by decide +kernel
theorem dX5_prepare_125 : decode cX5_prepare 125 = .ok (.putfield 89, 3) := by decide +kernel
theorem dX5_prepare_128 : decode cX5_prepare 128 = .ok (.goto 17, 3) := by decide +kernel
theorem dX5_prepare_131 : decode cX5_prepare 131 = .ok (.aload_n 0, 1) := by decide +kernel
theorem dX5_prepare_132 : decode cX5_prepare 132 = .ok (.getfield 41, 3) := by decide +kernel
theorem dX5_prepare_135 : decode cX5_prepare 135 = .ok (.getfield 93, 3) := by decide +kernel
theorem dX5_prepare_138 : decode cX5_prepare 138 = .ok (.ifCond .eq 7, 3) := by decide +kernel
theorem dX5_prepare_141 : decode cX5_prepare 141 = .ok (.aload_n 0, 1) := by decide +kernel
theorem dX5_prepare_142 : decode cX5_prepare 142 = .ok (.invokevirtual 96, 3) := by decide +kernel
theorem dX5_prepare_145 : decode cX5_prepare 145 = .ok (.aload_n 0, 1) := by decide +kernel
theorem dX5_prepare_146 : decode cX5_prepare 146 = .ok (.getfield 41, 3) := by decide +kernel
theorem dX5_prepare_149 : decode cX5_prepare 149 = .ok (.iconst 0, 1) := by decide +kernel
theorem dX5_prepare_150 : decode cX5_prepare 150 = .ok (.putfield 56, 3) := by decide +kernel
theorem dX5_prepare_153 : decode cX5_prepare 153 = .ok (.aload_n 0, 1) := by decide +kernel
theorem dX5_prepare_154 : decode cX5_prepare 154 = .ok (.getfield 41, 3) := by decide +kernel
theorem dX5_prepare_157 : decode cX5_prepare 157 = .ok (.iconst 0, 1) := by decide +kernel
theorem dX5_prepare_158 : decode cX5_prepare 158 = .ok (.putfield 80, 3) := by decide +kernel
theorem dX5_prepare_161 : decode cX5_prepare 161 = .ok (.aload_n 0, 1) := by decide +kernel
theorem dX5_prepare_162 : decode cX5_prepare 162 = .ok (.getfield 41, 3) := by decide +kernel
theorem dX5_prepare_165 : decode cX5_prepare 165 = .ok (.iconst 0, 1) := by decide +kernel
theorem dX5_prepare_166 : decode cX5_prepare 166 = .ok (.putfield 93, 3) := by decide +kernel
theorem dX5_prepare_169 : decode cX5_prepare 169 = .ok (.return_, 1) := by decide +kernel
theorem dX5_rank_0 : decode cX5_rank 0 = .ok (.iload_n 1, 1) := by decide +kernel
theorem dX5_rank_1 : decode cX5_rank 1 = .ok (.bipush 61, 2) := by decide +kernel
theorem dX5_rank_3 : decode cX5_rank 3 = .ok (.imul, 1) := by decide +kernel
theorem dX5_rank_4 : decode cX5_rank 4 = .ok (.istore_n 2, 1) := by decide +kernel
theorem dX5_rank_5 : decode cX5_rank 5 = .ok (.aload_n 0, 1) := by decide +kernel
theorem dX5_rank_6 : decode cX5_rank 6 = .ok (.getfield 24, 3) := by decide +kernel
theorem dX5_rank_9 : decode cX5_rank 9 = .ok (.iload_n 2, 1) := by decide +kernel
theorem dX5_rank_10 : decode cX5_rank 10 = .ok (.iconst 0, 1) := by decide +kernel
theorem dX5_rank_11 : decode cX5_rank 11 = .ok (.iastore, 1) := by decide +kernel
theorem dX5_rank_12 : decode cX5_rank 12 = .ok (.iconst 1, 1) := by decide +kernel
theorem dX5_rank_13 : decode cX5_rank 13 = .ok (.istore_n 3, 1) := by decide +kernel
theorem dX5_rank_14 : decode cX5_rank 14 = .ok (.iload_n 3, 1) := by decide +kernel
theorem dX5_rank_15 : decode cX5_rank 15 = .ok (.iconst 3, 1) := by decide +kernel
theorem dX5_rank_16 : decode cX5_rank 16 = .ok (.aload_n 0, 1) := by decide +kernel
theorem dX5_rank_17 : decode cX5_rank 17 = .ok (.getfield 17, 3) := by decide +kernel
theorem dX5_rank_20 : decode cX5_rank 20 = .ok (.iload_n 1, 1) := by decide +kernel
theorem dX5_rank_21 : decode cX5_rank 21 = .ok (.iaload, 1) := by decide +kernel
theorem dX5_rank_22 : decode cX5_rank 22 = .ok (.imul, 1) := by decide +kernel
theorem dX5_rank_23 : decode cX5_rank 23 = .ok (.if_icmp .gt 104, 3) := by decide +kernel
theorem dX5_rank_26 : decode cX5_rank 26 = .ok (.iload_n 3, 1) := by decide +kernel
theorem dX5_rank_27 : decode cX5_rank 27 = .ok (.istore 4, 2) := by decide +kernel
theorem dX5_rank_29 : decode cX5_rank 29 = .ok (.aload_n 0, 1) := by decide +kernel
theorem dX5_rank_30 : decode cX5_rank 30 = .ok (.iload_n 1, 1) := by decide +kernel
theorem dX5_rank_31 : decode cX5_rank 31 = .ok (.iload_n 3, 1) := by decide +kernel
theorem dX5_rank_32 : decode cX5_rank 32 = .ok (.invokevirtual 125, 3) := by decide +kernel
theorem dX5_rank_35 : decode cX5_rank 35 = .ok (.getfield 129, 3) := by decide +kernel
theorem dX5_rank_38 : decode cX5_rank 38 = .ok (.aload_n 0, 1) := by decide +kernel
theorem dX5_rank_39 : decode cX5_rank 39 = .ok (.iload_n 3, 1) := by decide +kernel
theorem dX5_rank_40 : decode cX5_rank 40 = .ok (.invokevirtual 132, 3) := by decide +kernel
theorem dX5_rank_43 : decode cX5_rank 43 = .ok (.iadd, 1) := by decide +kernel
theorem dX5_rank_44 : decode cX5_rank 44 = .ok (.istore 5, 2) := by decide +kernel
theorem dX5_rank_46 : decode cX5_rank 46 = .ok (.aload_n 0, 1) := by decide +kernel
theorem dX5_rank_47 : decode cX5_rank 47 = .ok (.getfield 21, 3) := by decide +kernel
theorem dX5_rank_50 : decode cX5_rank 50 = .ok (.iload_n 2, 1) := by decide +kernel
theorem dX5_rank_51 : decode cX5_rank 51 = .ok (.iload_n 3, 1) := by decide +kernel
theorem dX5_rank_52 : decode cX5_rank 52 = .ok (.iadd, 1) := by decide +kernel
theorem dX5_rank_53 : decode cX5_rank 53 = .ok (.iload 5, 2) := by decide +kernel
theorem dX5_rank_55 : decode cX5_rank 55 = .ok (.iastore, 1) := by decide +kernel
theorem dX5_rank_56 : decode cX5_rank 56 = .ok (.iload 4, 2) := by decide +kernel
theorem dX5_rank_58 : decode cX5_rank 58 = .ok (.iconst 1, 1) := by decide +kernel
theorem dX5_rank_59 : decode cX5_rank 59 = .ok (.if_icmp .le 52, 3) := by decide +kernel
theorem dX5_rank_62 : decode cX5_rank 62 = .ok (.aload_n 0, 1) := by decide +kernel
theorem dX5_rank_63 : decode cX5_rank 63 = .ok (.getfield 21, 3) := by decide +kernel
theorem dX5_rank_66 : decode cX5_rank 66 = .ok (.iload_n 2, 1) := by decide +kernel
theorem dX5_rank_67 : decode cX5_rank 67 = .ok (.aload_n 0, 1) := by decide +kernel
theorem dX5_rank_68 : decode cX5_rank 68 = .ok (.getfield 24, 3) := by decide +kernel
theorem dX5_rank_71 : decode cX5_rank 71 = .ok (.iload_n 2, 1) := by decide +kernel
theorem dX5_rank_72 : decode cX5_rank 72 = .ok (.iload 4, 2) := by decide +kernel
theorem dX5_rank_74 : decode cX5_rank 74 = .ok (.iadd, 1) := by decide +kernel
theorem dX5_rank_75 : decode cX5_rank 75 = .ok (.iconst 1, 1) := by decide +kernel
theorem dX5_rank_76 : decode cX5_rank 76 = .ok (.isub, 1) := by decide +kernel
theorem dX5_rank_77 : decode cX5_rank 77 = .ok (.iaload, 1) := by decide +kernel
theorem dX5_rank_78 : decode cX5_rank 78 = .ok (.iadd, 1) := by decide +kernel
theorem dX5_rank_79 : decode cX5_rank 79 = .ok (.iaload, 1) := by decide +kernel
theorem dX5_rank_80 : decode cX5_rank 80 = .ok (.iload 5, 2) := by decide +kernel
theorem dX5_rank_82 : decode cX5_rank 82 = .ok (.if_icmp .le 29, 3) := by decide +kernel
theorem dX5_rank_85 : decode cX5_rank 85 = .ok (.aload_n 0, 1) := by decide +kernel
theorem dX5_rank_86 : decode cX5_rank 86 = .ok (.getfield 24, 3) := by decide +kernel
theorem dX5_rank_89 : decode cX5_rank 89 = .ok (.iload_n 2, 1) := by decide +kernel
theorem dX5_rank_90 : decode cX5_rank 90 = .ok (.iload 4, 2) := by decide +kernel
theorem dX5_rank_92 : decode cX5_rank 92 = .ok (.iadd, 1) := by decide +kernel
theorem dX5_rank_93 : decode cX5_rank 93 = .ok (.aload_n 0, 1) := by decide +kernel
theorem dX5_rank_94 : decode cX5_rank 94 = .ok (.getfield 24, 3) := by decide +kernel
theorem dX5_rank_97 : decode cX5_rank 97 = .ok (.iload_n 2, 1) := by decide +kernel
theorem dX5_rank_98 : decode cX5_rank 98 = .ok (.iload 4, 2) := by decide +kernel
theorem dX5_rank_100 : decode cX5_rank 100 = .ok (.iadd, 1) := by decide +kernel
theorem dX5_rank_101 : decode cX5_rank 101 = .ok (.iconst 1, 1) := by decide +kernel
theorem dX5_rank_102 : decode cX5_rank 102 = .ok (.isub, 1) := by decide +kernel
theorem dX5_rank_103 : decode cX5_rank 103 = .ok (.iaload, 1) := by decide +kernel
theorem dX5_rank_104 : decode cX5_rank 104 = .ok (.iastore, 1) := by decide +kernel
theorem dX5_rank_105 : decode cX5_rank 105 = .ok (.iinc 4 (-1), 3) := by decide +kernel
theorem dX5_rank_108 : decode cX5_rank 108 = .ok (.goto (-52), 3) := by decide +kernel
theorem dX5_rank_111 : decode cX5_rank 111 = .ok (.aload_n 0, 1) := by decide +kernel
theorem dX5_rank_112 : decode cX5_rank 112 = .ok (.getfield 24, 3) := by decide +kernel
theorem dX5_rank_115 : decode cX5_rank 115 = .ok (.iload_n 2, 1) := by decide +kernel
theorem dX5_rank_116 : decode cX5_rank 116 = .ok (.iload 4, 2) := by decide +kernel
theorem dX5_rank_118 : decode cX5_rank 118 = .ok (.iadd, 1) := by decide +kernel
theorem dX5_rank_119 : decode cX5_rank 119 = .ok (.iload_n 3, 1) := by decide +kernel
theorem dX5_rank_120 : decode cX5_rank 120 = .ok (.iastore, 1) := by decide +kernel
theorem dX5_rank_121 : decode cX5_rank 121 = .ok (.iinc 3 1, 3) := by decide +kernel
theorem dX5_rank_124 : decode cX5_rank 124 = .ok (.goto (-110), 3) := by decide +kernel
theorem dX5_rank_127 : decode cX5_rank 127 = .ok (.return_, 1) := by decide +kernel
theorem dX5_record_0 : decode cX5_record 0 = .ok (.aload_n 0, 1) := by decide +kernel
theorem dX5_record_1 : decode cX5_record 1 = .ok (.getfield 13, 3) := by decide +kernel
theorem dX5_record_4 : decode cX5_record 4 = .ok (.iload_n 1, 1) := by decide +kernel
theorem dX5_record_5 : decode cX5_record 5 = .ok (.bipush 20, 2) := by decide +kernel
theorem dX5_record_7 : decode cX5_record 7 = .ok (.imul, 1) := by decide +kernel
theorem dX5_record_8 : decode cX5_record 8 = .ok (.aload_n 0, 1) := by decide +kernel
theorem dX5_record_9 : decode cX5_record 9 = .ok (.getfield 17, 3) := by decide +kernel
theorem dX5_record_12 : decode cX5_record 12 = .ok (.iload_n 1, 1) := by decide +kernel
theorem dX5_record_13 : decode cX5_record 13 = .ok (.iaload, 1) := by decide +kernel
theorem dX5_record_14 : decode cX5_record 14 = .ok (.iadd, 1) := by decide +kernel
theorem dX5_record_15 : decode cX5_record 15 = .ok (.aaload, 1) := by decide +kernel
theorem dX5_record_16 : decode cX5_record 16 = .ok (.astore_n 3, 1) := by decide +kernel
theorem dX5_record_17 : decode cX5_record 17 = .ok (.aload_n 0, 1) := by decide +kernel
theorem dX5_record_18 : decode cX5_record 18 = .ok (.getfield 17, 3) := by decide +kernel
theorem dX5_record_21 : decode cX5_record 21 = .ok (.iload_n 1, 1) := by decide +kernel
theorem dX5_record_22 : decode cX5_record 22 = .ok (.dup2, 1) := by decide +kernel
theorem dX5_record_23 : decode cX5_record 23 = .ok (.iaload, 1) := by decide +kernel
theorem dX5_record_24 : decode cX5_record 24 = .ok (.iconst 1, 1) := by decide +kernel
theorem dX5_record_25 : decode cX5_record 25 = .ok (.iadd, 1) := by decide +kernel
theorem dX5_record_26 : decode cX5_record 26 = .ok (.iastore, 1) := by decide +kernel
theorem dX5_record_27 : decode cX5_record 27 = .ok (.aload_n 3, 1) := by decide +kernel
theorem dX5_record_28 : decode cX5_record 28 = .ok (.aload_n 0, 1) := by decide +kernel
theorem dX5_record_29 : decode cX5_record 29 = .ok (.getfield 27, 3) := by decide +kernel
theorem dX5_record_32 : decode cX5_record 32 = .ok (.iconst 0, 1) := by decide +kernel
theorem dX5_record_33 : decode cX5_record 33 = .ok (.iaload, 1) := by decide +kernel
theorem dX5_record_34 : decode cX5_record 34 = .ok (.invokevirtual 115, 3) := by decide +kernel
theorem dX5_record_37 : decode cX5_record 37 = .ok (.iconst 1, 1) := by decide +kernel
theorem dX5_record_38 : decode cX5_record 38 = .ok (.istore 4, 2) := by decide +kernel
theorem dX5_record_40 : decode cX5_record 40 = .ok (.iload 4, 2) := by decide +kernel
theorem dX5_record_42 : decode cX5_record 42 = .ok (.iload_n 2, 1) := by decide +kernel
theorem dX5_record_43 : decode cX5_record 43 = .ok (.if_icmp .gt 62, 3) := by decide +kernel
theorem dX5_record_46 : decode cX5_record 46 = .ok (.aload_n 0, 1) := by decide +kernel
theorem dX5_record_47 : decode cX5_record 47 = .ok (.getfield 37, 3) := by decide +kernel
theorem dX5_record_50 : decode cX5_record 50 = .ok (.getfield 108, 3) := by decide +kernel
theorem dX5_record_53 : decode cX5_record 53 = .ok (.aload_n 0, 1) := by decide +kernel
theorem dX5_record_54 : decode cX5_record 54 = .ok (.getfield 27, 3) := by decide +kernel
theorem dX5_record_57 : decode cX5_record 57 = .ok (.iload 4, 2) := by decide +kernel
theorem dX5_record_59 : decode cX5_record 59 = .ok (.iconst 1, 1) := by decide +kernel
theorem dX5_record_60 : decode cX5_record 60 = .ok (.isub, 1) := by decide +kernel
theorem dX5_record_61 : decode cX5_record 61 = .ok (.iaload, 1) := by decide +kernel
theorem dX5_record_62 : decode cX5_record 62 = .ok (.bipush 10, 2) := by decide +kernel
theorem dX5_record_64 : decode cX5_record 64 = .ok (.imul, 1) := by decide +kernel
theorem dX5_record_65 : decode cX5_record 65 = .ok (.aload_n 0, 1) := by decide +kernel
theorem dX5_record_66 : decode cX5_record 66 = .ok (.getfield 27, 3) := by decide +kernel
theorem dX5_record_69 : decode cX5_record 69 = .ok (.iload 4, 2) := by decide +kernel
theorem dX5_record_71 : decode cX5_record 71 = .ok (.iaload, 1) := by decide +kernel
theorem dX5_record_72 : decode cX5_record 72 = .ok (.iadd, 1) := by decide +kernel
theorem dX5_record_73 : decode cX5_record 73 = .ok (.iaload, 1) := by decide +kernel
theorem dX5_record_74 : decode cX5_record 74 = .ok (.istore 5, 2) := by decide +kernel
theorem dX5_record_76 : decode cX5_record 76 = .ok (.aload_n 3, 1) := by decide +kernel
theorem dX5_record_77 : decode cX5_record 77 = .ok (.iload 5, 2) := by decide +kernel
theorem dX5_record_79 : decode cX5_record 79 = .ok (.aload_n 0, 1) := by decide +kernel
theorem dX5_record_80 : decode cX5_record 80 = .ok (.getfield 27, 3) := by decide +kernel
theorem dX5_record_83 : decode cX5_record 83 = .ok (.iload 4, 2) := by decide +kernel
theorem dX5_record_85 : decode cX5_record 85 = .ok (.iaload, 1) := by decide +kernel
theorem dX5_record_86 : decode cX5_record 86 = .ok (.aload_n 0, 1) := by decide +kernel
theorem dX5_record_87 : decode cX5_record 87 = .ok (.getfield 37, 3) := by decide +kernel
theorem dX5_record_90 : decode cX5_record 90 = .ok (.iload_n 1, 1) := by decide +kernel
theorem dX5_record_91 : decode cX5_record 91 = .ok (.iload 5, 2) := by decide +kernel
theorem dX5_record_93 : decode cX5_record 93 = .ok (.invokevirtual 118, 3) := by decide +kernel
theorem dX5_record_96 : decode cX5_record 96 = .ok (.invokevirtual 122, 3) := by decide +kernel
theorem dX5_record_99 : decode cX5_record 99 = .ok (.iinc 4 1, 3) := by decide +kernel
theorem dX5_record_102 : decode cX5_record 102 = .ok (.goto (-62), 3) := by decide +kernel
theorem dX5_record_105 : decode cX5_record 105 = .ok (.return_, 1) := by decide +kernel
theorem dX5_routesOf_0 : decode cX5_routesOf 0 = .ok (.aload_n 0, 1) := by decide +kernel
theorem dX5_routesOf_1 : decode cX5_routesOf 1 = .ok (.invokevirtual 136, 3) := by decide +kernel
theorem dX5_routesOf_4 : decode cX5_routesOf 4 = .ok (.aload_n 0, 1) := by decide +kernel
theorem dX5_routesOf_5 : decode cX5_routesOf 5 = .ok (.getfield 17, 3) := by decide +kernel
theorem dX5_routesOf_8 : decode cX5_routesOf 8 = .ok (.iload_n 1, 1) := by decide +kernel
theorem dX5_routesOf_9 : decode cX5_routesOf 9 = .ok (.iaload, 1) := by decide +kernel
theorem dX5_routesOf_10 : decode cX5_routesOf 10 = .ok (.ireturn, 1) := by decide +kernel
theorem dX5_trackOf_0 : decode cX5_trackOf 0 = .ok (.iload_n 2, 1) := by decide +kernel
theorem dX5_trackOf_1 : decode cX5_trackOf 1 = .ok (.ifCond .ne 15, 3) := by decide +kernel
theorem dX5_trackOf_4 : decode cX5_trackOf 4 = .ok (.aload_n 0, 1) := by decide +kernel
theorem dX5_trackOf_5 : decode cX5_trackOf 5 = .ok (.getfield 41, 3) := by decide +kernel
theorem dX5_trackOf_8 : decode cX5_trackOf 8 = .ok (.getfield 139, 3) := by decide +kernel
theorem dX5_trackOf_11 : decode cX5_trackOf 11 = .ok (.iload_n 1, 1) := by decide +kernel
theorem dX5_trackOf_12 : decode cX5_trackOf 12 = .ok (.aaload, 1) := by decide +kernel
theorem dX5_trackOf_13 : decode cX5_trackOf 13 = .ok (.goto 18, 3) := by decide +kernel
theorem dX5_trackOf_16 : decode cX5_trackOf 16 = .ok (.aload_n 0, 1) := by decide +kernel
theorem dX5_trackOf_17 : decode cX5_trackOf 17 = .ok (.getfield 13, 3) := by decide +kernel
theorem dX5_trackOf_20 : decode cX5_trackOf 20 = .ok (.iload_n 1, 1) := by decide +kernel
theorem dX5_trackOf_21 : decode cX5_trackOf 21 = .ok (.bipush 20, 2) := by decide +kernel
theorem dX5_trackOf_23 : decode cX5_trackOf 23 = .ok (.imul, 1) := by decide +kernel
theorem dX5_trackOf_24 : decode cX5_trackOf 24 = .ok (.iload_n 2, 1) := by decide +kernel
theorem dX5_trackOf_25 : decode cX5_trackOf 25 = .ok (.iconst 1, 1) := by decide +kernel
theorem dX5_trackOf_26 : decode cX5_trackOf 26 = .ok (.isub, 1) := by decide +kernel
theorem dX5_trackOf_27 : decode cX5_trackOf 27 = .ok (.iconst 3, 1) := by decide +kernel
theorem dX5_trackOf_28 : decode cX5_trackOf 28 = .ok (.idiv, 1) := by decide +kernel
theorem dX5_trackOf_29 : decode cX5_trackOf 29 = .ok (.iadd, 1) := by decide +kernel
theorem dX5_trackOf_30 : decode cX5_trackOf 30 = .ok (.aaload, 1) := by decide +kernel
theorem dX5_trackOf_31 : decode cX5_trackOf 31 = .ok (.areturn, 1) := by decide +kernel
theorem dX6_adopt_0 : decode cX6_adopt 0 = .ok (.aload_n 0, 1) := by decide +kernel
theorem dX6_adopt_1 : decode cX6_adopt 1 = .ok (.getfield 33, 3) := by decide +kernel
theorem dX6_adopt_4 : decode cX6_adopt 4 = .ok (.iload_n 1, 1) := by decide +kernel
theorem dX6_adopt_5 : decode cX6_adopt 5 = .ok (.aload_n 0, 1) := by decide +kernel
theorem dX6_adopt_6 : decode cX6_adopt 6 = .ok (.getfield 37, 3) := by decide +kernel
theorem dX6_adopt_9 : decode cX6_adopt 9 = .ok (.iload_n 1, 1) := by decide +kernel
theorem dX6_adopt_10 : decode cX6_adopt 10 = .ok (.iload_n 2, 1) := by decide +kernel
theorem dX6_adopt_11 : decode cX6_adopt 11 = .ok (.invokevirtual 124, 3) := by decide +kernel
theorem dX6_adopt_14 : decode cX6_adopt 14 = .ok (.aload_n 0, 1) := by decide +kernel
theorem dX6_adopt_15 : decode cX6_adopt 15 = .ok (.getfield 37, 3) := by decide +kernel
theorem dX6_adopt_18 : decode cX6_adopt 18 = .ok (.iload_n 2, 1) := by decide +kernel
theorem dX6_adopt_19 : decode cX6_adopt 19 = .ok (.invokevirtual 128, 3) := by decide +kernel
theorem dX6_adopt_22 : decode cX6_adopt 22 = .ok (.invokevirtual 132, 3) := by decide +kernel
theorem dX6_adopt_25 : decode cX6_adopt 25 = .ok (.return_, 1) := by decide +kernel
theorem dX6_carryOut_0 : decode cX6_carryOut 0 = .ok (.iconst 0, 1) := by decide +kernel
theorem dX6_carryOut_1 : decode cX6_carryOut 1 = .ok (.istore_n 1, 1) := by decide +kernel
theorem dX6_carryOut_2 : decode cX6_carryOut 2 = .ok (.iconst 0, 1) := by decide +kernel
theorem dX6_carryOut_3 : decode cX6_carryOut 3 = .ok (.istore_n 2, 1) := by decide +kernel
theorem dX6_carryOut_4 : decode cX6_carryOut 4 = .ok (.iload_n 2, 1) := by decide +kernel
theorem dX6_carryOut_5 : decode cX6_carryOut 5 = .ok (.aload_n 0, 1) := by decide +kernel
theorem dX6_carryOut_6 : decode cX6_carryOut 6 = .ok (.getfield 59, 3) := by decide +kernel
theorem dX6_carryOut_9 : decode cX6_carryOut 9 = .ok (.if_icmp .ge 39, 3) := by decide +kernel
theorem dX6_carryOut_12 : decode cX6_carryOut 12 = .ok (.aload_n 0, 1) := by decide +kernel
theorem dX6_carryOut_13 : decode cX6_carryOut 13 = .ok (.getfield 15, 3) := by decide +kernel
theorem dX6_carryOut_16 : decode cX6_carryOut 16 = .ok (.iload_n 2, 1) := by decide +kernel
theorem dX6_carryOut_17 : decode cX6_carryOut 17 = .ok (.iaload, 1) := by decide +kernel
theorem dX6_carryOut_18 : decode cX6_carryOut 18 = .ok (.istore_n 3, 1) := by decide +kernel
theorem dX6_carryOut_19 : decode cX6_carryOut 19 = .ok (.aload_n 0, 1) := by decide +kernel
theorem dX6_carryOut_20 : decode cX6_carryOut 20 = .ok (.getfield 22, 3) := by decide +kernel
theorem dX6_carryOut_23 : decode cX6_carryOut 23 = .ok (.iload_n 3, 1) := by decide +kernel
theorem dX6_carryOut_24 : decode cX6_carryOut 24 = .ok (.iaload, 1) := by decide +kernel
theorem dX6_carryOut_25 : decode cX6_carryOut 25 = .ok (.ifCond .eq 17, 3) := by decide +kernel
theorem dX6_carryOut_28 : decode cX6_carryOut 28 = .ok (.aload_n 0, 1) := by decide +kernel
theorem dX6_carryOut_29 : decode cX6_carryOut 29 = .ok (.iload_n 3, 1) := by decide +kernel
theorem dX6_carryOut_30 : decode cX6_carryOut 30 = .ok (.aload_n 0, 1) := by decide +kernel
theorem dX6_carryOut_31 : decode cX6_carryOut 31 = .ok (.getfield 22, 3) := by decide +kernel
theorem dX6_carryOut_34 : decode cX6_carryOut 34 = .ok (.iload_n 3, 1) := by decide +kernel
theorem dX6_carryOut_35 : decode cX6_carryOut 35 = .ok (.iaload, 1) := by decide +kernel
theorem dX6_carryOut_36 : decode cX6_carryOut 36 = .ok (.invokevirtual 121, 3) := by decide +kernel
theorem dX6_carryOut_39 : decode cX6_carryOut 39 = .ok (.iinc 1 1, 3) := by decide +kernel
theorem dX6_carryOut_42 : decode cX6_carryOut 42 = .ok (.iinc 2 1, 3) := by decide +kernel
theorem dX6_carryOut_45 : decode cX6_carryOut 45 = .ok (.goto (-41), 3) := by decide +kernel
theorem dX6_carryOut_48 : decode cX6_carryOut 48 = .ok (.iload_n 1, 1) := by decide +kernel
theorem dX6_carryOut_49 : decode cX6_carryOut 49 = .ok (.ireturn, 1) := by decide +kernel
theorem dX6_cheapEnough_0 : decode cX6_cheapEnough 0 = .ok (.iconst 3, 1) := by decide +kernel
theorem dX6_cheapEnough_1 : decode cX6_cheapEnough 1 = .ok (.aload_n 0, 1) := by decide +kernel
theorem dX6_cheapEnough_2 : decode cX6_cheapEnough 2 = .ok (.getfield 37, 3) := by decide +kernel
theorem dX6_cheapEnough_5 : decode cX6_cheapEnough 5 = .ok (.getfield 92, 3) := by decide +kernel
theorem dX6_cheapEnough_8 : decode cX6_cheapEnough 8 = .ok (.iload_n 1, 1) := by decide +kernel
theorem dX6_cheapEnough_9 : decode cX6_cheapEnough 9 = .ok (.iaload, 1) := by decide +kernel
theorem dX6_cheapEnough_10 : decode cX6_cheapEnough 10 = .ok (.imul, 1) := by decide +kernel
theorem dX6_cheapEnough_11 : decode cX6_cheapEnough 11 = .ok (.istore 5, 2) := by decide +kernel
theorem dX6_cheapEnough_13 : decode cX6_cheapEnough 13 = .ok (.aload_n 0, 1) := by decide +kernel
theorem dX6_cheapEnough_14 : decode cX6_cheapEnough 14 = .ok (.iload_n 1, 1) := by decide +kernel
theorem dX6_cheapEnough_15 : decode cX6_cheapEnough 15 = .ok (.aload_n 0, 1) := by decide +kernel
theorem dX6_cheapEnough_16 : decode cX6_cheapEnough 16 = .ok (.getfield 37, 3) := by decide +kernel
theorem dX6_cheapEnough_19 : decode cX6_cheapEnough 19 = .ok (.getfield 95, 3) := by decide +kernel
theorem dX6_cheapEnough_22 : decode cX6_cheapEnough 22 = .ok (.iload_n 1, 1) := by decide +kernel
theorem dX6_cheapEnough_23 : decode cX6_cheapEnough 23 = .ok (.bipush 61, 2) := by decide +kernel
theorem dX6_cheapEnough_25 : decode cX6_cheapEnough 25 = .ok (.imul, 1) := by decide +kernel
theorem dX6_cheapEnough_26 : decode cX6_cheapEnough 26 = .ok (.iload 5, 2) := by decide +kernel
theorem dX6_cheapEnough_28 : decode cX6_cheapEnough 28 = .ok (.iadd, 1) := by decide +kernel
theorem dX6_cheapEnough_29 : decode cX6_cheapEnough 29 = .ok (.iaload, 1) := by decide +kernel
theorem dX6_cheapEnough_30 : decode cX6_cheapEnough 30 = .ok (.invokevirtual 98, 3) := by decide +kernel
theorem dX6_cheapEnough_33 : decode cX6_cheapEnough 33 = .ok (.iload 4, 2) := by decide +kernel
theorem dX6_cheapEnough_35 : decode cX6_cheapEnough 35 = .ok (.if_icmp .ge 5, 3) := by decide +kernel
theorem dX6_cheapEnough_38 : decode cX6_cheapEnough 38 = .ok (.lload_n 2, 1) := by decide +kernel
theorem dX6_cheapEnough_39 : decode cX6_cheapEnough 39 = .ok (.lreturn, 1) := by decide +kernel
theorem dX6_cheapEnough_40 : decode cX6_cheapEnough 40 = .ok (.lconst 1, 1) := by decide +kernel
theorem dX6_cheapEnough_41 : decode cX6_cheapEnough 41 = .ok (.lstore 6, 2) := by decide +kernel
theorem dX6_cheapEnough_43 : decode cX6_cheapEnough 43 = .ok (.iconst 1, 1) := by decide +kernel
theorem dX6_cheapEnough_44 : decode cX6_cheapEnough 44 = .ok (.istore 8, 2) := by decide +kernel
theorem dX6_cheapEnough_46 : decode cX6_cheapEnough 46 = .ok (.iload 8, 2) := by decide +kernel
theorem dX6_cheapEnough_48 : decode cX6_cheapEnough 48 = .ok (.iload 5, 2) := by decide +kernel
theorem dX6_cheapEnough_50 : decode cX6_cheapEnough 50 = .ok (.if_icmp .gt 50, 3) := by decide +kernel
theorem dX6_cheapEnough_53 : decode cX6_cheapEnough 53 = .ok (.aload_n 0, 1) := by decide +kernel
theorem dX6_cheapEnough_54 : decode cX6_cheapEnough 54 = .ok (.getfield 37, 3) := by decide +kernel
theorem dX6_cheapEnough_57 : decode cX6_cheapEnough 57 = .ok (.getfield 95, 3) := by decide +kernel
theorem dX6_cheapEnough_60 : decode cX6_cheapEnough 60 = .ok (.iload_n 1, 1) := by decide +kernel
theorem dX6_cheapEnough_61 : decode cX6_cheapEnough 61 = .ok (.bipush 61, 2) := by decide +kernel
theorem dX6_cheapEnough_63 : decode cX6_cheapEnough 63 = .ok (.imul, 1) := by decide +kernel
theorem dX6_cheapEnough_64 : decode cX6_cheapEnough 64 = .ok (.iload 8, 2) := by decide +kernel
theorem dX6_cheapEnough_66 : decode cX6_cheapEnough 66 = .ok (.iadd, 1) := by decide +kernel
theorem dX6_cheapEnough_67 : decode cX6_cheapEnough 67 = .ok (.iaload, 1) := by decide +kernel
theorem dX6_cheapEnough_68 : decode cX6_cheapEnough 68 = .ok (.istore 9, 2) := by decide +kernel
theorem dX6_cheapEnough_70 : decode cX6_cheapEnough 70 = .ok (.aload_n 0, 1) := by decide +kernel
theorem dX6_cheapEnough_71 : decode cX6_cheapEnough 71 = .ok (.iload_n 1, 1) := by decide +kernel
theorem dX6_cheapEnough_72 : decode cX6_cheapEnough 72 = .ok (.iload 9, 2) := by decide +kernel
theorem dX6_cheapEnough_74 : decode cX6_cheapEnough 74 = .ok (.invokevirtual 98, 3) := by decide +kernel
theorem dX6_cheapEnough_77 : decode cX6_cheapEnough 77 = .ok (.iload 4, 2) := by decide +kernel
theorem dX6_cheapEnough_79 : decode cX6_cheapEnough 79 = .ok (.if_icmp .lt 6, 3) := by decide +kernel
theorem dX6_cheapEnough_82 : decode cX6_cheapEnough 82 = .ok (.goto 18, 3) := by decide +kernel
theorem dX6_cheapEnough_85 : decode cX6_cheapEnough 85 = .ok (.lload 6, 2) := by decide +kernel
theorem dX6_cheapEnough_87 : decode cX6_cheapEnough 87 = .ok (.lconst 1, 1) := by decide +kernel
theorem dX6_cheapEnough_88 : decode cX6_cheapEnough 88 = .ok (.iload 9, 2) := by decide +kernel
theorem dX6_cheapEnough_90 : decode cX6_cheapEnough 90 = .ok (.lshl, 1) := by decide +kernel
theorem dX6_cheapEnough_91 : decode cX6_cheapEnough 91 = .ok (.lor, 1) := by decide +kernel
theorem dX6_cheapEnough_92 : decode cX6_cheapEnough 92 = .ok (.lstore 6, 2) := by decide +kernel
theorem dX6_cheapEnough_94 : decode cX6_cheapEnough 94 = .ok (.iinc 8 1, 3) := by decide +kernel
theorem dX6_cheapEnough_97 : decode cX6_cheapEnough 97 = .ok (.goto (-51), 3) := by decide +kernel
theorem dX6_cheapEnough_100 : decode cX6_cheapEnough 100 = .ok (.lload_n 2, 1) := by decide +kernel
theorem dX6_cheapEnough_101 : decode cX6_cheapEnough 101 = .ok (.lload 6, 2) := by decide +kernel
theorem dX6_cheapEnough_103 : decode cX6_cheapEnough 103 = .ok (.land, 1) := by decide +kernel
theorem dX6_cheapEnough_104 : decode cX6_cheapEnough 104 = .ok (.lreturn, 1) := by decide +kernel
theorem dX6_cheapest_0 : decode cX6_cheapest 0 = .ok (.iconst 0, 1) := by decide +kernel
theorem dX6_cheapest_1 : decode cX6_cheapest 1 = .ok (.istore 4, 2) := by decide +kernel
theorem dX6_cheapest_3 : decode cX6_cheapest 3 = .ok (.iload 4, 2) := by decide +kernel
theorem dX6_cheapest_5 : decode cX6_cheapest 5 = .ok (.iconst 3, 1) := by decide +kernel
theorem dX6_cheapest_6 : decode cX6_cheapest 6 = .ok (.aload_n 0, 1) := by decide +kernel
theorem dX6_cheapest_7 : decode cX6_cheapest 7 = .ok (.getfield 37, 3) := by decide +kernel
theorem dX6_cheapest_10 : decode cX6_cheapest 10 = .ok (.getfield 92, 3) := by decide +kernel
theorem dX6_cheapest_13 : decode cX6_cheapest 13 = .ok (.iload_n 1, 1) := by decide +kernel
theorem dX6_cheapest_14 : decode cX6_cheapest 14 = .ok (.iaload, 1) := by decide +kernel
theorem dX6_cheapest_15 : decode cX6_cheapest 15 = .ok (.imul, 1) := by decide +kernel
theorem dX6_cheapest_16 : decode cX6_cheapest 16 = .ok (.if_icmp .gt 51, 3) := by decide +kernel
theorem dX6_cheapest_19 : decode cX6_cheapest 19 = .ok (.lload_n 2, 1) := by decide +kernel
theorem dX6_cheapest_20 : decode cX6_cheapest 20 = .ok (.lconst 0, 1) := by decide +kernel
theorem dX6_cheapest_21 : decode cX6_cheapest 21 = .ok (.lcmp, 1) := by decide +kernel
theorem dX6_cheapest_22 : decode cX6_cheapest 22 = .ok (.ifCond .eq 45, 3) := by decide +kernel
theorem dX6_cheapest_25 : decode cX6_cheapest 25 = .ok (.aload_n 0, 1) := by decide +kernel
theorem dX6_cheapest_26 : decode cX6_cheapest 26 = .ok (.getfield 37, 3) := by decide +kernel
theorem dX6_cheapest_29 : decode cX6_cheapest 29 = .ok (.getfield 95, 3) := by decide +kernel
theorem dX6_cheapest_32 : decode cX6_cheapest 32 = .ok (.iload_n 1, 1) := by decide +kernel
theorem dX6_cheapest_33 : decode cX6_cheapest 33 = .ok (.bipush 61, 2) := by decide +kernel
theorem dX6_cheapest_35 : decode cX6_cheapest 35 = .ok (.imul, 1) := by decide +kernel
theorem dX6_cheapest_36 : decode cX6_cheapest 36 = .ok (.iload 4, 2) := by decide +kernel
theorem dX6_cheapest_38 : decode cX6_cheapest 38 = .ok (.iadd, 1) := by decide +kernel
theorem dX6_cheapest_39 : decode cX6_cheapest 39 = .ok (.iaload, 1) := by decide +kernel
theorem dX6_cheapest_40 : decode cX6_cheapest 40 = .ok (.istore 5, 2) := by decide +kernel
theorem dX6_cheapest_42 : decode cX6_cheapest 42 = .ok (.lload_n 2, 1) := by decide +kernel
theorem dX6_cheapest_43 : decode cX6_cheapest 43 = .ok (.iload 5, 2) := by decide +kernel
theorem dX6_cheapest_45 : decode cX6_cheapest 45 = .ok (.lushr, 1) := by decide +kernel
theorem dX6_cheapest_46 : decode cX6_cheapest 46 = .ok (.lconst 1, 1) := by decide +kernel
theorem dX6_cheapest_47 : decode cX6_cheapest 47 = .ok (.land, 1) := by decide +kernel
theorem dX6_cheapest_48 : decode cX6_cheapest 48 = .ok (.lconst 0, 1) := by decide +kernel
theorem dX6_cheapest_49 : decode cX6_cheapest 49 = .ok (.lcmp, 1) := by decide +kernel
theorem dX6_cheapest_50 : decode cX6_cheapest 50 = .ok (.ifCond .eq 11, 3) := by decide +kernel
theorem dX6_cheapest_53 : decode cX6_cheapest 53 = .ok (.aload_n 0, 1) := by decide +kernel
theorem dX6_cheapest_54 : decode cX6_cheapest 54 = .ok (.iload_n 1, 1) := by decide +kernel
theorem dX6_cheapest_55 : decode cX6_cheapest 55 = .ok (.iload 5, 2) := by decide +kernel
theorem dX6_cheapest_57 : decode cX6_cheapest 57 = .ok (.invokevirtual 98, 3) := by decide +kernel
theorem dX6_cheapest_60 : decode cX6_cheapest 60 = .ok (.ireturn, 1) := by decide +kernel
theorem dX6_cheapest_61 : decode cX6_cheapest 61 = .ok (.iinc 4 1, 3) := by decide +kernel
theorem dX6_cheapest_64 : decode cX6_cheapest 64 = .ok (.goto (-61), 3) := by decide +kernel
theorem dX6_cheapest_67 : decode cX6_cheapest 67 = .ok (.ldc 77, 2) := by decide +kernel
theorem dX6_cheapest_69 : decode cX6_cheapest 69 = .ok (.ireturn, 1) := by decide +kernel
theorem dX6_dive_0 : decode cX6_dive 0 = .ok (.iload_n 1, 1) := by decide +kernel
theorem dX6_dive_1 : decode cX6_dive 1 = .ok (.aload_n 0, 1) := by decide +kernel
theorem dX6_dive_2 : decode cX6_dive 2 = .ok (.getfield 59, 3) := by decide +kernel
theorem dX6_dive_5 : decode cX6_dive 5 = .ok (.if_icmp .lt 53, 3) := by decide +kernel
theorem dX6_dive_8 : decode cX6_dive 8 = .ok (.aload_n 0, 1) := by decide +kernel
theorem dX6_dive_9 : decode cX6_dive 9 = .ok (.aload_n 0, 1) := by decide +kernel
theorem dX6_dive_10 : decode cX6_dive 10 = .ok (.getfield 81, 3) := by decide +kernel
theorem dX6_dive_13 : decode cX6_dive 13 = .ok (.ifCond .eq 7, 3) := by decide +kernel
theorem dX6_dive_16 : decode cX6_dive 16 = .ok (.iconst 0, 1) := by decide +kernel
theorem dX6_dive_17 : decode cX6_dive 17 = .ok (.goto 4, 3) := by decide +kernel
theorem dX6_dive_20 : decode cX6_dive 20 = .ok (.iload_n 2, 1) := by decide +kernel
theorem dX6_dive_21 : decode cX6_dive 21 = .ok (.putfield 78, 3) := by decide +kernel
theorem dX6_dive_24 : decode cX6_dive 24 = .ok (.iconst 0, 1) := by decide +kernel
theorem dX6_dive_25 : decode cX6_dive 25 = .ok (.istore_n 3, 1) := by decide +kernel
theorem dX6_dive_26 : decode cX6_dive 26 = .ok (.iload_n 3, 1) := by decide +kernel
theorem dX6_dive_27 : decode cX6_dive 27 = .ok (.aload_n 0, 1) := by decide +kernel
theorem dX6_dive_28 : decode cX6_dive 28 = .ok (.getfield 59, 3) := by decide +kernel
theorem dX6_dive_31 : decode cX6_dive 31 = .ok (.if_icmp .ge 26, 3) := by decide +kernel
theorem dX6_dive_34 : decode cX6_dive 34 = .ok (.aload_n 0, 1) := by decide +kernel
theorem dX6_dive_35 : decode cX6_dive 35 = .ok (.getfield 22, 3) := by decide +kernel
theorem dX6_dive_38 : decode cX6_dive 38 = .ok (.aload_n 0, 1) := by decide +kernel
theorem dX6_dive_39 : decode cX6_dive 39 = .ok (.getfield 15, 3) := by decide +kernel
theorem dX6_dive_42 : decode cX6_dive 42 = .ok (.iload_n 3, 1) := by decide +kernel
theorem dX6_dive_43 : decode cX6_dive 43 = .ok (.iaload, 1) := by decide +kernel
theorem dX6_dive_44 : decode cX6_dive 44 = .ok (.aload_n 0, 1) := by decide +kernel
theorem dX6_dive_45 : decode cX6_dive 45 = .ok (.getfield 19, 3) := by decide +kernel
theorem dX6_dive_48 : decode cX6_dive 48 = .ok (.iload_n 3, 1) := by decide +kernel
theorem dX6_dive_49 : decode cX6_dive 49 = .ok (.iaload, 1) := by decide +kernel
theorem dX6_dive_50 : decode cX6_dive 50 = .ok (.iastore, 1) := by decide +kernel
theorem dX6_dive_51 : decode cX6_dive 51 = .ok (.iinc 3 1, 3) := by decide +kernel
theorem dX6_dive_54 : decode cX6_dive 54 = .ok (.goto (-28), 3) := by decide +kernel
theorem dX6_dive_57 : decode cX6_dive 57 = .ok (.return_, 1) := by decide +kernel
theorem dX6_dive_58 : decode cX6_dive 58 = .ok (.aload_n 0, 1) := by decide +kernel
theorem dX6_dive_59 : decode cX6_dive 59 = .ok (.getfield 15, 3) := by decide +kernel
theorem dX6_dive_62 : decode cX6_dive 62 = .ok (.iload_n 1, 1) := by decide +kernel
theorem dX6_dive_63 : decode cX6_dive 63 = .ok (.iaload, 1) := by decide +kernel
theorem dX6_dive_64 : decode cX6_dive 64 = .ok (.istore_n 3, 1) := by decide +kernel
theorem dX6_dive_65 : decode cX6_dive 65 = .ok (.aload_n 0, 1) := by decide +kernel
theorem dX6_dive_66 : decode cX6_dive 66 = .ok (.getfield 9, 3) := by decide +kernel
theorem dX6_dive_69 : decode cX6_dive 69 = .ok (.iload_n 1, 1) := by decide +kernel
theorem dX6_dive_70 : decode cX6_dive 70 = .ok (.iconst 4, 1) := by decide +kernel
theorem dX6_dive_71 : decode cX6_dive 71 = .ok (.imul, 1) := by decide +kernel
theorem dX6_dive_72 : decode cX6_dive 72 = .ok (.iload_n 3, 1) := by decide +kernel
theorem dX6_dive_73 : decode cX6_dive 73 = .ok (.iadd, 1) := by decide +kernel
theorem dX6_dive_74 : decode cX6_dive 74 = .ok (.laload, 1) := by decide +kernel
theorem dX6_dive_75 : decode cX6_dive 75 = .ok (.lstore 4, 2) := by decide +kernel
theorem dX6_dive_77 : decode cX6_dive 77 = .ok (.aload_n 0, 1) := by decide +kernel
theorem dX6_dive_78 : decode cX6_dive 78 = .ok (.iload_n 1, 1) := by decide +kernel
theorem dX6_dive_79 : decode cX6_dive 79 = .ok (.iload_n 1, 1) := by decide +kernel
theorem dX6_dive_80 : decode cX6_dive 80 = .ok (.invokevirtual 88, 3) := by decide +kernel
theorem dX6_dive_83 : decode cX6_dive 83 = .ok (.istore 6, 2) := by decide +kernel
theorem dX6_dive_85 : decode cX6_dive 85 = .ok (.iconst 0, 1) := by decide +kernel
theorem dX6_dive_86 : decode cX6_dive 86 = .ok (.istore 7, 2) := by decide +kernel
theorem dX6_dive_88 : decode cX6_dive 88 = .ok (.iload 7, 2) := by decide +kernel
theorem dX6_dive_90 : decode cX6_dive 90 = .ok (.iconst 3, 1) := by decide +kernel
theorem dX6_dive_91 : decode cX6_dive 91 = .ok (.aload_n 0, 1) := by decide +kernel
theorem dX6_dive_92 : decode cX6_dive 92 = .ok (.getfield 37, 3) := by decide +kernel
theorem dX6_dive_95 : decode cX6_dive 95 = .ok (.getfield 92, 3) := by decide +kernel
theorem dX6_dive_98 : decode cX6_dive 98 = .ok (.iload_n 3, 1) := by decide +kernel
theorem dX6_dive_99 : decode cX6_dive 99 = .ok (.iaload, 1) := by decide +kernel
theorem dX6_dive_100 : decode cX6_dive 100 = .ok (.imul, 1) := by decide +kernel
theorem dX6_dive_101 : decode cX6_dive 101 = .ok (.if_icmp .gt 214, 3) := by decide +kernel
theorem dX6_dive_104 : decode cX6_dive 104 = .ok (.aload_n 0, 1) := by decide +kernel
theorem dX6_dive_105 : decode cX6_dive 105 = .ok (.getfield 81, 3) := by decide +kernel
theorem dX6_dive_108 : decode cX6_dive 108 = .ok (.ifCond .eq 8, 3) := by decide +kernel
theorem dX6_dive_111 : decode cX6_dive 111 = .ok (.iload 7, 2) := by decide +kernel
theorem dX6_dive_113 : decode cX6_dive 113 = .ok (.goto 18, 3) := by decide +kernel
theorem dX6_dive_116 : decode cX6_dive 116 = .ok (.aload_n 0, 1) := by decide +kernel
theorem dX6_dive_117 : decode cX6_dive 117 = .ok (.getfield 37, 3) := by decide +kernel
theorem dX6_dive_120 : decode cX6_dive 120 = .ok (.getfield 95, 3) := by decide +kernel
theorem dX6_dive_123 : decode cX6_dive 123 = .ok (.iload_n 3, 1) := by decide +kernel
theorem dX6_dive_124 : decode cX6_dive 124 = .ok (.bipush 61, 2) := by decide +kernel
theorem dX6_dive_126 : decode cX6_dive 126 = .ok (.imul, 1) := by decide +kernel
theorem dX6_dive_127 : decode cX6_dive 127 = .ok (.iload 7, 2) := by decide +kernel
theorem dX6_dive_129 : decode cX6_dive 129 = .ok (.iadd, 1) := by decide +kernel
theorem dX6_dive_130 : decode cX6_dive 130 = .ok (.iaload, 1) := by decide +kernel
theorem dX6_dive_131 : decode cX6_dive 131 = .ok (.istore 8, 2) := by decide +kernel
theorem dX6_dive_133 : decode cX6_dive 133 = .ok (.iload_n 2, 1) := by decide +kernel
theorem dX6_dive_134 : decode cX6_dive 134 = .ok (.aload_n 0, 1) := by decide +kernel
theorem dX6_dive_135 : decode cX6_dive 135 = .ok (.iload_n 3, 1) := by decide +kernel
theorem dX6_dive_136 : decode cX6_dive 136 = .ok (.iload 8, 2) := by decide +kernel
theorem dX6_dive_138 : decode cX6_dive 138 = .ok (.invokevirtual 98, 3) := by decide +kernel
theorem dX6_dive_141 : decode cX6_dive 141 = .ok (.iadd, 1) := by decide +kernel
theorem dX6_dive_142 : decode cX6_dive 142 = .ok (.istore 9, 2) := by decide +kernel
theorem dX6_dive_144 : decode cX6_dive 144 = .ok (.lload 4, 2) := by decide +kernel
theorem dX6_dive_146 : decode cX6_dive 146 = .ok (.iload 8, 2) := by decide +kernel
theorem dX6_dive_148 : decode cX6_dive 148 = .ok (.lushr, 1) := by decide +kernel
theorem dX6_dive_149 : decode cX6_dive 149 = .ok (.lconst 1, 1) := by decide +kernel
theorem dX6_dive_150 : decode cX6_dive 150 = .ok (.land, 1) := by decide +kernel
theorem dX6_dive_151 : decode cX6_dive 151 = .ok (.lconst 0, 1) := by decide +kernel
theorem dX6_dive_152 : decode cX6_dive 152 = .ok (.lcmp, 1) := by decide +kernel
theorem dX6_dive_153 : decode cX6_dive 153 = .ok (.ifCond .eq 156, 3) := by decide +kernel
theorem dX6_dive_156 : decode cX6_dive 156 = .ok (.iload 9, 2) := by decide +kernel
theorem dX6_dive_158 : decode cX6_dive 158 = .ok (.iload 6, 2) := by decide +kernel
theorem dX6_dive_160 : decode cX6_dive 160 = .ok (.iadd, 1) := by decide +kernel
theorem dX6_dive_161 : decode cX6_dive 161 = .ok (.aload_n 0, 1) := by decide +kernel
theorem dX6_dive_162 : decode cX6_dive 162 = .ok (.getfield 78, 3) := by decide +kernel
theorem dX6_dive_165 : decode cX6_dive 165 = .ok (.if_icmp .lt 6, 3) := by decide +kernel
theorem dX6_dive_168 : decode cX6_dive 168 = .ok (.goto 141, 3) := by decide +kernel
theorem dX6_dive_171 : decode cX6_dive 171 = .ok (.aload_n 0, 1) := by decide +kernel
theorem dX6_dive_172 : decode cX6_dive 172 = .ok (.getfield 19, 3) := by decide +kernel
theorem dX6_dive_175 : decode cX6_dive 175 = .ok (.iload_n 1, 1) := by decide +kernel
theorem dX6_dive_176 : decode cX6_dive 176 = .ok (.iload 8, 2) := by decide +kernel
theorem dX6_dive_178 : decode cX6_dive 178 = .ok (.iastore, 1) := by decide +kernel
theorem dX6_dive_179 : decode cX6_dive 179 = .ok (.lconst 1, 1) := by decide +kernel
theorem dX6_dive_180 : decode cX6_dive 180 = .ok (.lstore 10, 2) := by decide +kernel
theorem dX6_dive_182 : decode cX6_dive 182 = .ok (.iload_n 1, 1) := by decide +kernel
theorem dX6_dive_183 : decode cX6_dive 183 = .ok (.iconst 1, 1) := by decide +kernel
theorem dX6_dive_184 : decode cX6_dive 184 = .ok (.iadd, 1) := by decide +kernel
theorem dX6_dive_185 : decode cX6_dive 185 = .ok (.istore 12, 2) := by decide +kernel
theorem dX6_dive_187 : decode cX6_dive 187 = .ok (.iload 12, 2) := by decide +kernel
theorem dX6_dive_189 : decode cX6_dive 189 = .ok (.aload_n 0, 1) := by decide +kernel
theorem dX6_dive_190 : decode cX6_dive 190 = .ok (.getfield 59, 3) := by decide +kernel
theorem dX6_dive_193 : decode cX6_dive 193 = .ok (.if_icmp .ge 82, 3) := by decide +kernel
theorem dX6_dive_196 : decode cX6_dive 196 = .ok (.lload 10, 2) := by decide +kernel
theorem dX6_dive_198 : decode cX6_dive 198 = .ok (.lconst 0, 1) := by decide +kernel
theorem dX6_dive_199 : decode cX6_dive 199 = .ok (.lcmp, 1) := by decide +kernel
theorem dX6_dive_200 : decode cX6_dive 200 = .ok (.ifCond .eq 75, 3) := by decide +kernel
theorem dX6_dive_203 : decode cX6_dive 203 = .ok (.aload_n 0, 1) := by decide +kernel
theorem dX6_dive_204 : decode cX6_dive 204 = .ok (.getfield 15, 3) := by decide +kernel
theorem dX6_dive_207 : decode cX6_dive 207 = .ok (.iload 12, 2) := by decide +kernel
theorem dX6_dive_209 : decode cX6_dive 209 = .ok (.iaload, 1) := by decide +kernel
theorem dX6_dive_210 : decode cX6_dive 210 = .ok (.istore 13, 2) := by decide +kernel
theorem dX6_dive_212 : decode cX6_dive 212 = .ok (.aload_n 0, 1) := by decide +kernel
theorem dX6_dive_213 : decode cX6_dive 213 = .ok (.iload 13, 2) := by decide +kernel
theorem dX6_dive_215 : decode cX6_dive 215 = .ok (.aload_n 0, 1) := by decide +kernel
theorem dX6_dive_216 : decode cX6_dive 216 = .ok (.getfield 9, 3) := by decide +kernel
theorem dX6_dive_219 : decode cX6_dive 219 = .ok (.iload_n 1, 1) := by decide +kernel
theorem dX6_dive_220 : decode cX6_dive 220 = .ok (.iconst 4, 1) := by decide +kernel
theorem dX6_dive_221 : decode cX6_dive 221 = .ok (.imul, 1) := by decide +kernel
theorem dX6_dive_222 : decode cX6_dive 222 = .ok (.iload 13, 2) := by decide +kernel
theorem dX6_dive_224 : decode cX6_dive 224 = .ok (.iadd, 1) := by decide +kernel
theorem dX6_dive_225 : decode cX6_dive 225 = .ok (.laload, 1) := by decide +kernel
theorem dX6_dive_226 : decode cX6_dive 226 = .ok (.aload_n 0, 1) := by decide +kernel
theorem dX6_dive_227 : decode cX6_dive 227 = .ok (.getfield 78, 3) := by decide +kernel
theorem dX6_dive_230 : decode cX6_dive 230 = .ok (.iload 9, 2) := by decide +kernel
theorem dX6_dive_232 : decode cX6_dive 232 = .ok (.isub, 1) := by decide +kernel
theorem dX6_dive_233 : decode cX6_dive 233 = .ok (.invokevirtual 101, 3) := by decide +kernel
theorem dX6_dive_236 : decode cX6_dive 236 = .ok (.lstore 10, 2) := by decide +kernel
theorem dX6_dive_238 : decode cX6_dive 238 = .ok (.aload_n 0, 1) := by decide +kernel
theorem dX6_dive_239 : decode cX6_dive 239 = .ok (.getfield 37, 3) := by decide +kernel
theorem dX6_dive_242 : decode cX6_dive 242 = .ok (.iload_n 3, 1) := by decide +kernel
theorem dX6_dive_243 : decode cX6_dive 243 = .ok (.iload 8, 2) := by decide +kernel
theorem dX6_dive_245 : decode cX6_dive 245 = .ok (.iload 13, 2) := by decide +kernel
theorem dX6_dive_247 : decode cX6_dive 247 = .ok (.lload 10, 2) := by decide +kernel
theorem dX6_dive_249 : decode cX6_dive 249 = .ok (.invokevirtual 105, 3) := by decide +kernel
theorem dX6_dive_252 : decode cX6_dive 252 = .ok (.lstore 10, 2) := by decide +kernel
theorem dX6_dive_254 : decode cX6_dive 254 = .ok (.aload_n 0, 1) := by decide +kernel
theorem dX6_dive_255 : decode cX6_dive 255 = .ok (.getfield 9, 3) := by decide +kernel
theorem dX6_dive_258 : decode cX6_dive 258 = .ok (.iload_n 1, 1) := by decide +kernel
theorem dX6_dive_259 : decode cX6_dive 259 = .ok (.iconst 1, 1) := by decide +kernel
theorem dX6_dive_260 : decode cX6_dive 260 = .ok (.iadd, 1) := by decide +kernel
theorem dX6_dive_261 : decode cX6_dive 261 = .ok (.iconst 4, 1) := by decide +kernel
theorem dX6_dive_262 : decode cX6_dive 262 = .ok (.imul, 1) := by decide +kernel
theorem dX6_dive_263 : decode cX6_dive 263 = .ok (.iload 13, 2) := by decide +kernel
theorem dX6_dive_265 : decode cX6_dive 265 = .ok (.iadd, 1) := by decide +kernel
theorem dX6_dive_266 : decode cX6_dive 266 = .ok (.lload 10, 2) := by decide +kernel
theorem dX6_dive_268 : decode cX6_dive 268 = .ok (.lastore, 1) := by decide +kernel
theorem dX6_dive_269 : decode cX6_dive 269 = .ok (.iinc 12 1, 3) := by decide +kernel
theorem dX6_dive_272 : decode cX6_dive 272 = .ok (.goto (-85), 3) := by decide +kernel
theorem dX6_dive_275 : decode cX6_dive 275 = .ok (.lload 10, 2) := by decide +kernel
theorem dX6_dive_277 : decode cX6_dive 277 = .ok (.lconst 0, 1) := by decide +kernel
theorem dX6_dive_278 : decode cX6_dive 278 = .ok (.lcmp, 1) := by decide +kernel
theorem dX6_dive_279 : decode cX6_dive 279 = .ok (.ifCond .eq 30, 3) := by decide +kernel
theorem dX6_dive_282 : decode cX6_dive 282 = .ok (.iload 9, 2) := by decide +kernel
theorem dX6_dive_284 : decode cX6_dive 284 = .ok (.aload_n 0, 1) := by decide +kernel
theorem dX6_dive_285 : decode cX6_dive 285 = .ok (.iload_n 1, 1) := by decide +kernel
theorem dX6_dive_286 : decode cX6_dive 286 = .ok (.iload_n 1, 1) := by decide +kernel
theorem dX6_dive_287 : decode cX6_dive 287 = .ok (.iconst 1, 1) := by decide +kernel
theorem dX6_dive_288 : decode cX6_dive 288 = .ok (.iadd, 1) := by decide +kernel
theorem dX6_dive_289 : decode cX6_dive 289 = .ok (.invokevirtual 88, 3) := by decide +kernel
theorem dX6_dive_292 : decode cX6_dive 292 = .ok (.iadd, 1) := by decide +kernel
theorem dX6_dive_293 : decode cX6_dive 293 = .ok (.aload_n 0, 1) := by decide +kernel
theorem dX6_dive_294 : decode cX6_dive 294 = .ok (.getfield 78, 3) := by decide +kernel
theorem dX6_dive_297 : decode cX6_dive 297 = .ok (.if_icmp .ge 12, 3) := by decide +kernel
theorem dX6_dive_300 : decode cX6_dive 300 = .ok (.aload_n 0, 1) := by decide +kernel
theorem dX6_dive_301 : decode cX6_dive 301 = .ok (.iload_n 1, 1) := by decide +kernel
theorem dX6_dive_302 : decode cX6_dive 302 = .ok (.iconst 1, 1) := by decide +kernel
theorem dX6_dive_303 : decode cX6_dive 303 = .ok (.iadd, 1) := by decide +kernel
theorem dX6_dive_304 : decode cX6_dive 304 = .ok (.iload 9, 2) := by decide +kernel
theorem dX6_dive_306 : decode cX6_dive 306 = .ok (.invokevirtual 84, 3) := by decide +kernel
theorem dX6_dive_309 : decode cX6_dive 309 = .ok (.iinc 7 1, 3) := by decide +kernel
theorem dX6_dive_312 : decode cX6_dive 312 = .ok (.goto (-224), 3) := by decide +kernel
theorem dX6_dive_315 : decode cX6_dive 315 = .ok (.return_, 1) := by decide +kernel
theorem dX6_drawOrder_0 : decode cX6_drawOrder 0 = .ok (.iconst 0, 1) := by decide +kernel
theorem dX6_drawOrder_1 : decode cX6_drawOrder 1 = .ok (.istore_n 2, 1) := by decide +kernel
theorem dX6_drawOrder_2 : decode cX6_drawOrder 2 = .ok (.aload_n 0, 1) := by decide +kernel
theorem dX6_drawOrder_3 : decode cX6_drawOrder 3 = .ok (.aload_n 0, 1) := by decide +kernel
theorem dX6_drawOrder_4 : decode cX6_drawOrder 4 = .ok (.getfield 29, 3) := by decide +kernel
theorem dX6_drawOrder_7 : decode cX6_drawOrder 7 = .ok (.getfield 62, 3) := by decide +kernel
theorem dX6_drawOrder_10 : decode cX6_drawOrder 10 = .ok (.iconst 2, 1) := by decide +kernel
theorem dX6_drawOrder_11 : decode cX6_drawOrder 11 = .ok (.iaload, 1) := by decide +kernel
theorem dX6_drawOrder_12 : decode cX6_drawOrder 12 = .ok (.putfield 59, 3) := by decide +kernel
theorem dX6_drawOrder_15 : decode cX6_drawOrder 15 = .ok (.iconst 0, 1) := by decide +kernel
theorem dX6_drawOrder_16 : decode cX6_drawOrder 16 = .ok (.istore_n 3, 1) := by decide +kernel
theorem dX6_drawOrder_17 : decode cX6_drawOrder 17 = .ok (.iload_n 3, 1) := by decide +kernel
theorem dX6_drawOrder_18 : decode cX6_drawOrder 18 = .ok (.aload_n 0, 1) := by decide +kernel
theorem dX6_drawOrder_19 : decode cX6_drawOrder 19 = .ok (.getfield 59, 3) := by decide +kernel
theorem dX6_drawOrder_22 : decode cX6_drawOrder 22 = .ok (.if_icmp .ge 33, 3) := by decide +kernel
theorem dX6_drawOrder_25 : decode cX6_drawOrder 25 = .ok (.aload_n 0, 1) := by decide +kernel
theorem dX6_drawOrder_26 : decode cX6_drawOrder 26 = .ok (.getfield 15, 3) := by decide +kernel
theorem dX6_drawOrder_29 : decode cX6_drawOrder 29 = .ok (.iload_n 3, 1) := by decide +kernel
theorem dX6_drawOrder_30 : decode cX6_drawOrder 30 = .ok (.iload_n 1, 1) := by decide +kernel
theorem dX6_drawOrder_31 : decode cX6_drawOrder 31 = .ok (.iconst 2, 1) := by decide +kernel
theorem dX6_drawOrder_32 : decode cX6_drawOrder 32 = .ok (.iload_n 3, 1) := by decide +kernel
theorem dX6_drawOrder_33 : decode cX6_drawOrder 33 = .ok (.imul, 1) := by decide +kernel
theorem dX6_drawOrder_34 : decode cX6_drawOrder 34 = .ok (.ishr, 1) := by decide +kernel
theorem dX6_drawOrder_35 : decode cX6_drawOrder 35 = .ok (.iconst 3, 1) := by decide +kernel
theorem dX6_drawOrder_36 : decode cX6_drawOrder 36 = .ok (.iand, 1) := by decide +kernel
theorem dX6_drawOrder_37 : decode cX6_drawOrder 37 = .ok (.iastore, 1) := by decide +kernel
theorem dX6_drawOrder_38 : decode cX6_drawOrder 38 = .ok (.iload_n 2, 1) := by decide +kernel
theorem dX6_drawOrder_39 : decode cX6_drawOrder 39 = .ok (.iconst 1, 1) := by decide +kernel
theorem dX6_drawOrder_40 : decode cX6_drawOrder 40 = .ok (.aload_n 0, 1) := by decide +kernel
theorem dX6_drawOrder_41 : decode cX6_drawOrder 41 = .ok (.getfield 15, 3) := by decide +kernel
theorem dX6_drawOrder_44 : decode cX6_drawOrder 44 = .ok (.iload_n 3, 1) := by decide +kernel
theorem dX6_drawOrder_45 : decode cX6_drawOrder 45 = .ok (.iaload, 1) := by decide +kernel
theorem dX6_drawOrder_46 : decode cX6_drawOrder 46 = .ok (.ishl, 1) := by decide +kernel
theorem dX6_drawOrder_47 : decode cX6_drawOrder 47 = .ok (.ior, 1) := by decide +kernel
theorem dX6_drawOrder_48 : decode cX6_drawOrder 48 = .ok (.istore_n 2, 1) := by decide +kernel
theorem dX6_drawOrder_49 : decode cX6_drawOrder 49 = .ok (.iinc 3 1, 3) := by decide +kernel
theorem dX6_drawOrder_52 : decode cX6_drawOrder 52 = .ok (.goto (-35), 3) := by decide +kernel
theorem dX6_drawOrder_55 : decode cX6_drawOrder 55 = .ok (.aload_n 0, 1) := by decide +kernel
theorem dX6_drawOrder_56 : decode cX6_drawOrder 56 = .ok (.iconst (-1), 1) := by decide +kernel
theorem dX6_drawOrder_57 : decode cX6_drawOrder 57 = .ok (.putfield 25, 3) := by decide +kernel
theorem dX6_drawOrder_60 : decode cX6_drawOrder 60 = .ok (.iload_n 1, 1) := by decide +kernel
theorem dX6_drawOrder_61 : decode cX6_drawOrder 61 = .ok (.iconst 2, 1) := by decide +kernel
theorem dX6_drawOrder_62 : decode cX6_drawOrder 62 = .ok (.aload_n 0, 1) := by decide +kernel
theorem dX6_drawOrder_63 : decode cX6_drawOrder 63 = .ok (.getfield 59, 3) := by decide +kernel
theorem dX6_drawOrder_66 : decode cX6_drawOrder 66 = .ok (.imul, 1) := by decide +kernel
theorem dX6_drawOrder_67 : decode cX6_drawOrder 67 = .ok (.ishr, 1) := by decide +kernel
theorem dX6_drawOrder_68 : decode cX6_drawOrder 68 = .ok (.ifCond .ne 19, 3) := by decide +kernel
theorem dX6_drawOrder_71 : decode cX6_drawOrder 71 = .ok (.iload_n 2, 1) := by decide +kernel
theorem dX6_drawOrder_72 : decode cX6_drawOrder 72 = .ok (.iconst 1, 1) := by decide +kernel
theorem dX6_drawOrder_73 : decode cX6_drawOrder 73 = .ok (.aload_n 0, 1) := by decide +kernel
theorem dX6_drawOrder_74 : decode cX6_drawOrder 74 = .ok (.getfield 59, 3) := by decide +kernel
theorem dX6_drawOrder_77 : decode cX6_drawOrder 77 = .ok (.ishl, 1) := by decide +kernel
theorem dX6_drawOrder_78 : decode cX6_drawOrder 78 = .ok (.iconst 1, 1) := by decide +kernel
theorem dX6_drawOrder_79 : decode cX6_drawOrder 79 = .ok (.isub, 1) := by decide +kernel
theorem dX6_drawOrder_80 : decode cX6_drawOrder 80 = .ok (.if_icmp .ne 7, 3) := by decide +kernel
theorem dX6_drawOrder_83 : decode cX6_drawOrder 83 = .ok (.iconst 1, 1) := by decide +kernel
theorem dX6_drawOrder_84 : decode cX6_drawOrder 84 = .ok (.goto 4, 3) := by decide +kernel
theorem dX6_drawOrder_87 : decode cX6_drawOrder 87 = .ok (.iconst 0, 1) := by decide +kernel
theorem dX6_drawOrder_88 : decode cX6_drawOrder 88 = .ok (.ireturn, 1) := by decide +kernel
theorem dX6_fitsWays_0 : decode cX6_fitsWays 0 = .ok (.iconst 0, 1) := by decide +kernel
theorem dX6_fitsWays_1 : decode cX6_fitsWays 1 = .ok (.istore_n 3, 1) := by decide +kernel
theorem dX6_fitsWays_2 : decode cX6_fitsWays 2 = .ok (.iload_n 3, 1) := by decide +kernel
theorem dX6_fitsWays_3 : decode cX6_fitsWays 3 = .ok (.aload_n 0, 1) := by decide +kernel
theorem dX6_fitsWays_4 : decode cX6_fitsWays 4 = .ok (.getfield 29, 3) := by decide +kernel
theorem dX6_fitsWays_7 : decode cX6_fitsWays 7 = .ok (.getfield 62, 3) := by decide +kernel
theorem dX6_fitsWays_10 : decode cX6_fitsWays 10 = .ok (.iconst 2, 1) := by decide +kernel
theorem dX6_fitsWays_11 : decode cX6_fitsWays 11 = .ok (.iaload, 1) := by decide +kernel
theorem dX6_fitsWays_12 : decode cX6_fitsWays 12 = .ok (.if_icmp .ge 32, 3) := by decide +kernel
theorem dX6_fitsWays_15 : decode cX6_fitsWays 15 = .ok (.iload_n 3, 1) := by decide +kernel
theorem dX6_fitsWays_16 : decode cX6_fitsWays 16 = .ok (.iload_n 1, 1) := by decide +kernel
theorem dX6_fitsWays_17 : decode cX6_fitsWays 17 = .ok (.if_icmp .eq 21, 3) := by decide +kernel
theorem dX6_fitsWays_20 : decode cX6_fitsWays 20 = .ok (.aload_n 0, 1) := by decide +kernel
theorem dX6_fitsWays_21 : decode cX6_fitsWays 21 = .ok (.getfield 37, 3) := by decide +kernel
theorem dX6_fitsWays_24 : decode cX6_fitsWays 24 = .ok (.iload_n 1, 1) := by decide +kernel
theorem dX6_fitsWays_25 : decode cX6_fitsWays 25 = .ok (.iload_n 2, 1) := by decide +kernel
theorem dX6_fitsWays_26 : decode cX6_fitsWays 26 = .ok (.iload_n 3, 1) := by decide +kernel
theorem dX6_fitsWays_27 : decode cX6_fitsWays 27 = .ok (.lconst 1, 1) := by decide +kernel
theorem dX6_fitsWays_28 : decode cX6_fitsWays 28 = .ok (.invokevirtual 105, 3) := by decide +kernel
theorem dX6_fitsWays_31 : decode cX6_fitsWays 31 = .ok (.lconst 0, 1) := by decide +kernel
theorem dX6_fitsWays_32 : decode cX6_fitsWays 32 = .ok (.lcmp, 1) := by decide +kernel
theorem dX6_fitsWays_33 : decode cX6_fitsWays 33 = .ok (.ifCond .ne 5, 3) := by decide +kernel
theorem dX6_fitsWays_36 : decode cX6_fitsWays 36 = .ok (.iconst 0, 1) := by decide +kernel
theorem dX6_fitsWays_37 : decode cX6_fitsWays 37 = .ok (.ireturn, 1) := by decide +kernel
theorem dX6_fitsWays_38 : decode cX6_fitsWays 38 = .ok (.iinc 3 1, 3) := by decide +kernel
theorem dX6_fitsWays_41 : decode cX6_fitsWays 41 = .ok (.goto (-39), 3) := by decide +kernel
theorem dX6_fitsWays_44 : decode cX6_fitsWays 44 = .ok (.iconst 1, 1) := by decide +kernel
theorem dX6_fitsWays_45 : decode cX6_fitsWays 45 = .ok (.ireturn, 1) := by decide +kernel
theorem dX6_init_0 : decode cX6_init 0 = .ok (.aload_n 0, 1) := by decide +kernel
theorem dX6_init_1 : decode cX6_init 1 = .ok (.invokespecial 3, 3) := by decide +kernel
theorem dX6_init_4 : decode cX6_init 4 = .ok (.aload_n 0, 1) := by decide +kernel
theorem dX6_init_5 : decode cX6_init 5 = .ok (.bipush 20, 2) := by decide +kernel
theorem dX6_init_7 : decode cX6_init 7 = .ok (.newarray .long, 2) := by decide +kernel
theorem dX6_init_9 : decode cX6_init 9 = .ok (.putfield 9, 3) := by decide +kernel
theorem dX6_init_12 : decode cX6_init 12 = .ok (.aload_n 0, 1) := by decide +kernel
theorem dX6_init_13 : decode cX6_init 13 = .ok (.iconst 4, 1) := by decide +kernel
theorem dX6_init_14 : decode cX6_init 14 = .ok (.newarray .int, 2) := by decide +kernel
theorem dX6_init_16 : decode cX6_init 16 = .ok (.putfield 15, 3) := by decide +kernel
theorem dX6_init_19 : decode cX6_init 19 = .ok (.aload_n 0, 1) := by decide +kernel
theorem dX6_init_20 : decode cX6_init 20 = .ok (.iconst 4, 1) := by decide +kernel
theorem dX6_init_21 : decode cX6_init 21 = .ok (.newarray .int, 2) := by decide +kernel
theorem dX6_init_23 : decode cX6_init 23 = .ok (.putfield 19, 3) := by decide +kernel
theorem dX6_init_26 : decode cX6_init 26 = .ok (.aload_n 0, 1) := by decide +kernel
theorem dX6_init_27 : decode cX6_init 27 = .ok (.iconst 4, 1) := by decide +kernel
theorem dX6_init_28 : decode cX6_init 28 = .ok (.newarray .int, 2) := by decide +kernel
theorem dX6_init_30 : decode cX6_init 30 = .ok (.putfield 22, 3) := by decide +kernel
theorem dX6_init_33 : decode cX6_init 33 = .ok (.aload_n 0, 1) := by decide +kernel
theorem dX6_init_34 : decode cX6_init 34 = .ok (.iconst (-1), 1) := by decide +kernel
theorem dX6_init_35 : decode cX6_init 35 = .ok (.putfield 25, 3) := by decide +kernel
theorem dX6_init_38 : decode cX6_init 38 = .ok (.aload_n 0, 1) := by decide +kernel
theorem dX6_init_39 : decode cX6_init 39 = .ok (.aload_n 1, 1) := by decide +kernel
theorem dX6_init_40 : decode cX6_init 40 = .ok (.putfield 29, 3) := by decide +kernel
theorem dX6_init_43 : decode cX6_init 43 = .ok (.aload_n 0, 1) := by decide +kernel
theorem dX6_init_44 : decode cX6_init 44 = .ok (.aload_n 2, 1) := by decide +kernel
theorem dX6_init_45 : decode cX6_init 45 = .ok (.putfield 33, 3) := by decide +kernel
theorem dX6_init_48 : decode cX6_init 48 = .ok (.aload_n 0, 1) := by decide +kernel
theorem dX6_init_49 : decode cX6_init 49 = .ok (.aload_n 3, 1) := by decide +kernel
theorem dX6_init_50 : decode cX6_init 50 = .ok (.putfield 37, 3) := by decide +kernel
theorem dX6_init_53 : decode cX6_init 53 = .ok (.return_, 1) := by decide +kernel
theorem dX6_leastBehind_0 : decode cX6_leastBehind 0 = .ok (.iconst 0, 1) := by decide +kernel
theorem dX6_leastBehind_1 : decode cX6_leastBehind 1 = .ok (.istore_n 3, 1) := by decide +kernel
theorem dX6_leastBehind_2 : decode cX6_leastBehind 2 = .ok (.iload_n 1, 1) := by decide +kernel
theorem dX6_leastBehind_3 : decode cX6_leastBehind 3 = .ok (.iconst 1, 1) := by decide +kernel
theorem dX6_leastBehind_4 : decode cX6_leastBehind 4 = .ok (.iadd, 1) := by decide +kernel
theorem dX6_leastBehind_5 : decode cX6_leastBehind 5 = .ok (.istore 4, 2) := by decide +kernel
theorem dX6_leastBehind_7 : decode cX6_leastBehind 7 = .ok (.iload 4, 2) := by decide +kernel
theorem dX6_leastBehind_9 : decode cX6_leastBehind 9 = .ok (.aload_n 0, 1) := by decide +kernel
theorem dX6_leastBehind_10 : decode cX6_leastBehind 10 = .ok (.getfield 59, 3) := by decide +kernel
theorem dX6_leastBehind_13 : decode cX6_leastBehind 13 = .ok (.if_icmp .ge 39, 3) := by decide +kernel
theorem dX6_leastBehind_16 : decode cX6_leastBehind 16 = .ok (.iload_n 3, 1) := by decide +kernel
theorem dX6_leastBehind_17 : decode cX6_leastBehind 17 = .ok (.aload_n 0, 1) := by decide +kernel
theorem dX6_leastBehind_18 : decode cX6_leastBehind 18 = .ok (.aload_n 0, 1) := by decide +kernel
theorem dX6_leastBehind_19 : decode cX6_leastBehind 19 = .ok (.getfield 15, 3) := by decide +kernel
theorem dX6_leastBehind_22 : decode cX6_leastBehind 22 = .ok (.iload 4, 2) := by decide +kernel
theorem dX6_leastBehind_24 : decode cX6_leastBehind 24 = .ok (.iaload, 1) := by decide +kernel
theorem dX6_leastBehind_25 : decode cX6_leastBehind 25 = .ok (.aload_n 0, 1) := by decide +kernel
theorem dX6_leastBehind_26 : decode cX6_leastBehind 26 = .ok (.getfield 9, 3) := by decide +kernel
theorem dX6_leastBehind_29 : decode cX6_leastBehind 29 = .ok (.iload_n 2, 1) := by decide +kernel
theorem dX6_leastBehind_30 : decode cX6_leastBehind 30 = .ok (.iconst 4, 1) := by decide +kernel
theorem dX6_leastBehind_31 : decode cX6_leastBehind 31 = .ok (.imul, 1) := by decide +kernel
theorem dX6_leastBehind_32 : decode cX6_leastBehind 32 = .ok (.aload_n 0, 1) := by decide +kernel
theorem dX6_leastBehind_33 : decode cX6_leastBehind 33 = .ok (.getfield 15, 3) := by decide +kernel
theorem dX6_leastBehind_36 : decode cX6_leastBehind 36 = .ok (.iload 4, 2) := by decide +kernel
theorem dX6_leastBehind_38 : decode cX6_leastBehind 38 = .ok (.iaload, 1) := by decide +kernel
theorem dX6_leastBehind_39 : decode cX6_leastBehind 39 = .ok (.iadd, 1) := by decide +kernel
theorem dX6_leastBehind_40 : decode cX6_leastBehind 40 = .ok (.laload, 1) := by decide +kernel
theorem dX6_leastBehind_41 : decode cX6_leastBehind 41 = .ok (.invokevirtual 112, 3) := by decide +kernel
theorem dX6_leastBehind_44 : decode cX6_leastBehind 44 = .ok (.iadd, 1) := by decide +kernel
theorem dX6_leastBehind_45 : decode cX6_leastBehind 45 = .ok (.istore_n 3, 1) := by decide +kernel
theorem dX6_leastBehind_46 : decode cX6_leastBehind 46 = .ok (.iinc 4 1, 3) := by decide +kernel
theorem dX6_leastBehind_49 : decode cX6_leastBehind 49 = .ok (.goto (-42), 3) := by decide +kernel
theorem dX6_leastBehind_52 : decode cX6_leastBehind 52 = .ok (.iload_n 3, 1) := by decide +kernel
theorem dX6_leastBehind_53 : decode cX6_leastBehind 53 = .ok (.ldc 77, 2) := by decide +kernel
theorem dX6_leastBehind_55 : decode cX6_leastBehind 55 = .ok (.invokestatic 116, 3) := by decide +kernel
theorem dX6_leastBehind_58 : decode cX6_leastBehind 58 = .ok (.ireturn, 1) := by decide +kernel
theorem dX6_luckyIn_0 : decode cX6_luckyIn 0 = .ok (.aload_n 0, 1) := by decide +kernel
theorem dX6_luckyIn_1 : decode cX6_luckyIn 1 = .ok (.getfield 37, 3) := by decide +kernel
theorem dX6_luckyIn_4 : decode cX6_luckyIn 4 = .ok (.invokevirtual 41, 3) := by decide +kernel
theorem dX6_luckyIn_7 : decode cX6_luckyIn 7 = .ok (.iconst 0, 1) := by decide +kernel
theorem dX6_luckyIn_8 : decode cX6_luckyIn 8 = .ok (.istore_n 2, 1) := by decide +kernel
theorem dX6_luckyIn_9 : decode cX6_luckyIn 9 = .ok (.iload_n 2, 1) := by decide +kernel
theorem dX6_luckyIn_10 : decode cX6_luckyIn 10 = .ok (.aload_n 0, 1) := by decide +kernel
theorem dX6_luckyIn_11 : decode cX6_luckyIn 11 = .ok (.getfield 59, 3) := by decide +kernel
theorem dX6_luckyIn_14 : decode cX6_luckyIn 14 = .ok (.if_icmp .ge 87, 3) := by decide +kernel
theorem dX6_luckyIn_17 : decode cX6_luckyIn 17 = .ok (.aload_n 0, 1) := by decide +kernel
theorem dX6_luckyIn_18 : decode cX6_luckyIn 18 = .ok (.getfield 19, 3) := by decide +kernel
theorem dX6_luckyIn_21 : decode cX6_luckyIn 21 = .ok (.iload_n 2, 1) := by decide +kernel
theorem dX6_luckyIn_22 : decode cX6_luckyIn 22 = .ok (.aload_n 0, 1) := by decide +kernel
theorem dX6_luckyIn_23 : decode cX6_luckyIn 23 = .ok (.iload_n 2, 1) := by decide +kernel
theorem dX6_luckyIn_24 : decode cX6_luckyIn 24 = .ok (.invokevirtual 151, 3) := by decide +kernel
theorem dX6_luckyIn_27 : decode cX6_luckyIn 27 = .ok (.iastore, 1) := by decide +kernel
theorem dX6_luckyIn_28 : decode cX6_luckyIn 28 = .ok (.aload_n 0, 1) := by decide +kernel
theorem dX6_luckyIn_29 : decode cX6_luckyIn 29 = .ok (.getfield 15, 3) := by decide +kernel
theorem dX6_luckyIn_32 : decode cX6_luckyIn 32 = .ok (.iload_n 2, 1) := by decide +kernel
theorem dX6_luckyIn_33 : decode cX6_luckyIn 33 = .ok (.iaload, 1) := by decide +kernel
theorem dX6_luckyIn_34 : decode cX6_luckyIn 34 = .ok (.iload_n 1, 1) := by decide +kernel
theorem dX6_luckyIn_35 : decode cX6_luckyIn 35 = .ok (.if_icmp .ne 60, 3) := by decide +kernel
theorem dX6_luckyIn_38 : decode cX6_luckyIn 38 = .ok (.aload_n 0, 1) := by decide +kernel
theorem dX6_luckyIn_39 : decode cX6_luckyIn 39 = .ok (.getfield 37, 3) := by decide +kernel
theorem dX6_luckyIn_42 : decode cX6_luckyIn 42 = .ok (.getfield 95, 3) := by decide +kernel
theorem dX6_luckyIn_45 : decode cX6_luckyIn 45 = .ok (.iload_n 1, 1) := by decide +kernel
theorem dX6_luckyIn_46 : decode cX6_luckyIn 46 = .ok (.bipush 61, 2) := by decide +kernel
theorem dX6_luckyIn_48 : decode cX6_luckyIn 48 = .ok (.imul, 1) := by decide +kernel
theorem dX6_luckyIn_49 : decode cX6_luckyIn 49 = .ok (.iconst 1, 1) := by decide +kernel
theorem dX6_luckyIn_50 : decode cX6_luckyIn 50 = .ok (.iadd, 1) := by decide +kernel
theorem dX6_luckyIn_51 : decode cX6_luckyIn 51 = .ok (.iaload, 1) := by decide +kernel
theorem dX6_luckyIn_52 : decode cX6_luckyIn 52 = .ok (.istore_n 3, 1) := by decide +kernel
theorem dX6_luckyIn_53 : decode cX6_luckyIn 53 = .ok (.aload_n 0, 1) := by decide +kernel
theorem dX6_luckyIn_54 : decode cX6_luckyIn 54 = .ok (.getfield 19, 3) := by decide +kernel
theorem dX6_luckyIn_57 : decode cX6_luckyIn 57 = .ok (.iload_n 2, 1) := by decide +kernel
theorem dX6_luckyIn_58 : decode cX6_luckyIn 58 = .ok (.iaload, 1) := by decide +kernel
theorem dX6_luckyIn_59 : decode cX6_luckyIn 59 = .ok (.iconst (-1), 1) := by decide +kernel
theorem dX6_luckyIn_60 : decode cX6_luckyIn 60 = .ok (.if_icmp .eq 33, 3) := by decide +kernel
theorem dX6_luckyIn_63 : decode cX6_luckyIn 63 = .ok (.aload_n 0, 1) := by decide +kernel
theorem dX6_luckyIn_64 : decode cX6_luckyIn 64 = .ok (.getfield 37, 3) := by decide +kernel
theorem dX6_luckyIn_67 : decode cX6_luckyIn 67 = .ok (.iload_n 1, 1) := by decide +kernel
theorem dX6_luckyIn_68 : decode cX6_luckyIn 68 = .ok (.aload_n 0, 1) := by decide +kernel
theorem dX6_luckyIn_69 : decode cX6_luckyIn 69 = .ok (.getfield 19, 3) := by decide +kernel
theorem dX6_luckyIn_72 : decode cX6_luckyIn 72 = .ok (.iload_n 2, 1) := by decide +kernel
theorem dX6_luckyIn_73 : decode cX6_luckyIn 73 = .ok (.iaload, 1) := by decide +kernel
theorem dX6_luckyIn_74 : decode cX6_luckyIn 74 = .ok (.invokevirtual 109, 3) := by decide +kernel
theorem dX6_luckyIn_77 : decode cX6_luckyIn 77 = .ok (.aload_n 0, 1) := by decide +kernel
theorem dX6_luckyIn_78 : decode cX6_luckyIn 78 = .ok (.getfield 37, 3) := by decide +kernel
theorem dX6_luckyIn_81 : decode cX6_luckyIn 81 = .ok (.iload_n 1, 1) := by decide +kernel
theorem dX6_luckyIn_82 : decode cX6_luckyIn 82 = .ok (.iload_n 3, 1) := by decide +kernel
theorem dX6_luckyIn_83 : decode cX6_luckyIn 83 = .ok (.invokevirtual 109, 3) := by decide +kernel
theorem dX6_luckyIn_86 : decode cX6_luckyIn 86 = .ok (.if_icmp .ne 7, 3) := by decide +kernel
theorem dX6_luckyIn_89 : decode cX6_luckyIn 89 = .ok (.iconst 1, 1) := by decide +kernel
theorem dX6_luckyIn_90 : decode cX6_luckyIn 90 = .ok (.goto 4, 3) := by decide +kernel
theorem dX6_luckyIn_93 : decode cX6_luckyIn 93 = .ok (.iconst 0, 1) := by decide +kernel
theorem dX6_luckyIn_94 : decode cX6_luckyIn 94 = .ok (.ireturn, 1) := by decide +kernel
theorem dX6_luckyIn_95 : decode cX6_luckyIn 95 = .ok (.iinc 2 1, 3) := by decide +kernel
theorem dX6_luckyIn_98 : decode cX6_luckyIn 98 = .ok (.goto (-89), 3) := by decide +kernel
theorem dX6_luckyIn_101 : decode cX6_luckyIn 101 = .ok (.iconst 0, 1) := by decide +kernel
theorem dX6_luckyIn_102 : decode cX6_luckyIn 102 = .ok (.ireturn, 1) := by decide +kernel
theorem dX6_pick_0 : decode cX6_pick 0 = .ok (.aload_n 0, 1) := by decide +kernel
theorem dX6_pick_1 : decode cX6_pick 1 = .ok (.getfield 15, 3) := by decide +kernel
theorem dX6_pick_4 : decode cX6_pick 4 = .ok (.iload_n 1, 1) := by decide +kernel
theorem dX6_pick_5 : decode cX6_pick 5 = .ok (.iaload, 1) := by decide +kernel
theorem dX6_pick_6 : decode cX6_pick 6 = .ok (.istore_n 2, 1) := by decide +kernel
theorem dX6_pick_7 : decode cX6_pick 7 = .ok (.iconst 1, 1) := by decide +kernel
theorem dX6_pick_8 : decode cX6_pick 8 = .ok (.istore_n 3, 1) := by decide +kernel
theorem dX6_pick_9 : decode cX6_pick 9 = .ok (.iload_n 3, 1) := by decide +kernel
theorem dX6_pick_10 : decode cX6_pick 10 = .ok (.iconst 3, 1) := by decide +kernel
theorem dX6_pick_11 : decode cX6_pick 11 = .ok (.aload_n 0, 1) := by decide +kernel
theorem dX6_pick_12 : decode cX6_pick 12 = .ok (.getfield 37, 3) := by decide +kernel
theorem dX6_pick_15 : decode cX6_pick 15 = .ok (.getfield 92, 3) := by decide +kernel
theorem dX6_pick_18 : decode cX6_pick 18 = .ok (.iload_n 2, 1) := by decide +kernel
theorem dX6_pick_19 : decode cX6_pick 19 = .ok (.iaload, 1) := by decide +kernel
theorem dX6_pick_20 : decode cX6_pick 20 = .ok (.imul, 1) := by decide +kernel
theorem dX6_pick_21 : decode cX6_pick 21 = .ok (.if_icmp .gt 105, 3) := by decide +kernel
theorem dX6_pick_24 : decode cX6_pick 24 = .ok (.aload_n 0, 1) := by decide +kernel
theorem dX6_pick_25 : decode cX6_pick 25 = .ok (.getfield 37, 3) := by decide +kernel
theorem dX6_pick_28 : decode cX6_pick 28 = .ok (.getfield 95, 3) := by decide +kernel
theorem dX6_pick_31 : decode cX6_pick 31 = .ok (.iload_n 2, 1) := by decide +kernel
theorem dX6_pick_32 : decode cX6_pick 32 = .ok (.bipush 61, 2) := by decide +kernel
theorem dX6_pick_34 : decode cX6_pick 34 = .ok (.imul, 1) := by decide +kernel
theorem dX6_pick_35 : decode cX6_pick 35 = .ok (.iload_n 3, 1) := by decide +kernel
theorem dX6_pick_36 : decode cX6_pick 36 = .ok (.iadd, 1) := by decide +kernel
theorem dX6_pick_37 : decode cX6_pick 37 = .ok (.iaload, 1) := by decide +kernel
theorem dX6_pick_38 : decode cX6_pick 38 = .ok (.istore 4, 2) := by decide +kernel
theorem dX6_pick_40 : decode cX6_pick 40 = .ok (.iconst 1, 1) := by decide +kernel
theorem dX6_pick_41 : decode cX6_pick 41 = .ok (.istore 5, 2) := by decide +kernel
theorem dX6_pick_43 : decode cX6_pick 43 = .ok (.iconst 0, 1) := by decide +kernel
theorem dX6_pick_44 : decode cX6_pick 44 = .ok (.istore 6, 2) := by decide +kernel
theorem dX6_pick_46 : decode cX6_pick 46 = .ok (.iload 6, 2) := by decide +kernel
theorem dX6_pick_48 : decode cX6_pick 48 = .ok (.iload_n 1, 1) := by decide +kernel
theorem dX6_pick_49 : decode cX6_pick 49 = .ok (.if_icmp .ge 63, 3) := by decide +kernel
theorem dX6_pick_52 : decode cX6_pick 52 = .ok (.iload 5, 2) := by decide +kernel
theorem dX6_pick_54 : decode cX6_pick 54 = .ok (.ifCond .eq 58, 3) := by decide +kernel
theorem dX6_pick_57 : decode cX6_pick 57 = .ok (.aload_n 0, 1) := by decide +kernel
theorem dX6_pick_58 : decode cX6_pick 58 = .ok (.getfield 19, 3) := by decide +kernel
theorem dX6_pick_61 : decode cX6_pick 61 = .ok (.iload 6, 2) := by decide +kernel
theorem dX6_pick_63 : decode cX6_pick 63 = .ok (.iaload, 1) := by decide +kernel
theorem dX6_pick_64 : decode cX6_pick 64 = .ok (.iconst (-1), 1) := by decide +kernel
theorem dX6_pick_65 : decode cX6_pick 65 = .ok (.if_icmp .eq 34, 3) := by decide +kernel
theorem dX6_pick_68 : decode cX6_pick 68 = .ok (.aload_n 0, 1) := by decide +kernel
theorem dX6_pick_69 : decode cX6_pick 69 = .ok (.getfield 37, 3) := by decide +kernel
theorem dX6_pick_72 : decode cX6_pick 72 = .ok (.aload_n 0, 1) := by decide +kernel
theorem dX6_pick_73 : decode cX6_pick 73 = .ok (.getfield 15, 3) := by decide +kernel
theorem dX6_pick_76 : decode cX6_pick 76 = .ok (.iload 6, 2) := by decide +kernel
theorem dX6_pick_78 : decode cX6_pick 78 = .ok (.iaload, 1) := by decide +kernel
theorem dX6_pick_79 : decode cX6_pick 79 = .ok (.aload_n 0, 1) := by decide +kernel
theorem dX6_pick_80 : decode cX6_pick 80 = .ok (.getfield 19, 3) := by decide +kernel
theorem dX6_pick_83 : decode cX6_pick 83 = .ok (.iload 6, 2) := by decide +kernel
theorem dX6_pick_85 : decode cX6_pick 85 = .ok (.iaload, 1) := by decide +kernel
theorem dX6_pick_86 : decode cX6_pick 86 = .ok (.iload_n 2, 1) := by decide +kernel
theorem dX6_pick_87 : decode cX6_pick 87 = .ok (.lconst 1, 1) := by decide +kernel
theorem dX6_pick_88 : decode cX6_pick 88 = .ok (.iload 4, 2) := by decide +kernel
theorem dX6_pick_90 : decode cX6_pick 90 = .ok (.lshl, 1) := by decide +kernel
theorem dX6_pick_91 : decode cX6_pick 91 = .ok (.invokevirtual 105, 3) := by decide +kernel
theorem dX6_pick_94 : decode cX6_pick 94 = .ok (.lconst 0, 1) := by decide +kernel
theorem dX6_pick_95 : decode cX6_pick 95 = .ok (.lcmp, 1) := by decide +kernel
theorem dX6_pick_96 : decode cX6_pick 96 = .ok (.ifCond .eq 7, 3) := by decide +kernel
theorem dX6_pick_99 : decode cX6_pick 99 = .ok (.iconst 1, 1) := by decide +kernel
theorem dX6_pick_100 : decode cX6_pick 100 = .ok (.goto 4, 3) := by decide +kernel
theorem dX6_pick_103 : decode cX6_pick 103 = .ok (.iconst 0, 1) := by decide +kernel
theorem dX6_pick_104 : decode cX6_pick 104 = .ok (.istore 5, 2) := by decide +kernel
theorem dX6_pick_106 : decode cX6_pick 106 = .ok (.iinc 6 1, 3) := by decide +kernel
theorem dX6_pick_109 : decode cX6_pick 109 = .ok (.goto (-63), 3) := by decide +kernel
theorem dX6_pick_112 : decode cX6_pick 112 = .ok (.iload 5, 2) := by decide +kernel
theorem dX6_pick_114 : decode cX6_pick 114 = .ok (.ifCond .eq 6, 3) := by decide +kernel
theorem dX6_pick_117 : decode cX6_pick 117 = .ok (.iload 4, 2) := by decide +kernel
theorem dX6_pick_119 : decode cX6_pick 119 = .ok (.ireturn, 1) := by decide +kernel
theorem dX6_pick_120 : decode cX6_pick 120 = .ok (.iinc 3 1, 3) := by decide +kernel
theorem dX6_pick_123 : decode cX6_pick 123 = .ok (.goto (-114), 3) := by decide +kernel
theorem dX6_pick_126 : decode cX6_pick 126 = .ok (.iconst (-1), 1) := by decide +kernel
theorem dX6_pick_127 : decode cX6_pick 127 = .ok (.ireturn, 1) := by decide +kernel
theorem dX6_price_0 : decode cX6_price 0 = .ok (.aload_n 0, 1) := by decide +kernel
theorem dX6_price_1 : decode cX6_price 1 = .ok (.getfield 37, 3) := by decide +kernel
theorem dX6_price_4 : decode cX6_price 4 = .ok (.iload_n 1, 1) := by decide +kernel
theorem dX6_price_5 : decode cX6_price 5 = .ok (.iload_n 2, 1) := by decide +kernel
theorem dX6_price_6 : decode cX6_price 6 = .ok (.invokevirtual 109, 3) := by decide +kernel
theorem dX6_price_9 : decode cX6_price 9 = .ok (.aload_n 0, 1) := by decide +kernel
theorem dX6_price_10 : decode cX6_price 10 = .ok (.getfield 55, 3) := by decide +kernel
theorem dX6_price_13 : decode cX6_price 13 = .ok (.ifCond .eq 13, 3) := by decide +kernel
theorem dX6_price_16 : decode cX6_price 16 = .ok (.iload_n 2, 1) := by decide +kernel
theorem dX6_price_17 : decode cX6_price 17 = .ok (.ifCond .eq 9, 3) := by decide +kernel
theorem dX6_price_20 : decode cX6_price 20 = .ok (.sipush 10000, 3) := by decide +kernel
theorem dX6_price_23 : decode cX6_price 23 = .ok (.goto 4, 3) := by decide +kernel
theorem dX6_price_26 : decode cX6_price 26 = .ok (.iconst 0, 1) := by decide +kernel
theorem dX6_price_27 : decode cX6_price 27 = .ok (.iadd, 1) := by decide +kernel
theorem dX6_price_28 : decode cX6_price 28 = .ok (.ireturn, 1) := by decide +kernel
theorem dX6_solve_0 : decode cX6_solve 0 = .ok (.aload_n 0, 1) := by decide +kernel
theorem dX6_solve_1 : decode cX6_solve 1 = .ok (.getfield 37, 3) := by decide +kernel
theorem dX6_solve_4 : decode cX6_solve 4 = .ok (.invokevirtual 41, 3) := by decide +kernel
theorem dX6_solve_7 : decode cX6_solve 7 = .ok (.iload_n 2, 1) := by decide +kernel
theorem dX6_solve_8 : decode cX6_solve 8 = .ok (.ifCond .ne 30, 3) := by decide +kernel
theorem dX6_solve_11 : decode cX6_solve 11 = .ok (.iload_n 1, 1) := by decide +kernel
theorem dX6_solve_12 : decode cX6_solve 12 = .ok (.aload_n 0, 1) := by decide +kernel
theorem dX6_solve_13 : decode cX6_solve 13 = .ok (.getfield 25, 3) := by decide +kernel
theorem dX6_solve_16 : decode cX6_solve 16 = .ok (.if_icmp .ne 22, 3) := by decide +kernel
theorem dX6_solve_19 : decode cX6_solve 19 = .ok (.aload_n 0, 1) := by decide +kernel
theorem dX6_solve_20 : decode cX6_solve 20 = .ok (.getfield 46, 3) := by decide +kernel
theorem dX6_solve_23 : decode cX6_solve 23 = .ok (.aload_n 0, 1) := by decide +kernel
theorem dX6_solve_24 : decode cX6_solve 24 = .ok (.getfield 37, 3) := by decide +kernel
theorem dX6_solve_27 : decode cX6_solve 27 = .ok (.getfield 49, 3) := by decide +kernel
theorem dX6_solve_30 : decode cX6_solve 30 = .ok (.if_icmp .ne 8, 3) := by decide +kernel
theorem dX6_solve_33 : decode cX6_solve 33 = .ok (.aload_n 0, 1) := by decide +kernel
theorem dX6_solve_34 : decode cX6_solve 34 = .ok (.getfield 52, 3) := by decide +kernel
theorem dX6_solve_37 : decode cX6_solve 37 = .ok (.ireturn, 1) := by decide +kernel
theorem dX6_solve_38 : decode cX6_solve 38 = .ok (.aload_n 0, 1) := by decide +kernel
theorem dX6_solve_39 : decode cX6_solve 39 = .ok (.iload_n 2, 1) := by decide +kernel
theorem dX6_solve_40 : decode cX6_solve 40 = .ok (.putfield 55, 3) := by decide +kernel
theorem dX6_solve_43 : decode cX6_solve 43 = .ok (.aload_n 0, 1) := by decide +kernel
theorem dX6_solve_44 : decode cX6_solve 44 = .ok (.iconst 0, 1) := by decide +kernel
theorem dX6_solve_45 : decode cX6_solve 45 = .ok (.putfield 59, 3) := by decide +kernel
theorem dX6_solve_48 : decode cX6_solve 48 = .ok (.iconst 0, 1) := by decide +kernel
theorem dX6_solve_49 : decode cX6_solve 49 = .ok (.istore_n 3, 1) := by decide +kernel
theorem dX6_solve_50 : decode cX6_solve 50 = .ok (.iload_n 3, 1) := by decide +kernel
theorem dX6_solve_51 : decode cX6_solve 51 = .ok (.aload_n 0, 1) := by decide +kernel
theorem dX6_solve_52 : decode cX6_solve 52 = .ok (.getfield 29, 3) := by decide +kernel
theorem dX6_solve_55 : decode cX6_solve 55 = .ok (.getfield 62, 3) := by decide +kernel
theorem dX6_solve_58 : decode cX6_solve 58 = .ok (.iconst 2, 1) := by decide +kernel
theorem dX6_solve_59 : decode cX6_solve 59 = .ok (.iaload, 1) := by decide +kernel
theorem dX6_solve_60 : decode cX6_solve 60 = .ok (.if_icmp .ge 73, 3) := by decide +kernel
theorem dX6_solve_63 : decode cX6_solve 63 = .ok (.iload_n 1, 1) := by decide +kernel
theorem dX6_solve_64 : decode cX6_solve 64 = .ok (.iload_n 3, 1) := by decide +kernel
theorem dX6_solve_65 : decode cX6_solve 65 = .ok (.ishr, 1) := by decide +kernel
theorem dX6_solve_66 : decode cX6_solve 66 = .ok (.iconst 1, 1) := by decide +kernel
theorem dX6_solve_67 : decode cX6_solve 67 = .ok (.iand, 1) := by decide +kernel
theorem dX6_solve_68 : decode cX6_solve 68 = .ok (.ifCond .eq 59, 3) := by decide +kernel
theorem dX6_solve_71 : decode cX6_solve 71 = .ok (.iload_n 2, 1) := by decide +kernel
theorem dX6_solve_72 : decode cX6_solve 72 = .ok (.ifCond .eq 18, 3) := by decide +kernel
theorem dX6_solve_75 : decode cX6_solve 75 = .ok (.aload_n 0, 1) := by decide +kernel
theorem dX6_solve_76 : decode cX6_solve 76 = .ok (.getfield 33, 3) := by decide +kernel
theorem dX6_solve_79 : decode cX6_solve 79 = .ok (.iload_n 3, 1) := by decide +kernel
theorem dX6_solve_80 : decode cX6_solve 80 = .ok (.invokevirtual 67, 3) := by decide +kernel
theorem dX6_solve_83 : decode cX6_solve 83 = .ok (.ifCond .ne 7, 3) := by decide +kernel
theorem dX6_solve_86 : decode cX6_solve 86 = .ok (.lconst 1, 1) := by decide +kernel
theorem dX6_solve_87 : decode cX6_solve 87 = .ok (.goto 4, 3) := by decide +kernel
theorem dX6_solve_90 : decode cX6_solve 90 = .ok (.lconst 0, 1) := by decide +kernel
theorem dX6_solve_91 : decode cX6_solve 91 = .ok (.lstore 4, 2) := by decide +kernel
theorem dX6_solve_93 : decode cX6_solve 93 = .ok (.aload_n 0, 1) := by decide +kernel
theorem dX6_solve_94 : decode cX6_solve 94 = .ok (.getfield 9, 3) := by decide +kernel
theorem dX6_solve_97 : decode cX6_solve 97 = .ok (.iload_n 3, 1) := by decide +kernel
theorem dX6_solve_98 : decode cX6_solve 98 = .ok (.aload_n 0, 1) := by decide +kernel
theorem dX6_solve_99 : decode cX6_solve 99 = .ok (.getfield 37, 3) := by decide +kernel
theorem dX6_solve_102 : decode cX6_solve 102 = .ok (.iload_n 3, 1) := by decide +kernel
theorem dX6_solve_103 : decode cX6_solve 103 = .ok (.invokevirtual 73, 3) := by decide +kernel
theorem dX6_solve_106 : decode cX6_solve 106 = .ok (.lload 4, 2) := by decide +kernel
theorem dX6_solve_108 : decode cX6_solve 108 = .ok (.lor, 1) := by decide +kernel
theorem dX6_solve_109 : decode cX6_solve 109 = .ok (.lastore, 1) := by decide +kernel
theorem dX6_solve_110 : decode cX6_solve 110 = .ok (.aload_n 0, 1) := by decide +kernel
theorem dX6_solve_111 : decode cX6_solve 111 = .ok (.getfield 15, 3) := by decide +kernel
theorem dX6_solve_114 : decode cX6_solve 114 = .ok (.aload_n 0, 1) := by decide +kernel
theorem dX6_solve_115 : decode cX6_solve 115 = .ok (.dup, 1) := by decide +kernel
theorem dX6_solve_116 : decode cX6_solve 116 = .ok (.getfield 59, 3) := by decide +kernel
theorem dX6_solve_119 : decode cX6_solve 119 = .ok (.dup_x1, 1) := by decide +kernel
theorem dX6_solve_120 : decode cX6_solve 120 = .ok (.iconst 1, 1) := by decide +kernel
theorem dX6_solve_121 : decode cX6_solve 121 = .ok (.iadd, 1) := by decide +kernel
theorem dX6_solve_122 : decode cX6_solve 122 = .ok (.putfield 59, 3) := by decide +kernel
theorem dX6_solve_125 : decode cX6_solve 125 = .ok (.iload_n 3, 1) := by decide +kernel
theorem dX6_solve_126 : decode cX6_solve 126 = .ok (.iastore, 1) := by decide +kernel
theorem dX6_solve_127 : decode cX6_solve 127 = .ok (.iinc 3 1, 3) := by decide +kernel
theorem dX6_solve_130 : decode cX6_solve 130 = .ok (.goto (-80), 3) := by decide +kernel
theorem dX6_solve_133 : decode cX6_solve 133 = .ok (.aload_n 0, 1) := by decide +kernel
theorem dX6_solve_134 : decode cX6_solve 134 = .ok (.ldc 77, 2) := by decide +kernel
theorem dX6_solve_136 : decode cX6_solve 136 = .ok (.putfield 78, 3) := by decide +kernel
theorem dX6_solve_139 : decode cX6_solve 139 = .ok (.aload_n 0, 1) := by decide +kernel
theorem dX6_solve_140 : decode cX6_solve 140 = .ok (.iconst 0, 1) := by decide +kernel
theorem dX6_solve_141 : decode cX6_solve 141 = .ok (.putfield 81, 3) := by decide +kernel
theorem dX6_solve_144 : decode cX6_solve 144 = .ok (.aload_n 0, 1) := by decide +kernel
theorem dX6_solve_145 : decode cX6_solve 145 = .ok (.iconst 0, 1) := by decide +kernel
theorem dX6_solve_146 : decode cX6_solve 146 = .ok (.iconst 0, 1) := by decide +kernel
theorem dX6_solve_147 : decode cX6_solve 147 = .ok (.invokevirtual 84, 3) := by decide +kernel
theorem dX6_solve_150 : decode cX6_solve 150 = .ok (.aload_n 0, 1) := by decide +kernel
theorem dX6_solve_151 : decode cX6_solve 151 = .ok (.getfield 78, 3) := by decide +kernel
theorem dX6_solve_154 : decode cX6_solve 154 = .ok (.istore_n 3, 1) := by decide +kernel
theorem dX6_solve_155 : decode cX6_solve 155 = .ok (.iload_n 3, 1) := by decide +kernel
theorem dX6_solve_156 : decode cX6_solve 156 = .ok (.ldc 77, 2) := by decide +kernel
theorem dX6_solve_158 : decode cX6_solve 158 = .ok (.if_icmp .ge 21, 3) := by decide +kernel
theorem dX6_solve_161 : decode cX6_solve 161 = .ok (.aload_n 0, 1) := by decide +kernel
theorem dX6_solve_162 : decode cX6_solve 162 = .ok (.iload_n 3, 1) := by decide +kernel
theorem dX6_solve_163 : decode cX6_solve 163 = .ok (.iconst 1, 1) := by decide +kernel
theorem dX6_solve_164 : decode cX6_solve 164 = .ok (.iadd, 1) := by decide +kernel
theorem dX6_solve_165 : decode cX6_solve 165 = .ok (.putfield 78, 3) := by decide +kernel
theorem dX6_solve_168 : decode cX6_solve 168 = .ok (.aload_n 0, 1) := by decide +kernel
theorem dX6_solve_169 : decode cX6_solve 169 = .ok (.iconst 1, 1) := by decide +kernel
theorem dX6_solve_170 : decode cX6_solve 170 = .ok (.putfield 81, 3) := by decide +kernel
theorem dX6_solve_173 : decode cX6_solve 173 = .ok (.aload_n 0, 1) := by decide +kernel
theorem dX6_solve_174 : decode cX6_solve 174 = .ok (.iconst 0, 1) := by decide +kernel
theorem dX6_solve_175 : decode cX6_solve 175 = .ok (.iconst 0, 1) := by decide +kernel
theorem dX6_solve_176 : decode cX6_solve 176 = .ok (.invokevirtual 84, 3) := by decide +kernel
theorem dX6_solve_179 : decode cX6_solve 179 = .ok (.aload_n 0, 1) := by decide +kernel
theorem dX6_solve_180 : decode cX6_solve 180 = .ok (.iload_n 2, 1) := by decide +kernel
theorem dX6_solve_181 : decode cX6_solve 181 = .ok (.ifCond .eq 7, 3) := by decide +kernel
theorem dX6_solve_184 : decode cX6_solve 184 = .ok (.iconst (-1), 1) := by decide +kernel
theorem dX6_solve_185 : decode cX6_solve 185 = .ok (.goto 4, 3) := by decide +kernel
theorem dX6_solve_188 : decode cX6_solve 188 = .ok (.iload_n 1, 1) := by decide +kernel
theorem dX6_solve_189 : decode cX6_solve 189 = .ok (.putfield 25, 3) := by decide +kernel
theorem dX6_solve_192 : decode cX6_solve 192 = .ok (.aload_n 0, 1) := by decide +kernel
theorem dX6_solve_193 : decode cX6_solve 193 = .ok (.aload_n 0, 1) := by decide +kernel
theorem dX6_solve_194 : decode cX6_solve 194 = .ok (.getfield 37, 3) := by decide +kernel
theorem dX6_solve_197 : decode cX6_solve 197 = .ok (.getfield 49, 3) := by decide +kernel
theorem dX6_solve_200 : decode cX6_solve 200 = .ok (.putfield 46, 3) := by decide +kernel
theorem dX6_solve_203 : decode cX6_solve 203 = .ok (.aload_n 0, 1) := by decide +kernel
theorem dX6_solve_204 : decode cX6_solve 204 = .ok (.iload_n 3, 1) := by decide +kernel
theorem dX6_solve_205 : decode cX6_solve 205 = .ok (.ldc 77, 2) := by decide +kernel
theorem dX6_solve_207 : decode cX6_solve 207 = .ok (.if_icmp .ge 7, 3) := by decide +kernel
theorem dX6_solve_210 : decode cX6_solve 210 = .ok (.iload_n 3, 1) := by decide +kernel
theorem dX6_solve_211 : decode cX6_solve 211 = .ok (.goto 4, 3) := by decide +kernel
theorem dX6_solve_214 : decode cX6_solve 214 = .ok (.iconst (-1), 1) := by decide +kernel
theorem dX6_solve_215 : decode cX6_solve 215 = .ok (.putfield 52, 3) := by decide +kernel
theorem dX6_solve_218 : decode cX6_solve 218 = .ok (.aload_n 0, 1) := by decide +kernel
theorem dX6_solve_219 : decode cX6_solve 219 = .ok (.getfield 52, 3) := by decide +kernel
theorem dX6_solve_222 : decode cX6_solve 222 = .ok (.ireturn, 1) := by decide +kernel
theorem dX6_takeTurn_0 : decode cX6_takeTurn 0 = .ok (.aload_n 0, 1) := by decide +kernel
theorem dX6_takeTurn_1 : decode cX6_takeTurn 1 = .ok (.getfield 37, 3) := by decide +kernel
theorem dX6_takeTurn_4 : decode cX6_takeTurn 4 = .ok (.invokevirtual 41, 3) := by decide +kernel
theorem dX6_takeTurn_7 : decode cX6_takeTurn 7 = .ok (.aload_n 0, 1) := by decide +kernel
theorem dX6_takeTurn_8 : decode cX6_takeTurn 8 = .ok (.getfield 33, 3) := by decide +kernel
theorem dX6_takeTurn_11 : decode cX6_takeTurn 11 = .ok (.getfield 135, 3) := by decide +kernel
theorem dX6_takeTurn_14 : decode cX6_takeTurn 14 = .ok (.iload_n 1, 1) := by decide +kernel
theorem dX6_takeTurn_15 : decode cX6_takeTurn 15 = .ok (.aaload, 1) := by decide +kernel
theorem dX6_takeTurn_16 : decode cX6_takeTurn 16 = .ok (.astore_n 2, 1) := by decide +kernel
theorem dX6_takeTurn_17 : decode cX6_takeTurn 17 = .ok (.iconst (-1), 1) := by decide +kernel
theorem dX6_takeTurn_18 : decode cX6_takeTurn 18 = .ok (.istore_n 3, 1) := by decide +kernel
theorem dX6_takeTurn_19 : decode cX6_takeTurn 19 = .ok (.iconst 1, 1) := by decide +kernel
theorem dX6_takeTurn_20 : decode cX6_takeTurn 20 = .ok (.istore 4, 2) := by decide +kernel
theorem dX6_takeTurn_22 : decode cX6_takeTurn 22 = .ok (.iload 4, 2) := by decide +kernel
theorem dX6_takeTurn_24 : decode cX6_takeTurn 24 = .ok (.iconst 3, 1) := by decide +kernel
theorem dX6_takeTurn_25 : decode cX6_takeTurn 25 = .ok (.aload_n 0, 1) := by decide +kernel
theorem dX6_takeTurn_26 : decode cX6_takeTurn 26 = .ok (.getfield 37, 3) := by decide +kernel
theorem dX6_takeTurn_29 : decode cX6_takeTurn 29 = .ok (.getfield 92, 3) := by decide +kernel
theorem dX6_takeTurn_32 : decode cX6_takeTurn 32 = .ok (.iload_n 1, 1) := by decide +kernel
theorem dX6_takeTurn_33 : decode cX6_takeTurn 33 = .ok (.iaload, 1) := by decide +kernel
theorem dX6_takeTurn_34 : decode cX6_takeTurn 34 = .ok (.imul, 1) := by decide +kernel
theorem dX6_takeTurn_35 : decode cX6_takeTurn 35 = .ok (.if_icmp .gt 44, 3) := by decide +kernel
theorem dX6_takeTurn_38 : decode cX6_takeTurn 38 = .ok (.iload_n 3, 1) := by decide +kernel
theorem dX6_takeTurn_39 : decode cX6_takeTurn 39 = .ok (.iconst (-1), 1) := by decide +kernel
theorem dX6_takeTurn_40 : decode cX6_takeTurn 40 = .ok (.if_icmp .ne 39, 3) := by decide +kernel
theorem dX6_takeTurn_43 : decode cX6_takeTurn 43 = .ok (.aload_n 0, 1) := by decide +kernel
theorem dX6_takeTurn_44 : decode cX6_takeTurn 44 = .ok (.getfield 37, 3) := by decide +kernel
theorem dX6_takeTurn_47 : decode cX6_takeTurn 47 = .ok (.getfield 95, 3) := by decide +kernel
theorem dX6_takeTurn_50 : decode cX6_takeTurn 50 = .ok (.iload_n 1, 1) := by decide +kernel
theorem dX6_takeTurn_51 : decode cX6_takeTurn 51 = .ok (.bipush 61, 2) := by decide +kernel
theorem dX6_takeTurn_53 : decode cX6_takeTurn 53 = .ok (.imul, 1) := by decide +kernel
theorem dX6_takeTurn_54 : decode cX6_takeTurn 54 = .ok (.iload 4, 2) := by decide +kernel
theorem dX6_takeTurn_56 : decode cX6_takeTurn 56 = .ok (.iadd, 1) := by decide +kernel
theorem dX6_takeTurn_57 : decode cX6_takeTurn 57 = .ok (.iaload, 1) := by decide +kernel
theorem dX6_takeTurn_58 : decode cX6_takeTurn 58 = .ok (.istore 5, 2) := by decide +kernel
theorem dX6_takeTurn_60 : decode cX6_takeTurn 60 = .ok (.aload_n 0, 1) := by decide +kernel
theorem dX6_takeTurn_61 : decode cX6_takeTurn 61 = .ok (.iload_n 1, 1) := by decide +kernel
theorem dX6_takeTurn_62 : decode cX6_takeTurn 62 = .ok (.iload 5, 2) := by decide +kernel
theorem dX6_takeTurn_64 : decode cX6_takeTurn 64 = .ok (.invokevirtual 139, 3) := by decide +kernel
theorem dX6_takeTurn_67 : decode cX6_takeTurn 67 = .ok (.ifCond .eq 6, 3) := by decide +kernel
theorem dX6_takeTurn_70 : decode cX6_takeTurn 70 = .ok (.iload 5, 2) := by decide +kernel
theorem dX6_takeTurn_72 : decode cX6_takeTurn 72 = .ok (.istore_n 3, 1) := by decide +kernel
theorem dX6_takeTurn_73 : decode cX6_takeTurn 73 = .ok (.iinc 4 1, 3) := by decide +kernel
theorem dX6_takeTurn_76 : decode cX6_takeTurn 76 = .ok (.goto (-54), 3) := by decide +kernel
theorem dX6_takeTurn_79 : decode cX6_takeTurn 79 = .ok (.iload_n 3, 1) := by decide +kernel
theorem dX6_takeTurn_80 : decode cX6_takeTurn 80 = .ok (.iconst (-1), 1) := by decide +kernel
theorem dX6_takeTurn_81 : decode cX6_takeTurn 81 = .ok (.if_icmp .eq 50, 3) := by decide +kernel
theorem dX6_takeTurn_84 : decode cX6_takeTurn 84 = .ok (.aload_n 0, 1) := by decide +kernel
theorem dX6_takeTurn_85 : decode cX6_takeTurn 85 = .ok (.getfield 37, 3) := by decide +kernel
theorem dX6_takeTurn_88 : decode cX6_takeTurn 88 = .ok (.iload_n 1, 1) := by decide +kernel
theorem dX6_takeTurn_89 : decode cX6_takeTurn 89 = .ok (.iload_n 3, 1) := by decide +kernel
theorem dX6_takeTurn_90 : decode cX6_takeTurn 90 = .ok (.invokevirtual 109, 3) := by decide +kernel
theorem dX6_takeTurn_93 : decode cX6_takeTurn 93 = .ok (.aload_n 2, 1) := by decide +kernel
theorem dX6_takeTurn_94 : decode cX6_takeTurn 94 = .ok (.getfield 143, 3) := by decide +kernel
theorem dX6_takeTurn_97 : decode cX6_takeTurn 97 = .ok (.if_icmp .lt 30, 3) := by decide +kernel
theorem dX6_takeTurn_100 : decode cX6_takeTurn 100 = .ok (.aload_n 2, 1) := by decide +kernel
theorem dX6_takeTurn_101 : decode cX6_takeTurn 101 = .ok (.getfield 148, 3) := by decide +kernel
theorem dX6_takeTurn_104 : decode cX6_takeTurn 104 = .ok (.ifCond .eq 23, 3) := by decide +kernel
theorem dX6_takeTurn_107 : decode cX6_takeTurn 107 = .ok (.aload_n 0, 1) := by decide +kernel
theorem dX6_takeTurn_108 : decode cX6_takeTurn 108 = .ok (.getfield 33, 3) := by decide +kernel
theorem dX6_takeTurn_111 : decode cX6_takeTurn 111 = .ok (.iload_n 1, 1) := by decide +kernel
theorem dX6_takeTurn_112 : decode cX6_takeTurn 112 = .ok (.invokevirtual 67, 3) := by decide +kernel
theorem dX6_takeTurn_115 : decode cX6_takeTurn 115 = .ok (.ifCond .ne 12, 3) := by decide +kernel
theorem dX6_takeTurn_118 : decode cX6_takeTurn 118 = .ok (.aload_n 0, 1) := by decide +kernel
theorem dX6_takeTurn_119 : decode cX6_takeTurn 119 = .ok (.iload_n 1, 1) := by decide +kernel
theorem dX6_takeTurn_120 : decode cX6_takeTurn 120 = .ok (.iconst 0, 1) := by decide +kernel
theorem dX6_takeTurn_121 : decode cX6_takeTurn 121 = .ok (.invokevirtual 139, 3) := by decide +kernel
theorem dX6_takeTurn_124 : decode cX6_takeTurn 124 = .ok (.ifCond .ne 7, 3) := by decide +kernel
theorem dX6_takeTurn_127 : decode cX6_takeTurn 127 = .ok (.iconst 1, 1) := by decide +kernel
theorem dX6_takeTurn_128 : decode cX6_takeTurn 128 = .ok (.goto 4, 3) := by decide +kernel
theorem dX6_takeTurn_131 : decode cX6_takeTurn 131 = .ok (.iconst 0, 1) := by decide +kernel
theorem dX6_takeTurn_132 : decode cX6_takeTurn 132 = .ok (.istore 4, 2) := by decide +kernel
theorem dX6_takeTurn_134 : decode cX6_takeTurn 134 = .ok (.iload 4, 2) := by decide +kernel
theorem dX6_takeTurn_136 : decode cX6_takeTurn 136 = .ok (.ifCond .eq 9, 3) := by decide +kernel
theorem dX6_takeTurn_139 : decode cX6_takeTurn 139 = .ok (.aload_n 0, 1) := by decide +kernel
theorem dX6_takeTurn_140 : decode cX6_takeTurn 140 = .ok (.iload_n 1, 1) := by decide +kernel
theorem dX6_takeTurn_141 : decode cX6_takeTurn 141 = .ok (.iload_n 3, 1) := by decide +kernel
theorem dX6_takeTurn_142 : decode cX6_takeTurn 142 = .ok (.invokevirtual 121, 3) := by decide +kernel
theorem dX6_takeTurn_145 : decode cX6_takeTurn 145 = .ok (.iload 4, 2) := by decide +kernel
theorem dX6_takeTurn_147 : decode cX6_takeTurn 147 = .ok (.ireturn, 1) := by decide +kernel
theorem dX7_advance_0 : decode cX7_advance 0 = .ok (.aload_n 0, 1) := by decide +kernel
theorem dX7_advance_1 : decode cX7_advance 1 = .ok (.getfield 45, 3) := by decide +kernel
theorem dX7_advance_4 : decode cX7_advance 4 = .ok (.bipush 28, 2) := by decide +kernel
theorem dX7_advance_6 : decode cX7_advance 6 = .ok (.if_icmp .gt 7, 3) := by decide +kernel
theorem dX7_advance_9 : decode cX7_advance 9 = .ok (.iconst 1, 1) := by decide +kernel
theorem dX7_advance_10 : decode cX7_advance 10 = .ok (.goto 4, 3) := by decide +kernel
theorem dX7_advance_13 : decode cX7_advance 13 = .ok (.iconst 0, 1) := by decide +kernel
theorem dX7_advance_14 : decode cX7_advance 14 = .ok (.istore_n 1, 1) := by decide +kernel
theorem dX7_advance_15 : decode cX7_advance 15 = .ok (.aload_n 0, 1) := by decide +kernel
theorem dX7_advance_16 : decode cX7_advance 16 = .ok (.getfield 42, 3) := by decide +kernel
theorem dX7_advance_19 : decode cX7_advance 19 = .ok (.istore_n 2, 1) := by decide +kernel
theorem dX7_advance_20 : decode cX7_advance 20 = .ok (.iload_n 1, 1) := by decide +kernel
theorem dX7_advance_21 : decode cX7_advance 21 = .ok (.ifCond .eq 13, 3) := by decide +kernel
theorem dX7_advance_24 : decode cX7_advance 24 = .ok (.aload_n 0, 1) := by decide +kernel
theorem dX7_advance_25 : decode cX7_advance 25 = .ok (.dup, 1) := by decide +kernel
theorem dX7_advance_26 : decode cX7_advance 26 = .ok (.getfield 76, 3) := by decide +kernel
theorem dX7_advance_29 : decode cX7_advance 29 = .ok (.iconst 1, 1) := by decide +kernel
theorem dX7_advance_30 : decode cX7_advance 30 = .ok (.iadd, 1) := by decide +kernel
theorem dX7_advance_31 : decode cX7_advance 31 = .ok (.putfield 76, 3) := by decide +kernel
theorem dX7_advance_34 : decode cX7_advance 34 = .ok (.aload_n 0, 1) := by decide +kernel
theorem dX7_advance_35 : decode cX7_advance 35 = .ok (.aload_n 0, 1) := by decide +kernel
theorem dX7_advance_36 : decode cX7_advance 36 = .ok (.getfield 18, 3) := by decide +kernel
theorem dX7_advance_39 : decode cX7_advance 39 = .ok (.aload_n 0, 1) := by decide +kernel
theorem dX7_advance_40 : decode cX7_advance 40 = .ok (.getfield 38, 3) := by decide +kernel
theorem dX7_advance_43 : decode cX7_advance 43 = .ok (.iaload, 1) := by decide +kernel
theorem dX7_advance_44 : decode cX7_advance 44 = .ok (.putfield 45, 3) := by decide +kernel
theorem dX7_advance_47 : decode cX7_advance 47 = .ok (.aload_n 0, 1) := by decide +kernel
theorem dX7_advance_48 : decode cX7_advance 48 = .ok (.aload_n 0, 1) := by decide +kernel
theorem dX7_advance_49 : decode cX7_advance 49 = .ok (.getfield 9, 3) := by decide +kernel
theorem dX7_advance_52 : decode cX7_advance 52 = .ok (.aload_n 0, 1) := by decide +kernel
theorem dX7_advance_53 : decode cX7_advance 53 = .ok (.getfield 38, 3) := by decide +kernel
theorem dX7_advance_56 : decode cX7_advance 56 = .ok (.iaload, 1) := by decide +kernel
theorem dX7_advance_57 : decode cX7_advance 57 = .ok (.putfield 79, 3) := by decide +kernel
theorem dX7_advance_60 : decode cX7_advance 60 = .ok (.aload_n 0, 1) := by decide +kernel
theorem dX7_advance_61 : decode cX7_advance 61 = .ok (.aload_n 0, 1) := by decide +kernel
theorem dX7_advance_62 : decode cX7_advance 62 = .ok (.getfield 15, 3) := by decide +kernel
theorem dX7_advance_65 : decode cX7_advance 65 = .ok (.aload_n 0, 1) := by decide +kernel
theorem dX7_advance_66 : decode cX7_advance 66 = .ok (.getfield 38, 3) := by decide +kernel
theorem dX7_advance_69 : decode cX7_advance 69 = .ok (.iaload, 1) := by decide +kernel
theorem dX7_advance_70 : decode cX7_advance 70 = .ok (.putfield 42, 3) := by decide +kernel
theorem dX7_advance_73 : decode cX7_advance 73 = .ok (.aload_n 0, 1) := by decide +kernel
theorem dX7_advance_74 : decode cX7_advance 74 = .ok (.iload_n 1, 1) := by decide +kernel
theorem dX7_advance_75 : decode cX7_advance 75 = .ok (.ifCond .eq 24, 3) := by decide +kernel
theorem dX7_advance_78 : decode cX7_advance 78 = .ok (.aload_n 0, 1) := by decide +kernel
theorem dX7_advance_79 : decode cX7_advance 79 = .ok (.getfield 79, 3) := by decide +kernel
theorem dX7_advance_82 : decode cX7_advance 82 = .ok (.iload_n 2, 1) := by decide +kernel
theorem dX7_advance_83 : decode cX7_advance 83 = .ok (.if_icmp .ne 16, 3) := by decide +kernel
theorem dX7_advance_86 : decode cX7_advance 86 = .ok (.aload_n 0, 1) := by decide +kernel
theorem dX7_advance_87 : decode cX7_advance 87 = .ok (.getfield 45, 3) := by decide +kernel
theorem dX7_advance_90 : decode cX7_advance 90 = .ok (.bipush 28, 2) := by decide +kernel
theorem dX7_advance_92 : decode cX7_advance 92 = .ok (.if_icmp .gt 7, 3) := by decide +kernel
theorem dX7_advance_95 : decode cX7_advance 95 = .ok (.iconst 1, 1) := by decide +kernel
theorem dX7_advance_96 : decode cX7_advance 96 = .ok (.goto 4, 3) := by decide +kernel
theorem dX7_advance_99 : decode cX7_advance 99 = .ok (.iconst 0, 1) := by decide +kernel
theorem dX7_advance_100 : decode cX7_advance 100 = .ok (.putfield 82, 3) := by decide +kernel
theorem dX7_advance_103 : decode cX7_advance 103 = .ok (.aload_n 0, 1) := by decide +kernel
theorem dX7_advance_104 : decode cX7_advance 104 = .ok (.getfield 45, 3) := by decide +kernel
theorem dX7_advance_107 : decode cX7_advance 107 = .ok (.bipush 30, 2) := by decide +kernel
theorem dX7_advance_109 : decode cX7_advance 109 = .ok (.if_icmp .eq 13, 3) := by decide +kernel
theorem dX7_advance_112 : decode cX7_advance 112 = .ok (.aload_n 0, 1) := by decide +kernel
theorem dX7_advance_113 : decode cX7_advance 113 = .ok (.dup, 1) := by decide +kernel
theorem dX7_advance_114 : decode cX7_advance 114 = .ok (.getfield 38, 3) := by decide +kernel
theorem dX7_advance_117 : decode cX7_advance 117 = .ok (.iconst 1, 1) := by decide +kernel
theorem dX7_advance_118 : decode cX7_advance 118 = .ok (.iadd, 1) := by decide +kernel
theorem dX7_advance_119 : decode cX7_advance 119 = .ok (.putfield 38, 3) := by decide +kernel
theorem dX7_advance_122 : decode cX7_advance 122 = .ok (.return_, 1) := by decide +kernel
